def f_X2_isPoint (pt : Nat → Int32) (a1 : Int32) (a2 : Int32) : Option Int32 :=
  (f_X2_isFigure a1).bind fun r1 =>
  if r1 = (0) then
  (some (0 : Int32))
  else
  (if bin a1 6 = true then
  (f_X2_in a2 (0 : Int32) ((pt a1.toNatClampNeg) - (1 : Int32))).bind fun r4 =>
  if r4 = (0) then
  (some (0 : Int32))
  else
  (some (1 : Int32))
  else none)
set_option maxHeartbeats 4000000 in
set_option maxRecDepth 100000 in
theorem k_X2_isPoint (l : Launch) (D : va_G) (cI cF : ClassId) (m0 : Nat) (m1 : Nat) (m2 : Nat) (m3 : Nat) (m4 : Nat) (m5 : Nat) (pt : Nat → Int32) (px : Nat → Int32) (py : Nat → Int32) (ro : Int32) (an : Int32) (te : Int32) (fx : Int32) (fy : Int32) (ar : Int32) (be : Int32) (ma : Int32) (nx : Nat → Int32) (ny : Nat → Int32) (a1 : Int32) (a2 : Int32) (r0 : Int32) (h : f_X2_isPoint pt a1 a2 = some r0) : Met l yX2_isPoint wsX2_isPoint ({ frames := 2, cells := 0, slots := 0, locals := 42 }) (va_Pc [.ref m0, .int a1, .int a2] (fun U => wK D cI cF (moW cI m0 m1 m2 m3 m4 m5 pt px py ro an te fx fy ar be ma nx ny) U)) (qS (.int r0)) 0 0 (fun _ => False) := by
  refine Met.ofW (cc := cX2_isPoint) (maxL := 3) (ret := (some .boolean)) (by decide) rfl ?_
  intro p e s m args below meth c s₁ B hml hv
  obtain ⟨rfl, hK, hP⟩ := hv
  have hx := B.exec
  have hb := B.bytes
  have hr := B.returns
  have hts := atoms_spec (ws := wsX2_isPoint) B.pre
  have hown : s.vm.findClass RX2 = some m.cls := findClass_of_methodNamed B.named
  have hlocks := B.notSynchronized
  have ht1 := hts (.fieldLink RX2 7 "DrawnAreasModel" "points" "[I") (by decide +kernel)
  have hinX2 : ∀ w ∈ u_ws RX2 TX2 13, w ∈ wsX2_isPoint := by decide +kernel
  have hl := lv_entry ([.ref m0, .int a1, .int a2]) (n := 3) (Nat.le_of_ble_eq_true rfl)
  rw [lg_entry_eq]
  generalize (lg_sl ([.ref m0, .int a1, .int a2]) ++ List.replicate (3 - (lg_sl ([.ref m0, .int a1, .int a2])).length) Slot.unset).toArray = ls at hl ⊢
  have hl : lv_has ls 3 [(0, .ref m0), (1, .int a1), (2, .int a2)] := hl
  unfold f_X2_isPoint at h
  refine lv_iload_n hx hb dX2_isPoint_0 rfl (lv_at hl 1 rfl) ?_
  obtain ⟨r1, hcr1, h⟩ := og_bind h
  refine cp_s (va_runS (As := [.int a1]) (rest := []) ⟨hx, hb, hml, hown, hts⟩ (k_X2_isFigure l a1 _ hcr1) (va_cwS 1 hts gX2_isPoint_X2_isFigure rfl rfl rfl (by decide +kernel) ⟨(Nat.le_of_ble_eq_true rfl), (Nat.le_of_ble_eq_true rfl)⟩) pre_s rfl rfl hl.1 rfl (lv_room (Nat.le_of_ble_eq_true rfl)) dX2_isPoint_1 ⟨(Nat.zero_le _), (Nat.zero_le _)⟩) ?_
  refine lv_if_eq (tgt := 27) hx hb dX2_isPoint_4 (by decide) (fun c1 => ?_) (fun c1 => ?_)
  · rw [if_pos c1] at h
    refine lv_iconst (v := 0) hx hb dX2_isPoint_27 (by decide) ?_
    obtain rfl := Option.some.inj h
    exact W.zret hx hb hr rfl (fun t ht _ => ⟨rfl, ht⟩) (fun _ h9 => absurd h9 List.not_mem_nil) dX2_isPoint_28
  · rw [if_neg c1] at h
    refine lv_iload_n hx hb dX2_isPoint_7 rfl (lv_at hl 2 rfl) ?_
    refine lv_iconst (v := 0) hx hb dX2_isPoint_8 (by decide) ?_
    refine lv_aload_n hx hb dX2_isPoint_9 rfl (lv_at hl 0 rfl) ?_
    refine va_get (D := D) (ci := 2) (v := .ref m1) (C := RX2) (T := TX2) (N := 13) hx hb hts hinX2 hown hK hP 0 rfl rfl 0 (by decide) ht1 (fun _ h9 => h9) rfl dX2_isPoint_10 ?_
    refine lv_iload_n hx hb dX2_isPoint_13 rfl (lv_at hl 1 rfl) ?_
    obtain ⟨gi2, h⟩ := og_in h
    refine va_iald hx hb hK hP 1 0 rfl rfl gi2 dX2_isPoint_14 ?_
    refine lv_iconst (v := 1) hx hb dX2_isPoint_15 (by decide) ?_
    refine lv_isub hx hb dX2_isPoint_16 ?_
    obtain ⟨r4, hcr4, h⟩ := og_bind h
    refine cp_s (va_runS (As := [.int a2, .int (0 : Int32), .int ((pt a1.toNatClampNeg) - (1 : Int32))]) (rest := []) ⟨hx, hb, hml, hown, hts⟩ (k_X2_in l a2 (0 : Int32) ((pt a1.toNatClampNeg) - (1 : Int32)) _ hcr4) (va_cwS 3 hts gX2_isPoint_X2_in rfl rfl rfl (by decide +kernel) ⟨(Nat.le_of_ble_eq_true rfl), (Nat.le_of_ble_eq_true rfl)⟩) pre_s rfl rfl hl.1 rfl (lv_room (Nat.le_of_ble_eq_true rfl)) dX2_isPoint_17 ⟨(Nat.zero_le _), (Nat.zero_le _)⟩) ?_
    refine lv_if_eq (tgt := 27) hx hb dX2_isPoint_20 (by decide) (fun c4 => ?_) (fun c4 => ?_)
    · rw [if_pos c4] at h
      refine lv_iconst (v := 0) hx hb dX2_isPoint_27 (by decide) ?_
      obtain rfl := Option.some.inj h
      exact W.zret hx hb hr rfl (fun t ht _ => ⟨rfl, ht⟩) (fun _ h9 => absurd h9 List.not_mem_nil) dX2_isPoint_28
    · rw [if_neg c4] at h
      refine lv_iconst (v := 1) hx hb dX2_isPoint_23 (by decide) ?_
      refine lv_goto (tgt := 28) hx hb dX2_isPoint_24 (by decide) ?_
      obtain rfl := Option.some.inj h
      exact W.zret hx hb hr rfl (fun t ht _ => ⟨rfl, ht⟩) (fun _ h9 => absurd h9 List.not_mem_nil) dX2_isPoint_28
def f_X2_isClosed (pt : Nat → Int32) (a1 : Int32) : Option Int32 :=
  if bin a1 6 = true then
  if (pt a1.toNatClampNeg) < (3 : Int32) then
  (some (0 : Int32))
  else
  (some (1 : Int32))
  else none
set_option maxHeartbeats 4000000 in
set_option maxRecDepth 100000 in
theorem k_X2_isClosed (l : Launch) (D : va_G) (cI cF : ClassId) (m0 : Nat) (m1 : Nat) (m2 : Nat) (m3 : Nat) (m4 : Nat) (m5 : Nat) (pt : Nat → Int32) (px : Nat → Int32) (py : Nat → Int32) (ro : Int32) (an : Int32) (te : Int32) (fx : Int32) (fy : Int32) (ar : Int32) (be : Int32) (ma : Int32) (nx : Nat → Int32) (ny : Nat → Int32) (a1 : Int32) (r0 : Int32) (h : f_X2_isClosed pt a1 = some r0) : Met l yX2_isClosed wsX2_isClosed ({ frames := 0, cells := 0, slots := 0, locals := 0 }) (va_Pc [.ref m0, .int a1] (fun U => wK D cI cF (moW cI m0 m1 m2 m3 m4 m5 pt px py ro an te fx fy ar be ma nx ny) U)) (qS (.int r0)) 0 0 (fun _ => False) := by
  refine Met.ofW (cc := cX2_isClosed) (maxL := 2) (ret := (some .boolean)) (by decide) rfl ?_
  intro p e s m args below meth c s₁ B hml hv
  obtain ⟨rfl, hK, hP⟩ := hv
  have hx := B.exec
  have hb := B.bytes
  have hr := B.returns
  have hts := atoms_spec (ws := wsX2_isClosed) B.pre
  have hown : s.vm.findClass RX2 = some m.cls := findClass_of_methodNamed B.named
  have hlocks := B.notSynchronized
  have ht1 := hts (.fieldLink RX2 7 "DrawnAreasModel" "points" "[I") (by decide +kernel)
  have hinX2 : ∀ w ∈ u_ws RX2 TX2 13, w ∈ wsX2_isClosed := by decide +kernel
  have hl := lv_entry ([.ref m0, .int a1]) (n := 2) (Nat.le_of_ble_eq_true rfl)
  rw [lg_entry_eq]
  generalize (lg_sl ([.ref m0, .int a1]) ++ List.replicate (2 - (lg_sl ([.ref m0, .int a1])).length) Slot.unset).toArray = ls at hl ⊢
  have hl : lv_has ls 2 [(0, .ref m0), (1, .int a1)] := hl
  unfold f_X2_isClosed at h
  refine lv_aload_n hx hb dX2_isClosed_0 rfl (lv_at hl 0 rfl) ?_
  refine va_get (D := D) (ci := 2) (v := .ref m1) (C := RX2) (T := TX2) (N := 13) hx hb hts hinX2 hown hK hP 0 rfl rfl 0 (by decide) ht1 (fun _ h9 => h9) rfl dX2_isClosed_1 ?_
  refine lv_iload_n hx hb dX2_isClosed_4 rfl (lv_at hl 1 rfl) ?_
  obtain ⟨gi0, h⟩ := og_in h
  refine va_iald hx hb hK hP 1 0 rfl rfl gi0 dX2_isClosed_5 ?_
  refine lv_iconst (v := 3) hx hb dX2_isClosed_6 (by decide) ?_
  refine lv_icmp_lt (tgt := 14) hx hb dX2_isClosed_7 (by decide) (fun c1 => ?_) (fun c1 => ?_)
  · rw [if_pos c1] at h
    refine lv_iconst (v := 0) hx hb dX2_isClosed_14 (by decide) ?_
    obtain rfl := Option.some.inj h
    exact W.zret hx hb hr rfl (fun t ht _ => ⟨rfl, ht⟩) (fun _ h9 => absurd h9 List.not_mem_nil) dX2_isClosed_15
  · rw [if_neg c1] at h
    refine lv_iconst (v := 1) hx hb dX2_isClosed_10 (by decide) ?_
    refine lv_goto (tgt := 15) hx hb dX2_isClosed_11 (by decide) ?_
    obtain rfl := Option.some.inj h
    exact W.zret hx hb hr rfl (fun t ht _ => ⟨rfl, ht⟩) (fun _ h9 => absurd h9 List.not_mem_nil) dX2_isClosed_15
def f_X2_x (pt : Nat → Int32) (px : Nat → Int32) (a1 : Int32) (a2 : Int32) : Option Int32 :=
  if bin a1 6 = true then
  if (pt a1.toNatClampNeg) = 0 then none else
  if bin (((24 : Int32) * a1) + (a2 - a2 / (pt a1.toNatClampNeg) * (pt a1.toNatClampNeg))) 144 = true then
  some (px (((24 : Int32) * a1) + (a2 - a2 / (pt a1.toNatClampNeg) * (pt a1.toNatClampNeg))).toNatClampNeg)
  else none
  else none
set_option maxHeartbeats 4000000 in
set_option maxRecDepth 100000 in
theorem k_X2_x (l : Launch) (D : va_G) (cI cF : ClassId) (m0 : Nat) (m1 : Nat) (m2 : Nat) (m3 : Nat) (m4 : Nat) (m5 : Nat) (pt : Nat → Int32) (px : Nat → Int32) (py : Nat → Int32) (ro : Int32) (an : Int32) (te : Int32) (fx : Int32) (fy : Int32) (ar : Int32) (be : Int32) (ma : Int32) (nx : Nat → Int32) (ny : Nat → Int32) (a1 : Int32) (a2 : Int32) (r0 : Int32) (h : f_X2_x pt px a1 a2 = some r0) : Met l yX2_x wsX2_x ({ frames := 0, cells := 0, slots := 0, locals := 0 }) (va_Pc [.ref m0, .int a1, .int a2] (fun U => wK D cI cF (moW cI m0 m1 m2 m3 m4 m5 pt px py ro an te fx fy ar be ma nx ny) U)) (qS (.int r0)) 0 0 (fun _ => False) := by
  refine Met.ofW (cc := cX2_x) (maxL := 3) (ret := (some .int)) (by decide) rfl ?_
  intro p e s m args below meth c s₁ B hml hv
  obtain ⟨rfl, hK, hP⟩ := hv
  have hx := B.exec
  have hb := B.bytes
  have hr := B.returns
  have hts := atoms_spec (ws := wsX2_x) B.pre
  have hown : s.vm.findClass RX2 = some m.cls := findClass_of_methodNamed B.named
  have hlocks := B.notSynchronized
  have ht1 := hts (.fieldLink RX2 13 "DrawnAreasModel" "px" "[I") (by decide +kernel)
  have hinX2 : ∀ w ∈ u_ws RX2 TX2 13, w ∈ wsX2_x := by decide +kernel
  have ht3 := hts (.fieldLink RX2 7 "DrawnAreasModel" "points" "[I") (by decide +kernel)
  have hl := lv_entry ([.ref m0, .int a1, .int a2]) (n := 3) (Nat.le_of_ble_eq_true rfl)
  rw [lg_entry_eq]
  generalize (lg_sl ([.ref m0, .int a1, .int a2]) ++ List.replicate (3 - (lg_sl ([.ref m0, .int a1, .int a2])).length) Slot.unset).toArray = ls at hl ⊢
  have hl : lv_has ls 3 [(0, .ref m0), (1, .int a1), (2, .int a2)] := hl
  unfold f_X2_x at h
  refine lv_aload_n hx hb dX2_x_0 rfl (lv_at hl 0 rfl) ?_
  refine va_get (D := D) (ci := 2) (v := .ref m2) (C := RX2) (T := TX2) (N := 13) hx hb hts hinX2 hown hK hP 0 rfl rfl 1 (by decide) ht1 (fun _ h9 => h9) rfl dX2_x_1 ?_
  refine lv_bipush (v := 24) hx hb dX2_x_4 (by decide) ?_
  refine lv_iload_n hx hb dX2_x_6 rfl (lv_at hl 1 rfl) ?_
  refine lv_imul hx hb dX2_x_7 ?_
  refine lv_iload_n hx hb dX2_x_8 rfl (lv_at hl 2 rfl) ?_
  refine lv_aload_n hx hb dX2_x_9 rfl (lv_at hl 0 rfl) ?_
  refine va_get (D := D) (ci := 2) (v := .ref m1) (C := RX2) (T := TX2) (N := 13) hx hb hts hinX2 hown hK hP 0 rfl rfl 0 (by decide) ht3 (fun _ h9 => h9) rfl dX2_x_10 ?_
  refine lv_iload_n hx hb dX2_x_13 rfl (lv_at hl 1 rfl) ?_
  obtain ⟨gi0, h⟩ := og_in h
  refine va_iald hx hb hK hP 1 0 rfl rfl gi0 dX2_x_14 ?_
  obtain ⟨gz1, h⟩ := og_nz h
  refine lv_irem hx hb dX2_x_15 gz1 ?_
  refine lv_iadd hx hb dX2_x_16 ?_
  obtain ⟨gi2, h⟩ := og_in h
  refine va_iald hx hb hK hP 2 0 rfl rfl gi2 dX2_x_17 ?_
  obtain rfl := Option.some.inj h
  exact W.iret hx hb hr (fun t ht _ => ⟨rfl, ht⟩) (fun _ h9 => absurd h9 List.not_mem_nil) dX2_x_18
def f_X2_y (pt : Nat → Int32) (py : Nat → Int32) (a1 : Int32) (a2 : Int32) : Option Int32 :=
  if bin a1 6 = true then
  if (pt a1.toNatClampNeg) = 0 then none else
  if bin (((24 : Int32) * a1) + (a2 - a2 / (pt a1.toNatClampNeg) * (pt a1.toNatClampNeg))) 144 = true then
  some (py (((24 : Int32) * a1) + (a2 - a2 / (pt a1.toNatClampNeg) * (pt a1.toNatClampNeg))).toNatClampNeg)
  else none
  else none
set_option maxHeartbeats 4000000 in
set_option maxRecDepth 100000 in
theorem k_X2_y (l : Launch) (D : va_G) (cI cF : ClassId) (m0 : Nat) (m1 : Nat) (m2 : Nat) (m3 : Nat) (m4 : Nat) (m5 : Nat) (pt : Nat → Int32) (px : Nat → Int32) (py : Nat → Int32) (ro : Int32) (an : Int32) (te : Int32) (fx : Int32) (fy : Int32) (ar : Int32) (be : Int32) (ma : Int32) (nx : Nat → Int32) (ny : Nat → Int32) (a1 : Int32) (a2 : Int32) (r0 : Int32) (h : f_X2_y pt py a1 a2 = some r0) : Met l yX2_y wsX2_y ({ frames := 0, cells := 0, slots := 0, locals := 0 }) (va_Pc [.ref m0, .int a1, .int a2] (fun U => wK D cI cF (moW cI m0 m1 m2 m3 m4 m5 pt px py ro an te fx fy ar be ma nx ny) U)) (qS (.int r0)) 0 0 (fun _ => False) := by
  refine Met.ofW (cc := cX2_y) (maxL := 3) (ret := (some .int)) (by decide) rfl ?_
  intro p e s m args below meth c s₁ B hml hv
  obtain ⟨rfl, hK, hP⟩ := hv
  have hx := B.exec
  have hb := B.bytes
  have hr := B.returns
  have hts := atoms_spec (ws := wsX2_y) B.pre
  have hown : s.vm.findClass RX2 = some m.cls := findClass_of_methodNamed B.named
  have hlocks := B.notSynchronized
  have ht1 := hts (.fieldLink RX2 16 "DrawnAreasModel" "py" "[I") (by decide +kernel)
  have hinX2 : ∀ w ∈ u_ws RX2 TX2 13, w ∈ wsX2_y := by decide +kernel
  have ht3 := hts (.fieldLink RX2 7 "DrawnAreasModel" "points" "[I") (by decide +kernel)
  have hl := lv_entry ([.ref m0, .int a1, .int a2]) (n := 3) (Nat.le_of_ble_eq_true rfl)
  rw [lg_entry_eq]
  generalize (lg_sl ([.ref m0, .int a1, .int a2]) ++ List.replicate (3 - (lg_sl ([.ref m0, .int a1, .int a2])).length) Slot.unset).toArray = ls at hl ⊢
  have hl : lv_has ls 3 [(0, .ref m0), (1, .int a1), (2, .int a2)] := hl
  unfold f_X2_y at h
  refine lv_aload_n hx hb dX2_y_0 rfl (lv_at hl 0 rfl) ?_
  refine va_get (D := D) (ci := 2) (v := .ref m3) (C := RX2) (T := TX2) (N := 13) hx hb hts hinX2 hown hK hP 0 rfl rfl 2 (by decide) ht1 (fun _ h9 => h9) rfl dX2_y_1 ?_
  refine lv_bipush (v := 24) hx hb dX2_y_4 (by decide) ?_
  refine lv_iload_n hx hb dX2_y_6 rfl (lv_at hl 1 rfl) ?_
  refine lv_imul hx hb dX2_y_7 ?_
  refine lv_iload_n hx hb dX2_y_8 rfl (lv_at hl 2 rfl) ?_
  refine lv_aload_n hx hb dX2_y_9 rfl (lv_at hl 0 rfl) ?_
  refine va_get (D := D) (ci := 2) (v := .ref m1) (C := RX2) (T := TX2) (N := 13) hx hb hts hinX2 hown hK hP 0 rfl rfl 0 (by decide) ht3 (fun _ h9 => h9) rfl dX2_y_10 ?_
  refine lv_iload_n hx hb dX2_y_13 rfl (lv_at hl 1 rfl) ?_
  obtain ⟨gi0, h⟩ := og_in h
  refine va_iald hx hb hK hP 1 0 rfl rfl gi0 dX2_y_14 ?_
  obtain ⟨gz1, h⟩ := og_nz h
  refine lv_irem hx hb dX2_y_15 gz1 ?_
  refine lv_iadd hx hb dX2_y_16 ?_
  obtain ⟨gi2, h⟩ := og_in h
  refine va_iald hx hb hK hP 3 0 rfl rfl gi2 dX2_y_17 ?_
  obtain rfl := Option.some.inj h
  exact W.iret hx hb hr (fun t ht _ => ⟨rfl, ht⟩) (fun _ h9 => absurd h9 List.not_mem_nil) dX2_y_18
def f_X2_at (pt : Nat → Int32) (px : Nat → Int32) (py : Nat → Int32) (a1 : Int32) (a2 : Int32) (a3 : Int32) : Option Int32 :=
  (f_X2_isFigure a1).bind fun r1 =>
  if r1 = (0) then
  (some (-1001 : Int32))
  else
  (if a2 = (-1 : Int32) then
  (if bin a1 6 = true then
  some (pt a1.toNatClampNeg)
  else none)
  else
  ((f_X2_isPoint pt a1 a2).bind fun r4 =>
  if r4 = (0) then
  (some (-1001 : Int32))
  else
  (if a3 = (0) then
  ((f_X2_x pt px a1 a2).bind fun r9 =>
  some r9)
  else
  (if a3 = (1 : Int32) then
  ((f_X2_y pt py a1 a2).bind fun r8 =>
  some r8)
  else
  (some (-1002 : Int32))))))
set_option maxHeartbeats 4000000 in
set_option maxRecDepth 100000 in
theorem k_X2_at (l : Launch) (D : va_G) (cI cF : ClassId) (m0 : Nat) (m1 : Nat) (m2 : Nat) (m3 : Nat) (m4 : Nat) (m5 : Nat) (pt : Nat → Int32) (px : Nat → Int32) (py : Nat → Int32) (ro : Int32) (an : Int32) (te : Int32) (fx : Int32) (fy : Int32) (ar : Int32) (be : Int32) (ma : Int32) (nx : Nat → Int32) (ny : Nat → Int32) (a1 : Int32) (a2 : Int32) (a3 : Int32) (r0 : Int32) (h : f_X2_at pt px py a1 a2 a3 = some r0) : Met l yX2_at wsX2_at ({ frames := 3, cells := 0, slots := 0, locals := 64 }) (va_Pc [.ref m0, .int a1, .int a2, .int a3] (fun U => wK D cI cF (moW cI m0 m1 m2 m3 m4 m5 pt px py ro an te fx fy ar be ma nx ny) U)) (qS (.int r0)) 0 0 (fun _ => False) := by
  refine Met.ofW (cc := cX2_at) (maxL := 4) (ret := (some .int)) (by decide) rfl ?_
  intro p e s m args below meth c s₁ B hml hv
  obtain ⟨rfl, hK, hP⟩ := hv
  have hx := B.exec
  have hb := B.bytes
  have hr := B.returns
  have hts := atoms_spec (ws := wsX2_at) B.pre
  have hown : s.vm.findClass RX2 = some m.cls := findClass_of_methodNamed B.named
  have hlocks := B.notSynchronized
  have ht1 := hts (.fieldLink RX2 7 "DrawnAreasModel" "points" "[I") (by decide +kernel)
  have hinX2 : ∀ w ∈ u_ws RX2 TX2 13, w ∈ wsX2_at := by decide +kernel
  have hl := lv_entry ([.ref m0, .int a1, .int a2, .int a3]) (n := 4) (Nat.le_of_ble_eq_true rfl)
  rw [lg_entry_eq]
  generalize (lg_sl ([.ref m0, .int a1, .int a2, .int a3]) ++ List.replicate (4 - (lg_sl ([.ref m0, .int a1, .int a2, .int a3])).length) Slot.unset).toArray = ls at hl ⊢
  have hl : lv_has ls 4 [(0, .ref m0), (1, .int a1), (2, .int a2), (3, .int a3)] := hl
  unfold f_X2_at at h
  refine lv_iload_n hx hb dX2_at_0 rfl (lv_at hl 1 rfl) ?_
  obtain ⟨r1, hcr1, h⟩ := og_bind h
  refine cp_s (va_runS (As := [.int a1]) (rest := []) ⟨hx, hb, hml, hown, hts⟩ (k_X2_isFigure l a1 _ hcr1) (va_cwS 1 hts gX2_at_X2_isFigure rfl rfl rfl (by decide +kernel) ⟨(Nat.le_of_ble_eq_true rfl), (Nat.le_of_ble_eq_true rfl)⟩) pre_s rfl rfl hl.1 rfl (lv_room (Nat.le_of_ble_eq_true rfl)) dX2_at_1 ⟨(Nat.zero_le _), (Nat.zero_le _)⟩) ?_
  refine lv_if_ne (tgt := 11) hx hb dX2_at_4 (by decide) (fun c1 => ?_) (fun c1 => ?_)
  · rw [if_neg c1] at h
    refine lv_iload_n hx hb dX2_at_11 rfl (lv_at hl 2 rfl) ?_
    refine lv_iconst (v := -1) hx hb dX2_at_12 (by decide) ?_
    refine lv_icmp_ne (tgt := 23) hx hb dX2_at_13 (by decide) (fun c2 => ?_) (fun c2 => ?_)
    · rw [if_neg c2] at h
      refine lv_aload_n hx hb dX2_at_23 rfl (lv_at hl 0 rfl) ?_
      refine lv_iload_n hx hb dX2_at_24 rfl (lv_at hl 1 rfl) ?_
      refine lv_iload_n hx hb dX2_at_25 rfl (lv_at hl 2 rfl) ?_
      obtain ⟨r4, hcr4, h⟩ := og_bind h
      refine cp_s (va_runV (As := [.int a1, .int a2]) (rest := []) ⟨hx, hb, hml, hown, hts⟩ (k_X2_isPoint l D cI cF m0 m1 m2 m3 m4 m5 pt px py ro an te fx fy ar be ma nx ny a1 a2 _ hcr4) (cwV 2 hts gX2_at_X2_isPoint rfl rfl rfl (by decide +kernel) ⟨(Nat.le_of_ble_eq_true rfl), (Nat.le_of_ble_eq_true rfl)⟩) (pre_v (q0 := 0) (ci := 2) hK hP rfl rfl) rfl rfl hl.1 rfl (lv_room (Nat.le_of_ble_eq_true rfl)) dX2_at_26 ⟨(Nat.zero_le _), (Nat.zero_le _)⟩) ?_
      refine lv_if_ne (tgt := 36) hx hb dX2_at_29 (by decide) (fun c4 => ?_) (fun c4 => ?_)
      · rw [if_neg c4] at h
        refine lv_iload_n hx hb dX2_at_36 rfl (lv_at hl 3 rfl) ?_
        refine lv_if_ne (tgt := 49) hx hb dX2_at_37 (by decide) (fun c5 => ?_) (fun c5 => ?_)
        · rw [if_neg c5] at h
          refine lv_iload_n hx hb dX2_at_49 rfl (lv_at hl 3 rfl) ?_
          refine lv_iconst (v := 1) hx hb dX2_at_50 (by decide) ?_
          refine lv_icmp_ne (tgt := 63) hx hb dX2_at_51 (by decide) (fun c6 => ?_) (fun c6 => ?_)
          · rw [if_neg c6] at h
            refine lv_sipush (v := -1002) hx hb dX2_at_63 (by decide) ?_
            obtain rfl := Option.some.inj h
            exact W.iret hx hb hr (fun t ht _ => ⟨rfl, ht⟩) (fun _ h9 => absurd h9 List.not_mem_nil) dX2_at_66
          · rw [if_pos c6] at h
            refine lv_aload_n hx hb dX2_at_54 rfl (lv_at hl 0 rfl) ?_
            refine lv_iload_n hx hb dX2_at_55 rfl (lv_at hl 1 rfl) ?_
            refine lv_iload_n hx hb dX2_at_56 rfl (lv_at hl 2 rfl) ?_
            obtain ⟨r8, hcr8, h⟩ := og_bind h
            refine cp_s (va_runV (As := [.int a1, .int a2]) (rest := []) ⟨hx, hb, hml, hown, hts⟩ (k_X2_y l D cI cF m0 m1 m2 m3 m4 m5 pt px py ro an te fx fy ar be ma nx ny a1 a2 _ hcr8) (cwV 2 hts gX2_at_X2_y rfl rfl rfl (by decide +kernel) ⟨(Nat.le_of_ble_eq_true rfl), (Nat.le_of_ble_eq_true rfl)⟩) (pre_v (q0 := 0) (ci := 2) hK hP rfl rfl) rfl rfl hl.1 rfl (lv_room (Nat.le_of_ble_eq_true rfl)) dX2_at_57 ⟨(Nat.zero_le _), (Nat.zero_le _)⟩) ?_
            refine lv_goto (tgt := 66) hx hb dX2_at_60 (by decide) ?_
            obtain rfl := Option.some.inj h
            exact W.iret hx hb hr (fun t ht _ => ⟨rfl, ht⟩) (fun _ h9 => absurd h9 List.not_mem_nil) dX2_at_66
        · rw [if_pos c5] at h
          refine lv_aload_n hx hb dX2_at_40 rfl (lv_at hl 0 rfl) ?_
          refine lv_iload_n hx hb dX2_at_41 rfl (lv_at hl 1 rfl) ?_
          refine lv_iload_n hx hb dX2_at_42 rfl (lv_at hl 2 rfl) ?_
          obtain ⟨r9, hcr9, h⟩ := og_bind h
          refine cp_s (va_runV (As := [.int a1, .int a2]) (rest := []) ⟨hx, hb, hml, hown, hts⟩ (k_X2_x l D cI cF m0 m1 m2 m3 m4 m5 pt px py ro an te fx fy ar be ma nx ny a1 a2 _ hcr9) (cwV 2 hts gX2_at_X2_x rfl rfl rfl (by decide +kernel) ⟨(Nat.le_of_ble_eq_true rfl), (Nat.le_of_ble_eq_true rfl)⟩) (pre_v (q0 := 0) (ci := 2) hK hP rfl rfl) rfl rfl hl.1 rfl (lv_room (Nat.le_of_ble_eq_true rfl)) dX2_at_43 ⟨(Nat.zero_le _), (Nat.zero_le _)⟩) ?_
          refine lv_goto (tgt := 66) hx hb dX2_at_46 (by decide) ?_
          obtain rfl := Option.some.inj h
          exact W.iret hx hb hr (fun t ht _ => ⟨rfl, ht⟩) (fun _ h9 => absurd h9 List.not_mem_nil) dX2_at_66
      · rw [if_pos c4] at h
        refine lv_sipush (v := -1001) hx hb dX2_at_32 (by decide) ?_
        obtain rfl := Option.some.inj h
        exact W.iret hx hb hr (fun t ht _ => ⟨rfl, ht⟩) (fun _ h9 => absurd h9 List.not_mem_nil) dX2_at_35
    · rw [if_pos c2] at h
      refine lv_aload_n hx hb dX2_at_16 rfl (lv_at hl 0 rfl) ?_
      refine va_get (D := D) (ci := 2) (v := .ref m1) (C := RX2) (T := TX2) (N := 13) hx hb hts hinX2 hown hK hP 0 rfl rfl 0 (by decide) ht1 (fun _ h9 => h9) rfl dX2_at_17 ?_
      refine lv_iload_n hx hb dX2_at_20 rfl (lv_at hl 1 rfl) ?_
      obtain ⟨gi9, h⟩ := og_in h
      refine va_iald hx hb hK hP 1 0 rfl rfl gi9 dX2_at_21 ?_
      obtain rfl := Option.some.inj h
      exact W.iret hx hb hr (fun t ht _ => ⟨rfl, ht⟩) (fun _ h9 => absurd h9 List.not_mem_nil) dX2_at_22
  · rw [if_pos c1] at h
    refine lv_sipush (v := -1001) hx hb dX2_at_7 (by decide) ?_
    obtain rfl := Option.some.inj h
    exact W.iret hx hb hr (fun t ht _ => ⟨rfl, ht⟩) (fun _ h9 => absurd h9 List.not_mem_nil) dX2_at_10
def s_X2_twiceOf_5 (pt : Nat → Int32) (px : Nat → Int32) (py : Nat → Int32) (a1 : Int32) (u5 : (Int64 × Int32)) : Option ((Int64 × Int32) ⊕ Int64) :=
  if bin a1 6 = true then
  if (pt a1.toNatClampNeg) ≤ u5.2 then
  (some (.inr u5.1))
  else
  ((f_X2_x pt px a1 u5.2).bind fun r3 =>
  (f_X2_y pt py a1 (u5.2 + (1 : Int32))).bind fun r4 =>
  (f_X2_x pt px a1 (u5.2 + (1 : Int32))).bind fun r5 =>
  (f_X2_y pt py a1 u5.2).bind fun r6 =>
  ov (u5.1 + (((r3.toInt64) * (r4.toInt64)) - ((r5.toInt64) * (r6.toInt64)))) fun v7 =>
  ov (u5.2 + (1 : Int32)) fun v8 =>
  some (.inl (v7, v8)))
  else none
def f_X2_twiceOf (pt : Nat → Int32) (px : Nat → Int32) (py : Nat → Int32) (a1 : Int32) : Option Int64 :=
  (lpf (s_X2_twiceOf_5 pt px py a1) 1000 ((0 : Int64), (0 : Int32))).bind fun x9 =>
  some x9
set_option maxHeartbeats 4000000 in
set_option maxRecDepth 100000 in
theorem k_X2_twiceOf (l : Launch) (D : va_G) (cI cF : ClassId) (m0 : Nat) (m1 : Nat) (m2 : Nat) (m3 : Nat) (m4 : Nat) (m5 : Nat) (pt : Nat → Int32) (px : Nat → Int32) (py : Nat → Int32) (ro : Int32) (an : Int32) (te : Int32) (fx : Int32) (fy : Int32) (ar : Int32) (be : Int32) (ma : Int32) (nx : Nat → Int32) (ny : Nat → Int32) (a1 : Int32) (r0 : Int64) (h : f_X2_twiceOf pt px py a1 = some r0) : Met l yX2_twiceOf wsX2_twiceOf ({ frames := 1, cells := 0, slots := 0, locals := 22 }) (va_Pc [.ref m0, .int a1] (fun U => wK D cI cF (moW cI m0 m1 m2 m3 m4 m5 pt px py ro an te fx fy ar be ma nx ny) U)) (qS (.long r0)) 0 0 (fun _ => False) := by
  refine Met.ofW (cc := cX2_twiceOf) (maxL := 5) (ret := (some .long)) (by decide) rfl ?_
  intro p e s m args below meth c s₁ B hml hv
  obtain ⟨rfl, hK, hP⟩ := hv
  have hx := B.exec
  have hb := B.bytes
  have hr := B.returns
  have hts := atoms_spec (ws := wsX2_twiceOf) B.pre
  have hown : s.vm.findClass RX2 = some m.cls := findClass_of_methodNamed B.named
  have hlocks := B.notSynchronized
  have ht1 := hts (.fieldLink RX2 7 "DrawnAreasModel" "points" "[I") (by decide +kernel)
  have hinX2 : ∀ w ∈ u_ws RX2 TX2 13, w ∈ wsX2_twiceOf := by decide +kernel
  have hl := lv_entry ([.ref m0, .int a1]) (n := 5) (Nat.le_of_ble_eq_true rfl)
  rw [lg_entry_eq]
  generalize (lg_sl ([.ref m0, .int a1]) ++ List.replicate (5 - (lg_sl ([.ref m0, .int a1])).length) Slot.unset).toArray = ls at hl ⊢
  have hl : lv_has ls 5 [(0, .ref m0), (1, .int a1)] := hl
  unfold f_X2_twiceOf at h
  refine lv_lconst (v := 0) hx hb dX2_twiceOf_0 (by decide) ?_
  refine lv_lstore_n (lv' := [(2, .long (0 : Int64)), (0, .ref m0), (1, .int a1)]) hx hb dX2_twiceOf_1 rfl hl (by decide) rfl (fun ls hl => ?_)
  refine lv_iconst (v := 0) hx hb dX2_twiceOf_2 (by decide) ?_
  refine lv_istore (lv' := [(4, .int (0 : Int32)), (2, .long (0 : Int64)), (0, .ref m0), (1, .int a1)]) hx hb dX2_twiceOf_3 hl (by decide) rfl (fun ls hl => ?_)
  obtain ⟨x9, hN5, h⟩ := og_bind h
  refine wl hN5 5 64 (fun u5 ls => lv_has ls 5 [(0, .ref m0), (1, .int a1), (2, .long u5.1), (4, .int u5.2)]) (fun x9 ls => lv_has ls 5 [(2, .long x9)]) (fun u5 xx h ki5 kx5 ls hl => ?_) (fun ls hl => ?_) (lv_sub hl [2, 3, 1, 0] rfl)
  · unfold s_X2_twiceOf_5 at h
    refine lv_iload hx hb dX2_twiceOf_5 (lv_at hl 3 rfl) ?_
    refine lv_aload_n hx hb dX2_twiceOf_7 rfl (lv_at hl 0 rfl) ?_
    refine va_get (D := D) (ci := 2) (v := .ref m1) (C := RX2) (T := TX2) (N := 13) hx hb hts hinX2 hown hK hP 0 rfl rfl 0 (by decide) ht1 (fun _ h9 => h9) rfl dX2_twiceOf_8 ?_
    refine lv_iload_n hx hb dX2_twiceOf_11 rfl (lv_at hl 1 rfl) ?_
    obtain ⟨gi0, h⟩ := og_in h
    refine va_iald hx hb hK hP 1 0 rfl rfl gi0 dX2_twiceOf_12 ?_
    refine lv_icmp_ge (tgt := 64) hx hb dX2_twiceOf_13 (by decide) (fun c1 => ?_) (fun c1 => ?_)
    · rw [if_pos c1] at h
      exact kx5 _ ls (Option.some.inj h).symm (lv_sub hl [2] rfl)
    · rw [if_neg c1] at h
      refine lv_lload_n hx hb dX2_twiceOf_16 rfl (lv_at hl 2 rfl) ?_
      refine lv_aload_n hx hb dX2_twiceOf_17 rfl (lv_at hl 0 rfl) ?_
      refine lv_iload_n hx hb dX2_twiceOf_18 rfl (lv_at hl 1 rfl) ?_
      refine lv_iload hx hb dX2_twiceOf_19 (lv_at hl 3 rfl) ?_
      obtain ⟨r3, hcr3, h⟩ := og_bind h
      refine cp_s (va_runV (As := [.int a1, .int u5.2]) (rest := [.long u5.1]) ⟨hx, hb, hml, hown, hts⟩ (k_X2_x l D cI cF m0 m1 m2 m3 m4 m5 pt px py ro an te fx fy ar be ma nx ny a1 u5.2 _ hcr3) (cwV 2 hts gX2_twiceOf_X2_x rfl rfl rfl (by decide +kernel) ⟨(Nat.le_of_ble_eq_true rfl), (Nat.le_of_ble_eq_true rfl)⟩) (pre_v (q0 := 0) (ci := 2) hK hP rfl rfl) rfl rfl hl.1 rfl (lv_room (Nat.le_of_ble_eq_true rfl)) dX2_twiceOf_21 ⟨(Nat.zero_le _), (Nat.zero_le _)⟩) ?_
      refine lv_i2l hx hb dX2_twiceOf_24 rfl ?_
      refine lv_aload_n hx hb dX2_twiceOf_25 rfl (lv_at hl 0 rfl) ?_
      refine lv_iload_n hx hb dX2_twiceOf_26 rfl (lv_at hl 1 rfl) ?_
      refine lv_iload hx hb dX2_twiceOf_27 (lv_at hl 3 rfl) ?_
      refine lv_iconst (v := 1) hx hb dX2_twiceOf_29 (by decide) ?_
      refine lv_iadd hx hb dX2_twiceOf_30 ?_
      obtain ⟨r4, hcr4, h⟩ := og_bind h
      refine cp_s (va_runV (As := [.int a1, .int (u5.2 + (1 : Int32))]) (rest := [.long (r3.toInt64), .long u5.1]) ⟨hx, hb, hml, hown, hts⟩ (k_X2_y l D cI cF m0 m1 m2 m3 m4 m5 pt px py ro an te fx fy ar be ma nx ny a1 (u5.2 + (1 : Int32)) _ hcr4) (cwV 2 hts gX2_twiceOf_X2_y rfl rfl rfl (by decide +kernel) ⟨(Nat.le_of_ble_eq_true rfl), (Nat.le_of_ble_eq_true rfl)⟩) (pre_v (q0 := 0) (ci := 2) hK hP rfl rfl) rfl rfl hl.1 rfl (lv_room (Nat.le_of_ble_eq_true rfl)) dX2_twiceOf_31 ⟨(Nat.zero_le _), (Nat.zero_le _)⟩) ?_
      refine lv_i2l hx hb dX2_twiceOf_34 rfl ?_
      refine lv_lmul hx hb dX2_twiceOf_35 ?_
      refine lv_aload_n hx hb dX2_twiceOf_36 rfl (lv_at hl 0 rfl) ?_
      refine lv_iload_n hx hb dX2_twiceOf_37 rfl (lv_at hl 1 rfl) ?_
      refine lv_iload hx hb dX2_twiceOf_38 (lv_at hl 3 rfl) ?_
      refine lv_iconst (v := 1) hx hb dX2_twiceOf_40 (by decide) ?_
      refine lv_iadd hx hb dX2_twiceOf_41 ?_
      obtain ⟨r5, hcr5, h⟩ := og_bind h
      refine cp_s (va_runV (As := [.int a1, .int (u5.2 + (1 : Int32))]) (rest := [.long ((r3.toInt64) * (r4.toInt64)), .long u5.1]) ⟨hx, hb, hml, hown, hts⟩ (k_X2_x l D cI cF m0 m1 m2 m3 m4 m5 pt px py ro an te fx fy ar be ma nx ny a1 (u5.2 + (1 : Int32)) _ hcr5) (cwV 2 hts gX2_twiceOf_X2_x rfl rfl rfl (by decide +kernel) ⟨(Nat.le_of_ble_eq_true rfl), (Nat.le_of_ble_eq_true rfl)⟩) (pre_v (q0 := 0) (ci := 2) hK hP rfl rfl) rfl rfl hl.1 rfl (lv_room (Nat.le_of_ble_eq_true rfl)) dX2_twiceOf_42 ⟨(Nat.zero_le _), (Nat.zero_le _)⟩) ?_
      refine lv_i2l hx hb dX2_twiceOf_45 rfl ?_
      refine lv_aload_n hx hb dX2_twiceOf_46 rfl (lv_at hl 0 rfl) ?_
      refine lv_iload_n hx hb dX2_twiceOf_47 rfl (lv_at hl 1 rfl) ?_
      refine lv_iload hx hb dX2_twiceOf_48 (lv_at hl 3 rfl) ?_
      obtain ⟨r6, hcr6, h⟩ := og_bind h
      refine cp_s (va_runV (As := [.int a1, .int u5.2]) (rest := [.long (r5.toInt64), .long ((r3.toInt64) * (r4.toInt64)), .long u5.1]) ⟨hx, hb, hml, hown, hts⟩ (k_X2_y l D cI cF m0 m1 m2 m3 m4 m5 pt px py ro an te fx fy ar be ma nx ny a1 u5.2 _ hcr6) (cwV 2 hts gX2_twiceOf_X2_y rfl rfl rfl (by decide +kernel) ⟨(Nat.le_of_ble_eq_true rfl), (Nat.le_of_ble_eq_true rfl)⟩) (pre_v (q0 := 0) (ci := 2) hK hP rfl rfl) rfl rfl hl.1 rfl (lv_room (Nat.le_of_ble_eq_true rfl)) dX2_twiceOf_50 ⟨(Nat.zero_le _), (Nat.zero_le _)⟩) ?_
      refine lv_i2l hx hb dX2_twiceOf_53 rfl ?_
      refine lv_lmul hx hb dX2_twiceOf_54 ?_
      refine lv_lsub hx hb dX2_twiceOf_55 ?_
      refine lv_ladd hx hb dX2_twiceOf_56 ?_
      refine lv_topl (fun v7 ev7 => ?_)
      have h := og_ov h ev7
      refine lv_lstore_n (lv' := [(2, .long v7), (0, .ref m0), (1, .int a1), (4, .int u5.2)]) hx hb dX2_twiceOf_57 rfl hl (by decide) rfl (fun ls hl => ?_)
      obtain ⟨v8, ev8⟩ : ∃ y : Int32, y = u5.2 + (1 : Int32) := ⟨_, rfl⟩
      have h := og_ov h ev8
      refine lv_iinc (v := v8) (lv' := [(4, .int v8), (2, .long v7), (0, .ref m0), (1, .int a1)]) hx hb dX2_twiceOf_58 hl (k := 3) rfl (by rw [ev8]; rfl) (by decide) rfl (fun ls hl => ?_)
      refine lv_goto (tgt := 5) hx hb dX2_twiceOf_61 (by decide) ?_
      exact ki5 _ ls (Option.some.inj h).symm (lv_sub hl [2, 3, 1, 0] rfl)
  · refine lv_lload_n hx hb dX2_twiceOf_64 rfl (lv_at hl 0 rfl) ?_
    obtain rfl := Option.some.inj h
    exact W.lret hx hb hr (fun t ht _ => ⟨rfl, ht⟩) (fun _ h9 => absurd h9 List.not_mem_nil) dX2_twiceOf_65
def f_X2_twice (pt : Nat → Int32) (px : Nat → Int32) (py : Nat → Int32) (a1 : Int32) : Option Int64 :=
  (f_X2_isFigure a1).bind fun r1 =>
  if r1 = (0) then
  (some (-1000000000000000001 : Int64))
  else
  ((f_X2_isClosed pt a1).bind fun r3 =>
  if r3 = (0) then
  (some (-1000000000000000003 : Int64))
  else
  ((f_X2_twiceOf pt px py a1).bind fun r5 =>
  some r5))
set_option maxHeartbeats 4000000 in
set_option maxRecDepth 100000 in
theorem k_X2_twice (l : Launch) (D : va_G) (cI cF : ClassId) (m0 : Nat) (m1 : Nat) (m2 : Nat) (m3 : Nat) (m4 : Nat) (m5 : Nat) (pt : Nat → Int32) (px : Nat → Int32) (py : Nat → Int32) (ro : Int32) (an : Int32) (te : Int32) (fx : Int32) (fy : Int32) (ar : Int32) (be : Int32) (ma : Int32) (nx : Nat → Int32) (ny : Nat → Int32) (a1 : Int32) (r0 : Int64) (h : f_X2_twice pt px py a1 = some r0) : Met l yX2_twice wsX2_twice ({ frames := 2, cells := 0, slots := 0, locals := 46 }) (va_Pc [.ref m0, .int a1] (fun U => wK D cI cF (moW cI m0 m1 m2 m3 m4 m5 pt px py ro an te fx fy ar be ma nx ny) U)) (qS (.long r0)) 0 0 (fun _ => False) := by
  refine Met.ofW (cc := cX2_twice) (maxL := 2) (ret := (some .long)) (by decide) rfl ?_
  intro p e s m args below meth c s₁ B hml hv
  obtain ⟨rfl, hK, hP⟩ := hv
  have hx := B.exec
  have hb := B.bytes
  have hr := B.returns
  have hts := atoms_spec (ws := wsX2_twice) B.pre
  have hown : s.vm.findClass RX2 = some m.cls := findClass_of_methodNamed B.named
  have hlocks := B.notSynchronized
  have ht1 := hts (.constantLong RX2 80 (-1000000000000000003)) (by decide +kernel)
  have ht2 := hts (.constantLong RX2 71 (-1000000000000000001)) (by decide +kernel)
  have hl := lv_entry ([.ref m0, .int a1]) (n := 2) (Nat.le_of_ble_eq_true rfl)
  rw [lg_entry_eq]
  generalize (lg_sl ([.ref m0, .int a1]) ++ List.replicate (2 - (lg_sl ([.ref m0, .int a1])).length) Slot.unset).toArray = ls at hl ⊢
  have hl : lv_has ls 2 [(0, .ref m0), (1, .int a1)] := hl
  unfold f_X2_twice at h
  refine lv_iload_n hx hb dX2_twice_0 rfl (lv_at hl 1 rfl) ?_
  obtain ⟨r1, hcr1, h⟩ := og_bind h
  refine cp_s (va_runS (As := [.int a1]) (rest := []) ⟨hx, hb, hml, hown, hts⟩ (k_X2_isFigure l a1 _ hcr1) (va_cwS 1 hts gX2_twice_X2_isFigure rfl rfl rfl (by decide +kernel) ⟨(Nat.le_of_ble_eq_true rfl), (Nat.le_of_ble_eq_true rfl)⟩) pre_s rfl rfl hl.1 rfl (lv_room (Nat.le_of_ble_eq_true rfl)) dX2_twice_1 ⟨(Nat.zero_le _), (Nat.zero_le _)⟩) ?_
  refine lv_if_ne (tgt := 13) hx hb dX2_twice_4 (by decide) (fun c1 => ?_) (fun c1 => ?_)
  · rw [if_neg c1] at h
    refine lv_aload_n hx hb dX2_twice_13 rfl (lv_at hl 0 rfl) ?_
    refine lv_iload_n hx hb dX2_twice_14 rfl (lv_at hl 1 rfl) ?_
    obtain ⟨r3, hcr3, h⟩ := og_bind h
    refine cp_s (va_runV (As := [.int a1]) (rest := []) ⟨hx, hb, hml, hown, hts⟩ (k_X2_isClosed l D cI cF m0 m1 m2 m3 m4 m5 pt px py ro an te fx fy ar be ma nx ny a1 _ hcr3) (cwV 1 hts gX2_twice_X2_isClosed rfl rfl rfl (by decide +kernel) ⟨(Nat.le_of_ble_eq_true rfl), (Nat.le_of_ble_eq_true rfl)⟩) (pre_v (q0 := 0) (ci := 2) hK hP rfl rfl) rfl rfl hl.1 rfl (lv_room (Nat.le_of_ble_eq_true rfl)) dX2_twice_15 ⟨(Nat.zero_le _), (Nat.zero_le _)⟩) ?_
    refine lv_if_eq (tgt := 29) hx hb dX2_twice_18 (by decide) (fun c3 => ?_) (fun c3 => ?_)
    · rw [if_pos c3] at h
      refine lv_ldc2 hx hb hown ht1 dX2_twice_29 ?_
      obtain rfl := Option.some.inj h
      exact W.lret hx hb hr (fun t ht _ => ⟨rfl, ht⟩) (fun _ h9 => absurd h9 List.not_mem_nil) dX2_twice_32
    · rw [if_neg c3] at h
      refine lv_aload_n hx hb dX2_twice_21 rfl (lv_at hl 0 rfl) ?_
      refine lv_iload_n hx hb dX2_twice_22 rfl (lv_at hl 1 rfl) ?_
      obtain ⟨r5, hcr5, h⟩ := og_bind h
      refine cp_s (va_runV (As := [.int a1]) (rest := []) ⟨hx, hb, hml, hown, hts⟩ (k_X2_twiceOf l D cI cF m0 m1 m2 m3 m4 m5 pt px py ro an te fx fy ar be ma nx ny a1 _ hcr5) (cwV 1 hts gX2_twice_X2_twiceOf rfl rfl rfl (by decide +kernel) ⟨(Nat.le_of_ble_eq_true rfl), (Nat.le_of_ble_eq_true rfl)⟩) (pre_v (q0 := 0) (ci := 2) hK hP rfl rfl) rfl rfl hl.1 rfl (lv_room (Nat.le_of_ble_eq_true rfl)) dX2_twice_23 ⟨(Nat.zero_le _), (Nat.zero_le _)⟩) ?_
      refine lv_goto (tgt := 32) hx hb dX2_twice_26 (by decide) ?_
      obtain rfl := Option.some.inj h
      exact W.lret hx hb hr (fun t ht _ => ⟨rfl, ht⟩) (fun _ h9 => absurd h9 List.not_mem_nil) dX2_twice_32
  · rw [if_pos c1] at h
    refine lv_ldc2 hx hb hown ht2 dX2_twice_7 ?_
    refine lv_goto (tgt := 32) hx hb dX2_twice_10 (by decide) ?_
    obtain rfl := Option.some.inj h
    exact W.lret hx hb hr (fun t ht _ => ⟨rfl, ht⟩) (fun _ h9 => absurd h9 List.not_mem_nil) dX2_twice_32
def f_X2_isOn (pt : Nat → Int32) (px : Nat → Int32) (py : Nat → Int32) (a1 : Int32) (a2 : Int32) (a3 : Int32) (a4 : Int32) : Option Int32 :=
  (f_X2_x pt px a1 a2).bind fun r1 =>
  (f_X2_y pt py a1 a2).bind fun r2 =>
  (f_X2_x pt px a1 (a2 + (1 : Int32))).bind fun r3 =>
  (f_X2_y pt py a1 (a2 + (1 : Int32))).bind fun r4 =>
  (if r3 ≤ r1 then
  (some (r3))
  else
  (some (r1))).bind fun mv5 =>
  (if a3 < mv5 then
  (some ((0 : Int32)))
  else
  (if r1 ≤ r3 then
  (if r3 < a3 then
  (some ((0 : Int32)))
  else
  (some ((1 : Int32))))
  else
  (if r1 < a3 then
  (some ((0 : Int32)))
  else
  (some ((1 : Int32)))))).bind fun mv6 =>
  (if mv6 = (0) then
  (some ((0 : Int32)))
  else
  ((if r4 ≤ r2 then
  (some (r4))
  else
  (some (r2))).bind fun mv12 =>
  if a4 < mv12 then
  (some ((0 : Int32)))
  else
  (if r2 ≤ r4 then
  (if r4 < a4 then
  (some ((0 : Int32)))
  else
  (some ((1 : Int32))))
  else
  (if r2 < a4 then
  (some ((0 : Int32)))
  else
  (some ((1 : Int32))))))).bind fun mv7 =>
  if mv7 = (0) then
  (some (0 : Int32))
  else
  ((f_X2_side r1 r2 r3 r4 a3 a4).bind fun r9 =>
  if (lg_cmp r9 (0 : Int64)) = (0) then
  (some (1 : Int32))
  else
  (some (0 : Int32)))
set_option maxHeartbeats 4000000 in
set_option maxRecDepth 100000 in
theorem k_X2_isOn (l : Launch) (D : va_G) (cI cF : ClassId) (m0 : Nat) (m1 : Nat) (m2 : Nat) (m3 : Nat) (m4 : Nat) (m5 : Nat) (pt : Nat → Int32) (px : Nat → Int32) (py : Nat → Int32) (ro : Int32) (an : Int32) (te : Int32) (fx : Int32) (fy : Int32) (ar : Int32) (be : Int32) (ma : Int32) (nx : Nat → Int32) (ny : Nat → Int32) (a1 : Int32) (a2 : Int32) (a3 : Int32) (a4 : Int32) (r0 : Int32) (h : f_X2_isOn pt px py a1 a2 a3 a4 = some r0) : Met l yX2_isOn wsX2_isOn ({ frames := 1, cells := 0, slots := 0, locals := 25 }) (va_Pc [.ref m0, .int a1, .int a2, .int a3, .int a4] (fun U => wK D cI cF (moW cI m0 m1 m2 m3 m4 m5 pt px py ro an te fx fy ar be ma nx ny) U)) (qS (.int r0)) 0 0 (fun _ => False) := by
  refine Met.ofW (cc := cX2_isOn) (maxL := 10) (ret := (some .boolean)) (by decide) rfl ?_
  intro p e s m args below meth c s₁ B hml hv
  obtain ⟨rfl, hK, hP⟩ := hv
  have hx := B.exec
  have hb := B.bytes
  have hr := B.returns
  have hts := atoms_spec (ws := wsX2_isOn) B.pre
  have hown : s.vm.findClass RX2 = some m.cls := findClass_of_methodNamed B.named
  have hlocks := B.notSynchronized
  have hl := lv_entry ([.ref m0, .int a1, .int a2, .int a3, .int a4]) (n := 10) (Nat.le_of_ble_eq_true rfl)
  rw [lg_entry_eq]
  generalize (lg_sl ([.ref m0, .int a1, .int a2, .int a3, .int a4]) ++ List.replicate (10 - (lg_sl ([.ref m0, .int a1, .int a2, .int a3, .int a4])).length) Slot.unset).toArray = ls at hl ⊢
  have hl : lv_has ls 10 [(0, .ref m0), (1, .int a1), (2, .int a2), (3, .int a3), (4, .int a4)] := hl
  unfold f_X2_isOn at h
  refine lv_aload_n hx hb dX2_isOn_0 rfl (lv_at hl 0 rfl) ?_
  refine lv_iload_n hx hb dX2_isOn_1 rfl (lv_at hl 1 rfl) ?_
  refine lv_iload_n hx hb dX2_isOn_2 rfl (lv_at hl 2 rfl) ?_
  obtain ⟨r1, hcr1, h⟩ := og_bind h
  refine cp_s (va_runV (As := [.int a1, .int a2]) (rest := []) ⟨hx, hb, hml, hown, hts⟩ (k_X2_x l D cI cF m0 m1 m2 m3 m4 m5 pt px py ro an te fx fy ar be ma nx ny a1 a2 _ hcr1) (cwV 2 hts gX2_isOn_X2_x rfl rfl rfl (by decide +kernel) ⟨(Nat.le_of_ble_eq_true rfl), (Nat.le_of_ble_eq_true rfl)⟩) (pre_v (q0 := 0) (ci := 2) hK hP rfl rfl) rfl rfl hl.1 rfl (lv_room (Nat.le_of_ble_eq_true rfl)) dX2_isOn_3 ⟨(Nat.zero_le _), (Nat.zero_le _)⟩) ?_
  refine lv_istore (lv' := [(5, .int r1), (0, .ref m0), (1, .int a1), (2, .int a2), (3, .int a3), (4, .int a4)]) hx hb dX2_isOn_6 hl (by decide) rfl (fun ls hl => ?_)
  refine lv_aload_n hx hb dX2_isOn_8 rfl (lv_at hl 1 rfl) ?_
  refine lv_iload_n hx hb dX2_isOn_9 rfl (lv_at hl 2 rfl) ?_
  refine lv_iload_n hx hb dX2_isOn_10 rfl (lv_at hl 3 rfl) ?_
  obtain ⟨r2, hcr2, h⟩ := og_bind h
  refine cp_s (va_runV (As := [.int a1, .int a2]) (rest := []) ⟨hx, hb, hml, hown, hts⟩ (k_X2_y l D cI cF m0 m1 m2 m3 m4 m5 pt px py ro an te fx fy ar be ma nx ny a1 a2 _ hcr2) (cwV 2 hts gX2_isOn_X2_y rfl rfl rfl (by decide +kernel) ⟨(Nat.le_of_ble_eq_true rfl), (Nat.le_of_ble_eq_true rfl)⟩) (pre_v (q0 := 0) (ci := 2) hK hP rfl rfl) rfl rfl hl.1 rfl (lv_room (Nat.le_of_ble_eq_true rfl)) dX2_isOn_11 ⟨(Nat.zero_le _), (Nat.zero_le _)⟩) ?_
  refine lv_istore (lv' := [(6, .int r2), (5, .int r1), (0, .ref m0), (1, .int a1), (2, .int a2), (3, .int a3), (4, .int a4)]) hx hb dX2_isOn_14 hl (by decide) rfl (fun ls hl => ?_)
  refine lv_aload_n hx hb dX2_isOn_16 rfl (lv_at hl 2 rfl) ?_
  refine lv_iload_n hx hb dX2_isOn_17 rfl (lv_at hl 3 rfl) ?_
  refine lv_iload_n hx hb dX2_isOn_18 rfl (lv_at hl 4 rfl) ?_
  refine lv_iconst (v := 1) hx hb dX2_isOn_19 (by decide) ?_
  refine lv_iadd hx hb dX2_isOn_20 ?_
  obtain ⟨r3, hcr3, h⟩ := og_bind h
  refine cp_s (va_runV (As := [.int a1, .int (a2 + (1 : Int32))]) (rest := []) ⟨hx, hb, hml, hown, hts⟩ (k_X2_x l D cI cF m0 m1 m2 m3 m4 m5 pt px py ro an te fx fy ar be ma nx ny a1 (a2 + (1 : Int32)) _ hcr3) (cwV 2 hts gX2_isOn_X2_x rfl rfl rfl (by decide +kernel) ⟨(Nat.le_of_ble_eq_true rfl), (Nat.le_of_ble_eq_true rfl)⟩) (pre_v (q0 := 0) (ci := 2) hK hP rfl rfl) rfl rfl hl.1 rfl (lv_room (Nat.le_of_ble_eq_true rfl)) dX2_isOn_21 ⟨(Nat.zero_le _), (Nat.zero_le _)⟩) ?_
  refine lv_istore (lv' := [(7, .int r3), (6, .int r2), (5, .int r1), (0, .ref m0), (1, .int a1), (2, .int a2), (3, .int a3), (4, .int a4)]) hx hb dX2_isOn_24 hl (by decide) rfl (fun ls hl => ?_)
  refine lv_aload_n hx hb dX2_isOn_26 rfl (lv_at hl 3 rfl) ?_
  refine lv_iload_n hx hb dX2_isOn_27 rfl (lv_at hl 4 rfl) ?_
  refine lv_iload_n hx hb dX2_isOn_28 rfl (lv_at hl 5 rfl) ?_
  refine lv_iconst (v := 1) hx hb dX2_isOn_29 (by decide) ?_
  refine lv_iadd hx hb dX2_isOn_30 ?_
  obtain ⟨r4, hcr4, h⟩ := og_bind h
  refine cp_s (va_runV (As := [.int a1, .int (a2 + (1 : Int32))]) (rest := []) ⟨hx, hb, hml, hown, hts⟩ (k_X2_y l D cI cF m0 m1 m2 m3 m4 m5 pt px py ro an te fx fy ar be ma nx ny a1 (a2 + (1 : Int32)) _ hcr4) (cwV 2 hts gX2_isOn_X2_y rfl rfl rfl (by decide +kernel) ⟨(Nat.le_of_ble_eq_true rfl), (Nat.le_of_ble_eq_true rfl)⟩) (pre_v (q0 := 0) (ci := 2) hK hP rfl rfl) rfl rfl hl.1 rfl (lv_room (Nat.le_of_ble_eq_true rfl)) dX2_isOn_31 ⟨(Nat.zero_le _), (Nat.zero_le _)⟩) ?_
  refine lv_istore (lv' := [(8, .int r4), (7, .int r3), (6, .int r2), (5, .int r1), (0, .ref m0), (1, .int a1), (2, .int a2), (3, .int a3), (4, .int a4)]) hx hb dX2_isOn_34 hl (by decide) rfl (fun ls hl => ?_)
  refine lv_iload_n hx hb dX2_isOn_36 rfl (lv_at hl 7 rfl) ?_
  refine lv_iload hx hb dX2_isOn_37 (lv_at hl 3 rfl) ?_
  refine lv_iload hx hb dX2_isOn_39 (lv_at hl 1 rfl) ?_
  obtain ⟨mv5, hm51, h⟩ := og_bind h
  refine wj (PC := 51) (ST := [.int mv5, .int a3]) (fun ls => lv_has ls 10 [(3, .int a3), (4, .int a4), (5, .int r1), (6, .int r2), (7, .int r3), (8, .int r4)]) (fun ls hl => ?_) (fun KJ51 => ?_)
  · obtain ⟨mv6, hm77, h⟩ := og_bind h
    refine wj (PC := 77) (ST := [.int mv6]) (fun ls => lv_has ls 10 [(3, .int a3), (4, .int a4), (5, .int r1), (6, .int r2), (7, .int r3), (8, .int r4)]) (fun ls hl => ?_) (fun KJ77 => ?_)
    · refine lv_istore (lv' := [(9, .int mv6), (3, .int a3), (4, .int a4), (5, .int r1), (6, .int r2), (7, .int r3), (8, .int r4)]) hx hb dX2_isOn_77 hl (by decide) rfl (fun ls hl => ?_)
      refine lv_iload hx hb dX2_isOn_79 (lv_at hl 0 rfl) ?_
      obtain ⟨mv7, hm127, h⟩ := og_bind h
      refine wj (PC := 127) (ST := [.int mv7]) (fun ls => lv_has ls 10 [(3, .int a3), (4, .int a4), (5, .int r1), (6, .int r2), (7, .int r3), (8, .int r4)]) (fun ls hl => ?_) (fun KJ127 => ?_)
      · refine lv_istore (lv' := [(9, .int mv7), (3, .int a3), (4, .int a4), (5, .int r1), (6, .int r2), (7, .int r3), (8, .int r4)]) hx hb dX2_isOn_127 hl (by decide) rfl (fun ls hl => ?_)
        refine lv_iload hx hb dX2_isOn_129 (lv_at hl 0 rfl) ?_
        refine lv_if_eq (tgt := 157) hx hb dX2_isOn_131 (by decide) (fun c7 => ?_) (fun c7 => ?_)
        · rw [if_pos c7] at h
          refine lv_iconst (v := 0) hx hb dX2_isOn_157 (by decide) ?_
          obtain rfl := Option.some.inj h
          exact W.zret hx hb hr rfl (fun t ht _ => ⟨rfl, ht⟩) (fun _ h9 => absurd h9 List.not_mem_nil) dX2_isOn_158
        · rw [if_neg c7] at h
          refine lv_iload hx hb dX2_isOn_134 (lv_at hl 3 rfl) ?_
          refine lv_iload hx hb dX2_isOn_136 (lv_at hl 4 rfl) ?_
          refine lv_iload hx hb dX2_isOn_138 (lv_at hl 5 rfl) ?_
          refine lv_iload hx hb dX2_isOn_140 (lv_at hl 6 rfl) ?_
          refine lv_iload_n hx hb dX2_isOn_142 rfl (lv_at hl 1 rfl) ?_
          refine lv_iload hx hb dX2_isOn_143 (lv_at hl 2 rfl) ?_
          obtain ⟨r9, hcr9, h⟩ := og_bind h
          refine cp_s (va_runS (As := [.int r1, .int r2, .int r3, .int r4, .int a3, .int a4]) (rest := []) ⟨hx, hb, hml, hown, hts⟩ (k_X2_side l r1 r2 r3 r4 a3 a4 _ hcr9) (va_cwS 6 hts gX2_isOn_X2_side rfl rfl rfl (by decide +kernel) ⟨(Nat.le_of_ble_eq_true rfl), (Nat.le_of_ble_eq_true rfl)⟩) pre_s rfl rfl hl.1 rfl (lv_room (Nat.le_of_ble_eq_true rfl)) dX2_isOn_145 ⟨(Nat.zero_le _), (Nat.zero_le _)⟩) ?_
          refine lv_lconst (v := 0) hx hb dX2_isOn_148 (by decide) ?_
          refine W.lcmp hx hb dX2_isOn_149 ?_
          refine lv_if_ne (tgt := 157) hx hb dX2_isOn_150 (by decide) (fun c9 => ?_) (fun c9 => ?_)
          · rw [if_neg c9] at h
            refine lv_iconst (v := 0) hx hb dX2_isOn_157 (by decide) ?_
            obtain rfl := Option.some.inj h
            exact W.zret hx hb hr rfl (fun t ht _ => ⟨rfl, ht⟩) (fun _ h9 => absurd h9 List.not_mem_nil) dX2_isOn_158
          · rw [if_pos c9] at h
            refine lv_iconst (v := 1) hx hb dX2_isOn_153 (by decide) ?_
            refine lv_goto (tgt := 158) hx hb dX2_isOn_154 (by decide) ?_
            obtain rfl := Option.some.inj h
            exact W.zret hx hb hr rfl (fun t ht _ => ⟨rfl, ht⟩) (fun _ h9 => absurd h9 List.not_mem_nil) dX2_isOn_158
      · have h := hm127
        refine lv_if_eq (tgt := 126) hx hb dX2_isOn_81 (by decide) (fun c10 => ?_) (fun c10 => ?_)
        · rw [if_pos c10] at h
          refine lv_iconst (v := 0) hx hb dX2_isOn_126 (by decide) ?_
          obtain rfl := Option.some.inj h
          exact KJ127 ls (lv_sub hl [1, 2, 3, 4, 5, 6] rfl)
        · rw [if_neg c10] at h
          refine lv_iload hx hb dX2_isOn_84 (lv_at hl 2 rfl) ?_
          refine lv_iload hx hb dX2_isOn_86 (lv_at hl 4 rfl) ?_
          refine lv_iload hx hb dX2_isOn_88 (lv_at hl 6 rfl) ?_
          obtain ⟨mv12, hm100, h⟩ := og_bind h
          refine wj (PC := 100) (ST := [.int mv12, .int a4]) (fun ls => lv_has ls 10 [(3, .int a3), (4, .int a4), (5, .int r1), (6, .int r2), (7, .int r3), (8, .int r4)]) (fun ls hl => ?_) (fun KJ100 => ?_)
          · refine lv_icmp_lt (tgt := 126) hx hb dX2_isOn_100 (by decide) (fun c12 => ?_) (fun c12 => ?_)
            · rw [if_pos c12] at h
              refine lv_iconst (v := 0) hx hb dX2_isOn_126 (by decide) ?_
              obtain rfl := Option.some.inj h
              exact KJ127 ls (lv_sub hl [0, 1, 2, 3, 4, 5] rfl)
            · rw [if_neg c12] at h
              refine lv_iload hx hb dX2_isOn_103 (lv_at hl 1 rfl) ?_
              refine lv_iload hx hb dX2_isOn_105 (lv_at hl 3 rfl) ?_
              refine lv_iload hx hb dX2_isOn_107 (lv_at hl 5 rfl) ?_
              refine lv_icmp_le (tgt := 117) hx hb dX2_isOn_109 (by decide) (fun c13 => ?_) (fun c13 => ?_)
              · rw [if_pos c13] at h
                refine lv_iload hx hb dX2_isOn_117 (lv_at hl 5 rfl) ?_
                refine lv_icmp_gt (tgt := 126) hx hb dX2_isOn_119 (by decide) (fun c14 => ?_) (fun c14 => ?_)
                · rw [if_pos c14] at h
                  refine lv_iconst (v := 0) hx hb dX2_isOn_126 (by decide) ?_
                  obtain rfl := Option.some.inj h
                  exact KJ127 ls (lv_sub hl [0, 1, 2, 3, 4, 5] rfl)
                · rw [if_neg c14] at h
                  refine lv_iconst (v := 1) hx hb dX2_isOn_122 (by decide) ?_
                  refine lv_goto (tgt := 127) hx hb dX2_isOn_123 (by decide) ?_
                  obtain rfl := Option.some.inj h
                  exact KJ127 ls (lv_sub hl [0, 1, 2, 3, 4, 5] rfl)
              · rw [if_neg c13] at h
                refine lv_iload hx hb dX2_isOn_112 (lv_at hl 3 rfl) ?_
                refine lv_goto (tgt := 119) hx hb dX2_isOn_114 (by decide) ?_
                refine lv_icmp_gt (tgt := 126) hx hb dX2_isOn_119 (by decide) (fun c15 => ?_) (fun c15 => ?_)
                · rw [if_pos c15] at h
                  refine lv_iconst (v := 0) hx hb dX2_isOn_126 (by decide) ?_
                  obtain rfl := Option.some.inj h
                  exact KJ127 ls (lv_sub hl [0, 1, 2, 3, 4, 5] rfl)
                · rw [if_neg c15] at h
                  refine lv_iconst (v := 1) hx hb dX2_isOn_122 (by decide) ?_
                  refine lv_goto (tgt := 127) hx hb dX2_isOn_123 (by decide) ?_
                  obtain rfl := Option.some.inj h
                  exact KJ127 ls (lv_sub hl [0, 1, 2, 3, 4, 5] rfl)
          · have h := hm100
            refine lv_icmp_ge (tgt := 98) hx hb dX2_isOn_90 (by decide) (fun c16 => ?_) (fun c16 => ?_)
            · rw [if_pos c16] at h
              refine lv_iload hx hb dX2_isOn_98 (lv_at hl 6 rfl) ?_
              obtain rfl := Option.some.inj h
              exact KJ100 ls (lv_sub hl [1, 2, 3, 4, 5, 6] rfl)
            · rw [if_neg c16] at h
              refine lv_iload hx hb dX2_isOn_93 (lv_at hl 4 rfl) ?_
              refine lv_goto (tgt := 100) hx hb dX2_isOn_95 (by decide) ?_
              obtain rfl := Option.some.inj h
              exact KJ100 ls (lv_sub hl [1, 2, 3, 4, 5, 6] rfl)
    · have h := hm77
      refine lv_icmp_lt (tgt := 76) hx hb dX2_isOn_51 (by decide) (fun c17 => ?_) (fun c17 => ?_)
      · rw [if_pos c17] at h
        refine lv_iconst (v := 0) hx hb dX2_isOn_76 (by decide) ?_
        obtain rfl := Option.some.inj h
        exact KJ77 ls (lv_sub hl [0, 1, 2, 3, 4, 5] rfl)
      · rw [if_neg c17] at h
        refine lv_iload_n hx hb dX2_isOn_54 rfl (lv_at hl 0 rfl) ?_
        refine lv_iload hx hb dX2_isOn_55 (lv_at hl 2 rfl) ?_
        refine lv_iload hx hb dX2_isOn_57 (lv_at hl 4 rfl) ?_
        refine lv_icmp_le (tgt := 67) hx hb dX2_isOn_59 (by decide) (fun c18 => ?_) (fun c18 => ?_)
        · rw [if_pos c18] at h
          refine lv_iload hx hb dX2_isOn_67 (lv_at hl 4 rfl) ?_
          refine lv_icmp_gt (tgt := 76) hx hb dX2_isOn_69 (by decide) (fun c19 => ?_) (fun c19 => ?_)
          · rw [if_pos c19] at h
            refine lv_iconst (v := 0) hx hb dX2_isOn_76 (by decide) ?_
            obtain rfl := Option.some.inj h
            exact KJ77 ls (lv_sub hl [0, 1, 2, 3, 4, 5] rfl)
          · rw [if_neg c19] at h
            refine lv_iconst (v := 1) hx hb dX2_isOn_72 (by decide) ?_
            refine lv_goto (tgt := 77) hx hb dX2_isOn_73 (by decide) ?_
            obtain rfl := Option.some.inj h
            exact KJ77 ls (lv_sub hl [0, 1, 2, 3, 4, 5] rfl)
        · rw [if_neg c18] at h
          refine lv_iload hx hb dX2_isOn_62 (lv_at hl 2 rfl) ?_
          refine lv_goto (tgt := 69) hx hb dX2_isOn_64 (by decide) ?_
          refine lv_icmp_gt (tgt := 76) hx hb dX2_isOn_69 (by decide) (fun c20 => ?_) (fun c20 => ?_)
          · rw [if_pos c20] at h
            refine lv_iconst (v := 0) hx hb dX2_isOn_76 (by decide) ?_
            obtain rfl := Option.some.inj h
            exact KJ77 ls (lv_sub hl [0, 1, 2, 3, 4, 5] rfl)
          · rw [if_neg c20] at h
            refine lv_iconst (v := 1) hx hb dX2_isOn_72 (by decide) ?_
            refine lv_goto (tgt := 77) hx hb dX2_isOn_73 (by decide) ?_
            obtain rfl := Option.some.inj h
            exact KJ77 ls (lv_sub hl [0, 1, 2, 3, 4, 5] rfl)
  · have h := hm51
    refine lv_icmp_ge (tgt := 49) hx hb dX2_isOn_41 (by decide) (fun c21 => ?_) (fun c21 => ?_)
    · rw [if_pos c21] at h
      refine lv_iload hx hb dX2_isOn_49 (lv_at hl 1 rfl) ?_
      obtain rfl := Option.some.inj h
      exact KJ51 ls (lv_sub hl [7, 8, 3, 2, 1, 0] rfl)
    · rw [if_neg c21] at h
      refine lv_iload hx hb dX2_isOn_44 (lv_at hl 3 rfl) ?_
      refine lv_goto (tgt := 51) hx hb dX2_isOn_46 (by decide) ?_
      obtain rfl := Option.some.inj h
      exact KJ51 ls (lv_sub hl [7, 8, 3, 2, 1, 0] rfl)
def f_X2_meet (pt : Nat → Int32) (px : Nat → Int32) (py : Nat → Int32) (a1 : Int32) (a2 : Int32) (a3 : Int32) : Option Int32 :=
  (f_X2_x pt px a1 a3).bind fun r1 =>
  (f_X2_y pt py a1 a3).bind fun r2 =>
  (f_X2_isOn pt px py a1 a2 r1 r2).bind fun r3 =>
  if r3 = (0) then
  ((f_X2_x pt px a1 (a3 + (1 : Int32))).bind fun r5 =>
  (f_X2_y pt py a1 (a3 + (1 : Int32))).bind fun r6 =>
  (f_X2_isOn pt px py a1 a2 r5 r6).bind fun r7 =>
  if r7 = (0) then
  ((f_X2_x pt px a1 a2).bind fun r9 =>
  (f_X2_y pt py a1 a2).bind fun r10 =>
  (f_X2_isOn pt px py a1 a3 r9 r10).bind fun r11 =>
  if r11 = (0) then
  ((f_X2_x pt px a1 (a2 + (1 : Int32))).bind fun r13 =>
  (f_X2_y pt py a1 (a2 + (1 : Int32))).bind fun r14 =>
  (f_X2_isOn pt px py a1 a3 r13 r14).bind fun r15 =>
  if r15 = (0) then
  ((f_X2_x pt px a1 a2).bind fun r17 =>
  (f_X2_y pt py a1 a2).bind fun r18 =>
  (f_X2_x pt px a1 (a2 + (1 : Int32))).bind fun r19 =>
  (f_X2_y pt py a1 (a2 + (1 : Int32))).bind fun r20 =>
  (f_X2_x pt px a1 a3).bind fun r21 =>
  (f_X2_y pt py a1 a3).bind fun r22 =>
  (f_X2_side r17 r18 r19 r20 r21 r22).bind fun r23 =>
  (f_X2_sign r23).bind fun r24 =>
  (f_X2_x pt px a1 a2).bind fun r25 =>
  (f_X2_y pt py a1 a2).bind fun r26 =>
  (f_X2_x pt px a1 (a2 + (1 : Int32))).bind fun r27 =>
  (f_X2_y pt py a1 (a2 + (1 : Int32))).bind fun r28 =>
  (f_X2_x pt px a1 (a3 + (1 : Int32))).bind fun r29 =>
  (f_X2_y pt py a1 (a3 + (1 : Int32))).bind fun r30 =>
  (f_X2_side r25 r26 r27 r28 r29 r30).bind fun r31 =>
  (f_X2_sign r31).bind fun r32 =>
  (f_X2_x pt px a1 a3).bind fun r33 =>
  (f_X2_y pt py a1 a3).bind fun r34 =>
  (f_X2_x pt px a1 (a3 + (1 : Int32))).bind fun r35 =>
  (f_X2_y pt py a1 (a3 + (1 : Int32))).bind fun r36 =>
  (f_X2_x pt px a1 a2).bind fun r37 =>
  (f_X2_y pt py a1 a2).bind fun r38 =>
  (f_X2_side r33 r34 r35 r36 r37 r38).bind fun r39 =>
  (f_X2_sign r39).bind fun r40 =>
  (f_X2_x pt px a1 a3).bind fun r41 =>
  (f_X2_y pt py a1 a3).bind fun r42 =>
  (f_X2_x pt px a1 (a3 + (1 : Int32))).bind fun r43 =>
  (f_X2_y pt py a1 (a3 + (1 : Int32))).bind fun r44 =>
  (f_X2_x pt px a1 (a2 + (1 : Int32))).bind fun r45 =>
  (f_X2_y pt py a1 (a2 + (1 : Int32))).bind fun r46 =>
  (f_X2_side r41 r42 r43 r44 r45 r46).bind fun r47 =>
  (f_X2_sign r47).bind fun r48 =>
  if (0) ≤ (r24 * r32) then
  (some (0 : Int32))
  else
  (if (0) ≤ (r40 * r48) then
  (some (0 : Int32))
  else
  (some (1 : Int32))))
  else
  (some (1 : Int32)))
  else
  (some (1 : Int32)))
  else
  (some (1 : Int32)))
  else
  (some (1 : Int32))
set_option maxHeartbeats 4000000 in
set_option maxRecDepth 100000 in
theorem k_X2_meet (l : Launch) (D : va_G) (cI cF : ClassId) (m0 : Nat) (m1 : Nat) (m2 : Nat) (m3 : Nat) (m4 : Nat) (m5 : Nat) (pt : Nat → Int32) (px : Nat → Int32) (py : Nat → Int32) (ro : Int32) (an : Int32) (te : Int32) (fx : Int32) (fy : Int32) (ar : Int32) (be : Int32) (ma : Int32) (nx : Nat → Int32) (ny : Nat → Int32) (a1 : Int32) (a2 : Int32) (a3 : Int32) (r0 : Int32) (h : f_X2_meet pt px py a1 a2 a3 = some r0) : Met l yX2_meet wsX2_meet ({ frames := 2, cells := 0, slots := 0, locals := 54 }) (va_Pc [.ref m0, .int a1, .int a2, .int a3] (fun U => wK D cI cF (moW cI m0 m1 m2 m3 m4 m5 pt px py ro an te fx fy ar be ma nx ny) U)) (qS (.int r0)) 0 0 (fun _ => False) := by
  refine Met.ofW (cc := cX2_meet) (maxL := 8) (ret := (some .boolean)) (by decide) rfl ?_
  intro p e s m args below meth c s₁ B hml hv
  obtain ⟨rfl, hK, hP⟩ := hv
  have hx := B.exec
  have hb := B.bytes
  have hr := B.returns
  have hts := atoms_spec (ws := wsX2_meet) B.pre
  have hown : s.vm.findClass RX2 = some m.cls := findClass_of_methodNamed B.named
  have hlocks := B.notSynchronized
  have hl := lv_entry ([.ref m0, .int a1, .int a2, .int a3]) (n := 8) (Nat.le_of_ble_eq_true rfl)
  rw [lg_entry_eq]
  generalize (lg_sl ([.ref m0, .int a1, .int a2, .int a3]) ++ List.replicate (8 - (lg_sl ([.ref m0, .int a1, .int a2, .int a3])).length) Slot.unset).toArray = ls at hl ⊢
  have hl : lv_has ls 8 [(0, .ref m0), (1, .int a1), (2, .int a2), (3, .int a3)] := hl
  unfold f_X2_meet at h
  refine lv_aload_n hx hb dX2_meet_0 rfl (lv_at hl 0 rfl) ?_
  refine lv_iload_n hx hb dX2_meet_1 rfl (lv_at hl 1 rfl) ?_
  refine lv_iload_n hx hb dX2_meet_2 rfl (lv_at hl 2 rfl) ?_
  refine lv_aload_n hx hb dX2_meet_3 rfl (lv_at hl 0 rfl) ?_
  refine lv_iload_n hx hb dX2_meet_4 rfl (lv_at hl 1 rfl) ?_
  refine lv_iload_n hx hb dX2_meet_5 rfl (lv_at hl 3 rfl) ?_
  obtain ⟨r1, hcr1, h⟩ := og_bind h
  refine cp_s (va_runV (As := [.int a1, .int a3]) (rest := [.int a2, .int a1, .ref m0]) ⟨hx, hb, hml, hown, hts⟩ (k_X2_x l D cI cF m0 m1 m2 m3 m4 m5 pt px py ro an te fx fy ar be ma nx ny a1 a3 _ hcr1) (cwV 2 hts gX2_meet_X2_x rfl rfl rfl (by decide +kernel) ⟨(Nat.le_of_ble_eq_true rfl), (Nat.le_of_ble_eq_true rfl)⟩) (pre_v (q0 := 0) (ci := 2) hK hP rfl rfl) rfl rfl hl.1 rfl (lv_room (Nat.le_of_ble_eq_true rfl)) dX2_meet_6 ⟨(Nat.zero_le _), (Nat.zero_le _)⟩) ?_
  refine lv_aload_n hx hb dX2_meet_9 rfl (lv_at hl 0 rfl) ?_
  refine lv_iload_n hx hb dX2_meet_10 rfl (lv_at hl 1 rfl) ?_
  refine lv_iload_n hx hb dX2_meet_11 rfl (lv_at hl 3 rfl) ?_
  obtain ⟨r2, hcr2, h⟩ := og_bind h
  refine cp_s (va_runV (As := [.int a1, .int a3]) (rest := [.int r1, .int a2, .int a1, .ref m0]) ⟨hx, hb, hml, hown, hts⟩ (k_X2_y l D cI cF m0 m1 m2 m3 m4 m5 pt px py ro an te fx fy ar be ma nx ny a1 a3 _ hcr2) (cwV 2 hts gX2_meet_X2_y rfl rfl rfl (by decide +kernel) ⟨(Nat.le_of_ble_eq_true rfl), (Nat.le_of_ble_eq_true rfl)⟩) (pre_v (q0 := 0) (ci := 2) hK hP rfl rfl) rfl rfl hl.1 rfl (lv_room (Nat.le_of_ble_eq_true rfl)) dX2_meet_12 ⟨(Nat.zero_le _), (Nat.zero_le _)⟩) ?_
  obtain ⟨r3, hcr3, h⟩ := og_bind h
  refine cp_s (va_runV (As := [.int a1, .int a2, .int r1, .int r2]) (rest := []) ⟨hx, hb, hml, hown, hts⟩ (k_X2_isOn l D cI cF m0 m1 m2 m3 m4 m5 pt px py ro an te fx fy ar be ma nx ny a1 a2 r1 r2 _ hcr3) (cwV 4 hts gX2_meet_X2_isOn rfl rfl rfl (by decide +kernel) ⟨(Nat.le_of_ble_eq_true rfl), (Nat.le_of_ble_eq_true rfl)⟩) (pre_v (q0 := 0) (ci := 2) hK hP rfl rfl) rfl rfl hl.1 rfl (lv_room (Nat.le_of_ble_eq_true rfl)) dX2_meet_15 ⟨(Nat.zero_le _), (Nat.zero_le _)⟩) ?_
  refine lv_if_ne (tgt := 92) hx hb dX2_meet_18 (by decide) (fun c3 => ?_) (fun c3 => ?_)
  · rw [if_neg c3] at h
    refine lv_iconst (v := 1) hx hb dX2_meet_92 (by decide) ?_
    obtain rfl := Option.some.inj h
    exact W.zret hx hb hr rfl (fun t ht _ => ⟨rfl, ht⟩) (fun _ h9 => absurd h9 List.not_mem_nil) dX2_meet_93
  · rw [if_pos c3] at h
    refine lv_aload_n hx hb dX2_meet_21 rfl (lv_at hl 0 rfl) ?_
    refine lv_iload_n hx hb dX2_meet_22 rfl (lv_at hl 1 rfl) ?_
    refine lv_iload_n hx hb dX2_meet_23 rfl (lv_at hl 2 rfl) ?_
    refine lv_aload_n hx hb dX2_meet_24 rfl (lv_at hl 0 rfl) ?_
    refine lv_iload_n hx hb dX2_meet_25 rfl (lv_at hl 1 rfl) ?_
    refine lv_iload_n hx hb dX2_meet_26 rfl (lv_at hl 3 rfl) ?_
    refine lv_iconst (v := 1) hx hb dX2_meet_27 (by decide) ?_
    refine lv_iadd hx hb dX2_meet_28 ?_
    obtain ⟨r5, hcr5, h⟩ := og_bind h
    refine cp_s (va_runV (As := [.int a1, .int (a3 + (1 : Int32))]) (rest := [.int a2, .int a1, .ref m0]) ⟨hx, hb, hml, hown, hts⟩ (k_X2_x l D cI cF m0 m1 m2 m3 m4 m5 pt px py ro an te fx fy ar be ma nx ny a1 (a3 + (1 : Int32)) _ hcr5) (cwV 2 hts gX2_meet_X2_x rfl rfl rfl (by decide +kernel) ⟨(Nat.le_of_ble_eq_true rfl), (Nat.le_of_ble_eq_true rfl)⟩) (pre_v (q0 := 0) (ci := 2) hK hP rfl rfl) rfl rfl hl.1 rfl (lv_room (Nat.le_of_ble_eq_true rfl)) dX2_meet_29 ⟨(Nat.zero_le _), (Nat.zero_le _)⟩) ?_
    refine lv_aload_n hx hb dX2_meet_32 rfl (lv_at hl 0 rfl) ?_
    refine lv_iload_n hx hb dX2_meet_33 rfl (lv_at hl 1 rfl) ?_
    refine lv_iload_n hx hb dX2_meet_34 rfl (lv_at hl 3 rfl) ?_
    refine lv_iconst (v := 1) hx hb dX2_meet_35 (by decide) ?_
    refine lv_iadd hx hb dX2_meet_36 ?_
    obtain ⟨r6, hcr6, h⟩ := og_bind h
    refine cp_s (va_runV (As := [.int a1, .int (a3 + (1 : Int32))]) (rest := [.int r5, .int a2, .int a1, .ref m0]) ⟨hx, hb, hml, hown, hts⟩ (k_X2_y l D cI cF m0 m1 m2 m3 m4 m5 pt px py ro an te fx fy ar be ma nx ny a1 (a3 + (1 : Int32)) _ hcr6) (cwV 2 hts gX2_meet_X2_y rfl rfl rfl (by decide +kernel) ⟨(Nat.le_of_ble_eq_true rfl), (Nat.le_of_ble_eq_true rfl)⟩) (pre_v (q0 := 0) (ci := 2) hK hP rfl rfl) rfl rfl hl.1 rfl (lv_room (Nat.le_of_ble_eq_true rfl)) dX2_meet_37 ⟨(Nat.zero_le _), (Nat.zero_le _)⟩) ?_
    obtain ⟨r7, hcr7, h⟩ := og_bind h
    refine cp_s (va_runV (As := [.int a1, .int a2, .int r5, .int r6]) (rest := []) ⟨hx, hb, hml, hown, hts⟩ (k_X2_isOn l D cI cF m0 m1 m2 m3 m4 m5 pt px py ro an te fx fy ar be ma nx ny a1 a2 r5 r6 _ hcr7) (cwV 4 hts gX2_meet_X2_isOn rfl rfl rfl (by decide +kernel) ⟨(Nat.le_of_ble_eq_true rfl), (Nat.le_of_ble_eq_true rfl)⟩) (pre_v (q0 := 0) (ci := 2) hK hP rfl rfl) rfl rfl hl.1 rfl (lv_room (Nat.le_of_ble_eq_true rfl)) dX2_meet_40 ⟨(Nat.zero_le _), (Nat.zero_le _)⟩) ?_
    refine lv_if_ne (tgt := 92) hx hb dX2_meet_43 (by decide) (fun c7 => ?_) (fun c7 => ?_)
    · rw [if_neg c7] at h
      refine lv_iconst (v := 1) hx hb dX2_meet_92 (by decide) ?_
      obtain rfl := Option.some.inj h
      exact W.zret hx hb hr rfl (fun t ht _ => ⟨rfl, ht⟩) (fun _ h9 => absurd h9 List.not_mem_nil) dX2_meet_93
    · rw [if_pos c7] at h
      refine lv_aload_n hx hb dX2_meet_46 rfl (lv_at hl 0 rfl) ?_
      refine lv_iload_n hx hb dX2_meet_47 rfl (lv_at hl 1 rfl) ?_
      refine lv_iload_n hx hb dX2_meet_48 rfl (lv_at hl 3 rfl) ?_
      refine lv_aload_n hx hb dX2_meet_49 rfl (lv_at hl 0 rfl) ?_
      refine lv_iload_n hx hb dX2_meet_50 rfl (lv_at hl 1 rfl) ?_
      refine lv_iload_n hx hb dX2_meet_51 rfl (lv_at hl 2 rfl) ?_
      obtain ⟨r9, hcr9, h⟩ := og_bind h
      refine cp_s (va_runV (As := [.int a1, .int a2]) (rest := [.int a3, .int a1, .ref m0]) ⟨hx, hb, hml, hown, hts⟩ (k_X2_x l D cI cF m0 m1 m2 m3 m4 m5 pt px py ro an te fx fy ar be ma nx ny a1 a2 _ hcr9) (cwV 2 hts gX2_meet_X2_x rfl rfl rfl (by decide +kernel) ⟨(Nat.le_of_ble_eq_true rfl), (Nat.le_of_ble_eq_true rfl)⟩) (pre_v (q0 := 0) (ci := 2) hK hP rfl rfl) rfl rfl hl.1 rfl (lv_room (Nat.le_of_ble_eq_true rfl)) dX2_meet_52 ⟨(Nat.zero_le _), (Nat.zero_le _)⟩) ?_
      refine lv_aload_n hx hb dX2_meet_55 rfl (lv_at hl 0 rfl) ?_
      refine lv_iload_n hx hb dX2_meet_56 rfl (lv_at hl 1 rfl) ?_
      refine lv_iload_n hx hb dX2_meet_57 rfl (lv_at hl 2 rfl) ?_
      obtain ⟨r10, hcr10, h⟩ := og_bind h
      refine cp_s (va_runV (As := [.int a1, .int a2]) (rest := [.int r9, .int a3, .int a1, .ref m0]) ⟨hx, hb, hml, hown, hts⟩ (k_X2_y l D cI cF m0 m1 m2 m3 m4 m5 pt px py ro an te fx fy ar be ma nx ny a1 a2 _ hcr10) (cwV 2 hts gX2_meet_X2_y rfl rfl rfl (by decide +kernel) ⟨(Nat.le_of_ble_eq_true rfl), (Nat.le_of_ble_eq_true rfl)⟩) (pre_v (q0 := 0) (ci := 2) hK hP rfl rfl) rfl rfl hl.1 rfl (lv_room (Nat.le_of_ble_eq_true rfl)) dX2_meet_58 ⟨(Nat.zero_le _), (Nat.zero_le _)⟩) ?_
      obtain ⟨r11, hcr11, h⟩ := og_bind h
      refine cp_s (va_runV (As := [.int a1, .int a3, .int r9, .int r10]) (rest := []) ⟨hx, hb, hml, hown, hts⟩ (k_X2_isOn l D cI cF m0 m1 m2 m3 m4 m5 pt px py ro an te fx fy ar be ma nx ny a1 a3 r9 r10 _ hcr11) (cwV 4 hts gX2_meet_X2_isOn rfl rfl rfl (by decide +kernel) ⟨(Nat.le_of_ble_eq_true rfl), (Nat.le_of_ble_eq_true rfl)⟩) (pre_v (q0 := 0) (ci := 2) hK hP rfl rfl) rfl rfl hl.1 rfl (lv_room (Nat.le_of_ble_eq_true rfl)) dX2_meet_61 ⟨(Nat.zero_le _), (Nat.zero_le _)⟩) ?_
      refine lv_if_ne (tgt := 92) hx hb dX2_meet_64 (by decide) (fun c11 => ?_) (fun c11 => ?_)
      · rw [if_neg c11] at h
        refine lv_iconst (v := 1) hx hb dX2_meet_92 (by decide) ?_
        obtain rfl := Option.some.inj h
        exact W.zret hx hb hr rfl (fun t ht _ => ⟨rfl, ht⟩) (fun _ h9 => absurd h9 List.not_mem_nil) dX2_meet_93
      · rw [if_pos c11] at h
        refine lv_aload_n hx hb dX2_meet_67 rfl (lv_at hl 0 rfl) ?_
        refine lv_iload_n hx hb dX2_meet_68 rfl (lv_at hl 1 rfl) ?_
        refine lv_iload_n hx hb dX2_meet_69 rfl (lv_at hl 3 rfl) ?_
        refine lv_aload_n hx hb dX2_meet_70 rfl (lv_at hl 0 rfl) ?_
        refine lv_iload_n hx hb dX2_meet_71 rfl (lv_at hl 1 rfl) ?_
        refine lv_iload_n hx hb dX2_meet_72 rfl (lv_at hl 2 rfl) ?_
        refine lv_iconst (v := 1) hx hb dX2_meet_73 (by decide) ?_
        refine lv_iadd hx hb dX2_meet_74 ?_
        obtain ⟨r13, hcr13, h⟩ := og_bind h
        refine cp_s (va_runV (As := [.int a1, .int (a2 + (1 : Int32))]) (rest := [.int a3, .int a1, .ref m0]) ⟨hx, hb, hml, hown, hts⟩ (k_X2_x l D cI cF m0 m1 m2 m3 m4 m5 pt px py ro an te fx fy ar be ma nx ny a1 (a2 + (1 : Int32)) _ hcr13) (cwV 2 hts gX2_meet_X2_x rfl rfl rfl (by decide +kernel) ⟨(Nat.le_of_ble_eq_true rfl), (Nat.le_of_ble_eq_true rfl)⟩) (pre_v (q0 := 0) (ci := 2) hK hP rfl rfl) rfl rfl hl.1 rfl (lv_room (Nat.le_of_ble_eq_true rfl)) dX2_meet_75 ⟨(Nat.zero_le _), (Nat.zero_le _)⟩) ?_
        refine lv_aload_n hx hb dX2_meet_78 rfl (lv_at hl 0 rfl) ?_
        refine lv_iload_n hx hb dX2_meet_79 rfl (lv_at hl 1 rfl) ?_
        refine lv_iload_n hx hb dX2_meet_80 rfl (lv_at hl 2 rfl) ?_
        refine lv_iconst (v := 1) hx hb dX2_meet_81 (by decide) ?_
        refine lv_iadd hx hb dX2_meet_82 ?_
        obtain ⟨r14, hcr14, h⟩ := og_bind h
        refine cp_s (va_runV (As := [.int a1, .int (a2 + (1 : Int32))]) (rest := [.int r13, .int a3, .int a1, .ref m0]) ⟨hx, hb, hml, hown, hts⟩ (k_X2_y l D cI cF m0 m1 m2 m3 m4 m5 pt px py ro an te fx fy ar be ma nx ny a1 (a2 + (1 : Int32)) _ hcr14) (cwV 2 hts gX2_meet_X2_y rfl rfl rfl (by decide +kernel) ⟨(Nat.le_of_ble_eq_true rfl), (Nat.le_of_ble_eq_true rfl)⟩) (pre_v (q0 := 0) (ci := 2) hK hP rfl rfl) rfl rfl hl.1 rfl (lv_room (Nat.le_of_ble_eq_true rfl)) dX2_meet_83 ⟨(Nat.zero_le _), (Nat.zero_le _)⟩) ?_
        obtain ⟨r15, hcr15, h⟩ := og_bind h
        refine cp_s (va_runV (As := [.int a1, .int a3, .int r13, .int r14]) (rest := []) ⟨hx, hb, hml, hown, hts⟩ (k_X2_isOn l D cI cF m0 m1 m2 m3 m4 m5 pt px py ro an te fx fy ar be ma nx ny a1 a3 r13 r14 _ hcr15) (cwV 4 hts gX2_meet_X2_isOn rfl rfl rfl (by decide +kernel) ⟨(Nat.le_of_ble_eq_true rfl), (Nat.le_of_ble_eq_true rfl)⟩) (pre_v (q0 := 0) (ci := 2) hK hP rfl rfl) rfl rfl hl.1 rfl (lv_room (Nat.le_of_ble_eq_true rfl)) dX2_meet_86 ⟨(Nat.zero_le _), (Nat.zero_le _)⟩) ?_
        refine lv_if_eq (tgt := 94) hx hb dX2_meet_89 (by decide) (fun c15 => ?_) (fun c15 => ?_)
        · rw [if_pos c15] at h
          refine lv_aload_n hx hb dX2_meet_94 rfl (lv_at hl 0 rfl) ?_
          refine lv_iload_n hx hb dX2_meet_95 rfl (lv_at hl 1 rfl) ?_
          refine lv_iload_n hx hb dX2_meet_96 rfl (lv_at hl 2 rfl) ?_
          obtain ⟨r17, hcr17, h⟩ := og_bind h
          refine cp_s (va_runV (As := [.int a1, .int a2]) (rest := []) ⟨hx, hb, hml, hown, hts⟩ (k_X2_x l D cI cF m0 m1 m2 m3 m4 m5 pt px py ro an te fx fy ar be ma nx ny a1 a2 _ hcr17) (cwV 2 hts gX2_meet_X2_x rfl rfl rfl (by decide +kernel) ⟨(Nat.le_of_ble_eq_true rfl), (Nat.le_of_ble_eq_true rfl)⟩) (pre_v (q0 := 0) (ci := 2) hK hP rfl rfl) rfl rfl hl.1 rfl (lv_room (Nat.le_of_ble_eq_true rfl)) dX2_meet_97 ⟨(Nat.zero_le _), (Nat.zero_le _)⟩) ?_
          refine lv_aload_n hx hb dX2_meet_100 rfl (lv_at hl 0 rfl) ?_
          refine lv_iload_n hx hb dX2_meet_101 rfl (lv_at hl 1 rfl) ?_
          refine lv_iload_n hx hb dX2_meet_102 rfl (lv_at hl 2 rfl) ?_
          obtain ⟨r18, hcr18, h⟩ := og_bind h
          refine cp_s (va_runV (As := [.int a1, .int a2]) (rest := [.int r17]) ⟨hx, hb, hml, hown, hts⟩ (k_X2_y l D cI cF m0 m1 m2 m3 m4 m5 pt px py ro an te fx fy ar be ma nx ny a1 a2 _ hcr18) (cwV 2 hts gX2_meet_X2_y rfl rfl rfl (by decide +kernel) ⟨(Nat.le_of_ble_eq_true rfl), (Nat.le_of_ble_eq_true rfl)⟩) (pre_v (q0 := 0) (ci := 2) hK hP rfl rfl) rfl rfl hl.1 rfl (lv_room (Nat.le_of_ble_eq_true rfl)) dX2_meet_103 ⟨(Nat.zero_le _), (Nat.zero_le _)⟩) ?_
          refine lv_aload_n hx hb dX2_meet_106 rfl (lv_at hl 0 rfl) ?_
          refine lv_iload_n hx hb dX2_meet_107 rfl (lv_at hl 1 rfl) ?_
          refine lv_iload_n hx hb dX2_meet_108 rfl (lv_at hl 2 rfl) ?_
          refine lv_iconst (v := 1) hx hb dX2_meet_109 (by decide) ?_
          refine lv_iadd hx hb dX2_meet_110 ?_
          obtain ⟨r19, hcr19, h⟩ := og_bind h
          refine cp_s (va_runV (As := [.int a1, .int (a2 + (1 : Int32))]) (rest := [.int r18, .int r17]) ⟨hx, hb, hml, hown, hts⟩ (k_X2_x l D cI cF m0 m1 m2 m3 m4 m5 pt px py ro an te fx fy ar be ma nx ny a1 (a2 + (1 : Int32)) _ hcr19) (cwV 2 hts gX2_meet_X2_x rfl rfl rfl (by decide +kernel) ⟨(Nat.le_of_ble_eq_true rfl), (Nat.le_of_ble_eq_true rfl)⟩) (pre_v (q0 := 0) (ci := 2) hK hP rfl rfl) rfl rfl hl.1 rfl (lv_room (Nat.le_of_ble_eq_true rfl)) dX2_meet_111 ⟨(Nat.zero_le _), (Nat.zero_le _)⟩) ?_
          refine lv_aload_n hx hb dX2_meet_114 rfl (lv_at hl 0 rfl) ?_
          refine lv_iload_n hx hb dX2_meet_115 rfl (lv_at hl 1 rfl) ?_
          refine lv_iload_n hx hb dX2_meet_116 rfl (lv_at hl 2 rfl) ?_
          refine lv_iconst (v := 1) hx hb dX2_meet_117 (by decide) ?_
          refine lv_iadd hx hb dX2_meet_118 ?_
          obtain ⟨r20, hcr20, h⟩ := og_bind h
          refine cp_s (va_runV (As := [.int a1, .int (a2 + (1 : Int32))]) (rest := [.int r19, .int r18, .int r17]) ⟨hx, hb, hml, hown, hts⟩ (k_X2_y l D cI cF m0 m1 m2 m3 m4 m5 pt px py ro an te fx fy ar be ma nx ny a1 (a2 + (1 : Int32)) _ hcr20) (cwV 2 hts gX2_meet_X2_y rfl rfl rfl (by decide +kernel) ⟨(Nat.le_of_ble_eq_true rfl), (Nat.le_of_ble_eq_true rfl)⟩) (pre_v (q0 := 0) (ci := 2) hK hP rfl rfl) rfl rfl hl.1 rfl (lv_room (Nat.le_of_ble_eq_true rfl)) dX2_meet_119 ⟨(Nat.zero_le _), (Nat.zero_le _)⟩) ?_
          refine lv_aload_n hx hb dX2_meet_122 rfl (lv_at hl 0 rfl) ?_
          refine lv_iload_n hx hb dX2_meet_123 rfl (lv_at hl 1 rfl) ?_
          refine lv_iload_n hx hb dX2_meet_124 rfl (lv_at hl 3 rfl) ?_
          obtain ⟨r21, hcr21, h⟩ := og_bind h
          refine cp_s (va_runV (As := [.int a1, .int a3]) (rest := [.int r20, .int r19, .int r18, .int r17]) ⟨hx, hb, hml, hown, hts⟩ (k_X2_x l D cI cF m0 m1 m2 m3 m4 m5 pt px py ro an te fx fy ar be ma nx ny a1 a3 _ hcr21) (cwV 2 hts gX2_meet_X2_x rfl rfl rfl (by decide +kernel) ⟨(Nat.le_of_ble_eq_true rfl), (Nat.le_of_ble_eq_true rfl)⟩) (pre_v (q0 := 0) (ci := 2) hK hP rfl rfl) rfl rfl hl.1 rfl (lv_room (Nat.le_of_ble_eq_true rfl)) dX2_meet_125 ⟨(Nat.zero_le _), (Nat.zero_le _)⟩) ?_
          refine lv_aload_n hx hb dX2_meet_128 rfl (lv_at hl 0 rfl) ?_
          refine lv_iload_n hx hb dX2_meet_129 rfl (lv_at hl 1 rfl) ?_
          refine lv_iload_n hx hb dX2_meet_130 rfl (lv_at hl 3 rfl) ?_
          obtain ⟨r22, hcr22, h⟩ := og_bind h
          refine cp_s (va_runV (As := [.int a1, .int a3]) (rest := [.int r21, .int r20, .int r19, .int r18, .int r17]) ⟨hx, hb, hml, hown, hts⟩ (k_X2_y l D cI cF m0 m1 m2 m3 m4 m5 pt px py ro an te fx fy ar be ma nx ny a1 a3 _ hcr22) (cwV 2 hts gX2_meet_X2_y rfl rfl rfl (by decide +kernel) ⟨(Nat.le_of_ble_eq_true rfl), (Nat.le_of_ble_eq_true rfl)⟩) (pre_v (q0 := 0) (ci := 2) hK hP rfl rfl) rfl rfl hl.1 rfl (lv_room (Nat.le_of_ble_eq_true rfl)) dX2_meet_131 ⟨(Nat.zero_le _), (Nat.zero_le _)⟩) ?_
          obtain ⟨r23, hcr23, h⟩ := og_bind h
          refine cp_s (va_runS (As := [.int r17, .int r18, .int r19, .int r20, .int r21, .int r22]) (rest := []) ⟨hx, hb, hml, hown, hts⟩ (k_X2_side l r17 r18 r19 r20 r21 r22 _ hcr23) (va_cwS 6 hts gX2_meet_X2_side rfl rfl rfl (by decide +kernel) ⟨(Nat.le_of_ble_eq_true rfl), (Nat.le_of_ble_eq_true rfl)⟩) pre_s rfl rfl hl.1 rfl (lv_room (Nat.le_of_ble_eq_true rfl)) dX2_meet_134 ⟨(Nat.zero_le _), (Nat.zero_le _)⟩) ?_
          obtain ⟨r24, hcr24, h⟩ := og_bind h
          refine cp_s (va_runS (As := [.long r23]) (rest := []) ⟨hx, hb, hml, hown, hts⟩ (k_X2_sign l r23 _ hcr24) (va_cwS 1 hts gX2_meet_X2_sign rfl rfl rfl (by decide +kernel) ⟨(Nat.le_of_ble_eq_true rfl), (Nat.le_of_ble_eq_true rfl)⟩) pre_s rfl rfl hl.1 rfl (lv_room (Nat.le_of_ble_eq_true rfl)) dX2_meet_137 ⟨(Nat.zero_le _), (Nat.zero_le _)⟩) ?_
          refine lv_istore (lv' := [(4, .int r24), (0, .ref m0), (1, .int a1), (2, .int a2), (3, .int a3)]) hx hb dX2_meet_140 hl (by decide) rfl (fun ls hl => ?_)
          refine lv_aload_n hx hb dX2_meet_142 rfl (lv_at hl 1 rfl) ?_
          refine lv_iload_n hx hb dX2_meet_143 rfl (lv_at hl 2 rfl) ?_
          refine lv_iload_n hx hb dX2_meet_144 rfl (lv_at hl 3 rfl) ?_
          obtain ⟨r25, hcr25, h⟩ := og_bind h
          refine cp_s (va_runV (As := [.int a1, .int a2]) (rest := []) ⟨hx, hb, hml, hown, hts⟩ (k_X2_x l D cI cF m0 m1 m2 m3 m4 m5 pt px py ro an te fx fy ar be ma nx ny a1 a2 _ hcr25) (cwV 2 hts gX2_meet_X2_x rfl rfl rfl (by decide +kernel) ⟨(Nat.le_of_ble_eq_true rfl), (Nat.le_of_ble_eq_true rfl)⟩) (pre_v (q0 := 0) (ci := 2) hK hP rfl rfl) rfl rfl hl.1 rfl (lv_room (Nat.le_of_ble_eq_true rfl)) dX2_meet_145 ⟨(Nat.zero_le _), (Nat.zero_le _)⟩) ?_
          refine lv_aload_n hx hb dX2_meet_148 rfl (lv_at hl 1 rfl) ?_
          refine lv_iload_n hx hb dX2_meet_149 rfl (lv_at hl 2 rfl) ?_
          refine lv_iload_n hx hb dX2_meet_150 rfl (lv_at hl 3 rfl) ?_
          obtain ⟨r26, hcr26, h⟩ := og_bind h
          refine cp_s (va_runV (As := [.int a1, .int a2]) (rest := [.int r25]) ⟨hx, hb, hml, hown, hts⟩ (k_X2_y l D cI cF m0 m1 m2 m3 m4 m5 pt px py ro an te fx fy ar be ma nx ny a1 a2 _ hcr26) (cwV 2 hts gX2_meet_X2_y rfl rfl rfl (by decide +kernel) ⟨(Nat.le_of_ble_eq_true rfl), (Nat.le_of_ble_eq_true rfl)⟩) (pre_v (q0 := 0) (ci := 2) hK hP rfl rfl) rfl rfl hl.1 rfl (lv_room (Nat.le_of_ble_eq_true rfl)) dX2_meet_151 ⟨(Nat.zero_le _), (Nat.zero_le _)⟩) ?_
          refine lv_aload_n hx hb dX2_meet_154 rfl (lv_at hl 1 rfl) ?_
          refine lv_iload_n hx hb dX2_meet_155 rfl (lv_at hl 2 rfl) ?_
          refine lv_iload_n hx hb dX2_meet_156 rfl (lv_at hl 3 rfl) ?_
          refine lv_iconst (v := 1) hx hb dX2_meet_157 (by decide) ?_
          refine lv_iadd hx hb dX2_meet_158 ?_
          obtain ⟨r27, hcr27, h⟩ := og_bind h
          refine cp_s (va_runV (As := [.int a1, .int (a2 + (1 : Int32))]) (rest := [.int r26, .int r25]) ⟨hx, hb, hml, hown, hts⟩ (k_X2_x l D cI cF m0 m1 m2 m3 m4 m5 pt px py ro an te fx fy ar be ma nx ny a1 (a2 + (1 : Int32)) _ hcr27) (cwV 2 hts gX2_meet_X2_x rfl rfl rfl (by decide +kernel) ⟨(Nat.le_of_ble_eq_true rfl), (Nat.le_of_ble_eq_true rfl)⟩) (pre_v (q0 := 0) (ci := 2) hK hP rfl rfl) rfl rfl hl.1 rfl (lv_room (Nat.le_of_ble_eq_true rfl)) dX2_meet_159 ⟨(Nat.zero_le _), (Nat.zero_le _)⟩) ?_
          refine lv_aload_n hx hb dX2_meet_162 rfl (lv_at hl 1 rfl) ?_
          refine lv_iload_n hx hb dX2_meet_163 rfl (lv_at hl 2 rfl) ?_
          refine lv_iload_n hx hb dX2_meet_164 rfl (lv_at hl 3 rfl) ?_
          refine lv_iconst (v := 1) hx hb dX2_meet_165 (by decide) ?_
          refine lv_iadd hx hb dX2_meet_166 ?_
          obtain ⟨r28, hcr28, h⟩ := og_bind h
          refine cp_s (va_runV (As := [.int a1, .int (a2 + (1 : Int32))]) (rest := [.int r27, .int r26, .int r25]) ⟨hx, hb, hml, hown, hts⟩ (k_X2_y l D cI cF m0 m1 m2 m3 m4 m5 pt px py ro an te fx fy ar be ma nx ny a1 (a2 + (1 : Int32)) _ hcr28) (cwV 2 hts gX2_meet_X2_y rfl rfl rfl (by decide +kernel) ⟨(Nat.le_of_ble_eq_true rfl), (Nat.le_of_ble_eq_true rfl)⟩) (pre_v (q0 := 0) (ci := 2) hK hP rfl rfl) rfl rfl hl.1 rfl (lv_room (Nat.le_of_ble_eq_true rfl)) dX2_meet_167 ⟨(Nat.zero_le _), (Nat.zero_le _)⟩) ?_
          refine lv_aload_n hx hb dX2_meet_170 rfl (lv_at hl 1 rfl) ?_
          refine lv_iload_n hx hb dX2_meet_171 rfl (lv_at hl 2 rfl) ?_
          refine lv_iload_n hx hb dX2_meet_172 rfl (lv_at hl 4 rfl) ?_
          refine lv_iconst (v := 1) hx hb dX2_meet_173 (by decide) ?_
          refine lv_iadd hx hb dX2_meet_174 ?_
          obtain ⟨r29, hcr29, h⟩ := og_bind h
          refine cp_s (va_runV (As := [.int a1, .int (a3 + (1 : Int32))]) (rest := [.int r28, .int r27, .int r26, .int r25]) ⟨hx, hb, hml, hown, hts⟩ (k_X2_x l D cI cF m0 m1 m2 m3 m4 m5 pt px py ro an te fx fy ar be ma nx ny a1 (a3 + (1 : Int32)) _ hcr29) (cwV 2 hts gX2_meet_X2_x rfl rfl rfl (by decide +kernel) ⟨(Nat.le_of_ble_eq_true rfl), (Nat.le_of_ble_eq_true rfl)⟩) (pre_v (q0 := 0) (ci := 2) hK hP rfl rfl) rfl rfl hl.1 rfl (lv_room (Nat.le_of_ble_eq_true rfl)) dX2_meet_175 ⟨(Nat.zero_le _), (Nat.zero_le _)⟩) ?_
          refine lv_aload_n hx hb dX2_meet_178 rfl (lv_at hl 1 rfl) ?_
          refine lv_iload_n hx hb dX2_meet_179 rfl (lv_at hl 2 rfl) ?_
          refine lv_iload_n hx hb dX2_meet_180 rfl (lv_at hl 4 rfl) ?_
          refine lv_iconst (v := 1) hx hb dX2_meet_181 (by decide) ?_
          refine lv_iadd hx hb dX2_meet_182 ?_
          obtain ⟨r30, hcr30, h⟩ := og_bind h
          refine cp_s (va_runV (As := [.int a1, .int (a3 + (1 : Int32))]) (rest := [.int r29, .int r28, .int r27, .int r26, .int r25]) ⟨hx, hb, hml, hown, hts⟩ (k_X2_y l D cI cF m0 m1 m2 m3 m4 m5 pt px py ro an te fx fy ar be ma nx ny a1 (a3 + (1 : Int32)) _ hcr30) (cwV 2 hts gX2_meet_X2_y rfl rfl rfl (by decide +kernel) ⟨(Nat.le_of_ble_eq_true rfl), (Nat.le_of_ble_eq_true rfl)⟩) (pre_v (q0 := 0) (ci := 2) hK hP rfl rfl) rfl rfl hl.1 rfl (lv_room (Nat.le_of_ble_eq_true rfl)) dX2_meet_183 ⟨(Nat.zero_le _), (Nat.zero_le _)⟩) ?_
          obtain ⟨r31, hcr31, h⟩ := og_bind h
          refine cp_s (va_runS (As := [.int r25, .int r26, .int r27, .int r28, .int r29, .int r30]) (rest := []) ⟨hx, hb, hml, hown, hts⟩ (k_X2_side l r25 r26 r27 r28 r29 r30 _ hcr31) (va_cwS 6 hts gX2_meet_X2_side rfl rfl rfl (by decide +kernel) ⟨(Nat.le_of_ble_eq_true rfl), (Nat.le_of_ble_eq_true rfl)⟩) pre_s rfl rfl hl.1 rfl (lv_room (Nat.le_of_ble_eq_true rfl)) dX2_meet_186 ⟨(Nat.zero_le _), (Nat.zero_le _)⟩) ?_
          obtain ⟨r32, hcr32, h⟩ := og_bind h
          refine cp_s (va_runS (As := [.long r31]) (rest := []) ⟨hx, hb, hml, hown, hts⟩ (k_X2_sign l r31 _ hcr32) (va_cwS 1 hts gX2_meet_X2_sign rfl rfl rfl (by decide +kernel) ⟨(Nat.le_of_ble_eq_true rfl), (Nat.le_of_ble_eq_true rfl)⟩) pre_s rfl rfl hl.1 rfl (lv_room (Nat.le_of_ble_eq_true rfl)) dX2_meet_189 ⟨(Nat.zero_le _), (Nat.zero_le _)⟩) ?_
          refine lv_istore (lv' := [(5, .int r32), (4, .int r24), (0, .ref m0), (1, .int a1), (2, .int a2), (3, .int a3)]) hx hb dX2_meet_192 hl (by decide) rfl (fun ls hl => ?_)
          refine lv_aload_n hx hb dX2_meet_194 rfl (lv_at hl 2 rfl) ?_
          refine lv_iload_n hx hb dX2_meet_195 rfl (lv_at hl 3 rfl) ?_
          refine lv_iload_n hx hb dX2_meet_196 rfl (lv_at hl 5 rfl) ?_
          obtain ⟨r33, hcr33, h⟩ := og_bind h
          refine cp_s (va_runV (As := [.int a1, .int a3]) (rest := []) ⟨hx, hb, hml, hown, hts⟩ (k_X2_x l D cI cF m0 m1 m2 m3 m4 m5 pt px py ro an te fx fy ar be ma nx ny a1 a3 _ hcr33) (cwV 2 hts gX2_meet_X2_x rfl rfl rfl (by decide +kernel) ⟨(Nat.le_of_ble_eq_true rfl), (Nat.le_of_ble_eq_true rfl)⟩) (pre_v (q0 := 0) (ci := 2) hK hP rfl rfl) rfl rfl hl.1 rfl (lv_room (Nat.le_of_ble_eq_true rfl)) dX2_meet_197 ⟨(Nat.zero_le _), (Nat.zero_le _)⟩) ?_
          refine lv_aload_n hx hb dX2_meet_200 rfl (lv_at hl 2 rfl) ?_
          refine lv_iload_n hx hb dX2_meet_201 rfl (lv_at hl 3 rfl) ?_
          refine lv_iload_n hx hb dX2_meet_202 rfl (lv_at hl 5 rfl) ?_
          obtain ⟨r34, hcr34, h⟩ := og_bind h
          refine cp_s (va_runV (As := [.int a1, .int a3]) (rest := [.int r33]) ⟨hx, hb, hml, hown, hts⟩ (k_X2_y l D cI cF m0 m1 m2 m3 m4 m5 pt px py ro an te fx fy ar be ma nx ny a1 a3 _ hcr34) (cwV 2 hts gX2_meet_X2_y rfl rfl rfl (by decide +kernel) ⟨(Nat.le_of_ble_eq_true rfl), (Nat.le_of_ble_eq_true rfl)⟩) (pre_v (q0 := 0) (ci := 2) hK hP rfl rfl) rfl rfl hl.1 rfl (lv_room (Nat.le_of_ble_eq_true rfl)) dX2_meet_203 ⟨(Nat.zero_le _), (Nat.zero_le _)⟩) ?_
          refine lv_aload_n hx hb dX2_meet_206 rfl (lv_at hl 2 rfl) ?_
          refine lv_iload_n hx hb dX2_meet_207 rfl (lv_at hl 3 rfl) ?_
          refine lv_iload_n hx hb dX2_meet_208 rfl (lv_at hl 5 rfl) ?_
          refine lv_iconst (v := 1) hx hb dX2_meet_209 (by decide) ?_
          refine lv_iadd hx hb dX2_meet_210 ?_
          obtain ⟨r35, hcr35, h⟩ := og_bind h
          refine cp_s (va_runV (As := [.int a1, .int (a3 + (1 : Int32))]) (rest := [.int r34, .int r33]) ⟨hx, hb, hml, hown, hts⟩ (k_X2_x l D cI cF m0 m1 m2 m3 m4 m5 pt px py ro an te fx fy ar be ma nx ny a1 (a3 + (1 : Int32)) _ hcr35) (cwV 2 hts gX2_meet_X2_x rfl rfl rfl (by decide +kernel) ⟨(Nat.le_of_ble_eq_true rfl), (Nat.le_of_ble_eq_true rfl)⟩) (pre_v (q0 := 0) (ci := 2) hK hP rfl rfl) rfl rfl hl.1 rfl (lv_room (Nat.le_of_ble_eq_true rfl)) dX2_meet_211 ⟨(Nat.zero_le _), (Nat.zero_le _)⟩) ?_
          refine lv_aload_n hx hb dX2_meet_214 rfl (lv_at hl 2 rfl) ?_
          refine lv_iload_n hx hb dX2_meet_215 rfl (lv_at hl 3 rfl) ?_
          refine lv_iload_n hx hb dX2_meet_216 rfl (lv_at hl 5 rfl) ?_
          refine lv_iconst (v := 1) hx hb dX2_meet_217 (by decide) ?_
          refine lv_iadd hx hb dX2_meet_218 ?_
          obtain ⟨r36, hcr36, h⟩ := og_bind h
          refine cp_s (va_runV (As := [.int a1, .int (a3 + (1 : Int32))]) (rest := [.int r35, .int r34, .int r33]) ⟨hx, hb, hml, hown, hts⟩ (k_X2_y l D cI cF m0 m1 m2 m3 m4 m5 pt px py ro an te fx fy ar be ma nx ny a1 (a3 + (1 : Int32)) _ hcr36) (cwV 2 hts gX2_meet_X2_y rfl rfl rfl (by decide +kernel) ⟨(Nat.le_of_ble_eq_true rfl), (Nat.le_of_ble_eq_true rfl)⟩) (pre_v (q0 := 0) (ci := 2) hK hP rfl rfl) rfl rfl hl.1 rfl (lv_room (Nat.le_of_ble_eq_true rfl)) dX2_meet_219 ⟨(Nat.zero_le _), (Nat.zero_le _)⟩) ?_
          refine lv_aload_n hx hb dX2_meet_222 rfl (lv_at hl 2 rfl) ?_
          refine lv_iload_n hx hb dX2_meet_223 rfl (lv_at hl 3 rfl) ?_
          refine lv_iload_n hx hb dX2_meet_224 rfl (lv_at hl 4 rfl) ?_
          obtain ⟨r37, hcr37, h⟩ := og_bind h
          refine cp_s (va_runV (As := [.int a1, .int a2]) (rest := [.int r36, .int r35, .int r34, .int r33]) ⟨hx, hb, hml, hown, hts⟩ (k_X2_x l D cI cF m0 m1 m2 m3 m4 m5 pt px py ro an te fx fy ar be ma nx ny a1 a2 _ hcr37) (cwV 2 hts gX2_meet_X2_x rfl rfl rfl (by decide +kernel) ⟨(Nat.le_of_ble_eq_true rfl), (Nat.le_of_ble_eq_true rfl)⟩) (pre_v (q0 := 0) (ci := 2) hK hP rfl rfl) rfl rfl hl.1 rfl (lv_room (Nat.le_of_ble_eq_true rfl)) dX2_meet_225 ⟨(Nat.zero_le _), (Nat.zero_le _)⟩) ?_
          refine lv_aload_n hx hb dX2_meet_228 rfl (lv_at hl 2 rfl) ?_
          refine lv_iload_n hx hb dX2_meet_229 rfl (lv_at hl 3 rfl) ?_
          refine lv_iload_n hx hb dX2_meet_230 rfl (lv_at hl 4 rfl) ?_
          obtain ⟨r38, hcr38, h⟩ := og_bind h
          refine cp_s (va_runV (As := [.int a1, .int a2]) (rest := [.int r37, .int r36, .int r35, .int r34, .int r33]) ⟨hx, hb, hml, hown, hts⟩ (k_X2_y l D cI cF m0 m1 m2 m3 m4 m5 pt px py ro an te fx fy ar be ma nx ny a1 a2 _ hcr38) (cwV 2 hts gX2_meet_X2_y rfl rfl rfl (by decide +kernel) ⟨(Nat.le_of_ble_eq_true rfl), (Nat.le_of_ble_eq_true rfl)⟩) (pre_v (q0 := 0) (ci := 2) hK hP rfl rfl) rfl rfl hl.1 rfl (lv_room (Nat.le_of_ble_eq_true rfl)) dX2_meet_231 ⟨(Nat.zero_le _), (Nat.zero_le _)⟩) ?_
          obtain ⟨r39, hcr39, h⟩ := og_bind h
          refine cp_s (va_runS (As := [.int r33, .int r34, .int r35, .int r36, .int r37, .int r38]) (rest := []) ⟨hx, hb, hml, hown, hts⟩ (k_X2_side l r33 r34 r35 r36 r37 r38 _ hcr39) (va_cwS 6 hts gX2_meet_X2_side rfl rfl rfl (by decide +kernel) ⟨(Nat.le_of_ble_eq_true rfl), (Nat.le_of_ble_eq_true rfl)⟩) pre_s rfl rfl hl.1 rfl (lv_room (Nat.le_of_ble_eq_true rfl)) dX2_meet_234 ⟨(Nat.zero_le _), (Nat.zero_le _)⟩) ?_
          obtain ⟨r40, hcr40, h⟩ := og_bind h
          refine cp_s (va_runS (As := [.long r39]) (rest := []) ⟨hx, hb, hml, hown, hts⟩ (k_X2_sign l r39 _ hcr40) (va_cwS 1 hts gX2_meet_X2_sign rfl rfl rfl (by decide +kernel) ⟨(Nat.le_of_ble_eq_true rfl), (Nat.le_of_ble_eq_true rfl)⟩) pre_s rfl rfl hl.1 rfl (lv_room (Nat.le_of_ble_eq_true rfl)) dX2_meet_237 ⟨(Nat.zero_le _), (Nat.zero_le _)⟩) ?_
          refine lv_istore (lv' := [(6, .int r40), (5, .int r32), (4, .int r24), (0, .ref m0), (1, .int a1), (2, .int a2), (3, .int a3)]) hx hb dX2_meet_240 hl (by decide) rfl (fun ls hl => ?_)
          refine lv_aload_n hx hb dX2_meet_242 rfl (lv_at hl 3 rfl) ?_
          refine lv_iload_n hx hb dX2_meet_243 rfl (lv_at hl 4 rfl) ?_
          refine lv_iload_n hx hb dX2_meet_244 rfl (lv_at hl 6 rfl) ?_
          obtain ⟨r41, hcr41, h⟩ := og_bind h
          refine cp_s (va_runV (As := [.int a1, .int a3]) (rest := []) ⟨hx, hb, hml, hown, hts⟩ (k_X2_x l D cI cF m0 m1 m2 m3 m4 m5 pt px py ro an te fx fy ar be ma nx ny a1 a3 _ hcr41) (cwV 2 hts gX2_meet_X2_x rfl rfl rfl (by decide +kernel) ⟨(Nat.le_of_ble_eq_true rfl), (Nat.le_of_ble_eq_true rfl)⟩) (pre_v (q0 := 0) (ci := 2) hK hP rfl rfl) rfl rfl hl.1 rfl (lv_room (Nat.le_of_ble_eq_true rfl)) dX2_meet_245 ⟨(Nat.zero_le _), (Nat.zero_le _)⟩) ?_
          refine lv_aload_n hx hb dX2_meet_248 rfl (lv_at hl 3 rfl) ?_
          refine lv_iload_n hx hb dX2_meet_249 rfl (lv_at hl 4 rfl) ?_
          refine lv_iload_n hx hb dX2_meet_250 rfl (lv_at hl 6 rfl) ?_
          obtain ⟨r42, hcr42, h⟩ := og_bind h
          refine cp_s (va_runV (As := [.int a1, .int a3]) (rest := [.int r41]) ⟨hx, hb, hml, hown, hts⟩ (k_X2_y l D cI cF m0 m1 m2 m3 m4 m5 pt px py ro an te fx fy ar be ma nx ny a1 a3 _ hcr42) (cwV 2 hts gX2_meet_X2_y rfl rfl rfl (by decide +kernel) ⟨(Nat.le_of_ble_eq_true rfl), (Nat.le_of_ble_eq_true rfl)⟩) (pre_v (q0 := 0) (ci := 2) hK hP rfl rfl) rfl rfl hl.1 rfl (lv_room (Nat.le_of_ble_eq_true rfl)) dX2_meet_251 ⟨(Nat.zero_le _), (Nat.zero_le _)⟩) ?_
          refine lv_aload_n hx hb dX2_meet_254 rfl (lv_at hl 3 rfl) ?_
          refine lv_iload_n hx hb dX2_meet_255 rfl (lv_at hl 4 rfl) ?_
          refine lv_iload_n hx hb dX2_meet_256 rfl (lv_at hl 6 rfl) ?_
          refine lv_iconst (v := 1) hx hb dX2_meet_257 (by decide) ?_
          refine lv_iadd hx hb dX2_meet_258 ?_
          obtain ⟨r43, hcr43, h⟩ := og_bind h
          refine cp_s (va_runV (As := [.int a1, .int (a3 + (1 : Int32))]) (rest := [.int r42, .int r41]) ⟨hx, hb, hml, hown, hts⟩ (k_X2_x l D cI cF m0 m1 m2 m3 m4 m5 pt px py ro an te fx fy ar be ma nx ny a1 (a3 + (1 : Int32)) _ hcr43) (cwV 2 hts gX2_meet_X2_x rfl rfl rfl (by decide +kernel) ⟨(Nat.le_of_ble_eq_true rfl), (Nat.le_of_ble_eq_true rfl)⟩) (pre_v (q0 := 0) (ci := 2) hK hP rfl rfl) rfl rfl hl.1 rfl (lv_room (Nat.le_of_ble_eq_true rfl)) dX2_meet_259 ⟨(Nat.zero_le _), (Nat.zero_le _)⟩) ?_
          refine lv_aload_n hx hb dX2_meet_262 rfl (lv_at hl 3 rfl) ?_
          refine lv_iload_n hx hb dX2_meet_263 rfl (lv_at hl 4 rfl) ?_
          refine lv_iload_n hx hb dX2_meet_264 rfl (lv_at hl 6 rfl) ?_
          refine lv_iconst (v := 1) hx hb dX2_meet_265 (by decide) ?_
          refine lv_iadd hx hb dX2_meet_266 ?_
          obtain ⟨r44, hcr44, h⟩ := og_bind h
          refine cp_s (va_runV (As := [.int a1, .int (a3 + (1 : Int32))]) (rest := [.int r43, .int r42, .int r41]) ⟨hx, hb, hml, hown, hts⟩ (k_X2_y l D cI cF m0 m1 m2 m3 m4 m5 pt px py ro an te fx fy ar be ma nx ny a1 (a3 + (1 : Int32)) _ hcr44) (cwV 2 hts gX2_meet_X2_y rfl rfl rfl (by decide +kernel) ⟨(Nat.le_of_ble_eq_true rfl), (Nat.le_of_ble_eq_true rfl)⟩) (pre_v (q0 := 0) (ci := 2) hK hP rfl rfl) rfl rfl hl.1 rfl (lv_room (Nat.le_of_ble_eq_true rfl)) dX2_meet_267 ⟨(Nat.zero_le _), (Nat.zero_le _)⟩) ?_
          refine lv_aload_n hx hb dX2_meet_270 rfl (lv_at hl 3 rfl) ?_
          refine lv_iload_n hx hb dX2_meet_271 rfl (lv_at hl 4 rfl) ?_
          refine lv_iload_n hx hb dX2_meet_272 rfl (lv_at hl 5 rfl) ?_
          refine lv_iconst (v := 1) hx hb dX2_meet_273 (by decide) ?_
          refine lv_iadd hx hb dX2_meet_274 ?_
          obtain ⟨r45, hcr45, h⟩ := og_bind h
          refine cp_s (va_runV (As := [.int a1, .int (a2 + (1 : Int32))]) (rest := [.int r44, .int r43, .int r42, .int r41]) ⟨hx, hb, hml, hown, hts⟩ (k_X2_x l D cI cF m0 m1 m2 m3 m4 m5 pt px py ro an te fx fy ar be ma nx ny a1 (a2 + (1 : Int32)) _ hcr45) (cwV 2 hts gX2_meet_X2_x rfl rfl rfl (by decide +kernel) ⟨(Nat.le_of_ble_eq_true rfl), (Nat.le_of_ble_eq_true rfl)⟩) (pre_v (q0 := 0) (ci := 2) hK hP rfl rfl) rfl rfl hl.1 rfl (lv_room (Nat.le_of_ble_eq_true rfl)) dX2_meet_275 ⟨(Nat.zero_le _), (Nat.zero_le _)⟩) ?_
          refine lv_aload_n hx hb dX2_meet_278 rfl (lv_at hl 3 rfl) ?_
          refine lv_iload_n hx hb dX2_meet_279 rfl (lv_at hl 4 rfl) ?_
          refine lv_iload_n hx hb dX2_meet_280 rfl (lv_at hl 5 rfl) ?_
          refine lv_iconst (v := 1) hx hb dX2_meet_281 (by decide) ?_
          refine lv_iadd hx hb dX2_meet_282 ?_
          obtain ⟨r46, hcr46, h⟩ := og_bind h
          refine cp_s (va_runV (As := [.int a1, .int (a2 + (1 : Int32))]) (rest := [.int r45, .int r44, .int r43, .int r42, .int r41]) ⟨hx, hb, hml, hown, hts⟩ (k_X2_y l D cI cF m0 m1 m2 m3 m4 m5 pt px py ro an te fx fy ar be ma nx ny a1 (a2 + (1 : Int32)) _ hcr46) (cwV 2 hts gX2_meet_X2_y rfl rfl rfl (by decide +kernel) ⟨(Nat.le_of_ble_eq_true rfl), (Nat.le_of_ble_eq_true rfl)⟩) (pre_v (q0 := 0) (ci := 2) hK hP rfl rfl) rfl rfl hl.1 rfl (lv_room (Nat.le_of_ble_eq_true rfl)) dX2_meet_283 ⟨(Nat.zero_le _), (Nat.zero_le _)⟩) ?_
          obtain ⟨r47, hcr47, h⟩ := og_bind h
          refine cp_s (va_runS (As := [.int r41, .int r42, .int r43, .int r44, .int r45, .int r46]) (rest := []) ⟨hx, hb, hml, hown, hts⟩ (k_X2_side l r41 r42 r43 r44 r45 r46 _ hcr47) (va_cwS 6 hts gX2_meet_X2_side rfl rfl rfl (by decide +kernel) ⟨(Nat.le_of_ble_eq_true rfl), (Nat.le_of_ble_eq_true rfl)⟩) pre_s rfl rfl hl.1 rfl (lv_room (Nat.le_of_ble_eq_true rfl)) dX2_meet_286 ⟨(Nat.zero_le _), (Nat.zero_le _)⟩) ?_
          obtain ⟨r48, hcr48, h⟩ := og_bind h
          refine cp_s (va_runS (As := [.long r47]) (rest := []) ⟨hx, hb, hml, hown, hts⟩ (k_X2_sign l r47 _ hcr48) (va_cwS 1 hts gX2_meet_X2_sign rfl rfl rfl (by decide +kernel) ⟨(Nat.le_of_ble_eq_true rfl), (Nat.le_of_ble_eq_true rfl)⟩) pre_s rfl rfl hl.1 rfl (lv_room (Nat.le_of_ble_eq_true rfl)) dX2_meet_289 ⟨(Nat.zero_le _), (Nat.zero_le _)⟩) ?_
          refine lv_istore (lv' := [(7, .int r48), (6, .int r40), (5, .int r32), (4, .int r24), (0, .ref m0), (1, .int a1), (2, .int a2), (3, .int a3)]) hx hb dX2_meet_292 hl (by decide) rfl (fun ls hl => ?_)
          refine lv_iload hx hb dX2_meet_294 (lv_at hl 3 rfl) ?_
          refine lv_iload hx hb dX2_meet_296 (lv_at hl 2 rfl) ?_
          refine lv_imul hx hb dX2_meet_298 ?_
          refine lv_if_ge (tgt := 314) hx hb dX2_meet_299 (by decide) (fun c48 => ?_) (fun c48 => ?_)
          · rw [if_pos c48] at h
            refine lv_iconst (v := 0) hx hb dX2_meet_314 (by decide) ?_
            obtain rfl := Option.some.inj h
            exact W.zret hx hb hr rfl (fun t ht _ => ⟨rfl, ht⟩) (fun _ h9 => absurd h9 List.not_mem_nil) dX2_meet_315
          · rw [if_neg c48] at h
            refine lv_iload hx hb dX2_meet_302 (lv_at hl 1 rfl) ?_
            refine lv_iload hx hb dX2_meet_304 (lv_at hl 0 rfl) ?_
            refine lv_imul hx hb dX2_meet_306 ?_
            refine lv_if_ge (tgt := 314) hx hb dX2_meet_307 (by decide) (fun c49 => ?_) (fun c49 => ?_)
            · rw [if_pos c49] at h
              refine lv_iconst (v := 0) hx hb dX2_meet_314 (by decide) ?_
              obtain rfl := Option.some.inj h
              exact W.zret hx hb hr rfl (fun t ht _ => ⟨rfl, ht⟩) (fun _ h9 => absurd h9 List.not_mem_nil) dX2_meet_315
            · rw [if_neg c49] at h
              refine lv_iconst (v := 1) hx hb dX2_meet_310 (by decide) ?_
              refine lv_goto (tgt := 315) hx hb dX2_meet_311 (by decide) ?_
              obtain rfl := Option.some.inj h
              exact W.zret hx hb hr rfl (fun t ht _ => ⟨rfl, ht⟩) (fun _ h9 => absurd h9 List.not_mem_nil) dX2_meet_315
        · rw [if_neg c15] at h
          refine lv_iconst (v := 1) hx hb dX2_meet_92 (by decide) ?_
          obtain rfl := Option.some.inj h
          exact W.zret hx hb hr rfl (fun t ht _ => ⟨rfl, ht⟩) (fun _ h9 => absurd h9 List.not_mem_nil) dX2_meet_93
def f_X2_turnsBack (pt : Nat → Int32) (px : Nat → Int32) (py : Nat → Int32) (a1 : Int32) (a2 : Int32) : Option Int32 :=
  if bin a1 6 = true then
  ov ((a2 + (pt a1.toNatClampNeg)) - (1 : Int32)) fun v2 =>
  (f_X2_x pt px a1 v2).bind fun r3 =>
  (f_X2_x pt px a1 a2).bind fun r4 =>
  ov ((r3 - r4).toInt64) fun v5 =>
  (f_X2_y pt py a1 v2).bind fun r6 =>
  (f_X2_y pt py a1 a2).bind fun r7 =>
  ov ((r6 - r7).toInt64) fun v8 =>
  (f_X2_x pt px a1 (a2 + (1 : Int32))).bind fun r9 =>
  (f_X2_x pt px a1 a2).bind fun r10 =>
  ov ((r9 - r10).toInt64) fun v11 =>
  (f_X2_y pt py a1 (a2 + (1 : Int32))).bind fun r12 =>
  (f_X2_y pt py a1 a2).bind fun r13 =>
  ov ((r12 - r13).toInt64) fun v14 =>
  if (lg_cmp ((v5 * v14) - (v8 * v11)) (0 : Int64)) = (0) then
  (if (lg_cmp ((v5 * v11) + (v8 * v14)) (0 : Int64)) ≤ (0) then
  (some (0 : Int32))
  else
  (some (1 : Int32)))
  else
  (some (0 : Int32))
  else none
set_option maxHeartbeats 4000000 in
set_option maxRecDepth 100000 in
theorem k_X2_turnsBack (l : Launch) (D : va_G) (cI cF : ClassId) (m0 : Nat) (m1 : Nat) (m2 : Nat) (m3 : Nat) (m4 : Nat) (m5 : Nat) (pt : Nat → Int32) (px : Nat → Int32) (py : Nat → Int32) (ro : Int32) (an : Int32) (te : Int32) (fx : Int32) (fy : Int32) (ar : Int32) (be : Int32) (ma : Int32) (nx : Nat → Int32) (ny : Nat → Int32) (a1 : Int32) (a2 : Int32) (r0 : Int32) (h : f_X2_turnsBack pt px py a1 a2 = some r0) : Met l yX2_turnsBack wsX2_turnsBack ({ frames := 1, cells := 0, slots := 0, locals := 22 }) (va_Pc [.ref m0, .int a1, .int a2] (fun U => wK D cI cF (moW cI m0 m1 m2 m3 m4 m5 pt px py ro an te fx fy ar be ma nx ny) U)) (qS (.int r0)) 0 0 (fun _ => False) := by
  refine Met.ofW (cc := cX2_turnsBack) (maxL := 12) (ret := (some .boolean)) (by decide) rfl ?_
  intro p e s m args below meth c s₁ B hml hv
  obtain ⟨rfl, hK, hP⟩ := hv
  have hx := B.exec
  have hb := B.bytes
  have hr := B.returns
  have hts := atoms_spec (ws := wsX2_turnsBack) B.pre
  have hown : s.vm.findClass RX2 = some m.cls := findClass_of_methodNamed B.named
  have hlocks := B.notSynchronized
  have ht1 := hts (.fieldLink RX2 7 "DrawnAreasModel" "points" "[I") (by decide +kernel)
  have hinX2 : ∀ w ∈ u_ws RX2 TX2 13, w ∈ wsX2_turnsBack := by decide +kernel
  have hl := lv_entry ([.ref m0, .int a1, .int a2]) (n := 12) (Nat.le_of_ble_eq_true rfl)
  rw [lg_entry_eq]
  generalize (lg_sl ([.ref m0, .int a1, .int a2]) ++ List.replicate (12 - (lg_sl ([.ref m0, .int a1, .int a2])).length) Slot.unset).toArray = ls at hl ⊢
  have hl : lv_has ls 12 [(0, .ref m0), (1, .int a1), (2, .int a2)] := hl
  unfold f_X2_turnsBack at h
  refine lv_iload_n hx hb dX2_turnsBack_0 rfl (lv_at hl 2 rfl) ?_
  refine lv_aload_n hx hb dX2_turnsBack_1 rfl (lv_at hl 0 rfl) ?_
  refine va_get (D := D) (ci := 2) (v := .ref m1) (C := RX2) (T := TX2) (N := 13) hx hb hts hinX2 hown hK hP 0 rfl rfl 0 (by decide) ht1 (fun _ h9 => h9) rfl dX2_turnsBack_2 ?_
  refine lv_iload_n hx hb dX2_turnsBack_5 rfl (lv_at hl 1 rfl) ?_
  obtain ⟨gi0, h⟩ := og_in h
  refine va_iald hx hb hK hP 1 0 rfl rfl gi0 dX2_turnsBack_6 ?_
  refine lv_iadd hx hb dX2_turnsBack_7 ?_
  refine lv_iconst (v := 1) hx hb dX2_turnsBack_8 (by decide) ?_
  refine lv_isub hx hb dX2_turnsBack_9 ?_
  refine lv_topi (fun v2 ev2 => ?_)
  have h := og_ov h ev2
  refine lv_istore_n (lv' := [(3, .int v2), (0, .ref m0), (1, .int a1), (2, .int a2)]) hx hb dX2_turnsBack_10 rfl hl (by decide) rfl (fun ls hl => ?_)
  refine lv_aload_n hx hb dX2_turnsBack_11 rfl (lv_at hl 1 rfl) ?_
  refine lv_iload_n hx hb dX2_turnsBack_12 rfl (lv_at hl 2 rfl) ?_
  refine lv_iload_n hx hb dX2_turnsBack_13 rfl (lv_at hl 0 rfl) ?_
  obtain ⟨r3, hcr3, h⟩ := og_bind h
  refine cp_s (va_runV (As := [.int a1, .int v2]) (rest := []) ⟨hx, hb, hml, hown, hts⟩ (k_X2_x l D cI cF m0 m1 m2 m3 m4 m5 pt px py ro an te fx fy ar be ma nx ny a1 v2 _ hcr3) (cwV 2 hts gX2_turnsBack_X2_x rfl rfl rfl (by decide +kernel) ⟨(Nat.le_of_ble_eq_true rfl), (Nat.le_of_ble_eq_true rfl)⟩) (pre_v (q0 := 0) (ci := 2) hK hP rfl rfl) rfl rfl hl.1 rfl (lv_room (Nat.le_of_ble_eq_true rfl)) dX2_turnsBack_14 ⟨(Nat.zero_le _), (Nat.zero_le _)⟩) ?_
  refine lv_aload_n hx hb dX2_turnsBack_17 rfl (lv_at hl 1 rfl) ?_
  refine lv_iload_n hx hb dX2_turnsBack_18 rfl (lv_at hl 2 rfl) ?_
  refine lv_iload_n hx hb dX2_turnsBack_19 rfl (lv_at hl 3 rfl) ?_
  obtain ⟨r4, hcr4, h⟩ := og_bind h
  refine cp_s (va_runV (As := [.int a1, .int a2]) (rest := [.int r3]) ⟨hx, hb, hml, hown, hts⟩ (k_X2_x l D cI cF m0 m1 m2 m3 m4 m5 pt px py ro an te fx fy ar be ma nx ny a1 a2 _ hcr4) (cwV 2 hts gX2_turnsBack_X2_x rfl rfl rfl (by decide +kernel) ⟨(Nat.le_of_ble_eq_true rfl), (Nat.le_of_ble_eq_true rfl)⟩) (pre_v (q0 := 0) (ci := 2) hK hP rfl rfl) rfl rfl hl.1 rfl (lv_room (Nat.le_of_ble_eq_true rfl)) dX2_turnsBack_20 ⟨(Nat.zero_le _), (Nat.zero_le _)⟩) ?_
  refine lv_isub hx hb dX2_turnsBack_23 ?_
  refine lv_i2l hx hb dX2_turnsBack_24 rfl ?_
  refine lv_topl (fun v5 ev5 => ?_)
  have h := og_ov h ev5
  refine lv_lstore (lv' := [(4, .long v5), (3, .int v2), (0, .ref m0), (1, .int a1), (2, .int a2)]) hx hb dX2_turnsBack_25 hl (by decide) rfl (fun ls hl => ?_)
  refine lv_aload_n hx hb dX2_turnsBack_27 rfl (lv_at hl 2 rfl) ?_
  refine lv_iload_n hx hb dX2_turnsBack_28 rfl (lv_at hl 3 rfl) ?_
  refine lv_iload_n hx hb dX2_turnsBack_29 rfl (lv_at hl 1 rfl) ?_
  obtain ⟨r6, hcr6, h⟩ := og_bind h
  refine cp_s (va_runV (As := [.int a1, .int v2]) (rest := []) ⟨hx, hb, hml, hown, hts⟩ (k_X2_y l D cI cF m0 m1 m2 m3 m4 m5 pt px py ro an te fx fy ar be ma nx ny a1 v2 _ hcr6) (cwV 2 hts gX2_turnsBack_X2_y rfl rfl rfl (by decide +kernel) ⟨(Nat.le_of_ble_eq_true rfl), (Nat.le_of_ble_eq_true rfl)⟩) (pre_v (q0 := 0) (ci := 2) hK hP rfl rfl) rfl rfl hl.1 rfl (lv_room (Nat.le_of_ble_eq_true rfl)) dX2_turnsBack_30 ⟨(Nat.zero_le _), (Nat.zero_le _)⟩) ?_
  refine lv_aload_n hx hb dX2_turnsBack_33 rfl (lv_at hl 2 rfl) ?_
  refine lv_iload_n hx hb dX2_turnsBack_34 rfl (lv_at hl 3 rfl) ?_
  refine lv_iload_n hx hb dX2_turnsBack_35 rfl (lv_at hl 4 rfl) ?_
  obtain ⟨r7, hcr7, h⟩ := og_bind h
  refine cp_s (va_runV (As := [.int a1, .int a2]) (rest := [.int r6]) ⟨hx, hb, hml, hown, hts⟩ (k_X2_y l D cI cF m0 m1 m2 m3 m4 m5 pt px py ro an te fx fy ar be ma nx ny a1 a2 _ hcr7) (cwV 2 hts gX2_turnsBack_X2_y rfl rfl rfl (by decide +kernel) ⟨(Nat.le_of_ble_eq_true rfl), (Nat.le_of_ble_eq_true rfl)⟩) (pre_v (q0 := 0) (ci := 2) hK hP rfl rfl) rfl rfl hl.1 rfl (lv_room (Nat.le_of_ble_eq_true rfl)) dX2_turnsBack_36 ⟨(Nat.zero_le _), (Nat.zero_le _)⟩) ?_
  refine lv_isub hx hb dX2_turnsBack_39 ?_
  refine lv_i2l hx hb dX2_turnsBack_40 rfl ?_
  refine lv_topl (fun v8 ev8 => ?_)
  have h := og_ov h ev8
  refine lv_lstore (lv' := [(6, .long v8), (4, .long v5), (3, .int v2), (0, .ref m0), (1, .int a1), (2, .int a2)]) hx hb dX2_turnsBack_41 hl (by decide) rfl (fun ls hl => ?_)
  refine lv_aload_n hx hb dX2_turnsBack_43 rfl (lv_at hl 3 rfl) ?_
  refine lv_iload_n hx hb dX2_turnsBack_44 rfl (lv_at hl 4 rfl) ?_
  refine lv_iload_n hx hb dX2_turnsBack_45 rfl (lv_at hl 5 rfl) ?_
  refine lv_iconst (v := 1) hx hb dX2_turnsBack_46 (by decide) ?_
  refine lv_iadd hx hb dX2_turnsBack_47 ?_
  obtain ⟨r9, hcr9, h⟩ := og_bind h
  refine cp_s (va_runV (As := [.int a1, .int (a2 + (1 : Int32))]) (rest := []) ⟨hx, hb, hml, hown, hts⟩ (k_X2_x l D cI cF m0 m1 m2 m3 m4 m5 pt px py ro an te fx fy ar be ma nx ny a1 (a2 + (1 : Int32)) _ hcr9) (cwV 2 hts gX2_turnsBack_X2_x rfl rfl rfl (by decide +kernel) ⟨(Nat.le_of_ble_eq_true rfl), (Nat.le_of_ble_eq_true rfl)⟩) (pre_v (q0 := 0) (ci := 2) hK hP rfl rfl) rfl rfl hl.1 rfl (lv_room (Nat.le_of_ble_eq_true rfl)) dX2_turnsBack_48 ⟨(Nat.zero_le _), (Nat.zero_le _)⟩) ?_
  refine lv_aload_n hx hb dX2_turnsBack_51 rfl (lv_at hl 3 rfl) ?_
  refine lv_iload_n hx hb dX2_turnsBack_52 rfl (lv_at hl 4 rfl) ?_
  refine lv_iload_n hx hb dX2_turnsBack_53 rfl (lv_at hl 5 rfl) ?_
  obtain ⟨r10, hcr10, h⟩ := og_bind h
  refine cp_s (va_runV (As := [.int a1, .int a2]) (rest := [.int r9]) ⟨hx, hb, hml, hown, hts⟩ (k_X2_x l D cI cF m0 m1 m2 m3 m4 m5 pt px py ro an te fx fy ar be ma nx ny a1 a2 _ hcr10) (cwV 2 hts gX2_turnsBack_X2_x rfl rfl rfl (by decide +kernel) ⟨(Nat.le_of_ble_eq_true rfl), (Nat.le_of_ble_eq_true rfl)⟩) (pre_v (q0 := 0) (ci := 2) hK hP rfl rfl) rfl rfl hl.1 rfl (lv_room (Nat.le_of_ble_eq_true rfl)) dX2_turnsBack_54 ⟨(Nat.zero_le _), (Nat.zero_le _)⟩) ?_
  refine lv_isub hx hb dX2_turnsBack_57 ?_
  refine lv_i2l hx hb dX2_turnsBack_58 rfl ?_
  refine lv_topl (fun v11 ev11 => ?_)
  have h := og_ov h ev11
  refine lv_lstore (lv' := [(8, .long v11), (6, .long v8), (4, .long v5), (3, .int v2), (0, .ref m0), (1, .int a1), (2, .int a2)]) hx hb dX2_turnsBack_59 hl (by decide) rfl (fun ls hl => ?_)
  refine lv_aload_n hx hb dX2_turnsBack_61 rfl (lv_at hl 4 rfl) ?_
  refine lv_iload_n hx hb dX2_turnsBack_62 rfl (lv_at hl 5 rfl) ?_
  refine lv_iload_n hx hb dX2_turnsBack_63 rfl (lv_at hl 6 rfl) ?_
  refine lv_iconst (v := 1) hx hb dX2_turnsBack_64 (by decide) ?_
  refine lv_iadd hx hb dX2_turnsBack_65 ?_
  obtain ⟨r12, hcr12, h⟩ := og_bind h
  refine cp_s (va_runV (As := [.int a1, .int (a2 + (1 : Int32))]) (rest := []) ⟨hx, hb, hml, hown, hts⟩ (k_X2_y l D cI cF m0 m1 m2 m3 m4 m5 pt px py ro an te fx fy ar be ma nx ny a1 (a2 + (1 : Int32)) _ hcr12) (cwV 2 hts gX2_turnsBack_X2_y rfl rfl rfl (by decide +kernel) ⟨(Nat.le_of_ble_eq_true rfl), (Nat.le_of_ble_eq_true rfl)⟩) (pre_v (q0 := 0) (ci := 2) hK hP rfl rfl) rfl rfl hl.1 rfl (lv_room (Nat.le_of_ble_eq_true rfl)) dX2_turnsBack_66 ⟨(Nat.zero_le _), (Nat.zero_le _)⟩) ?_
  refine lv_aload_n hx hb dX2_turnsBack_69 rfl (lv_at hl 4 rfl) ?_
  refine lv_iload_n hx hb dX2_turnsBack_70 rfl (lv_at hl 5 rfl) ?_
  refine lv_iload_n hx hb dX2_turnsBack_71 rfl (lv_at hl 6 rfl) ?_
  obtain ⟨r13, hcr13, h⟩ := og_bind h
  refine cp_s (va_runV (As := [.int a1, .int a2]) (rest := [.int r12]) ⟨hx, hb, hml, hown, hts⟩ (k_X2_y l D cI cF m0 m1 m2 m3 m4 m5 pt px py ro an te fx fy ar be ma nx ny a1 a2 _ hcr13) (cwV 2 hts gX2_turnsBack_X2_y rfl rfl rfl (by decide +kernel) ⟨(Nat.le_of_ble_eq_true rfl), (Nat.le_of_ble_eq_true rfl)⟩) (pre_v (q0 := 0) (ci := 2) hK hP rfl rfl) rfl rfl hl.1 rfl (lv_room (Nat.le_of_ble_eq_true rfl)) dX2_turnsBack_72 ⟨(Nat.zero_le _), (Nat.zero_le _)⟩) ?_
  refine lv_isub hx hb dX2_turnsBack_75 ?_
  refine lv_i2l hx hb dX2_turnsBack_76 rfl ?_
  refine lv_topl (fun v14 ev14 => ?_)
  have h := og_ov h ev14
  refine lv_lstore (lv' := [(10, .long v14), (8, .long v11), (6, .long v8), (4, .long v5), (3, .int v2), (0, .ref m0), (1, .int a1), (2, .int a2)]) hx hb dX2_turnsBack_77 hl (by decide) rfl (fun ls hl => ?_)
  refine lv_lload hx hb dX2_turnsBack_79 (lv_at hl 3 rfl) ?_
  refine lv_lload hx hb dX2_turnsBack_81 (lv_at hl 0 rfl) ?_
  refine lv_lmul hx hb dX2_turnsBack_83 ?_
  refine lv_lload hx hb dX2_turnsBack_84 (lv_at hl 2 rfl) ?_
  refine lv_lload hx hb dX2_turnsBack_86 (lv_at hl 1 rfl) ?_
  refine lv_lmul hx hb dX2_turnsBack_88 ?_
  refine lv_lsub hx hb dX2_turnsBack_89 ?_
  refine lv_lconst (v := 0) hx hb dX2_turnsBack_90 (by decide) ?_
  refine W.lcmp hx hb dX2_turnsBack_91 ?_
  refine lv_if_ne (tgt := 115) hx hb dX2_turnsBack_92 (by decide) (fun c14 => ?_) (fun c14 => ?_)
  · rw [if_neg c14] at h
    refine lv_iconst (v := 0) hx hb dX2_turnsBack_115 (by decide) ?_
    obtain rfl := Option.some.inj h
    exact W.zret hx hb hr rfl (fun t ht _ => ⟨rfl, ht⟩) (fun _ h9 => absurd h9 List.not_mem_nil) dX2_turnsBack_116
  · rw [if_pos c14] at h
    refine lv_lload hx hb dX2_turnsBack_95 (lv_at hl 3 rfl) ?_
    refine lv_lload hx hb dX2_turnsBack_97 (lv_at hl 1 rfl) ?_
    refine lv_lmul hx hb dX2_turnsBack_99 ?_
    refine lv_lload hx hb dX2_turnsBack_100 (lv_at hl 2 rfl) ?_
    refine lv_lload hx hb dX2_turnsBack_102 (lv_at hl 0 rfl) ?_
    refine lv_lmul hx hb dX2_turnsBack_104 ?_
    refine lv_ladd hx hb dX2_turnsBack_105 ?_
    refine lv_lconst (v := 0) hx hb dX2_turnsBack_106 (by decide) ?_
    refine W.lcmp hx hb dX2_turnsBack_107 ?_
    refine lv_if_le (tgt := 115) hx hb dX2_turnsBack_108 (by decide) (fun c15 => ?_) (fun c15 => ?_)
    · rw [if_pos c15] at h
      refine lv_iconst (v := 0) hx hb dX2_turnsBack_115 (by decide) ?_
      obtain rfl := Option.some.inj h
      exact W.zret hx hb hr rfl (fun t ht _ => ⟨rfl, ht⟩) (fun _ h9 => absurd h9 List.not_mem_nil) dX2_turnsBack_116
    · rw [if_neg c15] at h
      refine lv_iconst (v := 1) hx hb dX2_turnsBack_111 (by decide) ?_
      refine lv_goto (tgt := 116) hx hb dX2_turnsBack_112 (by decide) ?_
      obtain rfl := Option.some.inj h
      exact W.zret hx hb hr rfl (fun t ht _ => ⟨rfl, ht⟩) (fun _ h9 => absurd h9 List.not_mem_nil) dX2_turnsBack_116
def s_X2_simple_95 (pt : Nat → Int32) (px : Nat → Int32) (py : Nat → Int32) (a1 : Int32) (v5 : Int32) (u25 : (Int32 × Int32)) (u95 : (Int32 × Int32)) : Option ((Int32 × Int32) ⊕ Int32) :=
  if v5 ≤ u95.2 then
  (some (.inr u95.1))
  else
  (if u95.1 = (0) then
  (some (.inr u95.1))
  else
  (if u25.2 = (0) then
  (if u95.2 = (v5 - (1 : Int32)) then
  (ov (u95.2 + (1 : Int32)) fun v20 =>
  some (.inl ((1 : Int32), v20)))
  else
  ((f_X2_meet pt px py a1 u25.2 u95.2).bind fun r21 =>
  if r21 = (0) then
  (ov (u95.2 + (1 : Int32)) fun v24 =>
  some (.inl ((1 : Int32), v24)))
  else
  (ov (u95.2 + (1 : Int32)) fun v23 =>
  some (.inl ((0 : Int32), v23)))))
  else
  ((f_X2_meet pt px py a1 u25.2 u95.2).bind fun r15 =>
  if r15 = (0) then
  (ov (u95.2 + (1 : Int32)) fun v18 =>
  some (.inl ((1 : Int32), v18)))
  else
  (ov (u95.2 + (1 : Int32)) fun v17 =>
  some (.inl ((0 : Int32), v17))))))
def s_X2_simple_25 (pt : Nat → Int32) (px : Nat → Int32) (py : Nat → Int32) (a1 : Int32) (v5 : Int32) (u25 : (Int32 × Int32)) : Option ((Int32 × Int32) ⊕ Int32) :=
  if v5 ≤ u25.2 then
  (some (.inr u25.1))
  else
  (if u25.1 = (0) then
  (some (.inr u25.1))
  else
  ((f_X2_x pt px a1 u25.2).bind fun r8 =>
  (f_X2_x pt px a1 (u25.2 + (1 : Int32))).bind fun r9 =>
  (if r8 = r9 then
  ((f_X2_y pt py a1 u25.2).bind fun r30 =>
  (f_X2_y pt py a1 (u25.2 + (1 : Int32))).bind fun r31 =>
  if r30 = r31 then
  (some ((0 : Int32)))
  else
  ((f_X2_turnsBack pt px py a1 u25.2).bind fun r33 =>
  if r33 = (0) then
  (some ((1 : Int32)))
  else
  (some ((0 : Int32)))))
  else
  ((f_X2_turnsBack pt px py a1 u25.2).bind fun r28 =>
  if r28 = (0) then
  (some ((1 : Int32)))
  else
  (some ((0 : Int32))))).bind fun mv10 =>
  ov (u25.2 + (2 : Int32)) fun v11 =>
  (lpf (s_X2_simple_95 pt px py a1 v5 u25) 1000 (mv10, v11)).bind fun x25 =>
  ov (u25.2 + (1 : Int32)) fun v26 =>
  some (.inl (x25, v26))))
def f_X2_simple (pt : Nat → Int32) (px : Nat → Int32) (py : Nat → Int32) (a1 : Int32) : Option Int32 :=
  (f_X2_isFigure a1).bind fun r1 =>
  if r1 = (0) then
  (some (-1 : Int32))
  else
  ((f_X2_isClosed pt a1).bind fun r3 =>
  if bin a1 6 = true then
  ov (pt a1.toNatClampNeg) fun v5 =>
  (lpf (s_X2_simple_25 pt px py a1 v5) 1000 (r3, (0 : Int32))).bind fun x35 =>
  if x35 = (0) then
  (some (0 : Int32))
  else
  (some (1 : Int32))
  else none)
set_option maxHeartbeats 4000000 in
set_option maxRecDepth 100000 in
theorem k_X2_simple (l : Launch) (D : va_G) (cI cF : ClassId) (m0 : Nat) (m1 : Nat) (m2 : Nat) (m3 : Nat) (m4 : Nat) (m5 : Nat) (pt : Nat → Int32) (px : Nat → Int32) (py : Nat → Int32) (ro : Int32) (an : Int32) (te : Int32) (fx : Int32) (fy : Int32) (ar : Int32) (be : Int32) (ma : Int32) (nx : Nat → Int32) (ny : Nat → Int32) (a1 : Int32) (r0 : Int32) (h : f_X2_simple pt px py a1 = some r0) : Met l yX2_simple wsX2_simple ({ frames := 3, cells := 0, slots := 0, locals := 81 }) (va_Pc [.ref m0, .int a1] (fun U => wK D cI cF (moW cI m0 m1 m2 m3 m4 m5 pt px py ro an te fx fy ar be ma nx ny) U)) (qS (.int r0)) 0 0 (fun _ => False) := by
  refine Met.ofW (cc := cX2_simple) (maxL := 6) (ret := (some .int)) (by decide) rfl ?_
  intro p e s m args below meth c s₁ B hml hv
  obtain ⟨rfl, hK, hP⟩ := hv
  have hx := B.exec
  have hb := B.bytes
  have hr := B.returns
  have hts := atoms_spec (ws := wsX2_simple) B.pre
  have hown : s.vm.findClass RX2 = some m.cls := findClass_of_methodNamed B.named
  have hlocks := B.notSynchronized
  have ht1 := hts (.fieldLink RX2 7 "DrawnAreasModel" "points" "[I") (by decide +kernel)
  have hinX2 : ∀ w ∈ u_ws RX2 TX2 13, w ∈ wsX2_simple := by decide +kernel
  have hl := lv_entry ([.ref m0, .int a1]) (n := 6) (Nat.le_of_ble_eq_true rfl)
  rw [lg_entry_eq]
  generalize (lg_sl ([.ref m0, .int a1]) ++ List.replicate (6 - (lg_sl ([.ref m0, .int a1])).length) Slot.unset).toArray = ls at hl ⊢
  have hl : lv_has ls 6 [(0, .ref m0), (1, .int a1)] := hl
  unfold f_X2_simple at h
  refine lv_iload_n hx hb dX2_simple_0 rfl (lv_at hl 1 rfl) ?_
  obtain ⟨r1, hcr1, h⟩ := og_bind h
  refine cp_s (va_runS (As := [.int a1]) (rest := []) ⟨hx, hb, hml, hown, hts⟩ (k_X2_isFigure l a1 _ hcr1) (va_cwS 1 hts gX2_simple_X2_isFigure rfl rfl rfl (by decide +kernel) ⟨(Nat.le_of_ble_eq_true rfl), (Nat.le_of_ble_eq_true rfl)⟩) pre_s rfl rfl hl.1 rfl (lv_room (Nat.le_of_ble_eq_true rfl)) dX2_simple_1 ⟨(Nat.zero_le _), (Nat.zero_le _)⟩) ?_
  refine lv_if_ne (tgt := 9) hx hb dX2_simple_4 (by decide) (fun c1 => ?_) (fun c1 => ?_)
  · rw [if_neg c1] at h
    refine lv_aload_n hx hb dX2_simple_9 rfl (lv_at hl 0 rfl) ?_
    refine lv_iload_n hx hb dX2_simple_10 rfl (lv_at hl 1 rfl) ?_
    obtain ⟨r3, hcr3, h⟩ := og_bind h
    refine cp_s (va_runV (As := [.int a1]) (rest := []) ⟨hx, hb, hml, hown, hts⟩ (k_X2_isClosed l D cI cF m0 m1 m2 m3 m4 m5 pt px py ro an te fx fy ar be ma nx ny a1 _ hcr3) (cwV 1 hts gX2_simple_X2_isClosed rfl rfl rfl (by decide +kernel) ⟨(Nat.le_of_ble_eq_true rfl), (Nat.le_of_ble_eq_true rfl)⟩) (pre_v (q0 := 0) (ci := 2) hK hP rfl rfl) rfl rfl hl.1 rfl (lv_room (Nat.le_of_ble_eq_true rfl)) dX2_simple_11 ⟨(Nat.zero_le _), (Nat.zero_le _)⟩) ?_
    refine lv_istore_n (lv' := [(2, .int r3), (0, .ref m0), (1, .int a1)]) hx hb dX2_simple_14 rfl hl (by decide) rfl (fun ls hl => ?_)
    refine lv_aload_n hx hb dX2_simple_15 rfl (lv_at hl 1 rfl) ?_
    refine va_get (D := D) (ci := 2) (v := .ref m1) (C := RX2) (T := TX2) (N := 13) hx hb hts hinX2 hown hK hP 0 rfl rfl 0 (by decide) ht1 (fun _ h9 => h9) rfl dX2_simple_16 ?_
    refine lv_iload_n hx hb dX2_simple_19 rfl (lv_at hl 2 rfl) ?_
    obtain ⟨gi3, h⟩ := og_in h
    refine va_iald hx hb hK hP 1 0 rfl rfl gi3 dX2_simple_20 ?_
    refine lv_topi (fun v5 ev5 => ?_)
    have h := og_ov h ev5
    refine lv_istore_n (lv' := [(3, .int v5), (2, .int r3), (0, .ref m0), (1, .int a1)]) hx hb dX2_simple_21 rfl hl (by decide) rfl (fun ls hl => ?_)
    refine lv_iconst (v := 0) hx hb dX2_simple_22 (by decide) ?_
    refine lv_istore (lv' := [(4, .int (0 : Int32)), (3, .int v5), (2, .int r3), (0, .ref m0), (1, .int a1)]) hx hb dX2_simple_23 hl (by decide) rfl (fun ls hl => ?_)
    obtain ⟨x35, hN25, h⟩ := og_bind h
    refine wl hN25 25 148 (fun u25 ls => lv_has ls 6 [(0, .ref m0), (1, .int a1), (2, .int u25.1), (3, .int v5), (4, .int u25.2)]) (fun x35 ls => lv_has ls 6 [(2, .int x35)]) (fun u25 xx h ki25 kx25 ls hl => ?_) (fun ls hl => ?_) (lv_sub hl [3, 4, 2, 1, 0] rfl)
    · unfold s_X2_simple_25 at h
      refine lv_iload hx hb dX2_simple_25 (lv_at hl 4 rfl) ?_
      refine lv_iload_n hx hb dX2_simple_27 rfl (lv_at hl 3 rfl) ?_
      refine lv_icmp_ge (tgt := 148) hx hb dX2_simple_28 (by decide) (fun c5 => ?_) (fun c5 => ?_)
      · rw [if_pos c5] at h
        exact kx25 _ ls (Option.some.inj h).symm (lv_sub hl [2] rfl)
      · rw [if_neg c5] at h
        refine lv_iload_n hx hb dX2_simple_31 rfl (lv_at hl 2 rfl) ?_
        refine lv_if_eq (tgt := 148) hx hb dX2_simple_32 (by decide) (fun c6 => ?_) (fun c6 => ?_)
        · rw [if_pos c6] at h
          exact kx25 _ ls (Option.some.inj h).symm (lv_sub hl [2] rfl)
        · rw [if_neg c6] at h
          refine lv_aload_n hx hb dX2_simple_35 rfl (lv_at hl 0 rfl) ?_
          refine lv_iload_n hx hb dX2_simple_36 rfl (lv_at hl 1 rfl) ?_
          refine lv_iload hx hb dX2_simple_37 (lv_at hl 4 rfl) ?_
          obtain ⟨r8, hcr8, h⟩ := og_bind h
          refine cp_s (va_runV (As := [.int a1, .int u25.2]) (rest := []) ⟨hx, hb, hml, hown, hts⟩ (k_X2_x l D cI cF m0 m1 m2 m3 m4 m5 pt px py ro an te fx fy ar be ma nx ny a1 u25.2 _ hcr8) (cwV 2 hts gX2_simple_X2_x rfl rfl rfl (by decide +kernel) ⟨(Nat.le_of_ble_eq_true rfl), (Nat.le_of_ble_eq_true rfl)⟩) (pre_v (q0 := 0) (ci := 2) hK hP rfl rfl) rfl rfl hl.1 rfl (lv_room (Nat.le_of_ble_eq_true rfl)) dX2_simple_39 ⟨(Nat.zero_le _), (Nat.zero_le _)⟩) ?_
          refine lv_aload_n hx hb dX2_simple_42 rfl (lv_at hl 0 rfl) ?_
          refine lv_iload_n hx hb dX2_simple_43 rfl (lv_at hl 1 rfl) ?_
          refine lv_iload hx hb dX2_simple_44 (lv_at hl 4 rfl) ?_
          refine lv_iconst (v := 1) hx hb dX2_simple_46 (by decide) ?_
          refine lv_iadd hx hb dX2_simple_47 ?_
          obtain ⟨r9, hcr9, h⟩ := og_bind h
          refine cp_s (va_runV (As := [.int a1, .int (u25.2 + (1 : Int32))]) (rest := [.int r8]) ⟨hx, hb, hml, hown, hts⟩ (k_X2_x l D cI cF m0 m1 m2 m3 m4 m5 pt px py ro an te fx fy ar be ma nx ny a1 (u25.2 + (1 : Int32)) _ hcr9) (cwV 2 hts gX2_simple_X2_x rfl rfl rfl (by decide +kernel) ⟨(Nat.le_of_ble_eq_true rfl), (Nat.le_of_ble_eq_true rfl)⟩) (pre_v (q0 := 0) (ci := 2) hK hP rfl rfl) rfl rfl hl.1 rfl (lv_room (Nat.le_of_ble_eq_true rfl)) dX2_simple_48 ⟨(Nat.zero_le _), (Nat.zero_le _)⟩) ?_
          obtain ⟨mv10, hm88, h⟩ := og_bind h
          refine wj (PC := 88) (ST := [.int mv10]) (fun ls => lv_has ls 6 [(0, .ref m0), (1, .int a1), (3, .int v5), (4, .int u25.2)]) (fun ls hl => ?_) (fun KJ88 => ?_)
          · refine lv_istore_n (lv' := [(2, .int mv10), (0, .ref m0), (1, .int a1), (3, .int v5), (4, .int u25.2)]) hx hb dX2_simple_88 rfl hl (by decide) rfl (fun ls hl => ?_)
            refine lv_iload hx hb dX2_simple_89 (lv_at hl 4 rfl) ?_
            refine lv_iconst (v := 2) hx hb dX2_simple_91 (by decide) ?_
            refine lv_iadd hx hb dX2_simple_92 ?_
            refine lv_topi (fun v11 ev11 => ?_)
            have h := og_ov h ev11
            refine lv_istore (lv' := [(5, .int v11), (2, .int mv10), (0, .ref m0), (1, .int a1), (3, .int v5), (4, .int u25.2)]) hx hb dX2_simple_93 hl (by decide) rfl (fun ls hl => ?_)
            obtain ⟨x25, hN95, h⟩ := og_bind h
            refine wl hN95 95 142 (fun u95 ls => lv_has ls 6 [(0, .ref m0), (1, .int a1), (2, .int u95.1), (3, .int v5), (4, .int u25.2), (5, .int u95.2)]) (fun x25 ls => lv_has ls 6 [(0, .ref m0), (1, .int a1), (2, .int x25), (3, .int v5), (4, .int u25.2)]) (fun u95 xx h ki95 kx95 ls hl => ?_) (fun ls hl => ?_) (lv_sub hl [2, 3, 1, 4, 5, 0] rfl)
            · unfold s_X2_simple_95 at h
              refine lv_iload hx hb dX2_simple_95 (lv_at hl 5 rfl) ?_
              refine lv_iload_n hx hb dX2_simple_97 rfl (lv_at hl 3 rfl) ?_
              refine lv_icmp_ge (tgt := 142) hx hb dX2_simple_98 (by decide) (fun c11 => ?_) (fun c11 => ?_)
              · rw [if_pos c11] at h
                exact kx95 _ ls (Option.some.inj h).symm (lv_sub hl [0, 1, 2, 3, 4] rfl)
              · rw [if_neg c11] at h
                refine lv_iload_n hx hb dX2_simple_101 rfl (lv_at hl 2 rfl) ?_
                refine lv_if_eq (tgt := 142) hx hb dX2_simple_102 (by decide) (fun c12 => ?_) (fun c12 => ?_)
                · rw [if_pos c12] at h
                  exact kx95 _ ls (Option.some.inj h).symm (lv_sub hl [0, 1, 2, 3, 4] rfl)
                · rw [if_neg c12] at h
                  refine lv_iload hx hb dX2_simple_105 (lv_at hl 4 rfl) ?_
                  refine lv_if_ne (tgt := 118) hx hb dX2_simple_107 (by decide) (fun c13 => ?_) (fun c13 => ?_)
                  · rw [if_neg c13] at h
                    refine lv_aload_n hx hb dX2_simple_118 rfl (lv_at hl 0 rfl) ?_
                    refine lv_iload_n hx hb dX2_simple_119 rfl (lv_at hl 1 rfl) ?_
                    refine lv_iload hx hb dX2_simple_120 (lv_at hl 4 rfl) ?_
                    refine lv_iload hx hb dX2_simple_122 (lv_at hl 5 rfl) ?_
                    obtain ⟨r15, hcr15, h⟩ := og_bind h
                    refine cp_s (va_runV (As := [.int a1, .int u25.2, .int u95.2]) (rest := []) ⟨hx, hb, hml, hown, hts⟩ (k_X2_meet l D cI cF m0 m1 m2 m3 m4 m5 pt px py ro an te fx fy ar be ma nx ny a1 u25.2 u95.2 _ hcr15) (cwV 3 hts gX2_simple_X2_meet rfl rfl rfl (by decide +kernel) ⟨(Nat.le_of_ble_eq_true rfl), (Nat.le_of_ble_eq_true rfl)⟩) (pre_v (q0 := 0) (ci := 2) hK hP rfl rfl) rfl rfl hl.1 rfl (lv_room (Nat.le_of_ble_eq_true rfl)) dX2_simple_124 ⟨(Nat.zero_le _), (Nat.zero_le _)⟩) ?_
                    refine lv_if_ne (tgt := 134) hx hb dX2_simple_127 (by decide) (fun c15 => ?_) (fun c15 => ?_)
                    · rw [if_neg c15] at h
                      refine lv_iconst (v := 0) hx hb dX2_simple_134 (by decide) ?_
                      refine lv_istore_n (lv' := [(2, .int (0 : Int32)), (0, .ref m0), (1, .int a1), (3, .int v5), (4, .int u25.2), (5, .int u95.2)]) hx hb dX2_simple_135 rfl hl (by decide) rfl (fun ls hl => ?_)
                      obtain ⟨v17, ev17⟩ : ∃ y : Int32, y = u95.2 + (1 : Int32) := ⟨_, rfl⟩
                      have h := og_ov h ev17
                      refine lv_iinc (v := v17) (lv' := [(5, .int v17), (2, .int (0 : Int32)), (0, .ref m0), (1, .int a1), (3, .int v5), (4, .int u25.2)]) hx hb dX2_simple_136 hl (k := 5) rfl (by rw [ev17]; rfl) (by decide) rfl (fun ls hl => ?_)
                      refine lv_goto (tgt := 95) hx hb dX2_simple_139 (by decide) ?_
                      exact ki95 _ ls (Option.some.inj h).symm (lv_sub hl [2, 3, 1, 4, 5, 0] rfl)
                    · rw [if_pos c15] at h
                      refine lv_iconst (v := 1) hx hb dX2_simple_130 (by decide) ?_
                      refine lv_goto (tgt := 135) hx hb dX2_simple_131 (by decide) ?_
                      refine lv_istore_n (lv' := [(2, .int (1 : Int32)), (0, .ref m0), (1, .int a1), (3, .int v5), (4, .int u25.2), (5, .int u95.2)]) hx hb dX2_simple_135 rfl hl (by decide) rfl (fun ls hl => ?_)
                      obtain ⟨v18, ev18⟩ : ∃ y : Int32, y = u95.2 + (1 : Int32) := ⟨_, rfl⟩
                      have h := og_ov h ev18
                      refine lv_iinc (v := v18) (lv' := [(5, .int v18), (2, .int (1 : Int32)), (0, .ref m0), (1, .int a1), (3, .int v5), (4, .int u25.2)]) hx hb dX2_simple_136 hl (k := 5) rfl (by rw [ev18]; rfl) (by decide) rfl (fun ls hl => ?_)
                      refine lv_goto (tgt := 95) hx hb dX2_simple_139 (by decide) ?_
                      exact ki95 _ ls (Option.some.inj h).symm (lv_sub hl [2, 3, 1, 4, 5, 0] rfl)
                  · rw [if_pos c13] at h
                    refine lv_iload hx hb dX2_simple_110 (lv_at hl 5 rfl) ?_
                    refine lv_iload_n hx hb dX2_simple_112 rfl (lv_at hl 3 rfl) ?_
                    refine lv_iconst (v := 1) hx hb dX2_simple_113 (by decide) ?_
                    refine lv_isub hx hb dX2_simple_114 ?_
                    refine lv_icmp_eq (tgt := 130) hx hb dX2_simple_115 (by decide) (fun c18 => ?_) (fun c18 => ?_)
                    · rw [if_pos c18] at h
                      refine lv_iconst (v := 1) hx hb dX2_simple_130 (by decide) ?_
                      refine lv_goto (tgt := 135) hx hb dX2_simple_131 (by decide) ?_
                      refine lv_istore_n (lv' := [(2, .int (1 : Int32)), (0, .ref m0), (1, .int a1), (3, .int v5), (4, .int u25.2), (5, .int u95.2)]) hx hb dX2_simple_135 rfl hl (by decide) rfl (fun ls hl => ?_)
                      obtain ⟨v20, ev20⟩ : ∃ y : Int32, y = u95.2 + (1 : Int32) := ⟨_, rfl⟩
                      have h := og_ov h ev20
                      refine lv_iinc (v := v20) (lv' := [(5, .int v20), (2, .int (1 : Int32)), (0, .ref m0), (1, .int a1), (3, .int v5), (4, .int u25.2)]) hx hb dX2_simple_136 hl (k := 5) rfl (by rw [ev20]; rfl) (by decide) rfl (fun ls hl => ?_)
                      refine lv_goto (tgt := 95) hx hb dX2_simple_139 (by decide) ?_
                      exact ki95 _ ls (Option.some.inj h).symm (lv_sub hl [2, 3, 1, 4, 5, 0] rfl)
                    · rw [if_neg c18] at h
                      refine lv_aload_n hx hb dX2_simple_118 rfl (lv_at hl 0 rfl) ?_
                      refine lv_iload_n hx hb dX2_simple_119 rfl (lv_at hl 1 rfl) ?_
                      refine lv_iload hx hb dX2_simple_120 (lv_at hl 4 rfl) ?_
                      refine lv_iload hx hb dX2_simple_122 (lv_at hl 5 rfl) ?_
                      obtain ⟨r21, hcr21, h⟩ := og_bind h
                      refine cp_s (va_runV (As := [.int a1, .int u25.2, .int u95.2]) (rest := []) ⟨hx, hb, hml, hown, hts⟩ (k_X2_meet l D cI cF m0 m1 m2 m3 m4 m5 pt px py ro an te fx fy ar be ma nx ny a1 u25.2 u95.2 _ hcr21) (cwV 3 hts gX2_simple_X2_meet rfl rfl rfl (by decide +kernel) ⟨(Nat.le_of_ble_eq_true rfl), (Nat.le_of_ble_eq_true rfl)⟩) (pre_v (q0 := 0) (ci := 2) hK hP rfl rfl) rfl rfl hl.1 rfl (lv_room (Nat.le_of_ble_eq_true rfl)) dX2_simple_124 ⟨(Nat.zero_le _), (Nat.zero_le _)⟩) ?_
                      refine lv_if_ne (tgt := 134) hx hb dX2_simple_127 (by decide) (fun c21 => ?_) (fun c21 => ?_)
                      · rw [if_neg c21] at h
                        refine lv_iconst (v := 0) hx hb dX2_simple_134 (by decide) ?_
                        refine lv_istore_n (lv' := [(2, .int (0 : Int32)), (0, .ref m0), (1, .int a1), (3, .int v5), (4, .int u25.2), (5, .int u95.2)]) hx hb dX2_simple_135 rfl hl (by decide) rfl (fun ls hl => ?_)
                        obtain ⟨v23, ev23⟩ : ∃ y : Int32, y = u95.2 + (1 : Int32) := ⟨_, rfl⟩
                        have h := og_ov h ev23
                        refine lv_iinc (v := v23) (lv' := [(5, .int v23), (2, .int (0 : Int32)), (0, .ref m0), (1, .int a1), (3, .int v5), (4, .int u25.2)]) hx hb dX2_simple_136 hl (k := 5) rfl (by rw [ev23]; rfl) (by decide) rfl (fun ls hl => ?_)
                        refine lv_goto (tgt := 95) hx hb dX2_simple_139 (by decide) ?_
                        exact ki95 _ ls (Option.some.inj h).symm (lv_sub hl [2, 3, 1, 4, 5, 0] rfl)
                      · rw [if_pos c21] at h
                        refine lv_iconst (v := 1) hx hb dX2_simple_130 (by decide) ?_
                        refine lv_goto (tgt := 135) hx hb dX2_simple_131 (by decide) ?_
                        refine lv_istore_n (lv' := [(2, .int (1 : Int32)), (0, .ref m0), (1, .int a1), (3, .int v5), (4, .int u25.2), (5, .int u95.2)]) hx hb dX2_simple_135 rfl hl (by decide) rfl (fun ls hl => ?_)
                        obtain ⟨v24, ev24⟩ : ∃ y : Int32, y = u95.2 + (1 : Int32) := ⟨_, rfl⟩
                        have h := og_ov h ev24
                        refine lv_iinc (v := v24) (lv' := [(5, .int v24), (2, .int (1 : Int32)), (0, .ref m0), (1, .int a1), (3, .int v5), (4, .int u25.2)]) hx hb dX2_simple_136 hl (k := 5) rfl (by rw [ev24]; rfl) (by decide) rfl (fun ls hl => ?_)
                        refine lv_goto (tgt := 95) hx hb dX2_simple_139 (by decide) ?_
                        exact ki95 _ ls (Option.some.inj h).symm (lv_sub hl [2, 3, 1, 4, 5, 0] rfl)
            · obtain ⟨v26, ev26⟩ : ∃ y : Int32, y = u25.2 + (1 : Int32) := ⟨_, rfl⟩
              have h := og_ov h ev26
              refine lv_iinc (v := v26) (lv' := [(4, .int v26), (0, .ref m0), (1, .int a1), (2, .int x25), (3, .int v5)]) hx hb dX2_simple_142 hl (k := 4) rfl (by rw [ev26]; rfl) (by decide) rfl (fun ls hl => ?_)
              refine lv_goto (tgt := 25) hx hb dX2_simple_145 (by decide) ?_
              exact ki25 _ ls (Option.some.inj h).symm (lv_sub hl [1, 2, 3, 4, 0] rfl)
          · have h := hm88
            refine lv_icmp_ne (tgt := 73) hx hb dX2_simple_51 (by decide) (fun c26 => ?_) (fun c26 => ?_)
            · rw [if_neg c26] at h
              refine lv_aload_n hx hb dX2_simple_73 rfl (lv_at hl 0 rfl) ?_
              refine lv_iload_n hx hb dX2_simple_74 rfl (lv_at hl 1 rfl) ?_
              refine lv_iload hx hb dX2_simple_75 (lv_at hl 4 rfl) ?_
              obtain ⟨r28, hcr28, h⟩ := og_bind h
              refine cp_s (va_runV (As := [.int a1, .int u25.2]) (rest := []) ⟨hx, hb, hml, hown, hts⟩ (k_X2_turnsBack l D cI cF m0 m1 m2 m3 m4 m5 pt px py ro an te fx fy ar be ma nx ny a1 u25.2 _ hcr28) (cwV 2 hts gX2_simple_X2_turnsBack rfl rfl rfl (by decide +kernel) ⟨(Nat.le_of_ble_eq_true rfl), (Nat.le_of_ble_eq_true rfl)⟩) (pre_v (q0 := 0) (ci := 2) hK hP rfl rfl) rfl rfl hl.1 rfl (lv_room (Nat.le_of_ble_eq_true rfl)) dX2_simple_77 ⟨(Nat.zero_le _), (Nat.zero_le _)⟩) ?_
              refine lv_if_ne (tgt := 87) hx hb dX2_simple_80 (by decide) (fun c28 => ?_) (fun c28 => ?_)
              · rw [if_neg c28] at h
                refine lv_iconst (v := 0) hx hb dX2_simple_87 (by decide) ?_
                obtain rfl := Option.some.inj h
                exact KJ88 ls (lv_sub hl [0, 1, 3, 4] rfl)
              · rw [if_pos c28] at h
                refine lv_iconst (v := 1) hx hb dX2_simple_83 (by decide) ?_
                refine lv_goto (tgt := 88) hx hb dX2_simple_84 (by decide) ?_
                obtain rfl := Option.some.inj h
                exact KJ88 ls (lv_sub hl [0, 1, 3, 4] rfl)
            · rw [if_pos c26] at h
              refine lv_aload_n hx hb dX2_simple_54 rfl (lv_at hl 0 rfl) ?_
              refine lv_iload_n hx hb dX2_simple_55 rfl (lv_at hl 1 rfl) ?_
              refine lv_iload hx hb dX2_simple_56 (lv_at hl 4 rfl) ?_
              obtain ⟨r30, hcr30, h⟩ := og_bind h
              refine cp_s (va_runV (As := [.int a1, .int u25.2]) (rest := []) ⟨hx, hb, hml, hown, hts⟩ (k_X2_y l D cI cF m0 m1 m2 m3 m4 m5 pt px py ro an te fx fy ar be ma nx ny a1 u25.2 _ hcr30) (cwV 2 hts gX2_simple_X2_y rfl rfl rfl (by decide +kernel) ⟨(Nat.le_of_ble_eq_true rfl), (Nat.le_of_ble_eq_true rfl)⟩) (pre_v (q0 := 0) (ci := 2) hK hP rfl rfl) rfl rfl hl.1 rfl (lv_room (Nat.le_of_ble_eq_true rfl)) dX2_simple_58 ⟨(Nat.zero_le _), (Nat.zero_le _)⟩) ?_
              refine lv_aload_n hx hb dX2_simple_61 rfl (lv_at hl 0 rfl) ?_
              refine lv_iload_n hx hb dX2_simple_62 rfl (lv_at hl 1 rfl) ?_
              refine lv_iload hx hb dX2_simple_63 (lv_at hl 4 rfl) ?_
              refine lv_iconst (v := 1) hx hb dX2_simple_65 (by decide) ?_
              refine lv_iadd hx hb dX2_simple_66 ?_
              obtain ⟨r31, hcr31, h⟩ := og_bind h
              refine cp_s (va_runV (As := [.int a1, .int (u25.2 + (1 : Int32))]) (rest := [.int r30]) ⟨hx, hb, hml, hown, hts⟩ (k_X2_y l D cI cF m0 m1 m2 m3 m4 m5 pt px py ro an te fx fy ar be ma nx ny a1 (u25.2 + (1 : Int32)) _ hcr31) (cwV 2 hts gX2_simple_X2_y rfl rfl rfl (by decide +kernel) ⟨(Nat.le_of_ble_eq_true rfl), (Nat.le_of_ble_eq_true rfl)⟩) (pre_v (q0 := 0) (ci := 2) hK hP rfl rfl) rfl rfl hl.1 rfl (lv_room (Nat.le_of_ble_eq_true rfl)) dX2_simple_67 ⟨(Nat.zero_le _), (Nat.zero_le _)⟩) ?_
              refine lv_icmp_eq (tgt := 87) hx hb dX2_simple_70 (by decide) (fun c31 => ?_) (fun c31 => ?_)
              · rw [if_pos c31] at h
                refine lv_iconst (v := 0) hx hb dX2_simple_87 (by decide) ?_
                obtain rfl := Option.some.inj h
                exact KJ88 ls (lv_sub hl [0, 1, 3, 4] rfl)
              · rw [if_neg c31] at h
                refine lv_aload_n hx hb dX2_simple_73 rfl (lv_at hl 0 rfl) ?_
                refine lv_iload_n hx hb dX2_simple_74 rfl (lv_at hl 1 rfl) ?_
                refine lv_iload hx hb dX2_simple_75 (lv_at hl 4 rfl) ?_
                obtain ⟨r33, hcr33, h⟩ := og_bind h
                refine cp_s (va_runV (As := [.int a1, .int u25.2]) (rest := []) ⟨hx, hb, hml, hown, hts⟩ (k_X2_turnsBack l D cI cF m0 m1 m2 m3 m4 m5 pt px py ro an te fx fy ar be ma nx ny a1 u25.2 _ hcr33) (cwV 2 hts gX2_simple_X2_turnsBack rfl rfl rfl (by decide +kernel) ⟨(Nat.le_of_ble_eq_true rfl), (Nat.le_of_ble_eq_true rfl)⟩) (pre_v (q0 := 0) (ci := 2) hK hP rfl rfl) rfl rfl hl.1 rfl (lv_room (Nat.le_of_ble_eq_true rfl)) dX2_simple_77 ⟨(Nat.zero_le _), (Nat.zero_le _)⟩) ?_
                refine lv_if_ne (tgt := 87) hx hb dX2_simple_80 (by decide) (fun c33 => ?_) (fun c33 => ?_)
                · rw [if_neg c33] at h
                  refine lv_iconst (v := 0) hx hb dX2_simple_87 (by decide) ?_
                  obtain rfl := Option.some.inj h
                  exact KJ88 ls (lv_sub hl [0, 1, 3, 4] rfl)
                · rw [if_pos c33] at h
                  refine lv_iconst (v := 1) hx hb dX2_simple_83 (by decide) ?_
                  refine lv_goto (tgt := 88) hx hb dX2_simple_84 (by decide) ?_
                  obtain rfl := Option.some.inj h
                  exact KJ88 ls (lv_sub hl [0, 1, 3, 4] rfl)
    · refine lv_iload_n hx hb dX2_simple_148 rfl (lv_at hl 0 rfl) ?_
      refine lv_if_eq (tgt := 156) hx hb dX2_simple_149 (by decide) (fun c35 => ?_) (fun c35 => ?_)
      · rw [if_pos c35] at h
        refine lv_iconst (v := 0) hx hb dX2_simple_156 (by decide) ?_
        obtain rfl := Option.some.inj h
        exact W.iret hx hb hr (fun t ht _ => ⟨rfl, ht⟩) (fun _ h9 => absurd h9 List.not_mem_nil) dX2_simple_157
      · rw [if_neg c35] at h
        refine lv_iconst (v := 1) hx hb dX2_simple_152 (by decide) ?_
        refine lv_goto (tgt := 157) hx hb dX2_simple_153 (by decide) ?_
        obtain rfl := Option.some.inj h
        exact W.iret hx hb hr (fun t ht _ => ⟨rfl, ht⟩) (fun _ h9 => absurd h9 List.not_mem_nil) dX2_simple_157
  · rw [if_pos c1] at h
    refine lv_iconst (v := -1) hx hb dX2_simple_7 (by decide) ?_
    obtain rfl := Option.some.inj h
    exact W.iret hx hb hr (fun t ht _ => ⟨rfl, ht⟩) (fun _ h9 => absurd h9 List.not_mem_nil) dX2_simple_8
