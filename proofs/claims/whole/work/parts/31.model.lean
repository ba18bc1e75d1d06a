def s_X2_windsOf_6 (pt : Nat → Int32) (px : Nat → Int32) (py : Nat → Int32) (a1 : Int32) (a2 : Int32) (a3 : Int32) (u6 : (Int32 × Int32)) : Option ((Int32 × Int32) ⊕ (Int32 ⊕ Int32)) :=
  if bin a1 6 = true then
  if (pt a1.toNatClampNeg) ≤ u6.2 then
  (some (.inr (.inr u6.1)))
  else
  ((f_X2_isOn pt px py a1 u6.2 a2 a3).bind fun r3 =>
  if r3 = (0) then
  ((f_X2_x pt px a1 u6.2).bind fun r5 =>
  (f_X2_y pt py a1 u6.2).bind fun r6 =>
  (f_X2_x pt px a1 (u6.2 + (1 : Int32))).bind fun r7 =>
  (f_X2_y pt py a1 (u6.2 + (1 : Int32))).bind fun r8 =>
  (f_X2_side r5 r6 r7 r8 a2 a3).bind fun r9 =>
  (f_X2_y pt py a1 u6.2).bind fun r10 =>
  (if a3 < r10 then
  (some ((0 : Int32)))
  else
  ((f_X2_y pt py a1 (u6.2 + (1 : Int32))).bind fun r38 =>
  if r38 ≤ a3 then
  (some ((0 : Int32)))
  else
  (some ((1 : Int32))))).bind fun mv11 =>
  (f_X2_y pt py a1 u6.2).bind fun r12 =>
  (if r12 ≤ a3 then
  (some ((0 : Int32)))
  else
  ((f_X2_y pt py a1 (u6.2 + (1 : Int32))).bind fun r35 =>
  if a3 < r35 then
  (some ((0 : Int32)))
  else
  (some ((1 : Int32))))).bind fun mv13 =>
  if mv11 = (0) then
  (if mv13 = (0) then
  (ov (u6.1 + (0 : Int32)) fun v16 =>
  ov (u6.2 + (1 : Int32)) fun v17 =>
  some (.inl (v16, v17)))
  else
  (if (0) ≤ (lg_cmp r9 (0 : Int64)) then
  (ov (u6.1 + (0 : Int32)) fun v19 =>
  ov (u6.2 + (1 : Int32)) fun v20 =>
  some (.inl (v19, v20)))
  else
  (ov (u6.1 + (-1 : Int32)) fun v21 =>
  ov (u6.2 + (1 : Int32)) fun v22 =>
  some (.inl (v21, v22)))))
  else
  (if (lg_cmp r9 (0 : Int64)) ≤ (0) then
  (if mv13 = (0) then
  (ov (u6.1 + (0 : Int32)) fun v25 =>
  ov (u6.2 + (1 : Int32)) fun v26 =>
  some (.inl (v25, v26)))
  else
  (if (0) ≤ (lg_cmp r9 (0 : Int64)) then
  (ov (u6.1 + (0 : Int32)) fun v28 =>
  ov (u6.2 + (1 : Int32)) fun v29 =>
  some (.inl (v28, v29)))
  else
  (ov (u6.1 + (-1 : Int32)) fun v30 =>
  ov (u6.2 + (1 : Int32)) fun v31 =>
  some (.inl (v30, v31)))))
  else
  (ov (u6.1 + (1 : Int32)) fun v32 =>
  ov (u6.2 + (1 : Int32)) fun v33 =>
  some (.inl (v32, v33)))))
  else
  (some (.inr (.inl (-1006 : Int32)))))
  else none
def f_X2_windsOf (pt : Nat → Int32) (px : Nat → Int32) (py : Nat → Int32) (a1 : Int32) (a2 : Int32) (a3 : Int32) : Option Int32 :=
  (lpf (s_X2_windsOf_6 pt px py a1 a2 a3) 1000 ((0 : Int32), (0 : Int32))).bind fun o41 => ret2 o41 (fun r9 => some r9) fun x40 =>
  some x40
set_option maxHeartbeats 4000000 in
set_option maxRecDepth 100000 in
theorem k_X2_windsOf (l : Launch) (D : va_G) (cI cF : ClassId) (m0 : Nat) (m1 : Nat) (m2 : Nat) (m3 : Nat) (m4 : Nat) (m5 : Nat) (pt : Nat → Int32) (px : Nat → Int32) (py : Nat → Int32) (ro : Int32) (an : Int32) (te : Int32) (fx : Int32) (fy : Int32) (ar : Int32) (be : Int32) (ma : Int32) (nx : Nat → Int32) (ny : Nat → Int32) (a1 : Int32) (a2 : Int32) (a3 : Int32) (r0 : Int32) (h : f_X2_windsOf pt px py a1 a2 a3 = some r0) : Met l yX2_windsOf wsX2_windsOf ({ frames := 2, cells := 0, slots := 0, locals := 54 }) (va_Pc [.ref m0, .int a1, .int a2, .int a3] (fun U => wK D cI cF (moW cI m0 m1 m2 m3 m4 m5 pt px py ro an te fx fy ar be ma nx ny) U)) (qS (.int r0)) 0 0 (fun _ => False) := by
  refine Met.ofW (cc := cX2_windsOf) (maxL := 10) (ret := (some .int)) (by decide) rfl ?_
  intro p e s m args below meth c s₁ B hml hv
  obtain ⟨rfl, hK, hP⟩ := hv
  have hx := B.exec
  have hb := B.bytes
  have hr := B.returns
  have hts := atoms_spec (ws := wsX2_windsOf) B.pre
  have hown : s.vm.findClass RX2 = some m.cls := findClass_of_methodNamed B.named
  have hlocks := B.notSynchronized
  have ht1 := hts (.fieldLink RX2 7 "DrawnAreasModel" "points" "[I") (by decide +kernel)
  have hinX2 : ∀ w ∈ u_ws RX2 TX2 13, w ∈ wsX2_windsOf := by decide +kernel
  have hl := lv_entry ([.ref m0, .int a1, .int a2, .int a3]) (n := 10) (Nat.le_of_ble_eq_true rfl)
  rw [lg_entry_eq]
  generalize (lg_sl ([.ref m0, .int a1, .int a2, .int a3]) ++ List.replicate (10 - (lg_sl ([.ref m0, .int a1, .int a2, .int a3])).length) Slot.unset).toArray = ls at hl ⊢
  have hl : lv_has ls 10 [(0, .ref m0), (1, .int a1), (2, .int a2), (3, .int a3)] := hl
  unfold f_X2_windsOf at h
  refine lv_iconst (v := 0) hx hb dX2_windsOf_0 (by decide) ?_
  refine lv_istore (lv' := [(4, .int (0 : Int32)), (0, .ref m0), (1, .int a1), (2, .int a2), (3, .int a3)]) hx hb dX2_windsOf_1 hl (by decide) rfl (fun ls hl => ?_)
  refine lv_iconst (v := 0) hx hb dX2_windsOf_3 (by decide) ?_
  refine lv_istore (lv' := [(5, .int (0 : Int32)), (4, .int (0 : Int32)), (0, .ref m0), (1, .int a1), (2, .int a2), (3, .int a3)]) hx hb dX2_windsOf_4 hl (by decide) rfl (fun ls hl => ?_)
  obtain ⟨o41, hN6, h⟩ := og_bind h
  refine wlr (r0 := r0) hN6 6 178 (fun u6 ls => lv_has ls 10 [(0, .ref m0), (1, .int a1), (2, .int a2), (3, .int a3), (4, .int u6.1), (5, .int u6.2)]) (fun x40 ls => lv_has ls 10 [(4, .int x40)]) (fun u6 xx h ki6 kx6 kr6 ls hl => ?_) (fun r9 e9 => ?_) (fun x40 ls e9 hl => ?_) (lv_sub hl [2, 3, 4, 5, 1, 0] rfl)
  · unfold s_X2_windsOf_6 at h
    refine lv_iload hx hb dX2_windsOf_6 (lv_at hl 5 rfl) ?_
    refine lv_aload_n hx hb dX2_windsOf_8 rfl (lv_at hl 0 rfl) ?_
    refine va_get (D := D) (ci := 2) (v := .ref m1) (C := RX2) (T := TX2) (N := 13) hx hb hts hinX2 hown hK hP 0 rfl rfl 0 (by decide) ht1 (fun _ h9 => h9) rfl dX2_windsOf_9 ?_
    refine lv_iload_n hx hb dX2_windsOf_12 rfl (lv_at hl 1 rfl) ?_
    obtain ⟨gi0, h⟩ := og_in h
    refine va_iald hx hb hK hP 1 0 rfl rfl gi0 dX2_windsOf_13 ?_
    refine lv_icmp_ge (tgt := 178) hx hb dX2_windsOf_14 (by decide) (fun c1 => ?_) (fun c1 => ?_)
    · rw [if_pos c1] at h
      exact kx6 _ ls (Option.some.inj h).symm (lv_sub hl [4] rfl)
    · rw [if_neg c1] at h
      refine lv_aload_n hx hb dX2_windsOf_17 rfl (lv_at hl 0 rfl) ?_
      refine lv_iload_n hx hb dX2_windsOf_18 rfl (lv_at hl 1 rfl) ?_
      refine lv_iload hx hb dX2_windsOf_19 (lv_at hl 5 rfl) ?_
      refine lv_iload_n hx hb dX2_windsOf_21 rfl (lv_at hl 2 rfl) ?_
      refine lv_iload_n hx hb dX2_windsOf_22 rfl (lv_at hl 3 rfl) ?_
      obtain ⟨r3, hcr3, h⟩ := og_bind h
      refine cp_s (va_runV (As := [.int a1, .int u6.2, .int a2, .int a3]) (rest := []) ⟨hx, hb, hml, hown, hts⟩ (k_X2_isOn l D cI cF m0 m1 m2 m3 m4 m5 pt px py ro an te fx fy ar be ma nx ny a1 u6.2 a2 a3 _ hcr3) (cwV 4 hts gX2_windsOf_X2_isOn rfl rfl rfl (by decide +kernel) ⟨(Nat.le_of_ble_eq_true rfl), (Nat.le_of_ble_eq_true rfl)⟩) (pre_v (q0 := 0) (ci := 2) hK hP rfl rfl) rfl rfl hl.1 rfl (lv_room (Nat.le_of_ble_eq_true rfl)) dX2_windsOf_23 ⟨(Nat.zero_le _), (Nat.zero_le _)⟩) ?_
      refine lv_if_eq (tgt := 33) hx hb dX2_windsOf_26 (by decide) (fun c3 => ?_) (fun c3 => ?_)
      · rw [if_pos c3] at h
        refine lv_aload_n hx hb dX2_windsOf_33 rfl (lv_at hl 0 rfl) ?_
        refine lv_iload_n hx hb dX2_windsOf_34 rfl (lv_at hl 1 rfl) ?_
        refine lv_iload hx hb dX2_windsOf_35 (lv_at hl 5 rfl) ?_
        obtain ⟨r5, hcr5, h⟩ := og_bind h
        refine cp_s (va_runV (As := [.int a1, .int u6.2]) (rest := []) ⟨hx, hb, hml, hown, hts⟩ (k_X2_x l D cI cF m0 m1 m2 m3 m4 m5 pt px py ro an te fx fy ar be ma nx ny a1 u6.2 _ hcr5) (cwV 2 hts gX2_windsOf_X2_x rfl rfl rfl (by decide +kernel) ⟨(Nat.le_of_ble_eq_true rfl), (Nat.le_of_ble_eq_true rfl)⟩) (pre_v (q0 := 0) (ci := 2) hK hP rfl rfl) rfl rfl hl.1 rfl (lv_room (Nat.le_of_ble_eq_true rfl)) dX2_windsOf_37 ⟨(Nat.zero_le _), (Nat.zero_le _)⟩) ?_
        refine lv_aload_n hx hb dX2_windsOf_40 rfl (lv_at hl 0 rfl) ?_
        refine lv_iload_n hx hb dX2_windsOf_41 rfl (lv_at hl 1 rfl) ?_
        refine lv_iload hx hb dX2_windsOf_42 (lv_at hl 5 rfl) ?_
        obtain ⟨r6, hcr6, h⟩ := og_bind h
        refine cp_s (va_runV (As := [.int a1, .int u6.2]) (rest := [.int r5]) ⟨hx, hb, hml, hown, hts⟩ (k_X2_y l D cI cF m0 m1 m2 m3 m4 m5 pt px py ro an te fx fy ar be ma nx ny a1 u6.2 _ hcr6) (cwV 2 hts gX2_windsOf_X2_y rfl rfl rfl (by decide +kernel) ⟨(Nat.le_of_ble_eq_true rfl), (Nat.le_of_ble_eq_true rfl)⟩) (pre_v (q0 := 0) (ci := 2) hK hP rfl rfl) rfl rfl hl.1 rfl (lv_room (Nat.le_of_ble_eq_true rfl)) dX2_windsOf_44 ⟨(Nat.zero_le _), (Nat.zero_le _)⟩) ?_
        refine lv_aload_n hx hb dX2_windsOf_47 rfl (lv_at hl 0 rfl) ?_
        refine lv_iload_n hx hb dX2_windsOf_48 rfl (lv_at hl 1 rfl) ?_
        refine lv_iload hx hb dX2_windsOf_49 (lv_at hl 5 rfl) ?_
        refine lv_iconst (v := 1) hx hb dX2_windsOf_51 (by decide) ?_
        refine lv_iadd hx hb dX2_windsOf_52 ?_
        obtain ⟨r7, hcr7, h⟩ := og_bind h
        refine cp_s (va_runV (As := [.int a1, .int (u6.2 + (1 : Int32))]) (rest := [.int r6, .int r5]) ⟨hx, hb, hml, hown, hts⟩ (k_X2_x l D cI cF m0 m1 m2 m3 m4 m5 pt px py ro an te fx fy ar be ma nx ny a1 (u6.2 + (1 : Int32)) _ hcr7) (cwV 2 hts gX2_windsOf_X2_x rfl rfl rfl (by decide +kernel) ⟨(Nat.le_of_ble_eq_true rfl), (Nat.le_of_ble_eq_true rfl)⟩) (pre_v (q0 := 0) (ci := 2) hK hP rfl rfl) rfl rfl hl.1 rfl (lv_room (Nat.le_of_ble_eq_true rfl)) dX2_windsOf_53 ⟨(Nat.zero_le _), (Nat.zero_le _)⟩) ?_
        refine lv_aload_n hx hb dX2_windsOf_56 rfl (lv_at hl 0 rfl) ?_
        refine lv_iload_n hx hb dX2_windsOf_57 rfl (lv_at hl 1 rfl) ?_
        refine lv_iload hx hb dX2_windsOf_58 (lv_at hl 5 rfl) ?_
        refine lv_iconst (v := 1) hx hb dX2_windsOf_60 (by decide) ?_
        refine lv_iadd hx hb dX2_windsOf_61 ?_
        obtain ⟨r8, hcr8, h⟩ := og_bind h
        refine cp_s (va_runV (As := [.int a1, .int (u6.2 + (1 : Int32))]) (rest := [.int r7, .int r6, .int r5]) ⟨hx, hb, hml, hown, hts⟩ (k_X2_y l D cI cF m0 m1 m2 m3 m4 m5 pt px py ro an te fx fy ar be ma nx ny a1 (u6.2 + (1 : Int32)) _ hcr8) (cwV 2 hts gX2_windsOf_X2_y rfl rfl rfl (by decide +kernel) ⟨(Nat.le_of_ble_eq_true rfl), (Nat.le_of_ble_eq_true rfl)⟩) (pre_v (q0 := 0) (ci := 2) hK hP rfl rfl) rfl rfl hl.1 rfl (lv_room (Nat.le_of_ble_eq_true rfl)) dX2_windsOf_62 ⟨(Nat.zero_le _), (Nat.zero_le _)⟩) ?_
        refine lv_iload_n hx hb dX2_windsOf_65 rfl (lv_at hl 2 rfl) ?_
        refine lv_iload_n hx hb dX2_windsOf_66 rfl (lv_at hl 3 rfl) ?_
        obtain ⟨r9, hcr9, h⟩ := og_bind h
        refine cp_s (va_runS (As := [.int r5, .int r6, .int r7, .int r8, .int a2, .int a3]) (rest := []) ⟨hx, hb, hml, hown, hts⟩ (k_X2_side l r5 r6 r7 r8 a2 a3 _ hcr9) (va_cwS 6 hts gX2_windsOf_X2_side rfl rfl rfl (by decide +kernel) ⟨(Nat.le_of_ble_eq_true rfl), (Nat.le_of_ble_eq_true rfl)⟩) pre_s rfl rfl hl.1 rfl (lv_room (Nat.le_of_ble_eq_true rfl)) dX2_windsOf_67 ⟨(Nat.zero_le _), (Nat.zero_le _)⟩) ?_
        refine lv_lstore (lv' := [(6, .long r9), (0, .ref m0), (1, .int a1), (2, .int a2), (3, .int a3), (4, .int u6.1), (5, .int u6.2)]) hx hb dX2_windsOf_70 hl (by decide) rfl (fun ls hl => ?_)
        refine lv_aload_n hx hb dX2_windsOf_72 rfl (lv_at hl 1 rfl) ?_
        refine lv_iload_n hx hb dX2_windsOf_73 rfl (lv_at hl 2 rfl) ?_
        refine lv_iload hx hb dX2_windsOf_74 (lv_at hl 6 rfl) ?_
        obtain ⟨r10, hcr10, h⟩ := og_bind h
        refine cp_s (va_runV (As := [.int a1, .int u6.2]) (rest := []) ⟨hx, hb, hml, hown, hts⟩ (k_X2_y l D cI cF m0 m1 m2 m3 m4 m5 pt px py ro an te fx fy ar be ma nx ny a1 u6.2 _ hcr10) (cwV 2 hts gX2_windsOf_X2_y rfl rfl rfl (by decide +kernel) ⟨(Nat.le_of_ble_eq_true rfl), (Nat.le_of_ble_eq_true rfl)⟩) (pre_v (q0 := 0) (ci := 2) hK hP rfl rfl) rfl rfl hl.1 rfl (lv_room (Nat.le_of_ble_eq_true rfl)) dX2_windsOf_76 ⟨(Nat.zero_le _), (Nat.zero_le _)⟩) ?_
        refine lv_iload_n hx hb dX2_windsOf_79 rfl (lv_at hl 4 rfl) ?_
        obtain ⟨mv11, hm101, h⟩ := og_bind h
        refine wj (PC := 101) (ST := [.int mv11]) (fun ls => lv_has ls 10 [(0, .ref m0), (1, .int a1), (2, .int a2), (3, .int a3), (4, .int u6.1), (5, .int u6.2), (6, .long r9)]) (fun ls hl => ?_) (fun KJ101 => ?_)
        · refine lv_istore (lv' := [(8, .int mv11), (0, .ref m0), (1, .int a1), (2, .int a2), (3, .int a3), (4, .int u6.1), (5, .int u6.2), (6, .long r9)]) hx hb dX2_windsOf_101 hl (by decide) rfl (fun ls hl => ?_)
          refine lv_aload_n hx hb dX2_windsOf_103 rfl (lv_at hl 1 rfl) ?_
          refine lv_iload_n hx hb dX2_windsOf_104 rfl (lv_at hl 2 rfl) ?_
          refine lv_iload hx hb dX2_windsOf_105 (lv_at hl 6 rfl) ?_
          obtain ⟨r12, hcr12, h⟩ := og_bind h
          refine cp_s (va_runV (As := [.int a1, .int u6.2]) (rest := []) ⟨hx, hb, hml, hown, hts⟩ (k_X2_y l D cI cF m0 m1 m2 m3 m4 m5 pt px py ro an te fx fy ar be ma nx ny a1 u6.2 _ hcr12) (cwV 2 hts gX2_windsOf_X2_y rfl rfl rfl (by decide +kernel) ⟨(Nat.le_of_ble_eq_true rfl), (Nat.le_of_ble_eq_true rfl)⟩) (pre_v (q0 := 0) (ci := 2) hK hP rfl rfl) rfl rfl hl.1 rfl (lv_room (Nat.le_of_ble_eq_true rfl)) dX2_windsOf_107 ⟨(Nat.zero_le _), (Nat.zero_le _)⟩) ?_
          refine lv_iload_n hx hb dX2_windsOf_110 rfl (lv_at hl 4 rfl) ?_
          obtain ⟨mv13, hm132, h⟩ := og_bind h
          refine wj (PC := 132) (ST := [.int mv13]) (fun ls => lv_has ls 10 [(0, .ref m0), (1, .int a1), (2, .int a2), (3, .int a3), (4, .int u6.1), (5, .int u6.2), (6, .long r9), (8, .int mv11)]) (fun ls hl => ?_) (fun KJ132 => ?_)
          · refine lv_istore (lv' := [(9, .int mv13), (0, .ref m0), (1, .int a1), (2, .int a2), (3, .int a3), (4, .int u6.1), (5, .int u6.2), (6, .long r9), (8, .int mv11)]) hx hb dX2_windsOf_132 hl (by decide) rfl (fun ls hl => ?_)
            refine lv_iload hx hb dX2_windsOf_134 (lv_at hl 5 rfl) ?_
            refine lv_iload hx hb dX2_windsOf_136 (lv_at hl 8 rfl) ?_
            refine lv_if_eq (tgt := 152) hx hb dX2_windsOf_138 (by decide) (fun c13 => ?_) (fun c13 => ?_)
            · rw [if_pos c13] at h
              refine lv_iload hx hb dX2_windsOf_152 (lv_at hl 0 rfl) ?_
              refine lv_if_eq (tgt := 168) hx hb dX2_windsOf_154 (by decide) (fun c14 => ?_) (fun c14 => ?_)
              · rw [if_pos c14] at h
                refine lv_iconst (v := 0) hx hb dX2_windsOf_168 (by decide) ?_
                refine lv_iadd hx hb dX2_windsOf_169 ?_
                refine lv_topi (fun v16 ev16 => ?_)
                have h := og_ov h ev16
                refine lv_istore (lv' := [(4, .int v16), (9, .int mv13), (0, .ref m0), (1, .int a1), (2, .int a2), (3, .int a3), (5, .int u6.2), (6, .long r9), (8, .int mv11)]) hx hb dX2_windsOf_170 hl (by decide) rfl (fun ls hl => ?_)
                obtain ⟨v17, ev17⟩ : ∃ y : Int32, y = u6.2 + (1 : Int32) := ⟨_, rfl⟩
                have h := og_ov h ev17
                refine lv_iinc (v := v17) (lv' := [(5, .int v17), (4, .int v16), (9, .int mv13), (0, .ref m0), (1, .int a1), (2, .int a2), (3, .int a3), (6, .long r9), (8, .int mv11)]) hx hb dX2_windsOf_172 hl (k := 6) rfl (by rw [ev17]; rfl) (by decide) rfl (fun ls hl => ?_)
                refine lv_goto (tgt := 6) hx hb dX2_windsOf_175 (by decide) ?_
                exact ki6 _ ls (Option.some.inj h).symm (lv_sub hl [3, 4, 5, 6, 1, 0] rfl)
              · rw [if_neg c14] at h
                refine lv_lload hx hb dX2_windsOf_157 (lv_at hl 7 rfl) ?_
                refine lv_lconst (v := 0) hx hb dX2_windsOf_159 (by decide) ?_
                refine W.lcmp hx hb dX2_windsOf_160 ?_
                refine lv_if_ge (tgt := 168) hx hb dX2_windsOf_161 (by decide) (fun c17 => ?_) (fun c17 => ?_)
                · rw [if_pos c17] at h
                  refine lv_iconst (v := 0) hx hb dX2_windsOf_168 (by decide) ?_
                  refine lv_iadd hx hb dX2_windsOf_169 ?_
                  refine lv_topi (fun v19 ev19 => ?_)
                  have h := og_ov h ev19
                  refine lv_istore (lv' := [(4, .int v19), (9, .int mv13), (0, .ref m0), (1, .int a1), (2, .int a2), (3, .int a3), (5, .int u6.2), (6, .long r9), (8, .int mv11)]) hx hb dX2_windsOf_170 hl (by decide) rfl (fun ls hl => ?_)
                  obtain ⟨v20, ev20⟩ : ∃ y : Int32, y = u6.2 + (1 : Int32) := ⟨_, rfl⟩
                  have h := og_ov h ev20
                  refine lv_iinc (v := v20) (lv' := [(5, .int v20), (4, .int v19), (9, .int mv13), (0, .ref m0), (1, .int a1), (2, .int a2), (3, .int a3), (6, .long r9), (8, .int mv11)]) hx hb dX2_windsOf_172 hl (k := 6) rfl (by rw [ev20]; rfl) (by decide) rfl (fun ls hl => ?_)
                  refine lv_goto (tgt := 6) hx hb dX2_windsOf_175 (by decide) ?_
                  exact ki6 _ ls (Option.some.inj h).symm (lv_sub hl [3, 4, 5, 6, 1, 0] rfl)
                · rw [if_neg c17] at h
                  refine lv_iconst (v := -1) hx hb dX2_windsOf_164 (by decide) ?_
                  refine lv_goto (tgt := 169) hx hb dX2_windsOf_165 (by decide) ?_
                  refine lv_iadd hx hb dX2_windsOf_169 ?_
                  refine lv_topi (fun v21 ev21 => ?_)
                  have h := og_ov h ev21
                  refine lv_istore (lv' := [(4, .int v21), (9, .int mv13), (0, .ref m0), (1, .int a1), (2, .int a2), (3, .int a3), (5, .int u6.2), (6, .long r9), (8, .int mv11)]) hx hb dX2_windsOf_170 hl (by decide) rfl (fun ls hl => ?_)
                  obtain ⟨v22, ev22⟩ : ∃ y : Int32, y = u6.2 + (1 : Int32) := ⟨_, rfl⟩
                  have h := og_ov h ev22
                  refine lv_iinc (v := v22) (lv' := [(5, .int v22), (4, .int v21), (9, .int mv13), (0, .ref m0), (1, .int a1), (2, .int a2), (3, .int a3), (6, .long r9), (8, .int mv11)]) hx hb dX2_windsOf_172 hl (k := 6) rfl (by rw [ev22]; rfl) (by decide) rfl (fun ls hl => ?_)
                  refine lv_goto (tgt := 6) hx hb dX2_windsOf_175 (by decide) ?_
                  exact ki6 _ ls (Option.some.inj h).symm (lv_sub hl [3, 4, 5, 6, 1, 0] rfl)
            · rw [if_neg c13] at h
              refine lv_lload hx hb dX2_windsOf_141 (lv_at hl 7 rfl) ?_
              refine lv_lconst (v := 0) hx hb dX2_windsOf_143 (by decide) ?_
              refine W.lcmp hx hb dX2_windsOf_144 ?_
              refine lv_if_le (tgt := 152) hx hb dX2_windsOf_145 (by decide) (fun c22 => ?_) (fun c22 => ?_)
              · rw [if_pos c22] at h
                refine lv_iload hx hb dX2_windsOf_152 (lv_at hl 0 rfl) ?_
                refine lv_if_eq (tgt := 168) hx hb dX2_windsOf_154 (by decide) (fun c23 => ?_) (fun c23 => ?_)
                · rw [if_pos c23] at h
                  refine lv_iconst (v := 0) hx hb dX2_windsOf_168 (by decide) ?_
                  refine lv_iadd hx hb dX2_windsOf_169 ?_
                  refine lv_topi (fun v25 ev25 => ?_)
                  have h := og_ov h ev25
                  refine lv_istore (lv' := [(4, .int v25), (9, .int mv13), (0, .ref m0), (1, .int a1), (2, .int a2), (3, .int a3), (5, .int u6.2), (6, .long r9), (8, .int mv11)]) hx hb dX2_windsOf_170 hl (by decide) rfl (fun ls hl => ?_)
                  obtain ⟨v26, ev26⟩ : ∃ y : Int32, y = u6.2 + (1 : Int32) := ⟨_, rfl⟩
                  have h := og_ov h ev26
                  refine lv_iinc (v := v26) (lv' := [(5, .int v26), (4, .int v25), (9, .int mv13), (0, .ref m0), (1, .int a1), (2, .int a2), (3, .int a3), (6, .long r9), (8, .int mv11)]) hx hb dX2_windsOf_172 hl (k := 6) rfl (by rw [ev26]; rfl) (by decide) rfl (fun ls hl => ?_)
                  refine lv_goto (tgt := 6) hx hb dX2_windsOf_175 (by decide) ?_
                  exact ki6 _ ls (Option.some.inj h).symm (lv_sub hl [3, 4, 5, 6, 1, 0] rfl)
                · rw [if_neg c23] at h
                  refine lv_lload hx hb dX2_windsOf_157 (lv_at hl 7 rfl) ?_
                  refine lv_lconst (v := 0) hx hb dX2_windsOf_159 (by decide) ?_
                  refine W.lcmp hx hb dX2_windsOf_160 ?_
                  refine lv_if_ge (tgt := 168) hx hb dX2_windsOf_161 (by decide) (fun c26 => ?_) (fun c26 => ?_)
                  · rw [if_pos c26] at h
                    refine lv_iconst (v := 0) hx hb dX2_windsOf_168 (by decide) ?_
                    refine lv_iadd hx hb dX2_windsOf_169 ?_
                    refine lv_topi (fun v28 ev28 => ?_)
                    have h := og_ov h ev28
                    refine lv_istore (lv' := [(4, .int v28), (9, .int mv13), (0, .ref m0), (1, .int a1), (2, .int a2), (3, .int a3), (5, .int u6.2), (6, .long r9), (8, .int mv11)]) hx hb dX2_windsOf_170 hl (by decide) rfl (fun ls hl => ?_)
                    obtain ⟨v29, ev29⟩ : ∃ y : Int32, y = u6.2 + (1 : Int32) := ⟨_, rfl⟩
                    have h := og_ov h ev29
                    refine lv_iinc (v := v29) (lv' := [(5, .int v29), (4, .int v28), (9, .int mv13), (0, .ref m0), (1, .int a1), (2, .int a2), (3, .int a3), (6, .long r9), (8, .int mv11)]) hx hb dX2_windsOf_172 hl (k := 6) rfl (by rw [ev29]; rfl) (by decide) rfl (fun ls hl => ?_)
                    refine lv_goto (tgt := 6) hx hb dX2_windsOf_175 (by decide) ?_
                    exact ki6 _ ls (Option.some.inj h).symm (lv_sub hl [3, 4, 5, 6, 1, 0] rfl)
                  · rw [if_neg c26] at h
                    refine lv_iconst (v := -1) hx hb dX2_windsOf_164 (by decide) ?_
                    refine lv_goto (tgt := 169) hx hb dX2_windsOf_165 (by decide) ?_
                    refine lv_iadd hx hb dX2_windsOf_169 ?_
                    refine lv_topi (fun v30 ev30 => ?_)
                    have h := og_ov h ev30
                    refine lv_istore (lv' := [(4, .int v30), (9, .int mv13), (0, .ref m0), (1, .int a1), (2, .int a2), (3, .int a3), (5, .int u6.2), (6, .long r9), (8, .int mv11)]) hx hb dX2_windsOf_170 hl (by decide) rfl (fun ls hl => ?_)
                    obtain ⟨v31, ev31⟩ : ∃ y : Int32, y = u6.2 + (1 : Int32) := ⟨_, rfl⟩
                    have h := og_ov h ev31
                    refine lv_iinc (v := v31) (lv' := [(5, .int v31), (4, .int v30), (9, .int mv13), (0, .ref m0), (1, .int a1), (2, .int a2), (3, .int a3), (6, .long r9), (8, .int mv11)]) hx hb dX2_windsOf_172 hl (k := 6) rfl (by rw [ev31]; rfl) (by decide) rfl (fun ls hl => ?_)
                    refine lv_goto (tgt := 6) hx hb dX2_windsOf_175 (by decide) ?_
                    exact ki6 _ ls (Option.some.inj h).symm (lv_sub hl [3, 4, 5, 6, 1, 0] rfl)
              · rw [if_neg c22] at h
                refine lv_iconst (v := 1) hx hb dX2_windsOf_148 (by decide) ?_
                refine lv_goto (tgt := 169) hx hb dX2_windsOf_149 (by decide) ?_
                refine lv_iadd hx hb dX2_windsOf_169 ?_
                refine lv_topi (fun v32 ev32 => ?_)
                have h := og_ov h ev32
                refine lv_istore (lv' := [(4, .int v32), (9, .int mv13), (0, .ref m0), (1, .int a1), (2, .int a2), (3, .int a3), (5, .int u6.2), (6, .long r9), (8, .int mv11)]) hx hb dX2_windsOf_170 hl (by decide) rfl (fun ls hl => ?_)
                obtain ⟨v33, ev33⟩ : ∃ y : Int32, y = u6.2 + (1 : Int32) := ⟨_, rfl⟩
                have h := og_ov h ev33
                refine lv_iinc (v := v33) (lv' := [(5, .int v33), (4, .int v32), (9, .int mv13), (0, .ref m0), (1, .int a1), (2, .int a2), (3, .int a3), (6, .long r9), (8, .int mv11)]) hx hb dX2_windsOf_172 hl (k := 6) rfl (by rw [ev33]; rfl) (by decide) rfl (fun ls hl => ?_)
                refine lv_goto (tgt := 6) hx hb dX2_windsOf_175 (by decide) ?_
                exact ki6 _ ls (Option.some.inj h).symm (lv_sub hl [3, 4, 5, 6, 1, 0] rfl)
          · have h := hm132
            refine lv_icmp_le (tgt := 131) hx hb dX2_windsOf_111 (by decide) (fun c33 => ?_) (fun c33 => ?_)
            · rw [if_pos c33] at h
              refine lv_iconst (v := 0) hx hb dX2_windsOf_131 (by decide) ?_
              obtain rfl := Option.some.inj h
              exact KJ132 ls (lv_sub hl [1, 2, 3, 4, 5, 6, 7, 0] rfl)
            · rw [if_neg c33] at h
              refine lv_aload_n hx hb dX2_windsOf_114 rfl (lv_at hl 1 rfl) ?_
              refine lv_iload_n hx hb dX2_windsOf_115 rfl (lv_at hl 2 rfl) ?_
              refine lv_iload hx hb dX2_windsOf_116 (lv_at hl 6 rfl) ?_
              refine lv_iconst (v := 1) hx hb dX2_windsOf_118 (by decide) ?_
              refine lv_iadd hx hb dX2_windsOf_119 ?_
              obtain ⟨r35, hcr35, h⟩ := og_bind h
              refine cp_s (va_runV (As := [.int a1, .int (u6.2 + (1 : Int32))]) (rest := []) ⟨hx, hb, hml, hown, hts⟩ (k_X2_y l D cI cF m0 m1 m2 m3 m4 m5 pt px py ro an te fx fy ar be ma nx ny a1 (u6.2 + (1 : Int32)) _ hcr35) (cwV 2 hts gX2_windsOf_X2_y rfl rfl rfl (by decide +kernel) ⟨(Nat.le_of_ble_eq_true rfl), (Nat.le_of_ble_eq_true rfl)⟩) (pre_v (q0 := 0) (ci := 2) hK hP rfl rfl) rfl rfl hl.1 rfl (lv_room (Nat.le_of_ble_eq_true rfl)) dX2_windsOf_120 ⟨(Nat.zero_le _), (Nat.zero_le _)⟩) ?_
              refine lv_iload_n hx hb dX2_windsOf_123 rfl (lv_at hl 4 rfl) ?_
              refine lv_icmp_gt (tgt := 131) hx hb dX2_windsOf_124 (by decide) (fun c35 => ?_) (fun c35 => ?_)
              · rw [if_pos c35] at h
                refine lv_iconst (v := 0) hx hb dX2_windsOf_131 (by decide) ?_
                obtain rfl := Option.some.inj h
                exact KJ132 ls (lv_sub hl [1, 2, 3, 4, 5, 6, 7, 0] rfl)
              · rw [if_neg c35] at h
                refine lv_iconst (v := 1) hx hb dX2_windsOf_127 (by decide) ?_
                refine lv_goto (tgt := 132) hx hb dX2_windsOf_128 (by decide) ?_
                obtain rfl := Option.some.inj h
                exact KJ132 ls (lv_sub hl [1, 2, 3, 4, 5, 6, 7, 0] rfl)
        · have h := hm101
          refine lv_icmp_gt (tgt := 100) hx hb dX2_windsOf_80 (by decide) (fun c36 => ?_) (fun c36 => ?_)
          · rw [if_pos c36] at h
            refine lv_iconst (v := 0) hx hb dX2_windsOf_100 (by decide) ?_
            obtain rfl := Option.some.inj h
            exact KJ101 ls (lv_sub hl [1, 2, 3, 4, 5, 6, 0] rfl)
          · rw [if_neg c36] at h
            refine lv_aload_n hx hb dX2_windsOf_83 rfl (lv_at hl 1 rfl) ?_
            refine lv_iload_n hx hb dX2_windsOf_84 rfl (lv_at hl 2 rfl) ?_
            refine lv_iload hx hb dX2_windsOf_85 (lv_at hl 6 rfl) ?_
            refine lv_iconst (v := 1) hx hb dX2_windsOf_87 (by decide) ?_
            refine lv_iadd hx hb dX2_windsOf_88 ?_
            obtain ⟨r38, hcr38, h⟩ := og_bind h
            refine cp_s (va_runV (As := [.int a1, .int (u6.2 + (1 : Int32))]) (rest := []) ⟨hx, hb, hml, hown, hts⟩ (k_X2_y l D cI cF m0 m1 m2 m3 m4 m5 pt px py ro an te fx fy ar be ma nx ny a1 (u6.2 + (1 : Int32)) _ hcr38) (cwV 2 hts gX2_windsOf_X2_y rfl rfl rfl (by decide +kernel) ⟨(Nat.le_of_ble_eq_true rfl), (Nat.le_of_ble_eq_true rfl)⟩) (pre_v (q0 := 0) (ci := 2) hK hP rfl rfl) rfl rfl hl.1 rfl (lv_room (Nat.le_of_ble_eq_true rfl)) dX2_windsOf_89 ⟨(Nat.zero_le _), (Nat.zero_le _)⟩) ?_
            refine lv_iload_n hx hb dX2_windsOf_92 rfl (lv_at hl 4 rfl) ?_
            refine lv_icmp_le (tgt := 100) hx hb dX2_windsOf_93 (by decide) (fun c38 => ?_) (fun c38 => ?_)
            · rw [if_pos c38] at h
              refine lv_iconst (v := 0) hx hb dX2_windsOf_100 (by decide) ?_
              obtain rfl := Option.some.inj h
              exact KJ101 ls (lv_sub hl [1, 2, 3, 4, 5, 6, 0] rfl)
            · rw [if_neg c38] at h
              refine lv_iconst (v := 1) hx hb dX2_windsOf_96 (by decide) ?_
              refine lv_goto (tgt := 101) hx hb dX2_windsOf_97 (by decide) ?_
              obtain rfl := Option.some.inj h
              exact KJ101 ls (lv_sub hl [1, 2, 3, 4, 5, 6, 0] rfl)
      · rw [if_neg c3] at h
        refine lv_sipush (v := -1006) hx hb dX2_windsOf_29 (by decide) ?_
        obtain rfl := kr6 _ (Option.some.inj h).symm
        exact W.iret hx hb hr (fun t ht _ => ⟨rfl, ht⟩) (fun _ h9 => absurd h9 List.not_mem_nil) dX2_windsOf_32
  · subst e9
    exact Option.some.inj h
  · subst e9
    dsimp only [ret2] at h
    refine lv_iload hx hb dX2_windsOf_178 (lv_at hl 0 rfl) ?_
    obtain rfl := Option.some.inj h
    exact W.iret hx hb hr (fun t ht _ => ⟨rfl, ht⟩) (fun _ h9 => absurd h9 List.not_mem_nil) dX2_windsOf_180
def f_X2_winds (pt : Nat → Int32) (px : Nat → Int32) (py : Nat → Int32) (a1 : Int32) (a2 : Int32) (a3 : Int32) : Option Int32 :=
  (f_X2_isFigure a1).bind fun r1 =>
  if r1 = (0) then
  (some (-1001 : Int32))
  else
  ((f_X2_in a2 (-300 : Int32) (300 : Int32)).bind fun r3 =>
  if r3 = (0) then
  (some (-1002 : Int32))
  else
  ((f_X2_in a3 (-300 : Int32) (300 : Int32)).bind fun r5 =>
  if r5 = (0) then
  (some (-1002 : Int32))
  else
  ((f_X2_isClosed pt a1).bind fun r7 =>
  if r7 = (0) then
  (some (-1003 : Int32))
  else
  ((f_X2_windsOf pt px py a1 a2 a3).bind fun r9 =>
  some r9))))
set_option maxHeartbeats 4000000 in
set_option maxRecDepth 100000 in
theorem k_X2_winds (l : Launch) (D : va_G) (cI cF : ClassId) (m0 : Nat) (m1 : Nat) (m2 : Nat) (m3 : Nat) (m4 : Nat) (m5 : Nat) (pt : Nat → Int32) (px : Nat → Int32) (py : Nat → Int32) (ro : Int32) (an : Int32) (te : Int32) (fx : Int32) (fy : Int32) (ar : Int32) (be : Int32) (ma : Int32) (nx : Nat → Int32) (ny : Nat → Int32) (a1 : Int32) (a2 : Int32) (a3 : Int32) (r0 : Int32) (h : f_X2_winds pt px py a1 a2 a3 = some r0) : Met l yX2_winds wsX2_winds ({ frames := 3, cells := 0, slots := 0, locals := 83 }) (va_Pc [.ref m0, .int a1, .int a2, .int a3] (fun U => wK D cI cF (moW cI m0 m1 m2 m3 m4 m5 pt px py ro an te fx fy ar be ma nx ny) U)) (qS (.int r0)) 0 0 (fun _ => False) := by
  refine Met.ofW (cc := cX2_winds) (maxL := 4) (ret := (some .int)) (by decide) rfl ?_
  intro p e s m args below meth c s₁ B hml hv
  obtain ⟨rfl, hK, hP⟩ := hv
  have hx := B.exec
  have hb := B.bytes
  have hr := B.returns
  have hts := atoms_spec (ws := wsX2_winds) B.pre
  have hown : s.vm.findClass RX2 = some m.cls := findClass_of_methodNamed B.named
  have hlocks := B.notSynchronized
  have hl := lv_entry ([.ref m0, .int a1, .int a2, .int a3]) (n := 4) (Nat.le_of_ble_eq_true rfl)
  rw [lg_entry_eq]
  generalize (lg_sl ([.ref m0, .int a1, .int a2, .int a3]) ++ List.replicate (4 - (lg_sl ([.ref m0, .int a1, .int a2, .int a3])).length) Slot.unset).toArray = ls at hl ⊢
  have hl : lv_has ls 4 [(0, .ref m0), (1, .int a1), (2, .int a2), (3, .int a3)] := hl
  unfold f_X2_winds at h
  refine lv_iload_n hx hb dX2_winds_0 rfl (lv_at hl 1 rfl) ?_
  obtain ⟨r1, hcr1, h⟩ := og_bind h
  refine cp_s (va_runS (As := [.int a1]) (rest := []) ⟨hx, hb, hml, hown, hts⟩ (k_X2_isFigure l a1 _ hcr1) (va_cwS 1 hts gX2_winds_X2_isFigure rfl rfl rfl (by decide +kernel) ⟨(Nat.le_of_ble_eq_true rfl), (Nat.le_of_ble_eq_true rfl)⟩) pre_s rfl rfl hl.1 rfl (lv_room (Nat.le_of_ble_eq_true rfl)) dX2_winds_1 ⟨(Nat.zero_le _), (Nat.zero_le _)⟩) ?_
  refine lv_if_ne (tgt := 11) hx hb dX2_winds_4 (by decide) (fun c1 => ?_) (fun c1 => ?_)
  · rw [if_neg c1] at h
    refine lv_iload_n hx hb dX2_winds_11 rfl (lv_at hl 2 rfl) ?_
    refine lv_sipush (v := -300) hx hb dX2_winds_12 (by decide) ?_
    refine lv_sipush (v := 300) hx hb dX2_winds_15 (by decide) ?_
    obtain ⟨r3, hcr3, h⟩ := og_bind h
    refine cp_s (va_runS (As := [.int a2, .int (-300 : Int32), .int (300 : Int32)]) (rest := []) ⟨hx, hb, hml, hown, hts⟩ (k_X2_in l a2 (-300 : Int32) (300 : Int32) _ hcr3) (va_cwS 3 hts gX2_winds_X2_in rfl rfl rfl (by decide +kernel) ⟨(Nat.le_of_ble_eq_true rfl), (Nat.le_of_ble_eq_true rfl)⟩) pre_s rfl rfl hl.1 rfl (lv_room (Nat.le_of_ble_eq_true rfl)) dX2_winds_18 ⟨(Nat.zero_le _), (Nat.zero_le _)⟩) ?_
    refine lv_if_eq (tgt := 37) hx hb dX2_winds_21 (by decide) (fun c3 => ?_) (fun c3 => ?_)
    · rw [if_pos c3] at h
      refine lv_sipush (v := -1002) hx hb dX2_winds_37 (by decide) ?_
      obtain rfl := Option.some.inj h
      exact W.iret hx hb hr (fun t ht _ => ⟨rfl, ht⟩) (fun _ h9 => absurd h9 List.not_mem_nil) dX2_winds_40
    · rw [if_neg c3] at h
      refine lv_iload_n hx hb dX2_winds_24 rfl (lv_at hl 3 rfl) ?_
      refine lv_sipush (v := -300) hx hb dX2_winds_25 (by decide) ?_
      refine lv_sipush (v := 300) hx hb dX2_winds_28 (by decide) ?_
      obtain ⟨r5, hcr5, h⟩ := og_bind h
      refine cp_s (va_runS (As := [.int a3, .int (-300 : Int32), .int (300 : Int32)]) (rest := []) ⟨hx, hb, hml, hown, hts⟩ (k_X2_in l a3 (-300 : Int32) (300 : Int32) _ hcr5) (va_cwS 3 hts gX2_winds_X2_in rfl rfl rfl (by decide +kernel) ⟨(Nat.le_of_ble_eq_true rfl), (Nat.le_of_ble_eq_true rfl)⟩) pre_s rfl rfl hl.1 rfl (lv_room (Nat.le_of_ble_eq_true rfl)) dX2_winds_31 ⟨(Nat.zero_le _), (Nat.zero_le _)⟩) ?_
      refine lv_if_ne (tgt := 41) hx hb dX2_winds_34 (by decide) (fun c5 => ?_) (fun c5 => ?_)
      · rw [if_neg c5] at h
        refine lv_aload_n hx hb dX2_winds_41 rfl (lv_at hl 0 rfl) ?_
        refine lv_iload_n hx hb dX2_winds_42 rfl (lv_at hl 1 rfl) ?_
        obtain ⟨r7, hcr7, h⟩ := og_bind h
        refine cp_s (va_runV (As := [.int a1]) (rest := []) ⟨hx, hb, hml, hown, hts⟩ (k_X2_isClosed l D cI cF m0 m1 m2 m3 m4 m5 pt px py ro an te fx fy ar be ma nx ny a1 _ hcr7) (cwV 1 hts gX2_winds_X2_isClosed rfl rfl rfl (by decide +kernel) ⟨(Nat.le_of_ble_eq_true rfl), (Nat.le_of_ble_eq_true rfl)⟩) (pre_v (q0 := 0) (ci := 2) hK hP rfl rfl) rfl rfl hl.1 rfl (lv_room (Nat.le_of_ble_eq_true rfl)) dX2_winds_43 ⟨(Nat.zero_le _), (Nat.zero_le _)⟩) ?_
        refine lv_if_eq (tgt := 59) hx hb dX2_winds_46 (by decide) (fun c7 => ?_) (fun c7 => ?_)
        · rw [if_pos c7] at h
          refine lv_sipush (v := -1003) hx hb dX2_winds_59 (by decide) ?_
          obtain rfl := Option.some.inj h
          exact W.iret hx hb hr (fun t ht _ => ⟨rfl, ht⟩) (fun _ h9 => absurd h9 List.not_mem_nil) dX2_winds_62
        · rw [if_neg c7] at h
          refine lv_aload_n hx hb dX2_winds_49 rfl (lv_at hl 0 rfl) ?_
          refine lv_iload_n hx hb dX2_winds_50 rfl (lv_at hl 1 rfl) ?_
          refine lv_iload_n hx hb dX2_winds_51 rfl (lv_at hl 2 rfl) ?_
          refine lv_iload_n hx hb dX2_winds_52 rfl (lv_at hl 3 rfl) ?_
          obtain ⟨r9, hcr9, h⟩ := og_bind h
          refine cp_s (va_runV (As := [.int a1, .int a2, .int a3]) (rest := []) ⟨hx, hb, hml, hown, hts⟩ (k_X2_windsOf l D cI cF m0 m1 m2 m3 m4 m5 pt px py ro an te fx fy ar be ma nx ny a1 a2 a3 _ hcr9) (cwV 3 hts gX2_winds_X2_windsOf rfl rfl rfl (by decide +kernel) ⟨(Nat.le_of_ble_eq_true rfl), (Nat.le_of_ble_eq_true rfl)⟩) (pre_v (q0 := 0) (ci := 2) hK hP rfl rfl) rfl rfl hl.1 rfl (lv_room (Nat.le_of_ble_eq_true rfl)) dX2_winds_53 ⟨(Nat.zero_le _), (Nat.zero_le _)⟩) ?_
          refine lv_goto (tgt := 62) hx hb dX2_winds_56 (by decide) ?_
          obtain rfl := Option.some.inj h
          exact W.iret hx hb hr (fun t ht _ => ⟨rfl, ht⟩) (fun _ h9 => absurd h9 List.not_mem_nil) dX2_winds_62
      · rw [if_pos c5] at h
        refine lv_sipush (v := -1002) hx hb dX2_winds_37 (by decide) ?_
        obtain rfl := Option.some.inj h
        exact W.iret hx hb hr (fun t ht _ => ⟨rfl, ht⟩) (fun _ h9 => absurd h9 List.not_mem_nil) dX2_winds_40
  · rw [if_pos c1] at h
    refine lv_sipush (v := -1001) hx hb dX2_winds_7 (by decide) ?_
    obtain rfl := Option.some.inj h
    exact W.iret hx hb hr (fun t ht _ => ⟨rfl, ht⟩) (fun _ h9 => absurd h9 List.not_mem_nil) dX2_winds_10
def s_X2_canGo_4 (ro : Int32) (pt : Nat → Int32) (py : Nat → Int32) (a1 : Int32) (u4 : (Int32 × Int32)) : Option ((Int32 × Int32) ⊕ Int32) :=
  if bin a1 6 = true then
  if (pt a1.toNatClampNeg) ≤ u4.2 then
  (some (.inr u4.1))
  else
  (if u4.1 = (0) then
  (ov (u4.2 + (1 : Int32)) fun v4 =>
  some (.inl ((0 : Int32), v4)))
  else
  ((f_X2_y pt py a1 u4.2).bind fun r5 =>
  if ro ≤ r5 then
  (ov (u4.2 + (1 : Int32)) fun v7 =>
  some (.inl ((0 : Int32), v7)))
  else
  ((f_X2_y pt py a1 u4.2).bind fun r8 =>
  if r8 ≤ (-ro) then
  (ov (u4.2 + (1 : Int32)) fun v10 =>
  some (.inl ((0 : Int32), v10)))
  else
  (ov (u4.2 + (1 : Int32)) fun v11 =>
  some (.inl ((1 : Int32), v11))))))
  else none
def f_X2_canGo (ro : Int32) (pt : Nat → Int32) (py : Nat → Int32) (a1 : Int32) : Option Int32 :=
  (lpf (s_X2_canGo_4 ro pt py a1) 1000 ((1 : Int32), (0 : Int32))).bind fun x12 =>
  if x12 &&& 1 = x12 then
  some x12
  else none
set_option maxHeartbeats 4000000 in
set_option maxRecDepth 100000 in
theorem k_X2_canGo (l : Launch) (D : va_G) (cI cF : ClassId) (m0 : Nat) (m1 : Nat) (m2 : Nat) (m3 : Nat) (m4 : Nat) (m5 : Nat) (pt : Nat → Int32) (px : Nat → Int32) (py : Nat → Int32) (ro : Int32) (an : Int32) (te : Int32) (fx : Int32) (fy : Int32) (ar : Int32) (be : Int32) (ma : Int32) (nx : Nat → Int32) (ny : Nat → Int32) (a1 : Int32) (r0 : Int32) (h : f_X2_canGo ro pt py a1 = some r0) : Met l yX2_canGo wsX2_canGo ({ frames := 1, cells := 0, slots := 0, locals := 22 }) (va_Pc [.ref m0, .int a1] (fun U => wK D cI cF (moW cI m0 m1 m2 m3 m4 m5 pt px py ro an te fx fy ar be ma nx ny) U)) (qS (.int r0)) 0 0 (fun _ => False) := by
  refine Met.ofW (cc := cX2_canGo) (maxL := 4) (ret := (some .boolean)) (by decide) rfl ?_
  intro p e s m args below meth c s₁ B hml hv
  obtain ⟨rfl, hK, hP⟩ := hv
  have hx := B.exec
  have hb := B.bytes
  have hr := B.returns
  have hts := atoms_spec (ws := wsX2_canGo) B.pre
  have hown : s.vm.findClass RX2 = some m.cls := findClass_of_methodNamed B.named
  have hlocks := B.notSynchronized
  have ht1 := hts (.fieldLink RX2 7 "DrawnAreasModel" "points" "[I") (by decide +kernel)
  have hinX2 : ∀ w ∈ u_ws RX2 TX2 13, w ∈ wsX2_canGo := by decide +kernel
  have ht3 := hts (.fieldLink RX2 19 "DrawnAreasModel" "rod" "I") (by decide +kernel)
  have hl := lv_entry ([.ref m0, .int a1]) (n := 4) (Nat.le_of_ble_eq_true rfl)
  rw [lg_entry_eq]
  generalize (lg_sl ([.ref m0, .int a1]) ++ List.replicate (4 - (lg_sl ([.ref m0, .int a1])).length) Slot.unset).toArray = ls at hl ⊢
  have hl : lv_has ls 4 [(0, .ref m0), (1, .int a1)] := hl
  unfold f_X2_canGo at h
  refine lv_iconst (v := 1) hx hb dX2_canGo_0 (by decide) ?_
  refine lv_istore_n (lv' := [(2, .int (1 : Int32)), (0, .ref m0), (1, .int a1)]) hx hb dX2_canGo_1 rfl hl (by decide) rfl (fun ls hl => ?_)
  refine lv_iconst (v := 0) hx hb dX2_canGo_2 (by decide) ?_
  refine lv_istore_n (lv' := [(3, .int (0 : Int32)), (2, .int (1 : Int32)), (0, .ref m0), (1, .int a1)]) hx hb dX2_canGo_3 rfl hl (by decide) rfl (fun ls hl => ?_)
  obtain ⟨x12, hN4, h⟩ := og_bind h
  refine wl hN4 4 57 (fun u4 ls => lv_has ls 4 [(0, .ref m0), (1, .int a1), (2, .int u4.1), (3, .int u4.2)]) (fun x12 ls => lv_has ls 4 [(2, .int x12)]) (fun u4 xx h ki4 kx4 ls hl => ?_) (fun ls hl => ?_) (lv_sub hl [2, 3, 1, 0] rfl)
  · unfold s_X2_canGo_4 at h
    refine lv_iload_n hx hb dX2_canGo_4 rfl (lv_at hl 3 rfl) ?_
    refine lv_aload_n hx hb dX2_canGo_5 rfl (lv_at hl 0 rfl) ?_
    refine va_get (D := D) (ci := 2) (v := .ref m1) (C := RX2) (T := TX2) (N := 13) hx hb hts hinX2 hown hK hP 0 rfl rfl 0 (by decide) ht1 (fun _ h9 => h9) rfl dX2_canGo_6 ?_
    refine lv_iload_n hx hb dX2_canGo_9 rfl (lv_at hl 1 rfl) ?_
    obtain ⟨gi0, h⟩ := og_in h
    refine va_iald hx hb hK hP 1 0 rfl rfl gi0 dX2_canGo_10 ?_
    refine lv_icmp_ge (tgt := 57) hx hb dX2_canGo_11 (by decide) (fun c1 => ?_) (fun c1 => ?_)
    · rw [if_pos c1] at h
      exact kx4 _ ls (Option.some.inj h).symm (lv_sub hl [2] rfl)
    · rw [if_neg c1] at h
      refine lv_iload_n hx hb dX2_canGo_14 rfl (lv_at hl 2 rfl) ?_
      refine lv_if_eq (tgt := 49) hx hb dX2_canGo_15 (by decide) (fun c2 => ?_) (fun c2 => ?_)
      · rw [if_pos c2] at h
        refine lv_iconst (v := 0) hx hb dX2_canGo_49 (by decide) ?_
        refine lv_istore_n (lv' := [(2, .int (0 : Int32)), (0, .ref m0), (1, .int a1), (3, .int u4.2)]) hx hb dX2_canGo_50 rfl hl (by decide) rfl (fun ls hl => ?_)
        obtain ⟨v4, ev4⟩ : ∃ y : Int32, y = u4.2 + (1 : Int32) := ⟨_, rfl⟩
        have h := og_ov h ev4
        refine lv_iinc (v := v4) (lv' := [(3, .int v4), (2, .int (0 : Int32)), (0, .ref m0), (1, .int a1)]) hx hb dX2_canGo_51 hl (k := 3) rfl (by rw [ev4]; rfl) (by decide) rfl (fun ls hl => ?_)
        refine lv_goto (tgt := 4) hx hb dX2_canGo_54 (by decide) ?_
        exact ki4 _ ls (Option.some.inj h).symm (lv_sub hl [2, 3, 1, 0] rfl)
      · rw [if_neg c2] at h
        refine lv_aload_n hx hb dX2_canGo_18 rfl (lv_at hl 0 rfl) ?_
        refine lv_iload_n hx hb dX2_canGo_19 rfl (lv_at hl 1 rfl) ?_
        refine lv_iload_n hx hb dX2_canGo_20 rfl (lv_at hl 3 rfl) ?_
        obtain ⟨r5, hcr5, h⟩ := og_bind h
        refine cp_s (va_runV (As := [.int a1, .int u4.2]) (rest := []) ⟨hx, hb, hml, hown, hts⟩ (k_X2_y l D cI cF m0 m1 m2 m3 m4 m5 pt px py ro an te fx fy ar be ma nx ny a1 u4.2 _ hcr5) (cwV 2 hts gX2_canGo_X2_y rfl rfl rfl (by decide +kernel) ⟨(Nat.le_of_ble_eq_true rfl), (Nat.le_of_ble_eq_true rfl)⟩) (pre_v (q0 := 0) (ci := 2) hK hP rfl rfl) rfl rfl hl.1 rfl (lv_room (Nat.le_of_ble_eq_true rfl)) dX2_canGo_21 ⟨(Nat.zero_le _), (Nat.zero_le _)⟩) ?_
        refine lv_aload_n hx hb dX2_canGo_24 rfl (lv_at hl 0 rfl) ?_
        refine va_get (D := D) (ci := 2) (v := .int ro) (C := RX2) (T := TX2) (N := 13) hx hb hts hinX2 hown hK hP 0 rfl rfl 3 (by decide) ht3 (fun _ h9 => h9) rfl dX2_canGo_25 ?_
        refine lv_icmp_ge (tgt := 49) hx hb dX2_canGo_28 (by decide) (fun c5 => ?_) (fun c5 => ?_)
        · rw [if_pos c5] at h
          refine lv_iconst (v := 0) hx hb dX2_canGo_49 (by decide) ?_
          refine lv_istore_n (lv' := [(2, .int (0 : Int32)), (0, .ref m0), (1, .int a1), (3, .int u4.2)]) hx hb dX2_canGo_50 rfl hl (by decide) rfl (fun ls hl => ?_)
          obtain ⟨v7, ev7⟩ : ∃ y : Int32, y = u4.2 + (1 : Int32) := ⟨_, rfl⟩
          have h := og_ov h ev7
          refine lv_iinc (v := v7) (lv' := [(3, .int v7), (2, .int (0 : Int32)), (0, .ref m0), (1, .int a1)]) hx hb dX2_canGo_51 hl (k := 3) rfl (by rw [ev7]; rfl) (by decide) rfl (fun ls hl => ?_)
          refine lv_goto (tgt := 4) hx hb dX2_canGo_54 (by decide) ?_
          exact ki4 _ ls (Option.some.inj h).symm (lv_sub hl [2, 3, 1, 0] rfl)
        · rw [if_neg c5] at h
          refine lv_aload_n hx hb dX2_canGo_31 rfl (lv_at hl 0 rfl) ?_
          refine lv_iload_n hx hb dX2_canGo_32 rfl (lv_at hl 1 rfl) ?_
          refine lv_iload_n hx hb dX2_canGo_33 rfl (lv_at hl 3 rfl) ?_
          obtain ⟨r8, hcr8, h⟩ := og_bind h
          refine cp_s (va_runV (As := [.int a1, .int u4.2]) (rest := []) ⟨hx, hb, hml, hown, hts⟩ (k_X2_y l D cI cF m0 m1 m2 m3 m4 m5 pt px py ro an te fx fy ar be ma nx ny a1 u4.2 _ hcr8) (cwV 2 hts gX2_canGo_X2_y rfl rfl rfl (by decide +kernel) ⟨(Nat.le_of_ble_eq_true rfl), (Nat.le_of_ble_eq_true rfl)⟩) (pre_v (q0 := 0) (ci := 2) hK hP rfl rfl) rfl rfl hl.1 rfl (lv_room (Nat.le_of_ble_eq_true rfl)) dX2_canGo_34 ⟨(Nat.zero_le _), (Nat.zero_le _)⟩) ?_
          refine lv_aload_n hx hb dX2_canGo_37 rfl (lv_at hl 0 rfl) ?_
          refine va_get (D := D) (ci := 2) (v := .int ro) (C := RX2) (T := TX2) (N := 13) hx hb hts hinX2 hown hK hP 0 rfl rfl 3 (by decide) ht3 (fun _ h9 => h9) rfl dX2_canGo_38 ?_
          refine lv_ineg hx hb dX2_canGo_41 ?_
          refine lv_icmp_le (tgt := 49) hx hb dX2_canGo_42 (by decide) (fun c8 => ?_) (fun c8 => ?_)
          · rw [if_pos c8] at h
            refine lv_iconst (v := 0) hx hb dX2_canGo_49 (by decide) ?_
            refine lv_istore_n (lv' := [(2, .int (0 : Int32)), (0, .ref m0), (1, .int a1), (3, .int u4.2)]) hx hb dX2_canGo_50 rfl hl (by decide) rfl (fun ls hl => ?_)
            obtain ⟨v10, ev10⟩ : ∃ y : Int32, y = u4.2 + (1 : Int32) := ⟨_, rfl⟩
            have h := og_ov h ev10
            refine lv_iinc (v := v10) (lv' := [(3, .int v10), (2, .int (0 : Int32)), (0, .ref m0), (1, .int a1)]) hx hb dX2_canGo_51 hl (k := 3) rfl (by rw [ev10]; rfl) (by decide) rfl (fun ls hl => ?_)
            refine lv_goto (tgt := 4) hx hb dX2_canGo_54 (by decide) ?_
            exact ki4 _ ls (Option.some.inj h).symm (lv_sub hl [2, 3, 1, 0] rfl)
          · rw [if_neg c8] at h
            refine lv_iconst (v := 1) hx hb dX2_canGo_45 (by decide) ?_
            refine lv_goto (tgt := 50) hx hb dX2_canGo_46 (by decide) ?_
            refine lv_istore_n (lv' := [(2, .int (1 : Int32)), (0, .ref m0), (1, .int a1), (3, .int u4.2)]) hx hb dX2_canGo_50 rfl hl (by decide) rfl (fun ls hl => ?_)
            obtain ⟨v11, ev11⟩ : ∃ y : Int32, y = u4.2 + (1 : Int32) := ⟨_, rfl⟩
            have h := og_ov h ev11
            refine lv_iinc (v := v11) (lv' := [(3, .int v11), (2, .int (1 : Int32)), (0, .ref m0), (1, .int a1)]) hx hb dX2_canGo_51 hl (k := 3) rfl (by rw [ev11]; rfl) (by decide) rfl (fun ls hl => ?_)
            refine lv_goto (tgt := 4) hx hb dX2_canGo_54 (by decide) ?_
            exact ki4 _ ls (Option.some.inj h).symm (lv_sub hl [2, 3, 1, 0] rfl)
  · refine lv_iload_n hx hb dX2_canGo_57 rfl (lv_at hl 0 rfl) ?_
    obtain ⟨gb, h⟩ := og_c h
    obtain rfl := Option.some.inj h
    exact W.zret hx hb hr (by show Value.int (_ &&& 1) = _; rw [gb]) (fun t ht _ => ⟨rfl, ht⟩) (fun _ h9 => absurd h9 List.not_mem_nil) dX2_canGo_58
def s_X2_along_6 (pt : Nat → Int32) (px : Nat → Int32) (py : Nat → Int32) (a1 : Int32) (a2 : Int32) (a3 : Int32) (u6 : (Int64 × Int32)) : Option ((Int64 × Int32) ⊕ Int64) :=
  if a2 ≤ u6.2 then
  (some (.inr u6.1))
  else
  ((f_X2_x pt px a1 (u6.2 + (1 : Int32))).bind fun r2 =>
  (f_X2_x pt px a1 u6.2).bind fun r3 =>
  ov ((r2 - r3).toInt64) fun v4 =>
  (f_X2_y pt py a1 u6.2).bind fun r5 =>
  ov (r5.toInt64) fun v6 =>
  (f_X2_y pt py a1 (u6.2 + (1 : Int32))).bind fun r7 =>
  ov (r7.toInt64) fun v8 =>
  (if a3 = (1 : Int32) then
  (some (v6 + v8))
  else
  (if a3 = (2 : Int32) then
  (some (((v6 * v6) + (v6 * v8)) + (v8 * v8)))
  else
  (some (((((v6 * v6) * v6) + ((v6 * v6) * v8)) + ((v6 * v8) * v8)) + ((v8 * v8) * v8))))).bind fun mv9 =>
  ov (u6.1 + (v4 * mv9)) fun v10 =>
  ov (u6.2 + (1 : Int32)) fun v11 =>
  some (.inl (v10, v11)))
def f_X2_along (pt : Nat → Int32) (px : Nat → Int32) (py : Nat → Int32) (a1 : Int32) (a2 : Int32) (a3 : Int32) : Option Int64 :=
  (lpf (s_X2_along_6 pt px py a1 a2 a3) 1000 ((0 : Int64), (0 : Int32))).bind fun x14 =>
  some x14
set_option maxHeartbeats 4000000 in
set_option maxRecDepth 100000 in
theorem k_X2_along (l : Launch) (D : va_G) (cI cF : ClassId) (m0 : Nat) (m1 : Nat) (m2 : Nat) (m3 : Nat) (m4 : Nat) (m5 : Nat) (pt : Nat → Int32) (px : Nat → Int32) (py : Nat → Int32) (ro : Int32) (an : Int32) (te : Int32) (fx : Int32) (fy : Int32) (ar : Int32) (be : Int32) (ma : Int32) (nx : Nat → Int32) (ny : Nat → Int32) (a1 : Int32) (a2 : Int32) (a3 : Int32) (r0 : Int64) (h : f_X2_along pt px py a1 a2 a3 = some r0) : Met l yX2_along wsX2_along ({ frames := 1, cells := 0, slots := 0, locals := 22 }) (va_Pc [.ref m0, .int a1, .int a2, .int a3] (fun U => wK D cI cF (moW cI m0 m1 m2 m3 m4 m5 pt px py ro an te fx fy ar be ma nx ny) U)) (qS (.long r0)) 0 0 (fun _ => False) := by
  refine Met.ofW (cc := cX2_along) (maxL := 15) (ret := (some .long)) (by decide) rfl ?_
  intro p e s m args below meth c s₁ B hml hv
  obtain ⟨rfl, hK, hP⟩ := hv
  have hx := B.exec
  have hb := B.bytes
  have hr := B.returns
  have hts := atoms_spec (ws := wsX2_along) B.pre
  have hown : s.vm.findClass RX2 = some m.cls := findClass_of_methodNamed B.named
  have hlocks := B.notSynchronized
  have hl := lv_entry ([.ref m0, .int a1, .int a2, .int a3]) (n := 15) (Nat.le_of_ble_eq_true rfl)
  rw [lg_entry_eq]
  generalize (lg_sl ([.ref m0, .int a1, .int a2, .int a3]) ++ List.replicate (15 - (lg_sl ([.ref m0, .int a1, .int a2, .int a3])).length) Slot.unset).toArray = ls at hl ⊢
  have hl : lv_has ls 15 [(0, .ref m0), (1, .int a1), (2, .int a2), (3, .int a3)] := hl
  unfold f_X2_along at h
  refine lv_lconst (v := 0) hx hb dX2_along_0 (by decide) ?_
  refine lv_lstore (lv' := [(4, .long (0 : Int64)), (0, .ref m0), (1, .int a1), (2, .int a2), (3, .int a3)]) hx hb dX2_along_1 hl (by decide) rfl (fun ls hl => ?_)
  refine lv_iconst (v := 0) hx hb dX2_along_3 (by decide) ?_
  refine lv_istore (lv' := [(6, .int (0 : Int32)), (4, .long (0 : Int64)), (0, .ref m0), (1, .int a1), (2, .int a2), (3, .int a3)]) hx hb dX2_along_4 hl (by decide) rfl (fun ls hl => ?_)
  obtain ⟨x14, hN6, h⟩ := og_bind h
  refine wl hN6 6 145 (fun u6 ls => lv_has ls 15 [(0, .ref m0), (1, .int a1), (2, .int a2), (3, .int a3), (4, .long u6.1), (6, .int u6.2)]) (fun x14 ls => lv_has ls 15 [(4, .long x14)]) (fun u6 xx h ki6 kx6 ls hl => ?_) (fun ls hl => ?_) (lv_sub hl [2, 3, 4, 5, 1, 0] rfl)
  · unfold s_X2_along_6 at h
    refine lv_iload hx hb dX2_along_6 (lv_at hl 5 rfl) ?_
    refine lv_iload_n hx hb dX2_along_8 rfl (lv_at hl 2 rfl) ?_
    refine lv_icmp_ge (tgt := 145) hx hb dX2_along_9 (by decide) (fun c0 => ?_) (fun c0 => ?_)
    · rw [if_pos c0] at h
      exact kx6 _ ls (Option.some.inj h).symm (lv_sub hl [4] rfl)
    · rw [if_neg c0] at h
      refine lv_aload_n hx hb dX2_along_12 rfl (lv_at hl 0 rfl) ?_
      refine lv_iload_n hx hb dX2_along_13 rfl (lv_at hl 1 rfl) ?_
      refine lv_iload hx hb dX2_along_14 (lv_at hl 5 rfl) ?_
      refine lv_iconst (v := 1) hx hb dX2_along_16 (by decide) ?_
      refine lv_iadd hx hb dX2_along_17 ?_
      obtain ⟨r2, hcr2, h⟩ := og_bind h
      refine cp_s (va_runV (As := [.int a1, .int (u6.2 + (1 : Int32))]) (rest := []) ⟨hx, hb, hml, hown, hts⟩ (k_X2_x l D cI cF m0 m1 m2 m3 m4 m5 pt px py ro an te fx fy ar be ma nx ny a1 (u6.2 + (1 : Int32)) _ hcr2) (cwV 2 hts gX2_along_X2_x rfl rfl rfl (by decide +kernel) ⟨(Nat.le_of_ble_eq_true rfl), (Nat.le_of_ble_eq_true rfl)⟩) (pre_v (q0 := 0) (ci := 2) hK hP rfl rfl) rfl rfl hl.1 rfl (lv_room (Nat.le_of_ble_eq_true rfl)) dX2_along_18 ⟨(Nat.zero_le _), (Nat.zero_le _)⟩) ?_
      refine lv_aload_n hx hb dX2_along_21 rfl (lv_at hl 0 rfl) ?_
      refine lv_iload_n hx hb dX2_along_22 rfl (lv_at hl 1 rfl) ?_
      refine lv_iload hx hb dX2_along_23 (lv_at hl 5 rfl) ?_
      obtain ⟨r3, hcr3, h⟩ := og_bind h
      refine cp_s (va_runV (As := [.int a1, .int u6.2]) (rest := [.int r2]) ⟨hx, hb, hml, hown, hts⟩ (k_X2_x l D cI cF m0 m1 m2 m3 m4 m5 pt px py ro an te fx fy ar be ma nx ny a1 u6.2 _ hcr3) (cwV 2 hts gX2_along_X2_x rfl rfl rfl (by decide +kernel) ⟨(Nat.le_of_ble_eq_true rfl), (Nat.le_of_ble_eq_true rfl)⟩) (pre_v (q0 := 0) (ci := 2) hK hP rfl rfl) rfl rfl hl.1 rfl (lv_room (Nat.le_of_ble_eq_true rfl)) dX2_along_25 ⟨(Nat.zero_le _), (Nat.zero_le _)⟩) ?_
      refine lv_isub hx hb dX2_along_28 ?_
      refine lv_i2l hx hb dX2_along_29 rfl ?_
      refine lv_topl (fun v4 ev4 => ?_)
      have h := og_ov h ev4
      refine lv_lstore (lv' := [(7, .long v4), (0, .ref m0), (1, .int a1), (2, .int a2), (3, .int a3), (4, .long u6.1), (6, .int u6.2)]) hx hb dX2_along_30 hl (by decide) rfl (fun ls hl => ?_)
      refine lv_aload_n hx hb dX2_along_32 rfl (lv_at hl 1 rfl) ?_
      refine lv_iload_n hx hb dX2_along_33 rfl (lv_at hl 2 rfl) ?_
      refine lv_iload hx hb dX2_along_34 (lv_at hl 6 rfl) ?_
      obtain ⟨r5, hcr5, h⟩ := og_bind h
      refine cp_s (va_runV (As := [.int a1, .int u6.2]) (rest := []) ⟨hx, hb, hml, hown, hts⟩ (k_X2_y l D cI cF m0 m1 m2 m3 m4 m5 pt px py ro an te fx fy ar be ma nx ny a1 u6.2 _ hcr5) (cwV 2 hts gX2_along_X2_y rfl rfl rfl (by decide +kernel) ⟨(Nat.le_of_ble_eq_true rfl), (Nat.le_of_ble_eq_true rfl)⟩) (pre_v (q0 := 0) (ci := 2) hK hP rfl rfl) rfl rfl hl.1 rfl (lv_room (Nat.le_of_ble_eq_true rfl)) dX2_along_36 ⟨(Nat.zero_le _), (Nat.zero_le _)⟩) ?_
      refine lv_i2l hx hb dX2_along_39 rfl ?_
      refine lv_topl (fun v6 ev6 => ?_)
      have h := og_ov h ev6
      refine lv_lstore (lv' := [(9, .long v6), (7, .long v4), (0, .ref m0), (1, .int a1), (2, .int a2), (3, .int a3), (4, .long u6.1), (6, .int u6.2)]) hx hb dX2_along_40 hl (by decide) rfl (fun ls hl => ?_)
      refine lv_aload_n hx hb dX2_along_42 rfl (lv_at hl 2 rfl) ?_
      refine lv_iload_n hx hb dX2_along_43 rfl (lv_at hl 3 rfl) ?_
      refine lv_iload hx hb dX2_along_44 (lv_at hl 7 rfl) ?_
      refine lv_iconst (v := 1) hx hb dX2_along_46 (by decide) ?_
      refine lv_iadd hx hb dX2_along_47 ?_
      obtain ⟨r7, hcr7, h⟩ := og_bind h
      refine cp_s (va_runV (As := [.int a1, .int (u6.2 + (1 : Int32))]) (rest := []) ⟨hx, hb, hml, hown, hts⟩ (k_X2_y l D cI cF m0 m1 m2 m3 m4 m5 pt px py ro an te fx fy ar be ma nx ny a1 (u6.2 + (1 : Int32)) _ hcr7) (cwV 2 hts gX2_along_X2_y rfl rfl rfl (by decide +kernel) ⟨(Nat.le_of_ble_eq_true rfl), (Nat.le_of_ble_eq_true rfl)⟩) (pre_v (q0 := 0) (ci := 2) hK hP rfl rfl) rfl rfl hl.1 rfl (lv_room (Nat.le_of_ble_eq_true rfl)) dX2_along_48 ⟨(Nat.zero_le _), (Nat.zero_le _)⟩) ?_
      refine lv_i2l hx hb dX2_along_51 rfl ?_
      refine lv_topl (fun v8 ev8 => ?_)
      have h := og_ov h ev8
      refine lv_lstore (lv' := [(11, .long v8), (9, .long v6), (7, .long v4), (0, .ref m0), (1, .int a1), (2, .int a2), (3, .int a3), (4, .long u6.1), (6, .int u6.2)]) hx hb dX2_along_52 hl (by decide) rfl (fun ls hl => ?_)
      refine lv_iload_n hx hb dX2_along_54 rfl (lv_at hl 6 rfl) ?_
      refine lv_iconst (v := 1) hx hb dX2_along_55 (by decide) ?_
      obtain ⟨mv9, hm127, h⟩ := og_bind h
      refine wj (PC := 127) (ST := [.long mv9]) (fun ls => lv_has ls 15 [(0, .ref m0), (1, .int a1), (2, .int a2), (3, .int a3), (4, .long u6.1), (6, .int u6.2), (7, .long v4)]) (fun ls hl => ?_) (fun KJ127 => ?_)
      · refine lv_lstore (lv' := [(13, .long mv9), (0, .ref m0), (1, .int a1), (2, .int a2), (3, .int a3), (4, .long u6.1), (6, .int u6.2), (7, .long v4)]) hx hb dX2_along_127 hl (by decide) rfl (fun ls hl => ?_)
        refine lv_lload hx hb dX2_along_129 (lv_at hl 5 rfl) ?_
        refine lv_lload hx hb dX2_along_131 (lv_at hl 7 rfl) ?_
        refine lv_lload hx hb dX2_along_133 (lv_at hl 0 rfl) ?_
        refine lv_lmul hx hb dX2_along_135 ?_
        refine lv_ladd hx hb dX2_along_136 ?_
        refine lv_topl (fun v10 ev10 => ?_)
        have h := og_ov h ev10
        refine lv_lstore (lv' := [(4, .long v10), (13, .long mv9), (0, .ref m0), (1, .int a1), (2, .int a2), (3, .int a3), (6, .int u6.2), (7, .long v4)]) hx hb dX2_along_137 hl (by decide) rfl (fun ls hl => ?_)
        obtain ⟨v11, ev11⟩ : ∃ y : Int32, y = u6.2 + (1 : Int32) := ⟨_, rfl⟩
        have h := og_ov h ev11
        refine lv_iinc (v := v11) (lv' := [(6, .int v11), (4, .long v10), (13, .long mv9), (0, .ref m0), (1, .int a1), (2, .int a2), (3, .int a3), (7, .long v4)]) hx hb dX2_along_139 hl (k := 6) rfl (by rw [ev11]; rfl) (by decide) rfl (fun ls hl => ?_)
        refine lv_goto (tgt := 6) hx hb dX2_along_142 (by decide) ?_
        exact ki6 _ ls (Option.some.inj h).symm (lv_sub hl [3, 4, 5, 6, 1, 0] rfl)
      · have h := hm127
        refine lv_icmp_ne (tgt := 67) hx hb dX2_along_56 (by decide) (fun c11 => ?_) (fun c11 => ?_)
        · rw [if_neg c11] at h
          refine lv_iload_n hx hb dX2_along_67 rfl (lv_at hl 6 rfl) ?_
          refine lv_iconst (v := 2) hx hb dX2_along_68 (by decide) ?_
          refine lv_icmp_ne (tgt := 92) hx hb dX2_along_69 (by decide) (fun c12 => ?_) (fun c12 => ?_)
          · rw [if_neg c12] at h
            refine lv_lload hx hb dX2_along_92 (lv_at hl 1 rfl) ?_
            refine lv_lload hx hb dX2_along_94 (lv_at hl 1 rfl) ?_
            refine lv_lmul hx hb dX2_along_96 ?_
            refine lv_lload hx hb dX2_along_97 (lv_at hl 1 rfl) ?_
            refine lv_lmul hx hb dX2_along_99 ?_
            refine lv_lload hx hb dX2_along_100 (lv_at hl 1 rfl) ?_
            refine lv_lload hx hb dX2_along_102 (lv_at hl 1 rfl) ?_
            refine lv_lmul hx hb dX2_along_104 ?_
            refine lv_lload hx hb dX2_along_105 (lv_at hl 0 rfl) ?_
            refine lv_lmul hx hb dX2_along_107 ?_
            refine lv_ladd hx hb dX2_along_108 ?_
            refine lv_lload hx hb dX2_along_109 (lv_at hl 1 rfl) ?_
            refine lv_lload hx hb dX2_along_111 (lv_at hl 0 rfl) ?_
            refine lv_lmul hx hb dX2_along_113 ?_
            refine lv_lload hx hb dX2_along_114 (lv_at hl 0 rfl) ?_
            refine lv_lmul hx hb dX2_along_116 ?_
            refine lv_ladd hx hb dX2_along_117 ?_
            refine lv_lload hx hb dX2_along_118 (lv_at hl 0 rfl) ?_
            refine lv_lload hx hb dX2_along_120 (lv_at hl 0 rfl) ?_
            refine lv_lmul hx hb dX2_along_122 ?_
            refine lv_lload hx hb dX2_along_123 (lv_at hl 0 rfl) ?_
            refine lv_lmul hx hb dX2_along_125 ?_
            refine lv_ladd hx hb dX2_along_126 ?_
            obtain rfl := Option.some.inj h
            exact KJ127 ls (lv_sub hl [3, 4, 5, 6, 7, 8, 2] rfl)
          · rw [if_pos c12] at h
            refine lv_lload hx hb dX2_along_72 (lv_at hl 1 rfl) ?_
            refine lv_lload hx hb dX2_along_74 (lv_at hl 1 rfl) ?_
            refine lv_lmul hx hb dX2_along_76 ?_
            refine lv_lload hx hb dX2_along_77 (lv_at hl 1 rfl) ?_
            refine lv_lload hx hb dX2_along_79 (lv_at hl 0 rfl) ?_
            refine lv_lmul hx hb dX2_along_81 ?_
            refine lv_ladd hx hb dX2_along_82 ?_
            refine lv_lload hx hb dX2_along_83 (lv_at hl 0 rfl) ?_
            refine lv_lload hx hb dX2_along_85 (lv_at hl 0 rfl) ?_
            refine lv_lmul hx hb dX2_along_87 ?_
            refine lv_ladd hx hb dX2_along_88 ?_
            refine lv_goto (tgt := 127) hx hb dX2_along_89 (by decide) ?_
            obtain rfl := Option.some.inj h
            exact KJ127 ls (lv_sub hl [3, 4, 5, 6, 7, 8, 2] rfl)
        · rw [if_pos c11] at h
          refine lv_lload hx hb dX2_along_59 (lv_at hl 1 rfl) ?_
          refine lv_lload hx hb dX2_along_61 (lv_at hl 0 rfl) ?_
          refine lv_ladd hx hb dX2_along_63 ?_
          refine lv_goto (tgt := 127) hx hb dX2_along_64 (by decide) ?_
          obtain rfl := Option.some.inj h
          exact KJ127 ls (lv_sub hl [3, 4, 5, 6, 7, 8, 2] rfl)
  · refine lv_lload hx hb dX2_along_145 (lv_at hl 0 rfl) ?_
    obtain rfl := Option.some.inj h
    exact W.lret hx hb hr (fun t ht _ => ⟨rfl, ht⟩) (fun _ h9 => absurd h9 List.not_mem_nil) dX2_along_147
def f_X2_told (ro : Int32) (pt : Nat → Int32) (px : Nat → Int32) (py : Nat → Int32) (a1 : Int32) (a2 : Int32) (a3 : Int32) : Option Int64 :=
  (f_X2_isFigure a1).bind fun r1 =>
  if r1 = (0) then
  (some (-1000000000000000001 : Int64))
  else
  (if bin a1 6 = true then
  (f_X2_in a2 (0 : Int32) (pt a1.toNatClampNeg)).bind fun r4 =>
  if r4 = (0) then
  (some (-1000000000000000002 : Int64))
  else
  ((f_X2_isPart a3).bind fun r6 =>
  if r6 = (0) then
  (some (-1000000000000000002 : Int64))
  else
  ((f_X2_isClosed pt a1).bind fun r8 =>
  if r8 = (0) then
  (some (-1000000000000000003 : Int64))
  else
  ((f_X2_canGo ro pt py a1).bind fun r10 =>
  if r10 = (0) then
  (some (-1000000000000000003 : Int64))
  else
  ((f_X2_along pt px py a1 a2 (1 : Int32)).bind fun r12 =>
  (f_X2_term r12 ((2 : Int64) * (ro.toInt64)) a3).bind fun r13 =>
  some r13))))
  else none)
set_option maxHeartbeats 4000000 in
set_option maxRecDepth 100000 in
theorem k_X2_told (l : Launch) (D : va_G) (cI cF : ClassId) (m0 : Nat) (m1 : Nat) (m2 : Nat) (m3 : Nat) (m4 : Nat) (m5 : Nat) (pt : Nat → Int32) (px : Nat → Int32) (py : Nat → Int32) (ro : Int32) (an : Int32) (te : Int32) (fx : Int32) (fy : Int32) (ar : Int32) (be : Int32) (ma : Int32) (nx : Nat → Int32) (ny : Nat → Int32) (a1 : Int32) (a2 : Int32) (a3 : Int32) (r0 : Int64) (h : f_X2_told ro pt px py a1 a2 a3 = some r0) : Met l yX2_told wsX2_told ({ frames := 2, cells := 0, slots := 0, locals := 56 }) (va_Pc [.ref m0, .int a1, .int a2, .int a3] (fun U => wK D cI cF (moW cI m0 m1 m2 m3 m4 m5 pt px py ro an te fx fy ar be ma nx ny) U)) (qS (.long r0)) 0 0 (fun _ => False) := by
  refine Met.ofW (cc := cX2_told) (maxL := 4) (ret := (some .long)) (by decide) rfl ?_
  intro p e s m args below meth c s₁ B hml hv
  obtain ⟨rfl, hK, hP⟩ := hv
  have hx := B.exec
  have hb := B.bytes
  have hr := B.returns
  have hts := atoms_spec (ws := wsX2_told) B.pre
  have hown : s.vm.findClass RX2 = some m.cls := findClass_of_methodNamed B.named
  have hlocks := B.notSynchronized
  have ht1 := hts (.fieldLink RX2 7 "DrawnAreasModel" "points" "[I") (by decide +kernel)
  have hinX2 : ∀ w ∈ u_ws RX2 TX2 13, w ∈ wsX2_told := by decide +kernel
  have ht3 := hts (.constantLong RX2 111 (-1000000000000000002)) (by decide +kernel)
  have ht4 := hts (.constantLong RX2 80 (-1000000000000000003)) (by decide +kernel)
  have ht5 := hts (.constantLong RX2 120 (2)) (by decide +kernel)
  have ht6 := hts (.fieldLink RX2 19 "DrawnAreasModel" "rod" "I") (by decide +kernel)
  have ht7 := hts (.constantLong RX2 71 (-1000000000000000001)) (by decide +kernel)
  have hl := lv_entry ([.ref m0, .int a1, .int a2, .int a3]) (n := 4) (Nat.le_of_ble_eq_true rfl)
  rw [lg_entry_eq]
  generalize (lg_sl ([.ref m0, .int a1, .int a2, .int a3]) ++ List.replicate (4 - (lg_sl ([.ref m0, .int a1, .int a2, .int a3])).length) Slot.unset).toArray = ls at hl ⊢
  have hl : lv_has ls 4 [(0, .ref m0), (1, .int a1), (2, .int a2), (3, .int a3)] := hl
  unfold f_X2_told at h
  refine lv_iload_n hx hb dX2_told_0 rfl (lv_at hl 1 rfl) ?_
  obtain ⟨r1, hcr1, h⟩ := og_bind h
  refine cp_s (va_runS (As := [.int a1]) (rest := []) ⟨hx, hb, hml, hown, hts⟩ (k_X2_isFigure l a1 _ hcr1) (va_cwS 1 hts gX2_told_X2_isFigure rfl rfl rfl (by decide +kernel) ⟨(Nat.le_of_ble_eq_true rfl), (Nat.le_of_ble_eq_true rfl)⟩) pre_s rfl rfl hl.1 rfl (lv_room (Nat.le_of_ble_eq_true rfl)) dX2_told_1 ⟨(Nat.zero_le _), (Nat.zero_le _)⟩) ?_
  refine lv_if_ne (tgt := 11) hx hb dX2_told_4 (by decide) (fun c1 => ?_) (fun c1 => ?_)
  · rw [if_neg c1] at h
    refine lv_iload_n hx hb dX2_told_11 rfl (lv_at hl 2 rfl) ?_
    refine lv_iconst (v := 0) hx hb dX2_told_12 (by decide) ?_
    refine lv_aload_n hx hb dX2_told_13 rfl (lv_at hl 0 rfl) ?_
    refine va_get (D := D) (ci := 2) (v := .ref m1) (C := RX2) (T := TX2) (N := 13) hx hb hts hinX2 hown hK hP 0 rfl rfl 0 (by decide) ht1 (fun _ h9 => h9) rfl dX2_told_14 ?_
    refine lv_iload_n hx hb dX2_told_17 rfl (lv_at hl 1 rfl) ?_
    obtain ⟨gi2, h⟩ := og_in h
    refine va_iald hx hb hK hP 1 0 rfl rfl gi2 dX2_told_18 ?_
    obtain ⟨r4, hcr4, h⟩ := og_bind h
    refine cp_s (va_runS (As := [.int a2, .int (0 : Int32), .int (pt a1.toNatClampNeg)]) (rest := []) ⟨hx, hb, hml, hown, hts⟩ (k_X2_in l a2 (0 : Int32) (pt a1.toNatClampNeg) _ hcr4) (va_cwS 3 hts gX2_told_X2_in rfl rfl rfl (by decide +kernel) ⟨(Nat.le_of_ble_eq_true rfl), (Nat.le_of_ble_eq_true rfl)⟩) pre_s rfl rfl hl.1 rfl (lv_room (Nat.le_of_ble_eq_true rfl)) dX2_told_19 ⟨(Nat.zero_le _), (Nat.zero_le _)⟩) ?_
    refine lv_if_eq (tgt := 32) hx hb dX2_told_22 (by decide) (fun c4 => ?_) (fun c4 => ?_)
    · rw [if_pos c4] at h
      refine lv_ldc2 hx hb hown ht3 dX2_told_32 ?_
      obtain rfl := Option.some.inj h
      exact W.lret hx hb hr (fun t ht _ => ⟨rfl, ht⟩) (fun _ h9 => absurd h9 List.not_mem_nil) dX2_told_35
    · rw [if_neg c4] at h
      refine lv_iload_n hx hb dX2_told_25 rfl (lv_at hl 3 rfl) ?_
      obtain ⟨r6, hcr6, h⟩ := og_bind h
      refine cp_s (va_runS (As := [.int a3]) (rest := []) ⟨hx, hb, hml, hown, hts⟩ (k_X2_isPart l a3 _ hcr6) (va_cwS 1 hts gX2_told_X2_isPart rfl rfl rfl (by decide +kernel) ⟨(Nat.le_of_ble_eq_true rfl), (Nat.le_of_ble_eq_true rfl)⟩) pre_s rfl rfl hl.1 rfl (lv_room (Nat.le_of_ble_eq_true rfl)) dX2_told_26 ⟨(Nat.zero_le _), (Nat.zero_le _)⟩) ?_
      refine lv_if_ne (tgt := 36) hx hb dX2_told_29 (by decide) (fun c6 => ?_) (fun c6 => ?_)
      · rw [if_neg c6] at h
        refine lv_aload_n hx hb dX2_told_36 rfl (lv_at hl 0 rfl) ?_
        refine lv_iload_n hx hb dX2_told_37 rfl (lv_at hl 1 rfl) ?_
        obtain ⟨r8, hcr8, h⟩ := og_bind h
        refine cp_s (va_runV (As := [.int a1]) (rest := []) ⟨hx, hb, hml, hown, hts⟩ (k_X2_isClosed l D cI cF m0 m1 m2 m3 m4 m5 pt px py ro an te fx fy ar be ma nx ny a1 _ hcr8) (cwV 1 hts gX2_told_X2_isClosed rfl rfl rfl (by decide +kernel) ⟨(Nat.le_of_ble_eq_true rfl), (Nat.le_of_ble_eq_true rfl)⟩) (pre_v (q0 := 0) (ci := 2) hK hP rfl rfl) rfl rfl hl.1 rfl (lv_room (Nat.le_of_ble_eq_true rfl)) dX2_told_38 ⟨(Nat.zero_le _), (Nat.zero_le _)⟩) ?_
        refine lv_if_eq (tgt := 75) hx hb dX2_told_41 (by decide) (fun c8 => ?_) (fun c8 => ?_)
        · rw [if_pos c8] at h
          refine lv_ldc2 hx hb hown ht4 dX2_told_75 ?_
          obtain rfl := Option.some.inj h
          exact W.lret hx hb hr (fun t ht _ => ⟨rfl, ht⟩) (fun _ h9 => absurd h9 List.not_mem_nil) dX2_told_78
        · rw [if_neg c8] at h
          refine lv_aload_n hx hb dX2_told_44 rfl (lv_at hl 0 rfl) ?_
          refine lv_iload_n hx hb dX2_told_45 rfl (lv_at hl 1 rfl) ?_
          obtain ⟨r10, hcr10, h⟩ := og_bind h
          refine cp_s (va_runV (As := [.int a1]) (rest := []) ⟨hx, hb, hml, hown, hts⟩ (k_X2_canGo l D cI cF m0 m1 m2 m3 m4 m5 pt px py ro an te fx fy ar be ma nx ny a1 _ hcr10) (cwV 1 hts gX2_told_X2_canGo rfl rfl rfl (by decide +kernel) ⟨(Nat.le_of_ble_eq_true rfl), (Nat.le_of_ble_eq_true rfl)⟩) (pre_v (q0 := 0) (ci := 2) hK hP rfl rfl) rfl rfl hl.1 rfl (lv_room (Nat.le_of_ble_eq_true rfl)) dX2_told_46 ⟨(Nat.zero_le _), (Nat.zero_le _)⟩) ?_
          refine lv_if_eq (tgt := 75) hx hb dX2_told_49 (by decide) (fun c10 => ?_) (fun c10 => ?_)
          · rw [if_pos c10] at h
            refine lv_ldc2 hx hb hown ht4 dX2_told_75 ?_
            obtain rfl := Option.some.inj h
            exact W.lret hx hb hr (fun t ht _ => ⟨rfl, ht⟩) (fun _ h9 => absurd h9 List.not_mem_nil) dX2_told_78
          · rw [if_neg c10] at h
            refine lv_aload_n hx hb dX2_told_52 rfl (lv_at hl 0 rfl) ?_
            refine lv_iload_n hx hb dX2_told_53 rfl (lv_at hl 1 rfl) ?_
            refine lv_iload_n hx hb dX2_told_54 rfl (lv_at hl 2 rfl) ?_
            refine lv_iconst (v := 1) hx hb dX2_told_55 (by decide) ?_
            obtain ⟨r12, hcr12, h⟩ := og_bind h
            refine cp_s (va_runV (As := [.int a1, .int a2, .int (1 : Int32)]) (rest := []) ⟨hx, hb, hml, hown, hts⟩ (k_X2_along l D cI cF m0 m1 m2 m3 m4 m5 pt px py ro an te fx fy ar be ma nx ny a1 a2 (1 : Int32) _ hcr12) (cwV 3 hts gX2_told_X2_along rfl rfl rfl (by decide +kernel) ⟨(Nat.le_of_ble_eq_true rfl), (Nat.le_of_ble_eq_true rfl)⟩) (pre_v (q0 := 0) (ci := 2) hK hP rfl rfl) rfl rfl hl.1 rfl (lv_room (Nat.le_of_ble_eq_true rfl)) dX2_told_56 ⟨(Nat.zero_le _), (Nat.zero_le _)⟩) ?_
            refine lv_ldc2 hx hb hown ht5 dX2_told_59 ?_
            refine lv_aload_n hx hb dX2_told_62 rfl (lv_at hl 0 rfl) ?_
            refine va_get (D := D) (ci := 2) (v := .int ro) (C := RX2) (T := TX2) (N := 13) hx hb hts hinX2 hown hK hP 0 rfl rfl 3 (by decide) ht6 (fun _ h9 => h9) rfl dX2_told_63 ?_
            refine lv_i2l hx hb dX2_told_66 rfl ?_
            refine lv_lmul hx hb dX2_told_67 ?_
            refine lv_iload_n hx hb dX2_told_68 rfl (lv_at hl 3 rfl) ?_
            obtain ⟨r13, hcr13, h⟩ := og_bind h
            refine cp_s (va_runS (As := [.long r12, .long ((2 : Int64) * (ro.toInt64)), .int a3]) (rest := []) ⟨hx, hb, hml, hown, hts⟩ (k_X2_term l r12 ((2 : Int64) * (ro.toInt64)) a3 _ hcr13) (va_cwS 3 hts gX2_told_X2_term rfl rfl rfl (by decide +kernel) ⟨(Nat.le_of_ble_eq_true rfl), (Nat.le_of_ble_eq_true rfl)⟩) pre_s rfl rfl hl.1 rfl (lv_room (Nat.le_of_ble_eq_true rfl)) dX2_told_69 ⟨(Nat.zero_le _), (Nat.zero_le _)⟩) ?_
            refine lv_goto (tgt := 78) hx hb dX2_told_72 (by decide) ?_
            obtain rfl := Option.some.inj h
            exact W.lret hx hb hr (fun t ht _ => ⟨rfl, ht⟩) (fun _ h9 => absurd h9 List.not_mem_nil) dX2_told_78
      · rw [if_pos c6] at h
        refine lv_ldc2 hx hb hown ht3 dX2_told_32 ?_
        obtain rfl := Option.some.inj h
        exact W.lret hx hb hr (fun t ht _ => ⟨rfl, ht⟩) (fun _ h9 => absurd h9 List.not_mem_nil) dX2_told_35
  · rw [if_pos c1] at h
    refine lv_ldc2 hx hb hown ht7 dX2_told_7 ?_
    obtain rfl := Option.some.inj h
    exact W.lret hx hb hr (fun t ht _ => ⟨rfl, ht⟩) (fun _ h9 => absurd h9 List.not_mem_nil) dX2_told_10
def f_X2_can (ro : Int32) (pt : Nat → Int32) (py : Nat → Int32) (a1 : Int32) : Option Int32 :=
  (f_X2_isFigure a1).bind fun r1 =>
  if r1 = (0) then
  (some (-1 : Int32))
  else
  ((f_X2_isClosed pt a1).bind fun r3 =>
  if r3 = (0) then
  (some (-3 : Int32))
  else
  ((f_X2_canGo ro pt py a1).bind fun r5 =>
  if r5 = (0) then
  (some (0 : Int32))
  else
  (some (1 : Int32))))
set_option maxHeartbeats 4000000 in
set_option maxRecDepth 100000 in
theorem k_X2_can (l : Launch) (D : va_G) (cI cF : ClassId) (m0 : Nat) (m1 : Nat) (m2 : Nat) (m3 : Nat) (m4 : Nat) (m5 : Nat) (pt : Nat → Int32) (px : Nat → Int32) (py : Nat → Int32) (ro : Int32) (an : Int32) (te : Int32) (fx : Int32) (fy : Int32) (ar : Int32) (be : Int32) (ma : Int32) (nx : Nat → Int32) (ny : Nat → Int32) (a1 : Int32) (r0 : Int32) (h : f_X2_can ro pt py a1 = some r0) : Met l yX2_can wsX2_can ({ frames := 2, cells := 0, slots := 0, locals := 45 }) (va_Pc [.ref m0, .int a1] (fun U => wK D cI cF (moW cI m0 m1 m2 m3 m4 m5 pt px py ro an te fx fy ar be ma nx ny) U)) (qS (.int r0)) 0 0 (fun _ => False) := by
  refine Met.ofW (cc := cX2_can) (maxL := 2) (ret := (some .int)) (by decide) rfl ?_
  intro p e s m args below meth c s₁ B hml hv
  obtain ⟨rfl, hK, hP⟩ := hv
  have hx := B.exec
  have hb := B.bytes
  have hr := B.returns
  have hts := atoms_spec (ws := wsX2_can) B.pre
  have hown : s.vm.findClass RX2 = some m.cls := findClass_of_methodNamed B.named
  have hlocks := B.notSynchronized
  have hl := lv_entry ([.ref m0, .int a1]) (n := 2) (Nat.le_of_ble_eq_true rfl)
  rw [lg_entry_eq]
  generalize (lg_sl ([.ref m0, .int a1]) ++ List.replicate (2 - (lg_sl ([.ref m0, .int a1])).length) Slot.unset).toArray = ls at hl ⊢
  have hl : lv_has ls 2 [(0, .ref m0), (1, .int a1)] := hl
  unfold f_X2_can at h
  refine lv_iload_n hx hb dX2_can_0 rfl (lv_at hl 1 rfl) ?_
  obtain ⟨r1, hcr1, h⟩ := og_bind h
  refine cp_s (va_runS (As := [.int a1]) (rest := []) ⟨hx, hb, hml, hown, hts⟩ (k_X2_isFigure l a1 _ hcr1) (va_cwS 1 hts gX2_can_X2_isFigure rfl rfl rfl (by decide +kernel) ⟨(Nat.le_of_ble_eq_true rfl), (Nat.le_of_ble_eq_true rfl)⟩) pre_s rfl rfl hl.1 rfl (lv_room (Nat.le_of_ble_eq_true rfl)) dX2_can_1 ⟨(Nat.zero_le _), (Nat.zero_le _)⟩) ?_
  refine lv_if_ne (tgt := 11) hx hb dX2_can_4 (by decide) (fun c1 => ?_) (fun c1 => ?_)
  · rw [if_neg c1] at h
    refine lv_aload_n hx hb dX2_can_11 rfl (lv_at hl 0 rfl) ?_
    refine lv_iload_n hx hb dX2_can_12 rfl (lv_at hl 1 rfl) ?_
    obtain ⟨r3, hcr3, h⟩ := og_bind h
    refine cp_s (va_runV (As := [.int a1]) (rest := []) ⟨hx, hb, hml, hown, hts⟩ (k_X2_isClosed l D cI cF m0 m1 m2 m3 m4 m5 pt px py ro an te fx fy ar be ma nx ny a1 _ hcr3) (cwV 1 hts gX2_can_X2_isClosed rfl rfl rfl (by decide +kernel) ⟨(Nat.le_of_ble_eq_true rfl), (Nat.le_of_ble_eq_true rfl)⟩) (pre_v (q0 := 0) (ci := 2) hK hP rfl rfl) rfl rfl hl.1 rfl (lv_room (Nat.le_of_ble_eq_true rfl)) dX2_can_13 ⟨(Nat.zero_le _), (Nat.zero_le _)⟩) ?_
    refine lv_if_ne (tgt := 24) hx hb dX2_can_16 (by decide) (fun c3 => ?_) (fun c3 => ?_)
    · rw [if_neg c3] at h
      refine lv_aload_n hx hb dX2_can_24 rfl (lv_at hl 0 rfl) ?_
      refine lv_iload_n hx hb dX2_can_25 rfl (lv_at hl 1 rfl) ?_
      obtain ⟨r5, hcr5, h⟩ := og_bind h
      refine cp_s (va_runV (As := [.int a1]) (rest := []) ⟨hx, hb, hml, hown, hts⟩ (k_X2_canGo l D cI cF m0 m1 m2 m3 m4 m5 pt px py ro an te fx fy ar be ma nx ny a1 _ hcr5) (cwV 1 hts gX2_can_X2_canGo rfl rfl rfl (by decide +kernel) ⟨(Nat.le_of_ble_eq_true rfl), (Nat.le_of_ble_eq_true rfl)⟩) (pre_v (q0 := 0) (ci := 2) hK hP rfl rfl) rfl rfl hl.1 rfl (lv_room (Nat.le_of_ble_eq_true rfl)) dX2_can_26 ⟨(Nat.zero_le _), (Nat.zero_le _)⟩) ?_
      refine lv_if_eq (tgt := 36) hx hb dX2_can_29 (by decide) (fun c5 => ?_) (fun c5 => ?_)
      · rw [if_pos c5] at h
        refine lv_iconst (v := 0) hx hb dX2_can_36 (by decide) ?_
        obtain rfl := Option.some.inj h
        exact W.iret hx hb hr (fun t ht _ => ⟨rfl, ht⟩) (fun _ h9 => absurd h9 List.not_mem_nil) dX2_can_37
      · rw [if_neg c5] at h
        refine lv_iconst (v := 1) hx hb dX2_can_32 (by decide) ?_
        refine lv_goto (tgt := 37) hx hb dX2_can_33 (by decide) ?_
        obtain rfl := Option.some.inj h
        exact W.iret hx hb hr (fun t ht _ => ⟨rfl, ht⟩) (fun _ h9 => absurd h9 List.not_mem_nil) dX2_can_37
    · rw [if_pos c3] at h
      refine lv_bipush (v := -3) hx hb dX2_can_19 (by decide) ?_
      refine lv_goto (tgt := 37) hx hb dX2_can_21 (by decide) ?_
      obtain rfl := Option.some.inj h
      exact W.iret hx hb hr (fun t ht _ => ⟨rfl, ht⟩) (fun _ h9 => absurd h9 List.not_mem_nil) dX2_can_37
  · rw [if_pos c1] at h
    refine lv_iconst (v := -1) hx hb dX2_can_7 (by decide) ?_
    refine lv_goto (tgt := 37) hx hb dX2_can_8 (by decide) ?_
    obtain rfl := Option.some.inj h
    exact W.iret hx hb hr (fun t ht _ => ⟨rfl, ht⟩) (fun _ h9 => absurd h9 List.not_mem_nil) dX2_can_37
def f_X2_standsWell (ro : Int32) (a1 : Int32) (a2 : Int32) (a3 : Int32) (a4 : Int32) : Option Int32 :=
  ov (((ro.toInt64) * (ro.toInt64)) - ((a2.toInt64) * (a2.toInt64))) fun v1 =>
  ov ((a1 - a3).toInt64) fun v2 =>
  ov ((a1 - a4).toInt64) fun v3 =>
  if (lg_cmp v2 (0 : Int64)) < (0) then
  (some (0 : Int32))
  else
  (if (lg_cmp (v2 * v2) v1) < (0) then
  (some (0 : Int32))
  else
  (if (lg_cmp v3 (0 : Int64)) ≤ (0) then
  (some (1 : Int32))
  else
  (if (0) < (lg_cmp (v3 * v3) v1) then
  (some (0 : Int32))
  else
  (some (1 : Int32)))))
set_option maxHeartbeats 4000000 in
set_option maxRecDepth 100000 in
theorem k_X2_standsWell (l : Launch) (D : va_G) (cI cF : ClassId) (m0 : Nat) (m1 : Nat) (m2 : Nat) (m3 : Nat) (m4 : Nat) (m5 : Nat) (pt : Nat → Int32) (px : Nat → Int32) (py : Nat → Int32) (ro : Int32) (an : Int32) (te : Int32) (fx : Int32) (fy : Int32) (ar : Int32) (be : Int32) (ma : Int32) (nx : Nat → Int32) (ny : Nat → Int32) (a1 : Int32) (a2 : Int32) (a3 : Int32) (a4 : Int32) (r0 : Int32) (h : f_X2_standsWell ro a1 a2 a3 a4 = some r0) : Met l yX2_standsWell wsX2_standsWell ({ frames := 0, cells := 0, slots := 0, locals := 0 }) (va_Pc [.ref m0, .int a1, .int a2, .int a3, .int a4] (fun U => wK D cI cF (moW cI m0 m1 m2 m3 m4 m5 pt px py ro an te fx fy ar be ma nx ny) U)) (qS (.int r0)) 0 0 (fun _ => False) := by
  refine Met.ofW (cc := cX2_standsWell) (maxL := 11) (ret := (some .boolean)) (by decide) rfl ?_
  intro p e s m args below meth c s₁ B hml hv
  obtain ⟨rfl, hK, hP⟩ := hv
  have hx := B.exec
  have hb := B.bytes
  have hr := B.returns
  have hts := atoms_spec (ws := wsX2_standsWell) B.pre
  have hown : s.vm.findClass RX2 = some m.cls := findClass_of_methodNamed B.named
  have hlocks := B.notSynchronized
  have ht1 := hts (.fieldLink RX2 19 "DrawnAreasModel" "rod" "I") (by decide +kernel)
  have hinX2 : ∀ w ∈ u_ws RX2 TX2 13, w ∈ wsX2_standsWell := by decide +kernel
  have hl := lv_entry ([.ref m0, .int a1, .int a2, .int a3, .int a4]) (n := 11) (Nat.le_of_ble_eq_true rfl)
  rw [lg_entry_eq]
  generalize (lg_sl ([.ref m0, .int a1, .int a2, .int a3, .int a4]) ++ List.replicate (11 - (lg_sl ([.ref m0, .int a1, .int a2, .int a3, .int a4])).length) Slot.unset).toArray = ls at hl ⊢
  have hl : lv_has ls 11 [(0, .ref m0), (1, .int a1), (2, .int a2), (3, .int a3), (4, .int a4)] := hl
  unfold f_X2_standsWell at h
  refine lv_aload_n hx hb dX2_standsWell_0 rfl (lv_at hl 0 rfl) ?_
  refine va_get (D := D) (ci := 2) (v := .int ro) (C := RX2) (T := TX2) (N := 13) hx hb hts hinX2 hown hK hP 0 rfl rfl 3 (by decide) ht1 (fun _ h9 => h9) rfl dX2_standsWell_1 ?_
  refine lv_i2l hx hb dX2_standsWell_4 rfl ?_
  refine lv_aload_n hx hb dX2_standsWell_5 rfl (lv_at hl 0 rfl) ?_
  refine va_get (D := D) (ci := 2) (v := .int ro) (C := RX2) (T := TX2) (N := 13) hx hb hts hinX2 hown hK hP 0 rfl rfl 3 (by decide) ht1 (fun _ h9 => h9) rfl dX2_standsWell_6 ?_
  refine lv_i2l hx hb dX2_standsWell_9 rfl ?_
  refine lv_lmul hx hb dX2_standsWell_10 ?_
  refine lv_iload_n hx hb dX2_standsWell_11 rfl (lv_at hl 2 rfl) ?_
  refine lv_i2l hx hb dX2_standsWell_12 rfl ?_
  refine lv_iload_n hx hb dX2_standsWell_13 rfl (lv_at hl 2 rfl) ?_
  refine lv_i2l hx hb dX2_standsWell_14 rfl ?_
  refine lv_lmul hx hb dX2_standsWell_15 ?_
  refine lv_lsub hx hb dX2_standsWell_16 ?_
  refine lv_topl (fun v1 ev1 => ?_)
  have h := og_ov h ev1
  refine lv_lstore (lv' := [(5, .long v1), (0, .ref m0), (1, .int a1), (2, .int a2), (3, .int a3), (4, .int a4)]) hx hb dX2_standsWell_17 hl (by decide) rfl (fun ls hl => ?_)
  refine lv_iload_n hx hb dX2_standsWell_19 rfl (lv_at hl 2 rfl) ?_
  refine lv_iload_n hx hb dX2_standsWell_20 rfl (lv_at hl 4 rfl) ?_
  refine lv_isub hx hb dX2_standsWell_21 ?_
  refine lv_i2l hx hb dX2_standsWell_22 rfl ?_
  refine lv_topl (fun v2 ev2 => ?_)
  have h := og_ov h ev2
  refine lv_lstore (lv' := [(7, .long v2), (5, .long v1), (0, .ref m0), (1, .int a1), (2, .int a2), (3, .int a3), (4, .int a4)]) hx hb dX2_standsWell_23 hl (by decide) rfl (fun ls hl => ?_)
  refine lv_iload_n hx hb dX2_standsWell_25 rfl (lv_at hl 3 rfl) ?_
  refine lv_iload hx hb dX2_standsWell_26 (lv_at hl 6 rfl) ?_
  refine lv_isub hx hb dX2_standsWell_28 ?_
  refine lv_i2l hx hb dX2_standsWell_29 rfl ?_
  refine lv_topl (fun v3 ev3 => ?_)
  have h := og_ov h ev3
  refine lv_lstore (lv' := [(9, .long v3), (7, .long v2), (5, .long v1), (0, .ref m0), (1, .int a1), (2, .int a2), (3, .int a3), (4, .int a4)]) hx hb dX2_standsWell_30 hl (by decide) rfl (fun ls hl => ?_)
  refine lv_lload hx hb dX2_standsWell_32 (lv_at hl 1 rfl) ?_
  refine lv_lconst (v := 0) hx hb dX2_standsWell_34 (by decide) ?_
  refine W.lcmp hx hb dX2_standsWell_35 ?_
  refine lv_if_lt (tgt := 72) hx hb dX2_standsWell_36 (by decide) (fun c3 => ?_) (fun c3 => ?_)
  · rw [if_pos c3] at h
    refine lv_iconst (v := 0) hx hb dX2_standsWell_72 (by decide) ?_
    obtain rfl := Option.some.inj h
    exact W.zret hx hb hr rfl (fun t ht _ => ⟨rfl, ht⟩) (fun _ h9 => absurd h9 List.not_mem_nil) dX2_standsWell_73
  · rw [if_neg c3] at h
    refine lv_lload hx hb dX2_standsWell_39 (lv_at hl 1 rfl) ?_
    refine lv_lload hx hb dX2_standsWell_41 (lv_at hl 1 rfl) ?_
    refine lv_lmul hx hb dX2_standsWell_43 ?_
    refine lv_lload hx hb dX2_standsWell_44 (lv_at hl 2 rfl) ?_
    refine W.lcmp hx hb dX2_standsWell_46 ?_
    refine lv_if_lt (tgt := 72) hx hb dX2_standsWell_47 (by decide) (fun c4 => ?_) (fun c4 => ?_)
    · rw [if_pos c4] at h
      refine lv_iconst (v := 0) hx hb dX2_standsWell_72 (by decide) ?_
      obtain rfl := Option.some.inj h
      exact W.zret hx hb hr rfl (fun t ht _ => ⟨rfl, ht⟩) (fun _ h9 => absurd h9 List.not_mem_nil) dX2_standsWell_73
    · rw [if_neg c4] at h
      refine lv_lload hx hb dX2_standsWell_50 (lv_at hl 0 rfl) ?_
      refine lv_lconst (v := 0) hx hb dX2_standsWell_52 (by decide) ?_
      refine W.lcmp hx hb dX2_standsWell_53 ?_
      refine lv_if_le (tgt := 68) hx hb dX2_standsWell_54 (by decide) (fun c5 => ?_) (fun c5 => ?_)
      · rw [if_pos c5] at h
        refine lv_iconst (v := 1) hx hb dX2_standsWell_68 (by decide) ?_
        refine lv_goto (tgt := 73) hx hb dX2_standsWell_69 (by decide) ?_
        obtain rfl := Option.some.inj h
        exact W.zret hx hb hr rfl (fun t ht _ => ⟨rfl, ht⟩) (fun _ h9 => absurd h9 List.not_mem_nil) dX2_standsWell_73
      · rw [if_neg c5] at h
        refine lv_lload hx hb dX2_standsWell_57 (lv_at hl 0 rfl) ?_
        refine lv_lload hx hb dX2_standsWell_59 (lv_at hl 0 rfl) ?_
        refine lv_lmul hx hb dX2_standsWell_61 ?_
        refine lv_lload hx hb dX2_standsWell_62 (lv_at hl 2 rfl) ?_
        refine W.lcmp hx hb dX2_standsWell_64 ?_
        refine lv_if_gt (tgt := 72) hx hb dX2_standsWell_65 (by decide) (fun c6 => ?_) (fun c6 => ?_)
        · rw [if_pos c6] at h
          refine lv_iconst (v := 0) hx hb dX2_standsWell_72 (by decide) ?_
          obtain rfl := Option.some.inj h
          exact W.zret hx hb hr rfl (fun t ht _ => ⟨rfl, ht⟩) (fun _ h9 => absurd h9 List.not_mem_nil) dX2_standsWell_73
        · rw [if_neg c6] at h
          refine lv_iconst (v := 1) hx hb dX2_standsWell_68 (by decide) ?_
          refine lv_goto (tgt := 73) hx hb dX2_standsWell_69 (by decide) ?_
          obtain rfl := Option.some.inj h
          exact W.zret hx hb hr rfl (fun t ht _ => ⟨rfl, ht⟩) (fun _ h9 => absurd h9 List.not_mem_nil) dX2_standsWell_73
def f_X2_dips (pt : Nat → Int32) (px : Nat → Int32) (py : Nat → Int32) (a1 : Int32) (a2 : Int32) (a3 : Int32) (a4 : Int32) (a5 : Int64) : Option Int32 :=
  (f_X2_x pt px a1 (a2 + (1 : Int32))).bind fun r1 =>
  (f_X2_x pt px a1 a2).bind fun r2 =>
  ov ((r1 - r2).toInt64) fun v3 =>
  (f_X2_y pt py a1 (a2 + (1 : Int32))).bind fun r4 =>
  (f_X2_y pt py a1 a2).bind fun r5 =>
  ov ((r4 - r5).toInt64) fun v6 =>
  (f_X2_x pt px a1 a2).bind fun r7 =>
  ov ((a3 - r7).toInt64) fun v8 =>
  (f_X2_y pt py a1 a2).bind fun r9 =>
  ov ((a4 - r9).toInt64) fun v10 =>
  ov ((v8 * v3) + (v10 * v6)) fun v11 =>
  ov ((v3 * v3) + (v6 * v6)) fun v12 =>
  ov ((v8 * v6) - (v10 * v3)) fun v13 =>
  if (lg_cmp v11 (0 : Int64)) ≤ (0) then
  (some (0 : Int32))
  else
  (if (0) ≤ (lg_cmp v11 v12) then
  (some (0 : Int32))
  else
  (if (0) ≤ (lg_cmp (v13 * v13) ((a5 * a5) * v12)) then
  (some (0 : Int32))
  else
  (some (1 : Int32))))
set_option maxHeartbeats 4000000 in
set_option maxRecDepth 100000 in
theorem k_X2_dips (l : Launch) (D : va_G) (cI cF : ClassId) (m0 : Nat) (m1 : Nat) (m2 : Nat) (m3 : Nat) (m4 : Nat) (m5 : Nat) (pt : Nat → Int32) (px : Nat → Int32) (py : Nat → Int32) (ro : Int32) (an : Int32) (te : Int32) (fx : Int32) (fy : Int32) (ar : Int32) (be : Int32) (ma : Int32) (nx : Nat → Int32) (ny : Nat → Int32) (a1 : Int32) (a2 : Int32) (a3 : Int32) (a4 : Int32) (a5 : Int64) (r0 : Int32) (h : f_X2_dips pt px py a1 a2 a3 a4 a5 = some r0) : Met l yX2_dips wsX2_dips ({ frames := 1, cells := 0, slots := 0, locals := 22 }) (va_Pc [.ref m0, .int a1, .int a2, .int a3, .int a4, .long a5] (fun U => wK D cI cF (moW cI m0 m1 m2 m3 m4 m5 pt px py ro an te fx fy ar be ma nx ny) U)) (qS (.int r0)) 0 0 (fun _ => False) := by
  refine Met.ofW (cc := cX2_dips) (maxL := 21) (ret := (some .boolean)) (by decide) rfl ?_
  intro p e s m args below meth c s₁ B hml hv
  obtain ⟨rfl, hK, hP⟩ := hv
  have hx := B.exec
  have hb := B.bytes
  have hr := B.returns
  have hts := atoms_spec (ws := wsX2_dips) B.pre
  have hown : s.vm.findClass RX2 = some m.cls := findClass_of_methodNamed B.named
  have hlocks := B.notSynchronized
  have hl := lv_entry ([.ref m0, .int a1, .int a2, .int a3, .int a4, .long a5]) (n := 21) (Nat.le_of_ble_eq_true rfl)
  rw [lg_entry_eq]
  generalize (lg_sl ([.ref m0, .int a1, .int a2, .int a3, .int a4, .long a5]) ++ List.replicate (21 - (lg_sl ([.ref m0, .int a1, .int a2, .int a3, .int a4, .long a5])).length) Slot.unset).toArray = ls at hl ⊢
  have hl : lv_has ls 21 [(0, .ref m0), (1, .int a1), (2, .int a2), (3, .int a3), (4, .int a4), (5, .long a5)] := hl
  unfold f_X2_dips at h
  refine lv_aload_n hx hb dX2_dips_0 rfl (lv_at hl 0 rfl) ?_
  refine lv_iload_n hx hb dX2_dips_1 rfl (lv_at hl 1 rfl) ?_
  refine lv_iload_n hx hb dX2_dips_2 rfl (lv_at hl 2 rfl) ?_
  refine lv_iconst (v := 1) hx hb dX2_dips_3 (by decide) ?_
  refine lv_iadd hx hb dX2_dips_4 ?_
  obtain ⟨r1, hcr1, h⟩ := og_bind h
  refine cp_s (va_runV (As := [.int a1, .int (a2 + (1 : Int32))]) (rest := []) ⟨hx, hb, hml, hown, hts⟩ (k_X2_x l D cI cF m0 m1 m2 m3 m4 m5 pt px py ro an te fx fy ar be ma nx ny a1 (a2 + (1 : Int32)) _ hcr1) (cwV 2 hts gX2_dips_X2_x rfl rfl rfl (by decide +kernel) ⟨(Nat.le_of_ble_eq_true rfl), (Nat.le_of_ble_eq_true rfl)⟩) (pre_v (q0 := 0) (ci := 2) hK hP rfl rfl) rfl rfl hl.1 rfl (lv_room (Nat.le_of_ble_eq_true rfl)) dX2_dips_5 ⟨(Nat.zero_le _), (Nat.zero_le _)⟩) ?_
  refine lv_aload_n hx hb dX2_dips_8 rfl (lv_at hl 0 rfl) ?_
  refine lv_iload_n hx hb dX2_dips_9 rfl (lv_at hl 1 rfl) ?_
  refine lv_iload_n hx hb dX2_dips_10 rfl (lv_at hl 2 rfl) ?_
  obtain ⟨r2, hcr2, h⟩ := og_bind h
  refine cp_s (va_runV (As := [.int a1, .int a2]) (rest := [.int r1]) ⟨hx, hb, hml, hown, hts⟩ (k_X2_x l D cI cF m0 m1 m2 m3 m4 m5 pt px py ro an te fx fy ar be ma nx ny a1 a2 _ hcr2) (cwV 2 hts gX2_dips_X2_x rfl rfl rfl (by decide +kernel) ⟨(Nat.le_of_ble_eq_true rfl), (Nat.le_of_ble_eq_true rfl)⟩) (pre_v (q0 := 0) (ci := 2) hK hP rfl rfl) rfl rfl hl.1 rfl (lv_room (Nat.le_of_ble_eq_true rfl)) dX2_dips_11 ⟨(Nat.zero_le _), (Nat.zero_le _)⟩) ?_
  refine lv_isub hx hb dX2_dips_14 ?_
  refine lv_i2l hx hb dX2_dips_15 rfl ?_
  refine lv_topl (fun v3 ev3 => ?_)
  have h := og_ov h ev3
  refine lv_lstore (lv' := [(7, .long v3), (0, .ref m0), (1, .int a1), (2, .int a2), (3, .int a3), (4, .int a4), (5, .long a5)]) hx hb dX2_dips_16 hl (by decide) rfl (fun ls hl => ?_)
  refine lv_aload_n hx hb dX2_dips_18 rfl (lv_at hl 1 rfl) ?_
  refine lv_iload_n hx hb dX2_dips_19 rfl (lv_at hl 2 rfl) ?_
  refine lv_iload_n hx hb dX2_dips_20 rfl (lv_at hl 3 rfl) ?_
  refine lv_iconst (v := 1) hx hb dX2_dips_21 (by decide) ?_
  refine lv_iadd hx hb dX2_dips_22 ?_
  obtain ⟨r4, hcr4, h⟩ := og_bind h
  refine cp_s (va_runV (As := [.int a1, .int (a2 + (1 : Int32))]) (rest := []) ⟨hx, hb, hml, hown, hts⟩ (k_X2_y l D cI cF m0 m1 m2 m3 m4 m5 pt px py ro an te fx fy ar be ma nx ny a1 (a2 + (1 : Int32)) _ hcr4) (cwV 2 hts gX2_dips_X2_y rfl rfl rfl (by decide +kernel) ⟨(Nat.le_of_ble_eq_true rfl), (Nat.le_of_ble_eq_true rfl)⟩) (pre_v (q0 := 0) (ci := 2) hK hP rfl rfl) rfl rfl hl.1 rfl (lv_room (Nat.le_of_ble_eq_true rfl)) dX2_dips_23 ⟨(Nat.zero_le _), (Nat.zero_le _)⟩) ?_
  refine lv_aload_n hx hb dX2_dips_26 rfl (lv_at hl 1 rfl) ?_
  refine lv_iload_n hx hb dX2_dips_27 rfl (lv_at hl 2 rfl) ?_
  refine lv_iload_n hx hb dX2_dips_28 rfl (lv_at hl 3 rfl) ?_
  obtain ⟨r5, hcr5, h⟩ := og_bind h
  refine cp_s (va_runV (As := [.int a1, .int a2]) (rest := [.int r4]) ⟨hx, hb, hml, hown, hts⟩ (k_X2_y l D cI cF m0 m1 m2 m3 m4 m5 pt px py ro an te fx fy ar be ma nx ny a1 a2 _ hcr5) (cwV 2 hts gX2_dips_X2_y rfl rfl rfl (by decide +kernel) ⟨(Nat.le_of_ble_eq_true rfl), (Nat.le_of_ble_eq_true rfl)⟩) (pre_v (q0 := 0) (ci := 2) hK hP rfl rfl) rfl rfl hl.1 rfl (lv_room (Nat.le_of_ble_eq_true rfl)) dX2_dips_29 ⟨(Nat.zero_le _), (Nat.zero_le _)⟩) ?_
  refine lv_isub hx hb dX2_dips_32 ?_
  refine lv_i2l hx hb dX2_dips_33 rfl ?_
  refine lv_topl (fun v6 ev6 => ?_)
  have h := og_ov h ev6
  refine lv_lstore (lv' := [(9, .long v6), (7, .long v3), (0, .ref m0), (1, .int a1), (2, .int a2), (3, .int a3), (4, .int a4), (5, .long a5)]) hx hb dX2_dips_34 hl (by decide) rfl (fun ls hl => ?_)
  refine lv_iload_n hx hb dX2_dips_36 rfl (lv_at hl 5 rfl) ?_
  refine lv_aload_n hx hb dX2_dips_37 rfl (lv_at hl 2 rfl) ?_
  refine lv_iload_n hx hb dX2_dips_38 rfl (lv_at hl 3 rfl) ?_
  refine lv_iload_n hx hb dX2_dips_39 rfl (lv_at hl 4 rfl) ?_
  obtain ⟨r7, hcr7, h⟩ := og_bind h
  refine cp_s (va_runV (As := [.int a1, .int a2]) (rest := [.int a3]) ⟨hx, hb, hml, hown, hts⟩ (k_X2_x l D cI cF m0 m1 m2 m3 m4 m5 pt px py ro an te fx fy ar be ma nx ny a1 a2 _ hcr7) (cwV 2 hts gX2_dips_X2_x rfl rfl rfl (by decide +kernel) ⟨(Nat.le_of_ble_eq_true rfl), (Nat.le_of_ble_eq_true rfl)⟩) (pre_v (q0 := 0) (ci := 2) hK hP rfl rfl) rfl rfl hl.1 rfl (lv_room (Nat.le_of_ble_eq_true rfl)) dX2_dips_40 ⟨(Nat.zero_le _), (Nat.zero_le _)⟩) ?_
  refine lv_isub hx hb dX2_dips_43 ?_
  refine lv_i2l hx hb dX2_dips_44 rfl ?_
  refine lv_topl (fun v8 ev8 => ?_)
  have h := og_ov h ev8
  refine lv_lstore (lv' := [(11, .long v8), (9, .long v6), (7, .long v3), (0, .ref m0), (1, .int a1), (2, .int a2), (3, .int a3), (4, .int a4), (5, .long a5)]) hx hb dX2_dips_45 hl (by decide) rfl (fun ls hl => ?_)
  refine lv_iload hx hb dX2_dips_47 (lv_at hl 7 rfl) ?_
  refine lv_aload_n hx hb dX2_dips_49 rfl (lv_at hl 3 rfl) ?_
  refine lv_iload_n hx hb dX2_dips_50 rfl (lv_at hl 4 rfl) ?_
  refine lv_iload_n hx hb dX2_dips_51 rfl (lv_at hl 5 rfl) ?_
  obtain ⟨r9, hcr9, h⟩ := og_bind h
  refine cp_s (va_runV (As := [.int a1, .int a2]) (rest := [.int a4]) ⟨hx, hb, hml, hown, hts⟩ (k_X2_y l D cI cF m0 m1 m2 m3 m4 m5 pt px py ro an te fx fy ar be ma nx ny a1 a2 _ hcr9) (cwV 2 hts gX2_dips_X2_y rfl rfl rfl (by decide +kernel) ⟨(Nat.le_of_ble_eq_true rfl), (Nat.le_of_ble_eq_true rfl)⟩) (pre_v (q0 := 0) (ci := 2) hK hP rfl rfl) rfl rfl hl.1 rfl (lv_room (Nat.le_of_ble_eq_true rfl)) dX2_dips_52 ⟨(Nat.zero_le _), (Nat.zero_le _)⟩) ?_
  refine lv_isub hx hb dX2_dips_55 ?_
  refine lv_i2l hx hb dX2_dips_56 rfl ?_
  refine lv_topl (fun v10 ev10 => ?_)
  have h := og_ov h ev10
  refine lv_lstore (lv' := [(13, .long v10), (11, .long v8), (9, .long v6), (7, .long v3), (0, .ref m0), (1, .int a1), (2, .int a2), (3, .int a3), (4, .int a4), (5, .long a5)]) hx hb dX2_dips_57 hl (by decide) rfl (fun ls hl => ?_)
  refine lv_lload hx hb dX2_dips_59 (lv_at hl 1 rfl) ?_
  refine lv_lload hx hb dX2_dips_61 (lv_at hl 3 rfl) ?_
  refine lv_lmul hx hb dX2_dips_63 ?_
  refine lv_lload hx hb dX2_dips_64 (lv_at hl 0 rfl) ?_
  refine lv_lload hx hb dX2_dips_66 (lv_at hl 2 rfl) ?_
  refine lv_lmul hx hb dX2_dips_68 ?_
  refine lv_ladd hx hb dX2_dips_69 ?_
  refine lv_topl (fun v11 ev11 => ?_)
  have h := og_ov h ev11
  refine lv_lstore (lv' := [(15, .long v11), (13, .long v10), (11, .long v8), (9, .long v6), (7, .long v3), (0, .ref m0), (1, .int a1), (2, .int a2), (3, .int a3), (4, .int a4), (5, .long a5)]) hx hb dX2_dips_70 hl (by decide) rfl (fun ls hl => ?_)
  refine lv_lload hx hb dX2_dips_72 (lv_at hl 4 rfl) ?_
  refine lv_lload hx hb dX2_dips_74 (lv_at hl 4 rfl) ?_
  refine lv_lmul hx hb dX2_dips_76 ?_
  refine lv_lload hx hb dX2_dips_77 (lv_at hl 3 rfl) ?_
  refine lv_lload hx hb dX2_dips_79 (lv_at hl 3 rfl) ?_
  refine lv_lmul hx hb dX2_dips_81 ?_
  refine lv_ladd hx hb dX2_dips_82 ?_
  refine lv_topl (fun v12 ev12 => ?_)
  have h := og_ov h ev12
  refine lv_lstore (lv' := [(17, .long v12), (15, .long v11), (13, .long v10), (11, .long v8), (9, .long v6), (7, .long v3), (0, .ref m0), (1, .int a1), (2, .int a2), (3, .int a3), (4, .int a4), (5, .long a5)]) hx hb dX2_dips_83 hl (by decide) rfl (fun ls hl => ?_)
  refine lv_lload hx hb dX2_dips_85 (lv_at hl 3 rfl) ?_
  refine lv_lload hx hb dX2_dips_87 (lv_at hl 4 rfl) ?_
  refine lv_lmul hx hb dX2_dips_89 ?_
  refine lv_lload hx hb dX2_dips_90 (lv_at hl 2 rfl) ?_
  refine lv_lload hx hb dX2_dips_92 (lv_at hl 5 rfl) ?_
  refine lv_lmul hx hb dX2_dips_94 ?_
  refine lv_lsub hx hb dX2_dips_95 ?_
  refine lv_topl (fun v13 ev13 => ?_)
  have h := og_ov h ev13
  refine lv_lstore (lv' := [(19, .long v13), (17, .long v12), (15, .long v11), (13, .long v10), (11, .long v8), (9, .long v6), (7, .long v3), (0, .ref m0), (1, .int a1), (2, .int a2), (3, .int a3), (4, .int a4), (5, .long a5)]) hx hb dX2_dips_96 hl (by decide) rfl (fun ls hl => ?_)
  refine lv_lload hx hb dX2_dips_98 (lv_at hl 2 rfl) ?_
  refine lv_lconst (v := 0) hx hb dX2_dips_100 (by decide) ?_
  refine W.lcmp hx hb dX2_dips_101 ?_
  refine lv_if_le (tgt := 134) hx hb dX2_dips_102 (by decide) (fun c13 => ?_) (fun c13 => ?_)
  · rw [if_pos c13] at h
    refine lv_iconst (v := 0) hx hb dX2_dips_134 (by decide) ?_
    obtain rfl := Option.some.inj h
    exact W.zret hx hb hr rfl (fun t ht _ => ⟨rfl, ht⟩) (fun _ h9 => absurd h9 List.not_mem_nil) dX2_dips_135
  · rw [if_neg c13] at h
    refine lv_lload hx hb dX2_dips_105 (lv_at hl 2 rfl) ?_
    refine lv_lload hx hb dX2_dips_107 (lv_at hl 1 rfl) ?_
    refine W.lcmp hx hb dX2_dips_109 ?_
    refine lv_if_ge (tgt := 134) hx hb dX2_dips_110 (by decide) (fun c14 => ?_) (fun c14 => ?_)
    · rw [if_pos c14] at h
      refine lv_iconst (v := 0) hx hb dX2_dips_134 (by decide) ?_
      obtain rfl := Option.some.inj h
      exact W.zret hx hb hr rfl (fun t ht _ => ⟨rfl, ht⟩) (fun _ h9 => absurd h9 List.not_mem_nil) dX2_dips_135
    · rw [if_neg c14] at h
      refine lv_lload hx hb dX2_dips_113 (lv_at hl 0 rfl) ?_
      refine lv_lload hx hb dX2_dips_115 (lv_at hl 0 rfl) ?_
      refine lv_lmul hx hb dX2_dips_117 ?_
      refine lv_lload hx hb dX2_dips_118 (lv_at hl 12 rfl) ?_
      refine lv_lload hx hb dX2_dips_120 (lv_at hl 12 rfl) ?_
      refine lv_lmul hx hb dX2_dips_122 ?_
      refine lv_lload hx hb dX2_dips_123 (lv_at hl 1 rfl) ?_
      refine lv_lmul hx hb dX2_dips_125 ?_
      refine W.lcmp hx hb dX2_dips_126 ?_
      refine lv_if_ge (tgt := 134) hx hb dX2_dips_127 (by decide) (fun c15 => ?_) (fun c15 => ?_)
      · rw [if_pos c15] at h
        refine lv_iconst (v := 0) hx hb dX2_dips_134 (by decide) ?_
        obtain rfl := Option.some.inj h
        exact W.zret hx hb hr rfl (fun t ht _ => ⟨rfl, ht⟩) (fun _ h9 => absurd h9 List.not_mem_nil) dX2_dips_135
      · rw [if_neg c15] at h
        refine lv_iconst (v := 1) hx hb dX2_dips_130 (by decide) ?_
        refine lv_goto (tgt := 135) hx hb dX2_dips_131 (by decide) ?_
        obtain rfl := Option.some.inj h
        exact W.zret hx hb hr rfl (fun t ht _ => ⟨rfl, ht⟩) (fun _ h9 => absurd h9 List.not_mem_nil) dX2_dips_135
def s_X2_rail_64 (ro : Int32) (pt : Nat → Int32) (px : Nat → Int32) (py : Nat → Int32) (a1 : Int32) (a2 : Int32) (a3 : Int32) (u64 : (Int32 × Int32)) : Option ((Int32 × Int32) ⊕ Int32) :=
  if bin a1 6 = true then
  if (pt a1.toNatClampNeg) ≤ u64.2 then
  (some (.inr u64.1))
  else
  (if u64.1 = (0) then
  (some (.inr u64.1))
  else
  ((f_X2_x pt px a1 u64.2).bind fun r14 =>
  (f_X2_y pt py a1 u64.2).bind fun r15 =>
  (f_X2_standsWell ro r14 r15 a2 a3).bind fun r16 =>
  if r16 = (0) then
  (ov (u64.2 + (1 : Int32)) fun v18 =>
  some (.inl ((0 : Int32), v18)))
  else
  ((f_X2_dips pt px py a1 u64.2 a2 (0 : Int32) (ro.toInt64)).bind fun r19 =>
  if r19 = (0) then
  (ov (u64.2 + (1 : Int32)) fun v22 =>
  some (.inl ((1 : Int32), v22)))
  else
  (ov (u64.2 + (1 : Int32)) fun v21 =>
  some (.inl ((0 : Int32), v21))))))
  else none
def f_X2_rail (ro : Int32) (pt : Nat → Int32) (px : Nat → Int32) (py : Nat → Int32) (a1 : Int32) (a2 : Int32) (a3 : Int32) : Option Int32 :=
  (f_X2_isFigure a1).bind fun r1 =>
  if r1 = (0) then
  (some (-1 : Int32))
  else
  ((f_X2_in a2 (-1000 : Int32) (1000 : Int32)).bind fun r3 =>
  if r3 = (0) then
  (some (-2 : Int32))
  else
  ((f_X2_in a3 (-1000 : Int32) (1000 : Int32)).bind fun r5 =>
  if r5 = (0) then
  (some (-2 : Int32))
  else
  (if a2 ≤ a3 then
  ((f_X2_isClosed pt a1).bind fun r8 =>
  if r8 = (0) then
  (some (-3 : Int32))
  else
  ((f_X2_canGo ro pt py a1).bind fun r10 =>
  (lpf (s_X2_rail_64 ro pt px py a1 a2 a3) 1000 (r10, (0 : Int32))).bind fun x23 =>
  if x23 = (0) then
  (some (0 : Int32))
  else
  (some (1 : Int32))))
  else
  (some (-2 : Int32)))))
set_option maxHeartbeats 4000000 in
set_option maxRecDepth 100000 in
theorem k_X2_rail (l : Launch) (D : va_G) (cI cF : ClassId) (m0 : Nat) (m1 : Nat) (m2 : Nat) (m3 : Nat) (m4 : Nat) (m5 : Nat) (pt : Nat → Int32) (px : Nat → Int32) (py : Nat → Int32) (ro : Int32) (an : Int32) (te : Int32) (fx : Int32) (fy : Int32) (ar : Int32) (be : Int32) (ma : Int32) (nx : Nat → Int32) (ny : Nat → Int32) (a1 : Int32) (a2 : Int32) (a3 : Int32) (r0 : Int32) (h : f_X2_rail ro pt px py a1 a2 a3 = some r0) : Met l yX2_rail wsX2_rail ({ frames := 2, cells := 0, slots := 0, locals := 62 }) (va_Pc [.ref m0, .int a1, .int a2, .int a3] (fun U => wK D cI cF (moW cI m0 m1 m2 m3 m4 m5 pt px py ro an te fx fy ar be ma nx ny) U)) (qS (.int r0)) 0 0 (fun _ => False) := by
  refine Met.ofW (cc := cX2_rail) (maxL := 6) (ret := (some .int)) (by decide) rfl ?_
  intro p e s m args below meth c s₁ B hml hv
  obtain ⟨rfl, hK, hP⟩ := hv
  have hx := B.exec
  have hb := B.bytes
  have hr := B.returns
  have hts := atoms_spec (ws := wsX2_rail) B.pre
  have hown : s.vm.findClass RX2 = some m.cls := findClass_of_methodNamed B.named
  have hlocks := B.notSynchronized
  have ht1 := hts (.fieldLink RX2 7 "DrawnAreasModel" "points" "[I") (by decide +kernel)
  have hinX2 : ∀ w ∈ u_ws RX2 TX2 13, w ∈ wsX2_rail := by decide +kernel
  have ht3 := hts (.fieldLink RX2 19 "DrawnAreasModel" "rod" "I") (by decide +kernel)
  have hl := lv_entry ([.ref m0, .int a1, .int a2, .int a3]) (n := 6) (Nat.le_of_ble_eq_true rfl)
  rw [lg_entry_eq]
  generalize (lg_sl ([.ref m0, .int a1, .int a2, .int a3]) ++ List.replicate (6 - (lg_sl ([.ref m0, .int a1, .int a2, .int a3])).length) Slot.unset).toArray = ls at hl ⊢
  have hl : lv_has ls 6 [(0, .ref m0), (1, .int a1), (2, .int a2), (3, .int a3)] := hl
  unfold f_X2_rail at h
  refine lv_iload_n hx hb dX2_rail_0 rfl (lv_at hl 1 rfl) ?_
  obtain ⟨r1, hcr1, h⟩ := og_bind h
  refine cp_s (va_runS (As := [.int a1]) (rest := []) ⟨hx, hb, hml, hown, hts⟩ (k_X2_isFigure l a1 _ hcr1) (va_cwS 1 hts gX2_rail_X2_isFigure rfl rfl rfl (by decide +kernel) ⟨(Nat.le_of_ble_eq_true rfl), (Nat.le_of_ble_eq_true rfl)⟩) pre_s rfl rfl hl.1 rfl (lv_room (Nat.le_of_ble_eq_true rfl)) dX2_rail_1 ⟨(Nat.zero_le _), (Nat.zero_le _)⟩) ?_
  refine lv_if_ne (tgt := 9) hx hb dX2_rail_4 (by decide) (fun c1 => ?_) (fun c1 => ?_)
  · rw [if_neg c1] at h
    refine lv_iload_n hx hb dX2_rail_9 rfl (lv_at hl 2 rfl) ?_
    refine lv_sipush (v := -1000) hx hb dX2_rail_10 (by decide) ?_
    refine lv_sipush (v := 1000) hx hb dX2_rail_13 (by decide) ?_
    obtain ⟨r3, hcr3, h⟩ := og_bind h
    refine cp_s (va_runS (As := [.int a2, .int (-1000 : Int32), .int (1000 : Int32)]) (rest := []) ⟨hx, hb, hml, hown, hts⟩ (k_X2_in l a2 (-1000 : Int32) (1000 : Int32) _ hcr3) (va_cwS 3 hts gX2_rail_X2_in rfl rfl rfl (by decide +kernel) ⟨(Nat.le_of_ble_eq_true rfl), (Nat.le_of_ble_eq_true rfl)⟩) pre_s rfl rfl hl.1 rfl (lv_room (Nat.le_of_ble_eq_true rfl)) dX2_rail_16 ⟨(Nat.zero_le _), (Nat.zero_le _)⟩) ?_
    refine lv_if_eq (tgt := 40) hx hb dX2_rail_19 (by decide) (fun c3 => ?_) (fun c3 => ?_)
    · rw [if_pos c3] at h
      refine lv_bipush (v := -2) hx hb dX2_rail_40 (by decide) ?_
      obtain rfl := Option.some.inj h
      exact W.iret hx hb hr (fun t ht _ => ⟨rfl, ht⟩) (fun _ h9 => absurd h9 List.not_mem_nil) dX2_rail_42
    · rw [if_neg c3] at h
      refine lv_iload_n hx hb dX2_rail_22 rfl (lv_at hl 3 rfl) ?_
      refine lv_sipush (v := -1000) hx hb dX2_rail_23 (by decide) ?_
      refine lv_sipush (v := 1000) hx hb dX2_rail_26 (by decide) ?_
      obtain ⟨r5, hcr5, h⟩ := og_bind h
      refine cp_s (va_runS (As := [.int a3, .int (-1000 : Int32), .int (1000 : Int32)]) (rest := []) ⟨hx, hb, hml, hown, hts⟩ (k_X2_in l a3 (-1000 : Int32) (1000 : Int32) _ hcr5) (va_cwS 3 hts gX2_rail_X2_in rfl rfl rfl (by decide +kernel) ⟨(Nat.le_of_ble_eq_true rfl), (Nat.le_of_ble_eq_true rfl)⟩) pre_s rfl rfl hl.1 rfl (lv_room (Nat.le_of_ble_eq_true rfl)) dX2_rail_29 ⟨(Nat.zero_le _), (Nat.zero_le _)⟩) ?_
      refine lv_if_eq (tgt := 40) hx hb dX2_rail_32 (by decide) (fun c5 => ?_) (fun c5 => ?_)
      · rw [if_pos c5] at h
        refine lv_bipush (v := -2) hx hb dX2_rail_40 (by decide) ?_
        obtain rfl := Option.some.inj h
        exact W.iret hx hb hr (fun t ht _ => ⟨rfl, ht⟩) (fun _ h9 => absurd h9 List.not_mem_nil) dX2_rail_42
      · rw [if_neg c5] at h
        refine lv_iload_n hx hb dX2_rail_35 rfl (lv_at hl 2 rfl) ?_
        refine lv_iload_n hx hb dX2_rail_36 rfl (lv_at hl 3 rfl) ?_
        refine lv_icmp_le (tgt := 43) hx hb dX2_rail_37 (by decide) (fun c6 => ?_) (fun c6 => ?_)
        · rw [if_pos c6] at h
          refine lv_aload_n hx hb dX2_rail_43 rfl (lv_at hl 0 rfl) ?_
          refine lv_iload_n hx hb dX2_rail_44 rfl (lv_at hl 1 rfl) ?_
          obtain ⟨r8, hcr8, h⟩ := og_bind h
          refine cp_s (va_runV (As := [.int a1]) (rest := []) ⟨hx, hb, hml, hown, hts⟩ (k_X2_isClosed l D cI cF m0 m1 m2 m3 m4 m5 pt px py ro an te fx fy ar be ma nx ny a1 _ hcr8) (cwV 1 hts gX2_rail_X2_isClosed rfl rfl rfl (by decide +kernel) ⟨(Nat.le_of_ble_eq_true rfl), (Nat.le_of_ble_eq_true rfl)⟩) (pre_v (q0 := 0) (ci := 2) hK hP rfl rfl) rfl rfl hl.1 rfl (lv_room (Nat.le_of_ble_eq_true rfl)) dX2_rail_45 ⟨(Nat.zero_le _), (Nat.zero_le _)⟩) ?_
          refine lv_if_ne (tgt := 54) hx hb dX2_rail_48 (by decide) (fun c8 => ?_) (fun c8 => ?_)
          · rw [if_neg c8] at h
            refine lv_aload_n hx hb dX2_rail_54 rfl (lv_at hl 0 rfl) ?_
            refine lv_iload_n hx hb dX2_rail_55 rfl (lv_at hl 1 rfl) ?_
            obtain ⟨r10, hcr10, h⟩ := og_bind h
            refine cp_s (va_runV (As := [.int a1]) (rest := []) ⟨hx, hb, hml, hown, hts⟩ (k_X2_canGo l D cI cF m0 m1 m2 m3 m4 m5 pt px py ro an te fx fy ar be ma nx ny a1 _ hcr10) (cwV 1 hts gX2_rail_X2_canGo rfl rfl rfl (by decide +kernel) ⟨(Nat.le_of_ble_eq_true rfl), (Nat.le_of_ble_eq_true rfl)⟩) (pre_v (q0 := 0) (ci := 2) hK hP rfl rfl) rfl rfl hl.1 rfl (lv_room (Nat.le_of_ble_eq_true rfl)) dX2_rail_56 ⟨(Nat.zero_le _), (Nat.zero_le _)⟩) ?_
            refine lv_istore (lv' := [(4, .int r10), (0, .ref m0), (1, .int a1), (2, .int a2), (3, .int a3)]) hx hb dX2_rail_59 hl (by decide) rfl (fun ls hl => ?_)
            refine lv_iconst (v := 0) hx hb dX2_rail_61 (by decide) ?_
            refine lv_istore (lv' := [(5, .int (0 : Int32)), (4, .int r10), (0, .ref m0), (1, .int a1), (2, .int a2), (3, .int a3)]) hx hb dX2_rail_62 hl (by decide) rfl (fun ls hl => ?_)
            obtain ⟨x23, hN64, h⟩ := og_bind h
            refine wl hN64 64 133 (fun u64 ls => lv_has ls 6 [(0, .ref m0), (1, .int a1), (2, .int a2), (3, .int a3), (4, .int u64.1), (5, .int u64.2)]) (fun x23 ls => lv_has ls 6 [(4, .int x23)]) (fun u64 xx h ki64 kx64 ls hl => ?_) (fun ls hl => ?_) (lv_sub hl [2, 3, 4, 5, 1, 0] rfl)
            · unfold s_X2_rail_64 at h
              refine lv_iload hx hb dX2_rail_64 (lv_at hl 5 rfl) ?_
              refine lv_aload_n hx hb dX2_rail_66 rfl (lv_at hl 0 rfl) ?_
              refine va_get (D := D) (ci := 2) (v := .ref m1) (C := RX2) (T := TX2) (N := 13) hx hb hts hinX2 hown hK hP 0 rfl rfl 0 (by decide) ht1 (fun _ h9 => h9) rfl dX2_rail_67 ?_
              refine lv_iload_n hx hb dX2_rail_70 rfl (lv_at hl 1 rfl) ?_
              obtain ⟨gi10, h⟩ := og_in h
              refine va_iald hx hb hK hP 1 0 rfl rfl gi10 dX2_rail_71 ?_
              refine lv_icmp_ge (tgt := 133) hx hb dX2_rail_72 (by decide) (fun c11 => ?_) (fun c11 => ?_)
              · rw [if_pos c11] at h
                exact kx64 _ ls (Option.some.inj h).symm (lv_sub hl [4] rfl)
              · rw [if_neg c11] at h
                refine lv_iload hx hb dX2_rail_75 (lv_at hl 4 rfl) ?_
                refine lv_if_eq (tgt := 133) hx hb dX2_rail_77 (by decide) (fun c12 => ?_) (fun c12 => ?_)
                · rw [if_pos c12] at h
                  exact kx64 _ ls (Option.some.inj h).symm (lv_sub hl [4] rfl)
                · rw [if_neg c12] at h
                  refine lv_aload_n hx hb dX2_rail_80 rfl (lv_at hl 0 rfl) ?_
                  refine lv_aload_n hx hb dX2_rail_81 rfl (lv_at hl 0 rfl) ?_
                  refine lv_iload_n hx hb dX2_rail_82 rfl (lv_at hl 1 rfl) ?_
                  refine lv_iload hx hb dX2_rail_83 (lv_at hl 5 rfl) ?_
                  obtain ⟨r14, hcr14, h⟩ := og_bind h
                  refine cp_s (va_runV (As := [.int a1, .int u64.2]) (rest := [.ref m0]) ⟨hx, hb, hml, hown, hts⟩ (k_X2_x l D cI cF m0 m1 m2 m3 m4 m5 pt px py ro an te fx fy ar be ma nx ny a1 u64.2 _ hcr14) (cwV 2 hts gX2_rail_X2_x rfl rfl rfl (by decide +kernel) ⟨(Nat.le_of_ble_eq_true rfl), (Nat.le_of_ble_eq_true rfl)⟩) (pre_v (q0 := 0) (ci := 2) hK hP rfl rfl) rfl rfl hl.1 rfl (lv_room (Nat.le_of_ble_eq_true rfl)) dX2_rail_85 ⟨(Nat.zero_le _), (Nat.zero_le _)⟩) ?_
                  refine lv_aload_n hx hb dX2_rail_88 rfl (lv_at hl 0 rfl) ?_
                  refine lv_iload_n hx hb dX2_rail_89 rfl (lv_at hl 1 rfl) ?_
                  refine lv_iload hx hb dX2_rail_90 (lv_at hl 5 rfl) ?_
                  obtain ⟨r15, hcr15, h⟩ := og_bind h
                  refine cp_s (va_runV (As := [.int a1, .int u64.2]) (rest := [.int r14, .ref m0]) ⟨hx, hb, hml, hown, hts⟩ (k_X2_y l D cI cF m0 m1 m2 m3 m4 m5 pt px py ro an te fx fy ar be ma nx ny a1 u64.2 _ hcr15) (cwV 2 hts gX2_rail_X2_y rfl rfl rfl (by decide +kernel) ⟨(Nat.le_of_ble_eq_true rfl), (Nat.le_of_ble_eq_true rfl)⟩) (pre_v (q0 := 0) (ci := 2) hK hP rfl rfl) rfl rfl hl.1 rfl (lv_room (Nat.le_of_ble_eq_true rfl)) dX2_rail_92 ⟨(Nat.zero_le _), (Nat.zero_le _)⟩) ?_
                  refine lv_iload_n hx hb dX2_rail_95 rfl (lv_at hl 2 rfl) ?_
                  refine lv_iload_n hx hb dX2_rail_96 rfl (lv_at hl 3 rfl) ?_
                  obtain ⟨r16, hcr16, h⟩ := og_bind h
                  refine cp_s (va_runV (As := [.int r14, .int r15, .int a2, .int a3]) (rest := []) ⟨hx, hb, hml, hown, hts⟩ (k_X2_standsWell l D cI cF m0 m1 m2 m3 m4 m5 pt px py ro an te fx fy ar be ma nx ny r14 r15 a2 a3 _ hcr16) (cwV 4 hts gX2_rail_X2_standsWell rfl rfl rfl (by decide +kernel) ⟨(Nat.le_of_ble_eq_true rfl), (Nat.le_of_ble_eq_true rfl)⟩) (pre_v (q0 := 0) (ci := 2) hK hP rfl rfl) rfl rfl hl.1 rfl (lv_room (Nat.le_of_ble_eq_true rfl)) dX2_rail_97 ⟨(Nat.zero_le _), (Nat.zero_le _)⟩) ?_
                  refine lv_if_eq (tgt := 124) hx hb dX2_rail_100 (by decide) (fun c16 => ?_) (fun c16 => ?_)
                  · rw [if_pos c16] at h
                    refine lv_iconst (v := 0) hx hb dX2_rail_124 (by decide) ?_
                    refine lv_istore (lv' := [(4, .int (0 : Int32)), (0, .ref m0), (1, .int a1), (2, .int a2), (3, .int a3), (5, .int u64.2)]) hx hb dX2_rail_125 hl (by decide) rfl (fun ls hl => ?_)
                    obtain ⟨v18, ev18⟩ : ∃ y : Int32, y = u64.2 + (1 : Int32) := ⟨_, rfl⟩
                    have h := og_ov h ev18
                    refine lv_iinc (v := v18) (lv' := [(5, .int v18), (4, .int (0 : Int32)), (0, .ref m0), (1, .int a1), (2, .int a2), (3, .int a3)]) hx hb dX2_rail_127 hl (k := 5) rfl (by rw [ev18]; rfl) (by decide) rfl (fun ls hl => ?_)
                    refine lv_goto (tgt := 64) hx hb dX2_rail_130 (by decide) ?_
                    exact ki64 _ ls (Option.some.inj h).symm (lv_sub hl [2, 3, 4, 5, 1, 0] rfl)
                  · rw [if_neg c16] at h
                    refine lv_aload_n hx hb dX2_rail_103 rfl (lv_at hl 0 rfl) ?_
                    refine lv_iload_n hx hb dX2_rail_104 rfl (lv_at hl 1 rfl) ?_
                    refine lv_iload hx hb dX2_rail_105 (lv_at hl 5 rfl) ?_
                    refine lv_iload_n hx hb dX2_rail_107 rfl (lv_at hl 2 rfl) ?_
                    refine lv_iconst (v := 0) hx hb dX2_rail_108 (by decide) ?_
                    refine lv_aload_n hx hb dX2_rail_109 rfl (lv_at hl 0 rfl) ?_
                    refine va_get (D := D) (ci := 2) (v := .int ro) (C := RX2) (T := TX2) (N := 13) hx hb hts hinX2 hown hK hP 0 rfl rfl 3 (by decide) ht3 (fun _ h9 => h9) rfl dX2_rail_110 ?_
                    refine lv_i2l hx hb dX2_rail_113 rfl ?_
                    obtain ⟨r19, hcr19, h⟩ := og_bind h
                    refine cp_s (va_runV (As := [.int a1, .int u64.2, .int a2, .int (0 : Int32), .long (ro.toInt64)]) (rest := []) ⟨hx, hb, hml, hown, hts⟩ (k_X2_dips l D cI cF m0 m1 m2 m3 m4 m5 pt px py ro an te fx fy ar be ma nx ny a1 u64.2 a2 (0 : Int32) (ro.toInt64) _ hcr19) (cwV 5 hts gX2_rail_X2_dips rfl rfl rfl (by decide +kernel) ⟨(Nat.le_of_ble_eq_true rfl), (Nat.le_of_ble_eq_true rfl)⟩) (pre_v (q0 := 0) (ci := 2) hK hP rfl rfl) rfl rfl hl.1 rfl (lv_room (Nat.le_of_ble_eq_true rfl)) dX2_rail_114 ⟨(Nat.zero_le _), (Nat.zero_le _)⟩) ?_
                    refine lv_if_ne (tgt := 124) hx hb dX2_rail_117 (by decide) (fun c19 => ?_) (fun c19 => ?_)
                    · rw [if_neg c19] at h
                      refine lv_iconst (v := 0) hx hb dX2_rail_124 (by decide) ?_
                      refine lv_istore (lv' := [(4, .int (0 : Int32)), (0, .ref m0), (1, .int a1), (2, .int a2), (3, .int a3), (5, .int u64.2)]) hx hb dX2_rail_125 hl (by decide) rfl (fun ls hl => ?_)
                      obtain ⟨v21, ev21⟩ : ∃ y : Int32, y = u64.2 + (1 : Int32) := ⟨_, rfl⟩
                      have h := og_ov h ev21
                      refine lv_iinc (v := v21) (lv' := [(5, .int v21), (4, .int (0 : Int32)), (0, .ref m0), (1, .int a1), (2, .int a2), (3, .int a3)]) hx hb dX2_rail_127 hl (k := 5) rfl (by rw [ev21]; rfl) (by decide) rfl (fun ls hl => ?_)
                      refine lv_goto (tgt := 64) hx hb dX2_rail_130 (by decide) ?_
                      exact ki64 _ ls (Option.some.inj h).symm (lv_sub hl [2, 3, 4, 5, 1, 0] rfl)
                    · rw [if_pos c19] at h
                      refine lv_iconst (v := 1) hx hb dX2_rail_120 (by decide) ?_
                      refine lv_goto (tgt := 125) hx hb dX2_rail_121 (by decide) ?_
                      refine lv_istore (lv' := [(4, .int (1 : Int32)), (0, .ref m0), (1, .int a1), (2, .int a2), (3, .int a3), (5, .int u64.2)]) hx hb dX2_rail_125 hl (by decide) rfl (fun ls hl => ?_)
                      obtain ⟨v22, ev22⟩ : ∃ y : Int32, y = u64.2 + (1 : Int32) := ⟨_, rfl⟩
                      have h := og_ov h ev22
                      refine lv_iinc (v := v22) (lv' := [(5, .int v22), (4, .int (1 : Int32)), (0, .ref m0), (1, .int a1), (2, .int a2), (3, .int a3)]) hx hb dX2_rail_127 hl (k := 5) rfl (by rw [ev22]; rfl) (by decide) rfl (fun ls hl => ?_)
                      refine lv_goto (tgt := 64) hx hb dX2_rail_130 (by decide) ?_
                      exact ki64 _ ls (Option.some.inj h).symm (lv_sub hl [2, 3, 4, 5, 1, 0] rfl)
            · refine lv_iload hx hb dX2_rail_133 (lv_at hl 0 rfl) ?_
              refine lv_if_eq (tgt := 142) hx hb dX2_rail_135 (by decide) (fun c23 => ?_) (fun c23 => ?_)
              · rw [if_pos c23] at h
                refine lv_iconst (v := 0) hx hb dX2_rail_142 (by decide) ?_
                obtain rfl := Option.some.inj h
                exact W.iret hx hb hr (fun t ht _ => ⟨rfl, ht⟩) (fun _ h9 => absurd h9 List.not_mem_nil) dX2_rail_143
              · rw [if_neg c23] at h
                refine lv_iconst (v := 1) hx hb dX2_rail_138 (by decide) ?_
                refine lv_goto (tgt := 143) hx hb dX2_rail_139 (by decide) ?_
                obtain rfl := Option.some.inj h
                exact W.iret hx hb hr (fun t ht _ => ⟨rfl, ht⟩) (fun _ h9 => absurd h9 List.not_mem_nil) dX2_rail_143
          · rw [if_pos c8] at h
            refine lv_bipush (v := -3) hx hb dX2_rail_51 (by decide) ?_
            obtain rfl := Option.some.inj h
            exact W.iret hx hb hr (fun t ht _ => ⟨rfl, ht⟩) (fun _ h9 => absurd h9 List.not_mem_nil) dX2_rail_53
        · rw [if_neg c6] at h
          refine lv_bipush (v := -2) hx hb dX2_rail_40 (by decide) ?_
          obtain rfl := Option.some.inj h
          exact W.iret hx hb hr (fun t ht _ => ⟨rfl, ht⟩) (fun _ h9 => absurd h9 List.not_mem_nil) dX2_rail_42
  · rw [if_pos c1] at h
    refine lv_iconst (v := -1) hx hb dX2_rail_7 (by decide) ?_
    obtain rfl := Option.some.inj h
    exact W.iret hx hb hr (fun t ht _ => ⟨rfl, ht⟩) (fun _ h9 => absurd h9 List.not_mem_nil) dX2_rail_8
def f_X2_slope (ro : Int32) (a1 : Int32) : Option Int64 :=
  (f_X2_root ((1000000 : Int64) * (((ro.toInt64) * (ro.toInt64)) - ((a1.toInt64) * (a1.toInt64))))).bind fun r1 =>
  some r1
set_option maxHeartbeats 4000000 in
set_option maxRecDepth 100000 in
theorem k_X2_slope (l : Launch) (D : va_G) (cI cF : ClassId) (m0 : Nat) (m1 : Nat) (m2 : Nat) (m3 : Nat) (m4 : Nat) (m5 : Nat) (pt : Nat → Int32) (px : Nat → Int32) (py : Nat → Int32) (ro : Int32) (an : Int32) (te : Int32) (fx : Int32) (fy : Int32) (ar : Int32) (be : Int32) (ma : Int32) (nx : Nat → Int32) (ny : Nat → Int32) (a1 : Int32) (r0 : Int64) (h : f_X2_slope ro a1 = some r0) : Met l yX2_slope wsX2_slope ({ frames := 1, cells := 0, slots := 0, locals := 27 }) (va_Pc [.ref m0, .int a1] (fun U => wK D cI cF (moW cI m0 m1 m2 m3 m4 m5 pt px py ro an te fx fy ar be ma nx ny) U)) (qS (.long r0)) 0 0 (fun _ => False) := by
  refine Met.ofW (cc := cX2_slope) (maxL := 2) (ret := (some .long)) (by decide) rfl ?_
  intro p e s m args below meth c s₁ B hml hv
  obtain ⟨rfl, hK, hP⟩ := hv
  have hx := B.exec
  have hb := B.bytes
  have hr := B.returns
  have hts := atoms_spec (ws := wsX2_slope) B.pre
  have hown : s.vm.findClass RX2 = some m.cls := findClass_of_methodNamed B.named
  have hlocks := B.notSynchronized
  have ht1 := hts (.constantLong RX2 133 (1000000)) (by decide +kernel)
  have ht2 := hts (.fieldLink RX2 19 "DrawnAreasModel" "rod" "I") (by decide +kernel)
  have hinX2 : ∀ w ∈ u_ws RX2 TX2 13, w ∈ wsX2_slope := by decide +kernel
  have hl := lv_entry ([.ref m0, .int a1]) (n := 2) (Nat.le_of_ble_eq_true rfl)
  rw [lg_entry_eq]
  generalize (lg_sl ([.ref m0, .int a1]) ++ List.replicate (2 - (lg_sl ([.ref m0, .int a1])).length) Slot.unset).toArray = ls at hl ⊢
  have hl : lv_has ls 2 [(0, .ref m0), (1, .int a1)] := hl
  unfold f_X2_slope at h
  refine lv_ldc2 hx hb hown ht1 dX2_slope_0 ?_
  refine lv_aload_n hx hb dX2_slope_3 rfl (lv_at hl 0 rfl) ?_
  refine va_get (D := D) (ci := 2) (v := .int ro) (C := RX2) (T := TX2) (N := 13) hx hb hts hinX2 hown hK hP 0 rfl rfl 3 (by decide) ht2 (fun _ h9 => h9) rfl dX2_slope_4 ?_
  refine lv_i2l hx hb dX2_slope_7 rfl ?_
  refine lv_aload_n hx hb dX2_slope_8 rfl (lv_at hl 0 rfl) ?_
  refine va_get (D := D) (ci := 2) (v := .int ro) (C := RX2) (T := TX2) (N := 13) hx hb hts hinX2 hown hK hP 0 rfl rfl 3 (by decide) ht2 (fun _ h9 => h9) rfl dX2_slope_9 ?_
  refine lv_i2l hx hb dX2_slope_12 rfl ?_
  refine lv_lmul hx hb dX2_slope_13 ?_
  refine lv_iload_n hx hb dX2_slope_14 rfl (lv_at hl 1 rfl) ?_
  refine lv_i2l hx hb dX2_slope_15 rfl ?_
  refine lv_iload_n hx hb dX2_slope_16 rfl (lv_at hl 1 rfl) ?_
  refine lv_i2l hx hb dX2_slope_17 rfl ?_
  refine lv_lmul hx hb dX2_slope_18 ?_
  refine lv_lsub hx hb dX2_slope_19 ?_
  refine lv_lmul hx hb dX2_slope_20 ?_
  obtain ⟨r1, hcr1, h⟩ := og_bind h
  refine cp_s (va_runS (As := [.long ((1000000 : Int64) * (((ro.toInt64) * (ro.toInt64)) - ((a1.toInt64) * (a1.toInt64))))]) (rest := []) ⟨hx, hb, hml, hown, hts⟩ (k_X2_root l ((1000000 : Int64) * (((ro.toInt64) * (ro.toInt64)) - ((a1.toInt64) * (a1.toInt64)))) _ hcr1) (va_cwS 1 hts gX2_slope_X2_root rfl rfl rfl (by decide +kernel) ⟨(Nat.le_of_ble_eq_true rfl), (Nat.le_of_ble_eq_true rfl)⟩) pre_s rfl rfl hl.1 rfl (lv_room (Nat.le_of_ble_eq_true rfl)) dX2_slope_21 ⟨(Nat.zero_le _), (Nat.zero_le _)⟩) ?_
  obtain rfl := Option.some.inj h
  exact W.lret hx hb hr (fun t ht _ => ⟨rfl, ht⟩) (fun _ h9 => absurd h9 List.not_mem_nil) dX2_slope_24
def s_X2_shut_30 (ro : Int32) (a1 : Int32) (a2 : Int32) (u30 : (Int64 × Int32)) : Option ((Int64 × Int32) ⊕ Int64) :=
  if (a1 + a2) ≤ u30.2 then
  (some (.inr u30.1))
  else
  (ov (((u30.2.toInt64) * (u30.2.toInt64)) * (1000000000 : Int64)) fun v6 =>
  if a2 = (0) then
  ((f_X2_slope ro u30.2).bind fun r12 =>
  if ((ro.toInt64) * (r12 + (1 : Int64))) = 0 then none else
  ov (u30.1 + (v6 / ((ro.toInt64) * (r12 + (1 : Int64))))) fun v14 =>
  ov (u30.2 + (1 : Int32)) fun v15 =>
  some (.inl (v14, v15)))
  else
  ((f_X2_slope ro u30.2).bind fun r8 =>
  if ((ro.toInt64) * r8) = 0 then none else
  ov (u30.1 + ((1 : Int64) + (v6 / ((ro.toInt64) * r8)))) fun v10 =>
  ov (u30.2 + (1 : Int32)) fun v11 =>
  some (.inl (v10, v11))))
def f_X2_shut (ro : Int32) (a1 : Int32) (a2 : Int32) : Option Int64 :=
  (f_X2_in a1 (0 : Int32) (ro - (1 : Int32))).bind fun r1 =>
  if r1 = (0) then
  (some (-1000000000000000002 : Int64))
  else
  ((f_X2_isPart a2).bind fun r3 =>
  if r3 = (0) then
  (some (-1000000000000000002 : Int64))
  else
  ((lpf (s_X2_shut_30 ro a1 a2) 1000 ((0 : Int64), a2)).bind fun x16 =>
  some x16))
set_option maxHeartbeats 4000000 in
set_option maxRecDepth 100000 in
theorem k_X2_shut (l : Launch) (D : va_G) (cI cF : ClassId) (m0 : Nat) (m1 : Nat) (m2 : Nat) (m3 : Nat) (m4 : Nat) (m5 : Nat) (pt : Nat → Int32) (px : Nat → Int32) (py : Nat → Int32) (ro : Int32) (an : Int32) (te : Int32) (fx : Int32) (fy : Int32) (ar : Int32) (be : Int32) (ma : Int32) (nx : Nat → Int32) (ny : Nat → Int32) (a1 : Int32) (a2 : Int32) (r0 : Int64) (h : f_X2_shut ro a1 a2 = some r0) : Met l yX2_shut wsX2_shut ({ frames := 2, cells := 0, slots := 0, locals := 48 }) (va_Pc [.ref m0, .int a1, .int a2] (fun U => wK D cI cF (moW cI m0 m1 m2 m3 m4 m5 pt px py ro an te fx fy ar be ma nx ny) U)) (qS (.long r0)) 0 0 (fun _ => False) := by
  refine Met.ofW (cc := cX2_shut) (maxL := 8) (ret := (some .long)) (by decide) rfl ?_
  intro p e s m args below meth c s₁ B hml hv
  obtain ⟨rfl, hK, hP⟩ := hv
  have hx := B.exec
  have hb := B.bytes
  have hr := B.returns
  have hts := atoms_spec (ws := wsX2_shut) B.pre
  have hown : s.vm.findClass RX2 = some m.cls := findClass_of_methodNamed B.named
  have hlocks := B.notSynchronized
  have ht1 := hts (.fieldLink RX2 19 "DrawnAreasModel" "rod" "I") (by decide +kernel)
  have hinX2 : ∀ w ∈ u_ws RX2 TX2 13, w ∈ wsX2_shut := by decide +kernel
  have ht3 := hts (.constantLong RX2 111 (-1000000000000000002)) (by decide +kernel)
  have ht4 := hts (.constantLong RX2 139 (1000000000)) (by decide +kernel)
  have hl := lv_entry ([.ref m0, .int a1, .int a2]) (n := 8) (Nat.le_of_ble_eq_true rfl)
  rw [lg_entry_eq]
  generalize (lg_sl ([.ref m0, .int a1, .int a2]) ++ List.replicate (8 - (lg_sl ([.ref m0, .int a1, .int a2])).length) Slot.unset).toArray = ls at hl ⊢
  have hl : lv_has ls 8 [(0, .ref m0), (1, .int a1), (2, .int a2)] := hl
  unfold f_X2_shut at h
  refine lv_iload_n hx hb dX2_shut_0 rfl (lv_at hl 1 rfl) ?_
  refine lv_iconst (v := 0) hx hb dX2_shut_1 (by decide) ?_
  refine lv_aload_n hx hb dX2_shut_2 rfl (lv_at hl 0 rfl) ?_
  refine va_get (D := D) (ci := 2) (v := .int ro) (C := RX2) (T := TX2) (N := 13) hx hb hts hinX2 hown hK hP 0 rfl rfl 3 (by decide) ht1 (fun _ h9 => h9) rfl dX2_shut_3 ?_
  refine lv_iconst (v := 1) hx hb dX2_shut_6 (by decide) ?_
  refine lv_isub hx hb dX2_shut_7 ?_
  obtain ⟨r1, hcr1, h⟩ := og_bind h
  refine cp_s (va_runS (As := [.int a1, .int (0 : Int32), .int (ro - (1 : Int32))]) (rest := []) ⟨hx, hb, hml, hown, hts⟩ (k_X2_in l a1 (0 : Int32) (ro - (1 : Int32)) _ hcr1) (va_cwS 3 hts gX2_shut_X2_in rfl rfl rfl (by decide +kernel) ⟨(Nat.le_of_ble_eq_true rfl), (Nat.le_of_ble_eq_true rfl)⟩) pre_s rfl rfl hl.1 rfl (lv_room (Nat.le_of_ble_eq_true rfl)) dX2_shut_8 ⟨(Nat.zero_le _), (Nat.zero_le _)⟩) ?_
  refine lv_if_eq (tgt := 21) hx hb dX2_shut_11 (by decide) (fun c1 => ?_) (fun c1 => ?_)
  · rw [if_pos c1] at h
    refine lv_ldc2 hx hb hown ht3 dX2_shut_21 ?_
    obtain rfl := Option.some.inj h
    exact W.lret hx hb hr (fun t ht _ => ⟨rfl, ht⟩) (fun _ h9 => absurd h9 List.not_mem_nil) dX2_shut_24
  · rw [if_neg c1] at h
    refine lv_iload_n hx hb dX2_shut_14 rfl (lv_at hl 2 rfl) ?_
    obtain ⟨r3, hcr3, h⟩ := og_bind h
    refine cp_s (va_runS (As := [.int a2]) (rest := []) ⟨hx, hb, hml, hown, hts⟩ (k_X2_isPart l a2 _ hcr3) (va_cwS 1 hts gX2_shut_X2_isPart rfl rfl rfl (by decide +kernel) ⟨(Nat.le_of_ble_eq_true rfl), (Nat.le_of_ble_eq_true rfl)⟩) pre_s rfl rfl hl.1 rfl (lv_room (Nat.le_of_ble_eq_true rfl)) dX2_shut_15 ⟨(Nat.zero_le _), (Nat.zero_le _)⟩) ?_
    refine lv_if_ne (tgt := 25) hx hb dX2_shut_18 (by decide) (fun c3 => ?_) (fun c3 => ?_)
    · rw [if_neg c3] at h
      refine lv_lconst (v := 0) hx hb dX2_shut_25 (by decide) ?_
      refine lv_lstore_n (lv' := [(3, .long (0 : Int64)), (0, .ref m0), (1, .int a1), (2, .int a2)]) hx hb dX2_shut_26 rfl hl (by decide) rfl (fun ls hl => ?_)
      refine lv_iload_n hx hb dX2_shut_27 rfl (lv_at hl 3 rfl) ?_
      refine lv_istore (lv' := [(5, .int a2), (3, .long (0 : Int64)), (0, .ref m0), (1, .int a1), (2, .int a2)]) hx hb dX2_shut_28 hl (by decide) rfl (fun ls hl => ?_)
      obtain ⟨x16, hN30, h⟩ := og_bind h
      refine wl hN30 30 101 (fun u30 ls => lv_has ls 8 [(0, .ref m0), (1, .int a1), (2, .int a2), (3, .long u30.1), (5, .int u30.2)]) (fun x16 ls => lv_has ls 8 [(3, .long x16)]) (fun u30 xx h ki30 kx30 ls hl => ?_) (fun ls hl => ?_) (lv_sub hl [2, 3, 4, 1, 0] rfl)
      · unfold s_X2_shut_30 at h
        refine lv_iload hx hb dX2_shut_30 (lv_at hl 4 rfl) ?_
        refine lv_iload_n hx hb dX2_shut_32 rfl (lv_at hl 1 rfl) ?_
        refine lv_iload_n hx hb dX2_shut_33 rfl (lv_at hl 2 rfl) ?_
        refine lv_iadd hx hb dX2_shut_34 ?_
        refine lv_icmp_ge (tgt := 101) hx hb dX2_shut_35 (by decide) (fun c4 => ?_) (fun c4 => ?_)
        · rw [if_pos c4] at h
          exact kx30 _ ls (Option.some.inj h).symm (lv_sub hl [3] rfl)
        · rw [if_neg c4] at h
          refine lv_iload hx hb dX2_shut_38 (lv_at hl 4 rfl) ?_
          refine lv_i2l hx hb dX2_shut_40 rfl ?_
          refine lv_iload hx hb dX2_shut_41 (lv_at hl 4 rfl) ?_
          refine lv_i2l hx hb dX2_shut_43 rfl ?_
          refine lv_lmul hx hb dX2_shut_44 ?_
          refine lv_ldc2 hx hb hown ht4 dX2_shut_45 ?_
          refine lv_lmul hx hb dX2_shut_48 ?_
          refine lv_topl (fun v6 ev6 => ?_)
          have h := og_ov h ev6
          refine lv_lstore (lv' := [(6, .long v6), (0, .ref m0), (1, .int a1), (2, .int a2), (3, .long u30.1), (5, .int u30.2)]) hx hb dX2_shut_49 hl (by decide) rfl (fun ls hl => ?_)
          refine lv_lload_n hx hb dX2_shut_51 rfl (lv_at hl 4 rfl) ?_
          refine lv_iload_n hx hb dX2_shut_52 rfl (lv_at hl 3 rfl) ?_
          refine lv_if_ne (tgt := 76) hx hb dX2_shut_53 (by decide) (fun c6 => ?_) (fun c6 => ?_)
          · rw [if_neg c6] at h
            refine lv_lconst (v := 1) hx hb dX2_shut_76 (by decide) ?_
            refine lv_lload hx hb dX2_shut_77 (lv_at hl 0 rfl) ?_
            refine lv_aload_n hx hb dX2_shut_79 rfl (lv_at hl 1 rfl) ?_
            refine va_get (D := D) (ci := 2) (v := .int ro) (C := RX2) (T := TX2) (N := 13) hx hb hts hinX2 hown hK hP 0 rfl rfl 3 (by decide) ht1 (fun _ h9 => h9) rfl dX2_shut_80 ?_
            refine lv_i2l hx hb dX2_shut_83 rfl ?_
            refine lv_aload_n hx hb dX2_shut_84 rfl (lv_at hl 1 rfl) ?_
            refine lv_iload hx hb dX2_shut_85 (lv_at hl 5 rfl) ?_
            obtain ⟨r8, hcr8, h⟩ := og_bind h
            refine cp_s (va_runV (As := [.int u30.2]) (rest := [.long (ro.toInt64), .long v6, .long (1 : Int64), .long u30.1]) ⟨hx, hb, hml, hown, hts⟩ (k_X2_slope l D cI cF m0 m1 m2 m3 m4 m5 pt px py ro an te fx fy ar be ma nx ny u30.2 _ hcr8) (cwV 1 hts gX2_shut_X2_slope rfl rfl rfl (by decide +kernel) ⟨(Nat.le_of_ble_eq_true rfl), (Nat.le_of_ble_eq_true rfl)⟩) (pre_v (q0 := 0) (ci := 2) hK hP rfl rfl) rfl rfl hl.1 rfl (lv_room (Nat.le_of_ble_eq_true rfl)) dX2_shut_87 ⟨(Nat.zero_le _), (Nat.zero_le _)⟩) ?_
            refine lv_lmul hx hb dX2_shut_90 ?_
            obtain ⟨gz8, h⟩ := og_nz h
            refine lv_ldiv hx hb dX2_shut_91 gz8 ?_
            refine lv_ladd hx hb dX2_shut_92 ?_
            refine lv_ladd hx hb dX2_shut_93 ?_
            refine lv_topl (fun v10 ev10 => ?_)
            have h := og_ov h ev10
            refine lv_lstore_n (lv' := [(3, .long v10), (6, .long v6), (0, .ref m0), (1, .int a1), (2, .int a2), (5, .int u30.2)]) hx hb dX2_shut_94 rfl hl (by decide) rfl (fun ls hl => ?_)
            obtain ⟨v11, ev11⟩ : ∃ y : Int32, y = u30.2 + (1 : Int32) := ⟨_, rfl⟩
            have h := og_ov h ev11
            refine lv_iinc (v := v11) (lv' := [(5, .int v11), (3, .long v10), (6, .long v6), (0, .ref m0), (1, .int a1), (2, .int a2)]) hx hb dX2_shut_95 hl (k := 5) rfl (by rw [ev11]; rfl) (by decide) rfl (fun ls hl => ?_)
            refine lv_goto (tgt := 30) hx hb dX2_shut_98 (by decide) ?_
            exact ki30 _ ls (Option.some.inj h).symm (lv_sub hl [3, 4, 5, 1, 0] rfl)
          · rw [if_pos c6] at h
            refine lv_lload hx hb dX2_shut_56 (lv_at hl 0 rfl) ?_
            refine lv_aload_n hx hb dX2_shut_58 rfl (lv_at hl 1 rfl) ?_
            refine va_get (D := D) (ci := 2) (v := .int ro) (C := RX2) (T := TX2) (N := 13) hx hb hts hinX2 hown hK hP 0 rfl rfl 3 (by decide) ht1 (fun _ h9 => h9) rfl dX2_shut_59 ?_
            refine lv_i2l hx hb dX2_shut_62 rfl ?_
            refine lv_aload_n hx hb dX2_shut_63 rfl (lv_at hl 1 rfl) ?_
            refine lv_iload hx hb dX2_shut_64 (lv_at hl 5 rfl) ?_
            obtain ⟨r12, hcr12, h⟩ := og_bind h
            refine cp_s (va_runV (As := [.int u30.2]) (rest := [.long (ro.toInt64), .long v6, .long u30.1]) ⟨hx, hb, hml, hown, hts⟩ (k_X2_slope l D cI cF m0 m1 m2 m3 m4 m5 pt px py ro an te fx fy ar be ma nx ny u30.2 _ hcr12) (cwV 1 hts gX2_shut_X2_slope rfl rfl rfl (by decide +kernel) ⟨(Nat.le_of_ble_eq_true rfl), (Nat.le_of_ble_eq_true rfl)⟩) (pre_v (q0 := 0) (ci := 2) hK hP rfl rfl) rfl rfl hl.1 rfl (lv_room (Nat.le_of_ble_eq_true rfl)) dX2_shut_66 ⟨(Nat.zero_le _), (Nat.zero_le _)⟩) ?_
            refine lv_lconst (v := 1) hx hb dX2_shut_69 (by decide) ?_
            refine lv_ladd hx hb dX2_shut_70 ?_
            refine lv_lmul hx hb dX2_shut_71 ?_
            obtain ⟨gz12, h⟩ := og_nz h
            refine lv_ldiv hx hb dX2_shut_72 gz12 ?_
            refine lv_goto (tgt := 93) hx hb dX2_shut_73 (by decide) ?_
            refine lv_ladd hx hb dX2_shut_93 ?_
            refine lv_topl (fun v14 ev14 => ?_)
            have h := og_ov h ev14
            refine lv_lstore_n (lv' := [(3, .long v14), (6, .long v6), (0, .ref m0), (1, .int a1), (2, .int a2), (5, .int u30.2)]) hx hb dX2_shut_94 rfl hl (by decide) rfl (fun ls hl => ?_)
            obtain ⟨v15, ev15⟩ : ∃ y : Int32, y = u30.2 + (1 : Int32) := ⟨_, rfl⟩
            have h := og_ov h ev15
            refine lv_iinc (v := v15) (lv' := [(5, .int v15), (3, .long v14), (6, .long v6), (0, .ref m0), (1, .int a1), (2, .int a2)]) hx hb dX2_shut_95 hl (k := 5) rfl (by rw [ev15]; rfl) (by decide) rfl (fun ls hl => ?_)
            refine lv_goto (tgt := 30) hx hb dX2_shut_98 (by decide) ?_
            exact ki30 _ ls (Option.some.inj h).symm (lv_sub hl [3, 4, 5, 1, 0] rfl)
      · refine lv_lload_n hx hb dX2_shut_101 rfl (lv_at hl 0 rfl) ?_
        obtain rfl := Option.some.inj h
        exact W.lret hx hb hr (fun t ht _ => ⟨rfl, ht⟩) (fun _ h9 => absurd h9 List.not_mem_nil) dX2_shut_102
    · rw [if_pos c3] at h
      refine lv_ldc2 hx hb hown ht3 dX2_shut_21 ?_
      obtain rfl := Option.some.inj h
      exact W.lret hx hb hr (fun t ht _ => ⟨rfl, ht⟩) (fun _ h9 => absurd h9 List.not_mem_nil) dX2_shut_24
def f_X2_geared (ro : Int32) (pt : Nat → Int32) (px : Nat → Int32) (py : Nat → Int32) (a1 : Int32) (a2 : Int32) (a3 : Int32) : Option Int64 :=
  (f_X2_isFigure a1).bind fun r1 =>
  if r1 = (0) then
  (some (-1000000000000000001 : Int64))
  else
  ((f_X2_in a2 (1 : Int32) (3 : Int32)).bind fun r3 =>
  if r3 = (0) then
  (some (-1000000000000000002 : Int64))
  else
  ((f_X2_isPart a3).bind fun r5 =>
  if r5 = (0) then
  (some (-1000000000000000002 : Int64))
  else
  ((f_X2_isClosed pt a1).bind fun r7 =>
  if r7 = (0) then
  (some (-1000000000000000003 : Int64))
  else
  ((f_X2_canGo ro pt py a1).bind fun r9 =>
  if r9 = (0) then
  (some (-1000000000000000003 : Int64))
  else
  (ov (ro.toInt64) fun v11 =>
  if bin a1 6 = true then
  (f_X2_along pt px py a1 (pt a1.toNatClampNeg) (1 : Int32)).bind fun r13 =>
  if a2 = (1 : Int32) then
  ((f_X2_term r13 ((2 : Int64) * v11) a3).bind fun r22 =>
  some r22)
  else
  (if a2 = (2 : Int32) then
  (if bin a1 6 = true then
  (f_X2_along pt px py a1 (pt a1.toNatClampNeg) (2 : Int32)).bind fun r20 =>
  (f_X2_term ((-2 : Int64) * r20) (((3 : Int64) * v11) * v11) a3).bind fun r21 =>
  some r21
  else none)
  else
  (if bin a1 6 = true then
  (f_X2_along pt px py a1 (pt a1.toNatClampNeg) (3 : Int32)).bind fun r17 =>
  (f_X2_term (((((3 : Int64) * r13) * v11) * v11) - ((2 : Int64) * r17)) ((((2 : Int64) * v11) * v11) * v11) a3).bind fun r18 =>
  some r18
  else none))
  else none)))))
set_option maxHeartbeats 4000000 in
set_option maxRecDepth 100000 in
theorem k_X2_geared (l : Launch) (D : va_G) (cI cF : ClassId) (m0 : Nat) (m1 : Nat) (m2 : Nat) (m3 : Nat) (m4 : Nat) (m5 : Nat) (pt : Nat → Int32) (px : Nat → Int32) (py : Nat → Int32) (ro : Int32) (an : Int32) (te : Int32) (fx : Int32) (fy : Int32) (ar : Int32) (be : Int32) (ma : Int32) (nx : Nat → Int32) (ny : Nat → Int32) (a1 : Int32) (a2 : Int32) (a3 : Int32) (r0 : Int64) (h : f_X2_geared ro pt px py a1 a2 a3 = some r0) : Met l yX2_geared wsX2_geared ({ frames := 2, cells := 0, slots := 0, locals := 56 }) (va_Pc [.ref m0, .int a1, .int a2, .int a3] (fun U => wK D cI cF (moW cI m0 m1 m2 m3 m4 m5 pt px py ro an te fx fy ar be ma nx ny) U)) (qS (.long r0)) 0 0 (fun _ => False) := by
  refine Met.ofW (cc := cX2_geared) (maxL := 8) (ret := (some .long)) (by decide) rfl ?_
  intro p e s m args below meth c s₁ B hml hv
  obtain ⟨rfl, hK, hP⟩ := hv
  have hx := B.exec
  have hb := B.bytes
  have hr := B.returns
  have hts := atoms_spec (ws := wsX2_geared) B.pre
  have hown : s.vm.findClass RX2 = some m.cls := findClass_of_methodNamed B.named
  have hlocks := B.notSynchronized
  have ht1 := hts (.constantLong RX2 111 (-1000000000000000002)) (by decide +kernel)
  have ht2 := hts (.constantLong RX2 80 (-1000000000000000003)) (by decide +kernel)
  have ht3 := hts (.fieldLink RX2 19 "DrawnAreasModel" "rod" "I") (by decide +kernel)
  have hinX2 : ∀ w ∈ u_ws RX2 TX2 13, w ∈ wsX2_geared := by decide +kernel
  have ht5 := hts (.fieldLink RX2 7 "DrawnAreasModel" "points" "[I") (by decide +kernel)
  have ht6 := hts (.constantLong RX2 146 (3)) (by decide +kernel)
  have ht7 := hts (.constantLong RX2 120 (2)) (by decide +kernel)
  have ht8 := hts (.constantLong RX2 144 (-2)) (by decide +kernel)
  have ht9 := hts (.constantLong RX2 71 (-1000000000000000001)) (by decide +kernel)
  have hl := lv_entry ([.ref m0, .int a1, .int a2, .int a3]) (n := 8) (Nat.le_of_ble_eq_true rfl)
  rw [lg_entry_eq]
  generalize (lg_sl ([.ref m0, .int a1, .int a2, .int a3]) ++ List.replicate (8 - (lg_sl ([.ref m0, .int a1, .int a2, .int a3])).length) Slot.unset).toArray = ls at hl ⊢
  have hl : lv_has ls 8 [(0, .ref m0), (1, .int a1), (2, .int a2), (3, .int a3)] := hl
  unfold f_X2_geared at h
  refine lv_iload_n hx hb dX2_geared_0 rfl (lv_at hl 1 rfl) ?_
  obtain ⟨r1, hcr1, h⟩ := og_bind h
  refine cp_s (va_runS (As := [.int a1]) (rest := []) ⟨hx, hb, hml, hown, hts⟩ (k_X2_isFigure l a1 _ hcr1) (va_cwS 1 hts gX2_geared_X2_isFigure rfl rfl rfl (by decide +kernel) ⟨(Nat.le_of_ble_eq_true rfl), (Nat.le_of_ble_eq_true rfl)⟩) pre_s rfl rfl hl.1 rfl (lv_room (Nat.le_of_ble_eq_true rfl)) dX2_geared_1 ⟨(Nat.zero_le _), (Nat.zero_le _)⟩) ?_
  refine lv_if_ne (tgt := 11) hx hb dX2_geared_4 (by decide) (fun c1 => ?_) (fun c1 => ?_)
  · rw [if_neg c1] at h
    refine lv_iload_n hx hb dX2_geared_11 rfl (lv_at hl 2 rfl) ?_
    refine lv_iconst (v := 1) hx hb dX2_geared_12 (by decide) ?_
    refine lv_iconst (v := 3) hx hb dX2_geared_13 (by decide) ?_
    obtain ⟨r3, hcr3, h⟩ := og_bind h
    refine cp_s (va_runS (As := [.int a2, .int (1 : Int32), .int (3 : Int32)]) (rest := []) ⟨hx, hb, hml, hown, hts⟩ (k_X2_in l a2 (1 : Int32) (3 : Int32) _ hcr3) (va_cwS 3 hts gX2_geared_X2_in rfl rfl rfl (by decide +kernel) ⟨(Nat.le_of_ble_eq_true rfl), (Nat.le_of_ble_eq_true rfl)⟩) pre_s rfl rfl hl.1 rfl (lv_room (Nat.le_of_ble_eq_true rfl)) dX2_geared_14 ⟨(Nat.zero_le _), (Nat.zero_le _)⟩) ?_
    refine lv_if_eq (tgt := 27) hx hb dX2_geared_17 (by decide) (fun c3 => ?_) (fun c3 => ?_)
    · rw [if_pos c3] at h
      refine lv_ldc2 hx hb hown ht1 dX2_geared_27 ?_
      obtain rfl := Option.some.inj h
      exact W.lret hx hb hr (fun t ht _ => ⟨rfl, ht⟩) (fun _ h9 => absurd h9 List.not_mem_nil) dX2_geared_30
    · rw [if_neg c3] at h
      refine lv_iload_n hx hb dX2_geared_20 rfl (lv_at hl 3 rfl) ?_
      obtain ⟨r5, hcr5, h⟩ := og_bind h
      refine cp_s (va_runS (As := [.int a3]) (rest := []) ⟨hx, hb, hml, hown, hts⟩ (k_X2_isPart l a3 _ hcr5) (va_cwS 1 hts gX2_geared_X2_isPart rfl rfl rfl (by decide +kernel) ⟨(Nat.le_of_ble_eq_true rfl), (Nat.le_of_ble_eq_true rfl)⟩) pre_s rfl rfl hl.1 rfl (lv_room (Nat.le_of_ble_eq_true rfl)) dX2_geared_21 ⟨(Nat.zero_le _), (Nat.zero_le _)⟩) ?_
      refine lv_if_ne (tgt := 31) hx hb dX2_geared_24 (by decide) (fun c5 => ?_) (fun c5 => ?_)
      · rw [if_neg c5] at h
        refine lv_aload_n hx hb dX2_geared_31 rfl (lv_at hl 0 rfl) ?_
        refine lv_iload_n hx hb dX2_geared_32 rfl (lv_at hl 1 rfl) ?_
        obtain ⟨r7, hcr7, h⟩ := og_bind h
        refine cp_s (va_runV (As := [.int a1]) (rest := []) ⟨hx, hb, hml, hown, hts⟩ (k_X2_isClosed l D cI cF m0 m1 m2 m3 m4 m5 pt px py ro an te fx fy ar be ma nx ny a1 _ hcr7) (cwV 1 hts gX2_geared_X2_isClosed rfl rfl rfl (by decide +kernel) ⟨(Nat.le_of_ble_eq_true rfl), (Nat.le_of_ble_eq_true rfl)⟩) (pre_v (q0 := 0) (ci := 2) hK hP rfl rfl) rfl rfl hl.1 rfl (lv_room (Nat.le_of_ble_eq_true rfl)) dX2_geared_33 ⟨(Nat.zero_le _), (Nat.zero_le _)⟩) ?_
        refine lv_if_eq (tgt := 47) hx hb dX2_geared_36 (by decide) (fun c7 => ?_) (fun c7 => ?_)
        · rw [if_pos c7] at h
          refine lv_ldc2 hx hb hown ht2 dX2_geared_47 ?_
          obtain rfl := Option.some.inj h
          exact W.lret hx hb hr (fun t ht _ => ⟨rfl, ht⟩) (fun _ h9 => absurd h9 List.not_mem_nil) dX2_geared_50
        · rw [if_neg c7] at h
          refine lv_aload_n hx hb dX2_geared_39 rfl (lv_at hl 0 rfl) ?_
          refine lv_iload_n hx hb dX2_geared_40 rfl (lv_at hl 1 rfl) ?_
          obtain ⟨r9, hcr9, h⟩ := og_bind h
          refine cp_s (va_runV (As := [.int a1]) (rest := []) ⟨hx, hb, hml, hown, hts⟩ (k_X2_canGo l D cI cF m0 m1 m2 m3 m4 m5 pt px py ro an te fx fy ar be ma nx ny a1 _ hcr9) (cwV 1 hts gX2_geared_X2_canGo rfl rfl rfl (by decide +kernel) ⟨(Nat.le_of_ble_eq_true rfl), (Nat.le_of_ble_eq_true rfl)⟩) (pre_v (q0 := 0) (ci := 2) hK hP rfl rfl) rfl rfl hl.1 rfl (lv_room (Nat.le_of_ble_eq_true rfl)) dX2_geared_41 ⟨(Nat.zero_le _), (Nat.zero_le _)⟩) ?_
          refine lv_if_ne (tgt := 51) hx hb dX2_geared_44 (by decide) (fun c9 => ?_) (fun c9 => ?_)
          · rw [if_neg c9] at h
            refine lv_aload_n hx hb dX2_geared_51 rfl (lv_at hl 0 rfl) ?_
            refine va_get (D := D) (ci := 2) (v := .int ro) (C := RX2) (T := TX2) (N := 13) hx hb hts hinX2 hown hK hP 0 rfl rfl 3 (by decide) ht3 (fun _ h9 => h9) rfl dX2_geared_52 ?_
            refine lv_i2l hx hb dX2_geared_55 rfl ?_
            refine lv_topl (fun v11 ev11 => ?_)
            have h := og_ov h ev11
            refine lv_lstore (lv' := [(4, .long v11), (0, .ref m0), (1, .int a1), (2, .int a2), (3, .int a3)]) hx hb dX2_geared_56 hl (by decide) rfl (fun ls hl => ?_)
            refine lv_aload_n hx hb dX2_geared_58 rfl (lv_at hl 1 rfl) ?_
            refine lv_iload_n hx hb dX2_geared_59 rfl (lv_at hl 2 rfl) ?_
            refine lv_aload_n hx hb dX2_geared_60 rfl (lv_at hl 1 rfl) ?_
            refine va_get (D := D) (ci := 2) (v := .ref m1) (C := RX2) (T := TX2) (N := 13) hx hb hts hinX2 hown hK hP 0 rfl rfl 0 (by decide) ht5 (fun _ h9 => h9) rfl dX2_geared_61 ?_
            refine lv_iload_n hx hb dX2_geared_64 rfl (lv_at hl 2 rfl) ?_
            obtain ⟨gi11, h⟩ := og_in h
            refine va_iald hx hb hK hP 1 0 rfl rfl gi11 dX2_geared_65 ?_
            refine lv_iconst (v := 1) hx hb dX2_geared_66 (by decide) ?_
            obtain ⟨r13, hcr13, h⟩ := og_bind h
            refine cp_s (va_runV (As := [.int a1, .int (pt a1.toNatClampNeg), .int (1 : Int32)]) (rest := []) ⟨hx, hb, hml, hown, hts⟩ (k_X2_along l D cI cF m0 m1 m2 m3 m4 m5 pt px py ro an te fx fy ar be ma nx ny a1 (pt a1.toNatClampNeg) (1 : Int32) _ hcr13) (cwV 3 hts gX2_geared_X2_along rfl rfl rfl (by decide +kernel) ⟨(Nat.le_of_ble_eq_true rfl), (Nat.le_of_ble_eq_true rfl)⟩) (pre_v (q0 := 0) (ci := 2) hK hP rfl rfl) rfl rfl hl.1 rfl (lv_room (Nat.le_of_ble_eq_true rfl)) dX2_geared_67 ⟨(Nat.zero_le _), (Nat.zero_le _)⟩) ?_
            refine lv_lstore (lv' := [(6, .long r13), (4, .long v11), (0, .ref m0), (1, .int a1), (2, .int a2), (3, .int a3)]) hx hb dX2_geared_70 hl (by decide) rfl (fun ls hl => ?_)
            refine lv_iload_n hx hb dX2_geared_72 rfl (lv_at hl 4 rfl) ?_
            refine lv_iconst (v := 1) hx hb dX2_geared_73 (by decide) ?_
            refine lv_icmp_ne (tgt := 90) hx hb dX2_geared_74 (by decide) (fun c13 => ?_) (fun c13 => ?_)
            · rw [if_neg c13] at h
              refine lv_iload_n hx hb dX2_geared_90 rfl (lv_at hl 4 rfl) ?_
              refine lv_iconst (v := 2) hx hb dX2_geared_91 (by decide) ?_
              refine lv_icmp_ne (tgt := 125) hx hb dX2_geared_92 (by decide) (fun c14 => ?_) (fun c14 => ?_)
              · rw [if_neg c14] at h
                refine lv_ldc2 hx hb hown ht6 dX2_geared_125 ?_
                refine lv_lload hx hb dX2_geared_128 (lv_at hl 0 rfl) ?_
                refine lv_lmul hx hb dX2_geared_130 ?_
                refine lv_lload hx hb dX2_geared_131 (lv_at hl 1 rfl) ?_
                refine lv_lmul hx hb dX2_geared_133 ?_
                refine lv_lload hx hb dX2_geared_134 (lv_at hl 1 rfl) ?_
                refine lv_lmul hx hb dX2_geared_136 ?_
                refine lv_ldc2 hx hb hown ht7 dX2_geared_137 ?_
                refine lv_aload_n hx hb dX2_geared_140 rfl (lv_at hl 2 rfl) ?_
                refine lv_iload_n hx hb dX2_geared_141 rfl (lv_at hl 3 rfl) ?_
                refine lv_aload_n hx hb dX2_geared_142 rfl (lv_at hl 2 rfl) ?_
                refine va_get (D := D) (ci := 2) (v := .ref m1) (C := RX2) (T := TX2) (N := 13) hx hb hts hinX2 hown hK hP 0 rfl rfl 0 (by decide) ht5 (fun _ h9 => h9) rfl dX2_geared_143 ?_
                refine lv_iload_n hx hb dX2_geared_146 rfl (lv_at hl 3 rfl) ?_
                obtain ⟨gi15, h⟩ := og_in h
                refine va_iald hx hb hK hP 1 0 rfl rfl gi15 dX2_geared_147 ?_
                refine lv_iconst (v := 3) hx hb dX2_geared_148 (by decide) ?_
                obtain ⟨r17, hcr17, h⟩ := og_bind h
                refine cp_s (va_runV (As := [.int a1, .int (pt a1.toNatClampNeg), .int (3 : Int32)]) (rest := [.long (2 : Int64), .long ((((3 : Int64) * r13) * v11) * v11)]) ⟨hx, hb, hml, hown, hts⟩ (k_X2_along l D cI cF m0 m1 m2 m3 m4 m5 pt px py ro an te fx fy ar be ma nx ny a1 (pt a1.toNatClampNeg) (3 : Int32) _ hcr17) (cwV 3 hts gX2_geared_X2_along rfl rfl rfl (by decide +kernel) ⟨(Nat.le_of_ble_eq_true rfl), (Nat.le_of_ble_eq_true rfl)⟩) (pre_v (q0 := 0) (ci := 2) hK hP rfl rfl) rfl rfl hl.1 rfl (lv_room (Nat.le_of_ble_eq_true rfl)) dX2_geared_149 ⟨(Nat.zero_le _), (Nat.zero_le _)⟩) ?_
                refine lv_lmul hx hb dX2_geared_152 ?_
                refine lv_lsub hx hb dX2_geared_153 ?_
                refine lv_ldc2 hx hb hown ht7 dX2_geared_154 ?_
                refine lv_lload hx hb dX2_geared_157 (lv_at hl 1 rfl) ?_
                refine lv_lmul hx hb dX2_geared_159 ?_
                refine lv_lload hx hb dX2_geared_160 (lv_at hl 1 rfl) ?_
                refine lv_lmul hx hb dX2_geared_162 ?_
                refine lv_lload hx hb dX2_geared_163 (lv_at hl 1 rfl) ?_
                refine lv_lmul hx hb dX2_geared_165 ?_
                refine lv_iload_n hx hb dX2_geared_166 rfl (lv_at hl 5 rfl) ?_
                obtain ⟨r18, hcr18, h⟩ := og_bind h
                refine cp_s (va_runS (As := [.long (((((3 : Int64) * r13) * v11) * v11) - ((2 : Int64) * r17)), .long ((((2 : Int64) * v11) * v11) * v11), .int a3]) (rest := []) ⟨hx, hb, hml, hown, hts⟩ (k_X2_term l (((((3 : Int64) * r13) * v11) * v11) - ((2 : Int64) * r17)) ((((2 : Int64) * v11) * v11) * v11) a3 _ hcr18) (va_cwS 3 hts gX2_geared_X2_term rfl rfl rfl (by decide +kernel) ⟨(Nat.le_of_ble_eq_true rfl), (Nat.le_of_ble_eq_true rfl)⟩) pre_s rfl rfl hl.1 rfl (lv_room (Nat.le_of_ble_eq_true rfl)) dX2_geared_167 ⟨(Nat.zero_le _), (Nat.zero_le _)⟩) ?_
                obtain rfl := Option.some.inj h
                exact W.lret hx hb hr (fun t ht _ => ⟨rfl, ht⟩) (fun _ h9 => absurd h9 List.not_mem_nil) dX2_geared_170
              · rw [if_pos c14] at h
                refine lv_ldc2 hx hb hown ht8 dX2_geared_95 ?_
                refine lv_aload_n hx hb dX2_geared_98 rfl (lv_at hl 2 rfl) ?_
                refine lv_iload_n hx hb dX2_geared_99 rfl (lv_at hl 3 rfl) ?_
                refine lv_aload_n hx hb dX2_geared_100 rfl (lv_at hl 2 rfl) ?_
                refine va_get (D := D) (ci := 2) (v := .ref m1) (C := RX2) (T := TX2) (N := 13) hx hb hts hinX2 hown hK hP 0 rfl rfl 0 (by decide) ht5 (fun _ h9 => h9) rfl dX2_geared_101 ?_
                refine lv_iload_n hx hb dX2_geared_104 rfl (lv_at hl 3 rfl) ?_
                obtain ⟨gi18, h⟩ := og_in h
                refine va_iald hx hb hK hP 1 0 rfl rfl gi18 dX2_geared_105 ?_
                refine lv_iconst (v := 2) hx hb dX2_geared_106 (by decide) ?_
                obtain ⟨r20, hcr20, h⟩ := og_bind h
                refine cp_s (va_runV (As := [.int a1, .int (pt a1.toNatClampNeg), .int (2 : Int32)]) (rest := [.long (-2 : Int64)]) ⟨hx, hb, hml, hown, hts⟩ (k_X2_along l D cI cF m0 m1 m2 m3 m4 m5 pt px py ro an te fx fy ar be ma nx ny a1 (pt a1.toNatClampNeg) (2 : Int32) _ hcr20) (cwV 3 hts gX2_geared_X2_along rfl rfl rfl (by decide +kernel) ⟨(Nat.le_of_ble_eq_true rfl), (Nat.le_of_ble_eq_true rfl)⟩) (pre_v (q0 := 0) (ci := 2) hK hP rfl rfl) rfl rfl hl.1 rfl (lv_room (Nat.le_of_ble_eq_true rfl)) dX2_geared_107 ⟨(Nat.zero_le _), (Nat.zero_le _)⟩) ?_
                refine lv_lmul hx hb dX2_geared_110 ?_
                refine lv_ldc2 hx hb hown ht6 dX2_geared_111 ?_
                refine lv_lload hx hb dX2_geared_114 (lv_at hl 1 rfl) ?_
                refine lv_lmul hx hb dX2_geared_116 ?_
                refine lv_lload hx hb dX2_geared_117 (lv_at hl 1 rfl) ?_
                refine lv_lmul hx hb dX2_geared_119 ?_
                refine lv_iload_n hx hb dX2_geared_120 rfl (lv_at hl 5 rfl) ?_
                obtain ⟨r21, hcr21, h⟩ := og_bind h
                refine cp_s (va_runS (As := [.long ((-2 : Int64) * r20), .long (((3 : Int64) * v11) * v11), .int a3]) (rest := []) ⟨hx, hb, hml, hown, hts⟩ (k_X2_term l ((-2 : Int64) * r20) (((3 : Int64) * v11) * v11) a3 _ hcr21) (va_cwS 3 hts gX2_geared_X2_term rfl rfl rfl (by decide +kernel) ⟨(Nat.le_of_ble_eq_true rfl), (Nat.le_of_ble_eq_true rfl)⟩) pre_s rfl rfl hl.1 rfl (lv_room (Nat.le_of_ble_eq_true rfl)) dX2_geared_121 ⟨(Nat.zero_le _), (Nat.zero_le _)⟩) ?_
                obtain rfl := Option.some.inj h
                exact W.lret hx hb hr (fun t ht _ => ⟨rfl, ht⟩) (fun _ h9 => absurd h9 List.not_mem_nil) dX2_geared_124
            · rw [if_pos c13] at h
              refine lv_lload hx hb dX2_geared_77 (lv_at hl 0 rfl) ?_
              refine lv_ldc2 hx hb hown ht7 dX2_geared_79 ?_
              refine lv_lload hx hb dX2_geared_82 (lv_at hl 1 rfl) ?_
              refine lv_lmul hx hb dX2_geared_84 ?_
              refine lv_iload_n hx hb dX2_geared_85 rfl (lv_at hl 5 rfl) ?_
              obtain ⟨r22, hcr22, h⟩ := og_bind h
              refine cp_s (va_runS (As := [.long r13, .long ((2 : Int64) * v11), .int a3]) (rest := []) ⟨hx, hb, hml, hown, hts⟩ (k_X2_term l r13 ((2 : Int64) * v11) a3 _ hcr22) (va_cwS 3 hts gX2_geared_X2_term rfl rfl rfl (by decide +kernel) ⟨(Nat.le_of_ble_eq_true rfl), (Nat.le_of_ble_eq_true rfl)⟩) pre_s rfl rfl hl.1 rfl (lv_room (Nat.le_of_ble_eq_true rfl)) dX2_geared_86 ⟨(Nat.zero_le _), (Nat.zero_le _)⟩) ?_
              obtain rfl := Option.some.inj h
              exact W.lret hx hb hr (fun t ht _ => ⟨rfl, ht⟩) (fun _ h9 => absurd h9 List.not_mem_nil) dX2_geared_89
          · rw [if_pos c9] at h
            refine lv_ldc2 hx hb hown ht2 dX2_geared_47 ?_
            obtain rfl := Option.some.inj h
            exact W.lret hx hb hr (fun t ht _ => ⟨rfl, ht⟩) (fun _ h9 => absurd h9 List.not_mem_nil) dX2_geared_50
      · rw [if_pos c5] at h
        refine lv_ldc2 hx hb hown ht1 dX2_geared_27 ?_
        obtain rfl := Option.some.inj h
        exact W.lret hx hb hr (fun t ht _ => ⟨rfl, ht⟩) (fun _ h9 => absurd h9 List.not_mem_nil) dX2_geared_30
  · rw [if_pos c1] at h
    refine lv_ldc2 hx hb hown ht9 dX2_geared_7 ?_
    obtain rfl := Option.some.inj h
    exact W.lret hx hb hr (fun t ht _ => ⟨rfl, ht⟩) (fun _ h9 => absurd h9 List.not_mem_nil) dX2_geared_10
def f_X2_moment (pt : Nat → Int32) (px : Nat → Int32) (py : Nat → Int32) (a1 : Int32) (a2 : Int32) (a3 : Int32) : Option Int64 :=
  (f_X2_isFigure a1).bind fun r1 =>
  if r1 = (0) then
  (some (-1000000000000000001 : Int64))
  else
  ((f_X2_in a2 (0 : Int32) (2 : Int32)).bind fun r3 =>
  if r3 = (0) then
  (some (-1000000000000000002 : Int64))
  else
  ((f_X2_isPart a3).bind fun r5 =>
  if r5 = (0) then
  (some (-1000000000000000002 : Int64))
  else
  ((f_X2_isClosed pt a1).bind fun r7 =>
  if r7 = (0) then
  (some (-1000000000000000003 : Int64))
  else
  (if bin a1 6 = true then
  (f_X2_along pt px py a1 (pt a1.toNatClampNeg) (a2 + (1 : Int32))).bind fun r10 =>
  (f_X2_term (-r10) (((a2.toInt64) + (1 : Int64)) * ((a2.toInt64) + (2 : Int64))) a3).bind fun r11 =>
  some r11
  else none))))
set_option maxHeartbeats 4000000 in
set_option maxRecDepth 100000 in
theorem k_X2_moment (l : Launch) (D : va_G) (cI cF : ClassId) (m0 : Nat) (m1 : Nat) (m2 : Nat) (m3 : Nat) (m4 : Nat) (m5 : Nat) (pt : Nat → Int32) (px : Nat → Int32) (py : Nat → Int32) (ro : Int32) (an : Int32) (te : Int32) (fx : Int32) (fy : Int32) (ar : Int32) (be : Int32) (ma : Int32) (nx : Nat → Int32) (ny : Nat → Int32) (a1 : Int32) (a2 : Int32) (a3 : Int32) (r0 : Int64) (h : f_X2_moment pt px py a1 a2 a3 = some r0) : Met l yX2_moment wsX2_moment ({ frames := 2, cells := 0, slots := 0, locals := 56 }) (va_Pc [.ref m0, .int a1, .int a2, .int a3] (fun U => wK D cI cF (moW cI m0 m1 m2 m3 m4 m5 pt px py ro an te fx fy ar be ma nx ny) U)) (qS (.long r0)) 0 0 (fun _ => False) := by
  refine Met.ofW (cc := cX2_moment) (maxL := 4) (ret := (some .long)) (by decide) rfl ?_
  intro p e s m args below meth c s₁ B hml hv
  obtain ⟨rfl, hK, hP⟩ := hv
  have hx := B.exec
  have hb := B.bytes
  have hr := B.returns
  have hts := atoms_spec (ws := wsX2_moment) B.pre
  have hown : s.vm.findClass RX2 = some m.cls := findClass_of_methodNamed B.named
  have hlocks := B.notSynchronized
  have ht1 := hts (.constantLong RX2 111 (-1000000000000000002)) (by decide +kernel)
  have ht2 := hts (.fieldLink RX2 7 "DrawnAreasModel" "points" "[I") (by decide +kernel)
  have hinX2 : ∀ w ∈ u_ws RX2 TX2 13, w ∈ wsX2_moment := by decide +kernel
  have ht4 := hts (.constantLong RX2 120 (2)) (by decide +kernel)
  have ht5 := hts (.constantLong RX2 80 (-1000000000000000003)) (by decide +kernel)
  have ht6 := hts (.constantLong RX2 71 (-1000000000000000001)) (by decide +kernel)
  have hl := lv_entry ([.ref m0, .int a1, .int a2, .int a3]) (n := 4) (Nat.le_of_ble_eq_true rfl)
  rw [lg_entry_eq]
  generalize (lg_sl ([.ref m0, .int a1, .int a2, .int a3]) ++ List.replicate (4 - (lg_sl ([.ref m0, .int a1, .int a2, .int a3])).length) Slot.unset).toArray = ls at hl ⊢
  have hl : lv_has ls 4 [(0, .ref m0), (1, .int a1), (2, .int a2), (3, .int a3)] := hl
  unfold f_X2_moment at h
  refine lv_iload_n hx hb dX2_moment_0 rfl (lv_at hl 1 rfl) ?_
  obtain ⟨r1, hcr1, h⟩ := og_bind h
  refine cp_s (va_runS (As := [.int a1]) (rest := []) ⟨hx, hb, hml, hown, hts⟩ (k_X2_isFigure l a1 _ hcr1) (va_cwS 1 hts gX2_moment_X2_isFigure rfl rfl rfl (by decide +kernel) ⟨(Nat.le_of_ble_eq_true rfl), (Nat.le_of_ble_eq_true rfl)⟩) pre_s rfl rfl hl.1 rfl (lv_room (Nat.le_of_ble_eq_true rfl)) dX2_moment_1 ⟨(Nat.zero_le _), (Nat.zero_le _)⟩) ?_
  refine lv_if_ne (tgt := 11) hx hb dX2_moment_4 (by decide) (fun c1 => ?_) (fun c1 => ?_)
  · rw [if_neg c1] at h
    refine lv_iload_n hx hb dX2_moment_11 rfl (lv_at hl 2 rfl) ?_
    refine lv_iconst (v := 0) hx hb dX2_moment_12 (by decide) ?_
    refine lv_iconst (v := 2) hx hb dX2_moment_13 (by decide) ?_
    obtain ⟨r3, hcr3, h⟩ := og_bind h
    refine cp_s (va_runS (As := [.int a2, .int (0 : Int32), .int (2 : Int32)]) (rest := []) ⟨hx, hb, hml, hown, hts⟩ (k_X2_in l a2 (0 : Int32) (2 : Int32) _ hcr3) (va_cwS 3 hts gX2_moment_X2_in rfl rfl rfl (by decide +kernel) ⟨(Nat.le_of_ble_eq_true rfl), (Nat.le_of_ble_eq_true rfl)⟩) pre_s rfl rfl hl.1 rfl (lv_room (Nat.le_of_ble_eq_true rfl)) dX2_moment_14 ⟨(Nat.zero_le _), (Nat.zero_le _)⟩) ?_
    refine lv_if_eq (tgt := 27) hx hb dX2_moment_17 (by decide) (fun c3 => ?_) (fun c3 => ?_)
    · rw [if_pos c3] at h
      refine lv_ldc2 hx hb hown ht1 dX2_moment_27 ?_
      obtain rfl := Option.some.inj h
      exact W.lret hx hb hr (fun t ht _ => ⟨rfl, ht⟩) (fun _ h9 => absurd h9 List.not_mem_nil) dX2_moment_30
    · rw [if_neg c3] at h
      refine lv_iload_n hx hb dX2_moment_20 rfl (lv_at hl 3 rfl) ?_
      obtain ⟨r5, hcr5, h⟩ := og_bind h
      refine cp_s (va_runS (As := [.int a3]) (rest := []) ⟨hx, hb, hml, hown, hts⟩ (k_X2_isPart l a3 _ hcr5) (va_cwS 1 hts gX2_moment_X2_isPart rfl rfl rfl (by decide +kernel) ⟨(Nat.le_of_ble_eq_true rfl), (Nat.le_of_ble_eq_true rfl)⟩) pre_s rfl rfl hl.1 rfl (lv_room (Nat.le_of_ble_eq_true rfl)) dX2_moment_21 ⟨(Nat.zero_le _), (Nat.zero_le _)⟩) ?_
      refine lv_if_ne (tgt := 31) hx hb dX2_moment_24 (by decide) (fun c5 => ?_) (fun c5 => ?_)
      · rw [if_neg c5] at h
        refine lv_aload_n hx hb dX2_moment_31 rfl (lv_at hl 0 rfl) ?_
        refine lv_iload_n hx hb dX2_moment_32 rfl (lv_at hl 1 rfl) ?_
        obtain ⟨r7, hcr7, h⟩ := og_bind h
        refine cp_s (va_runV (As := [.int a1]) (rest := []) ⟨hx, hb, hml, hown, hts⟩ (k_X2_isClosed l D cI cF m0 m1 m2 m3 m4 m5 pt px py ro an te fx fy ar be ma nx ny a1 _ hcr7) (cwV 1 hts gX2_moment_X2_isClosed rfl rfl rfl (by decide +kernel) ⟨(Nat.le_of_ble_eq_true rfl), (Nat.le_of_ble_eq_true rfl)⟩) (pre_v (q0 := 0) (ci := 2) hK hP rfl rfl) rfl rfl hl.1 rfl (lv_room (Nat.le_of_ble_eq_true rfl)) dX2_moment_33 ⟨(Nat.zero_le _), (Nat.zero_le _)⟩) ?_
        refine lv_if_ne (tgt := 43) hx hb dX2_moment_36 (by decide) (fun c7 => ?_) (fun c7 => ?_)
        · rw [if_neg c7] at h
          refine lv_aload_n hx hb dX2_moment_43 rfl (lv_at hl 0 rfl) ?_
          refine lv_iload_n hx hb dX2_moment_44 rfl (lv_at hl 1 rfl) ?_
          refine lv_aload_n hx hb dX2_moment_45 rfl (lv_at hl 0 rfl) ?_
          refine va_get (D := D) (ci := 2) (v := .ref m1) (C := RX2) (T := TX2) (N := 13) hx hb hts hinX2 hown hK hP 0 rfl rfl 0 (by decide) ht2 (fun _ h9 => h9) rfl dX2_moment_46 ?_
          refine lv_iload_n hx hb dX2_moment_49 rfl (lv_at hl 1 rfl) ?_
          obtain ⟨gi8, h⟩ := og_in h
          refine va_iald hx hb hK hP 1 0 rfl rfl gi8 dX2_moment_50 ?_
          refine lv_iload_n hx hb dX2_moment_51 rfl (lv_at hl 2 rfl) ?_
          refine lv_iconst (v := 1) hx hb dX2_moment_52 (by decide) ?_
          refine lv_iadd hx hb dX2_moment_53 ?_
          obtain ⟨r10, hcr10, h⟩ := og_bind h
          refine cp_s (va_runV (As := [.int a1, .int (pt a1.toNatClampNeg), .int (a2 + (1 : Int32))]) (rest := []) ⟨hx, hb, hml, hown, hts⟩ (k_X2_along l D cI cF m0 m1 m2 m3 m4 m5 pt px py ro an te fx fy ar be ma nx ny a1 (pt a1.toNatClampNeg) (a2 + (1 : Int32)) _ hcr10) (cwV 3 hts gX2_moment_X2_along rfl rfl rfl (by decide +kernel) ⟨(Nat.le_of_ble_eq_true rfl), (Nat.le_of_ble_eq_true rfl)⟩) (pre_v (q0 := 0) (ci := 2) hK hP rfl rfl) rfl rfl hl.1 rfl (lv_room (Nat.le_of_ble_eq_true rfl)) dX2_moment_54 ⟨(Nat.zero_le _), (Nat.zero_le _)⟩) ?_
          refine lv_lneg hx hb dX2_moment_57 ?_
          refine lv_iload_n hx hb dX2_moment_58 rfl (lv_at hl 2 rfl) ?_
          refine lv_i2l hx hb dX2_moment_59 rfl ?_
          refine lv_lconst (v := 1) hx hb dX2_moment_60 (by decide) ?_
          refine lv_ladd hx hb dX2_moment_61 ?_
          refine lv_iload_n hx hb dX2_moment_62 rfl (lv_at hl 2 rfl) ?_
          refine lv_i2l hx hb dX2_moment_63 rfl ?_
          refine lv_ldc2 hx hb hown ht4 dX2_moment_64 ?_
          refine lv_ladd hx hb dX2_moment_67 ?_
          refine lv_lmul hx hb dX2_moment_68 ?_
          refine lv_iload_n hx hb dX2_moment_69 rfl (lv_at hl 3 rfl) ?_
          obtain ⟨r11, hcr11, h⟩ := og_bind h
          refine cp_s (va_runS (As := [.long (-r10), .long (((a2.toInt64) + (1 : Int64)) * ((a2.toInt64) + (2 : Int64))), .int a3]) (rest := []) ⟨hx, hb, hml, hown, hts⟩ (k_X2_term l (-r10) (((a2.toInt64) + (1 : Int64)) * ((a2.toInt64) + (2 : Int64))) a3 _ hcr11) (va_cwS 3 hts gX2_moment_X2_term rfl rfl rfl (by decide +kernel) ⟨(Nat.le_of_ble_eq_true rfl), (Nat.le_of_ble_eq_true rfl)⟩) pre_s rfl rfl hl.1 rfl (lv_room (Nat.le_of_ble_eq_true rfl)) dX2_moment_70 ⟨(Nat.zero_le _), (Nat.zero_le _)⟩) ?_
          obtain rfl := Option.some.inj h
          exact W.lret hx hb hr (fun t ht _ => ⟨rfl, ht⟩) (fun _ h9 => absurd h9 List.not_mem_nil) dX2_moment_73
        · rw [if_pos c7] at h
          refine lv_ldc2 hx hb hown ht5 dX2_moment_39 ?_
          obtain rfl := Option.some.inj h
          exact W.lret hx hb hr (fun t ht _ => ⟨rfl, ht⟩) (fun _ h9 => absurd h9 List.not_mem_nil) dX2_moment_42
      · rw [if_pos c5] at h
        refine lv_ldc2 hx hb hown ht1 dX2_moment_27 ?_
        obtain rfl := Option.some.inj h
        exact W.lret hx hb hr (fun t ht _ => ⟨rfl, ht⟩) (fun _ h9 => absurd h9 List.not_mem_nil) dX2_moment_30
  · rw [if_pos c1] at h
    refine lv_ldc2 hx hb hown ht6 dX2_moment_7 ?_
    obtain rfl := Option.some.inj h
    exact W.lret hx hb hr (fun t ht _ => ⟨rfl, ht⟩) (fun _ h9 => absurd h9 List.not_mem_nil) dX2_moment_10
def f_X2_ring (ro : Int32) (fx : Int32) (fy : Int32) (ar : Int32) (pt : Nat → Int32) (px : Nat → Int32) (py : Nat → Int32) (be : Int32) (a1 : Int32) (a2 : Int32) : Option Int64 :=
  (f_X2_isFigure a1).bind fun r1 =>
  if r1 = (0) then
  (some (-1000000000000000001 : Int64))
  else
  ((f_X2_in a2 (0 : Int32) (1 : Int32)).bind fun r3 =>
  if r3 = (0) then
  (some (-1000000000000000002 : Int64))
  else
  ((f_X2_isClosed pt a1).bind fun r5 =>
  if r5 = (0) then
  (some (-1000000000000000003 : Int64))
  else
  ((f_X2_windsOf pt px py a1 fx fy).bind fun r7 =>
  if r7 = (-1006 : Int32) then
  (some (-1000000000000000005 : Int64))
  else
  (if a2 = (1 : Int32) then
  (some (r7.toInt64))
  else
  (some ((((ar.toInt64) * (ar.toInt64)) + ((ro.toInt64) * (ro.toInt64))) + (((2 : Int64) * (be.toInt64)) * (ro.toInt64))))))))
set_option maxHeartbeats 4000000 in
set_option maxRecDepth 100000 in
theorem k_X2_ring (l : Launch) (D : va_G) (cI cF : ClassId) (m0 : Nat) (m1 : Nat) (m2 : Nat) (m3 : Nat) (m4 : Nat) (m5 : Nat) (pt : Nat → Int32) (px : Nat → Int32) (py : Nat → Int32) (ro : Int32) (an : Int32) (te : Int32) (fx : Int32) (fy : Int32) (ar : Int32) (be : Int32) (ma : Int32) (nx : Nat → Int32) (ny : Nat → Int32) (a1 : Int32) (a2 : Int32) (r0 : Int64) (h : f_X2_ring ro fx fy ar pt px py be a1 a2 = some r0) : Met l yX2_ring wsX2_ring ({ frames := 3, cells := 0, slots := 0, locals := 83 }) (va_Pc [.ref m0, .int a1, .int a2] (fun U => wK D cI cF (moW cI m0 m1 m2 m3 m4 m5 pt px py ro an te fx fy ar be ma nx ny) U)) (qS (.long r0)) 0 0 (fun _ => False) := by
  refine Met.ofW (cc := cX2_ring) (maxL := 4) (ret := (some .long)) (by decide) rfl ?_
  intro p e s m args below meth c s₁ B hml hv
  obtain ⟨rfl, hK, hP⟩ := hv
  have hx := B.exec
  have hb := B.bytes
  have hr := B.returns
  have hts := atoms_spec (ws := wsX2_ring) B.pre
  have hown : s.vm.findClass RX2 = some m.cls := findClass_of_methodNamed B.named
  have hlocks := B.notSynchronized
  have ht1 := hts (.fieldLink RX2 148 "DrawnAreasModel" "footX" "I") (by decide +kernel)
  have hinX2 : ∀ w ∈ u_ws RX2 TX2 13, w ∈ wsX2_ring := by decide +kernel
  have ht3 := hts (.fieldLink RX2 151 "DrawnAreasModel" "footY" "I") (by decide +kernel)
  have ht4 := hts (.fieldLink RX2 29 "DrawnAreasModel" "arm" "I") (by decide +kernel)
  have ht5 := hts (.fieldLink RX2 19 "DrawnAreasModel" "rod" "I") (by decide +kernel)
  have ht6 := hts (.constantLong RX2 120 (2)) (by decide +kernel)
  have ht7 := hts (.fieldLink RX2 154 "DrawnAreasModel" "beyond" "I") (by decide +kernel)
  have ht8 := hts (.constantLong RX2 157 (-1000000000000000005)) (by decide +kernel)
  have ht9 := hts (.constantLong RX2 80 (-1000000000000000003)) (by decide +kernel)
  have ht10 := hts (.constantLong RX2 111 (-1000000000000000002)) (by decide +kernel)
  have ht11 := hts (.constantLong RX2 71 (-1000000000000000001)) (by decide +kernel)
  have hl := lv_entry ([.ref m0, .int a1, .int a2]) (n := 4) (Nat.le_of_ble_eq_true rfl)
  rw [lg_entry_eq]
  generalize (lg_sl ([.ref m0, .int a1, .int a2]) ++ List.replicate (4 - (lg_sl ([.ref m0, .int a1, .int a2])).length) Slot.unset).toArray = ls at hl ⊢
  have hl : lv_has ls 4 [(0, .ref m0), (1, .int a1), (2, .int a2)] := hl
  unfold f_X2_ring at h
  refine lv_iload_n hx hb dX2_ring_0 rfl (lv_at hl 1 rfl) ?_
  obtain ⟨r1, hcr1, h⟩ := og_bind h
  refine cp_s (va_runS (As := [.int a1]) (rest := []) ⟨hx, hb, hml, hown, hts⟩ (k_X2_isFigure l a1 _ hcr1) (va_cwS 1 hts gX2_ring_X2_isFigure rfl rfl rfl (by decide +kernel) ⟨(Nat.le_of_ble_eq_true rfl), (Nat.le_of_ble_eq_true rfl)⟩) pre_s rfl rfl hl.1 rfl (lv_room (Nat.le_of_ble_eq_true rfl)) dX2_ring_1 ⟨(Nat.zero_le _), (Nat.zero_le _)⟩) ?_
  refine lv_if_ne (tgt := 11) hx hb dX2_ring_4 (by decide) (fun c1 => ?_) (fun c1 => ?_)
  · rw [if_neg c1] at h
    refine lv_iload_n hx hb dX2_ring_11 rfl (lv_at hl 2 rfl) ?_
    refine lv_iconst (v := 0) hx hb dX2_ring_12 (by decide) ?_
    refine lv_iconst (v := 1) hx hb dX2_ring_13 (by decide) ?_
    obtain ⟨r3, hcr3, h⟩ := og_bind h
    refine cp_s (va_runS (As := [.int a2, .int (0 : Int32), .int (1 : Int32)]) (rest := []) ⟨hx, hb, hml, hown, hts⟩ (k_X2_in l a2 (0 : Int32) (1 : Int32) _ hcr3) (va_cwS 3 hts gX2_ring_X2_in rfl rfl rfl (by decide +kernel) ⟨(Nat.le_of_ble_eq_true rfl), (Nat.le_of_ble_eq_true rfl)⟩) pre_s rfl rfl hl.1 rfl (lv_room (Nat.le_of_ble_eq_true rfl)) dX2_ring_14 ⟨(Nat.zero_le _), (Nat.zero_le _)⟩) ?_
    refine lv_if_ne (tgt := 24) hx hb dX2_ring_17 (by decide) (fun c3 => ?_) (fun c3 => ?_)
    · rw [if_neg c3] at h
      refine lv_aload_n hx hb dX2_ring_24 rfl (lv_at hl 0 rfl) ?_
      refine lv_iload_n hx hb dX2_ring_25 rfl (lv_at hl 1 rfl) ?_
      obtain ⟨r5, hcr5, h⟩ := og_bind h
      refine cp_s (va_runV (As := [.int a1]) (rest := []) ⟨hx, hb, hml, hown, hts⟩ (k_X2_isClosed l D cI cF m0 m1 m2 m3 m4 m5 pt px py ro an te fx fy ar be ma nx ny a1 _ hcr5) (cwV 1 hts gX2_ring_X2_isClosed rfl rfl rfl (by decide +kernel) ⟨(Nat.le_of_ble_eq_true rfl), (Nat.le_of_ble_eq_true rfl)⟩) (pre_v (q0 := 0) (ci := 2) hK hP rfl rfl) rfl rfl hl.1 rfl (lv_room (Nat.le_of_ble_eq_true rfl)) dX2_ring_26 ⟨(Nat.zero_le _), (Nat.zero_le _)⟩) ?_
      refine lv_if_ne (tgt := 36) hx hb dX2_ring_29 (by decide) (fun c5 => ?_) (fun c5 => ?_)
      · rw [if_neg c5] at h
        refine lv_aload_n hx hb dX2_ring_36 rfl (lv_at hl 0 rfl) ?_
        refine lv_iload_n hx hb dX2_ring_37 rfl (lv_at hl 1 rfl) ?_
        refine lv_aload_n hx hb dX2_ring_38 rfl (lv_at hl 0 rfl) ?_
        refine va_get (D := D) (ci := 2) (v := .int fx) (C := RX2) (T := TX2) (N := 13) hx hb hts hinX2 hown hK hP 0 rfl rfl 6 (by decide) ht1 (fun _ h9 => h9) rfl dX2_ring_39 ?_
        refine lv_aload_n hx hb dX2_ring_42 rfl (lv_at hl 0 rfl) ?_
        refine va_get (D := D) (ci := 2) (v := .int fy) (C := RX2) (T := TX2) (N := 13) hx hb hts hinX2 hown hK hP 0 rfl rfl 7 (by decide) ht3 (fun _ h9 => h9) rfl dX2_ring_43 ?_
        obtain ⟨r7, hcr7, h⟩ := og_bind h
        refine cp_s (va_runV (As := [.int a1, .int fx, .int fy]) (rest := []) ⟨hx, hb, hml, hown, hts⟩ (k_X2_windsOf l D cI cF m0 m1 m2 m3 m4 m5 pt px py ro an te fx fy ar be ma nx ny a1 fx fy _ hcr7) (cwV 3 hts gX2_ring_X2_windsOf rfl rfl rfl (by decide +kernel) ⟨(Nat.le_of_ble_eq_true rfl), (Nat.le_of_ble_eq_true rfl)⟩) (pre_v (q0 := 0) (ci := 2) hK hP rfl rfl) rfl rfl hl.1 rfl (lv_room (Nat.le_of_ble_eq_true rfl)) dX2_ring_46 ⟨(Nat.zero_le _), (Nat.zero_le _)⟩) ?_
        refine lv_istore_n (lv' := [(3, .int r7), (0, .ref m0), (1, .int a1), (2, .int a2)]) hx hb dX2_ring_49 rfl hl (by decide) rfl (fun ls hl => ?_)
        refine lv_iload_n hx hb dX2_ring_50 rfl (lv_at hl 0 rfl) ?_
        refine lv_sipush (v := -1006) hx hb dX2_ring_51 (by decide) ?_
        refine lv_icmp_ne (tgt := 61) hx hb dX2_ring_54 (by decide) (fun c7 => ?_) (fun c7 => ?_)
        · rw [if_neg c7] at h
          refine lv_iload_n hx hb dX2_ring_61 rfl (lv_at hl 3 rfl) ?_
          refine lv_iconst (v := 1) hx hb dX2_ring_62 (by decide) ?_
          refine lv_icmp_ne (tgt := 71) hx hb dX2_ring_63 (by decide) (fun c8 => ?_) (fun c8 => ?_)
          · rw [if_neg c8] at h
            refine lv_aload_n hx hb dX2_ring_71 rfl (lv_at hl 1 rfl) ?_
            refine va_get (D := D) (ci := 2) (v := .int ar) (C := RX2) (T := TX2) (N := 13) hx hb hts hinX2 hown hK hP 0 rfl rfl 8 (by decide) ht4 (fun _ h9 => h9) rfl dX2_ring_72 ?_
            refine lv_i2l hx hb dX2_ring_75 rfl ?_
            refine lv_aload_n hx hb dX2_ring_76 rfl (lv_at hl 1 rfl) ?_
            refine va_get (D := D) (ci := 2) (v := .int ar) (C := RX2) (T := TX2) (N := 13) hx hb hts hinX2 hown hK hP 0 rfl rfl 8 (by decide) ht4 (fun _ h9 => h9) rfl dX2_ring_77 ?_
            refine lv_i2l hx hb dX2_ring_80 rfl ?_
            refine lv_lmul hx hb dX2_ring_81 ?_
            refine lv_aload_n hx hb dX2_ring_82 rfl (lv_at hl 1 rfl) ?_
            refine va_get (D := D) (ci := 2) (v := .int ro) (C := RX2) (T := TX2) (N := 13) hx hb hts hinX2 hown hK hP 0 rfl rfl 3 (by decide) ht5 (fun _ h9 => h9) rfl dX2_ring_83 ?_
            refine lv_i2l hx hb dX2_ring_86 rfl ?_
            refine lv_aload_n hx hb dX2_ring_87 rfl (lv_at hl 1 rfl) ?_
            refine va_get (D := D) (ci := 2) (v := .int ro) (C := RX2) (T := TX2) (N := 13) hx hb hts hinX2 hown hK hP 0 rfl rfl 3 (by decide) ht5 (fun _ h9 => h9) rfl dX2_ring_88 ?_
            refine lv_i2l hx hb dX2_ring_91 rfl ?_
            refine lv_lmul hx hb dX2_ring_92 ?_
            refine lv_ladd hx hb dX2_ring_93 ?_
            refine lv_ldc2 hx hb hown ht6 dX2_ring_94 ?_
            refine lv_aload_n hx hb dX2_ring_97 rfl (lv_at hl 1 rfl) ?_
            refine va_get (D := D) (ci := 2) (v := .int be) (C := RX2) (T := TX2) (N := 13) hx hb hts hinX2 hown hK hP 0 rfl rfl 9 (by decide) ht7 (fun _ h9 => h9) rfl dX2_ring_98 ?_
            refine lv_i2l hx hb dX2_ring_101 rfl ?_
            refine lv_lmul hx hb dX2_ring_102 ?_
            refine lv_aload_n hx hb dX2_ring_103 rfl (lv_at hl 1 rfl) ?_
            refine va_get (D := D) (ci := 2) (v := .int ro) (C := RX2) (T := TX2) (N := 13) hx hb hts hinX2 hown hK hP 0 rfl rfl 3 (by decide) ht5 (fun _ h9 => h9) rfl dX2_ring_104 ?_
            refine lv_i2l hx hb dX2_ring_107 rfl ?_
            refine lv_lmul hx hb dX2_ring_108 ?_
            refine lv_ladd hx hb dX2_ring_109 ?_
            obtain rfl := Option.some.inj h
            exact W.lret hx hb hr (fun t ht _ => ⟨rfl, ht⟩) (fun _ h9 => absurd h9 List.not_mem_nil) dX2_ring_110
          · rw [if_pos c8] at h
            refine lv_iload_n hx hb dX2_ring_66 rfl (lv_at hl 0 rfl) ?_
            refine lv_i2l hx hb dX2_ring_67 rfl ?_
            refine lv_goto (tgt := 110) hx hb dX2_ring_68 (by decide) ?_
            obtain rfl := Option.some.inj h
            exact W.lret hx hb hr (fun t ht _ => ⟨rfl, ht⟩) (fun _ h9 => absurd h9 List.not_mem_nil) dX2_ring_110
        · rw [if_pos c7] at h
          refine lv_ldc2 hx hb hown ht8 dX2_ring_57 ?_
          obtain rfl := Option.some.inj h
          exact W.lret hx hb hr (fun t ht _ => ⟨rfl, ht⟩) (fun _ h9 => absurd h9 List.not_mem_nil) dX2_ring_60
      · rw [if_pos c5] at h
        refine lv_ldc2 hx hb hown ht9 dX2_ring_32 ?_
        obtain rfl := Option.some.inj h
        exact W.lret hx hb hr (fun t ht _ => ⟨rfl, ht⟩) (fun _ h9 => absurd h9 List.not_mem_nil) dX2_ring_35
    · rw [if_pos c3] at h
      refine lv_ldc2 hx hb hown ht10 dX2_ring_20 ?_
      obtain rfl := Option.some.inj h
      exact W.lret hx hb hr (fun t ht _ => ⟨rfl, ht⟩) (fun _ h9 => absurd h9 List.not_mem_nil) dX2_ring_23
  · rw [if_pos c1] at h
    refine lv_ldc2 hx hb hown ht11 dX2_ring_7 ?_
    obtain rfl := Option.some.inj h
    exact W.lret hx hb hr (fun t ht _ => ⟨rfl, ht⟩) (fun _ h9 => absurd h9 List.not_mem_nil) dX2_ring_10
def f_X2_touches (fx : Int32) (fy : Int32) (pt : Nat → Int32) (px : Nat → Int32) (py : Nat → Int32) (a1 : Int32) (a2 : Int32) (a3 : Int64) : Option Int32 :=
  (f_X2_x pt px a1 (a2 + (1 : Int32))).bind fun r1 =>
  (f_X2_x pt px a1 a2).bind fun r2 =>
  ov ((r1 - r2).toInt64) fun v3 =>
  (f_X2_y pt py a1 (a2 + (1 : Int32))).bind fun r4 =>
  (f_X2_y pt py a1 a2).bind fun r5 =>
  ov ((r4 - r5).toInt64) fun v6 =>
  (f_X2_x pt px a1 a2).bind fun r7 =>
  ov ((fx - r7).toInt64) fun v8 =>
  (f_X2_y pt py a1 a2).bind fun r9 =>
  ov ((fy - r9).toInt64) fun v10 =>
  ov ((v8 * v3) + (v10 * v6)) fun v11 =>
  ov ((v3 * v3) + (v6 * v6)) fun v12 =>
  ov ((v8 * v6) - (v10 * v3)) fun v13 =>
  if (lg_cmp v11 (0 : Int64)) ≤ (0) then
  (some (0 : Int32))
  else
  (if (0) ≤ (lg_cmp v11 v12) then
  (some (0 : Int32))
  else
  (if (0) < (lg_cmp (v13 * v13) ((a3 * a3) * v12)) then
  (some (0 : Int32))
  else
  (some (1 : Int32))))
set_option maxHeartbeats 4000000 in
set_option maxRecDepth 100000 in
theorem k_X2_touches (l : Launch) (D : va_G) (cI cF : ClassId) (m0 : Nat) (m1 : Nat) (m2 : Nat) (m3 : Nat) (m4 : Nat) (m5 : Nat) (pt : Nat → Int32) (px : Nat → Int32) (py : Nat → Int32) (ro : Int32) (an : Int32) (te : Int32) (fx : Int32) (fy : Int32) (ar : Int32) (be : Int32) (ma : Int32) (nx : Nat → Int32) (ny : Nat → Int32) (a1 : Int32) (a2 : Int32) (a3 : Int64) (r0 : Int32) (h : f_X2_touches fx fy pt px py a1 a2 a3 = some r0) : Met l yX2_touches wsX2_touches ({ frames := 1, cells := 0, slots := 0, locals := 22 }) (va_Pc [.ref m0, .int a1, .int a2, .long a3] (fun U => wK D cI cF (moW cI m0 m1 m2 m3 m4 m5 pt px py ro an te fx fy ar be ma nx ny) U)) (qS (.int r0)) 0 0 (fun _ => False) := by
  refine Met.ofW (cc := cX2_touches) (maxL := 19) (ret := (some .boolean)) (by decide) rfl ?_
  intro p e s m args below meth c s₁ B hml hv
  obtain ⟨rfl, hK, hP⟩ := hv
  have hx := B.exec
  have hb := B.bytes
  have hr := B.returns
  have hts := atoms_spec (ws := wsX2_touches) B.pre
  have hown : s.vm.findClass RX2 = some m.cls := findClass_of_methodNamed B.named
  have hlocks := B.notSynchronized
  have ht1 := hts (.fieldLink RX2 148 "DrawnAreasModel" "footX" "I") (by decide +kernel)
  have hinX2 : ∀ w ∈ u_ws RX2 TX2 13, w ∈ wsX2_touches := by decide +kernel
  have ht3 := hts (.fieldLink RX2 151 "DrawnAreasModel" "footY" "I") (by decide +kernel)
  have hl := lv_entry ([.ref m0, .int a1, .int a2, .long a3]) (n := 19) (Nat.le_of_ble_eq_true rfl)
  rw [lg_entry_eq]
  generalize (lg_sl ([.ref m0, .int a1, .int a2, .long a3]) ++ List.replicate (19 - (lg_sl ([.ref m0, .int a1, .int a2, .long a3])).length) Slot.unset).toArray = ls at hl ⊢
  have hl : lv_has ls 19 [(0, .ref m0), (1, .int a1), (2, .int a2), (3, .long a3)] := hl
  unfold f_X2_touches at h
  refine lv_aload_n hx hb dX2_touches_0 rfl (lv_at hl 0 rfl) ?_
  refine lv_iload_n hx hb dX2_touches_1 rfl (lv_at hl 1 rfl) ?_
  refine lv_iload_n hx hb dX2_touches_2 rfl (lv_at hl 2 rfl) ?_
  refine lv_iconst (v := 1) hx hb dX2_touches_3 (by decide) ?_
  refine lv_iadd hx hb dX2_touches_4 ?_
  obtain ⟨r1, hcr1, h⟩ := og_bind h
  refine cp_s (va_runV (As := [.int a1, .int (a2 + (1 : Int32))]) (rest := []) ⟨hx, hb, hml, hown, hts⟩ (k_X2_x l D cI cF m0 m1 m2 m3 m4 m5 pt px py ro an te fx fy ar be ma nx ny a1 (a2 + (1 : Int32)) _ hcr1) (cwV 2 hts gX2_touches_X2_x rfl rfl rfl (by decide +kernel) ⟨(Nat.le_of_ble_eq_true rfl), (Nat.le_of_ble_eq_true rfl)⟩) (pre_v (q0 := 0) (ci := 2) hK hP rfl rfl) rfl rfl hl.1 rfl (lv_room (Nat.le_of_ble_eq_true rfl)) dX2_touches_5 ⟨(Nat.zero_le _), (Nat.zero_le _)⟩) ?_
  refine lv_aload_n hx hb dX2_touches_8 rfl (lv_at hl 0 rfl) ?_
  refine lv_iload_n hx hb dX2_touches_9 rfl (lv_at hl 1 rfl) ?_
  refine lv_iload_n hx hb dX2_touches_10 rfl (lv_at hl 2 rfl) ?_
  obtain ⟨r2, hcr2, h⟩ := og_bind h
  refine cp_s (va_runV (As := [.int a1, .int a2]) (rest := [.int r1]) ⟨hx, hb, hml, hown, hts⟩ (k_X2_x l D cI cF m0 m1 m2 m3 m4 m5 pt px py ro an te fx fy ar be ma nx ny a1 a2 _ hcr2) (cwV 2 hts gX2_touches_X2_x rfl rfl rfl (by decide +kernel) ⟨(Nat.le_of_ble_eq_true rfl), (Nat.le_of_ble_eq_true rfl)⟩) (pre_v (q0 := 0) (ci := 2) hK hP rfl rfl) rfl rfl hl.1 rfl (lv_room (Nat.le_of_ble_eq_true rfl)) dX2_touches_11 ⟨(Nat.zero_le _), (Nat.zero_le _)⟩) ?_
  refine lv_isub hx hb dX2_touches_14 ?_
  refine lv_i2l hx hb dX2_touches_15 rfl ?_
  refine lv_topl (fun v3 ev3 => ?_)
  have h := og_ov h ev3
  refine lv_lstore (lv' := [(5, .long v3), (0, .ref m0), (1, .int a1), (2, .int a2), (3, .long a3)]) hx hb dX2_touches_16 hl (by decide) rfl (fun ls hl => ?_)
  refine lv_aload_n hx hb dX2_touches_18 rfl (lv_at hl 1 rfl) ?_
  refine lv_iload_n hx hb dX2_touches_19 rfl (lv_at hl 2 rfl) ?_
  refine lv_iload_n hx hb dX2_touches_20 rfl (lv_at hl 3 rfl) ?_
  refine lv_iconst (v := 1) hx hb dX2_touches_21 (by decide) ?_
  refine lv_iadd hx hb dX2_touches_22 ?_
  obtain ⟨r4, hcr4, h⟩ := og_bind h
  refine cp_s (va_runV (As := [.int a1, .int (a2 + (1 : Int32))]) (rest := []) ⟨hx, hb, hml, hown, hts⟩ (k_X2_y l D cI cF m0 m1 m2 m3 m4 m5 pt px py ro an te fx fy ar be ma nx ny a1 (a2 + (1 : Int32)) _ hcr4) (cwV 2 hts gX2_touches_X2_y rfl rfl rfl (by decide +kernel) ⟨(Nat.le_of_ble_eq_true rfl), (Nat.le_of_ble_eq_true rfl)⟩) (pre_v (q0 := 0) (ci := 2) hK hP rfl rfl) rfl rfl hl.1 rfl (lv_room (Nat.le_of_ble_eq_true rfl)) dX2_touches_23 ⟨(Nat.zero_le _), (Nat.zero_le _)⟩) ?_
  refine lv_aload_n hx hb dX2_touches_26 rfl (lv_at hl 1 rfl) ?_
  refine lv_iload_n hx hb dX2_touches_27 rfl (lv_at hl 2 rfl) ?_
  refine lv_iload_n hx hb dX2_touches_28 rfl (lv_at hl 3 rfl) ?_
  obtain ⟨r5, hcr5, h⟩ := og_bind h
  refine cp_s (va_runV (As := [.int a1, .int a2]) (rest := [.int r4]) ⟨hx, hb, hml, hown, hts⟩ (k_X2_y l D cI cF m0 m1 m2 m3 m4 m5 pt px py ro an te fx fy ar be ma nx ny a1 a2 _ hcr5) (cwV 2 hts gX2_touches_X2_y rfl rfl rfl (by decide +kernel) ⟨(Nat.le_of_ble_eq_true rfl), (Nat.le_of_ble_eq_true rfl)⟩) (pre_v (q0 := 0) (ci := 2) hK hP rfl rfl) rfl rfl hl.1 rfl (lv_room (Nat.le_of_ble_eq_true rfl)) dX2_touches_29 ⟨(Nat.zero_le _), (Nat.zero_le _)⟩) ?_
  refine lv_isub hx hb dX2_touches_32 ?_
  refine lv_i2l hx hb dX2_touches_33 rfl ?_
  refine lv_topl (fun v6 ev6 => ?_)
  have h := og_ov h ev6
  refine lv_lstore (lv' := [(7, .long v6), (5, .long v3), (0, .ref m0), (1, .int a1), (2, .int a2), (3, .long a3)]) hx hb dX2_touches_34 hl (by decide) rfl (fun ls hl => ?_)
  refine lv_aload_n hx hb dX2_touches_36 rfl (lv_at hl 2 rfl) ?_
  refine va_get (D := D) (ci := 2) (v := .int fx) (C := RX2) (T := TX2) (N := 13) hx hb hts hinX2 hown hK hP 0 rfl rfl 6 (by decide) ht1 (fun _ h9 => h9) rfl dX2_touches_37 ?_
  refine lv_aload_n hx hb dX2_touches_40 rfl (lv_at hl 2 rfl) ?_
  refine lv_iload_n hx hb dX2_touches_41 rfl (lv_at hl 3 rfl) ?_
  refine lv_iload_n hx hb dX2_touches_42 rfl (lv_at hl 4 rfl) ?_
  obtain ⟨r7, hcr7, h⟩ := og_bind h
  refine cp_s (va_runV (As := [.int a1, .int a2]) (rest := [.int fx]) ⟨hx, hb, hml, hown, hts⟩ (k_X2_x l D cI cF m0 m1 m2 m3 m4 m5 pt px py ro an te fx fy ar be ma nx ny a1 a2 _ hcr7) (cwV 2 hts gX2_touches_X2_x rfl rfl rfl (by decide +kernel) ⟨(Nat.le_of_ble_eq_true rfl), (Nat.le_of_ble_eq_true rfl)⟩) (pre_v (q0 := 0) (ci := 2) hK hP rfl rfl) rfl rfl hl.1 rfl (lv_room (Nat.le_of_ble_eq_true rfl)) dX2_touches_43 ⟨(Nat.zero_le _), (Nat.zero_le _)⟩) ?_
  refine lv_isub hx hb dX2_touches_46 ?_
  refine lv_i2l hx hb dX2_touches_47 rfl ?_
  refine lv_topl (fun v8 ev8 => ?_)
  have h := og_ov h ev8
  refine lv_lstore (lv' := [(9, .long v8), (7, .long v6), (5, .long v3), (0, .ref m0), (1, .int a1), (2, .int a2), (3, .long a3)]) hx hb dX2_touches_48 hl (by decide) rfl (fun ls hl => ?_)
  refine lv_aload_n hx hb dX2_touches_50 rfl (lv_at hl 3 rfl) ?_
  refine va_get (D := D) (ci := 2) (v := .int fy) (C := RX2) (T := TX2) (N := 13) hx hb hts hinX2 hown hK hP 0 rfl rfl 7 (by decide) ht3 (fun _ h9 => h9) rfl dX2_touches_51 ?_
  refine lv_aload_n hx hb dX2_touches_54 rfl (lv_at hl 3 rfl) ?_
  refine lv_iload_n hx hb dX2_touches_55 rfl (lv_at hl 4 rfl) ?_
  refine lv_iload_n hx hb dX2_touches_56 rfl (lv_at hl 5 rfl) ?_
  obtain ⟨r9, hcr9, h⟩ := og_bind h
  refine cp_s (va_runV (As := [.int a1, .int a2]) (rest := [.int fy]) ⟨hx, hb, hml, hown, hts⟩ (k_X2_y l D cI cF m0 m1 m2 m3 m4 m5 pt px py ro an te fx fy ar be ma nx ny a1 a2 _ hcr9) (cwV 2 hts gX2_touches_X2_y rfl rfl rfl (by decide +kernel) ⟨(Nat.le_of_ble_eq_true rfl), (Nat.le_of_ble_eq_true rfl)⟩) (pre_v (q0 := 0) (ci := 2) hK hP rfl rfl) rfl rfl hl.1 rfl (lv_room (Nat.le_of_ble_eq_true rfl)) dX2_touches_57 ⟨(Nat.zero_le _), (Nat.zero_le _)⟩) ?_
  refine lv_isub hx hb dX2_touches_60 ?_
  refine lv_i2l hx hb dX2_touches_61 rfl ?_
  refine lv_topl (fun v10 ev10 => ?_)
  have h := og_ov h ev10
  refine lv_lstore (lv' := [(11, .long v10), (9, .long v8), (7, .long v6), (5, .long v3), (0, .ref m0), (1, .int a1), (2, .int a2), (3, .long a3)]) hx hb dX2_touches_62 hl (by decide) rfl (fun ls hl => ?_)
  refine lv_lload hx hb dX2_touches_64 (lv_at hl 1 rfl) ?_
  refine lv_lload hx hb dX2_touches_66 (lv_at hl 3 rfl) ?_
  refine lv_lmul hx hb dX2_touches_68 ?_
  refine lv_lload hx hb dX2_touches_69 (lv_at hl 0 rfl) ?_
  refine lv_lload hx hb dX2_touches_71 (lv_at hl 2 rfl) ?_
  refine lv_lmul hx hb dX2_touches_73 ?_
  refine lv_ladd hx hb dX2_touches_74 ?_
  refine lv_topl (fun v11 ev11 => ?_)
  have h := og_ov h ev11
  refine lv_lstore (lv' := [(13, .long v11), (11, .long v10), (9, .long v8), (7, .long v6), (5, .long v3), (0, .ref m0), (1, .int a1), (2, .int a2), (3, .long a3)]) hx hb dX2_touches_75 hl (by decide) rfl (fun ls hl => ?_)
  refine lv_lload hx hb dX2_touches_77 (lv_at hl 4 rfl) ?_
  refine lv_lload hx hb dX2_touches_79 (lv_at hl 4 rfl) ?_
  refine lv_lmul hx hb dX2_touches_81 ?_
  refine lv_lload hx hb dX2_touches_82 (lv_at hl 3 rfl) ?_
  refine lv_lload hx hb dX2_touches_84 (lv_at hl 3 rfl) ?_
  refine lv_lmul hx hb dX2_touches_86 ?_
  refine lv_ladd hx hb dX2_touches_87 ?_
  refine lv_topl (fun v12 ev12 => ?_)
  have h := og_ov h ev12
  refine lv_lstore (lv' := [(15, .long v12), (13, .long v11), (11, .long v10), (9, .long v8), (7, .long v6), (5, .long v3), (0, .ref m0), (1, .int a1), (2, .int a2), (3, .long a3)]) hx hb dX2_touches_88 hl (by decide) rfl (fun ls hl => ?_)
  refine lv_lload hx hb dX2_touches_90 (lv_at hl 3 rfl) ?_
  refine lv_lload hx hb dX2_touches_92 (lv_at hl 4 rfl) ?_
  refine lv_lmul hx hb dX2_touches_94 ?_
  refine lv_lload hx hb dX2_touches_95 (lv_at hl 2 rfl) ?_
  refine lv_lload hx hb dX2_touches_97 (lv_at hl 5 rfl) ?_
  refine lv_lmul hx hb dX2_touches_99 ?_
  refine lv_lsub hx hb dX2_touches_100 ?_
  refine lv_topl (fun v13 ev13 => ?_)
  have h := og_ov h ev13
  refine lv_lstore (lv' := [(17, .long v13), (15, .long v12), (13, .long v11), (11, .long v10), (9, .long v8), (7, .long v6), (5, .long v3), (0, .ref m0), (1, .int a1), (2, .int a2), (3, .long a3)]) hx hb dX2_touches_101 hl (by decide) rfl (fun ls hl => ?_)
  refine lv_lload hx hb dX2_touches_103 (lv_at hl 2 rfl) ?_
  refine lv_lconst (v := 0) hx hb dX2_touches_105 (by decide) ?_
  refine W.lcmp hx hb dX2_touches_106 ?_
  refine lv_if_le (tgt := 137) hx hb dX2_touches_107 (by decide) (fun c13 => ?_) (fun c13 => ?_)
  · rw [if_pos c13] at h
    refine lv_iconst (v := 0) hx hb dX2_touches_137 (by decide) ?_
    obtain rfl := Option.some.inj h
    exact W.zret hx hb hr rfl (fun t ht _ => ⟨rfl, ht⟩) (fun _ h9 => absurd h9 List.not_mem_nil) dX2_touches_138
  · rw [if_neg c13] at h
    refine lv_lload hx hb dX2_touches_110 (lv_at hl 2 rfl) ?_
    refine lv_lload hx hb dX2_touches_112 (lv_at hl 1 rfl) ?_
    refine W.lcmp hx hb dX2_touches_114 ?_
    refine lv_if_ge (tgt := 137) hx hb dX2_touches_115 (by decide) (fun c14 => ?_) (fun c14 => ?_)
    · rw [if_pos c14] at h
      refine lv_iconst (v := 0) hx hb dX2_touches_137 (by decide) ?_
      obtain rfl := Option.some.inj h
      exact W.zret hx hb hr rfl (fun t ht _ => ⟨rfl, ht⟩) (fun _ h9 => absurd h9 List.not_mem_nil) dX2_touches_138
    · rw [if_neg c14] at h
      refine lv_lload hx hb dX2_touches_118 (lv_at hl 0 rfl) ?_
      refine lv_lload hx hb dX2_touches_120 (lv_at hl 0 rfl) ?_
      refine lv_lmul hx hb dX2_touches_122 ?_
      refine lv_lload_n hx hb dX2_touches_123 rfl (lv_at hl 10 rfl) ?_
      refine lv_lload_n hx hb dX2_touches_124 rfl (lv_at hl 10 rfl) ?_
      refine lv_lmul hx hb dX2_touches_125 ?_
      refine lv_lload hx hb dX2_touches_126 (lv_at hl 1 rfl) ?_
      refine lv_lmul hx hb dX2_touches_128 ?_
      refine W.lcmp hx hb dX2_touches_129 ?_
      refine lv_if_gt (tgt := 137) hx hb dX2_touches_130 (by decide) (fun c15 => ?_) (fun c15 => ?_)
      · rw [if_pos c15] at h
        refine lv_iconst (v := 0) hx hb dX2_touches_137 (by decide) ?_
        obtain rfl := Option.some.inj h
        exact W.zret hx hb hr rfl (fun t ht _ => ⟨rfl, ht⟩) (fun _ h9 => absurd h9 List.not_mem_nil) dX2_touches_138
      · rw [if_neg c15] at h
        refine lv_iconst (v := 1) hx hb dX2_touches_133 (by decide) ?_
        refine lv_goto (tgt := 138) hx hb dX2_touches_134 (by decide) ?_
        obtain rfl := Option.some.inj h
        exact W.zret hx hb hr rfl (fun t ht _ => ⟨rfl, ht⟩) (fun _ h9 => absurd h9 List.not_mem_nil) dX2_touches_138
def s_X2_reaches_49 (fx : Int32) (fy : Int32) (pt : Nat → Int32) (px : Nat → Int32) (py : Nat → Int32) (a1 : Int32) (v5 : Int64) (v6 : Int64) (u49 : (Int32 × Int32)) : Option ((Int32 × Int32) ⊕ Int32) :=
  if bin a1 6 = true then
  if (pt a1.toNatClampNeg) ≤ u49.2 then
  (some (.inr u49.1))
  else
  ((f_X2_x pt px a1 u49.2).bind fun r9 =>
  ov ((r9 - fx).toInt64) fun v10 =>
  (f_X2_y pt py a1 u49.2).bind fun r11 =>
  ov ((r11 - fy).toInt64) fun v12 =>
  ov ((v10 * v10) + (v12 * v12)) fun v13 =>
  if u49.1 = (0) then
  (ov (u49.2 + (1 : Int32)) fun v15 =>
  some (.inl ((0 : Int32), v15)))
  else
  (if (lg_cmp v13 (v5 * v5)) ≤ (0) then
  (ov (u49.2 + (1 : Int32)) fun v17 =>
  some (.inl ((0 : Int32), v17)))
  else
  (if (0) ≤ (lg_cmp v13 (v6 * v6)) then
  (ov (u49.2 + (1 : Int32)) fun v19 =>
  some (.inl ((0 : Int32), v19)))
  else
  ((f_X2_touches fx fy pt px py a1 u49.2 v5).bind fun r20 =>
  if r20 = (0) then
  (ov (u49.2 + (1 : Int32)) fun v23 =>
  some (.inl ((1 : Int32), v23)))
  else
  (ov (u49.2 + (1 : Int32)) fun v22 =>
  some (.inl ((0 : Int32), v22)))))))
  else none
def f_X2_reaches (ro : Int32) (fx : Int32) (fy : Int32) (ar : Int32) (pt : Nat → Int32) (px : Nat → Int32) (py : Nat → Int32) (a1 : Int32) : Option Int32 :=
  (f_X2_isFigure a1).bind fun r1 =>
  if r1 = (0) then
  (some (-1 : Int32))
  else
  ((f_X2_isClosed pt a1).bind fun r3 =>
  if r3 = (0) then
  (some (-3 : Int32))
  else
  (ov ((ar - ro).toInt64) fun v5 =>
  ov ((ar + ro).toInt64) fun v6 =>
  (lpf (s_X2_reaches_49 fx fy pt px py a1 v5 v6) 1000 ((1 : Int32), (0 : Int32))).bind fun x24 =>
  if x24 = (0) then
  (some (0 : Int32))
  else
  (some (1 : Int32))))
set_option maxHeartbeats 4000000 in
set_option maxRecDepth 100000 in
theorem k_X2_reaches (l : Launch) (D : va_G) (cI cF : ClassId) (m0 : Nat) (m1 : Nat) (m2 : Nat) (m3 : Nat) (m4 : Nat) (m5 : Nat) (pt : Nat → Int32) (px : Nat → Int32) (py : Nat → Int32) (ro : Int32) (an : Int32) (te : Int32) (fx : Int32) (fy : Int32) (ar : Int32) (be : Int32) (ma : Int32) (nx : Nat → Int32) (ny : Nat → Int32) (a1 : Int32) (r0 : Int32) (h : f_X2_reaches ro fx fy ar pt px py a1 = some r0) : Met l yX2_reaches wsX2_reaches ({ frames := 2, cells := 0, slots := 0, locals := 60 }) (va_Pc [.ref m0, .int a1] (fun U => wK D cI cF (moW cI m0 m1 m2 m3 m4 m5 pt px py ro an te fx fy ar be ma nx ny) U)) (qS (.int r0)) 0 0 (fun _ => False) := by
  refine Met.ofW (cc := cX2_reaches) (maxL := 14) (ret := (some .int)) (by decide) rfl ?_
  intro p e s m args below meth c s₁ B hml hv
  obtain ⟨rfl, hK, hP⟩ := hv
  have hx := B.exec
  have hb := B.bytes
  have hr := B.returns
  have hts := atoms_spec (ws := wsX2_reaches) B.pre
  have hown : s.vm.findClass RX2 = some m.cls := findClass_of_methodNamed B.named
  have hlocks := B.notSynchronized
  have ht1 := hts (.fieldLink RX2 29 "DrawnAreasModel" "arm" "I") (by decide +kernel)
  have hinX2 : ∀ w ∈ u_ws RX2 TX2 13, w ∈ wsX2_reaches := by decide +kernel
  have ht3 := hts (.fieldLink RX2 19 "DrawnAreasModel" "rod" "I") (by decide +kernel)
  have ht4 := hts (.fieldLink RX2 7 "DrawnAreasModel" "points" "[I") (by decide +kernel)
  have ht5 := hts (.fieldLink RX2 148 "DrawnAreasModel" "footX" "I") (by decide +kernel)
  have ht6 := hts (.fieldLink RX2 151 "DrawnAreasModel" "footY" "I") (by decide +kernel)
  have hl := lv_entry ([.ref m0, .int a1]) (n := 14) (Nat.le_of_ble_eq_true rfl)
  rw [lg_entry_eq]
  generalize (lg_sl ([.ref m0, .int a1]) ++ List.replicate (14 - (lg_sl ([.ref m0, .int a1])).length) Slot.unset).toArray = ls at hl ⊢
  have hl : lv_has ls 14 [(0, .ref m0), (1, .int a1)] := hl
  unfold f_X2_reaches at h
  refine lv_iload_n hx hb dX2_reaches_0 rfl (lv_at hl 1 rfl) ?_
  obtain ⟨r1, hcr1, h⟩ := og_bind h
  refine cp_s (va_runS (As := [.int a1]) (rest := []) ⟨hx, hb, hml, hown, hts⟩ (k_X2_isFigure l a1 _ hcr1) (va_cwS 1 hts gX2_reaches_X2_isFigure rfl rfl rfl (by decide +kernel) ⟨(Nat.le_of_ble_eq_true rfl), (Nat.le_of_ble_eq_true rfl)⟩) pre_s rfl rfl hl.1 rfl (lv_room (Nat.le_of_ble_eq_true rfl)) dX2_reaches_1 ⟨(Nat.zero_le _), (Nat.zero_le _)⟩) ?_
  refine lv_if_ne (tgt := 9) hx hb dX2_reaches_4 (by decide) (fun c1 => ?_) (fun c1 => ?_)
  · rw [if_neg c1] at h
    refine lv_aload_n hx hb dX2_reaches_9 rfl (lv_at hl 0 rfl) ?_
    refine lv_iload_n hx hb dX2_reaches_10 rfl (lv_at hl 1 rfl) ?_
    obtain ⟨r3, hcr3, h⟩ := og_bind h
    refine cp_s (va_runV (As := [.int a1]) (rest := []) ⟨hx, hb, hml, hown, hts⟩ (k_X2_isClosed l D cI cF m0 m1 m2 m3 m4 m5 pt px py ro an te fx fy ar be ma nx ny a1 _ hcr3) (cwV 1 hts gX2_reaches_X2_isClosed rfl rfl rfl (by decide +kernel) ⟨(Nat.le_of_ble_eq_true rfl), (Nat.le_of_ble_eq_true rfl)⟩) (pre_v (q0 := 0) (ci := 2) hK hP rfl rfl) rfl rfl hl.1 rfl (lv_room (Nat.le_of_ble_eq_true rfl)) dX2_reaches_11 ⟨(Nat.zero_le _), (Nat.zero_le _)⟩) ?_
    refine lv_if_ne (tgt := 20) hx hb dX2_reaches_14 (by decide) (fun c3 => ?_) (fun c3 => ?_)
    · rw [if_neg c3] at h
      refine lv_aload_n hx hb dX2_reaches_20 rfl (lv_at hl 0 rfl) ?_
      refine va_get (D := D) (ci := 2) (v := .int ar) (C := RX2) (T := TX2) (N := 13) hx hb hts hinX2 hown hK hP 0 rfl rfl 8 (by decide) ht1 (fun _ h9 => h9) rfl dX2_reaches_21 ?_
      refine lv_aload_n hx hb dX2_reaches_24 rfl (lv_at hl 0 rfl) ?_
      refine va_get (D := D) (ci := 2) (v := .int ro) (C := RX2) (T := TX2) (N := 13) hx hb hts hinX2 hown hK hP 0 rfl rfl 3 (by decide) ht3 (fun _ h9 => h9) rfl dX2_reaches_25 ?_
      refine lv_isub hx hb dX2_reaches_28 ?_
      refine lv_i2l hx hb dX2_reaches_29 rfl ?_
      refine lv_topl (fun v5 ev5 => ?_)
      have h := og_ov h ev5
      refine lv_lstore_n (lv' := [(2, .long v5), (0, .ref m0), (1, .int a1)]) hx hb dX2_reaches_30 rfl hl (by decide) rfl (fun ls hl => ?_)
      refine lv_aload_n hx hb dX2_reaches_31 rfl (lv_at hl 1 rfl) ?_
      refine va_get (D := D) (ci := 2) (v := .int ar) (C := RX2) (T := TX2) (N := 13) hx hb hts hinX2 hown hK hP 0 rfl rfl 8 (by decide) ht1 (fun _ h9 => h9) rfl dX2_reaches_32 ?_
      refine lv_aload_n hx hb dX2_reaches_35 rfl (lv_at hl 1 rfl) ?_
      refine va_get (D := D) (ci := 2) (v := .int ro) (C := RX2) (T := TX2) (N := 13) hx hb hts hinX2 hown hK hP 0 rfl rfl 3 (by decide) ht3 (fun _ h9 => h9) rfl dX2_reaches_36 ?_
      refine lv_iadd hx hb dX2_reaches_39 ?_
      refine lv_i2l hx hb dX2_reaches_40 rfl ?_
      refine lv_topl (fun v6 ev6 => ?_)
      have h := og_ov h ev6
      refine lv_lstore (lv' := [(4, .long v6), (2, .long v5), (0, .ref m0), (1, .int a1)]) hx hb dX2_reaches_41 hl (by decide) rfl (fun ls hl => ?_)
      refine lv_iconst (v := 1) hx hb dX2_reaches_43 (by decide) ?_
      refine lv_istore (lv' := [(6, .int (1 : Int32)), (4, .long v6), (2, .long v5), (0, .ref m0), (1, .int a1)]) hx hb dX2_reaches_44 hl (by decide) rfl (fun ls hl => ?_)
      refine lv_iconst (v := 0) hx hb dX2_reaches_46 (by decide) ?_
      refine lv_istore (lv' := [(7, .int (0 : Int32)), (6, .int (1 : Int32)), (4, .long v6), (2, .long v5), (0, .ref m0), (1, .int a1)]) hx hb dX2_reaches_47 hl (by decide) rfl (fun ls hl => ?_)
      obtain ⟨x24, hN49, h⟩ := og_bind h
      refine wl hN49 49 152 (fun u49 ls => lv_has ls 14 [(0, .ref m0), (1, .int a1), (2, .long v5), (4, .long v6), (6, .int u49.1), (7, .int u49.2)]) (fun x24 ls => lv_has ls 14 [(6, .int x24)]) (fun u49 xx h ki49 kx49 ls hl => ?_) (fun ls hl => ?_) (lv_sub hl [4, 5, 3, 2, 1, 0] rfl)
      · unfold s_X2_reaches_49 at h
        refine lv_iload hx hb dX2_reaches_49 (lv_at hl 5 rfl) ?_
        refine lv_aload_n hx hb dX2_reaches_51 rfl (lv_at hl 0 rfl) ?_
        refine va_get (D := D) (ci := 2) (v := .ref m1) (C := RX2) (T := TX2) (N := 13) hx hb hts hinX2 hown hK hP 0 rfl rfl 0 (by decide) ht4 (fun _ h9 => h9) rfl dX2_reaches_52 ?_
        refine lv_iload_n hx hb dX2_reaches_55 rfl (lv_at hl 1 rfl) ?_
        obtain ⟨gi6, h⟩ := og_in h
        refine va_iald hx hb hK hP 1 0 rfl rfl gi6 dX2_reaches_56 ?_
        refine lv_icmp_ge (tgt := 152) hx hb dX2_reaches_57 (by decide) (fun c7 => ?_) (fun c7 => ?_)
        · rw [if_pos c7] at h
          exact kx49 _ ls (Option.some.inj h).symm (lv_sub hl [4] rfl)
        · rw [if_neg c7] at h
          refine lv_aload_n hx hb dX2_reaches_60 rfl (lv_at hl 0 rfl) ?_
          refine lv_iload_n hx hb dX2_reaches_61 rfl (lv_at hl 1 rfl) ?_
          refine lv_iload hx hb dX2_reaches_62 (lv_at hl 5 rfl) ?_
          obtain ⟨r9, hcr9, h⟩ := og_bind h
          refine cp_s (va_runV (As := [.int a1, .int u49.2]) (rest := []) ⟨hx, hb, hml, hown, hts⟩ (k_X2_x l D cI cF m0 m1 m2 m3 m4 m5 pt px py ro an te fx fy ar be ma nx ny a1 u49.2 _ hcr9) (cwV 2 hts gX2_reaches_X2_x rfl rfl rfl (by decide +kernel) ⟨(Nat.le_of_ble_eq_true rfl), (Nat.le_of_ble_eq_true rfl)⟩) (pre_v (q0 := 0) (ci := 2) hK hP rfl rfl) rfl rfl hl.1 rfl (lv_room (Nat.le_of_ble_eq_true rfl)) dX2_reaches_64 ⟨(Nat.zero_le _), (Nat.zero_le _)⟩) ?_
          refine lv_aload_n hx hb dX2_reaches_67 rfl (lv_at hl 0 rfl) ?_
          refine va_get (D := D) (ci := 2) (v := .int fx) (C := RX2) (T := TX2) (N := 13) hx hb hts hinX2 hown hK hP 0 rfl rfl 6 (by decide) ht5 (fun _ h9 => h9) rfl dX2_reaches_68 ?_
          refine lv_isub hx hb dX2_reaches_71 ?_
          refine lv_i2l hx hb dX2_reaches_72 rfl ?_
          refine lv_topl (fun v10 ev10 => ?_)
          have h := og_ov h ev10
          refine lv_lstore (lv' := [(8, .long v10), (0, .ref m0), (1, .int a1), (2, .long v5), (4, .long v6), (6, .int u49.1), (7, .int u49.2)]) hx hb dX2_reaches_73 hl (by decide) rfl (fun ls hl => ?_)
          refine lv_aload_n hx hb dX2_reaches_75 rfl (lv_at hl 1 rfl) ?_
          refine lv_iload_n hx hb dX2_reaches_76 rfl (lv_at hl 2 rfl) ?_
          refine lv_iload hx hb dX2_reaches_77 (lv_at hl 6 rfl) ?_
          obtain ⟨r11, hcr11, h⟩ := og_bind h
          refine cp_s (va_runV (As := [.int a1, .int u49.2]) (rest := []) ⟨hx, hb, hml, hown, hts⟩ (k_X2_y l D cI cF m0 m1 m2 m3 m4 m5 pt px py ro an te fx fy ar be ma nx ny a1 u49.2 _ hcr11) (cwV 2 hts gX2_reaches_X2_y rfl rfl rfl (by decide +kernel) ⟨(Nat.le_of_ble_eq_true rfl), (Nat.le_of_ble_eq_true rfl)⟩) (pre_v (q0 := 0) (ci := 2) hK hP rfl rfl) rfl rfl hl.1 rfl (lv_room (Nat.le_of_ble_eq_true rfl)) dX2_reaches_79 ⟨(Nat.zero_le _), (Nat.zero_le _)⟩) ?_
          refine lv_aload_n hx hb dX2_reaches_82 rfl (lv_at hl 1 rfl) ?_
          refine va_get (D := D) (ci := 2) (v := .int fy) (C := RX2) (T := TX2) (N := 13) hx hb hts hinX2 hown hK hP 0 rfl rfl 7 (by decide) ht6 (fun _ h9 => h9) rfl dX2_reaches_83 ?_
          refine lv_isub hx hb dX2_reaches_86 ?_
          refine lv_i2l hx hb dX2_reaches_87 rfl ?_
          refine lv_topl (fun v12 ev12 => ?_)
          have h := og_ov h ev12
          refine lv_lstore (lv' := [(10, .long v12), (8, .long v10), (0, .ref m0), (1, .int a1), (2, .long v5), (4, .long v6), (6, .int u49.1), (7, .int u49.2)]) hx hb dX2_reaches_88 hl (by decide) rfl (fun ls hl => ?_)
          refine lv_lload hx hb dX2_reaches_90 (lv_at hl 1 rfl) ?_
          refine lv_lload hx hb dX2_reaches_92 (lv_at hl 1 rfl) ?_
          refine lv_lmul hx hb dX2_reaches_94 ?_
          refine lv_lload hx hb dX2_reaches_95 (lv_at hl 0 rfl) ?_
          refine lv_lload hx hb dX2_reaches_97 (lv_at hl 0 rfl) ?_
          refine lv_lmul hx hb dX2_reaches_99 ?_
          refine lv_ladd hx hb dX2_reaches_100 ?_
          refine lv_topl (fun v13 ev13 => ?_)
          have h := og_ov h ev13
          refine lv_lstore (lv' := [(12, .long v13), (10, .long v12), (8, .long v10), (0, .ref m0), (1, .int a1), (2, .long v5), (4, .long v6), (6, .int u49.1), (7, .int u49.2)]) hx hb dX2_reaches_101 hl (by decide) rfl (fun ls hl => ?_)
          refine lv_iload hx hb dX2_reaches_103 (lv_at hl 7 rfl) ?_
          refine lv_if_eq (tgt := 143) hx hb dX2_reaches_105 (by decide) (fun c13 => ?_) (fun c13 => ?_)
          · rw [if_pos c13] at h
            refine lv_iconst (v := 0) hx hb dX2_reaches_143 (by decide) ?_
            refine lv_istore (lv' := [(6, .int (0 : Int32)), (12, .long v13), (10, .long v12), (8, .long v10), (0, .ref m0), (1, .int a1), (2, .long v5), (4, .long v6), (7, .int u49.2)]) hx hb dX2_reaches_144 hl (by decide) rfl (fun ls hl => ?_)
            obtain ⟨v15, ev15⟩ : ∃ y : Int32, y = u49.2 + (1 : Int32) := ⟨_, rfl⟩
            have h := og_ov h ev15
            refine lv_iinc (v := v15) (lv' := [(7, .int v15), (6, .int (0 : Int32)), (12, .long v13), (10, .long v12), (8, .long v10), (0, .ref m0), (1, .int a1), (2, .long v5), (4, .long v6)]) hx hb dX2_reaches_146 hl (k := 8) rfl (by rw [ev15]; rfl) (by decide) rfl (fun ls hl => ?_)
            refine lv_goto (tgt := 49) hx hb dX2_reaches_149 (by decide) ?_
            exact ki49 _ ls (Option.some.inj h).symm (lv_sub hl [5, 6, 7, 8, 1, 0] rfl)
          · rw [if_neg c13] at h
            refine lv_lload hx hb dX2_reaches_108 (lv_at hl 0 rfl) ?_
            refine lv_lload_n hx hb dX2_reaches_110 rfl (lv_at hl 5 rfl) ?_
            refine lv_lload_n hx hb dX2_reaches_111 rfl (lv_at hl 5 rfl) ?_
            refine lv_lmul hx hb dX2_reaches_112 ?_
            refine W.lcmp hx hb dX2_reaches_113 ?_
            refine lv_if_le (tgt := 143) hx hb dX2_reaches_114 (by decide) (fun c15 => ?_) (fun c15 => ?_)
            · rw [if_pos c15] at h
              refine lv_iconst (v := 0) hx hb dX2_reaches_143 (by decide) ?_
              refine lv_istore (lv' := [(6, .int (0 : Int32)), (12, .long v13), (10, .long v12), (8, .long v10), (0, .ref m0), (1, .int a1), (2, .long v5), (4, .long v6), (7, .int u49.2)]) hx hb dX2_reaches_144 hl (by decide) rfl (fun ls hl => ?_)
              obtain ⟨v17, ev17⟩ : ∃ y : Int32, y = u49.2 + (1 : Int32) := ⟨_, rfl⟩
              have h := og_ov h ev17
              refine lv_iinc (v := v17) (lv' := [(7, .int v17), (6, .int (0 : Int32)), (12, .long v13), (10, .long v12), (8, .long v10), (0, .ref m0), (1, .int a1), (2, .long v5), (4, .long v6)]) hx hb dX2_reaches_146 hl (k := 8) rfl (by rw [ev17]; rfl) (by decide) rfl (fun ls hl => ?_)
              refine lv_goto (tgt := 49) hx hb dX2_reaches_149 (by decide) ?_
              exact ki49 _ ls (Option.some.inj h).symm (lv_sub hl [5, 6, 7, 8, 1, 0] rfl)
            · rw [if_neg c15] at h
              refine lv_lload hx hb dX2_reaches_117 (lv_at hl 0 rfl) ?_
              refine lv_lload hx hb dX2_reaches_119 (lv_at hl 6 rfl) ?_
              refine lv_lload hx hb dX2_reaches_121 (lv_at hl 6 rfl) ?_
              refine lv_lmul hx hb dX2_reaches_123 ?_
              refine W.lcmp hx hb dX2_reaches_124 ?_
              refine lv_if_ge (tgt := 143) hx hb dX2_reaches_125 (by decide) (fun c17 => ?_) (fun c17 => ?_)
              · rw [if_pos c17] at h
                refine lv_iconst (v := 0) hx hb dX2_reaches_143 (by decide) ?_
                refine lv_istore (lv' := [(6, .int (0 : Int32)), (12, .long v13), (10, .long v12), (8, .long v10), (0, .ref m0), (1, .int a1), (2, .long v5), (4, .long v6), (7, .int u49.2)]) hx hb dX2_reaches_144 hl (by decide) rfl (fun ls hl => ?_)
                obtain ⟨v19, ev19⟩ : ∃ y : Int32, y = u49.2 + (1 : Int32) := ⟨_, rfl⟩
                have h := og_ov h ev19
                refine lv_iinc (v := v19) (lv' := [(7, .int v19), (6, .int (0 : Int32)), (12, .long v13), (10, .long v12), (8, .long v10), (0, .ref m0), (1, .int a1), (2, .long v5), (4, .long v6)]) hx hb dX2_reaches_146 hl (k := 8) rfl (by rw [ev19]; rfl) (by decide) rfl (fun ls hl => ?_)
                refine lv_goto (tgt := 49) hx hb dX2_reaches_149 (by decide) ?_
                exact ki49 _ ls (Option.some.inj h).symm (lv_sub hl [5, 6, 7, 8, 1, 0] rfl)
              · rw [if_neg c17] at h
                refine lv_aload_n hx hb dX2_reaches_128 rfl (lv_at hl 3 rfl) ?_
                refine lv_iload_n hx hb dX2_reaches_129 rfl (lv_at hl 4 rfl) ?_
                refine lv_iload hx hb dX2_reaches_130 (lv_at hl 8 rfl) ?_
                refine lv_lload_n hx hb dX2_reaches_132 rfl (lv_at hl 5 rfl) ?_
                obtain ⟨r20, hcr20, h⟩ := og_bind h
                refine cp_s (va_runV (As := [.int a1, .int u49.2, .long v5]) (rest := []) ⟨hx, hb, hml, hown, hts⟩ (k_X2_touches l D cI cF m0 m1 m2 m3 m4 m5 pt px py ro an te fx fy ar be ma nx ny a1 u49.2 v5 _ hcr20) (cwV 3 hts gX2_reaches_X2_touches rfl rfl rfl (by decide +kernel) ⟨(Nat.le_of_ble_eq_true rfl), (Nat.le_of_ble_eq_true rfl)⟩) (pre_v (q0 := 0) (ci := 2) hK hP rfl rfl) rfl rfl hl.1 rfl (lv_room (Nat.le_of_ble_eq_true rfl)) dX2_reaches_133 ⟨(Nat.zero_le _), (Nat.zero_le _)⟩) ?_
                refine lv_if_ne (tgt := 143) hx hb dX2_reaches_136 (by decide) (fun c20 => ?_) (fun c20 => ?_)
                · rw [if_neg c20] at h
                  refine lv_iconst (v := 0) hx hb dX2_reaches_143 (by decide) ?_
                  refine lv_istore (lv' := [(6, .int (0 : Int32)), (12, .long v13), (10, .long v12), (8, .long v10), (0, .ref m0), (1, .int a1), (2, .long v5), (4, .long v6), (7, .int u49.2)]) hx hb dX2_reaches_144 hl (by decide) rfl (fun ls hl => ?_)
                  obtain ⟨v22, ev22⟩ : ∃ y : Int32, y = u49.2 + (1 : Int32) := ⟨_, rfl⟩
                  have h := og_ov h ev22
                  refine lv_iinc (v := v22) (lv' := [(7, .int v22), (6, .int (0 : Int32)), (12, .long v13), (10, .long v12), (8, .long v10), (0, .ref m0), (1, .int a1), (2, .long v5), (4, .long v6)]) hx hb dX2_reaches_146 hl (k := 8) rfl (by rw [ev22]; rfl) (by decide) rfl (fun ls hl => ?_)
                  refine lv_goto (tgt := 49) hx hb dX2_reaches_149 (by decide) ?_
                  exact ki49 _ ls (Option.some.inj h).symm (lv_sub hl [5, 6, 7, 8, 1, 0] rfl)
                · rw [if_pos c20] at h
                  refine lv_iconst (v := 1) hx hb dX2_reaches_139 (by decide) ?_
                  refine lv_goto (tgt := 144) hx hb dX2_reaches_140 (by decide) ?_
                  refine lv_istore (lv' := [(6, .int (1 : Int32)), (12, .long v13), (10, .long v12), (8, .long v10), (0, .ref m0), (1, .int a1), (2, .long v5), (4, .long v6), (7, .int u49.2)]) hx hb dX2_reaches_144 hl (by decide) rfl (fun ls hl => ?_)
                  obtain ⟨v23, ev23⟩ : ∃ y : Int32, y = u49.2 + (1 : Int32) := ⟨_, rfl⟩
                  have h := og_ov h ev23
                  refine lv_iinc (v := v23) (lv' := [(7, .int v23), (6, .int (1 : Int32)), (12, .long v13), (10, .long v12), (8, .long v10), (0, .ref m0), (1, .int a1), (2, .long v5), (4, .long v6)]) hx hb dX2_reaches_146 hl (k := 8) rfl (by rw [ev23]; rfl) (by decide) rfl (fun ls hl => ?_)
                  refine lv_goto (tgt := 49) hx hb dX2_reaches_149 (by decide) ?_
                  exact ki49 _ ls (Option.some.inj h).symm (lv_sub hl [5, 6, 7, 8, 1, 0] rfl)
      · refine lv_iload hx hb dX2_reaches_152 (lv_at hl 0 rfl) ?_
        refine lv_if_eq (tgt := 161) hx hb dX2_reaches_154 (by decide) (fun c24 => ?_) (fun c24 => ?_)
        · rw [if_pos c24] at h
          refine lv_iconst (v := 0) hx hb dX2_reaches_161 (by decide) ?_
          obtain rfl := Option.some.inj h
          exact W.iret hx hb hr (fun t ht _ => ⟨rfl, ht⟩) (fun _ h9 => absurd h9 List.not_mem_nil) dX2_reaches_162
        · rw [if_neg c24] at h
          refine lv_iconst (v := 1) hx hb dX2_reaches_157 (by decide) ?_
          refine lv_goto (tgt := 162) hx hb dX2_reaches_158 (by decide) ?_
          obtain rfl := Option.some.inj h
          exact W.iret hx hb hr (fun t ht _ => ⟨rfl, ht⟩) (fun _ h9 => absurd h9 List.not_mem_nil) dX2_reaches_162
    · rw [if_pos c3] at h
      refine lv_bipush (v := -3) hx hb dX2_reaches_17 (by decide) ?_
      obtain rfl := Option.some.inj h
      exact W.iret hx hb hr (fun t ht _ => ⟨rfl, ht⟩) (fun _ h9 => absurd h9 List.not_mem_nil) dX2_reaches_19
  · rw [if_pos c1] at h
    refine lv_iconst (v := -1) hx hb dX2_reaches_7 (by decide) ?_
    obtain rfl := Option.some.inj h
    exact W.iret hx hb hr (fun t ht _ => ⟨rfl, ht⟩) (fun _ h9 => absurd h9 List.not_mem_nil) dX2_reaches_8
def f_X2_count (ro : Int32) (pt : Nat → Int32) (px : Nat → Int32) (py : Nat → Int32) (an : Int32) (te : Int32) (a1 : Int32) : Option Int64 :=
  (f_X2_isFigure a1).bind fun r1 =>
  if r1 = (0) then
  (some (-1000000000000000001 : Int64))
  else
  ((f_X2_isClosed pt a1).bind fun r3 =>
  if r3 = (0) then
  (some (-1000000000000000003 : Int64))
  else
  ((f_X2_canGo ro pt py a1).bind fun r5 =>
  if r5 = (0) then
  (some (-1000000000000000003 : Int64))
  else
  (if bin a1 6 = true then
  (f_X2_along pt px py a1 (pt a1.toNatClampNeg) (1 : Int32)).bind fun r8 =>
  (if (0) ≤ (lg_cmp r8 (0 : Int64)) then
  (some (r8))
  else
  (some (-r8))).bind fun mv9 =>
  if (((2 : Int64) * (ro.toInt64)) * (an.toInt64)) = 0 then none else
  some ((mv9 * (te.toInt64)) / (((2 : Int64) * (ro.toInt64)) * (an.toInt64)))
  else none)))
set_option maxHeartbeats 4000000 in
set_option maxRecDepth 100000 in
theorem k_X2_count (l : Launch) (D : va_G) (cI cF : ClassId) (m0 : Nat) (m1 : Nat) (m2 : Nat) (m3 : Nat) (m4 : Nat) (m5 : Nat) (pt : Nat → Int32) (px : Nat → Int32) (py : Nat → Int32) (ro : Int32) (an : Int32) (te : Int32) (fx : Int32) (fy : Int32) (ar : Int32) (be : Int32) (ma : Int32) (nx : Nat → Int32) (ny : Nat → Int32) (a1 : Int32) (r0 : Int64) (h : f_X2_count ro pt px py an te a1 = some r0) : Met l yX2_count wsX2_count ({ frames := 2, cells := 0, slots := 0, locals := 56 }) (va_Pc [.ref m0, .int a1] (fun U => wK D cI cF (moW cI m0 m1 m2 m3 m4 m5 pt px py ro an te fx fy ar be ma nx ny) U)) (qS (.long r0)) 0 0 (fun _ => False) := by
  refine Met.ofW (cc := cX2_count) (maxL := 4) (ret := (some .long)) (by decide) rfl ?_
  intro p e s m args below meth c s₁ B hml hv
  obtain ⟨rfl, hK, hP⟩ := hv
  have hx := B.exec
  have hb := B.bytes
  have hr := B.returns
  have hts := atoms_spec (ws := wsX2_count) B.pre
  have hown : s.vm.findClass RX2 = some m.cls := findClass_of_methodNamed B.named
  have hlocks := B.notSynchronized
  have ht1 := hts (.constantLong RX2 80 (-1000000000000000003)) (by decide +kernel)
  have ht2 := hts (.fieldLink RX2 7 "DrawnAreasModel" "points" "[I") (by decide +kernel)
  have hinX2 : ∀ w ∈ u_ws RX2 TX2 13, w ∈ wsX2_count := by decide +kernel
  have ht4 := hts (.fieldLink RX2 26 "DrawnAreasModel" "teeth" "I") (by decide +kernel)
  have ht5 := hts (.constantLong RX2 120 (2)) (by decide +kernel)
  have ht6 := hts (.fieldLink RX2 19 "DrawnAreasModel" "rod" "I") (by decide +kernel)
  have ht7 := hts (.fieldLink RX2 23 "DrawnAreasModel" "around" "I") (by decide +kernel)
  have ht8 := hts (.constantLong RX2 71 (-1000000000000000001)) (by decide +kernel)
  have hl := lv_entry ([.ref m0, .int a1]) (n := 4) (Nat.le_of_ble_eq_true rfl)
  rw [lg_entry_eq]
  generalize (lg_sl ([.ref m0, .int a1]) ++ List.replicate (4 - (lg_sl ([.ref m0, .int a1])).length) Slot.unset).toArray = ls at hl ⊢
  have hl : lv_has ls 4 [(0, .ref m0), (1, .int a1)] := hl
  unfold f_X2_count at h
  refine lv_iload_n hx hb dX2_count_0 rfl (lv_at hl 1 rfl) ?_
  obtain ⟨r1, hcr1, h⟩ := og_bind h
  refine cp_s (va_runS (As := [.int a1]) (rest := []) ⟨hx, hb, hml, hown, hts⟩ (k_X2_isFigure l a1 _ hcr1) (va_cwS 1 hts gX2_count_X2_isFigure rfl rfl rfl (by decide +kernel) ⟨(Nat.le_of_ble_eq_true rfl), (Nat.le_of_ble_eq_true rfl)⟩) pre_s rfl rfl hl.1 rfl (lv_room (Nat.le_of_ble_eq_true rfl)) dX2_count_1 ⟨(Nat.zero_le _), (Nat.zero_le _)⟩) ?_
  refine lv_if_ne (tgt := 11) hx hb dX2_count_4 (by decide) (fun c1 => ?_) (fun c1 => ?_)
  · rw [if_neg c1] at h
    refine lv_aload_n hx hb dX2_count_11 rfl (lv_at hl 0 rfl) ?_
    refine lv_iload_n hx hb dX2_count_12 rfl (lv_at hl 1 rfl) ?_
    obtain ⟨r3, hcr3, h⟩ := og_bind h
    refine cp_s (va_runV (As := [.int a1]) (rest := []) ⟨hx, hb, hml, hown, hts⟩ (k_X2_isClosed l D cI cF m0 m1 m2 m3 m4 m5 pt px py ro an te fx fy ar be ma nx ny a1 _ hcr3) (cwV 1 hts gX2_count_X2_isClosed rfl rfl rfl (by decide +kernel) ⟨(Nat.le_of_ble_eq_true rfl), (Nat.le_of_ble_eq_true rfl)⟩) (pre_v (q0 := 0) (ci := 2) hK hP rfl rfl) rfl rfl hl.1 rfl (lv_room (Nat.le_of_ble_eq_true rfl)) dX2_count_13 ⟨(Nat.zero_le _), (Nat.zero_le _)⟩) ?_
    refine lv_if_eq (tgt := 27) hx hb dX2_count_16 (by decide) (fun c3 => ?_) (fun c3 => ?_)
    · rw [if_pos c3] at h
      refine lv_ldc2 hx hb hown ht1 dX2_count_27 ?_
      obtain rfl := Option.some.inj h
      exact W.lret hx hb hr (fun t ht _ => ⟨rfl, ht⟩) (fun _ h9 => absurd h9 List.not_mem_nil) dX2_count_30
    · rw [if_neg c3] at h
      refine lv_aload_n hx hb dX2_count_19 rfl (lv_at hl 0 rfl) ?_
      refine lv_iload_n hx hb dX2_count_20 rfl (lv_at hl 1 rfl) ?_
      obtain ⟨r5, hcr5, h⟩ := og_bind h
      refine cp_s (va_runV (As := [.int a1]) (rest := []) ⟨hx, hb, hml, hown, hts⟩ (k_X2_canGo l D cI cF m0 m1 m2 m3 m4 m5 pt px py ro an te fx fy ar be ma nx ny a1 _ hcr5) (cwV 1 hts gX2_count_X2_canGo rfl rfl rfl (by decide +kernel) ⟨(Nat.le_of_ble_eq_true rfl), (Nat.le_of_ble_eq_true rfl)⟩) (pre_v (q0 := 0) (ci := 2) hK hP rfl rfl) rfl rfl hl.1 rfl (lv_room (Nat.le_of_ble_eq_true rfl)) dX2_count_21 ⟨(Nat.zero_le _), (Nat.zero_le _)⟩) ?_
      refine lv_if_ne (tgt := 31) hx hb dX2_count_24 (by decide) (fun c5 => ?_) (fun c5 => ?_)
      · rw [if_neg c5] at h
        refine lv_aload_n hx hb dX2_count_31 rfl (lv_at hl 0 rfl) ?_
        refine lv_iload_n hx hb dX2_count_32 rfl (lv_at hl 1 rfl) ?_
        refine lv_aload_n hx hb dX2_count_33 rfl (lv_at hl 0 rfl) ?_
        refine va_get (D := D) (ci := 2) (v := .ref m1) (C := RX2) (T := TX2) (N := 13) hx hb hts hinX2 hown hK hP 0 rfl rfl 0 (by decide) ht2 (fun _ h9 => h9) rfl dX2_count_34 ?_
        refine lv_iload_n hx hb dX2_count_37 rfl (lv_at hl 1 rfl) ?_
        obtain ⟨gi6, h⟩ := og_in h
        refine va_iald hx hb hK hP 1 0 rfl rfl gi6 dX2_count_38 ?_
        refine lv_iconst (v := 1) hx hb dX2_count_39 (by decide) ?_
        obtain ⟨r8, hcr8, h⟩ := og_bind h
        refine cp_s (va_runV (As := [.int a1, .int (pt a1.toNatClampNeg), .int (1 : Int32)]) (rest := []) ⟨hx, hb, hml, hown, hts⟩ (k_X2_along l D cI cF m0 m1 m2 m3 m4 m5 pt px py ro an te fx fy ar be ma nx ny a1 (pt a1.toNatClampNeg) (1 : Int32) _ hcr8) (cwV 3 hts gX2_count_X2_along rfl rfl rfl (by decide +kernel) ⟨(Nat.le_of_ble_eq_true rfl), (Nat.le_of_ble_eq_true rfl)⟩) (pre_v (q0 := 0) (ci := 2) hK hP rfl rfl) rfl rfl hl.1 rfl (lv_room (Nat.le_of_ble_eq_true rfl)) dX2_count_40 ⟨(Nat.zero_le _), (Nat.zero_le _)⟩) ?_
        refine lv_lstore_n (lv' := [(2, .long r8), (0, .ref m0), (1, .int a1)]) hx hb dX2_count_43 rfl hl (by decide) rfl (fun ls hl => ?_)
        refine lv_lload_n hx hb dX2_count_44 rfl (lv_at hl 0 rfl) ?_
        refine lv_lconst (v := 0) hx hb dX2_count_45 (by decide) ?_
        refine W.lcmp hx hb dX2_count_46 ?_
        obtain ⟨mv9, hm56, h⟩ := og_bind h
        refine wj (PC := 56) (ST := [.long mv9]) (fun ls => lv_has ls 4 [(0, .ref m0)]) (fun ls hl => ?_) (fun KJ56 => ?_)
        · refine lv_aload_n hx hb dX2_count_56 rfl (lv_at hl 0 rfl) ?_
          refine va_get (D := D) (ci := 2) (v := .int te) (C := RX2) (T := TX2) (N := 13) hx hb hts hinX2 hown hK hP 0 rfl rfl 5 (by decide) ht4 (fun _ h9 => h9) rfl dX2_count_57 ?_
          refine lv_i2l hx hb dX2_count_60 rfl ?_
          refine lv_lmul hx hb dX2_count_61 ?_
          refine lv_ldc2 hx hb hown ht5 dX2_count_62 ?_
          refine lv_aload_n hx hb dX2_count_65 rfl (lv_at hl 0 rfl) ?_
          refine va_get (D := D) (ci := 2) (v := .int ro) (C := RX2) (T := TX2) (N := 13) hx hb hts hinX2 hown hK hP 0 rfl rfl 3 (by decide) ht6 (fun _ h9 => h9) rfl dX2_count_66 ?_
          refine lv_i2l hx hb dX2_count_69 rfl ?_
          refine lv_lmul hx hb dX2_count_70 ?_
          refine lv_aload_n hx hb dX2_count_71 rfl (lv_at hl 0 rfl) ?_
          refine va_get (D := D) (ci := 2) (v := .int an) (C := RX2) (T := TX2) (N := 13) hx hb hts hinX2 hown hK hP 0 rfl rfl 4 (by decide) ht7 (fun _ h9 => h9) rfl dX2_count_72 ?_
          refine lv_i2l hx hb dX2_count_75 rfl ?_
          refine lv_lmul hx hb dX2_count_76 ?_
          obtain ⟨gz9, h⟩ := og_nz h
          refine lv_ldiv hx hb dX2_count_77 gz9 ?_
          obtain rfl := Option.some.inj h
          exact W.lret hx hb hr (fun t ht _ => ⟨rfl, ht⟩) (fun _ h9 => absurd h9 List.not_mem_nil) dX2_count_78
        · have h := hm56
          refine lv_if_ge (tgt := 55) hx hb dX2_count_47 (by decide) (fun c10 => ?_) (fun c10 => ?_)
          · rw [if_pos c10] at h
            refine lv_lload_n hx hb dX2_count_55 rfl (lv_at hl 0 rfl) ?_
            obtain rfl := Option.some.inj h
            exact KJ56 ls (lv_sub hl [1] rfl)
          · rw [if_neg c10] at h
            refine lv_lload_n hx hb dX2_count_50 rfl (lv_at hl 0 rfl) ?_
            refine lv_lneg hx hb dX2_count_51 ?_
            refine lv_goto (tgt := 56) hx hb dX2_count_52 (by decide) ?_
            obtain rfl := Option.some.inj h
            exact KJ56 ls (lv_sub hl [1] rfl)
      · rw [if_pos c5] at h
        refine lv_ldc2 hx hb hown ht1 dX2_count_27 ?_
        obtain rfl := Option.some.inj h
        exact W.lret hx hb hr (fun t ht _ => ⟨rfl, ht⟩) (fun _ h9 => absurd h9 List.not_mem_nil) dX2_count_30
  · rw [if_pos c1] at h
    refine lv_ldc2 hx hb hown ht8 dX2_count_7 ?_
    obtain rfl := Option.some.inj h
    exact W.lret hx hb hr (fun t ht _ => ⟨rfl, ht⟩) (fun _ h9 => absurd h9 List.not_mem_nil) dX2_count_10
def f_X2_may (ro : Int32) (an : Int32) (te : Int32) (a1 : Int32) (a2 : Int32) (a3 : Int32) (a4 : Int32) (a5 : Int32) : Option Int64 :=
  (f_X2_isCount a1 a2 a3).bind fun r1 =>
  if r1 = (0) then
  (some (-1000000000000000002 : Int64))
  else
  ((f_X2_isPart a4).bind fun r3 =>
  if r3 = (0) then
  (some (-1000000000000000002 : Int64))
  else
  ((f_X2_isPart a5).bind fun r5 =>
  if r5 = (0) then
  (some (-1000000000000000002 : Int64))
  else
  ((f_X2_bound a1 a2 a3 a4).bind fun r7 =>
  (f_X2_term ((r7 * (an.toInt64)) * (ro.toInt64)) (te.toInt64) a5).bind fun r8 =>
  some r8)))
set_option maxHeartbeats 4000000 in
set_option maxRecDepth 100000 in
theorem k_X2_may (l : Launch) (D : va_G) (cI cF : ClassId) (m0 : Nat) (m1 : Nat) (m2 : Nat) (m3 : Nat) (m4 : Nat) (m5 : Nat) (pt : Nat → Int32) (px : Nat → Int32) (py : Nat → Int32) (ro : Int32) (an : Int32) (te : Int32) (fx : Int32) (fy : Int32) (ar : Int32) (be : Int32) (ma : Int32) (nx : Nat → Int32) (ny : Nat → Int32) (a1 : Int32) (a2 : Int32) (a3 : Int32) (a4 : Int32) (a5 : Int32) (r0 : Int64) (h : f_X2_may ro an te a1 a2 a3 a4 a5 = some r0) : Met l yX2_may wsX2_may ({ frames := 2, cells := 0, slots := 0, locals := 55 }) (va_Pc [.ref m0, .int a1, .int a2, .int a3, .int a4, .int a5] (fun U => wK D cI cF (moW cI m0 m1 m2 m3 m4 m5 pt px py ro an te fx fy ar be ma nx ny) U)) (qS (.long r0)) 0 0 (fun _ => False) := by
  refine Met.ofW (cc := cX2_may) (maxL := 6) (ret := (some .long)) (by decide) rfl ?_
  intro p e s m args below meth c s₁ B hml hv
  obtain ⟨rfl, hK, hP⟩ := hv
  have hx := B.exec
  have hb := B.bytes
  have hr := B.returns
  have hts := atoms_spec (ws := wsX2_may) B.pre
  have hown : s.vm.findClass RX2 = some m.cls := findClass_of_methodNamed B.named
  have hlocks := B.notSynchronized
  have ht1 := hts (.constantLong RX2 111 (-1000000000000000002)) (by decide +kernel)
  have ht2 := hts (.fieldLink RX2 23 "DrawnAreasModel" "around" "I") (by decide +kernel)
  have hinX2 : ∀ w ∈ u_ws RX2 TX2 13, w ∈ wsX2_may := by decide +kernel
  have ht4 := hts (.fieldLink RX2 19 "DrawnAreasModel" "rod" "I") (by decide +kernel)
  have ht5 := hts (.fieldLink RX2 26 "DrawnAreasModel" "teeth" "I") (by decide +kernel)
  have hl := lv_entry ([.ref m0, .int a1, .int a2, .int a3, .int a4, .int a5]) (n := 6) (Nat.le_of_ble_eq_true rfl)
  rw [lg_entry_eq]
  generalize (lg_sl ([.ref m0, .int a1, .int a2, .int a3, .int a4, .int a5]) ++ List.replicate (6 - (lg_sl ([.ref m0, .int a1, .int a2, .int a3, .int a4, .int a5])).length) Slot.unset).toArray = ls at hl ⊢
  have hl : lv_has ls 6 [(0, .ref m0), (1, .int a1), (2, .int a2), (3, .int a3), (4, .int a4), (5, .int a5)] := hl
  unfold f_X2_may at h
  refine lv_iload_n hx hb dX2_may_0 rfl (lv_at hl 1 rfl) ?_
  refine lv_iload_n hx hb dX2_may_1 rfl (lv_at hl 2 rfl) ?_
  refine lv_iload_n hx hb dX2_may_2 rfl (lv_at hl 3 rfl) ?_
  obtain ⟨r1, hcr1, h⟩ := og_bind h
  refine cp_s (va_runS (As := [.int a1, .int a2, .int a3]) (rest := []) ⟨hx, hb, hml, hown, hts⟩ (k_X2_isCount l a1 a2 a3 _ hcr1) (va_cwS 3 hts gX2_may_X2_isCount rfl rfl rfl (by decide +kernel) ⟨(Nat.le_of_ble_eq_true rfl), (Nat.le_of_ble_eq_true rfl)⟩) pre_s rfl rfl hl.1 rfl (lv_room (Nat.le_of_ble_eq_true rfl)) dX2_may_3 ⟨(Nat.zero_le _), (Nat.zero_le _)⟩) ?_
  refine lv_if_eq (tgt := 25) hx hb dX2_may_6 (by decide) (fun c1 => ?_) (fun c1 => ?_)
  · rw [if_pos c1] at h
    refine lv_ldc2 hx hb hown ht1 dX2_may_25 ?_
    obtain rfl := Option.some.inj h
    exact W.lret hx hb hr (fun t ht _ => ⟨rfl, ht⟩) (fun _ h9 => absurd h9 List.not_mem_nil) dX2_may_28
  · rw [if_neg c1] at h
    refine lv_iload hx hb dX2_may_9 (lv_at hl 4 rfl) ?_
    obtain ⟨r3, hcr3, h⟩ := og_bind h
    refine cp_s (va_runS (As := [.int a4]) (rest := []) ⟨hx, hb, hml, hown, hts⟩ (k_X2_isPart l a4 _ hcr3) (va_cwS 1 hts gX2_may_X2_isPart rfl rfl rfl (by decide +kernel) ⟨(Nat.le_of_ble_eq_true rfl), (Nat.le_of_ble_eq_true rfl)⟩) pre_s rfl rfl hl.1 rfl (lv_room (Nat.le_of_ble_eq_true rfl)) dX2_may_11 ⟨(Nat.zero_le _), (Nat.zero_le _)⟩) ?_
    refine lv_if_eq (tgt := 25) hx hb dX2_may_14 (by decide) (fun c3 => ?_) (fun c3 => ?_)
    · rw [if_pos c3] at h
      refine lv_ldc2 hx hb hown ht1 dX2_may_25 ?_
      obtain rfl := Option.some.inj h
      exact W.lret hx hb hr (fun t ht _ => ⟨rfl, ht⟩) (fun _ h9 => absurd h9 List.not_mem_nil) dX2_may_28
    · rw [if_neg c3] at h
      refine lv_iload hx hb dX2_may_17 (lv_at hl 5 rfl) ?_
      obtain ⟨r5, hcr5, h⟩ := og_bind h
      refine cp_s (va_runS (As := [.int a5]) (rest := []) ⟨hx, hb, hml, hown, hts⟩ (k_X2_isPart l a5 _ hcr5) (va_cwS 1 hts gX2_may_X2_isPart rfl rfl rfl (by decide +kernel) ⟨(Nat.le_of_ble_eq_true rfl), (Nat.le_of_ble_eq_true rfl)⟩) pre_s rfl rfl hl.1 rfl (lv_room (Nat.le_of_ble_eq_true rfl)) dX2_may_19 ⟨(Nat.zero_le _), (Nat.zero_le _)⟩) ?_
      refine lv_if_ne (tgt := 29) hx hb dX2_may_22 (by decide) (fun c5 => ?_) (fun c5 => ?_)
      · rw [if_neg c5] at h
        refine lv_iload_n hx hb dX2_may_29 rfl (lv_at hl 1 rfl) ?_
        refine lv_iload_n hx hb dX2_may_30 rfl (lv_at hl 2 rfl) ?_
        refine lv_iload_n hx hb dX2_may_31 rfl (lv_at hl 3 rfl) ?_
        refine lv_iload hx hb dX2_may_32 (lv_at hl 4 rfl) ?_
        obtain ⟨r7, hcr7, h⟩ := og_bind h
        refine cp_s (va_runS (As := [.int a1, .int a2, .int a3, .int a4]) (rest := []) ⟨hx, hb, hml, hown, hts⟩ (k_X2_bound l a1 a2 a3 a4 _ hcr7) (va_cwS 4 hts gX2_may_X2_bound rfl rfl rfl (by decide +kernel) ⟨(Nat.le_of_ble_eq_true rfl), (Nat.le_of_ble_eq_true rfl)⟩) pre_s rfl rfl hl.1 rfl (lv_room (Nat.le_of_ble_eq_true rfl)) dX2_may_34 ⟨(Nat.zero_le _), (Nat.zero_le _)⟩) ?_
        refine lv_aload_n hx hb dX2_may_37 rfl (lv_at hl 0 rfl) ?_
        refine va_get (D := D) (ci := 2) (v := .int an) (C := RX2) (T := TX2) (N := 13) hx hb hts hinX2 hown hK hP 0 rfl rfl 4 (by decide) ht2 (fun _ h9 => h9) rfl dX2_may_38 ?_
        refine lv_i2l hx hb dX2_may_41 rfl ?_
        refine lv_lmul hx hb dX2_may_42 ?_
        refine lv_aload_n hx hb dX2_may_43 rfl (lv_at hl 0 rfl) ?_
        refine va_get (D := D) (ci := 2) (v := .int ro) (C := RX2) (T := TX2) (N := 13) hx hb hts hinX2 hown hK hP 0 rfl rfl 3 (by decide) ht4 (fun _ h9 => h9) rfl dX2_may_44 ?_
        refine lv_i2l hx hb dX2_may_47 rfl ?_
        refine lv_lmul hx hb dX2_may_48 ?_
        refine lv_aload_n hx hb dX2_may_49 rfl (lv_at hl 0 rfl) ?_
        refine va_get (D := D) (ci := 2) (v := .int te) (C := RX2) (T := TX2) (N := 13) hx hb hts hinX2 hown hK hP 0 rfl rfl 5 (by decide) ht5 (fun _ h9 => h9) rfl dX2_may_50 ?_
        refine lv_i2l hx hb dX2_may_53 rfl ?_
        refine lv_iload hx hb dX2_may_54 (lv_at hl 5 rfl) ?_
        obtain ⟨r8, hcr8, h⟩ := og_bind h
        refine cp_s (va_runS (As := [.long ((r7 * (an.toInt64)) * (ro.toInt64)), .long (te.toInt64), .int a5]) (rest := []) ⟨hx, hb, hml, hown, hts⟩ (k_X2_term l ((r7 * (an.toInt64)) * (ro.toInt64)) (te.toInt64) a5 _ hcr8) (va_cwS 3 hts gX2_may_X2_term rfl rfl rfl (by decide +kernel) ⟨(Nat.le_of_ble_eq_true rfl), (Nat.le_of_ble_eq_true rfl)⟩) pre_s rfl rfl hl.1 rfl (lv_room (Nat.le_of_ble_eq_true rfl)) dX2_may_56 ⟨(Nat.zero_le _), (Nat.zero_le _)⟩) ?_
        obtain rfl := Option.some.inj h
        exact W.lret hx hb hr (fun t ht _ => ⟨rfl, ht⟩) (fun _ h9 => absurd h9 List.not_mem_nil) dX2_may_59
      · rw [if_pos c5] at h
        refine lv_ldc2 hx hb hown ht1 dX2_may_25 ?_
        obtain rfl := Option.some.inj h
        exact W.lret hx hb hr (fun t ht _ => ⟨rfl, ht⟩) (fun _ h9 => absurd h9 List.not_mem_nil) dX2_may_28
def f_X2_fits (ro : Int32) (pt : Nat → Int32) (px : Nat → Int32) (py : Nat → Int32) (an : Int32) (te : Int32) (a1 : Int32) (a2 : Int32) (a3 : Int32) (a4 : Int32) : Option Int32 :=
  (f_X2_isFigure a1).bind fun r1 =>
  if r1 = (0) then
  (some (-1 : Int32))
  else
  ((f_X2_isCount a2 a3 a4).bind fun r3 =>
  if r3 = (0) then
  (some (-2 : Int32))
  else
  ((f_X2_isClosed pt a1).bind fun r5 =>
  if r5 = (0) then
  (some (-3 : Int32))
  else
  ((f_X2_twiceOf pt px py a1).bind fun r7 =>
  (if (0) ≤ (lg_cmp r7 (0 : Int64)) then
  (some (r7))
  else
  (some (-r7))).bind fun mv8 =>
  ov (mv8 * (te.toInt64)) fun v9 =>
  ov (((2 : Int64) * (an.toInt64)) * (ro.toInt64)) fun v10 =>
  (f_X2_bound a2 a3 a4 (0 : Int32)).bind fun r11 =>
  if (lg_cmp v9 (r11 * v10)) < (0) then
  (some (0 : Int32))
  else
  ((f_X2_bound a2 a3 a4 (1 : Int32)).bind fun r13 =>
  if (0) ≤ (lg_cmp v9 (r13 * v10)) then
  (some (0 : Int32))
  else
  (some (1 : Int32))))))
set_option maxHeartbeats 4000000 in
set_option maxRecDepth 100000 in
theorem k_X2_fits (l : Launch) (D : va_G) (cI cF : ClassId) (m0 : Nat) (m1 : Nat) (m2 : Nat) (m3 : Nat) (m4 : Nat) (m5 : Nat) (pt : Nat → Int32) (px : Nat → Int32) (py : Nat → Int32) (ro : Int32) (an : Int32) (te : Int32) (fx : Int32) (fy : Int32) (ar : Int32) (be : Int32) (ma : Int32) (nx : Nat → Int32) (ny : Nat → Int32) (a1 : Int32) (a2 : Int32) (a3 : Int32) (a4 : Int32) (r0 : Int32) (h : f_X2_fits ro pt px py an te a1 a2 a3 a4 = some r0) : Met l yX2_fits wsX2_fits ({ frames := 2, cells := 0, slots := 0, locals := 46 }) (va_Pc [.ref m0, .int a1, .int a2, .int a3, .int a4] (fun U => wK D cI cF (moW cI m0 m1 m2 m3 m4 m5 pt px py ro an te fx fy ar be ma nx ny) U)) (qS (.int r0)) 0 0 (fun _ => False) := by
  refine Met.ofW (cc := cX2_fits) (maxL := 11) (ret := (some .int)) (by decide) rfl ?_
  intro p e s m args below meth c s₁ B hml hv
  obtain ⟨rfl, hK, hP⟩ := hv
  have hx := B.exec
  have hb := B.bytes
  have hr := B.returns
  have hts := atoms_spec (ws := wsX2_fits) B.pre
  have hown : s.vm.findClass RX2 = some m.cls := findClass_of_methodNamed B.named
  have hlocks := B.notSynchronized
  have ht1 := hts (.fieldLink RX2 26 "DrawnAreasModel" "teeth" "I") (by decide +kernel)
  have hinX2 : ∀ w ∈ u_ws RX2 TX2 13, w ∈ wsX2_fits := by decide +kernel
  have ht3 := hts (.constantLong RX2 120 (2)) (by decide +kernel)
  have ht4 := hts (.fieldLink RX2 23 "DrawnAreasModel" "around" "I") (by decide +kernel)
  have ht5 := hts (.fieldLink RX2 19 "DrawnAreasModel" "rod" "I") (by decide +kernel)
  have hl := lv_entry ([.ref m0, .int a1, .int a2, .int a3, .int a4]) (n := 11) (Nat.le_of_ble_eq_true rfl)
  rw [lg_entry_eq]
  generalize (lg_sl ([.ref m0, .int a1, .int a2, .int a3, .int a4]) ++ List.replicate (11 - (lg_sl ([.ref m0, .int a1, .int a2, .int a3, .int a4])).length) Slot.unset).toArray = ls at hl ⊢
  have hl : lv_has ls 11 [(0, .ref m0), (1, .int a1), (2, .int a2), (3, .int a3), (4, .int a4)] := hl
  unfold f_X2_fits at h
  refine lv_iload_n hx hb dX2_fits_0 rfl (lv_at hl 1 rfl) ?_
  obtain ⟨r1, hcr1, h⟩ := og_bind h
  refine cp_s (va_runS (As := [.int a1]) (rest := []) ⟨hx, hb, hml, hown, hts⟩ (k_X2_isFigure l a1 _ hcr1) (va_cwS 1 hts gX2_fits_X2_isFigure rfl rfl rfl (by decide +kernel) ⟨(Nat.le_of_ble_eq_true rfl), (Nat.le_of_ble_eq_true rfl)⟩) pre_s rfl rfl hl.1 rfl (lv_room (Nat.le_of_ble_eq_true rfl)) dX2_fits_1 ⟨(Nat.zero_le _), (Nat.zero_le _)⟩) ?_
  refine lv_if_ne (tgt := 9) hx hb dX2_fits_4 (by decide) (fun c1 => ?_) (fun c1 => ?_)
  · rw [if_neg c1] at h
    refine lv_iload_n hx hb dX2_fits_9 rfl (lv_at hl 2 rfl) ?_
    refine lv_iload_n hx hb dX2_fits_10 rfl (lv_at hl 3 rfl) ?_
    refine lv_iload hx hb dX2_fits_11 (lv_at hl 4 rfl) ?_
    obtain ⟨r3, hcr3, h⟩ := og_bind h
    refine cp_s (va_runS (As := [.int a2, .int a3, .int a4]) (rest := []) ⟨hx, hb, hml, hown, hts⟩ (k_X2_isCount l a2 a3 a4 _ hcr3) (va_cwS 3 hts gX2_fits_X2_isCount rfl rfl rfl (by decide +kernel) ⟨(Nat.le_of_ble_eq_true rfl), (Nat.le_of_ble_eq_true rfl)⟩) pre_s rfl rfl hl.1 rfl (lv_room (Nat.le_of_ble_eq_true rfl)) dX2_fits_13 ⟨(Nat.zero_le _), (Nat.zero_le _)⟩) ?_
    refine lv_if_ne (tgt := 22) hx hb dX2_fits_16 (by decide) (fun c3 => ?_) (fun c3 => ?_)
    · rw [if_neg c3] at h
      refine lv_aload_n hx hb dX2_fits_22 rfl (lv_at hl 0 rfl) ?_
      refine lv_iload_n hx hb dX2_fits_23 rfl (lv_at hl 1 rfl) ?_
      obtain ⟨r5, hcr5, h⟩ := og_bind h
      refine cp_s (va_runV (As := [.int a1]) (rest := []) ⟨hx, hb, hml, hown, hts⟩ (k_X2_isClosed l D cI cF m0 m1 m2 m3 m4 m5 pt px py ro an te fx fy ar be ma nx ny a1 _ hcr5) (cwV 1 hts gX2_fits_X2_isClosed rfl rfl rfl (by decide +kernel) ⟨(Nat.le_of_ble_eq_true rfl), (Nat.le_of_ble_eq_true rfl)⟩) (pre_v (q0 := 0) (ci := 2) hK hP rfl rfl) rfl rfl hl.1 rfl (lv_room (Nat.le_of_ble_eq_true rfl)) dX2_fits_24 ⟨(Nat.zero_le _), (Nat.zero_le _)⟩) ?_
      refine lv_if_ne (tgt := 33) hx hb dX2_fits_27 (by decide) (fun c5 => ?_) (fun c5 => ?_)
      · rw [if_neg c5] at h
        refine lv_aload_n hx hb dX2_fits_33 rfl (lv_at hl 0 rfl) ?_
        refine lv_iload_n hx hb dX2_fits_34 rfl (lv_at hl 1 rfl) ?_
        obtain ⟨r7, hcr7, h⟩ := og_bind h
        refine cp_s (va_runV (As := [.int a1]) (rest := []) ⟨hx, hb, hml, hown, hts⟩ (k_X2_twiceOf l D cI cF m0 m1 m2 m3 m4 m5 pt px py ro an te fx fy ar be ma nx ny a1 _ hcr7) (cwV 1 hts gX2_fits_X2_twiceOf rfl rfl rfl (by decide +kernel) ⟨(Nat.le_of_ble_eq_true rfl), (Nat.le_of_ble_eq_true rfl)⟩) (pre_v (q0 := 0) (ci := 2) hK hP rfl rfl) rfl rfl hl.1 rfl (lv_room (Nat.le_of_ble_eq_true rfl)) dX2_fits_35 ⟨(Nat.zero_le _), (Nat.zero_le _)⟩) ?_
        refine lv_lstore (lv' := [(5, .long r7), (0, .ref m0), (1, .int a1), (2, .int a2), (3, .int a3), (4, .int a4)]) hx hb dX2_fits_38 hl (by decide) rfl (fun ls hl => ?_)
        refine lv_lload hx hb dX2_fits_40 (lv_at hl 0 rfl) ?_
        refine lv_lconst (v := 0) hx hb dX2_fits_42 (by decide) ?_
        refine W.lcmp hx hb dX2_fits_43 ?_
        obtain ⟨mv8, hm55, h⟩ := og_bind h
        refine wj (PC := 55) (ST := [.long mv8]) (fun ls => lv_has ls 11 [(0, .ref m0), (2, .int a2), (3, .int a3), (4, .int a4)]) (fun ls hl => ?_) (fun KJ55 => ?_)
        · refine lv_aload_n hx hb dX2_fits_55 rfl (lv_at hl 0 rfl) ?_
          refine va_get (D := D) (ci := 2) (v := .int te) (C := RX2) (T := TX2) (N := 13) hx hb hts hinX2 hown hK hP 0 rfl rfl 5 (by decide) ht1 (fun _ h9 => h9) rfl dX2_fits_56 ?_
          refine lv_i2l hx hb dX2_fits_59 rfl ?_
          refine lv_lmul hx hb dX2_fits_60 ?_
          refine lv_topl (fun v9 ev9 => ?_)
          have h := og_ov h ev9
          refine lv_lstore (lv' := [(7, .long v9), (0, .ref m0), (2, .int a2), (3, .int a3), (4, .int a4)]) hx hb dX2_fits_61 hl (by decide) rfl (fun ls hl => ?_)
          refine lv_ldc2 hx hb hown ht3 dX2_fits_63 ?_
          refine lv_aload_n hx hb dX2_fits_66 rfl (lv_at hl 1 rfl) ?_
          refine va_get (D := D) (ci := 2) (v := .int an) (C := RX2) (T := TX2) (N := 13) hx hb hts hinX2 hown hK hP 0 rfl rfl 4 (by decide) ht4 (fun _ h9 => h9) rfl dX2_fits_67 ?_
          refine lv_i2l hx hb dX2_fits_70 rfl ?_
          refine lv_lmul hx hb dX2_fits_71 ?_
          refine lv_aload_n hx hb dX2_fits_72 rfl (lv_at hl 1 rfl) ?_
          refine va_get (D := D) (ci := 2) (v := .int ro) (C := RX2) (T := TX2) (N := 13) hx hb hts hinX2 hown hK hP 0 rfl rfl 3 (by decide) ht5 (fun _ h9 => h9) rfl dX2_fits_73 ?_
          refine lv_i2l hx hb dX2_fits_76 rfl ?_
          refine lv_lmul hx hb dX2_fits_77 ?_
          refine lv_topl (fun v10 ev10 => ?_)
          have h := og_ov h ev10
          refine lv_lstore (lv' := [(9, .long v10), (7, .long v9), (0, .ref m0), (2, .int a2), (3, .int a3), (4, .int a4)]) hx hb dX2_fits_78 hl (by decide) rfl (fun ls hl => ?_)
          refine lv_lload hx hb dX2_fits_80 (lv_at hl 1 rfl) ?_
          refine lv_iload_n hx hb dX2_fits_82 rfl (lv_at hl 3 rfl) ?_
          refine lv_iload_n hx hb dX2_fits_83 rfl (lv_at hl 4 rfl) ?_
          refine lv_iload hx hb dX2_fits_84 (lv_at hl 5 rfl) ?_
          refine lv_iconst (v := 0) hx hb dX2_fits_86 (by decide) ?_
          obtain ⟨r11, hcr11, h⟩ := og_bind h
          refine cp_s (va_runS (As := [.int a2, .int a3, .int a4, .int (0 : Int32)]) (rest := [.long v9]) ⟨hx, hb, hml, hown, hts⟩ (k_X2_bound l a2 a3 a4 (0 : Int32) _ hcr11) (va_cwS 4 hts gX2_fits_X2_bound rfl rfl rfl (by decide +kernel) ⟨(Nat.le_of_ble_eq_true rfl), (Nat.le_of_ble_eq_true rfl)⟩) pre_s rfl rfl hl.1 rfl (lv_room (Nat.le_of_ble_eq_true rfl)) dX2_fits_87 ⟨(Nat.zero_le _), (Nat.zero_le _)⟩) ?_
          refine lv_lload hx hb dX2_fits_90 (lv_at hl 0 rfl) ?_
          refine lv_lmul hx hb dX2_fits_92 ?_
          refine W.lcmp hx hb dX2_fits_93 ?_
          refine lv_if_lt (tgt := 118) hx hb dX2_fits_94 (by decide) (fun c11 => ?_) (fun c11 => ?_)
          · rw [if_pos c11] at h
            refine lv_iconst (v := 0) hx hb dX2_fits_118 (by decide) ?_
            obtain rfl := Option.some.inj h
            exact W.iret hx hb hr (fun t ht _ => ⟨rfl, ht⟩) (fun _ h9 => absurd h9 List.not_mem_nil) dX2_fits_119
          · rw [if_neg c11] at h
            refine lv_lload hx hb dX2_fits_97 (lv_at hl 1 rfl) ?_
            refine lv_iload_n hx hb dX2_fits_99 rfl (lv_at hl 3 rfl) ?_
            refine lv_iload_n hx hb dX2_fits_100 rfl (lv_at hl 4 rfl) ?_
            refine lv_iload hx hb dX2_fits_101 (lv_at hl 5 rfl) ?_
            refine lv_iconst (v := 1) hx hb dX2_fits_103 (by decide) ?_
            obtain ⟨r13, hcr13, h⟩ := og_bind h
            refine cp_s (va_runS (As := [.int a2, .int a3, .int a4, .int (1 : Int32)]) (rest := [.long v9]) ⟨hx, hb, hml, hown, hts⟩ (k_X2_bound l a2 a3 a4 (1 : Int32) _ hcr13) (va_cwS 4 hts gX2_fits_X2_bound rfl rfl rfl (by decide +kernel) ⟨(Nat.le_of_ble_eq_true rfl), (Nat.le_of_ble_eq_true rfl)⟩) pre_s rfl rfl hl.1 rfl (lv_room (Nat.le_of_ble_eq_true rfl)) dX2_fits_104 ⟨(Nat.zero_le _), (Nat.zero_le _)⟩) ?_
            refine lv_lload hx hb dX2_fits_107 (lv_at hl 0 rfl) ?_
            refine lv_lmul hx hb dX2_fits_109 ?_
            refine W.lcmp hx hb dX2_fits_110 ?_
            refine lv_if_ge (tgt := 118) hx hb dX2_fits_111 (by decide) (fun c13 => ?_) (fun c13 => ?_)
            · rw [if_pos c13] at h
              refine lv_iconst (v := 0) hx hb dX2_fits_118 (by decide) ?_
              obtain rfl := Option.some.inj h
              exact W.iret hx hb hr (fun t ht _ => ⟨rfl, ht⟩) (fun _ h9 => absurd h9 List.not_mem_nil) dX2_fits_119
            · rw [if_neg c13] at h
              refine lv_iconst (v := 1) hx hb dX2_fits_114 (by decide) ?_
              refine lv_goto (tgt := 119) hx hb dX2_fits_115 (by decide) ?_
              obtain rfl := Option.some.inj h
              exact W.iret hx hb hr (fun t ht _ => ⟨rfl, ht⟩) (fun _ h9 => absurd h9 List.not_mem_nil) dX2_fits_119
        · have h := hm55
          refine lv_if_ge (tgt := 53) hx hb dX2_fits_44 (by decide) (fun c14 => ?_) (fun c14 => ?_)
          · rw [if_pos c14] at h
            refine lv_lload hx hb dX2_fits_53 (lv_at hl 0 rfl) ?_
            obtain rfl := Option.some.inj h
            exact KJ55 ls (lv_sub hl [1, 3, 4, 5] rfl)
          · rw [if_neg c14] at h
            refine lv_lload hx hb dX2_fits_47 (lv_at hl 0 rfl) ?_
            refine lv_lneg hx hb dX2_fits_49 ?_
            refine lv_goto (tgt := 55) hx hb dX2_fits_50 (by decide) ?_
            obtain rfl := Option.some.inj h
            exact KJ55 ls (lv_sub hl [1, 3, 4, 5] rfl)
      · rw [if_pos c5] at h
        refine lv_bipush (v := -3) hx hb dX2_fits_30 (by decide) ?_
        obtain rfl := Option.some.inj h
        exact W.iret hx hb hr (fun t ht _ => ⟨rfl, ht⟩) (fun _ h9 => absurd h9 List.not_mem_nil) dX2_fits_32
    · rw [if_pos c3] at h
      refine lv_bipush (v := -2) hx hb dX2_fits_19 (by decide) ?_
      obtain rfl := Option.some.inj h
      exact W.iret hx hb hr (fun t ht _ => ⟨rfl, ht⟩) (fun _ h9 => absurd h9 List.not_mem_nil) dX2_fits_21
  · rw [if_pos c1] at h
    refine lv_iconst (v := -1) hx hb dX2_fits_7 (by decide) ?_
    obtain rfl := Option.some.inj h
    exact W.iret hx hb hr (fun t ht _ => ⟨rfl, ht⟩) (fun _ h9 => absurd h9 List.not_mem_nil) dX2_fits_8
