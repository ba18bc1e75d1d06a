def f_X0_has (n : Int32) (a1 : Int32) : Option Int32 :=
  if a1 < (0) then
  (some (0 : Int32))
  else
  (if n ≤ a1 then
  (some (0 : Int32))
  else
  (some (1 : Int32)))
set_option maxHeartbeats 4000000 in
set_option maxRecDepth 100000 in
theorem k_X0_has (l : Launch) (D : va_G) (cI cF : ClassId) (q : Nat) (qx : Nat) (qy : Nat) (xs : Nat → Int32) (ys : Nat → Int32) (n : Int32) (a1 : Int32) (r0 : Int32) (h : f_X0_has n a1 = some r0) : Met l yX0_has wsX0_has ({ frames := 0, cells := 0, slots := 0, locals := 0 }) (va_Pc [.ref q, .int a1] (fun U => wK D cI cF (figW cI q qx qy xs ys n) U)) (qS (.int r0)) 0 0 (fun _ => False) := by
  refine Met.ofW (cc := cX0_has) (maxL := 2) (ret := (some .boolean)) (by decide) rfl ?_
  intro p e s m args below meth c s₁ B hml hv
  obtain ⟨rfl, hK, hP⟩ := hv
  have hx := B.exec
  have hb := B.bytes
  have hr := B.returns
  have hts := atoms_spec (ws := wsX0_has) B.pre
  have hown : s.vm.findClass RX0 = some m.cls := findClass_of_methodNamed B.named
  have hlocks := B.notSynchronized
  have ht1 := hts (.fieldLink RX0 18 "DrawnAreas$Figure" "size" "I") (by decide +kernel)
  have hinX0 : ∀ w ∈ u_ws RX0 TX0 3, w ∈ wsX0_has := by decide +kernel
  have hl := lv_entry ([.ref q, .int a1]) (n := 2) (Nat.le_of_ble_eq_true rfl)
  rw [lg_entry_eq]
  generalize (lg_sl ([.ref q, .int a1]) ++ List.replicate (2 - (lg_sl ([.ref q, .int a1])).length) Slot.unset).toArray = ls at hl ⊢
  have hl : lv_has ls 2 [(0, .ref q), (1, .int a1)] := hl
  unfold f_X0_has at h
  refine lv_iload_n hx hb dX0_has_0 rfl (lv_at hl 1 rfl) ?_
  refine lv_if_lt (tgt := 16) hx hb dX0_has_1 (by decide) (fun c0 => ?_) (fun c0 => ?_)
  · rw [if_pos c0] at h
    refine lv_iconst (v := 0) hx hb dX0_has_16 (by decide) ?_
    obtain rfl := Option.some.inj h
    exact W.zret hx hb hr rfl (fun t ht _ => ⟨rfl, ht⟩) (fun _ h9 => absurd h9 List.not_mem_nil) dX0_has_17
  · rw [if_neg c0] at h
    refine lv_iload_n hx hb dX0_has_4 rfl (lv_at hl 1 rfl) ?_
    refine lv_aload_n hx hb dX0_has_5 rfl (lv_at hl 0 rfl) ?_
    refine va_get (D := D) (ci := 0) (v := .int n) (C := RX0) (T := TX0) (N := 3) hx hb hts hinX0 hown hK hP 0 rfl rfl 2 (by decide) ht1 (fun _ h9 => h9) rfl dX0_has_6 ?_
    refine lv_icmp_ge (tgt := 16) hx hb dX0_has_9 (by decide) (fun c1 => ?_) (fun c1 => ?_)
    · rw [if_pos c1] at h
      refine lv_iconst (v := 0) hx hb dX0_has_16 (by decide) ?_
      obtain rfl := Option.some.inj h
      exact W.zret hx hb hr rfl (fun t ht _ => ⟨rfl, ht⟩) (fun _ h9 => absurd h9 List.not_mem_nil) dX0_has_17
    · rw [if_neg c1] at h
      refine lv_iconst (v := 1) hx hb dX0_has_12 (by decide) ?_
      refine lv_goto (tgt := 17) hx hb dX0_has_13 (by decide) ?_
      obtain rfl := Option.some.inj h
      exact W.zret hx hb hr rfl (fun t ht _ => ⟨rfl, ht⟩) (fun _ h9 => absurd h9 List.not_mem_nil) dX0_has_17
def f_X0_closed (n : Int32) : Option Int32 :=
  if n < (3 : Int32) then
  (some (0 : Int32))
  else
  (some (1 : Int32))
set_option maxHeartbeats 4000000 in
set_option maxRecDepth 100000 in
theorem k_X0_closed (l : Launch) (D : va_G) (cI cF : ClassId) (q : Nat) (qx : Nat) (qy : Nat) (xs : Nat → Int32) (ys : Nat → Int32) (n : Int32) (r0 : Int32) (h : f_X0_closed n = some r0) : Met l yX0_closed wsX0_closed ({ frames := 0, cells := 0, slots := 0, locals := 0 }) (va_Pc [.ref q] (fun U => wK D cI cF (figW cI q qx qy xs ys n) U)) (qS (.int r0)) 0 0 (fun _ => False) := by
  refine Met.ofW (cc := cX0_closed) (maxL := 1) (ret := (some .boolean)) (by decide) rfl ?_
  intro p e s m args below meth c s₁ B hml hv
  obtain ⟨rfl, hK, hP⟩ := hv
  have hx := B.exec
  have hb := B.bytes
  have hr := B.returns
  have hts := atoms_spec (ws := wsX0_closed) B.pre
  have hown : s.vm.findClass RX0 = some m.cls := findClass_of_methodNamed B.named
  have hlocks := B.notSynchronized
  have ht1 := hts (.fieldLink RX0 18 "DrawnAreas$Figure" "size" "I") (by decide +kernel)
  have hinX0 : ∀ w ∈ u_ws RX0 TX0 3, w ∈ wsX0_closed := by decide +kernel
  have hl := lv_entry ([.ref q]) (n := 1) (Nat.le_of_ble_eq_true rfl)
  rw [lg_entry_eq]
  generalize (lg_sl ([.ref q]) ++ List.replicate (1 - (lg_sl ([.ref q])).length) Slot.unset).toArray = ls at hl ⊢
  have hl : lv_has ls 1 [(0, .ref q)] := hl
  unfold f_X0_closed at h
  refine lv_aload_n hx hb dX0_closed_0 rfl (lv_at hl 0 rfl) ?_
  refine va_get (D := D) (ci := 0) (v := .int n) (C := RX0) (T := TX0) (N := 3) hx hb hts hinX0 hown hK hP 0 rfl rfl 2 (by decide) ht1 (fun _ h9 => h9) rfl dX0_closed_1 ?_
  refine lv_iconst (v := 3) hx hb dX0_closed_4 (by decide) ?_
  refine lv_icmp_lt (tgt := 12) hx hb dX0_closed_5 (by decide) (fun c0 => ?_) (fun c0 => ?_)
  · rw [if_pos c0] at h
    refine lv_iconst (v := 0) hx hb dX0_closed_12 (by decide) ?_
    obtain rfl := Option.some.inj h
    exact W.zret hx hb hr rfl (fun t ht _ => ⟨rfl, ht⟩) (fun _ h9 => absurd h9 List.not_mem_nil) dX0_closed_13
  · rw [if_neg c0] at h
    refine lv_iconst (v := 1) hx hb dX0_closed_8 (by decide) ?_
    refine lv_goto (tgt := 13) hx hb dX0_closed_9 (by decide) ?_
    obtain rfl := Option.some.inj h
    exact W.zret hx hb hr rfl (fun t ht _ => ⟨rfl, ht⟩) (fun _ h9 => absurd h9 List.not_mem_nil) dX0_closed_13
def f_X0_x (xs : Nat → Int32) (a1 : Int32) : Option Int32 :=
  if a1 < (0) then
  (some (0 : Int32))
  else
  (if (24 : Int32) ≤ a1 then
  (some (0 : Int32))
  else
  (if bin a1 24 = true then
  some (xs a1.toNatClampNeg)
  else none))
set_option maxHeartbeats 4000000 in
set_option maxRecDepth 100000 in
theorem k_X0_x (l : Launch) (D : va_G) (cI cF : ClassId) (q : Nat) (qx : Nat) (qy : Nat) (xs : Nat → Int32) (ys : Nat → Int32) (n : Int32) (a1 : Int32) (r0 : Int32) (h : f_X0_x xs a1 = some r0) : Met l yX0_x wsX0_x ({ frames := 0, cells := 0, slots := 0, locals := 0 }) (va_Pc [.ref q, .int a1] (fun U => wK D cI cF (figW cI q qx qy xs ys n) U)) (qS (.int r0)) 0 0 (fun _ => False) := by
  refine Met.ofW (cc := cX0_x) (maxL := 2) (ret := (some .int)) (by decide) rfl ?_
  intro p e s m args below meth c s₁ B hml hv
  obtain ⟨rfl, hK, hP⟩ := hv
  have hx := B.exec
  have hb := B.bytes
  have hr := B.returns
  have hts := atoms_spec (ws := wsX0_x) B.pre
  have hown : s.vm.findClass RX0 = some m.cls := findClass_of_methodNamed B.named
  have hlocks := B.notSynchronized
  have ht1 := hts (.fieldLink RX0 9 "DrawnAreas$Figure" "xs" "[I") (by decide +kernel)
  have hinX0 : ∀ w ∈ u_ws RX0 TX0 3, w ∈ wsX0_x := by decide +kernel
  have hl := lv_entry ([.ref q, .int a1]) (n := 2) (Nat.le_of_ble_eq_true rfl)
  rw [lg_entry_eq]
  generalize (lg_sl ([.ref q, .int a1]) ++ List.replicate (2 - (lg_sl ([.ref q, .int a1])).length) Slot.unset).toArray = ls at hl ⊢
  have hl : lv_has ls 2 [(0, .ref q), (1, .int a1)] := hl
  unfold f_X0_x at h
  refine lv_iload_n hx hb dX0_x_0 rfl (lv_at hl 1 rfl) ?_
  refine lv_if_lt (tgt := 22) hx hb dX0_x_1 (by decide) (fun c0 => ?_) (fun c0 => ?_)
  · rw [if_pos c0] at h
    refine lv_iconst (v := 0) hx hb dX0_x_22 (by decide) ?_
    obtain rfl := Option.some.inj h
    exact W.iret hx hb hr (fun t ht _ => ⟨rfl, ht⟩) (fun _ h9 => absurd h9 List.not_mem_nil) dX0_x_23
  · rw [if_neg c0] at h
    refine lv_iload_n hx hb dX0_x_4 rfl (lv_at hl 1 rfl) ?_
    refine lv_aload_n hx hb dX0_x_5 rfl (lv_at hl 0 rfl) ?_
    refine va_get (D := D) (ci := 0) (v := .ref qx) (C := RX0) (T := TX0) (N := 3) hx hb hts hinX0 hown hK hP 0 rfl rfl 0 (by decide) ht1 (fun _ h9 => h9) rfl dX0_x_6 ?_
    refine va_alen hx hb hK hP 1 0 rfl rfl (v := 24) rfl dX0_x_9 ?_
    refine lv_icmp_ge (tgt := 22) hx hb dX0_x_10 (by decide) (fun c1 => ?_) (fun c1 => ?_)
    · rw [if_pos c1] at h
      refine lv_iconst (v := 0) hx hb dX0_x_22 (by decide) ?_
      obtain rfl := Option.some.inj h
      exact W.iret hx hb hr (fun t ht _ => ⟨rfl, ht⟩) (fun _ h9 => absurd h9 List.not_mem_nil) dX0_x_23
    · rw [if_neg c1] at h
      refine lv_aload_n hx hb dX0_x_13 rfl (lv_at hl 0 rfl) ?_
      refine va_get (D := D) (ci := 0) (v := .ref qx) (C := RX0) (T := TX0) (N := 3) hx hb hts hinX0 hown hK hP 0 rfl rfl 0 (by decide) ht1 (fun _ h9 => h9) rfl dX0_x_14 ?_
      refine lv_iload_n hx hb dX0_x_17 rfl (lv_at hl 1 rfl) ?_
      obtain ⟨gi2, h⟩ := og_in h
      refine va_iald hx hb hK hP 1 0 rfl rfl gi2 dX0_x_18 ?_
      refine lv_goto (tgt := 23) hx hb dX0_x_19 (by decide) ?_
      obtain rfl := Option.some.inj h
      exact W.iret hx hb hr (fun t ht _ => ⟨rfl, ht⟩) (fun _ h9 => absurd h9 List.not_mem_nil) dX0_x_23
def f_X0_y (ys : Nat → Int32) (a1 : Int32) : Option Int32 :=
  if a1 < (0) then
  (some (0 : Int32))
  else
  (if (24 : Int32) ≤ a1 then
  (some (0 : Int32))
  else
  (if bin a1 24 = true then
  some (ys a1.toNatClampNeg)
  else none))
set_option maxHeartbeats 4000000 in
set_option maxRecDepth 100000 in
theorem k_X0_y (l : Launch) (D : va_G) (cI cF : ClassId) (q : Nat) (qx : Nat) (qy : Nat) (xs : Nat → Int32) (ys : Nat → Int32) (n : Int32) (a1 : Int32) (r0 : Int32) (h : f_X0_y ys a1 = some r0) : Met l yX0_y wsX0_y ({ frames := 0, cells := 0, slots := 0, locals := 0 }) (va_Pc [.ref q, .int a1] (fun U => wK D cI cF (figW cI q qx qy xs ys n) U)) (qS (.int r0)) 0 0 (fun _ => False) := by
  refine Met.ofW (cc := cX0_y) (maxL := 2) (ret := (some .int)) (by decide) rfl ?_
  intro p e s m args below meth c s₁ B hml hv
  obtain ⟨rfl, hK, hP⟩ := hv
  have hx := B.exec
  have hb := B.bytes
  have hr := B.returns
  have hts := atoms_spec (ws := wsX0_y) B.pre
  have hown : s.vm.findClass RX0 = some m.cls := findClass_of_methodNamed B.named
  have hlocks := B.notSynchronized
  have ht1 := hts (.fieldLink RX0 15 "DrawnAreas$Figure" "ys" "[I") (by decide +kernel)
  have hinX0 : ∀ w ∈ u_ws RX0 TX0 3, w ∈ wsX0_y := by decide +kernel
  have hl := lv_entry ([.ref q, .int a1]) (n := 2) (Nat.le_of_ble_eq_true rfl)
  rw [lg_entry_eq]
  generalize (lg_sl ([.ref q, .int a1]) ++ List.replicate (2 - (lg_sl ([.ref q, .int a1])).length) Slot.unset).toArray = ls at hl ⊢
  have hl : lv_has ls 2 [(0, .ref q), (1, .int a1)] := hl
  unfold f_X0_y at h
  refine lv_iload_n hx hb dX0_y_0 rfl (lv_at hl 1 rfl) ?_
  refine lv_if_lt (tgt := 22) hx hb dX0_y_1 (by decide) (fun c0 => ?_) (fun c0 => ?_)
  · rw [if_pos c0] at h
    refine lv_iconst (v := 0) hx hb dX0_y_22 (by decide) ?_
    obtain rfl := Option.some.inj h
    exact W.iret hx hb hr (fun t ht _ => ⟨rfl, ht⟩) (fun _ h9 => absurd h9 List.not_mem_nil) dX0_y_23
  · rw [if_neg c0] at h
    refine lv_iload_n hx hb dX0_y_4 rfl (lv_at hl 1 rfl) ?_
    refine lv_aload_n hx hb dX0_y_5 rfl (lv_at hl 0 rfl) ?_
    refine va_get (D := D) (ci := 0) (v := .ref qy) (C := RX0) (T := TX0) (N := 3) hx hb hts hinX0 hown hK hP 0 rfl rfl 1 (by decide) ht1 (fun _ h9 => h9) rfl dX0_y_6 ?_
    refine va_alen hx hb hK hP 2 0 rfl rfl (v := 24) rfl dX0_y_9 ?_
    refine lv_icmp_ge (tgt := 22) hx hb dX0_y_10 (by decide) (fun c1 => ?_) (fun c1 => ?_)
    · rw [if_pos c1] at h
      refine lv_iconst (v := 0) hx hb dX0_y_22 (by decide) ?_
      obtain rfl := Option.some.inj h
      exact W.iret hx hb hr (fun t ht _ => ⟨rfl, ht⟩) (fun _ h9 => absurd h9 List.not_mem_nil) dX0_y_23
    · rw [if_neg c1] at h
      refine lv_aload_n hx hb dX0_y_13 rfl (lv_at hl 0 rfl) ?_
      refine va_get (D := D) (ci := 0) (v := .ref qy) (C := RX0) (T := TX0) (N := 3) hx hb hts hinX0 hown hK hP 0 rfl rfl 1 (by decide) ht1 (fun _ h9 => h9) rfl dX0_y_14 ?_
      refine lv_iload_n hx hb dX0_y_17 rfl (lv_at hl 1 rfl) ?_
      obtain ⟨gi2, h⟩ := og_in h
      refine va_iald hx hb hK hP 2 0 rfl rfl gi2 dX0_y_18 ?_
      refine lv_goto (tgt := 23) hx hb dX0_y_19 (by decide) ?_
      obtain rfl := Option.some.inj h
      exact W.iret hx hb hr (fun t ht _ => ⟨rfl, ht⟩) (fun _ h9 => absurd h9 List.not_mem_nil) dX0_y_23
def f_X0_next (n : Int32) (a1 : Int32) : Option Int32 :=
  if n ≤ (a1 + (1 : Int32)) then
  (some (0 : Int32))
  else
  (some (a1 + (1 : Int32)))
set_option maxHeartbeats 4000000 in
set_option maxRecDepth 100000 in
theorem k_X0_next (l : Launch) (D : va_G) (cI cF : ClassId) (q : Nat) (qx : Nat) (qy : Nat) (xs : Nat → Int32) (ys : Nat → Int32) (n : Int32) (a1 : Int32) (r0 : Int32) (h : f_X0_next n a1 = some r0) : Met l yX0_next wsX0_next ({ frames := 0, cells := 0, slots := 0, locals := 0 }) (va_Pc [.ref q, .int a1] (fun U => wK D cI cF (figW cI q qx qy xs ys n) U)) (qS (.int r0)) 0 0 (fun _ => False) := by
  refine Met.ofW (cc := cX0_next) (maxL := 2) (ret := (some .int)) (by decide) rfl ?_
  intro p e s m args below meth c s₁ B hml hv
  obtain ⟨rfl, hK, hP⟩ := hv
  have hx := B.exec
  have hb := B.bytes
  have hr := B.returns
  have hts := atoms_spec (ws := wsX0_next) B.pre
  have hown : s.vm.findClass RX0 = some m.cls := findClass_of_methodNamed B.named
  have hlocks := B.notSynchronized
  have ht1 := hts (.fieldLink RX0 18 "DrawnAreas$Figure" "size" "I") (by decide +kernel)
  have hinX0 : ∀ w ∈ u_ws RX0 TX0 3, w ∈ wsX0_next := by decide +kernel
  have hl := lv_entry ([.ref q, .int a1]) (n := 2) (Nat.le_of_ble_eq_true rfl)
  rw [lg_entry_eq]
  generalize (lg_sl ([.ref q, .int a1]) ++ List.replicate (2 - (lg_sl ([.ref q, .int a1])).length) Slot.unset).toArray = ls at hl ⊢
  have hl : lv_has ls 2 [(0, .ref q), (1, .int a1)] := hl
  unfold f_X0_next at h
  refine lv_iload_n hx hb dX0_next_0 rfl (lv_at hl 1 rfl) ?_
  refine lv_iconst (v := 1) hx hb dX0_next_1 (by decide) ?_
  refine lv_iadd hx hb dX0_next_2 ?_
  refine lv_aload_n hx hb dX0_next_3 rfl (lv_at hl 0 rfl) ?_
  refine va_get (D := D) (ci := 0) (v := .int n) (C := RX0) (T := TX0) (N := 3) hx hb hts hinX0 hown hK hP 0 rfl rfl 2 (by decide) ht1 (fun _ h9 => h9) rfl dX0_next_4 ?_
  refine lv_icmp_ge (tgt := 16) hx hb dX0_next_7 (by decide) (fun c0 => ?_) (fun c0 => ?_)
  · rw [if_pos c0] at h
    refine lv_iconst (v := 0) hx hb dX0_next_16 (by decide) ?_
    obtain rfl := Option.some.inj h
    exact W.iret hx hb hr (fun t ht _ => ⟨rfl, ht⟩) (fun _ h9 => absurd h9 List.not_mem_nil) dX0_next_17
  · rw [if_neg c0] at h
    refine lv_iload_n hx hb dX0_next_10 rfl (lv_at hl 1 rfl) ?_
    refine lv_iconst (v := 1) hx hb dX0_next_11 (by decide) ?_
    refine lv_iadd hx hb dX0_next_12 ?_
    refine lv_goto (tgt := 17) hx hb dX0_next_13 (by decide) ?_
    obtain rfl := Option.some.inj h
    exact W.iret hx hb hr (fun t ht _ => ⟨rfl, ht⟩) (fun _ h9 => absurd h9 List.not_mem_nil) dX0_next_17
def s_X0_mixedPowers_9 (a1 : Int64) (a2 : Int64) (a3 : Int32) (u9 : (Int64 × Int64 × Int32)) : Option ((Int64 × Int64 × Int32) ⊕ Int64) :=
  if a3 ≤ u9.2.2 then
  (some (.inr u9.1))
  else
  (ov (u9.2.1 * a2) fun v2 =>
  ov ((u9.1 * a1) + v2) fun v3 =>
  ov (u9.2.2 + (1 : Int32)) fun v4 =>
  some (.inl (v3, v2, v4)))
def f_X0_mixedPowers (a1 : Int64) (a2 : Int64) (a3 : Int32) : Option Int64 :=
  (lpf (s_X0_mixedPowers_9 a1 a2 a3) 1000 ((1 : Int64), (1 : Int64), (0 : Int32))).bind fun x5 =>
  some x5
set_option maxHeartbeats 4000000 in
set_option maxRecDepth 100000 in
theorem k_X0_mixedPowers (l : Launch) (a1 : Int64) (a2 : Int64) (a3 : Int32) (r0 : Int64) (h : f_X0_mixedPowers a1 a2 a3 = some r0) : Met l yX0_mixedPowers wsX0_mixedPowers ({ frames := 0, cells := 0, slots := 0, locals := 0 }) (va_Pc [.long a1, .long a2, .int a3] (fun _ => True)) (qS (.long r0)) 0 0 (fun _ => False) := by
  refine Met.ofW (cc := cX0_mixedPowers) (maxL := 10) (ret := (some .long)) (by decide) rfl ?_
  intro p e s m args below meth c s₁ B hml hv
  obtain ⟨rfl, -⟩ := hv
  have hx := B.exec
  have hb := B.bytes
  have hr := B.returns
  have hts := atoms_spec (ws := wsX0_mixedPowers) B.pre
  have hown : s.vm.findClass RX0 = some m.cls := findClass_of_methodNamed B.named
  have hlocks := B.notSynchronized
  have hl := lv_entry ([.long a1, .long a2, .int a3]) (n := 10) (Nat.le_of_ble_eq_true rfl)
  rw [lg_entry_eq]
  generalize (lg_sl ([.long a1, .long a2, .int a3]) ++ List.replicate (10 - (lg_sl ([.long a1, .long a2, .int a3])).length) Slot.unset).toArray = ls at hl ⊢
  have hl : lv_has ls 10 [(0, .long a1), (2, .long a2), (4, .int a3)] := hl
  unfold f_X0_mixedPowers at h
  refine lv_lconst (v := 1) hx hb dX0_mixedPowers_0 (by decide) ?_
  refine lv_lstore (lv' := [(5, .long (1 : Int64)), (0, .long a1), (2, .long a2), (4, .int a3)]) hx hb dX0_mixedPowers_1 hl (by decide) rfl (fun ls hl => ?_)
  refine lv_lconst (v := 1) hx hb dX0_mixedPowers_3 (by decide) ?_
  refine lv_lstore (lv' := [(7, .long (1 : Int64)), (5, .long (1 : Int64)), (0, .long a1), (2, .long a2), (4, .int a3)]) hx hb dX0_mixedPowers_4 hl (by decide) rfl (fun ls hl => ?_)
  refine lv_iconst (v := 0) hx hb dX0_mixedPowers_6 (by decide) ?_
  refine lv_istore (lv' := [(9, .int (0 : Int32)), (7, .long (1 : Int64)), (5, .long (1 : Int64)), (0, .long a1), (2, .long a2), (4, .int a3)]) hx hb dX0_mixedPowers_7 hl (by decide) rfl (fun ls hl => ?_)
  obtain ⟨x5, hN9, h⟩ := og_bind h
  refine wl hN9 9 37 (fun u9 ls => lv_has ls 10 [(0, .long a1), (2, .long a2), (4, .int a3), (5, .long u9.1), (7, .long u9.2.1), (9, .int u9.2.2)]) (fun x5 ls => lv_has ls 10 [(5, .long x5)]) (fun u9 xx h ki9 kx9 ls hl => ?_) (fun ls hl => ?_) (lv_sub hl [3, 4, 5, 2, 1, 0] rfl)
  · unfold s_X0_mixedPowers_9 at h
    refine lv_iload hx hb dX0_mixedPowers_9 (lv_at hl 5 rfl) ?_
    refine lv_iload hx hb dX0_mixedPowers_11 (lv_at hl 2 rfl) ?_
    refine lv_icmp_ge (tgt := 37) hx hb dX0_mixedPowers_13 (by decide) (fun c0 => ?_) (fun c0 => ?_)
    · rw [if_pos c0] at h
      exact kx9 _ ls (Option.some.inj h).symm (lv_sub hl [3] rfl)
    · rw [if_neg c0] at h
      refine lv_lload hx hb dX0_mixedPowers_16 (lv_at hl 4 rfl) ?_
      refine lv_lload_n hx hb dX0_mixedPowers_18 rfl (lv_at hl 1 rfl) ?_
      refine lv_lmul hx hb dX0_mixedPowers_19 ?_
      refine lv_topl (fun v2 ev2 => ?_)
      have h := og_ov h ev2
      refine lv_lstore (lv' := [(7, .long v2), (0, .long a1), (2, .long a2), (4, .int a3), (5, .long u9.1), (9, .int u9.2.2)]) hx hb dX0_mixedPowers_20 hl (by decide) rfl (fun ls hl => ?_)
      refine lv_lload hx hb dX0_mixedPowers_22 (lv_at hl 4 rfl) ?_
      refine lv_lload_n hx hb dX0_mixedPowers_24 rfl (lv_at hl 1 rfl) ?_
      refine lv_lmul hx hb dX0_mixedPowers_25 ?_
      refine lv_lload hx hb dX0_mixedPowers_26 (lv_at hl 0 rfl) ?_
      refine lv_ladd hx hb dX0_mixedPowers_28 ?_
      refine lv_topl (fun v3 ev3 => ?_)
      have h := og_ov h ev3
      refine lv_lstore (lv' := [(5, .long v3), (7, .long v2), (0, .long a1), (2, .long a2), (4, .int a3), (9, .int u9.2.2)]) hx hb dX0_mixedPowers_29 hl (by decide) rfl (fun ls hl => ?_)
      obtain ⟨v4, ev4⟩ : ∃ y : Int32, y = u9.2.2 + (1 : Int32) := ⟨_, rfl⟩
      have h := og_ov h ev4
      refine lv_iinc (v := v4) (lv' := [(9, .int v4), (5, .long v3), (7, .long v2), (0, .long a1), (2, .long a2), (4, .int a3)]) hx hb dX0_mixedPowers_31 hl (k := 5) rfl (by rw [ev4]; rfl) (by decide) rfl (fun ls hl => ?_)
      refine lv_goto (tgt := 9) hx hb dX0_mixedPowers_34 (by decide) ?_
      exact ki9 _ ls (Option.some.inj h).symm (lv_sub hl [3, 4, 5, 1, 2, 0] rfl)
  · refine lv_lload hx hb dX0_mixedPowers_37 (lv_at hl 0 rfl) ?_
    obtain rfl := Option.some.inj h
    exact W.lret hx hb hr (fun t ht _ => ⟨rfl, ht⟩) (fun _ h9 => absurd h9 List.not_mem_nil) dX0_mixedPowers_39
def s_X0_doubleArea_4 (xs : Nat → Int32) (ys : Nat → Int32) (n : Int32) (u4 : (Int64 × Int32)) : Option ((Int64 × Int32) ⊕ Int64) :=
  if n ≤ u4.2 then
  (some (.inr u4.1))
  else
  ((f_X0_next n u4.2).bind fun r2 =>
  (f_X0_x xs u4.2).bind fun r3 =>
  (f_X0_y ys r2).bind fun r4 =>
  (f_X0_x xs r2).bind fun r5 =>
  (f_X0_y ys u4.2).bind fun r6 =>
  ov (u4.1 + (((r3 * r4) - (r5 * r6)).toInt64)) fun v7 =>
  ov (u4.2 + (1 : Int32)) fun v8 =>
  some (.inl (v7, v8)))
def f_X0_doubleArea (xs : Nat → Int32) (ys : Nat → Int32) (n : Int32) : Option Int64 :=
  (lpf (s_X0_doubleArea_4 xs ys n) 1000 ((0 : Int64), (0 : Int32))).bind fun x9 =>
  some x9
set_option maxHeartbeats 4000000 in
set_option maxRecDepth 100000 in
theorem k_X0_doubleArea (l : Launch) (D : va_G) (cI cF : ClassId) (q : Nat) (qx : Nat) (qy : Nat) (xs : Nat → Int32) (ys : Nat → Int32) (n : Int32) (r0 : Int64) (h : f_X0_doubleArea xs ys n = some r0) : Met l yX0_doubleArea wsX0_doubleArea ({ frames := 1, cells := 0, slots := 0, locals := 21 }) (va_Pc [.ref q] (fun U => wK D cI cF (figW cI q qx qy xs ys n) U)) (qS (.long r0)) 0 0 (fun _ => False) := by
  refine Met.ofW (cc := cX0_doubleArea) (maxL := 5) (ret := (some .long)) (by decide) rfl ?_
  intro p e s m args below meth c s₁ B hml hv
  obtain ⟨rfl, hK, hP⟩ := hv
  have hx := B.exec
  have hb := B.bytes
  have hr := B.returns
  have hts := atoms_spec (ws := wsX0_doubleArea) B.pre
  have hown : s.vm.findClass RX0 = some m.cls := findClass_of_methodNamed B.named
  have hlocks := B.notSynchronized
  have ht1 := hts (.fieldLink RX0 18 "DrawnAreas$Figure" "size" "I") (by decide +kernel)
  have hinX0 : ∀ w ∈ u_ws RX0 TX0 3, w ∈ wsX0_doubleArea := by decide +kernel
  have hl := lv_entry ([.ref q]) (n := 5) (Nat.le_of_ble_eq_true rfl)
  rw [lg_entry_eq]
  generalize (lg_sl ([.ref q]) ++ List.replicate (5 - (lg_sl ([.ref q])).length) Slot.unset).toArray = ls at hl ⊢
  have hl : lv_has ls 5 [(0, .ref q)] := hl
  unfold f_X0_doubleArea at h
  refine lv_lconst (v := 0) hx hb dX0_doubleArea_0 (by decide) ?_
  refine lv_lstore_n (lv' := [(1, .long (0 : Int64)), (0, .ref q)]) hx hb dX0_doubleArea_1 rfl hl (by decide) rfl (fun ls hl => ?_)
  refine lv_iconst (v := 0) hx hb dX0_doubleArea_2 (by decide) ?_
  refine lv_istore_n (lv' := [(3, .int (0 : Int32)), (1, .long (0 : Int64)), (0, .ref q)]) hx hb dX0_doubleArea_3 rfl hl (by decide) rfl (fun ls hl => ?_)
  obtain ⟨x9, hN4, h⟩ := og_bind h
  refine wl hN4 4 54 (fun u4 ls => lv_has ls 5 [(0, .ref q), (1, .long u4.1), (3, .int u4.2)]) (fun x9 ls => lv_has ls 5 [(1, .long x9)]) (fun u4 xx h ki4 kx4 ls hl => ?_) (fun ls hl => ?_) (lv_sub hl [2, 1, 0] rfl)
  · unfold s_X0_doubleArea_4 at h
    refine lv_iload_n hx hb dX0_doubleArea_4 rfl (lv_at hl 2 rfl) ?_
    refine lv_aload_n hx hb dX0_doubleArea_5 rfl (lv_at hl 0 rfl) ?_
    refine va_get (D := D) (ci := 0) (v := .int n) (C := RX0) (T := TX0) (N := 3) hx hb hts hinX0 hown hK hP 0 rfl rfl 2 (by decide) ht1 (fun _ h9 => h9) rfl dX0_doubleArea_6 ?_
    refine lv_icmp_ge (tgt := 54) hx hb dX0_doubleArea_9 (by decide) (fun c0 => ?_) (fun c0 => ?_)
    · rw [if_pos c0] at h
      exact kx4 _ ls (Option.some.inj h).symm (lv_sub hl [1] rfl)
    · rw [if_neg c0] at h
      refine lv_aload_n hx hb dX0_doubleArea_12 rfl (lv_at hl 0 rfl) ?_
      refine lv_iload_n hx hb dX0_doubleArea_13 rfl (lv_at hl 2 rfl) ?_
      obtain ⟨r2, hcr2, h⟩ := og_bind h
      refine cp_s (va_runV (As := [.int u4.2]) (rest := []) ⟨hx, hb, hml, hown, hts⟩ (k_X0_next l D cI cF q qx qy xs ys n u4.2 _ hcr2) (cwV 1 hts gX0_doubleArea_X0_next rfl rfl rfl (by decide +kernel) ⟨(Nat.le_of_ble_eq_true rfl), (Nat.le_of_ble_eq_true rfl)⟩) (pre_v (q0 := 0) (ci := 0) hK hP rfl rfl) rfl rfl hl.1 rfl (lv_room (Nat.le_of_ble_eq_true rfl)) dX0_doubleArea_14 ⟨(Nat.zero_le _), (Nat.zero_le _)⟩) ?_
      refine lv_istore (lv' := [(4, .int r2), (0, .ref q), (1, .long u4.1), (3, .int u4.2)]) hx hb dX0_doubleArea_17 hl (by decide) rfl (fun ls hl => ?_)
      refine lv_lload_n hx hb dX0_doubleArea_19 rfl (lv_at hl 2 rfl) ?_
      refine lv_aload_n hx hb dX0_doubleArea_20 rfl (lv_at hl 1 rfl) ?_
      refine lv_iload_n hx hb dX0_doubleArea_21 rfl (lv_at hl 3 rfl) ?_
      obtain ⟨r3, hcr3, h⟩ := og_bind h
      refine cp_s (va_runV (As := [.int u4.2]) (rest := [.long u4.1]) ⟨hx, hb, hml, hown, hts⟩ (k_X0_x l D cI cF q qx qy xs ys n u4.2 _ hcr3) (cwV 1 hts gX0_doubleArea_X0_x rfl rfl rfl (by decide +kernel) ⟨(Nat.le_of_ble_eq_true rfl), (Nat.le_of_ble_eq_true rfl)⟩) (pre_v (q0 := 0) (ci := 0) hK hP rfl rfl) rfl rfl hl.1 rfl (lv_room (Nat.le_of_ble_eq_true rfl)) dX0_doubleArea_22 ⟨(Nat.zero_le _), (Nat.zero_le _)⟩) ?_
      refine lv_aload_n hx hb dX0_doubleArea_25 rfl (lv_at hl 1 rfl) ?_
      refine lv_iload hx hb dX0_doubleArea_26 (lv_at hl 0 rfl) ?_
      obtain ⟨r4, hcr4, h⟩ := og_bind h
      refine cp_s (va_runV (As := [.int r2]) (rest := [.int r3, .long u4.1]) ⟨hx, hb, hml, hown, hts⟩ (k_X0_y l D cI cF q qx qy xs ys n r2 _ hcr4) (cwV 1 hts gX0_doubleArea_X0_y rfl rfl rfl (by decide +kernel) ⟨(Nat.le_of_ble_eq_true rfl), (Nat.le_of_ble_eq_true rfl)⟩) (pre_v (q0 := 0) (ci := 0) hK hP rfl rfl) rfl rfl hl.1 rfl (lv_room (Nat.le_of_ble_eq_true rfl)) dX0_doubleArea_28 ⟨(Nat.zero_le _), (Nat.zero_le _)⟩) ?_
      refine lv_imul hx hb dX0_doubleArea_31 ?_
      refine lv_aload_n hx hb dX0_doubleArea_32 rfl (lv_at hl 1 rfl) ?_
      refine lv_iload hx hb dX0_doubleArea_33 (lv_at hl 0 rfl) ?_
      obtain ⟨r5, hcr5, h⟩ := og_bind h
      refine cp_s (va_runV (As := [.int r2]) (rest := [.int (r3 * r4), .long u4.1]) ⟨hx, hb, hml, hown, hts⟩ (k_X0_x l D cI cF q qx qy xs ys n r2 _ hcr5) (cwV 1 hts gX0_doubleArea_X0_x rfl rfl rfl (by decide +kernel) ⟨(Nat.le_of_ble_eq_true rfl), (Nat.le_of_ble_eq_true rfl)⟩) (pre_v (q0 := 0) (ci := 0) hK hP rfl rfl) rfl rfl hl.1 rfl (lv_room (Nat.le_of_ble_eq_true rfl)) dX0_doubleArea_35 ⟨(Nat.zero_le _), (Nat.zero_le _)⟩) ?_
      refine lv_aload_n hx hb dX0_doubleArea_38 rfl (lv_at hl 1 rfl) ?_
      refine lv_iload_n hx hb dX0_doubleArea_39 rfl (lv_at hl 3 rfl) ?_
      obtain ⟨r6, hcr6, h⟩ := og_bind h
      refine cp_s (va_runV (As := [.int u4.2]) (rest := [.int r5, .int (r3 * r4), .long u4.1]) ⟨hx, hb, hml, hown, hts⟩ (k_X0_y l D cI cF q qx qy xs ys n u4.2 _ hcr6) (cwV 1 hts gX0_doubleArea_X0_y rfl rfl rfl (by decide +kernel) ⟨(Nat.le_of_ble_eq_true rfl), (Nat.le_of_ble_eq_true rfl)⟩) (pre_v (q0 := 0) (ci := 0) hK hP rfl rfl) rfl rfl hl.1 rfl (lv_room (Nat.le_of_ble_eq_true rfl)) dX0_doubleArea_40 ⟨(Nat.zero_le _), (Nat.zero_le _)⟩) ?_
      refine lv_imul hx hb dX0_doubleArea_43 ?_
      refine lv_isub hx hb dX0_doubleArea_44 ?_
      refine lv_i2l hx hb dX0_doubleArea_45 rfl ?_
      refine lv_ladd hx hb dX0_doubleArea_46 ?_
      refine lv_topl (fun v7 ev7 => ?_)
      have h := og_ov h ev7
      refine lv_lstore_n (lv' := [(1, .long v7), (4, .int r2), (0, .ref q), (3, .int u4.2)]) hx hb dX0_doubleArea_47 rfl hl (by decide) rfl (fun ls hl => ?_)
      obtain ⟨v8, ev8⟩ : ∃ y : Int32, y = u4.2 + (1 : Int32) := ⟨_, rfl⟩
      have h := og_ov h ev8
      refine lv_iinc (v := v8) (lv' := [(3, .int v8), (1, .long v7), (4, .int r2), (0, .ref q)]) hx hb dX0_doubleArea_48 hl (k := 3) rfl (by rw [ev8]; rfl) (by decide) rfl (fun ls hl => ?_)
      refine lv_goto (tgt := 4) hx hb dX0_doubleArea_51 (by decide) ?_
      exact ki4 _ ls (Option.some.inj h).symm (lv_sub hl [3, 1, 0] rfl)
  · refine lv_lload_n hx hb dX0_doubleArea_54 rfl (lv_at hl 0 rfl) ?_
    obtain rfl := Option.some.inj h
    exact W.lret hx hb hr (fun t ht _ => ⟨rfl, ht⟩) (fun _ h9 => absurd h9 List.not_mem_nil) dX0_doubleArea_55
def s_X0_alongX_5 (xs : Nat → Int32) (ys : Nat → Int32) (n : Int32) (a1 : Int32) (a2 : Int32) (u5 : (Int64 × Int32)) : Option ((Int64 × Int32) ⊕ Int64) :=
  if a2 ≤ u5.2 then
  (some (.inr u5.1))
  else
  ((f_X0_next n u5.2).bind fun r2 =>
  (f_X0_x xs r2).bind fun r3 =>
  (f_X0_x xs u5.2).bind fun r4 =>
  (f_X0_y ys u5.2).bind fun r5 =>
  (f_X0_y ys r2).bind fun r6 =>
  (f_X0_mixedPowers (r5.toInt64) (r6.toInt64) a1).bind fun r7 =>
  ov (u5.1 + (((r3 - r4).toInt64) * r7)) fun v8 =>
  ov (u5.2 + (1 : Int32)) fun v9 =>
  some (.inl (v8, v9)))
def f_X0_alongX (xs : Nat → Int32) (ys : Nat → Int32) (n : Int32) (a1 : Int32) (a2 : Int32) : Option Int64 :=
  (lpf (s_X0_alongX_5 xs ys n a1 a2) 1000 ((0 : Int64), (0 : Int32))).bind fun x10 =>
  some x10
set_option maxHeartbeats 4000000 in
set_option maxRecDepth 100000 in
theorem k_X0_alongX (l : Launch) (D : va_G) (cI cF : ClassId) (q : Nat) (qx : Nat) (qy : Nat) (xs : Nat → Int32) (ys : Nat → Int32) (n : Int32) (a1 : Int32) (a2 : Int32) (r0 : Int64) (h : f_X0_alongX xs ys n a1 a2 = some r0) : Met l yX0_alongX wsX0_alongX ({ frames := 1, cells := 0, slots := 0, locals := 29 }) (va_Pc [.ref q, .int a1, .int a2] (fun U => wK D cI cF (figW cI q qx qy xs ys n) U)) (qS (.long r0)) 0 0 (fun _ => False) := by
  refine Met.ofW (cc := cX0_alongX) (maxL := 7) (ret := (some .long)) (by decide) rfl ?_
  intro p e s m args below meth c s₁ B hml hv
  obtain ⟨rfl, hK, hP⟩ := hv
  have hx := B.exec
  have hb := B.bytes
  have hr := B.returns
  have hts := atoms_spec (ws := wsX0_alongX) B.pre
  have hown : s.vm.findClass RX0 = some m.cls := findClass_of_methodNamed B.named
  have hlocks := B.notSynchronized
  have hl := lv_entry ([.ref q, .int a1, .int a2]) (n := 7) (Nat.le_of_ble_eq_true rfl)
  rw [lg_entry_eq]
  generalize (lg_sl ([.ref q, .int a1, .int a2]) ++ List.replicate (7 - (lg_sl ([.ref q, .int a1, .int a2])).length) Slot.unset).toArray = ls at hl ⊢
  have hl : lv_has ls 7 [(0, .ref q), (1, .int a1), (2, .int a2)] := hl
  unfold f_X0_alongX at h
  refine lv_lconst (v := 0) hx hb dX0_alongX_0 (by decide) ?_
  refine lv_lstore_n (lv' := [(3, .long (0 : Int64)), (0, .ref q), (1, .int a1), (2, .int a2)]) hx hb dX0_alongX_1 rfl hl (by decide) rfl (fun ls hl => ?_)
  refine lv_iconst (v := 0) hx hb dX0_alongX_2 (by decide) ?_
  refine lv_istore (lv' := [(5, .int (0 : Int32)), (3, .long (0 : Int64)), (0, .ref q), (1, .int a1), (2, .int a2)]) hx hb dX0_alongX_3 hl (by decide) rfl (fun ls hl => ?_)
  obtain ⟨x10, hN5, h⟩ := og_bind h
  refine wl hN5 5 61 (fun u5 ls => lv_has ls 7 [(0, .ref q), (1, .int a1), (2, .int a2), (3, .long u5.1), (5, .int u5.2)]) (fun x10 ls => lv_has ls 7 [(3, .long x10)]) (fun u5 xx h ki5 kx5 ls hl => ?_) (fun ls hl => ?_) (lv_sub hl [2, 3, 4, 1, 0] rfl)
  · unfold s_X0_alongX_5 at h
    refine lv_iload hx hb dX0_alongX_5 (lv_at hl 4 rfl) ?_
    refine lv_iload_n hx hb dX0_alongX_7 rfl (lv_at hl 2 rfl) ?_
    refine lv_icmp_ge (tgt := 61) hx hb dX0_alongX_8 (by decide) (fun c0 => ?_) (fun c0 => ?_)
    · rw [if_pos c0] at h
      exact kx5 _ ls (Option.some.inj h).symm (lv_sub hl [3] rfl)
    · rw [if_neg c0] at h
      refine lv_aload_n hx hb dX0_alongX_11 rfl (lv_at hl 0 rfl) ?_
      refine lv_iload hx hb dX0_alongX_12 (lv_at hl 4 rfl) ?_
      obtain ⟨r2, hcr2, h⟩ := og_bind h
      refine cp_s (va_runV (As := [.int u5.2]) (rest := []) ⟨hx, hb, hml, hown, hts⟩ (k_X0_next l D cI cF q qx qy xs ys n u5.2 _ hcr2) (cwV 1 hts gX0_alongX_X0_next rfl rfl rfl (by decide +kernel) ⟨(Nat.le_of_ble_eq_true rfl), (Nat.le_of_ble_eq_true rfl)⟩) (pre_v (q0 := 0) (ci := 0) hK hP rfl rfl) rfl rfl hl.1 rfl (lv_room (Nat.le_of_ble_eq_true rfl)) dX0_alongX_14 ⟨(Nat.zero_le _), (Nat.zero_le _)⟩) ?_
      refine lv_istore (lv' := [(6, .int r2), (0, .ref q), (1, .int a1), (2, .int a2), (3, .long u5.1), (5, .int u5.2)]) hx hb dX0_alongX_17 hl (by decide) rfl (fun ls hl => ?_)
      refine lv_lload_n hx hb dX0_alongX_19 rfl (lv_at hl 4 rfl) ?_
      refine lv_aload_n hx hb dX0_alongX_20 rfl (lv_at hl 1 rfl) ?_
      refine lv_iload hx hb dX0_alongX_21 (lv_at hl 0 rfl) ?_
      obtain ⟨r3, hcr3, h⟩ := og_bind h
      refine cp_s (va_runV (As := [.int r2]) (rest := [.long u5.1]) ⟨hx, hb, hml, hown, hts⟩ (k_X0_x l D cI cF q qx qy xs ys n r2 _ hcr3) (cwV 1 hts gX0_alongX_X0_x rfl rfl rfl (by decide +kernel) ⟨(Nat.le_of_ble_eq_true rfl), (Nat.le_of_ble_eq_true rfl)⟩) (pre_v (q0 := 0) (ci := 0) hK hP rfl rfl) rfl rfl hl.1 rfl (lv_room (Nat.le_of_ble_eq_true rfl)) dX0_alongX_23 ⟨(Nat.zero_le _), (Nat.zero_le _)⟩) ?_
      refine lv_aload_n hx hb dX0_alongX_26 rfl (lv_at hl 1 rfl) ?_
      refine lv_iload hx hb dX0_alongX_27 (lv_at hl 5 rfl) ?_
      obtain ⟨r4, hcr4, h⟩ := og_bind h
      refine cp_s (va_runV (As := [.int u5.2]) (rest := [.int r3, .long u5.1]) ⟨hx, hb, hml, hown, hts⟩ (k_X0_x l D cI cF q qx qy xs ys n u5.2 _ hcr4) (cwV 1 hts gX0_alongX_X0_x rfl rfl rfl (by decide +kernel) ⟨(Nat.le_of_ble_eq_true rfl), (Nat.le_of_ble_eq_true rfl)⟩) (pre_v (q0 := 0) (ci := 0) hK hP rfl rfl) rfl rfl hl.1 rfl (lv_room (Nat.le_of_ble_eq_true rfl)) dX0_alongX_29 ⟨(Nat.zero_le _), (Nat.zero_le _)⟩) ?_
      refine lv_isub hx hb dX0_alongX_32 ?_
      refine lv_i2l hx hb dX0_alongX_33 rfl ?_
      refine lv_aload_n hx hb dX0_alongX_34 rfl (lv_at hl 1 rfl) ?_
      refine lv_iload hx hb dX0_alongX_35 (lv_at hl 5 rfl) ?_
      obtain ⟨r5, hcr5, h⟩ := og_bind h
      refine cp_s (va_runV (As := [.int u5.2]) (rest := [.long ((r3 - r4).toInt64), .long u5.1]) ⟨hx, hb, hml, hown, hts⟩ (k_X0_y l D cI cF q qx qy xs ys n u5.2 _ hcr5) (cwV 1 hts gX0_alongX_X0_y rfl rfl rfl (by decide +kernel) ⟨(Nat.le_of_ble_eq_true rfl), (Nat.le_of_ble_eq_true rfl)⟩) (pre_v (q0 := 0) (ci := 0) hK hP rfl rfl) rfl rfl hl.1 rfl (lv_room (Nat.le_of_ble_eq_true rfl)) dX0_alongX_37 ⟨(Nat.zero_le _), (Nat.zero_le _)⟩) ?_
      refine lv_i2l hx hb dX0_alongX_40 rfl ?_
      refine lv_aload_n hx hb dX0_alongX_41 rfl (lv_at hl 1 rfl) ?_
      refine lv_iload hx hb dX0_alongX_42 (lv_at hl 0 rfl) ?_
      obtain ⟨r6, hcr6, h⟩ := og_bind h
      refine cp_s (va_runV (As := [.int r2]) (rest := [.long (r5.toInt64), .long ((r3 - r4).toInt64), .long u5.1]) ⟨hx, hb, hml, hown, hts⟩ (k_X0_y l D cI cF q qx qy xs ys n r2 _ hcr6) (cwV 1 hts gX0_alongX_X0_y rfl rfl rfl (by decide +kernel) ⟨(Nat.le_of_ble_eq_true rfl), (Nat.le_of_ble_eq_true rfl)⟩) (pre_v (q0 := 0) (ci := 0) hK hP rfl rfl) rfl rfl hl.1 rfl (lv_room (Nat.le_of_ble_eq_true rfl)) dX0_alongX_44 ⟨(Nat.zero_le _), (Nat.zero_le _)⟩) ?_
      refine lv_i2l hx hb dX0_alongX_47 rfl ?_
      refine lv_iload_n hx hb dX0_alongX_48 rfl (lv_at hl 2 rfl) ?_
      obtain ⟨r7, hcr7, h⟩ := og_bind h
      refine cp_s (va_runS (As := [.long (r5.toInt64), .long (r6.toInt64), .int a1]) (rest := [.long ((r3 - r4).toInt64), .long u5.1]) ⟨hx, hb, hml, hown, hts⟩ (k_X0_mixedPowers l (r5.toInt64) (r6.toInt64) a1 _ hcr7) (va_cwS 3 hts gX0_alongX_X0_mixedPowers rfl rfl rfl (by decide +kernel) ⟨(Nat.le_of_ble_eq_true rfl), (Nat.le_of_ble_eq_true rfl)⟩) pre_s rfl rfl hl.1 rfl (lv_room (Nat.le_of_ble_eq_true rfl)) dX0_alongX_49 ⟨(Nat.zero_le _), (Nat.zero_le _)⟩) ?_
      refine lv_lmul hx hb dX0_alongX_52 ?_
      refine lv_ladd hx hb dX0_alongX_53 ?_
      refine lv_topl (fun v8 ev8 => ?_)
      have h := og_ov h ev8
      refine lv_lstore_n (lv' := [(3, .long v8), (6, .int r2), (0, .ref q), (1, .int a1), (2, .int a2), (5, .int u5.2)]) hx hb dX0_alongX_54 rfl hl (by decide) rfl (fun ls hl => ?_)
      obtain ⟨v9, ev9⟩ : ∃ y : Int32, y = u5.2 + (1 : Int32) := ⟨_, rfl⟩
      have h := og_ov h ev9
      refine lv_iinc (v := v9) (lv' := [(5, .int v9), (3, .long v8), (6, .int r2), (0, .ref q), (1, .int a1), (2, .int a2)]) hx hb dX0_alongX_55 hl (k := 5) rfl (by rw [ev9]; rfl) (by decide) rfl (fun ls hl => ?_)
      refine lv_goto (tgt := 5) hx hb dX0_alongX_58 (by decide) ?_
      exact ki5 _ ls (Option.some.inj h).symm (lv_sub hl [3, 4, 5, 1, 0] rfl)
  · refine lv_lload_n hx hb dX0_alongX_61 rfl (lv_at hl 0 rfl) ?_
    obtain rfl := Option.some.inj h
    exact W.lret hx hb hr (fun t ht _ => ⟨rfl, ht⟩) (fun _ h9 => absurd h9 List.not_mem_nil) dX0_alongX_62
def s_X0_staysNearer_2 (ys : Nat → Int32) (n : Int32) (a1 : Int32) (u2 : Int32) : Option (Int32 ⊕ (Int32 ⊕ Unit)) :=
  if n ≤ u2 then
  (some (.inr (.inr ())))
  else
  ((f_X0_y ys u2).bind fun r2 =>
  ov (mabs r2) fun v3 =>
  if v3 < a1 then
  (ov (u2 + (1 : Int32)) fun v5 =>
  some (.inl v5))
  else
  (some (.inr (.inl (0 : Int32)))))
def f_X0_staysNearer (ys : Nat → Int32) (n : Int32) (a1 : Int32) : Option Int32 :=
  (lpf (s_X0_staysNearer_2 ys n a1) 1000 (0 : Int32)).bind fun o7 => ret2 o7 (fun r9 => some r9) fun x6 =>
  some (1 : Int32)
set_option maxHeartbeats 4000000 in
set_option maxRecDepth 100000 in
theorem k_X0_staysNearer (l : Launch) (D : va_G) (cI cF : ClassId) (q : Nat) (qx : Nat) (qy : Nat) (xs : Nat → Int32) (ys : Nat → Int32) (n : Int32) (a1 : Int32) (r0 : Int32) (h : f_X0_staysNearer ys n a1 = some r0) : Met l yX0_staysNearer wsX0_staysNearer ({ frames := 1, cells := 0, slots := 0, locals := 21 }) (va_Pc [.ref q, .int a1] (fun U => wK D cI cF (figW cI q qx qy xs ys n) U)) (qS (.int r0)) 0 0 (fun _ => False) := by
  refine Met.ofW (cc := cX0_staysNearer) (maxL := 3) (ret := (some .boolean)) (by decide) rfl ?_
  intro p e s m args below meth c s₁ B hml hv
  obtain ⟨rfl, hK, hP⟩ := hv
  have hx := B.exec
  have hb := B.bytes
  have hr := B.returns
  have hts := atoms_spec (ws := wsX0_staysNearer) B.pre
  have hown : s.vm.findClass RX0 = some m.cls := findClass_of_methodNamed B.named
  have hlocks := B.notSynchronized
  have ht1 := hts (.fieldLink RX0 18 "DrawnAreas$Figure" "size" "I") (by decide +kernel)
  have hinX0 : ∀ w ∈ u_ws RX0 TX0 3, w ∈ wsX0_staysNearer := by decide +kernel
  have ht3 := hts (.methodLink RX0 44 Lib.Math.abs.name) (by decide +kernel)
  have ht4 := hts (.static Lib.Math.abs.name) (by decide +kernel)
  have ht5 := hts (.initialized "java/lang/Math") (by decide +kernel)
  have ht6 := hts (.code Lib.Math.abs.name Lib.Math.abs.code 1 (some .int)) (by decide +kernel)
  have hl := lv_entry ([.ref q, .int a1]) (n := 3) (Nat.le_of_ble_eq_true rfl)
  rw [lg_entry_eq]
  generalize (lg_sl ([.ref q, .int a1]) ++ List.replicate (3 - (lg_sl ([.ref q, .int a1])).length) Slot.unset).toArray = ls at hl ⊢
  have hl : lv_has ls 3 [(0, .ref q), (1, .int a1)] := hl
  unfold f_X0_staysNearer at h
  refine lv_iconst (v := 0) hx hb dX0_staysNearer_0 (by decide) ?_
  refine lv_istore_n (lv' := [(2, .int (0 : Int32)), (0, .ref q), (1, .int a1)]) hx hb dX0_staysNearer_1 rfl hl (by decide) rfl (fun ls hl => ?_)
  obtain ⟨o7, hN2, h⟩ := og_bind h
  refine wlr (r0 := r0) hN2 2 30 (fun u2 ls => lv_has ls 3 [(0, .ref q), (1, .int a1), (2, .int u2)]) (fun x6 ls => lv_has ls 3 []) (fun u2 xx h ki2 kx2 kr2 ls hl => ?_) (fun r9 e9 => ?_) (fun x6 ls e9 hl => ?_) (lv_sub hl [1, 2, 0] rfl)
  · unfold s_X0_staysNearer_2 at h
    refine lv_iload_n hx hb dX0_staysNearer_2 rfl (lv_at hl 2 rfl) ?_
    refine lv_aload_n hx hb dX0_staysNearer_3 rfl (lv_at hl 0 rfl) ?_
    refine va_get (D := D) (ci := 0) (v := .int n) (C := RX0) (T := TX0) (N := 3) hx hb hts hinX0 hown hK hP 0 rfl rfl 2 (by decide) ht1 (fun _ h9 => h9) rfl dX0_staysNearer_4 ?_
    refine lv_icmp_ge (tgt := 30) hx hb dX0_staysNearer_7 (by decide) (fun c0 => ?_) (fun c0 => ?_)
    · rw [if_pos c0] at h
      exact kx2 _ ls (Option.some.inj h).symm (lv_sub hl [] rfl)
    · rw [if_neg c0] at h
      refine lv_aload_n hx hb dX0_staysNearer_10 rfl (lv_at hl 0 rfl) ?_
      refine lv_iload_n hx hb dX0_staysNearer_11 rfl (lv_at hl 2 rfl) ?_
      obtain ⟨r2, hcr2, h⟩ := og_bind h
      refine cp_s (va_runV (As := [.int u2]) (rest := []) ⟨hx, hb, hml, hown, hts⟩ (k_X0_y l D cI cF q qx qy xs ys n u2 _ hcr2) (cwV 1 hts gX0_staysNearer_X0_y rfl rfl rfl (by decide +kernel) ⟨(Nat.le_of_ble_eq_true rfl), (Nat.le_of_ble_eq_true rfl)⟩) (pre_v (q0 := 0) (ci := 0) hK hP rfl rfl) rfl rfl hl.1 rfl (lv_room (Nat.le_of_ble_eq_true rfl)) dX0_staysNearer_12 ⟨(Nat.zero_le _), (Nat.zero_le _)⟩) ?_
      refine va_mabs hx hb (hml.trans hl.1.symm) hown ht3 ht4 ht5 ht6 (Nat.le_of_ble_eq_true rfl) (Nat.le_of_ble_eq_true rfl) (Nat.le_of_ble_eq_true rfl) (Nat.le_of_ble_eq_true rfl) dX0_staysNearer_15 ?_
      refine lv_topi (fun v3 ev3 => ?_)
      have h := og_ov h ev3
      refine lv_iload_n hx hb dX0_staysNearer_18 rfl (lv_at hl 1 rfl) ?_
      refine lv_icmp_lt (tgt := 24) hx hb dX0_staysNearer_19 (by decide) (fun c3 => ?_) (fun c3 => ?_)
      · rw [if_pos c3] at h
        obtain ⟨v5, ev5⟩ : ∃ y : Int32, y = u2 + (1 : Int32) := ⟨_, rfl⟩
        have h := og_ov h ev5
        refine lv_iinc (v := v5) (lv' := [(2, .int v5), (0, .ref q), (1, .int a1)]) hx hb dX0_staysNearer_24 hl (k := 2) rfl (by rw [ev5]; rfl) (by decide) rfl (fun ls hl => ?_)
        refine lv_goto (tgt := 2) hx hb dX0_staysNearer_27 (by decide) ?_
        exact ki2 _ ls (Option.some.inj h).symm (lv_sub hl [1, 2, 0] rfl)
      · rw [if_neg c3] at h
        refine lv_iconst (v := 0) hx hb dX0_staysNearer_22 (by decide) ?_
        obtain rfl := kr2 _ (Option.some.inj h).symm
        exact W.zret hx hb hr rfl (fun t ht _ => ⟨rfl, ht⟩) (fun _ h9 => absurd h9 List.not_mem_nil) dX0_staysNearer_23
  · subst e9
    exact Option.some.inj h
  · subst e9
    dsimp only [ret2] at h
    refine lv_iconst (v := 1) hx hb dX0_staysNearer_30 (by decide) ?_
    obtain rfl := Option.some.inj h
    exact W.zret hx hb hr rfl (fun t ht _ => ⟨rfl, ht⟩) (fun _ h9 => absurd h9 List.not_mem_nil) dX0_staysNearer_31
def f_X0_leftOf (xs : Nat → Int32) (ys : Nat → Int32) (n : Int32) (a1 : Int32) (a2 : Int64) (a3 : Int64) : Option Int64 :=
  (f_X0_next n a1).bind fun r1 =>
  (f_X0_x xs r1).bind fun r2 =>
  (f_X0_x xs a1).bind fun r3 =>
  (f_X0_y ys a1).bind fun r4 =>
  (f_X0_x xs a1).bind fun r5 =>
  (f_X0_y ys r1).bind fun r6 =>
  (f_X0_y ys a1).bind fun r7 =>
  some ((((r2 - r3).toInt64) * (a3 - (r4.toInt64))) - ((a2 - (r5.toInt64)) * ((r6 - r7).toInt64)))
set_option maxHeartbeats 4000000 in
set_option maxRecDepth 100000 in
theorem k_X0_leftOf (l : Launch) (D : va_G) (cI cF : ClassId) (q : Nat) (qx : Nat) (qy : Nat) (xs : Nat → Int32) (ys : Nat → Int32) (n : Int32) (a1 : Int32) (a2 : Int64) (a3 : Int64) (r0 : Int64) (h : f_X0_leftOf xs ys n a1 a2 a3 = some r0) : Met l yX0_leftOf wsX0_leftOf ({ frames := 1, cells := 0, slots := 0, locals := 21 }) (va_Pc [.ref q, .int a1, .long a2, .long a3] (fun U => wK D cI cF (figW cI q qx qy xs ys n) U)) (qS (.long r0)) 0 0 (fun _ => False) := by
  refine Met.ofW (cc := cX0_leftOf) (maxL := 7) (ret := (some .long)) (by decide) rfl ?_
  intro p e s m args below meth c s₁ B hml hv
  obtain ⟨rfl, hK, hP⟩ := hv
  have hx := B.exec
  have hb := B.bytes
  have hr := B.returns
  have hts := atoms_spec (ws := wsX0_leftOf) B.pre
  have hown : s.vm.findClass RX0 = some m.cls := findClass_of_methodNamed B.named
  have hlocks := B.notSynchronized
  have hl := lv_entry ([.ref q, .int a1, .long a2, .long a3]) (n := 7) (Nat.le_of_ble_eq_true rfl)
  rw [lg_entry_eq]
  generalize (lg_sl ([.ref q, .int a1, .long a2, .long a3]) ++ List.replicate (7 - (lg_sl ([.ref q, .int a1, .long a2, .long a3])).length) Slot.unset).toArray = ls at hl ⊢
  have hl : lv_has ls 7 [(0, .ref q), (1, .int a1), (2, .long a2), (4, .long a3)] := hl
  unfold f_X0_leftOf at h
  refine lv_aload_n hx hb dX0_leftOf_0 rfl (lv_at hl 0 rfl) ?_
  refine lv_iload_n hx hb dX0_leftOf_1 rfl (lv_at hl 1 rfl) ?_
  obtain ⟨r1, hcr1, h⟩ := og_bind h
  refine cp_s (va_runV (As := [.int a1]) (rest := []) ⟨hx, hb, hml, hown, hts⟩ (k_X0_next l D cI cF q qx qy xs ys n a1 _ hcr1) (cwV 1 hts gX0_leftOf_X0_next rfl rfl rfl (by decide +kernel) ⟨(Nat.le_of_ble_eq_true rfl), (Nat.le_of_ble_eq_true rfl)⟩) (pre_v (q0 := 0) (ci := 0) hK hP rfl rfl) rfl rfl hl.1 rfl (lv_room (Nat.le_of_ble_eq_true rfl)) dX0_leftOf_2 ⟨(Nat.zero_le _), (Nat.zero_le _)⟩) ?_
  refine lv_istore (lv' := [(6, .int r1), (0, .ref q), (1, .int a1), (2, .long a2), (4, .long a3)]) hx hb dX0_leftOf_5 hl (by decide) rfl (fun ls hl => ?_)
  refine lv_aload_n hx hb dX0_leftOf_7 rfl (lv_at hl 1 rfl) ?_
  refine lv_iload hx hb dX0_leftOf_8 (lv_at hl 0 rfl) ?_
  obtain ⟨r2, hcr2, h⟩ := og_bind h
  refine cp_s (va_runV (As := [.int r1]) (rest := []) ⟨hx, hb, hml, hown, hts⟩ (k_X0_x l D cI cF q qx qy xs ys n r1 _ hcr2) (cwV 1 hts gX0_leftOf_X0_x rfl rfl rfl (by decide +kernel) ⟨(Nat.le_of_ble_eq_true rfl), (Nat.le_of_ble_eq_true rfl)⟩) (pre_v (q0 := 0) (ci := 0) hK hP rfl rfl) rfl rfl hl.1 rfl (lv_room (Nat.le_of_ble_eq_true rfl)) dX0_leftOf_10 ⟨(Nat.zero_le _), (Nat.zero_le _)⟩) ?_
  refine lv_aload_n hx hb dX0_leftOf_13 rfl (lv_at hl 1 rfl) ?_
  refine lv_iload_n hx hb dX0_leftOf_14 rfl (lv_at hl 2 rfl) ?_
  obtain ⟨r3, hcr3, h⟩ := og_bind h
  refine cp_s (va_runV (As := [.int a1]) (rest := [.int r2]) ⟨hx, hb, hml, hown, hts⟩ (k_X0_x l D cI cF q qx qy xs ys n a1 _ hcr3) (cwV 1 hts gX0_leftOf_X0_x rfl rfl rfl (by decide +kernel) ⟨(Nat.le_of_ble_eq_true rfl), (Nat.le_of_ble_eq_true rfl)⟩) (pre_v (q0 := 0) (ci := 0) hK hP rfl rfl) rfl rfl hl.1 rfl (lv_room (Nat.le_of_ble_eq_true rfl)) dX0_leftOf_15 ⟨(Nat.zero_le _), (Nat.zero_le _)⟩) ?_
  refine lv_isub hx hb dX0_leftOf_18 ?_
  refine lv_i2l hx hb dX0_leftOf_19 rfl ?_
  refine lv_lload hx hb dX0_leftOf_20 (lv_at hl 4 rfl) ?_
  refine lv_aload_n hx hb dX0_leftOf_22 rfl (lv_at hl 1 rfl) ?_
  refine lv_iload_n hx hb dX0_leftOf_23 rfl (lv_at hl 2 rfl) ?_
  obtain ⟨r4, hcr4, h⟩ := og_bind h
  refine cp_s (va_runV (As := [.int a1]) (rest := [.long a3, .long ((r2 - r3).toInt64)]) ⟨hx, hb, hml, hown, hts⟩ (k_X0_y l D cI cF q qx qy xs ys n a1 _ hcr4) (cwV 1 hts gX0_leftOf_X0_y rfl rfl rfl (by decide +kernel) ⟨(Nat.le_of_ble_eq_true rfl), (Nat.le_of_ble_eq_true rfl)⟩) (pre_v (q0 := 0) (ci := 0) hK hP rfl rfl) rfl rfl hl.1 rfl (lv_room (Nat.le_of_ble_eq_true rfl)) dX0_leftOf_24 ⟨(Nat.zero_le _), (Nat.zero_le _)⟩) ?_
  refine lv_i2l hx hb dX0_leftOf_27 rfl ?_
  refine lv_lsub hx hb dX0_leftOf_28 ?_
  refine lv_lmul hx hb dX0_leftOf_29 ?_
  refine lv_lload_n hx hb dX0_leftOf_30 rfl (lv_at hl 3 rfl) ?_
  refine lv_aload_n hx hb dX0_leftOf_31 rfl (lv_at hl 1 rfl) ?_
  refine lv_iload_n hx hb dX0_leftOf_32 rfl (lv_at hl 2 rfl) ?_
  obtain ⟨r5, hcr5, h⟩ := og_bind h
  refine cp_s (va_runV (As := [.int a1]) (rest := [.long a2, .long (((r2 - r3).toInt64) * (a3 - (r4.toInt64)))]) ⟨hx, hb, hml, hown, hts⟩ (k_X0_x l D cI cF q qx qy xs ys n a1 _ hcr5) (cwV 1 hts gX0_leftOf_X0_x rfl rfl rfl (by decide +kernel) ⟨(Nat.le_of_ble_eq_true rfl), (Nat.le_of_ble_eq_true rfl)⟩) (pre_v (q0 := 0) (ci := 0) hK hP rfl rfl) rfl rfl hl.1 rfl (lv_room (Nat.le_of_ble_eq_true rfl)) dX0_leftOf_33 ⟨(Nat.zero_le _), (Nat.zero_le _)⟩) ?_
  refine lv_i2l hx hb dX0_leftOf_36 rfl ?_
  refine lv_lsub hx hb dX0_leftOf_37 ?_
  refine lv_aload_n hx hb dX0_leftOf_38 rfl (lv_at hl 1 rfl) ?_
  refine lv_iload hx hb dX0_leftOf_39 (lv_at hl 0 rfl) ?_
  obtain ⟨r6, hcr6, h⟩ := og_bind h
  refine cp_s (va_runV (As := [.int r1]) (rest := [.long (a2 - (r5.toInt64)), .long (((r2 - r3).toInt64) * (a3 - (r4.toInt64)))]) ⟨hx, hb, hml, hown, hts⟩ (k_X0_y l D cI cF q qx qy xs ys n r1 _ hcr6) (cwV 1 hts gX0_leftOf_X0_y rfl rfl rfl (by decide +kernel) ⟨(Nat.le_of_ble_eq_true rfl), (Nat.le_of_ble_eq_true rfl)⟩) (pre_v (q0 := 0) (ci := 0) hK hP rfl rfl) rfl rfl hl.1 rfl (lv_room (Nat.le_of_ble_eq_true rfl)) dX0_leftOf_41 ⟨(Nat.zero_le _), (Nat.zero_le _)⟩) ?_
  refine lv_aload_n hx hb dX0_leftOf_44 rfl (lv_at hl 1 rfl) ?_
  refine lv_iload_n hx hb dX0_leftOf_45 rfl (lv_at hl 2 rfl) ?_
  obtain ⟨r7, hcr7, h⟩ := og_bind h
  refine cp_s (va_runV (As := [.int a1]) (rest := [.int r6, .long (a2 - (r5.toInt64)), .long (((r2 - r3).toInt64) * (a3 - (r4.toInt64)))]) ⟨hx, hb, hml, hown, hts⟩ (k_X0_y l D cI cF q qx qy xs ys n a1 _ hcr7) (cwV 1 hts gX0_leftOf_X0_y rfl rfl rfl (by decide +kernel) ⟨(Nat.le_of_ble_eq_true rfl), (Nat.le_of_ble_eq_true rfl)⟩) (pre_v (q0 := 0) (ci := 0) hK hP rfl rfl) rfl rfl hl.1 rfl (lv_room (Nat.le_of_ble_eq_true rfl)) dX0_leftOf_46 ⟨(Nat.zero_le _), (Nat.zero_le _)⟩) ?_
  refine lv_isub hx hb dX0_leftOf_49 ?_
  refine lv_i2l hx hb dX0_leftOf_50 rfl ?_
  refine lv_lmul hx hb dX0_leftOf_51 ?_
  refine lv_lsub hx hb dX0_leftOf_52 ?_
  obtain rfl := Option.some.inj h
  exact W.lret hx hb hr (fun t ht _ => ⟨rfl, ht⟩) (fun _ h9 => absurd h9 List.not_mem_nil) dX0_leftOf_53
def f_X0_between (a1 : Int64) (a2 : Int32) (a3 : Int32) : Option Int32 :=
  ov (mmin a2 a3) fun v1 =>
  if (lg_cmp a1 (v1.toInt64)) < (0) then
  (some (0 : Int32))
  else
  (ov (mmax a2 a3) fun v3 =>
  if (0) < (lg_cmp a1 (v3.toInt64)) then
  (some (0 : Int32))
  else
  (some (1 : Int32)))
set_option maxHeartbeats 4000000 in
set_option maxRecDepth 100000 in
theorem k_X0_between (l : Launch) (a1 : Int64) (a2 : Int32) (a3 : Int32) (r0 : Int32) (h : f_X0_between a1 a2 a3 = some r0) : Met l yX0_between wsX0_between ({ frames := 1, cells := 0, slots := 0, locals := 15 }) (va_Pc [.long a1, .int a2, .int a3] (fun _ => True)) (qS (.int r0)) 0 0 (fun _ => False) := by
  refine Met.ofW (cc := cX0_between) (maxL := 4) (ret := (some .boolean)) (by decide) rfl ?_
  intro p e s m args below meth c s₁ B hml hv
  obtain ⟨rfl, -⟩ := hv
  have hx := B.exec
  have hb := B.bytes
  have hr := B.returns
  have hts := atoms_spec (ws := wsX0_between) B.pre
  have hown : s.vm.findClass RX0 = some m.cls := findClass_of_methodNamed B.named
  have hlocks := B.notSynchronized
  have ht1 := hts (.methodLink RX0 49 Lib.Math.min.name) (by decide +kernel)
  have ht2 := hts (.static Lib.Math.min.name) (by decide +kernel)
  have ht3 := hts (.initialized "java/lang/Math") (by decide +kernel)
  have ht4 := hts (.code Lib.Math.min.name Lib.Math.min.code 2 (some .int)) (by decide +kernel)
  have ht5 := hts (.methodLink RX0 53 Lib.Math.max.name) (by decide +kernel)
  have ht6 := hts (.static Lib.Math.max.name) (by decide +kernel)
  have ht7 := hts (.code Lib.Math.max.name Lib.Math.max.code 2 (some .int)) (by decide +kernel)
  have hl := lv_entry ([.long a1, .int a2, .int a3]) (n := 4) (Nat.le_of_ble_eq_true rfl)
  rw [lg_entry_eq]
  generalize (lg_sl ([.long a1, .int a2, .int a3]) ++ List.replicate (4 - (lg_sl ([.long a1, .int a2, .int a3])).length) Slot.unset).toArray = ls at hl ⊢
  have hl : lv_has ls 4 [(0, .long a1), (2, .int a2), (3, .int a3)] := hl
  unfold f_X0_between at h
  refine lv_lload_n hx hb dX0_between_0 rfl (lv_at hl 0 rfl) ?_
  refine lv_iload_n hx hb dX0_between_1 rfl (lv_at hl 1 rfl) ?_
  refine lv_iload_n hx hb dX0_between_2 rfl (lv_at hl 2 rfl) ?_
  refine va_mmin hx hb (hml.trans hl.1.symm) hown ht1 ht2 ht3 ht4 (Nat.le_of_ble_eq_true rfl) (Nat.le_of_ble_eq_true rfl) (Nat.le_of_ble_eq_true rfl) (Nat.le_of_ble_eq_true rfl) dX0_between_3 ?_
  refine lv_topi (fun v1 ev1 => ?_)
  have h := og_ov h ev1
  refine lv_i2l hx hb dX0_between_6 rfl ?_
  refine W.lcmp hx hb dX0_between_7 ?_
  refine lv_if_lt (tgt := 26) hx hb dX0_between_8 (by decide) (fun c1 => ?_) (fun c1 => ?_)
  · rw [if_pos c1] at h
    refine lv_iconst (v := 0) hx hb dX0_between_26 (by decide) ?_
    obtain rfl := Option.some.inj h
    exact W.zret hx hb hr rfl (fun t ht _ => ⟨rfl, ht⟩) (fun _ h9 => absurd h9 List.not_mem_nil) dX0_between_27
  · rw [if_neg c1] at h
    refine lv_lload_n hx hb dX0_between_11 rfl (lv_at hl 0 rfl) ?_
    refine lv_iload_n hx hb dX0_between_12 rfl (lv_at hl 1 rfl) ?_
    refine lv_iload_n hx hb dX0_between_13 rfl (lv_at hl 2 rfl) ?_
    refine va_mmax hx hb (hml.trans hl.1.symm) hown ht5 ht6 ht3 ht7 (Nat.le_of_ble_eq_true rfl) (Nat.le_of_ble_eq_true rfl) (Nat.le_of_ble_eq_true rfl) (Nat.le_of_ble_eq_true rfl) dX0_between_14 ?_
    refine lv_topi (fun v3 ev3 => ?_)
    have h := og_ov h ev3
    refine lv_i2l hx hb dX0_between_17 rfl ?_
    refine W.lcmp hx hb dX0_between_18 ?_
    refine lv_if_gt (tgt := 26) hx hb dX0_between_19 (by decide) (fun c3 => ?_) (fun c3 => ?_)
    · rw [if_pos c3] at h
      refine lv_iconst (v := 0) hx hb dX0_between_26 (by decide) ?_
      obtain rfl := Option.some.inj h
      exact W.zret hx hb hr rfl (fun t ht _ => ⟨rfl, ht⟩) (fun _ h9 => absurd h9 List.not_mem_nil) dX0_between_27
    · rw [if_neg c3] at h
      refine lv_iconst (v := 1) hx hb dX0_between_22 (by decide) ?_
      refine lv_goto (tgt := 27) hx hb dX0_between_23 (by decide) ?_
      obtain rfl := Option.some.inj h
      exact W.zret hx hb hr rfl (fun t ht _ => ⟨rfl, ht⟩) (fun _ h9 => absurd h9 List.not_mem_nil) dX0_between_27
def f_X0_sideCarries (xs : Nat → Int32) (ys : Nat → Int32) (n : Int32) (a1 : Int32) (a2 : Int32) (a3 : Int32) : Option Int32 :=
  (f_X0_next n a1).bind fun r1 =>
  (f_X0_leftOf xs ys n a1 (a2.toInt64) (a3.toInt64)).bind fun r2 =>
  if (lg_cmp r2 (0 : Int64)) = (0) then
  ((f_X0_x xs a1).bind fun r4 =>
  (f_X0_x xs r1).bind fun r5 =>
  (f_X0_between (a2.toInt64) r4 r5).bind fun r6 =>
  if r6 = (0) then
  (some (0 : Int32))
  else
  ((f_X0_y ys a1).bind fun r8 =>
  (f_X0_y ys r1).bind fun r9 =>
  (f_X0_between (a3.toInt64) r8 r9).bind fun r10 =>
  if r10 = (0) then
  (some (0 : Int32))
  else
  (some (1 : Int32))))
  else
  (some (0 : Int32))
set_option maxHeartbeats 4000000 in
set_option maxRecDepth 100000 in
theorem k_X0_sideCarries (l : Launch) (D : va_G) (cI cF : ClassId) (q : Nat) (qx : Nat) (qy : Nat) (xs : Nat → Int32) (ys : Nat → Int32) (n : Int32) (a1 : Int32) (a2 : Int32) (a3 : Int32) (r0 : Int32) (h : f_X0_sideCarries xs ys n a1 a2 a3 = some r0) : Met l yX0_sideCarries wsX0_sideCarries ({ frames := 2, cells := 0, slots := 0, locals := 47 }) (va_Pc [.ref q, .int a1, .int a2, .int a3] (fun U => wK D cI cF (figW cI q qx qy xs ys n) U)) (qS (.int r0)) 0 0 (fun _ => False) := by
  refine Met.ofW (cc := cX0_sideCarries) (maxL := 5) (ret := (some .boolean)) (by decide) rfl ?_
  intro p e s m args below meth c s₁ B hml hv
  obtain ⟨rfl, hK, hP⟩ := hv
  have hx := B.exec
  have hb := B.bytes
  have hr := B.returns
  have hts := atoms_spec (ws := wsX0_sideCarries) B.pre
  have hown : s.vm.findClass RX0 = some m.cls := findClass_of_methodNamed B.named
  have hlocks := B.notSynchronized
  have hl := lv_entry ([.ref q, .int a1, .int a2, .int a3]) (n := 5) (Nat.le_of_ble_eq_true rfl)
  rw [lg_entry_eq]
  generalize (lg_sl ([.ref q, .int a1, .int a2, .int a3]) ++ List.replicate (5 - (lg_sl ([.ref q, .int a1, .int a2, .int a3])).length) Slot.unset).toArray = ls at hl ⊢
  have hl : lv_has ls 5 [(0, .ref q), (1, .int a1), (2, .int a2), (3, .int a3)] := hl
  unfold f_X0_sideCarries at h
  refine lv_aload_n hx hb dX0_sideCarries_0 rfl (lv_at hl 0 rfl) ?_
  refine lv_iload_n hx hb dX0_sideCarries_1 rfl (lv_at hl 1 rfl) ?_
  obtain ⟨r1, hcr1, h⟩ := og_bind h
  refine cp_s (va_runV (As := [.int a1]) (rest := []) ⟨hx, hb, hml, hown, hts⟩ (k_X0_next l D cI cF q qx qy xs ys n a1 _ hcr1) (cwV 1 hts gX0_sideCarries_X0_next rfl rfl rfl (by decide +kernel) ⟨(Nat.le_of_ble_eq_true rfl), (Nat.le_of_ble_eq_true rfl)⟩) (pre_v (q0 := 0) (ci := 0) hK hP rfl rfl) rfl rfl hl.1 rfl (lv_room (Nat.le_of_ble_eq_true rfl)) dX0_sideCarries_2 ⟨(Nat.zero_le _), (Nat.zero_le _)⟩) ?_
  refine lv_istore (lv' := [(4, .int r1), (0, .ref q), (1, .int a1), (2, .int a2), (3, .int a3)]) hx hb dX0_sideCarries_5 hl (by decide) rfl (fun ls hl => ?_)
  refine lv_aload_n hx hb dX0_sideCarries_7 rfl (lv_at hl 1 rfl) ?_
  refine lv_iload_n hx hb dX0_sideCarries_8 rfl (lv_at hl 2 rfl) ?_
  refine lv_iload_n hx hb dX0_sideCarries_9 rfl (lv_at hl 3 rfl) ?_
  refine lv_i2l hx hb dX0_sideCarries_10 rfl ?_
  refine lv_iload_n hx hb dX0_sideCarries_11 rfl (lv_at hl 4 rfl) ?_
  refine lv_i2l hx hb dX0_sideCarries_12 rfl ?_
  obtain ⟨r2, hcr2, h⟩ := og_bind h
  refine cp_s (va_runV (As := [.int a1, .long (a2.toInt64), .long (a3.toInt64)]) (rest := []) ⟨hx, hb, hml, hown, hts⟩ (k_X0_leftOf l D cI cF q qx qy xs ys n a1 (a2.toInt64) (a3.toInt64) _ hcr2) (cwV 3 hts gX0_sideCarries_X0_leftOf rfl rfl rfl (by decide +kernel) ⟨(Nat.le_of_ble_eq_true rfl), (Nat.le_of_ble_eq_true rfl)⟩) (pre_v (q0 := 0) (ci := 0) hK hP rfl rfl) rfl rfl hl.1 rfl (lv_room (Nat.le_of_ble_eq_true rfl)) dX0_sideCarries_13 ⟨(Nat.zero_le _), (Nat.zero_le _)⟩) ?_
  refine lv_lconst (v := 0) hx hb dX0_sideCarries_16 (by decide) ?_
  refine W.lcmp hx hb dX0_sideCarries_17 ?_
  refine lv_if_ne (tgt := 63) hx hb dX0_sideCarries_18 (by decide) (fun c2 => ?_) (fun c2 => ?_)
  · rw [if_neg c2] at h
    refine lv_iconst (v := 0) hx hb dX0_sideCarries_63 (by decide) ?_
    obtain rfl := Option.some.inj h
    exact W.zret hx hb hr rfl (fun t ht _ => ⟨rfl, ht⟩) (fun _ h9 => absurd h9 List.not_mem_nil) dX0_sideCarries_64
  · rw [if_pos c2] at h
    refine lv_iload_n hx hb dX0_sideCarries_21 rfl (lv_at hl 3 rfl) ?_
    refine lv_i2l hx hb dX0_sideCarries_22 rfl ?_
    refine lv_aload_n hx hb dX0_sideCarries_23 rfl (lv_at hl 1 rfl) ?_
    refine lv_iload_n hx hb dX0_sideCarries_24 rfl (lv_at hl 2 rfl) ?_
    obtain ⟨r4, hcr4, h⟩ := og_bind h
    refine cp_s (va_runV (As := [.int a1]) (rest := [.long (a2.toInt64)]) ⟨hx, hb, hml, hown, hts⟩ (k_X0_x l D cI cF q qx qy xs ys n a1 _ hcr4) (cwV 1 hts gX0_sideCarries_X0_x rfl rfl rfl (by decide +kernel) ⟨(Nat.le_of_ble_eq_true rfl), (Nat.le_of_ble_eq_true rfl)⟩) (pre_v (q0 := 0) (ci := 0) hK hP rfl rfl) rfl rfl hl.1 rfl (lv_room (Nat.le_of_ble_eq_true rfl)) dX0_sideCarries_25 ⟨(Nat.zero_le _), (Nat.zero_le _)⟩) ?_
    refine lv_aload_n hx hb dX0_sideCarries_28 rfl (lv_at hl 1 rfl) ?_
    refine lv_iload hx hb dX0_sideCarries_29 (lv_at hl 0 rfl) ?_
    obtain ⟨r5, hcr5, h⟩ := og_bind h
    refine cp_s (va_runV (As := [.int r1]) (rest := [.int r4, .long (a2.toInt64)]) ⟨hx, hb, hml, hown, hts⟩ (k_X0_x l D cI cF q qx qy xs ys n r1 _ hcr5) (cwV 1 hts gX0_sideCarries_X0_x rfl rfl rfl (by decide +kernel) ⟨(Nat.le_of_ble_eq_true rfl), (Nat.le_of_ble_eq_true rfl)⟩) (pre_v (q0 := 0) (ci := 0) hK hP rfl rfl) rfl rfl hl.1 rfl (lv_room (Nat.le_of_ble_eq_true rfl)) dX0_sideCarries_31 ⟨(Nat.zero_le _), (Nat.zero_le _)⟩) ?_
    obtain ⟨r6, hcr6, h⟩ := og_bind h
    refine cp_s (va_runS (As := [.long (a2.toInt64), .int r4, .int r5]) (rest := []) ⟨hx, hb, hml, hown, hts⟩ (k_X0_between l (a2.toInt64) r4 r5 _ hcr6) (va_cwS 3 hts gX0_sideCarries_X0_between rfl rfl rfl (by decide +kernel) ⟨(Nat.le_of_ble_eq_true rfl), (Nat.le_of_ble_eq_true rfl)⟩) pre_s rfl rfl hl.1 rfl (lv_room (Nat.le_of_ble_eq_true rfl)) dX0_sideCarries_34 ⟨(Nat.zero_le _), (Nat.zero_le _)⟩) ?_
    refine lv_if_eq (tgt := 63) hx hb dX0_sideCarries_37 (by decide) (fun c6 => ?_) (fun c6 => ?_)
    · rw [if_pos c6] at h
      refine lv_iconst (v := 0) hx hb dX0_sideCarries_63 (by decide) ?_
      obtain rfl := Option.some.inj h
      exact W.zret hx hb hr rfl (fun t ht _ => ⟨rfl, ht⟩) (fun _ h9 => absurd h9 List.not_mem_nil) dX0_sideCarries_64
    · rw [if_neg c6] at h
      refine lv_iload_n hx hb dX0_sideCarries_40 rfl (lv_at hl 4 rfl) ?_
      refine lv_i2l hx hb dX0_sideCarries_41 rfl ?_
      refine lv_aload_n hx hb dX0_sideCarries_42 rfl (lv_at hl 1 rfl) ?_
      refine lv_iload_n hx hb dX0_sideCarries_43 rfl (lv_at hl 2 rfl) ?_
      obtain ⟨r8, hcr8, h⟩ := og_bind h
      refine cp_s (va_runV (As := [.int a1]) (rest := [.long (a3.toInt64)]) ⟨hx, hb, hml, hown, hts⟩ (k_X0_y l D cI cF q qx qy xs ys n a1 _ hcr8) (cwV 1 hts gX0_sideCarries_X0_y rfl rfl rfl (by decide +kernel) ⟨(Nat.le_of_ble_eq_true rfl), (Nat.le_of_ble_eq_true rfl)⟩) (pre_v (q0 := 0) (ci := 0) hK hP rfl rfl) rfl rfl hl.1 rfl (lv_room (Nat.le_of_ble_eq_true rfl)) dX0_sideCarries_44 ⟨(Nat.zero_le _), (Nat.zero_le _)⟩) ?_
      refine lv_aload_n hx hb dX0_sideCarries_47 rfl (lv_at hl 1 rfl) ?_
      refine lv_iload hx hb dX0_sideCarries_48 (lv_at hl 0 rfl) ?_
      obtain ⟨r9, hcr9, h⟩ := og_bind h
      refine cp_s (va_runV (As := [.int r1]) (rest := [.int r8, .long (a3.toInt64)]) ⟨hx, hb, hml, hown, hts⟩ (k_X0_y l D cI cF q qx qy xs ys n r1 _ hcr9) (cwV 1 hts gX0_sideCarries_X0_y rfl rfl rfl (by decide +kernel) ⟨(Nat.le_of_ble_eq_true rfl), (Nat.le_of_ble_eq_true rfl)⟩) (pre_v (q0 := 0) (ci := 0) hK hP rfl rfl) rfl rfl hl.1 rfl (lv_room (Nat.le_of_ble_eq_true rfl)) dX0_sideCarries_50 ⟨(Nat.zero_le _), (Nat.zero_le _)⟩) ?_
      obtain ⟨r10, hcr10, h⟩ := og_bind h
      refine cp_s (va_runS (As := [.long (a3.toInt64), .int r8, .int r9]) (rest := []) ⟨hx, hb, hml, hown, hts⟩ (k_X0_between l (a3.toInt64) r8 r9 _ hcr10) (va_cwS 3 hts gX0_sideCarries_X0_between rfl rfl rfl (by decide +kernel) ⟨(Nat.le_of_ble_eq_true rfl), (Nat.le_of_ble_eq_true rfl)⟩) pre_s rfl rfl hl.1 rfl (lv_room (Nat.le_of_ble_eq_true rfl)) dX0_sideCarries_53 ⟨(Nat.zero_le _), (Nat.zero_le _)⟩) ?_
      refine lv_if_eq (tgt := 63) hx hb dX0_sideCarries_56 (by decide) (fun c10 => ?_) (fun c10 => ?_)
      · rw [if_pos c10] at h
        refine lv_iconst (v := 0) hx hb dX0_sideCarries_63 (by decide) ?_
        obtain rfl := Option.some.inj h
        exact W.zret hx hb hr rfl (fun t ht _ => ⟨rfl, ht⟩) (fun _ h9 => absurd h9 List.not_mem_nil) dX0_sideCarries_64
      · rw [if_neg c10] at h
        refine lv_iconst (v := 1) hx hb dX0_sideCarries_59 (by decide) ?_
        refine lv_goto (tgt := 64) hx hb dX0_sideCarries_60 (by decide) ?_
        obtain rfl := Option.some.inj h
        exact W.zret hx hb hr rfl (fun t ht _ => ⟨rfl, ht⟩) (fun _ h9 => absurd h9 List.not_mem_nil) dX0_sideCarries_64
