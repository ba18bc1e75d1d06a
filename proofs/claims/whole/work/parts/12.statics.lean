def f_X1_within (a1 : Int32) (a2 : Int32) : Option Int32 :=
  if a1 < (-a2) then
  (some (0 : Int32))
  else
  (if a2 < a1 then
  (some (0 : Int32))
  else
  (some (1 : Int32)))
set_option maxHeartbeats 4000000 in
set_option maxRecDepth 100000 in
theorem k_X1_within (l : Launch) (a1 : Int32) (a2 : Int32) (r0 : Int32) (h : f_X1_within a1 a2 = some r0) : Met l yX1_within wsX1_within ({ frames := 0, cells := 0, slots := 0, locals := 0 }) (va_Pc [.int a1, .int a2] (fun _ => True)) (qS (.int r0)) 0 0 (fun _ => False) := by
  refine Met.ofW (cc := cX1_within) (maxL := 2) (ret := (some .boolean)) (by decide) rfl ?_
  intro p e s m args below meth c s₁ B hml hv
  obtain ⟨rfl, -⟩ := hv
  have hx := B.exec
  have hb := B.bytes
  have hr := B.returns
  have hts := atoms_spec (ws := wsX1_within) B.pre
  have hown : s.vm.findClass RX1 = some m.cls := findClass_of_methodNamed B.named
  have hlocks := B.notSynchronized
  have hl := lv_entry ([.int a1, .int a2]) (n := 2) (Nat.le_of_ble_eq_true rfl)
  rw [lg_entry_eq]
  generalize (lg_sl ([.int a1, .int a2]) ++ List.replicate (2 - (lg_sl ([.int a1, .int a2])).length) Slot.unset).toArray = ls at hl ⊢
  have hl : lv_has ls 2 [(0, .int a1), (1, .int a2)] := hl
  unfold f_X1_within at h
  refine lv_iload_n hx hb dX1_within_0 rfl (lv_at hl 0 rfl) ?_
  refine lv_iload_n hx hb dX1_within_1 rfl (lv_at hl 1 rfl) ?_
  refine lv_ineg hx hb dX1_within_2 ?_
  refine lv_icmp_lt (tgt := 15) hx hb dX1_within_3 (by decide) (fun c0 => ?_) (fun c0 => ?_)
  · rw [if_pos c0] at h
    refine lv_iconst (v := 0) hx hb dX1_within_15 (by decide) ?_
    obtain rfl := Option.some.inj h
    exact W.zret hx hb hr rfl (fun t ht _ => ⟨rfl, ht⟩) (fun _ h9 => absurd h9 List.not_mem_nil) dX1_within_16
  · rw [if_neg c0] at h
    refine lv_iload_n hx hb dX1_within_6 rfl (lv_at hl 0 rfl) ?_
    refine lv_iload_n hx hb dX1_within_7 rfl (lv_at hl 1 rfl) ?_
    refine lv_icmp_gt (tgt := 15) hx hb dX1_within_8 (by decide) (fun c1 => ?_) (fun c1 => ?_)
    · rw [if_pos c1] at h
      refine lv_iconst (v := 0) hx hb dX1_within_15 (by decide) ?_
      obtain rfl := Option.some.inj h
      exact W.zret hx hb hr rfl (fun t ht _ => ⟨rfl, ht⟩) (fun _ h9 => absurd h9 List.not_mem_nil) dX1_within_16
    · rw [if_neg c1] at h
      refine lv_iconst (v := 1) hx hb dX1_within_11 (by decide) ?_
      refine lv_goto (tgt := 16) hx hb dX1_within_12 (by decide) ?_
      obtain rfl := Option.some.inj h
      exact W.zret hx hb hr rfl (fun t ht _ => ⟨rfl, ht⟩) (fun _ h9 => absurd h9 List.not_mem_nil) dX1_within_16
def f_X1_from0To (a1 : Int32) (a2 : Int32) : Option Int32 :=
  if a1 < (0) then
  (some (0 : Int32))
  else
  (if a2 < a1 then
  (some (0 : Int32))
  else
  (some (1 : Int32)))
set_option maxHeartbeats 4000000 in
set_option maxRecDepth 100000 in
theorem k_X1_from0To (l : Launch) (a1 : Int32) (a2 : Int32) (r0 : Int32) (h : f_X1_from0To a1 a2 = some r0) : Met l yX1_from0To wsX1_from0To ({ frames := 0, cells := 0, slots := 0, locals := 0 }) (va_Pc [.int a1, .int a2] (fun _ => True)) (qS (.int r0)) 0 0 (fun _ => False) := by
  refine Met.ofW (cc := cX1_from0To) (maxL := 2) (ret := (some .boolean)) (by decide) rfl ?_
  intro p e s m args below meth c s₁ B hml hv
  obtain ⟨rfl, -⟩ := hv
  have hx := B.exec
  have hb := B.bytes
  have hr := B.returns
  have hts := atoms_spec (ws := wsX1_from0To) B.pre
  have hown : s.vm.findClass RX1 = some m.cls := findClass_of_methodNamed B.named
  have hlocks := B.notSynchronized
  have hl := lv_entry ([.int a1, .int a2]) (n := 2) (Nat.le_of_ble_eq_true rfl)
  rw [lg_entry_eq]
  generalize (lg_sl ([.int a1, .int a2]) ++ List.replicate (2 - (lg_sl ([.int a1, .int a2])).length) Slot.unset).toArray = ls at hl ⊢
  have hl : lv_has ls 2 [(0, .int a1), (1, .int a2)] := hl
  unfold f_X1_from0To at h
  refine lv_iload_n hx hb dX1_from0To_0 rfl (lv_at hl 0 rfl) ?_
  refine lv_if_lt (tgt := 13) hx hb dX1_from0To_1 (by decide) (fun c0 => ?_) (fun c0 => ?_)
  · rw [if_pos c0] at h
    refine lv_iconst (v := 0) hx hb dX1_from0To_13 (by decide) ?_
    obtain rfl := Option.some.inj h
    exact W.zret hx hb hr rfl (fun t ht _ => ⟨rfl, ht⟩) (fun _ h9 => absurd h9 List.not_mem_nil) dX1_from0To_14
  · rw [if_neg c0] at h
    refine lv_iload_n hx hb dX1_from0To_4 rfl (lv_at hl 0 rfl) ?_
    refine lv_iload_n hx hb dX1_from0To_5 rfl (lv_at hl 1 rfl) ?_
    refine lv_icmp_gt (tgt := 13) hx hb dX1_from0To_6 (by decide) (fun c1 => ?_) (fun c1 => ?_)
    · rw [if_pos c1] at h
      refine lv_iconst (v := 0) hx hb dX1_from0To_13 (by decide) ?_
      obtain rfl := Option.some.inj h
      exact W.zret hx hb hr rfl (fun t ht _ => ⟨rfl, ht⟩) (fun _ h9 => absurd h9 List.not_mem_nil) dX1_from0To_14
    · rw [if_neg c1] at h
      refine lv_iconst (v := 1) hx hb dX1_from0To_9 (by decide) ?_
      refine lv_goto (tgt := 14) hx hb dX1_from0To_10 (by decide) ?_
      obtain rfl := Option.some.inj h
      exact W.zret hx hb hr rfl (fun t ht _ => ⟨rfl, ht⟩) (fun _ h9 => absurd h9 List.not_mem_nil) dX1_from0To_14
def f_X1_from1To (a1 : Int32) (a2 : Int32) : Option Int32 :=
  if a1 < (1 : Int32) then
  (some (0 : Int32))
  else
  (if a2 < a1 then
  (some (0 : Int32))
  else
  (some (1 : Int32)))
set_option maxHeartbeats 4000000 in
set_option maxRecDepth 100000 in
theorem k_X1_from1To (l : Launch) (a1 : Int32) (a2 : Int32) (r0 : Int32) (h : f_X1_from1To a1 a2 = some r0) : Met l yX1_from1To wsX1_from1To ({ frames := 0, cells := 0, slots := 0, locals := 0 }) (va_Pc [.int a1, .int a2] (fun _ => True)) (qS (.int r0)) 0 0 (fun _ => False) := by
  refine Met.ofW (cc := cX1_from1To) (maxL := 2) (ret := (some .boolean)) (by decide) rfl ?_
  intro p e s m args below meth c s₁ B hml hv
  obtain ⟨rfl, -⟩ := hv
  have hx := B.exec
  have hb := B.bytes
  have hr := B.returns
  have hts := atoms_spec (ws := wsX1_from1To) B.pre
  have hown : s.vm.findClass RX1 = some m.cls := findClass_of_methodNamed B.named
  have hlocks := B.notSynchronized
  have hl := lv_entry ([.int a1, .int a2]) (n := 2) (Nat.le_of_ble_eq_true rfl)
  rw [lg_entry_eq]
  generalize (lg_sl ([.int a1, .int a2]) ++ List.replicate (2 - (lg_sl ([.int a1, .int a2])).length) Slot.unset).toArray = ls at hl ⊢
  have hl : lv_has ls 2 [(0, .int a1), (1, .int a2)] := hl
  unfold f_X1_from1To at h
  refine lv_iload_n hx hb dX1_from1To_0 rfl (lv_at hl 0 rfl) ?_
  refine lv_iconst (v := 1) hx hb dX1_from1To_1 (by decide) ?_
  refine lv_icmp_lt (tgt := 14) hx hb dX1_from1To_2 (by decide) (fun c0 => ?_) (fun c0 => ?_)
  · rw [if_pos c0] at h
    refine lv_iconst (v := 0) hx hb dX1_from1To_14 (by decide) ?_
    obtain rfl := Option.some.inj h
    exact W.zret hx hb hr rfl (fun t ht _ => ⟨rfl, ht⟩) (fun _ h9 => absurd h9 List.not_mem_nil) dX1_from1To_15
  · rw [if_neg c0] at h
    refine lv_iload_n hx hb dX1_from1To_5 rfl (lv_at hl 0 rfl) ?_
    refine lv_iload_n hx hb dX1_from1To_6 rfl (lv_at hl 1 rfl) ?_
    refine lv_icmp_gt (tgt := 14) hx hb dX1_from1To_7 (by decide) (fun c1 => ?_) (fun c1 => ?_)
    · rw [if_pos c1] at h
      refine lv_iconst (v := 0) hx hb dX1_from1To_14 (by decide) ?_
      obtain rfl := Option.some.inj h
      exact W.zret hx hb hr rfl (fun t ht _ => ⟨rfl, ht⟩) (fun _ h9 => absurd h9 List.not_mem_nil) dX1_from1To_15
    · rw [if_neg c1] at h
      refine lv_iconst (v := 1) hx hb dX1_from1To_10 (by decide) ?_
      refine lv_goto (tgt := 15) hx hb dX1_from1To_11 (by decide) ?_
      obtain rfl := Option.some.inj h
      exact W.zret hx hb hr rfl (fun t ht _ => ⟨rfl, ht⟩) (fun _ h9 => absurd h9 List.not_mem_nil) dX1_from1To_15
def f_X1_zeroOrOne (a1 : Int32) : Option Int32 :=
  if a1 = (0) then
  (some (1 : Int32))
  else
  (if a1 = (1 : Int32) then
  (some (1 : Int32))
  else
  (some (0 : Int32)))
set_option maxHeartbeats 4000000 in
set_option maxRecDepth 100000 in
theorem k_X1_zeroOrOne (l : Launch) (a1 : Int32) (r0 : Int32) (h : f_X1_zeroOrOne a1 = some r0) : Met l yX1_zeroOrOne wsX1_zeroOrOne ({ frames := 0, cells := 0, slots := 0, locals := 0 }) (va_Pc [.int a1] (fun _ => True)) (qS (.int r0)) 0 0 (fun _ => False) := by
  refine Met.ofW (cc := cX1_zeroOrOne) (maxL := 1) (ret := (some .boolean)) (by decide) rfl ?_
  intro p e s m args below meth c s₁ B hml hv
  obtain ⟨rfl, -⟩ := hv
  have hx := B.exec
  have hb := B.bytes
  have hr := B.returns
  have hts := atoms_spec (ws := wsX1_zeroOrOne) B.pre
  have hown : s.vm.findClass RX1 = some m.cls := findClass_of_methodNamed B.named
  have hlocks := B.notSynchronized
  have hl := lv_entry ([.int a1]) (n := 1) (Nat.le_of_ble_eq_true rfl)
  rw [lg_entry_eq]
  generalize (lg_sl ([.int a1]) ++ List.replicate (1 - (lg_sl ([.int a1])).length) Slot.unset).toArray = ls at hl ⊢
  have hl : lv_has ls 1 [(0, .int a1)] := hl
  unfold f_X1_zeroOrOne at h
  refine lv_iload_n hx hb dX1_zeroOrOne_0 rfl (lv_at hl 0 rfl) ?_
  refine lv_if_eq (tgt := 9) hx hb dX1_zeroOrOne_1 (by decide) (fun c0 => ?_) (fun c0 => ?_)
  · rw [if_pos c0] at h
    refine lv_iconst (v := 1) hx hb dX1_zeroOrOne_9 (by decide) ?_
    refine lv_goto (tgt := 14) hx hb dX1_zeroOrOne_10 (by decide) ?_
    obtain rfl := Option.some.inj h
    exact W.zret hx hb hr rfl (fun t ht _ => ⟨rfl, ht⟩) (fun _ h9 => absurd h9 List.not_mem_nil) dX1_zeroOrOne_14
  · rw [if_neg c0] at h
    refine lv_iload_n hx hb dX1_zeroOrOne_4 rfl (lv_at hl 0 rfl) ?_
    refine lv_iconst (v := 1) hx hb dX1_zeroOrOne_5 (by decide) ?_
    refine lv_icmp_ne (tgt := 13) hx hb dX1_zeroOrOne_6 (by decide) (fun c1 => ?_) (fun c1 => ?_)
    · rw [if_neg c1] at h
      refine lv_iconst (v := 0) hx hb dX1_zeroOrOne_13 (by decide) ?_
      obtain rfl := Option.some.inj h
      exact W.zret hx hb hr rfl (fun t ht _ => ⟨rfl, ht⟩) (fun _ h9 => absurd h9 List.not_mem_nil) dX1_zeroOrOne_14
    · rw [if_pos c1] at h
      refine lv_iconst (v := 1) hx hb dX1_zeroOrOne_9 (by decide) ?_
      refine lv_goto (tgt := 14) hx hb dX1_zeroOrOne_10 (by decide) ?_
      obtain rfl := Option.some.inj h
      exact W.zret hx hb hr rfl (fun t ht _ => ⟨rfl, ht⟩) (fun _ h9 => absurd h9 List.not_mem_nil) dX1_zeroOrOne_14
def f_X1_oneIf (a1 : Int32) : Option Int32 :=
  if a1 = (0) then
  (some (0 : Int32))
  else
  (some (1 : Int32))
set_option maxHeartbeats 4000000 in
set_option maxRecDepth 100000 in
theorem k_X1_oneIf (l : Launch) (a1 : Int32) (r0 : Int32) (h : f_X1_oneIf a1 = some r0) : Met l yX1_oneIf wsX1_oneIf ({ frames := 0, cells := 0, slots := 0, locals := 0 }) (va_Pc [.int a1] (fun _ => True)) (qS (.int r0)) 0 0 (fun _ => False) := by
  refine Met.ofW (cc := cX1_oneIf) (maxL := 1) (ret := (some .int)) (by decide) rfl ?_
  intro p e s m args below meth c s₁ B hml hv
  obtain ⟨rfl, -⟩ := hv
  have hx := B.exec
  have hb := B.bytes
  have hr := B.returns
  have hts := atoms_spec (ws := wsX1_oneIf) B.pre
  have hown : s.vm.findClass RX1 = some m.cls := findClass_of_methodNamed B.named
  have hlocks := B.notSynchronized
  have hl := lv_entry ([.int a1]) (n := 1) (Nat.le_of_ble_eq_true rfl)
  rw [lg_entry_eq]
  generalize (lg_sl ([.int a1]) ++ List.replicate (1 - (lg_sl ([.int a1])).length) Slot.unset).toArray = ls at hl ⊢
  have hl : lv_has ls 1 [(0, .int a1)] := hl
  unfold f_X1_oneIf at h
  refine lv_iload_n hx hb dX1_oneIf_0 rfl (lv_at hl 0 rfl) ?_
  refine lv_if_eq (tgt := 8) hx hb dX1_oneIf_1 (by decide) (fun c0 => ?_) (fun c0 => ?_)
  · rw [if_pos c0] at h
    refine lv_iconst (v := 0) hx hb dX1_oneIf_8 (by decide) ?_
    obtain rfl := Option.some.inj h
    exact W.iret hx hb hr (fun t ht _ => ⟨rfl, ht⟩) (fun _ h9 => absurd h9 List.not_mem_nil) dX1_oneIf_9
  · rw [if_neg c0] at h
    refine lv_iconst (v := 1) hx hb dX1_oneIf_4 (by decide) ?_
    refine lv_goto (tgt := 9) hx hb dX1_oneIf_5 (by decide) ?_
    obtain rfl := Option.some.inj h
    exact W.iret hx hb hr (fun t ht _ => ⟨rfl, ht⟩) (fun _ h9 => absurd h9 List.not_mem_nil) dX1_oneIf_9
def f_X1_cut (a1 : Int64) (a2 : Int64) : Option Int64 :=
  if (lg_cmp a2 (0 : Int64)) ≤ (0) then
  (some (0 : Int64))
  else
  (if a2 = 0 then none else
  some (a1 / a2))
set_option maxHeartbeats 4000000 in
set_option maxRecDepth 100000 in
theorem k_X1_cut (l : Launch) (a1 : Int64) (a2 : Int64) (r0 : Int64) (h : f_X1_cut a1 a2 = some r0) : Met l yX1_cut wsX1_cut ({ frames := 0, cells := 0, slots := 0, locals := 0 }) (va_Pc [.long a1, .long a2] (fun _ => True)) (qS (.long r0)) 0 0 (fun _ => False) := by
  refine Met.ofW (cc := cX1_cut) (maxL := 4) (ret := (some .long)) (by decide) rfl ?_
  intro p e s m args below meth c s₁ B hml hv
  obtain ⟨rfl, -⟩ := hv
  have hx := B.exec
  have hb := B.bytes
  have hr := B.returns
  have hts := atoms_spec (ws := wsX1_cut) B.pre
  have hown : s.vm.findClass RX1 = some m.cls := findClass_of_methodNamed B.named
  have hlocks := B.notSynchronized
  have hl := lv_entry ([.long a1, .long a2]) (n := 4) (Nat.le_of_ble_eq_true rfl)
  rw [lg_entry_eq]
  generalize (lg_sl ([.long a1, .long a2]) ++ List.replicate (4 - (lg_sl ([.long a1, .long a2])).length) Slot.unset).toArray = ls at hl ⊢
  have hl : lv_has ls 4 [(0, .long a1), (2, .long a2)] := hl
  unfold f_X1_cut at h
  refine lv_lload_n hx hb dX1_cut_0 rfl (lv_at hl 1 rfl) ?_
  refine lv_lconst (v := 0) hx hb dX1_cut_1 (by decide) ?_
  refine W.lcmp hx hb dX1_cut_2 ?_
  refine lv_if_le (tgt := 12) hx hb dX1_cut_3 (by decide) (fun c0 => ?_) (fun c0 => ?_)
  · rw [if_pos c0] at h
    refine lv_lconst (v := 0) hx hb dX1_cut_12 (by decide) ?_
    obtain rfl := Option.some.inj h
    exact W.lret hx hb hr (fun t ht _ => ⟨rfl, ht⟩) (fun _ h9 => absurd h9 List.not_mem_nil) dX1_cut_13
  · rw [if_neg c0] at h
    refine lv_lload_n hx hb dX1_cut_6 rfl (lv_at hl 0 rfl) ?_
    refine lv_lload_n hx hb dX1_cut_7 rfl (lv_at hl 1 rfl) ?_
    obtain ⟨gz1, h⟩ := og_nz h
    refine lv_ldiv hx hb dX1_cut_8 gz1 ?_
    refine lv_goto (tgt := 13) hx hb dX1_cut_9 (by decide) ?_
    obtain rfl := Option.some.inj h
    exact W.lret hx hb hr (fun t ht _ => ⟨rfl, ht⟩) (fun _ h9 => absurd h9 List.not_mem_nil) dX1_cut_13
def s_X1_commonDivisor_9 (u9 : (Int64 × Int64 × Int32)) : Option ((Int64 × Int64 × Int32) ⊕ Int64) :=
  if (100 : Int32) ≤ u9.2.2 then
  (some (.inr u9.1))
  else
  (if (lg_cmp u9.2.1 (0 : Int64)) = (0) then
  (some (.inr u9.1))
  else
  (if u9.2.1 = 0 then none else
  ov (u9.1 - u9.1 / u9.2.1 * u9.2.1) fun v4 =>
  ov (u9.2.2 + (1 : Int32)) fun v5 =>
  some (.inl (u9.2.1, v4, v5))))
def f_X1_commonDivisor (a1 : Int64) (a2 : Int64) : Option Int64 :=
  (lpf (s_X1_commonDivisor_9) 1000 (a1, a2, (0 : Int32))).bind fun x6 =>
  some x6
set_option maxHeartbeats 4000000 in
set_option maxRecDepth 100000 in
theorem k_X1_commonDivisor (l : Launch) (a1 : Int64) (a2 : Int64) (r0 : Int64) (h : f_X1_commonDivisor a1 a2 = some r0) : Met l yX1_commonDivisor wsX1_commonDivisor ({ frames := 0, cells := 0, slots := 0, locals := 0 }) (va_Pc [.long a1, .long a2] (fun _ => True)) (qS (.long r0)) 0 0 (fun _ => False) := by
  refine Met.ofW (cc := cX1_commonDivisor) (maxL := 11) (ret := (some .long)) (by decide) rfl ?_
  intro p e s m args below meth c s₁ B hml hv
  obtain ⟨rfl, -⟩ := hv
  have hx := B.exec
  have hb := B.bytes
  have hr := B.returns
  have hts := atoms_spec (ws := wsX1_commonDivisor) B.pre
  have hown : s.vm.findClass RX1 = some m.cls := findClass_of_methodNamed B.named
  have hlocks := B.notSynchronized
  have hl := lv_entry ([.long a1, .long a2]) (n := 11) (Nat.le_of_ble_eq_true rfl)
  rw [lg_entry_eq]
  generalize (lg_sl ([.long a1, .long a2]) ++ List.replicate (11 - (lg_sl ([.long a1, .long a2])).length) Slot.unset).toArray = ls at hl ⊢
  have hl : lv_has ls 11 [(0, .long a1), (2, .long a2)] := hl
  unfold f_X1_commonDivisor at h
  refine lv_lload_n hx hb dX1_commonDivisor_0 rfl (lv_at hl 0 rfl) ?_
  refine lv_lstore (lv' := [(4, .long a1), (0, .long a1), (2, .long a2)]) hx hb dX1_commonDivisor_1 hl (by decide) rfl (fun ls hl => ?_)
  refine lv_lload_n hx hb dX1_commonDivisor_3 rfl (lv_at hl 2 rfl) ?_
  refine lv_lstore (lv' := [(6, .long a2), (4, .long a1), (0, .long a1), (2, .long a2)]) hx hb dX1_commonDivisor_4 hl (by decide) rfl (fun ls hl => ?_)
  refine lv_iconst (v := 0) hx hb dX1_commonDivisor_6 (by decide) ?_
  refine lv_istore (lv' := [(8, .int (0 : Int32)), (6, .long a2), (4, .long a1), (0, .long a1), (2, .long a2)]) hx hb dX1_commonDivisor_7 hl (by decide) rfl (fun ls hl => ?_)
  obtain ⟨x6, hN9, h⟩ := og_bind h
  refine wl hN9 9 44 (fun u9 ls => lv_has ls 11 [(4, .long u9.1), (6, .long u9.2.1), (8, .int u9.2.2)]) (fun x6 ls => lv_has ls 11 [(4, .long x6)]) (fun u9 xx h ki9 kx9 ls hl => ?_) (fun ls hl => ?_) (lv_sub hl [2, 1, 0] rfl)
  · unfold s_X1_commonDivisor_9 at h
    refine lv_iload hx hb dX1_commonDivisor_9 (lv_at hl 2 rfl) ?_
    refine lv_bipush (v := 100) hx hb dX1_commonDivisor_11 (by decide) ?_
    refine lv_icmp_ge (tgt := 44) hx hb dX1_commonDivisor_13 (by decide) (fun c0 => ?_) (fun c0 => ?_)
    · rw [if_pos c0] at h
      exact kx9 _ ls (Option.some.inj h).symm (lv_sub hl [0] rfl)
    · rw [if_neg c0] at h
      refine lv_lload hx hb dX1_commonDivisor_16 (lv_at hl 1 rfl) ?_
      refine lv_lconst (v := 0) hx hb dX1_commonDivisor_18 (by decide) ?_
      refine W.lcmp hx hb dX1_commonDivisor_19 ?_
      refine lv_if_eq (tgt := 44) hx hb dX1_commonDivisor_20 (by decide) (fun c1 => ?_) (fun c1 => ?_)
      · rw [if_pos c1] at h
        exact kx9 _ ls (Option.some.inj h).symm (lv_sub hl [0] rfl)
      · rw [if_neg c1] at h
        refine lv_lload hx hb dX1_commonDivisor_23 (lv_at hl 0 rfl) ?_
        refine lv_lload hx hb dX1_commonDivisor_25 (lv_at hl 1 rfl) ?_
        obtain ⟨gz2, h⟩ := og_nz h
        refine lv_lrem hx hb dX1_commonDivisor_27 gz2 ?_
        refine lv_topl (fun v4 ev4 => ?_)
        have h := og_ov h ev4
        refine lv_lstore (lv' := [(9, .long v4), (4, .long u9.1), (6, .long u9.2.1), (8, .int u9.2.2)]) hx hb dX1_commonDivisor_28 hl (by decide) rfl (fun ls hl => ?_)
        refine lv_lload hx hb dX1_commonDivisor_30 (lv_at hl 2 rfl) ?_
        refine lv_lstore (lv' := [(4, .long u9.2.1), (9, .long v4), (6, .long u9.2.1), (8, .int u9.2.2)]) hx hb dX1_commonDivisor_32 hl (by decide) rfl (fun ls hl => ?_)
        refine lv_lload hx hb dX1_commonDivisor_34 (lv_at hl 1 rfl) ?_
        refine lv_lstore (lv' := [(6, .long v4), (4, .long u9.2.1), (9, .long v4), (8, .int u9.2.2)]) hx hb dX1_commonDivisor_36 hl (by decide) rfl (fun ls hl => ?_)
        obtain ⟨v5, ev5⟩ : ∃ y : Int32, y = u9.2.2 + (1 : Int32) := ⟨_, rfl⟩
        have h := og_ov h ev5
        refine lv_iinc (v := v5) (lv' := [(8, .int v5), (6, .long v4), (4, .long u9.2.1), (9, .long v4)]) hx hb dX1_commonDivisor_38 hl (k := 3) rfl (by rw [ev5]; rfl) (by decide) rfl (fun ls hl => ?_)
        refine lv_goto (tgt := 9) hx hb dX1_commonDivisor_41 (by decide) ?_
        exact ki9 _ ls (Option.some.inj h).symm (lv_sub hl [2, 1, 0] rfl)
  · refine lv_lload hx hb dX1_commonDivisor_44 (lv_at hl 0 rfl) ?_
    obtain rfl := Option.some.inj h
    exact W.lret hx hb hr (fun t ht _ => ⟨rfl, ht⟩) (fun _ h9 => absurd h9 List.not_mem_nil) dX1_commonDivisor_46
def f_X1_fraction (a1 : Int64) (a2 : Int64) (a3 : Int32) : Option Int64 :=
  ov (mabsL a1) fun v1 =>
  (f_X1_commonDivisor v1 a2).bind fun r2 =>
  if a3 = (0) then
  ((f_X1_cut a1 r2).bind fun r5 =>
  some r5)
  else
  ((f_X1_cut a2 r2).bind fun r4 =>
  some r4)
set_option maxHeartbeats 4000000 in
set_option maxRecDepth 100000 in
theorem k_X1_fraction (l : Launch) (a1 : Int64) (a2 : Int64) (a3 : Int32) (r0 : Int64) (h : f_X1_fraction a1 a2 a3 = some r0) : Met l yX1_fraction wsX1_fraction ({ frames := 1, cells := 0, slots := 0, locals := 30 }) (va_Pc [.long a1, .long a2, .int a3] (fun _ => True)) (qS (.long r0)) 0 0 (fun _ => False) := by
  refine Met.ofW (cc := cX1_fraction) (maxL := 7) (ret := (some .long)) (by decide) rfl ?_
  intro p e s m args below meth c s₁ B hml hv
  obtain ⟨rfl, -⟩ := hv
  have hx := B.exec
  have hb := B.bytes
  have hr := B.returns
  have hts := atoms_spec (ws := wsX1_fraction) B.pre
  have hown : s.vm.findClass RX1 = some m.cls := findClass_of_methodNamed B.named
  have hlocks := B.notSynchronized
  have ht1 := hts (.methodLink RX1 155 Lib.MathLoose.abs_long.x) (by decide +kernel)
  have ht2 := hts (.static Lib.MathLoose.abs_long.x) (by decide +kernel)
  have ht3 := hts (.initialized "java/lang/Math") (by decide +kernel)
  have ht4 := hts (.code Lib.MathLoose.abs_long.x Lib.MathLoose.abs_long.code 2 (some .long)) (by decide +kernel)
  have hl := lv_entry ([.long a1, .long a2, .int a3]) (n := 7) (Nat.le_of_ble_eq_true rfl)
  rw [lg_entry_eq]
  generalize (lg_sl ([.long a1, .long a2, .int a3]) ++ List.replicate (7 - (lg_sl ([.long a1, .long a2, .int a3])).length) Slot.unset).toArray = ls at hl ⊢
  have hl : lv_has ls 7 [(0, .long a1), (2, .long a2), (4, .int a3)] := hl
  unfold f_X1_fraction at h
  refine lv_lload_n hx hb dX1_fraction_0 rfl (lv_at hl 0 rfl) ?_
  refine va_mabs_long hx hb (hml.trans hl.1.symm) hown ht1 ht2 ht3 ht4 (Nat.le_of_ble_eq_true rfl) (Nat.le_of_ble_eq_true rfl) (Nat.le_of_ble_eq_true rfl) (Nat.le_of_ble_eq_true rfl) dX1_fraction_1 ?_
  refine lv_topl (fun v1 ev1 => ?_)
  have h := og_ov h ev1
  refine lv_lload_n hx hb dX1_fraction_4 rfl (lv_at hl 1 rfl) ?_
  obtain ⟨r2, hcr2, h⟩ := og_bind h
  refine cp_s (va_runS (As := [.long v1, .long a2]) (rest := []) ⟨hx, hb, hml, hown, hts⟩ (k_X1_commonDivisor l v1 a2 _ hcr2) (va_cwS 2 hts gX1_fraction_X1_commonDivisor rfl rfl rfl (by decide +kernel) ⟨(Nat.le_of_ble_eq_true rfl), (Nat.le_of_ble_eq_true rfl)⟩) pre_s rfl rfl hl.1 rfl (lv_room (Nat.le_of_ble_eq_true rfl)) dX1_fraction_5 ⟨(Nat.zero_le _), (Nat.zero_le _)⟩) ?_
  refine lv_lstore (lv' := [(5, .long r2), (0, .long a1), (2, .long a2), (4, .int a3)]) hx hb dX1_fraction_8 hl (by decide) rfl (fun ls hl => ?_)
  refine lv_iload hx hb dX1_fraction_10 (lv_at hl 3 rfl) ?_
  refine lv_if_ne (tgt := 19) hx hb dX1_fraction_12 (by decide) (fun c2 => ?_) (fun c2 => ?_)
  · rw [if_neg c2] at h
    refine lv_lload_n hx hb dX1_fraction_19 rfl (lv_at hl 2 rfl) ?_
    refine lv_lload hx hb dX1_fraction_20 (lv_at hl 0 rfl) ?_
    obtain ⟨r4, hcr4, h⟩ := og_bind h
    refine cp_s (va_runS (As := [.long a2, .long r2]) (rest := []) ⟨hx, hb, hml, hown, hts⟩ (k_X1_cut l a2 r2 _ hcr4) (va_cwS 2 hts gX1_fraction_X1_cut rfl rfl rfl (by decide +kernel) ⟨(Nat.le_of_ble_eq_true rfl), (Nat.le_of_ble_eq_true rfl)⟩) pre_s rfl rfl hl.1 rfl (lv_room (Nat.le_of_ble_eq_true rfl)) dX1_fraction_22 ⟨(Nat.zero_le _), (Nat.zero_le _)⟩) ?_
    obtain rfl := Option.some.inj h
    exact W.lret hx hb hr (fun t ht _ => ⟨rfl, ht⟩) (fun _ h9 => absurd h9 List.not_mem_nil) dX1_fraction_25
  · rw [if_pos c2] at h
    refine lv_lload_n hx hb dX1_fraction_15 rfl (lv_at hl 1 rfl) ?_
    refine lv_goto (tgt := 20) hx hb dX1_fraction_16 (by decide) ?_
    refine lv_lload hx hb dX1_fraction_20 (lv_at hl 0 rfl) ?_
    obtain ⟨r5, hcr5, h⟩ := og_bind h
    refine cp_s (va_runS (As := [.long a1, .long r2]) (rest := []) ⟨hx, hb, hml, hown, hts⟩ (k_X1_cut l a1 r2 _ hcr5) (va_cwS 2 hts gX1_fraction_X1_cut rfl rfl rfl (by decide +kernel) ⟨(Nat.le_of_ble_eq_true rfl), (Nat.le_of_ble_eq_true rfl)⟩) pre_s rfl rfl hl.1 rfl (lv_room (Nat.le_of_ble_eq_true rfl)) dX1_fraction_22 ⟨(Nat.zero_le _), (Nat.zero_le _)⟩) ?_
    obtain rfl := Option.some.inj h
    exact W.lret hx hb hr (fun t ht _ => ⟨rfl, ht⟩) (fun _ h9 => absurd h9 List.not_mem_nil) dX1_fraction_25
def s_X1_rootOf_6 (a1 : Int64) (u6 : (Int64 × Int32)) : Option ((Int64 × Int32) ⊕ Int64) :=
  if u6.2 < (0) then
  (some (.inr u6.1))
  else
  (ov (u6.1 + ((1 : Int64) <<< (u6.2.toInt64 &&& 63))) fun v2 =>
  if (0) < (lg_cmp (v2 * v2) a1) then
  (ov (u6.2 + (-1 : Int32)) fun v4 =>
  some (.inl (u6.1, v4)))
  else
  (ov (u6.2 + (-1 : Int32)) fun v5 =>
  some (.inl (v2, v5))))
def f_X1_rootOf (a1 : Int64) : Option Int64 :=
  (lpf (s_X1_rootOf_6 a1) 1000 ((0 : Int64), (18 : Int32))).bind fun x6 =>
  some x6
set_option maxHeartbeats 4000000 in
set_option maxRecDepth 100000 in
theorem k_X1_rootOf (l : Launch) (a1 : Int64) (r0 : Int64) (h : f_X1_rootOf a1 = some r0) : Met l yX1_rootOf wsX1_rootOf ({ frames := 0, cells := 0, slots := 0, locals := 0 }) (va_Pc [.long a1] (fun _ => True)) (qS (.long r0)) 0 0 (fun _ => False) := by
  refine Met.ofW (cc := cX1_rootOf) (maxL := 7) (ret := (some .long)) (by decide) rfl ?_
  intro p e s m args below meth c s₁ B hml hv
  obtain ⟨rfl, -⟩ := hv
  have hx := B.exec
  have hb := B.bytes
  have hr := B.returns
  have hts := atoms_spec (ws := wsX1_rootOf) B.pre
  have hown : s.vm.findClass RX1 = some m.cls := findClass_of_methodNamed B.named
  have hlocks := B.notSynchronized
  have hl := lv_entry ([.long a1]) (n := 7) (Nat.le_of_ble_eq_true rfl)
  rw [lg_entry_eq]
  generalize (lg_sl ([.long a1]) ++ List.replicate (7 - (lg_sl ([.long a1])).length) Slot.unset).toArray = ls at hl ⊢
  have hl : lv_has ls 7 [(0, .long a1)] := hl
  unfold f_X1_rootOf at h
  refine lv_lconst (v := 0) hx hb dX1_rootOf_0 (by decide) ?_
  refine lv_lstore_n (lv' := [(2, .long (0 : Int64)), (0, .long a1)]) hx hb dX1_rootOf_1 rfl hl (by decide) rfl (fun ls hl => ?_)
  refine lv_bipush (v := 18) hx hb dX1_rootOf_2 (by decide) ?_
  refine lv_istore (lv' := [(4, .int (18 : Int32)), (2, .long (0 : Int64)), (0, .long a1)]) hx hb dX1_rootOf_4 hl (by decide) rfl (fun ls hl => ?_)
  obtain ⟨x6, hN6, h⟩ := og_bind h
  refine wl hN6 6 38 (fun u6 ls => lv_has ls 7 [(0, .long a1), (2, .long u6.1), (4, .int u6.2)]) (fun x6 ls => lv_has ls 7 [(2, .long x6)]) (fun u6 xx h ki6 kx6 ls hl => ?_) (fun ls hl => ?_) (lv_sub hl [2, 1, 0] rfl)
  · unfold s_X1_rootOf_6 at h
    refine lv_iload hx hb dX1_rootOf_6 (lv_at hl 2 rfl) ?_
    refine lv_if_lt (tgt := 38) hx hb dX1_rootOf_8 (by decide) (fun c0 => ?_) (fun c0 => ?_)
    · rw [if_pos c0] at h
      exact kx6 _ ls (Option.some.inj h).symm (lv_sub hl [1] rfl)
    · rw [if_neg c0] at h
      refine lv_lload_n hx hb dX1_rootOf_11 rfl (lv_at hl 1 rfl) ?_
      refine lv_lconst (v := 1) hx hb dX1_rootOf_12 (by decide) ?_
      refine lv_iload hx hb dX1_rootOf_13 (lv_at hl 2 rfl) ?_
      refine lv_lshl hx hb dX1_rootOf_15 rfl ?_
      refine lv_ladd hx hb dX1_rootOf_16 ?_
      refine lv_topl (fun v2 ev2 => ?_)
      have h := og_ov h ev2
      refine lv_lstore (lv' := [(5, .long v2), (0, .long a1), (2, .long u6.1), (4, .int u6.2)]) hx hb dX1_rootOf_17 hl (by decide) rfl (fun ls hl => ?_)
      refine lv_lload hx hb dX1_rootOf_19 (lv_at hl 0 rfl) ?_
      refine lv_lload hx hb dX1_rootOf_21 (lv_at hl 0 rfl) ?_
      refine lv_lmul hx hb dX1_rootOf_23 ?_
      refine lv_lload_n hx hb dX1_rootOf_24 rfl (lv_at hl 1 rfl) ?_
      refine W.lcmp hx hb dX1_rootOf_25 ?_
      refine lv_if_gt (tgt := 32) hx hb dX1_rootOf_26 (by decide) (fun c2 => ?_) (fun c2 => ?_)
      · rw [if_pos c2] at h
        obtain ⟨v4, ev4⟩ : ∃ y : Int32, y = u6.2 + (-1 : Int32) := ⟨_, rfl⟩
        have h := og_ov h ev4
        refine lv_iinc (v := v4) (lv' := [(4, .int v4), (5, .long v2), (0, .long a1), (2, .long u6.1)]) hx hb dX1_rootOf_32 hl (k := 3) rfl (by rw [ev4]; rfl) (by decide) rfl (fun ls hl => ?_)
        refine lv_goto (tgt := 6) hx hb dX1_rootOf_35 (by decide) ?_
        exact ki6 _ ls (Option.some.inj h).symm (lv_sub hl [2, 3, 0] rfl)
      · rw [if_neg c2] at h
        refine lv_lload hx hb dX1_rootOf_29 (lv_at hl 0 rfl) ?_
        refine lv_lstore_n (lv' := [(2, .long v2), (5, .long v2), (0, .long a1), (4, .int u6.2)]) hx hb dX1_rootOf_31 rfl hl (by decide) rfl (fun ls hl => ?_)
        obtain ⟨v5, ev5⟩ : ∃ y : Int32, y = u6.2 + (-1 : Int32) := ⟨_, rfl⟩
        have h := og_ov h ev5
        refine lv_iinc (v := v5) (lv' := [(4, .int v5), (2, .long v2), (5, .long v2), (0, .long a1)]) hx hb dX1_rootOf_32 hl (k := 3) rfl (by rw [ev5]; rfl) (by decide) rfl (fun ls hl => ?_)
        refine lv_goto (tgt := 6) hx hb dX1_rootOf_35 (by decide) ?_
        exact ki6 _ ls (Option.some.inj h).symm (lv_sub hl [3, 1, 0] rfl)
  · refine lv_lload_n hx hb dX1_rootOf_38 rfl (lv_at hl 0 rfl) ?_
    obtain rfl := Option.some.inj h
    exact W.lret hx hb hr (fun t ht _ => ⟨rfl, ht⟩) (fun _ h9 => absurd h9 List.not_mem_nil) dX1_rootOf_39
def f_X1_readable (a1 : Int32) (a2 : Int32) (a3 : Int32) : Option Int32 :=
  (f_X1_from0To a1 (1000000 : Int32)).bind fun r1 =>
  if r1 = (0) then
  (some (0 : Int32))
  else
  ((f_X1_from0To a2 (100 : Int32)).bind fun r3 =>
  if r3 = (0) then
  (some (0 : Int32))
  else
  ((f_X1_from0To a3 (100 : Int32)).bind fun r5 =>
  if r5 = (0) then
  (some (0 : Int32))
  else
  (some (1 : Int32))))
set_option maxHeartbeats 4000000 in
set_option maxRecDepth 100000 in
theorem k_X1_readable (l : Launch) (a1 : Int32) (a2 : Int32) (a3 : Int32) (r0 : Int32) (h : f_X1_readable a1 a2 a3 = some r0) : Met l yX1_readable wsX1_readable ({ frames := 1, cells := 0, slots := 0, locals := 21 }) (va_Pc [.int a1, .int a2, .int a3] (fun _ => True)) (qS (.int r0)) 0 0 (fun _ => False) := by
  refine Met.ofW (cc := cX1_readable) (maxL := 3) (ret := (some .boolean)) (by decide) rfl ?_
  intro p e s m args below meth c s₁ B hml hv
  obtain ⟨rfl, -⟩ := hv
  have hx := B.exec
  have hb := B.bytes
  have hr := B.returns
  have hts := atoms_spec (ws := wsX1_readable) B.pre
  have hown : s.vm.findClass RX1 = some m.cls := findClass_of_methodNamed B.named
  have hlocks := B.notSynchronized
  have ht1 := hts (.constant RX1 225 (1000000)) (by decide +kernel)
  have hl := lv_entry ([.int a1, .int a2, .int a3]) (n := 3) (Nat.le_of_ble_eq_true rfl)
  rw [lg_entry_eq]
  generalize (lg_sl ([.int a1, .int a2, .int a3]) ++ List.replicate (3 - (lg_sl ([.int a1, .int a2, .int a3])).length) Slot.unset).toArray = ls at hl ⊢
  have hl : lv_has ls 3 [(0, .int a1), (1, .int a2), (2, .int a3)] := hl
  unfold f_X1_readable at h
  refine lv_iload_n hx hb dX1_readable_0 rfl (lv_at hl 0 rfl) ?_
  refine lv_ldc hx hb hown ht1 dX1_readable_1 ?_
  obtain ⟨r1, hcr1, h⟩ := og_bind h
  refine cp_s (va_runS (As := [.int a1, .int (1000000 : Int32)]) (rest := []) ⟨hx, hb, hml, hown, hts⟩ (k_X1_from0To l a1 (1000000 : Int32) _ hcr1) (va_cwS 2 hts gX1_readable_X1_from0To rfl rfl rfl (by decide +kernel) ⟨(Nat.le_of_ble_eq_true rfl), (Nat.le_of_ble_eq_true rfl)⟩) pre_s rfl rfl hl.1 rfl (lv_room (Nat.le_of_ble_eq_true rfl)) dX1_readable_3 ⟨(Nat.zero_le _), (Nat.zero_le _)⟩) ?_
  refine lv_if_eq (tgt := 31) hx hb dX1_readable_6 (by decide) (fun c1 => ?_) (fun c1 => ?_)
  · rw [if_pos c1] at h
    refine lv_iconst (v := 0) hx hb dX1_readable_31 (by decide) ?_
    obtain rfl := Option.some.inj h
    exact W.zret hx hb hr rfl (fun t ht _ => ⟨rfl, ht⟩) (fun _ h9 => absurd h9 List.not_mem_nil) dX1_readable_32
  · rw [if_neg c1] at h
    refine lv_iload_n hx hb dX1_readable_9 rfl (lv_at hl 1 rfl) ?_
    refine lv_bipush (v := 100) hx hb dX1_readable_10 (by decide) ?_
    obtain ⟨r3, hcr3, h⟩ := og_bind h
    refine cp_s (va_runS (As := [.int a2, .int (100 : Int32)]) (rest := []) ⟨hx, hb, hml, hown, hts⟩ (k_X1_from0To l a2 (100 : Int32) _ hcr3) (va_cwS 2 hts gX1_readable_X1_from0To rfl rfl rfl (by decide +kernel) ⟨(Nat.le_of_ble_eq_true rfl), (Nat.le_of_ble_eq_true rfl)⟩) pre_s rfl rfl hl.1 rfl (lv_room (Nat.le_of_ble_eq_true rfl)) dX1_readable_12 ⟨(Nat.zero_le _), (Nat.zero_le _)⟩) ?_
    refine lv_if_eq (tgt := 31) hx hb dX1_readable_15 (by decide) (fun c3 => ?_) (fun c3 => ?_)
    · rw [if_pos c3] at h
      refine lv_iconst (v := 0) hx hb dX1_readable_31 (by decide) ?_
      obtain rfl := Option.some.inj h
      exact W.zret hx hb hr rfl (fun t ht _ => ⟨rfl, ht⟩) (fun _ h9 => absurd h9 List.not_mem_nil) dX1_readable_32
    · rw [if_neg c3] at h
      refine lv_iload_n hx hb dX1_readable_18 rfl (lv_at hl 2 rfl) ?_
      refine lv_bipush (v := 100) hx hb dX1_readable_19 (by decide) ?_
      obtain ⟨r5, hcr5, h⟩ := og_bind h
      refine cp_s (va_runS (As := [.int a3, .int (100 : Int32)]) (rest := []) ⟨hx, hb, hml, hown, hts⟩ (k_X1_from0To l a3 (100 : Int32) _ hcr5) (va_cwS 2 hts gX1_readable_X1_from0To rfl rfl rfl (by decide +kernel) ⟨(Nat.le_of_ble_eq_true rfl), (Nat.le_of_ble_eq_true rfl)⟩) pre_s rfl rfl hl.1 rfl (lv_room (Nat.le_of_ble_eq_true rfl)) dX1_readable_21 ⟨(Nat.zero_le _), (Nat.zero_le _)⟩) ?_
      refine lv_if_eq (tgt := 31) hx hb dX1_readable_24 (by decide) (fun c5 => ?_) (fun c5 => ?_)
      · rw [if_pos c5] at h
        refine lv_iconst (v := 0) hx hb dX1_readable_31 (by decide) ?_
        obtain rfl := Option.some.inj h
        exact W.zret hx hb hr rfl (fun t ht _ => ⟨rfl, ht⟩) (fun _ h9 => absurd h9 List.not_mem_nil) dX1_readable_32
      · rw [if_neg c5] at h
        refine lv_iconst (v := 1) hx hb dX1_readable_27 (by decide) ?_
        refine lv_goto (tgt := 32) hx hb dX1_readable_28 (by decide) ?_
        obtain rfl := Option.some.inj h
        exact W.zret hx hb hr rfl (fun t ht _ => ⟨rfl, ht⟩) (fun _ h9 => absurd h9 List.not_mem_nil) dX1_readable_32
def f_X1_leastTeeth (a1 : Int32) (a2 : Int32) (a3 : Int32) : Option Int64 :=
  ov (mmax (0 : Int32) (a1 - (a2 * a3))) fun v1 =>
  some (v1.toInt64)
set_option maxHeartbeats 4000000 in
set_option maxRecDepth 100000 in
theorem k_X1_leastTeeth (l : Launch) (a1 : Int32) (a2 : Int32) (a3 : Int32) (r0 : Int64) (h : f_X1_leastTeeth a1 a2 a3 = some r0) : Met l yX1_leastTeeth wsX1_leastTeeth ({ frames := 1, cells := 0, slots := 0, locals := 13 }) (va_Pc [.int a1, .int a2, .int a3] (fun _ => True)) (qS (.long r0)) 0 0 (fun _ => False) := by
  refine Met.ofW (cc := cX1_leastTeeth) (maxL := 3) (ret := (some .long)) (by decide) rfl ?_
  intro p e s m args below meth c s₁ B hml hv
  obtain ⟨rfl, -⟩ := hv
  have hx := B.exec
  have hb := B.bytes
  have hr := B.returns
  have hts := atoms_spec (ws := wsX1_leastTeeth) B.pre
  have hown : s.vm.findClass RX1 = some m.cls := findClass_of_methodNamed B.named
  have hlocks := B.notSynchronized
  have ht1 := hts (.methodLink RX1 226 Lib.Math.max.name) (by decide +kernel)
  have ht2 := hts (.static Lib.Math.max.name) (by decide +kernel)
  have ht3 := hts (.initialized "java/lang/Math") (by decide +kernel)
  have ht4 := hts (.code Lib.Math.max.name Lib.Math.max.code 2 (some .int)) (by decide +kernel)
  have hl := lv_entry ([.int a1, .int a2, .int a3]) (n := 3) (Nat.le_of_ble_eq_true rfl)
  rw [lg_entry_eq]
  generalize (lg_sl ([.int a1, .int a2, .int a3]) ++ List.replicate (3 - (lg_sl ([.int a1, .int a2, .int a3])).length) Slot.unset).toArray = ls at hl ⊢
  have hl : lv_has ls 3 [(0, .int a1), (1, .int a2), (2, .int a3)] := hl
  unfold f_X1_leastTeeth at h
  refine lv_iconst (v := 0) hx hb dX1_leastTeeth_0 (by decide) ?_
  refine lv_iload_n hx hb dX1_leastTeeth_1 rfl (lv_at hl 0 rfl) ?_
  refine lv_iload_n hx hb dX1_leastTeeth_2 rfl (lv_at hl 1 rfl) ?_
  refine lv_iload_n hx hb dX1_leastTeeth_3 rfl (lv_at hl 2 rfl) ?_
  refine lv_imul hx hb dX1_leastTeeth_4 ?_
  refine lv_isub hx hb dX1_leastTeeth_5 ?_
  refine va_mmax hx hb (hml.trans hl.1.symm) hown ht1 ht2 ht3 ht4 (Nat.le_of_ble_eq_true rfl) (Nat.le_of_ble_eq_true rfl) (Nat.le_of_ble_eq_true rfl) (Nat.le_of_ble_eq_true rfl) dX1_leastTeeth_6 ?_
  refine lv_topi (fun v1 ev1 => ?_)
  have h := og_ov h ev1
  refine lv_i2l hx hb dX1_leastTeeth_9 rfl ?_
  obtain rfl := Option.some.inj h
  exact W.lret hx hb hr (fun t ht _ => ⟨rfl, ht⟩) (fun _ h9 => absurd h9 List.not_mem_nil) dX1_leastTeeth_10
def f_X1_belowTeeth (a1 : Int32) (a2 : Int32) (a3 : Int32) : Option Int64 :=
  some (((a1 + (1 : Int32)) + (a2 * a3)).toInt64)
set_option maxHeartbeats 4000000 in
set_option maxRecDepth 100000 in
theorem k_X1_belowTeeth (l : Launch) (a1 : Int32) (a2 : Int32) (a3 : Int32) (r0 : Int64) (h : f_X1_belowTeeth a1 a2 a3 = some r0) : Met l yX1_belowTeeth wsX1_belowTeeth ({ frames := 0, cells := 0, slots := 0, locals := 0 }) (va_Pc [.int a1, .int a2, .int a3] (fun _ => True)) (qS (.long r0)) 0 0 (fun _ => False) := by
  refine Met.ofW (cc := cX1_belowTeeth) (maxL := 3) (ret := (some .long)) (by decide) rfl ?_
  intro p e s m args below meth c s₁ B hml hv
  obtain ⟨rfl, -⟩ := hv
  have hx := B.exec
  have hb := B.bytes
  have hr := B.returns
  have hts := atoms_spec (ws := wsX1_belowTeeth) B.pre
  have hown : s.vm.findClass RX1 = some m.cls := findClass_of_methodNamed B.named
  have hlocks := B.notSynchronized
  have hl := lv_entry ([.int a1, .int a2, .int a3]) (n := 3) (Nat.le_of_ble_eq_true rfl)
  rw [lg_entry_eq]
  generalize (lg_sl ([.int a1, .int a2, .int a3]) ++ List.replicate (3 - (lg_sl ([.int a1, .int a2, .int a3])).length) Slot.unset).toArray = ls at hl ⊢
  have hl : lv_has ls 3 [(0, .int a1), (1, .int a2), (2, .int a3)] := hl
  unfold f_X1_belowTeeth at h
  refine lv_iload_n hx hb dX1_belowTeeth_0 rfl (lv_at hl 0 rfl) ?_
  refine lv_iconst (v := 1) hx hb dX1_belowTeeth_1 (by decide) ?_
  refine lv_iadd hx hb dX1_belowTeeth_2 ?_
  refine lv_iload_n hx hb dX1_belowTeeth_3 rfl (lv_at hl 1 rfl) ?_
  refine lv_iload_n hx hb dX1_belowTeeth_4 rfl (lv_at hl 2 rfl) ?_
  refine lv_imul hx hb dX1_belowTeeth_5 ?_
  refine lv_iadd hx hb dX1_belowTeeth_6 ?_
  refine lv_i2l hx hb dX1_belowTeeth_7 rfl ?_
  obtain rfl := Option.some.inj h
  exact W.lret hx hb hr (fun t ht _ => ⟨rfl, ht⟩) (fun _ h9 => absurd h9 List.not_mem_nil) dX1_belowTeeth_8
def f_X2_in (a1 : Int32) (a2 : Int32) (a3 : Int32) : Option Int32 :=
  if a1 < a2 then
  (some (0 : Int32))
  else
  (if a3 < a1 then
  (some (0 : Int32))
  else
  (some (1 : Int32)))
set_option maxHeartbeats 4000000 in
set_option maxRecDepth 100000 in
theorem k_X2_in (l : Launch) (a1 : Int32) (a2 : Int32) (a3 : Int32) (r0 : Int32) (h : f_X2_in a1 a2 a3 = some r0) : Met l yX2_in wsX2_in ({ frames := 0, cells := 0, slots := 0, locals := 0 }) (va_Pc [.int a1, .int a2, .int a3] (fun _ => True)) (qS (.int r0)) 0 0 (fun _ => False) := by
  refine Met.ofW (cc := cX2_in) (maxL := 3) (ret := (some .boolean)) (by decide) rfl ?_
  intro p e s m args below meth c s₁ B hml hv
  obtain ⟨rfl, -⟩ := hv
  have hx := B.exec
  have hb := B.bytes
  have hr := B.returns
  have hts := atoms_spec (ws := wsX2_in) B.pre
  have hown : s.vm.findClass RX2 = some m.cls := findClass_of_methodNamed B.named
  have hlocks := B.notSynchronized
  have hl := lv_entry ([.int a1, .int a2, .int a3]) (n := 3) (Nat.le_of_ble_eq_true rfl)
  rw [lg_entry_eq]
  generalize (lg_sl ([.int a1, .int a2, .int a3]) ++ List.replicate (3 - (lg_sl ([.int a1, .int a2, .int a3])).length) Slot.unset).toArray = ls at hl ⊢
  have hl : lv_has ls 3 [(0, .int a1), (1, .int a2), (2, .int a3)] := hl
  unfold f_X2_in at h
  refine lv_iload_n hx hb dX2_in_0 rfl (lv_at hl 0 rfl) ?_
  refine lv_iload_n hx hb dX2_in_1 rfl (lv_at hl 1 rfl) ?_
  refine lv_icmp_lt (tgt := 14) hx hb dX2_in_2 (by decide) (fun c0 => ?_) (fun c0 => ?_)
  · rw [if_pos c0] at h
    refine lv_iconst (v := 0) hx hb dX2_in_14 (by decide) ?_
    obtain rfl := Option.some.inj h
    exact W.zret hx hb hr rfl (fun t ht _ => ⟨rfl, ht⟩) (fun _ h9 => absurd h9 List.not_mem_nil) dX2_in_15
  · rw [if_neg c0] at h
    refine lv_iload_n hx hb dX2_in_5 rfl (lv_at hl 0 rfl) ?_
    refine lv_iload_n hx hb dX2_in_6 rfl (lv_at hl 2 rfl) ?_
    refine lv_icmp_gt (tgt := 14) hx hb dX2_in_7 (by decide) (fun c1 => ?_) (fun c1 => ?_)
    · rw [if_pos c1] at h
      refine lv_iconst (v := 0) hx hb dX2_in_14 (by decide) ?_
      obtain rfl := Option.some.inj h
      exact W.zret hx hb hr rfl (fun t ht _ => ⟨rfl, ht⟩) (fun _ h9 => absurd h9 List.not_mem_nil) dX2_in_15
    · rw [if_neg c1] at h
      refine lv_iconst (v := 1) hx hb dX2_in_10 (by decide) ?_
      refine lv_goto (tgt := 15) hx hb dX2_in_11 (by decide) ?_
      obtain rfl := Option.some.inj h
      exact W.zret hx hb hr rfl (fun t ht _ => ⟨rfl, ht⟩) (fun _ h9 => absurd h9 List.not_mem_nil) dX2_in_15
def f_X2_isFigure (a1 : Int32) : Option Int32 :=
  (f_X2_in a1 (0 : Int32) (5 : Int32)).bind fun r1 =>
  if r1 &&& 1 = r1 then
  some r1
  else none
set_option maxHeartbeats 4000000 in
set_option maxRecDepth 100000 in
theorem k_X2_isFigure (l : Launch) (a1 : Int32) (r0 : Int32) (h : f_X2_isFigure a1 = some r0) : Met l yX2_isFigure wsX2_isFigure ({ frames := 1, cells := 0, slots := 0, locals := 22 }) (va_Pc [.int a1] (fun _ => True)) (qS (.int r0)) 0 0 (fun _ => False) := by
  refine Met.ofW (cc := cX2_isFigure) (maxL := 1) (ret := (some .boolean)) (by decide) rfl ?_
  intro p e s m args below meth c s₁ B hml hv
  obtain ⟨rfl, -⟩ := hv
  have hx := B.exec
  have hb := B.bytes
  have hr := B.returns
  have hts := atoms_spec (ws := wsX2_isFigure) B.pre
  have hown : s.vm.findClass RX2 = some m.cls := findClass_of_methodNamed B.named
  have hlocks := B.notSynchronized
  have hl := lv_entry ([.int a1]) (n := 1) (Nat.le_of_ble_eq_true rfl)
  rw [lg_entry_eq]
  generalize (lg_sl ([.int a1]) ++ List.replicate (1 - (lg_sl ([.int a1])).length) Slot.unset).toArray = ls at hl ⊢
  have hl : lv_has ls 1 [(0, .int a1)] := hl
  unfold f_X2_isFigure at h
  refine lv_iload_n hx hb dX2_isFigure_0 rfl (lv_at hl 0 rfl) ?_
  refine lv_iconst (v := 0) hx hb dX2_isFigure_1 (by decide) ?_
  refine lv_iconst (v := 5) hx hb dX2_isFigure_2 (by decide) ?_
  obtain ⟨r1, hcr1, h⟩ := og_bind h
  refine cp_s (va_runS (As := [.int a1, .int (0 : Int32), .int (5 : Int32)]) (rest := []) ⟨hx, hb, hml, hown, hts⟩ (k_X2_in l a1 (0 : Int32) (5 : Int32) _ hcr1) (va_cwS 3 hts gX2_isFigure_X2_in rfl rfl rfl (by decide +kernel) ⟨(Nat.le_of_ble_eq_true rfl), (Nat.le_of_ble_eq_true rfl)⟩) pre_s rfl rfl hl.1 rfl (lv_room (Nat.le_of_ble_eq_true rfl)) dX2_isFigure_3 ⟨(Nat.zero_le _), (Nat.zero_le _)⟩) ?_
  obtain ⟨gb, h⟩ := og_c h
  obtain rfl := Option.some.inj h
  exact W.zret hx hb hr (by show Value.int (_ &&& 1) = _; rw [gb]) (fun t ht _ => ⟨rfl, ht⟩) (fun _ h9 => absurd h9 List.not_mem_nil) dX2_isFigure_6
def f_X2_isPlace (a1 : Int32) : Option Int32 :=
  (f_X2_in a1 (-100 : Int32) (100 : Int32)).bind fun r1 =>
  if r1 &&& 1 = r1 then
  some r1
  else none
set_option maxHeartbeats 4000000 in
set_option maxRecDepth 100000 in
theorem k_X2_isPlace (l : Launch) (a1 : Int32) (r0 : Int32) (h : f_X2_isPlace a1 = some r0) : Met l yX2_isPlace wsX2_isPlace ({ frames := 1, cells := 0, slots := 0, locals := 22 }) (va_Pc [.int a1] (fun _ => True)) (qS (.int r0)) 0 0 (fun _ => False) := by
  refine Met.ofW (cc := cX2_isPlace) (maxL := 1) (ret := (some .boolean)) (by decide) rfl ?_
  intro p e s m args below meth c s₁ B hml hv
  obtain ⟨rfl, -⟩ := hv
  have hx := B.exec
  have hb := B.bytes
  have hr := B.returns
  have hts := atoms_spec (ws := wsX2_isPlace) B.pre
  have hown : s.vm.findClass RX2 = some m.cls := findClass_of_methodNamed B.named
  have hlocks := B.notSynchronized
  have hl := lv_entry ([.int a1]) (n := 1) (Nat.le_of_ble_eq_true rfl)
  rw [lg_entry_eq]
  generalize (lg_sl ([.int a1]) ++ List.replicate (1 - (lg_sl ([.int a1])).length) Slot.unset).toArray = ls at hl ⊢
  have hl : lv_has ls 1 [(0, .int a1)] := hl
  unfold f_X2_isPlace at h
  refine lv_iload_n hx hb dX2_isPlace_0 rfl (lv_at hl 0 rfl) ?_
  refine lv_bipush (v := -100) hx hb dX2_isPlace_1 (by decide) ?_
  refine lv_bipush (v := 100) hx hb dX2_isPlace_3 (by decide) ?_
  obtain ⟨r1, hcr1, h⟩ := og_bind h
  refine cp_s (va_runS (As := [.int a1, .int (-100 : Int32), .int (100 : Int32)]) (rest := []) ⟨hx, hb, hml, hown, hts⟩ (k_X2_in l a1 (-100 : Int32) (100 : Int32) _ hcr1) (va_cwS 3 hts gX2_isPlace_X2_in rfl rfl rfl (by decide +kernel) ⟨(Nat.le_of_ble_eq_true rfl), (Nat.le_of_ble_eq_true rfl)⟩) pre_s rfl rfl hl.1 rfl (lv_room (Nat.le_of_ble_eq_true rfl)) dX2_isPlace_5 ⟨(Nat.zero_le _), (Nat.zero_le _)⟩) ?_
  obtain ⟨gb, h⟩ := og_c h
  obtain rfl := Option.some.inj h
  exact W.zret hx hb hr (by show Value.int (_ &&& 1) = _; rw [gb]) (fun t ht _ => ⟨rfl, ht⟩) (fun _ h9 => absurd h9 List.not_mem_nil) dX2_isPlace_8
def f_X2_side (a1 : Int32) (a2 : Int32) (a3 : Int32) (a4 : Int32) (a5 : Int32) (a6 : Int32) : Option Int64 :=
  some ((((a3 - a1).toInt64) * ((a6 - a2).toInt64)) - (((a4 - a2).toInt64) * ((a5 - a1).toInt64)))
set_option maxHeartbeats 4000000 in
set_option maxRecDepth 100000 in
theorem k_X2_side (l : Launch) (a1 : Int32) (a2 : Int32) (a3 : Int32) (a4 : Int32) (a5 : Int32) (a6 : Int32) (r0 : Int64) (h : f_X2_side a1 a2 a3 a4 a5 a6 = some r0) : Met l yX2_side wsX2_side ({ frames := 0, cells := 0, slots := 0, locals := 0 }) (va_Pc [.int a1, .int a2, .int a3, .int a4, .int a5, .int a6] (fun _ => True)) (qS (.long r0)) 0 0 (fun _ => False) := by
  refine Met.ofW (cc := cX2_side) (maxL := 6) (ret := (some .long)) (by decide) rfl ?_
  intro p e s m args below meth c s₁ B hml hv
  obtain ⟨rfl, -⟩ := hv
  have hx := B.exec
  have hb := B.bytes
  have hr := B.returns
  have hts := atoms_spec (ws := wsX2_side) B.pre
  have hown : s.vm.findClass RX2 = some m.cls := findClass_of_methodNamed B.named
  have hlocks := B.notSynchronized
  have hl := lv_entry ([.int a1, .int a2, .int a3, .int a4, .int a5, .int a6]) (n := 6) (Nat.le_of_ble_eq_true rfl)
  rw [lg_entry_eq]
  generalize (lg_sl ([.int a1, .int a2, .int a3, .int a4, .int a5, .int a6]) ++ List.replicate (6 - (lg_sl ([.int a1, .int a2, .int a3, .int a4, .int a5, .int a6])).length) Slot.unset).toArray = ls at hl ⊢
  have hl : lv_has ls 6 [(0, .int a1), (1, .int a2), (2, .int a3), (3, .int a4), (4, .int a5), (5, .int a6)] := hl
  unfold f_X2_side at h
  refine lv_iload_n hx hb dX2_side_0 rfl (lv_at hl 2 rfl) ?_
  refine lv_iload_n hx hb dX2_side_1 rfl (lv_at hl 0 rfl) ?_
  refine lv_isub hx hb dX2_side_2 ?_
  refine lv_i2l hx hb dX2_side_3 rfl ?_
  refine lv_iload hx hb dX2_side_4 (lv_at hl 5 rfl) ?_
  refine lv_iload_n hx hb dX2_side_6 rfl (lv_at hl 1 rfl) ?_
  refine lv_isub hx hb dX2_side_7 ?_
  refine lv_i2l hx hb dX2_side_8 rfl ?_
  refine lv_lmul hx hb dX2_side_9 ?_
  refine lv_iload_n hx hb dX2_side_10 rfl (lv_at hl 3 rfl) ?_
  refine lv_iload_n hx hb dX2_side_11 rfl (lv_at hl 1 rfl) ?_
  refine lv_isub hx hb dX2_side_12 ?_
  refine lv_i2l hx hb dX2_side_13 rfl ?_
  refine lv_iload hx hb dX2_side_14 (lv_at hl 4 rfl) ?_
  refine lv_iload_n hx hb dX2_side_16 rfl (lv_at hl 0 rfl) ?_
  refine lv_isub hx hb dX2_side_17 ?_
  refine lv_i2l hx hb dX2_side_18 rfl ?_
  refine lv_lmul hx hb dX2_side_19 ?_
  refine lv_lsub hx hb dX2_side_20 ?_
  obtain rfl := Option.some.inj h
  exact W.lret hx hb hr (fun t ht _ => ⟨rfl, ht⟩) (fun _ h9 => absurd h9 List.not_mem_nil) dX2_side_21
def f_X2_sign (a1 : Int64) : Option Int32 :=
  if (0) ≤ (lg_cmp a1 (0 : Int64)) then
  (if (lg_cmp a1 (0 : Int64)) ≤ (0) then
  (some (0 : Int32))
  else
  (some (1 : Int32)))
  else
  (some (-1 : Int32))
set_option maxHeartbeats 4000000 in
set_option maxRecDepth 100000 in
theorem k_X2_sign (l : Launch) (a1 : Int64) (r0 : Int32) (h : f_X2_sign a1 = some r0) : Met l yX2_sign wsX2_sign ({ frames := 0, cells := 0, slots := 0, locals := 0 }) (va_Pc [.long a1] (fun _ => True)) (qS (.int r0)) 0 0 (fun _ => False) := by
  refine Met.ofW (cc := cX2_sign) (maxL := 2) (ret := (some .int)) (by decide) rfl ?_
  intro p e s m args below meth c s₁ B hml hv
  obtain ⟨rfl, -⟩ := hv
  have hx := B.exec
  have hb := B.bytes
  have hr := B.returns
  have hts := atoms_spec (ws := wsX2_sign) B.pre
  have hown : s.vm.findClass RX2 = some m.cls := findClass_of_methodNamed B.named
  have hlocks := B.notSynchronized
  have hl := lv_entry ([.long a1]) (n := 2) (Nat.le_of_ble_eq_true rfl)
  rw [lg_entry_eq]
  generalize (lg_sl ([.long a1]) ++ List.replicate (2 - (lg_sl ([.long a1])).length) Slot.unset).toArray = ls at hl ⊢
  have hl : lv_has ls 2 [(0, .long a1)] := hl
  unfold f_X2_sign at h
  refine lv_lload_n hx hb dX2_sign_0 rfl (lv_at hl 0 rfl) ?_
  refine lv_lconst (v := 0) hx hb dX2_sign_1 (by decide) ?_
  refine W.lcmp hx hb dX2_sign_2 ?_
  refine lv_if_ge (tgt := 10) hx hb dX2_sign_3 (by decide) (fun c0 => ?_) (fun c0 => ?_)
  · rw [if_pos c0] at h
    refine lv_lload_n hx hb dX2_sign_10 rfl (lv_at hl 0 rfl) ?_
    refine lv_lconst (v := 0) hx hb dX2_sign_11 (by decide) ?_
    refine W.lcmp hx hb dX2_sign_12 ?_
    refine lv_if_le (tgt := 20) hx hb dX2_sign_13 (by decide) (fun c1 => ?_) (fun c1 => ?_)
    · rw [if_pos c1] at h
      refine lv_iconst (v := 0) hx hb dX2_sign_20 (by decide) ?_
      obtain rfl := Option.some.inj h
      exact W.iret hx hb hr (fun t ht _ => ⟨rfl, ht⟩) (fun _ h9 => absurd h9 List.not_mem_nil) dX2_sign_21
    · rw [if_neg c1] at h
      refine lv_iconst (v := 1) hx hb dX2_sign_16 (by decide) ?_
      refine lv_goto (tgt := 21) hx hb dX2_sign_17 (by decide) ?_
      obtain rfl := Option.some.inj h
      exact W.iret hx hb hr (fun t ht _ => ⟨rfl, ht⟩) (fun _ h9 => absurd h9 List.not_mem_nil) dX2_sign_21
  · rw [if_neg c0] at h
    refine lv_iconst (v := -1) hx hb dX2_sign_6 (by decide) ?_
    refine lv_goto (tgt := 21) hx hb dX2_sign_7 (by decide) ?_
    obtain rfl := Option.some.inj h
    exact W.iret hx hb hr (fun t ht _ => ⟨rfl, ht⟩) (fun _ h9 => absurd h9 List.not_mem_nil) dX2_sign_21
def s_X2_common_28 (u28 : (Int64 × Int64)) : Option ((Int64 × Int64) ⊕ Int64) :=
  if (lg_cmp u28.2 (0 : Int64)) = (0) then
  (some (.inr u28.1))
  else
  (if u28.2 = 0 then none else
  ov (u28.1 - u28.1 / u28.2 * u28.2) fun v5 =>
  some (.inl (u28.2, v5)))
def f_X2_common (a1 : Int64) (a2 : Int64) : Option Int64 :=
  (if (0) ≤ (lg_cmp a1 (0 : Int64)) then
  (some (a1))
  else
  (some (-a1))).bind fun mv1 =>
  (if (0) ≤ (lg_cmp a2 (0 : Int64)) then
  (some (a2))
  else
  (some (-a2))).bind fun mv2 =>
  (lpf (s_X2_common_28) 1000 (mv1, mv2)).bind fun x6 =>
  some x6
set_option maxHeartbeats 4000000 in
set_option maxRecDepth 100000 in
theorem k_X2_common (l : Launch) (a1 : Int64) (a2 : Int64) (r0 : Int64) (h : f_X2_common a1 a2 = some r0) : Met l yX2_common wsX2_common ({ frames := 0, cells := 0, slots := 0, locals := 0 }) (va_Pc [.long a1, .long a2] (fun _ => True)) (qS (.long r0)) 0 0 (fun _ => False) := by
  refine Met.ofW (cc := cX2_common) (maxL := 10) (ret := (some .long)) (by decide) rfl ?_
  intro p e s m args below meth c s₁ B hml hv
  obtain ⟨rfl, -⟩ := hv
  have hx := B.exec
  have hb := B.bytes
  have hr := B.returns
  have hts := atoms_spec (ws := wsX2_common) B.pre
  have hown : s.vm.findClass RX2 = some m.cls := findClass_of_methodNamed B.named
  have hlocks := B.notSynchronized
  have hl := lv_entry ([.long a1, .long a2]) (n := 10) (Nat.le_of_ble_eq_true rfl)
  rw [lg_entry_eq]
  generalize (lg_sl ([.long a1, .long a2]) ++ List.replicate (10 - (lg_sl ([.long a1, .long a2])).length) Slot.unset).toArray = ls at hl ⊢
  have hl : lv_has ls 10 [(0, .long a1), (2, .long a2)] := hl
  unfold f_X2_common at h
  refine lv_lload_n hx hb dX2_common_0 rfl (lv_at hl 0 rfl) ?_
  refine lv_lconst (v := 0) hx hb dX2_common_1 (by decide) ?_
  refine W.lcmp hx hb dX2_common_2 ?_
  obtain ⟨mv1, hm12, h⟩ := og_bind h
  refine wj (PC := 12) (ST := [.long mv1]) (fun ls => lv_has ls 10 [(2, .long a2)]) (fun ls hl => ?_) (fun KJ12 => ?_)
  · refine lv_lstore (lv' := [(4, .long mv1), (2, .long a2)]) hx hb dX2_common_12 hl (by decide) rfl (fun ls hl => ?_)
    refine lv_lload_n hx hb dX2_common_14 rfl (lv_at hl 1 rfl) ?_
    refine lv_lconst (v := 0) hx hb dX2_common_15 (by decide) ?_
    refine W.lcmp hx hb dX2_common_16 ?_
    obtain ⟨mv2, hm26, h⟩ := og_bind h
    refine wj (PC := 26) (ST := [.long mv2]) (fun ls => lv_has ls 10 [(4, .long mv1)]) (fun ls hl => ?_) (fun KJ26 => ?_)
    · refine lv_lstore (lv' := [(6, .long mv2), (4, .long mv1)]) hx hb dX2_common_26 hl (by decide) rfl (fun ls hl => ?_)
      obtain ⟨x6, hN28, h⟩ := og_bind h
      refine wl hN28 28 53 (fun u28 ls => lv_has ls 10 [(4, .long u28.1), (6, .long u28.2)]) (fun x6 ls => lv_has ls 10 [(4, .long x6)]) (fun u28 xx h ki28 kx28 ls hl => ?_) (fun ls hl => ?_) (lv_sub hl [1, 0] rfl)
      · unfold s_X2_common_28 at h
        refine lv_lload hx hb dX2_common_28 (lv_at hl 1 rfl) ?_
        refine lv_lconst (v := 0) hx hb dX2_common_30 (by decide) ?_
        refine W.lcmp hx hb dX2_common_31 ?_
        refine lv_if_eq (tgt := 53) hx hb dX2_common_32 (by decide) (fun c2 => ?_) (fun c2 => ?_)
        · rw [if_pos c2] at h
          exact kx28 _ ls (Option.some.inj h).symm (lv_sub hl [0] rfl)
        · rw [if_neg c2] at h
          refine lv_lload hx hb dX2_common_35 (lv_at hl 0 rfl) ?_
          refine lv_lload hx hb dX2_common_37 (lv_at hl 1 rfl) ?_
          obtain ⟨gz3, h⟩ := og_nz h
          refine lv_lrem hx hb dX2_common_39 gz3 ?_
          refine lv_topl (fun v5 ev5 => ?_)
          have h := og_ov h ev5
          refine lv_lstore (lv' := [(8, .long v5), (4, .long u28.1), (6, .long u28.2)]) hx hb dX2_common_40 hl (by decide) rfl (fun ls hl => ?_)
          refine lv_lload hx hb dX2_common_42 (lv_at hl 2 rfl) ?_
          refine lv_lstore (lv' := [(4, .long u28.2), (8, .long v5), (6, .long u28.2)]) hx hb dX2_common_44 hl (by decide) rfl (fun ls hl => ?_)
          refine lv_lload hx hb dX2_common_46 (lv_at hl 1 rfl) ?_
          refine lv_lstore (lv' := [(6, .long v5), (4, .long u28.2), (8, .long v5)]) hx hb dX2_common_48 hl (by decide) rfl (fun ls hl => ?_)
          refine lv_goto (tgt := 28) hx hb dX2_common_50 (by decide) ?_
          exact ki28 _ ls (Option.some.inj h).symm (lv_sub hl [1, 0] rfl)
      · refine lv_lload hx hb dX2_common_53 (lv_at hl 0 rfl) ?_
        obtain rfl := Option.some.inj h
        exact W.lret hx hb hr (fun t ht _ => ⟨rfl, ht⟩) (fun _ h9 => absurd h9 List.not_mem_nil) dX2_common_55
    · have h := hm26
      refine lv_if_ge (tgt := 25) hx hb dX2_common_17 (by decide) (fun c6 => ?_) (fun c6 => ?_)
      · rw [if_pos c6] at h
        refine lv_lload_n hx hb dX2_common_25 rfl (lv_at hl 1 rfl) ?_
        obtain rfl := Option.some.inj h
        exact KJ26 ls (lv_sub hl [0] rfl)
      · rw [if_neg c6] at h
        refine lv_lload_n hx hb dX2_common_20 rfl (lv_at hl 1 rfl) ?_
        refine lv_lneg hx hb dX2_common_21 ?_
        refine lv_goto (tgt := 26) hx hb dX2_common_22 (by decide) ?_
        obtain rfl := Option.some.inj h
        exact KJ26 ls (lv_sub hl [0] rfl)
  · have h := hm12
    refine lv_if_ge (tgt := 11) hx hb dX2_common_3 (by decide) (fun c7 => ?_) (fun c7 => ?_)
    · rw [if_pos c7] at h
      refine lv_lload_n hx hb dX2_common_11 rfl (lv_at hl 0 rfl) ?_
      obtain rfl := Option.some.inj h
      exact KJ12 ls (lv_sub hl [1] rfl)
    · rw [if_neg c7] at h
      refine lv_lload_n hx hb dX2_common_6 rfl (lv_at hl 0 rfl) ?_
      refine lv_lneg hx hb dX2_common_7 ?_
      refine lv_goto (tgt := 12) hx hb dX2_common_8 (by decide) ?_
      obtain rfl := Option.some.inj h
      exact KJ12 ls (lv_sub hl [1] rfl)
def f_X2_term (a1 : Int64) (a2 : Int64) (a3 : Int32) : Option Int64 :=
  (f_X2_common a1 a2).bind fun r1 =>
  if a3 = (0) then
  (if r1 = 0 then none else
  some (a1 / r1))
  else
  (if r1 = 0 then none else
  some (a2 / r1))
set_option maxHeartbeats 4000000 in
set_option maxRecDepth 100000 in
theorem k_X2_term (l : Launch) (a1 : Int64) (a2 : Int64) (a3 : Int32) (r0 : Int64) (h : f_X2_term a1 a2 a3 = some r0) : Met l yX2_term wsX2_term ({ frames := 1, cells := 0, slots := 0, locals := 29 }) (va_Pc [.long a1, .long a2, .int a3] (fun _ => True)) (qS (.long r0)) 0 0 (fun _ => False) := by
  refine Met.ofW (cc := cX2_term) (maxL := 7) (ret := (some .long)) (by decide) rfl ?_
  intro p e s m args below meth c s₁ B hml hv
  obtain ⟨rfl, -⟩ := hv
  have hx := B.exec
  have hb := B.bytes
  have hr := B.returns
  have hts := atoms_spec (ws := wsX2_term) B.pre
  have hown : s.vm.findClass RX2 = some m.cls := findClass_of_methodNamed B.named
  have hlocks := B.notSynchronized
  have hl := lv_entry ([.long a1, .long a2, .int a3]) (n := 7) (Nat.le_of_ble_eq_true rfl)
  rw [lg_entry_eq]
  generalize (lg_sl ([.long a1, .long a2, .int a3]) ++ List.replicate (7 - (lg_sl ([.long a1, .long a2, .int a3])).length) Slot.unset).toArray = ls at hl ⊢
  have hl : lv_has ls 7 [(0, .long a1), (2, .long a2), (4, .int a3)] := hl
  unfold f_X2_term at h
  refine lv_lload_n hx hb dX2_term_0 rfl (lv_at hl 0 rfl) ?_
  refine lv_lload_n hx hb dX2_term_1 rfl (lv_at hl 1 rfl) ?_
  obtain ⟨r1, hcr1, h⟩ := og_bind h
  refine cp_s (va_runS (As := [.long a1, .long a2]) (rest := []) ⟨hx, hb, hml, hown, hts⟩ (k_X2_common l a1 a2 _ hcr1) (va_cwS 2 hts gX2_term_X2_common rfl rfl rfl (by decide +kernel) ⟨(Nat.le_of_ble_eq_true rfl), (Nat.le_of_ble_eq_true rfl)⟩) pre_s rfl rfl hl.1 rfl (lv_room (Nat.le_of_ble_eq_true rfl)) dX2_term_2 ⟨(Nat.zero_le _), (Nat.zero_le _)⟩) ?_
  refine lv_lstore (lv' := [(5, .long r1), (0, .long a1), (2, .long a2), (4, .int a3)]) hx hb dX2_term_5 hl (by decide) rfl (fun ls hl => ?_)
  refine lv_iload hx hb dX2_term_7 (lv_at hl 3 rfl) ?_
  refine lv_if_ne (tgt := 19) hx hb dX2_term_9 (by decide) (fun c1 => ?_) (fun c1 => ?_)
  · rw [if_neg c1] at h
    refine lv_lload_n hx hb dX2_term_19 rfl (lv_at hl 2 rfl) ?_
    refine lv_lload hx hb dX2_term_20 (lv_at hl 0 rfl) ?_
    obtain ⟨gz2, h⟩ := og_nz h
    refine lv_ldiv hx hb dX2_term_22 gz2 ?_
    obtain rfl := Option.some.inj h
    exact W.lret hx hb hr (fun t ht _ => ⟨rfl, ht⟩) (fun _ h9 => absurd h9 List.not_mem_nil) dX2_term_23
  · rw [if_pos c1] at h
    refine lv_lload_n hx hb dX2_term_12 rfl (lv_at hl 1 rfl) ?_
    refine lv_lload hx hb dX2_term_13 (lv_at hl 0 rfl) ?_
    obtain ⟨gz3, h⟩ := og_nz h
    refine lv_ldiv hx hb dX2_term_15 gz3 ?_
    refine lv_goto (tgt := 23) hx hb dX2_term_16 (by decide) ?_
    obtain rfl := Option.some.inj h
    exact W.lret hx hb hr (fun t ht _ => ⟨rfl, ht⟩) (fun _ h9 => absurd h9 List.not_mem_nil) dX2_term_23
def f_X2_isPart (a1 : Int32) : Option Int32 :=
  (f_X2_in a1 (0 : Int32) (1 : Int32)).bind fun r1 =>
  if r1 &&& 1 = r1 then
  some r1
  else none
set_option maxHeartbeats 4000000 in
set_option maxRecDepth 100000 in
theorem k_X2_isPart (l : Launch) (a1 : Int32) (r0 : Int32) (h : f_X2_isPart a1 = some r0) : Met l yX2_isPart wsX2_isPart ({ frames := 1, cells := 0, slots := 0, locals := 22 }) (va_Pc [.int a1] (fun _ => True)) (qS (.int r0)) 0 0 (fun _ => False) := by
  refine Met.ofW (cc := cX2_isPart) (maxL := 1) (ret := (some .boolean)) (by decide) rfl ?_
  intro p e s m args below meth c s₁ B hml hv
  obtain ⟨rfl, -⟩ := hv
  have hx := B.exec
  have hb := B.bytes
  have hr := B.returns
  have hts := atoms_spec (ws := wsX2_isPart) B.pre
  have hown : s.vm.findClass RX2 = some m.cls := findClass_of_methodNamed B.named
  have hlocks := B.notSynchronized
  have hl := lv_entry ([.int a1]) (n := 1) (Nat.le_of_ble_eq_true rfl)
  rw [lg_entry_eq]
  generalize (lg_sl ([.int a1]) ++ List.replicate (1 - (lg_sl ([.int a1])).length) Slot.unset).toArray = ls at hl ⊢
  have hl : lv_has ls 1 [(0, .int a1)] := hl
  unfold f_X2_isPart at h
  refine lv_iload_n hx hb dX2_isPart_0 rfl (lv_at hl 0 rfl) ?_
  refine lv_iconst (v := 0) hx hb dX2_isPart_1 (by decide) ?_
  refine lv_iconst (v := 1) hx hb dX2_isPart_2 (by decide) ?_
  obtain ⟨r1, hcr1, h⟩ := og_bind h
  refine cp_s (va_runS (As := [.int a1, .int (0 : Int32), .int (1 : Int32)]) (rest := []) ⟨hx, hb, hml, hown, hts⟩ (k_X2_in l a1 (0 : Int32) (1 : Int32) _ hcr1) (va_cwS 3 hts gX2_isPart_X2_in rfl rfl rfl (by decide +kernel) ⟨(Nat.le_of_ble_eq_true rfl), (Nat.le_of_ble_eq_true rfl)⟩) pre_s rfl rfl hl.1 rfl (lv_room (Nat.le_of_ble_eq_true rfl)) dX2_isPart_3 ⟨(Nat.zero_le _), (Nat.zero_le _)⟩) ?_
  obtain ⟨gb, h⟩ := og_c h
  obtain rfl := Option.some.inj h
  exact W.zret hx hb hr (by show Value.int (_ &&& 1) = _; rw [gb]) (fun t ht _ => ⟨rfl, ht⟩) (fun _ h9 => absurd h9 List.not_mem_nil) dX2_isPart_6
def s_X2_root_7 (a1 : Int64) (u7 : (Int64 × Int64)) : Option ((Int64 × Int64) ⊕ Int64) :=
  if (lg_cmp (u7.2 - u7.1) (1 : Int64)) ≤ (0) then
  (some (.inr u7.1))
  else
  (ov ((u7.1 + u7.2) / (2 : Int64)) fun v2 =>
  if (0) < (lg_cmp (v2 * v2) a1) then
  (some (.inl (u7.1, v2)))
  else
  (some (.inl (v2, u7.2))))
def f_X2_root (a1 : Int64) : Option Int64 :=
  (lpf (s_X2_root_7 a1) 1000 ((0 : Int64), (1000000 : Int64))).bind fun x4 =>
  some x4
set_option maxHeartbeats 4000000 in
set_option maxRecDepth 100000 in
theorem k_X2_root (l : Launch) (a1 : Int64) (r0 : Int64) (h : f_X2_root a1 = some r0) : Met l yX2_root wsX2_root ({ frames := 0, cells := 0, slots := 0, locals := 0 }) (va_Pc [.long a1] (fun _ => True)) (qS (.long r0)) 0 0 (fun _ => False) := by
  refine Met.ofW (cc := cX2_root) (maxL := 8) (ret := (some .long)) (by decide) rfl ?_
  intro p e s m args below meth c s₁ B hml hv
  obtain ⟨rfl, -⟩ := hv
  have hx := B.exec
  have hb := B.bytes
  have hr := B.returns
  have hts := atoms_spec (ws := wsX2_root) B.pre
  have hown : s.vm.findClass RX2 = some m.cls := findClass_of_methodNamed B.named
  have hlocks := B.notSynchronized
  have ht1 := hts (.constantLong RX2 133 (1000000)) (by decide +kernel)
  have ht2 := hts (.constantLong RX2 120 (2)) (by decide +kernel)
  have hl := lv_entry ([.long a1]) (n := 8) (Nat.le_of_ble_eq_true rfl)
  rw [lg_entry_eq]
  generalize (lg_sl ([.long a1]) ++ List.replicate (8 - (lg_sl ([.long a1])).length) Slot.unset).toArray = ls at hl ⊢
  have hl : lv_has ls 8 [(0, .long a1)] := hl
  unfold f_X2_root at h
  refine lv_lconst (v := 0) hx hb dX2_root_0 (by decide) ?_
  refine lv_lstore_n (lv' := [(2, .long (0 : Int64)), (0, .long a1)]) hx hb dX2_root_1 rfl hl (by decide) rfl (fun ls hl => ?_)
  refine lv_ldc2 hx hb hown ht1 dX2_root_2 ?_
  refine lv_lstore (lv' := [(4, .long (1000000 : Int64)), (2, .long (0 : Int64)), (0, .long a1)]) hx hb dX2_root_5 hl (by decide) rfl (fun ls hl => ?_)
  obtain ⟨x4, hN7, h⟩ := og_bind h
  refine wl hN7 7 49 (fun u7 ls => lv_has ls 8 [(0, .long a1), (2, .long u7.1), (4, .long u7.2)]) (fun x4 ls => lv_has ls 8 [(2, .long x4)]) (fun u7 xx h ki7 kx7 ls hl => ?_) (fun ls hl => ?_) (lv_sub hl [2, 1, 0] rfl)
  · unfold s_X2_root_7 at h
    refine lv_lload hx hb dX2_root_7 (lv_at hl 2 rfl) ?_
    refine lv_lload_n hx hb dX2_root_9 rfl (lv_at hl 1 rfl) ?_
    refine lv_lsub hx hb dX2_root_10 ?_
    refine lv_lconst (v := 1) hx hb dX2_root_11 (by decide) ?_
    refine W.lcmp hx hb dX2_root_12 ?_
    refine lv_if_le (tgt := 49) hx hb dX2_root_13 (by decide) (fun c0 => ?_) (fun c0 => ?_)
    · rw [if_pos c0] at h
      exact kx7 _ ls (Option.some.inj h).symm (lv_sub hl [1] rfl)
    · rw [if_neg c0] at h
      refine lv_lload_n hx hb dX2_root_16 rfl (lv_at hl 1 rfl) ?_
      refine lv_lload hx hb dX2_root_17 (lv_at hl 2 rfl) ?_
      refine lv_ladd hx hb dX2_root_19 ?_
      refine lv_ldc2 hx hb hown ht2 dX2_root_20 ?_
      refine lv_ldiv hx hb dX2_root_23 (by decide) ?_
      refine lv_topl (fun v2 ev2 => ?_)
      have h := og_ov h ev2
      refine lv_lstore (lv' := [(6, .long v2), (0, .long a1), (2, .long u7.1), (4, .long u7.2)]) hx hb dX2_root_24 hl (by decide) rfl (fun ls hl => ?_)
      refine lv_lload hx hb dX2_root_26 (lv_at hl 0 rfl) ?_
      refine lv_lload hx hb dX2_root_28 (lv_at hl 0 rfl) ?_
      refine lv_lmul hx hb dX2_root_30 ?_
      refine lv_lload_n hx hb dX2_root_31 rfl (lv_at hl 1 rfl) ?_
      refine W.lcmp hx hb dX2_root_32 ?_
      refine lv_if_gt (tgt := 42) hx hb dX2_root_33 (by decide) (fun c2 => ?_) (fun c2 => ?_)
      · rw [if_pos c2] at h
        refine lv_lload hx hb dX2_root_42 (lv_at hl 0 rfl) ?_
        refine lv_lstore (lv' := [(4, .long v2), (6, .long v2), (0, .long a1), (2, .long u7.1)]) hx hb dX2_root_44 hl (by decide) rfl (fun ls hl => ?_)
        refine lv_goto (tgt := 7) hx hb dX2_root_46 (by decide) ?_
        exact ki7 _ ls (Option.some.inj h).symm (lv_sub hl [2, 3, 0] rfl)
      · rw [if_neg c2] at h
        refine lv_lload hx hb dX2_root_36 (lv_at hl 0 rfl) ?_
        refine lv_lstore_n (lv' := [(2, .long v2), (6, .long v2), (0, .long a1), (4, .long u7.2)]) hx hb dX2_root_38 rfl hl (by decide) rfl (fun ls hl => ?_)
        refine lv_goto (tgt := 46) hx hb dX2_root_39 (by decide) ?_
        refine lv_goto (tgt := 7) hx hb dX2_root_46 (by decide) ?_
        exact ki7 _ ls (Option.some.inj h).symm (lv_sub hl [2, 0, 3] rfl)
  · refine lv_lload_n hx hb dX2_root_49 rfl (lv_at hl 0 rfl) ?_
    obtain rfl := Option.some.inj h
    exact W.lret hx hb hr (fun t ht _ => ⟨rfl, ht⟩) (fun _ h9 => absurd h9 List.not_mem_nil) dX2_root_50
def f_X2_isCount (a1 : Int32) (a2 : Int32) (a3 : Int32) : Option Int32 :=
  (f_X2_in a1 (0 : Int32) (1000000 : Int32)).bind fun r1 =>
  if r1 = (0) then
  (some (0 : Int32))
  else
  ((f_X2_in a2 (0 : Int32) (100 : Int32)).bind fun r3 =>
  if r3 = (0) then
  (some (0 : Int32))
  else
  ((f_X2_in a3 (0 : Int32) (100 : Int32)).bind fun r5 =>
  if r5 = (0) then
  (some (0 : Int32))
  else
  (some (1 : Int32))))
set_option maxHeartbeats 4000000 in
set_option maxRecDepth 100000 in
theorem k_X2_isCount (l : Launch) (a1 : Int32) (a2 : Int32) (a3 : Int32) (r0 : Int32) (h : f_X2_isCount a1 a2 a3 = some r0) : Met l yX2_isCount wsX2_isCount ({ frames := 1, cells := 0, slots := 0, locals := 22 }) (va_Pc [.int a1, .int a2, .int a3] (fun _ => True)) (qS (.int r0)) 0 0 (fun _ => False) := by
  refine Met.ofW (cc := cX2_isCount) (maxL := 3) (ret := (some .boolean)) (by decide) rfl ?_
  intro p e s m args below meth c s₁ B hml hv
  obtain ⟨rfl, -⟩ := hv
  have hx := B.exec
  have hb := B.bytes
  have hr := B.returns
  have hts := atoms_spec (ws := wsX2_isCount) B.pre
  have hown : s.vm.findClass RX2 = some m.cls := findClass_of_methodNamed B.named
  have hlocks := B.notSynchronized
  have ht1 := hts (.constant RX2 163 (1000000)) (by decide +kernel)
  have hl := lv_entry ([.int a1, .int a2, .int a3]) (n := 3) (Nat.le_of_ble_eq_true rfl)
  rw [lg_entry_eq]
  generalize (lg_sl ([.int a1, .int a2, .int a3]) ++ List.replicate (3 - (lg_sl ([.int a1, .int a2, .int a3])).length) Slot.unset).toArray = ls at hl ⊢
  have hl : lv_has ls 3 [(0, .int a1), (1, .int a2), (2, .int a3)] := hl
  unfold f_X2_isCount at h
  refine lv_iload_n hx hb dX2_isCount_0 rfl (lv_at hl 0 rfl) ?_
  refine lv_iconst (v := 0) hx hb dX2_isCount_1 (by decide) ?_
  refine lv_ldc hx hb hown ht1 dX2_isCount_2 ?_
  obtain ⟨r1, hcr1, h⟩ := og_bind h
  refine cp_s (va_runS (As := [.int a1, .int (0 : Int32), .int (1000000 : Int32)]) (rest := []) ⟨hx, hb, hml, hown, hts⟩ (k_X2_in l a1 (0 : Int32) (1000000 : Int32) _ hcr1) (va_cwS 3 hts gX2_isCount_X2_in rfl rfl rfl (by decide +kernel) ⟨(Nat.le_of_ble_eq_true rfl), (Nat.le_of_ble_eq_true rfl)⟩) pre_s rfl rfl hl.1 rfl (lv_room (Nat.le_of_ble_eq_true rfl)) dX2_isCount_4 ⟨(Nat.zero_le _), (Nat.zero_le _)⟩) ?_
  refine lv_if_eq (tgt := 34) hx hb dX2_isCount_7 (by decide) (fun c1 => ?_) (fun c1 => ?_)
  · rw [if_pos c1] at h
    refine lv_iconst (v := 0) hx hb dX2_isCount_34 (by decide) ?_
    obtain rfl := Option.some.inj h
    exact W.zret hx hb hr rfl (fun t ht _ => ⟨rfl, ht⟩) (fun _ h9 => absurd h9 List.not_mem_nil) dX2_isCount_35
  · rw [if_neg c1] at h
    refine lv_iload_n hx hb dX2_isCount_10 rfl (lv_at hl 1 rfl) ?_
    refine lv_iconst (v := 0) hx hb dX2_isCount_11 (by decide) ?_
    refine lv_bipush (v := 100) hx hb dX2_isCount_12 (by decide) ?_
    obtain ⟨r3, hcr3, h⟩ := og_bind h
    refine cp_s (va_runS (As := [.int a2, .int (0 : Int32), .int (100 : Int32)]) (rest := []) ⟨hx, hb, hml, hown, hts⟩ (k_X2_in l a2 (0 : Int32) (100 : Int32) _ hcr3) (va_cwS 3 hts gX2_isCount_X2_in rfl rfl rfl (by decide +kernel) ⟨(Nat.le_of_ble_eq_true rfl), (Nat.le_of_ble_eq_true rfl)⟩) pre_s rfl rfl hl.1 rfl (lv_room (Nat.le_of_ble_eq_true rfl)) dX2_isCount_14 ⟨(Nat.zero_le _), (Nat.zero_le _)⟩) ?_
    refine lv_if_eq (tgt := 34) hx hb dX2_isCount_17 (by decide) (fun c3 => ?_) (fun c3 => ?_)
    · rw [if_pos c3] at h
      refine lv_iconst (v := 0) hx hb dX2_isCount_34 (by decide) ?_
      obtain rfl := Option.some.inj h
      exact W.zret hx hb hr rfl (fun t ht _ => ⟨rfl, ht⟩) (fun _ h9 => absurd h9 List.not_mem_nil) dX2_isCount_35
    · rw [if_neg c3] at h
      refine lv_iload_n hx hb dX2_isCount_20 rfl (lv_at hl 2 rfl) ?_
      refine lv_iconst (v := 0) hx hb dX2_isCount_21 (by decide) ?_
      refine lv_bipush (v := 100) hx hb dX2_isCount_22 (by decide) ?_
      obtain ⟨r5, hcr5, h⟩ := og_bind h
      refine cp_s (va_runS (As := [.int a3, .int (0 : Int32), .int (100 : Int32)]) (rest := []) ⟨hx, hb, hml, hown, hts⟩ (k_X2_in l a3 (0 : Int32) (100 : Int32) _ hcr5) (va_cwS 3 hts gX2_isCount_X2_in rfl rfl rfl (by decide +kernel) ⟨(Nat.le_of_ble_eq_true rfl), (Nat.le_of_ble_eq_true rfl)⟩) pre_s rfl rfl hl.1 rfl (lv_room (Nat.le_of_ble_eq_true rfl)) dX2_isCount_24 ⟨(Nat.zero_le _), (Nat.zero_le _)⟩) ?_
      refine lv_if_eq (tgt := 34) hx hb dX2_isCount_27 (by decide) (fun c5 => ?_) (fun c5 => ?_)
      · rw [if_pos c5] at h
        refine lv_iconst (v := 0) hx hb dX2_isCount_34 (by decide) ?_
        obtain rfl := Option.some.inj h
        exact W.zret hx hb hr rfl (fun t ht _ => ⟨rfl, ht⟩) (fun _ h9 => absurd h9 List.not_mem_nil) dX2_isCount_35
      · rw [if_neg c5] at h
        refine lv_iconst (v := 1) hx hb dX2_isCount_30 (by decide) ?_
        refine lv_goto (tgt := 35) hx hb dX2_isCount_31 (by decide) ?_
        obtain rfl := Option.some.inj h
        exact W.zret hx hb hr rfl (fun t ht _ => ⟨rfl, ht⟩) (fun _ h9 => absurd h9 List.not_mem_nil) dX2_isCount_35
def f_X2_bound (a1 : Int32) (a2 : Int32) (a3 : Int32) (a4 : Int32) : Option Int64 :=
  (if a4 = (0) then
  (some ((a1.toInt64) - ((a2.toInt64) * (a3.toInt64))))
  else
  (some (((a1.toInt64) + (1 : Int64)) + ((a2.toInt64) * (a3.toInt64))))).bind fun mv1 =>
  if (0) ≤ (lg_cmp mv1 (0 : Int64)) then
  (some mv1)
  else
  (some (0 : Int64))
set_option maxHeartbeats 4000000 in
set_option maxRecDepth 100000 in
theorem k_X2_bound (l : Launch) (a1 : Int32) (a2 : Int32) (a3 : Int32) (a4 : Int32) (r0 : Int64) (h : f_X2_bound a1 a2 a3 a4 = some r0) : Met l yX2_bound wsX2_bound ({ frames := 0, cells := 0, slots := 0, locals := 0 }) (va_Pc [.int a1, .int a2, .int a3, .int a4] (fun _ => True)) (qS (.long r0)) 0 0 (fun _ => False) := by
  refine Met.ofW (cc := cX2_bound) (maxL := 6) (ret := (some .long)) (by decide) rfl ?_
  intro p e s m args below meth c s₁ B hml hv
  obtain ⟨rfl, -⟩ := hv
  have hx := B.exec
  have hb := B.bytes
  have hr := B.returns
  have hts := atoms_spec (ws := wsX2_bound) B.pre
  have hown : s.vm.findClass RX2 = some m.cls := findClass_of_methodNamed B.named
  have hlocks := B.notSynchronized
  have hl := lv_entry ([.int a1, .int a2, .int a3, .int a4]) (n := 6) (Nat.le_of_ble_eq_true rfl)
  rw [lg_entry_eq]
  generalize (lg_sl ([.int a1, .int a2, .int a3, .int a4]) ++ List.replicate (6 - (lg_sl ([.int a1, .int a2, .int a3, .int a4])).length) Slot.unset).toArray = ls at hl ⊢
  have hl : lv_has ls 6 [(0, .int a1), (1, .int a2), (2, .int a3), (3, .int a4)] := hl
  unfold f_X2_bound at h
  refine lv_iload_n hx hb dX2_bound_0 rfl (lv_at hl 3 rfl) ?_
  obtain ⟨mv1, hm25, h⟩ := og_bind h
  refine wj (PC := 25) (ST := [.long mv1]) (fun ls => lv_has ls 6 []) (fun ls hl => ?_) (fun KJ25 => ?_)
  · refine lv_lstore (lv' := [(4, .long mv1)]) hx hb dX2_bound_25 hl (by decide) rfl (fun ls hl => ?_)
    refine lv_lload hx hb dX2_bound_27 (lv_at hl 0 rfl) ?_
    refine lv_lconst (v := 0) hx hb dX2_bound_29 (by decide) ?_
    refine W.lcmp hx hb dX2_bound_30 ?_
    refine lv_if_ge (tgt := 38) hx hb dX2_bound_31 (by decide) (fun c1 => ?_) (fun c1 => ?_)
    · rw [if_pos c1] at h
      refine lv_lload hx hb dX2_bound_38 (lv_at hl 0 rfl) ?_
      obtain rfl := Option.some.inj h
      exact W.lret hx hb hr (fun t ht _ => ⟨rfl, ht⟩) (fun _ h9 => absurd h9 List.not_mem_nil) dX2_bound_40
    · rw [if_neg c1] at h
      refine lv_lconst (v := 0) hx hb dX2_bound_34 (by decide) ?_
      refine lv_goto (tgt := 40) hx hb dX2_bound_35 (by decide) ?_
      obtain rfl := Option.some.inj h
      exact W.lret hx hb hr (fun t ht _ => ⟨rfl, ht⟩) (fun _ h9 => absurd h9 List.not_mem_nil) dX2_bound_40
  · have h := hm25
    refine lv_if_ne (tgt := 15) hx hb dX2_bound_1 (by decide) (fun c2 => ?_) (fun c2 => ?_)
    · rw [if_neg c2] at h
      refine lv_iload_n hx hb dX2_bound_15 rfl (lv_at hl 0 rfl) ?_
      refine lv_i2l hx hb dX2_bound_16 rfl ?_
      refine lv_lconst (v := 1) hx hb dX2_bound_17 (by decide) ?_
      refine lv_ladd hx hb dX2_bound_18 ?_
      refine lv_iload_n hx hb dX2_bound_19 rfl (lv_at hl 1 rfl) ?_
      refine lv_i2l hx hb dX2_bound_20 rfl ?_
      refine lv_iload_n hx hb dX2_bound_21 rfl (lv_at hl 2 rfl) ?_
      refine lv_i2l hx hb dX2_bound_22 rfl ?_
      refine lv_lmul hx hb dX2_bound_23 ?_
      refine lv_ladd hx hb dX2_bound_24 ?_
      obtain rfl := Option.some.inj h
      exact KJ25 ls (lv_sub hl [] rfl)
    · rw [if_pos c2] at h
      refine lv_iload_n hx hb dX2_bound_4 rfl (lv_at hl 0 rfl) ?_
      refine lv_i2l hx hb dX2_bound_5 rfl ?_
      refine lv_iload_n hx hb dX2_bound_6 rfl (lv_at hl 1 rfl) ?_
      refine lv_i2l hx hb dX2_bound_7 rfl ?_
      refine lv_iload_n hx hb dX2_bound_8 rfl (lv_at hl 2 rfl) ?_
      refine lv_i2l hx hb dX2_bound_9 rfl ?_
      refine lv_lmul hx hb dX2_bound_10 ?_
      refine lv_lsub hx hb dX2_bound_11 ?_
      refine lv_goto (tgt := 25) hx hb dX2_bound_12 (by decide) ?_
      obtain rfl := Option.some.inj h
      exact KJ25 ls (lv_sub hl [] rfl)
