/-! DrawnAreas.find: the figure of a number, or null -/
set_option maxHeartbeats 4000000 in
set_option maxRecDepth 100000 in
theorem k_X1_find (l : Launch) (D : va_G) (cI cF : ClassId) (o qf : Nat) (g : Nat → Nat) (ro rn tn fx fy ar wh : Int32) (a1 : Int32) (v0 : Value) (h1 : bin a1 6 = true → v0 = .ref (g a1.toNatClampNeg)) (h2 : ¬ bin a1 6 = true → v0 = .null) : Met l yX1_find wsX1_find ({ frames := 0, cells := 0, slots := 0, locals := 0 }) (va_Pc [.ref o, .int a1] (fun U => wN D cI cF (drW cF o qf g ro rn tn fx fy ar wh) U)) (qS v0) 0 0 (fun _ => False) := by
  refine Met.ofW (cc := cX1_find) (maxL := 2) (ret := (some (.object "DrawnAreas$Figure"))) (by decide) rfl ?_
  intro p e s m args below meth c s₁ B hml hv
  obtain ⟨rfl, hK, hnw, hP⟩ := hv
  have hx := B.exec
  have hb := B.bytes
  have hr := B.returns
  have hts := atoms_spec (ws := wsX1_find) B.pre
  have hown : s.vm.findClass RX1 = some m.cls := findClass_of_methodNamed B.named
  have hlocks := B.notSynchronized
  have ht1 := hts (.fieldLink RX1 11 "DrawnAreas" "figures" "[LDrawnAreas$Figure;") (by decide +kernel)
  have hinX1 : ∀ w ∈ u_ws RX1 TX1 8, w ∈ wsX1_find := by decide +kernel
  have hl := lv_entry ([.ref o, .int a1]) (n := 2) (Nat.le_of_ble_eq_true rfl)
  rw [lg_entry_eq]
  generalize (lg_sl ([.ref o, .int a1]) ++ List.replicate (2 - (lg_sl ([.ref o, .int a1])).length) Slot.unset).toArray = ls at hl ⊢
  have hl : lv_has ls 2 [(0, .ref o), (1, .int a1)] := hl
  refine lv_iload_n hx hb dX1_find_0 rfl (lv_at hl 1 rfl) ?_
  refine lv_if_lt (tgt := 22) hx hb dX1_find_1 (by decide) (fun c0 => ?_) (fun c0 => ?_)
  · obtain rfl := h2 (fun q => (bin_in.mp q) (Or.inl c0))
    refine lv_null hx hb dX1_find_22 ?_
    exact W.aret hx hb hr (Or.inl ⟨_, rfl⟩) (Or.inl rfl) (fun t ht _ => ⟨rfl, ht⟩) (fun _ h9 => absurd h9 List.not_mem_nil) dX1_find_23
  · refine lv_iload_n hx hb dX1_find_4 rfl (lv_at hl 1 rfl) ?_
    refine lv_aload_n hx hb dX1_find_5 rfl (lv_at hl 0 rfl) ?_
    refine va_get (D := D) (ci := 1) (v := .ref qf) (C := RX1) (T := TX1) (N := 8) hx hb hts hinX1 hown hK hP 0 rfl rfl 0 (by decide) ht1 (fun _ h9 => h9) rfl dX1_find_6 ?_
    refine va_alen hx hb hK hP 1 1 rfl rfl (v := 6) rfl dX1_find_9 ?_
    refine lv_icmp_ge (tgt := 22) hx hb dX1_find_10 (by decide) (fun c1 => ?_) (fun c1 => ?_)
    · obtain rfl := h2 (fun q => by
        have q1 := vp_in_iff.mp (bin_in.mp q)
        have q2 := Int32.le_iff_toInt_le.mp c1
        have q3 : (6 : Int32).toInt = 6 := rfl
        rw [q3] at q2
        omega)
      refine lv_null hx hb dX1_find_22 ?_
      exact W.aret hx hb hr (Or.inl ⟨_, rfl⟩) (Or.inl rfl) (fun t ht _ => ⟨rfl, ht⟩) (fun _ h9 => absurd h9 List.not_mem_nil) dX1_find_23
    · have hin : vp_in a1 6 := vp_in_iff.mpr (by
        have q1 : ¬ a1.toInt < (0 : Int32).toInt := fun q => c0 (Int32.lt_iff_toInt_lt.mpr q)
        have q2 : ¬ (6 : Int32).toInt ≤ a1.toInt := fun q => c1 (Int32.le_iff_toInt_le.mpr q)
        have q3 : (6 : Int32).toInt = 6 := rfl
        have q4 : (0 : Int32).toInt = 0 := rfl
        rw [q3] at q2
        rw [q4] at q1
        omega)
      obtain rfl := h1 (bin_in.mpr hin)
      refine lv_aload_n hx hb dX1_find_13 rfl (lv_at hl 0 rfl) ?_
      refine va_get (D := D) (ci := 1) (v := .ref qf) (C := RX1) (T := TX1) (N := 8) hx hb hts hinX1 hown hK hP 0 rfl rfl 0 (by decide) ht1 (fun _ h9 => h9) rfl dX1_find_14 ?_
      refine lv_iload_n hx hb dX1_find_17 rfl (lv_at hl 1 rfl) ?_
      refine va_aldq hx hb hK hP 1 1 rfl rfl hin dX1_find_18 ?_
      refine lv_goto (tgt := 23) hx hb dX1_find_19 (by decide) ?_
      exact W.aret hx hb hr (Or.inl ⟨_, rfl⟩) (Or.inr ⟨_, rfl⟩) (fun t ht _ => ⟨rfl, ht⟩) (fun _ h9 => absurd h9 List.not_mem_nil) dX1_find_23
theorem k_X1_find_some (l : Launch) (D : va_G) (cI cF : ClassId) (o qf : Nat) (g : Nat → Nat) (ro rn tn fx fy ar wh : Int32) (a1 : Int32) (h : bin a1 6 = true) : Met l yX1_find wsX1_find ({ frames := 0, cells := 0, slots := 0, locals := 0 }) (va_Pc [.ref o, .int a1] (fun U => wN D cI cF (drW cF o qf g ro rn tn fx fy ar wh) U)) (qS (.ref (g a1.toNatClampNeg))) 0 0 (fun _ => False) :=
  k_X1_find l D cI cF o qf g ro rn tn fx fy ar wh a1 _ (fun _ => rfl) (fun q => absurd h q)
theorem k_X1_find_none (l : Launch) (D : va_G) (cI cF : ClassId) (o qf : Nat) (g : Nat → Nat) (ro rn tn fx fy ar wh : Int32) (a1 : Int32) (h : ¬ bin a1 6 = true) : Met l yX1_find wsX1_find ({ frames := 0, cells := 0, slots := 0, locals := 0 }) (va_Pc [.ref o, .int a1] (fun U => wN D cI cF (drW cF o qf g ro rn tn fx fy ar wh) U)) (qS .null) 0 0 (fun _ => False) :=
  k_X1_find l D cI cF o qf g ro rn tn fx fy ar wh a1 _ (fun q => absurd q h) (fun _ => rfl)
