def f_X1_goesRound (ro : Int32) (ys : Nat → Int32) (n : Int32) : Option Int32 :=
  (f_X0_closed n).bind fun r1 =>
  if r1 = (0) then
  (some (0 : Int32))
  else
  ((f_X0_staysNearer ys n ro).bind fun r3 =>
  if r3 = (0) then
  (some (0 : Int32))
  else
  (some (1 : Int32)))
set_option maxHeartbeats 4000000 in
set_option maxRecDepth 100000 in
theorem k_X1_goesRound (l : Launch) (D : va_G) (cI cF : ClassId) (o : Nat) (qf : Nat) (g : Nat → Nat) (ro : Int32) (rn : Int32) (tn : Int32) (fx : Int32) (fy : Int32) (ar : Int32) (wh : Int32) (q : Nat) (qx : Nat) (qy : Nat) (xs : Nat → Int32) (ys : Nat → Int32) (n : Int32) (r0 : Int32) (h : f_X1_goesRound ro ys n = some r0) : Met l yX1_goesRound wsX1_goesRound ({ frames := 2, cells := 0, slots := 0, locals := 43 }) (va_Pc [.ref o, .ref q] (fun U => wN D cI cF (drfW cI cF o qf g ro rn tn fx fy ar wh q qx qy xs ys n) U)) (qS (.int r0)) 0 0 (fun _ => False) := by
  refine Met.ofW (cc := cX1_goesRound) (maxL := 2) (ret := (some .boolean)) (by decide) rfl ?_
  intro p e s m args below meth c s₁ B hml hv
  obtain ⟨rfl, hK, hnw, hP⟩ := hv
  have hx := B.exec
  have hb := B.bytes
  have hr := B.returns
  have hts := atoms_spec (ws := wsX1_goesRound) B.pre
  have hown : s.vm.findClass RX1 = some m.cls := findClass_of_methodNamed B.named
  have hlocks := B.notSynchronized
  have ht1 := hts (.fieldLink RX1 16 "DrawnAreas" "rodLength" "I") (by decide +kernel)
  have hinX1 : ∀ w ∈ u_ws RX1 TX1 8, w ∈ wsX1_goesRound := by decide +kernel
  have hnst : nst.before _ s = true := hnw.use (A := [.ref o, .ref q].toArray) rfl
  have hl := lv_entry ([.ref o, .ref q]) (n := 2) (Nat.le_of_ble_eq_true rfl)
  rw [lg_entry_eq]
  generalize (lg_sl ([.ref o, .ref q]) ++ List.replicate (2 - (lg_sl ([.ref o, .ref q])).length) Slot.unset).toArray = ls at hl ⊢
  have hl : lv_has ls 2 [(0, .ref o), (1, .ref q)] := hl
  unfold f_X1_goesRound at h
  refine lv_aload_n hx hb dX1_goesRound_0 rfl (lv_at hl 1 rfl) ?_
  have hPc := hP.sub (ws' := figW cI q qx qy xs ys n) [2, 3, 4] rfl
  obtain ⟨r1, hcr1, h⟩ := og_bind h
  refine cp_s (va_runV (As := []) (rest := []) ⟨hx, hb, hml, hown, hts⟩ (k_X0_closed l D cI cF q qx qy xs ys n _ hcr1) (cwV 0 hts gX1_goesRound_X0_closed rfl rfl rfl (by decide +kernel) ⟨(Nat.le_of_ble_eq_true rfl), (Nat.le_of_ble_eq_true rfl)⟩) (pre_v (q0 := 0) (ci := 0) hK hPc rfl rfl) rfl rfl hl.1 rfl (lv_room (Nat.le_of_ble_eq_true rfl)) dX1_goesRound_1 ⟨(Nat.zero_le _), (Nat.zero_le _)⟩) ?_
  refine lv_if_eq (tgt := 22) hx hb dX1_goesRound_4 (by decide) (fun c1 => ?_) (fun c1 => ?_)
  · rw [if_pos c1] at h
    refine lv_iconst (v := 0) hx hb dX1_goesRound_22 (by decide) ?_
    obtain rfl := Option.some.inj h
    exact W.zret hx hb hr rfl (fun t ht _ => ⟨rfl, ht⟩) (fun _ h9 => absurd h9 List.not_mem_nil) dX1_goesRound_23
  · rw [if_neg c1] at h
    refine lv_aload_n hx hb dX1_goesRound_7 rfl (lv_at hl 1 rfl) ?_
    refine lv_aload_n hx hb dX1_goesRound_8 rfl (lv_at hl 0 rfl) ?_
    refine va_get (D := D) (ci := 1) (v := .int ro) (C := RX1) (T := TX1) (N := 8) hx hb hts hinX1 hown hK hP 0 rfl rfl 1 (by decide) ht1 (fun _ h9 => h9) rfl dX1_goesRound_9 ?_
    have hPc := hP.sub (ws' := figW cI q qx qy xs ys n) [2, 3, 4] rfl
    obtain ⟨r3, hcr3, h⟩ := og_bind h
    refine cp_s (va_runV (As := [.int ro]) (rest := []) ⟨hx, hb, hml, hown, hts⟩ (k_X0_staysNearer l D cI cF q qx qy xs ys n ro _ hcr3) (cwV 1 hts gX1_goesRound_X0_staysNearer rfl rfl rfl (by decide +kernel) ⟨(Nat.le_of_ble_eq_true rfl), (Nat.le_of_ble_eq_true rfl)⟩) (pre_v (q0 := 0) (ci := 0) hK hPc rfl rfl) rfl rfl hl.1 rfl (lv_room (Nat.le_of_ble_eq_true rfl)) dX1_goesRound_12 ⟨(Nat.zero_le _), (Nat.zero_le _)⟩) ?_
    refine lv_if_eq (tgt := 22) hx hb dX1_goesRound_15 (by decide) (fun c3 => ?_) (fun c3 => ?_)
    · rw [if_pos c3] at h
      refine lv_iconst (v := 0) hx hb dX1_goesRound_22 (by decide) ?_
      obtain rfl := Option.some.inj h
      exact W.zret hx hb hr rfl (fun t ht _ => ⟨rfl, ht⟩) (fun _ h9 => absurd h9 List.not_mem_nil) dX1_goesRound_23
    · rw [if_neg c3] at h
      refine lv_iconst (v := 1) hx hb dX1_goesRound_18 (by decide) ?_
      refine lv_goto (tgt := 23) hx hb dX1_goesRound_19 (by decide) ?_
      obtain rfl := Option.some.inj h
      exact W.zret hx hb hr rfl (fun t ht _ => ⟨rfl, ht⟩) (fun _ h9 => absurd h9 List.not_mem_nil) dX1_goesRound_23
def s_X1_neverLeftOf_15 (xs : Nat → Int32) (ys : Nat → Int32) (n : Int32) (a2 : Int32) (v1 : Int64) (u15 : Int32) : Option (Int32 ⊕ (Int32 ⊕ Unit)) :=
  if n ≤ u15 then
  (some (.inr (.inr ())))
  else
  ((f_X0_x xs u15).bind fun r3 =>
  if r3 < a2 then
  (some (.inr (.inl (0 : Int32))))
  else
  ((f_X0_nearestAgainst xs ys n u15 a2 (0 : Int32) v1).bind fun r5 =>
  if (0) ≤ r5 then
  (ov (u15 + (1 : Int32)) fun v7 =>
  some (.inl v7))
  else
  (some (.inr (.inl (0 : Int32))))))
def f_X1_neverLeftOf (ro : Int32) (xs : Nat → Int32) (ys : Nat → Int32) (n : Int32) (a2 : Int32) : Option Int32 :=
  ov ((ro.toInt64) * (ro.toInt64)) fun v1 =>
  (lpf (s_X1_neverLeftOf_15 xs ys n a2 v1) 1000 (0 : Int32)).bind fun o9 => ret2 o9 (fun r9 => some r9) fun x8 =>
  some (1 : Int32)
set_option maxHeartbeats 4000000 in
set_option maxRecDepth 100000 in
theorem k_X1_neverLeftOf (l : Launch) (D : va_G) (cI cF : ClassId) (o : Nat) (qf : Nat) (g : Nat → Nat) (ro : Int32) (rn : Int32) (tn : Int32) (fx : Int32) (fy : Int32) (ar : Int32) (wh : Int32) (q : Nat) (qx : Nat) (qy : Nat) (xs : Nat → Int32) (ys : Nat → Int32) (n : Int32) (a2 : Int32) (r0 : Int32) (h : f_X1_neverLeftOf ro xs ys n a2 = some r0) : Met l yX1_neverLeftOf wsX1_neverLeftOf ({ frames := 3, cells := 0, slots := 0, locals := 86 }) (va_Pc [.ref o, .ref q, .int a2] (fun U => wN D cI cF (drfW cI cF o qf g ro rn tn fx fy ar wh q qx qy xs ys n) U)) (qS (.int r0)) 0 0 (fun _ => False) := by
  refine Met.ofW (cc := cX1_neverLeftOf) (maxL := 6) (ret := (some .boolean)) (by decide) rfl ?_
  intro p e s m args below meth c s₁ B hml hv
  obtain ⟨rfl, hK, hnw, hP⟩ := hv
  have hx := B.exec
  have hb := B.bytes
  have hr := B.returns
  have hts := atoms_spec (ws := wsX1_neverLeftOf) B.pre
  have hown : s.vm.findClass RX1 = some m.cls := findClass_of_methodNamed B.named
  have hlocks := B.notSynchronized
  have ht1 := hts (.fieldLink RX1 16 "DrawnAreas" "rodLength" "I") (by decide +kernel)
  have hinX1 : ∀ w ∈ u_ws RX1 TX1 8, w ∈ wsX1_neverLeftOf := by decide +kernel
  have hinX0 : ∀ w ∈ u_ws RX0 TX0 3, w ∈ wsX1_neverLeftOf := by decide +kernel
  have hnst : nst.before _ s = true := hnw.use (A := [.ref o, .ref q, .int a2].toArray) rfl
  have hl := lv_entry ([.ref o, .ref q, .int a2]) (n := 6) (Nat.le_of_ble_eq_true rfl)
  rw [lg_entry_eq]
  generalize (lg_sl ([.ref o, .ref q, .int a2]) ++ List.replicate (6 - (lg_sl ([.ref o, .ref q, .int a2])).length) Slot.unset).toArray = ls at hl ⊢
  have hl : lv_has ls 6 [(0, .ref o), (1, .ref q), (2, .int a2)] := hl
  unfold f_X1_neverLeftOf at h
  refine lv_aload_n hx hb dX1_neverLeftOf_0 rfl (lv_at hl 0 rfl) ?_
  refine va_get (D := D) (ci := 1) (v := .int ro) (C := RX1) (T := TX1) (N := 8) hx hb hts hinX1 hown hK hP 0 rfl rfl 1 (by decide) ht1 (fun _ h9 => h9) rfl dX1_neverLeftOf_1 ?_
  refine lv_i2l hx hb dX1_neverLeftOf_4 rfl ?_
  refine lv_aload_n hx hb dX1_neverLeftOf_5 rfl (lv_at hl 0 rfl) ?_
  refine va_get (D := D) (ci := 1) (v := .int ro) (C := RX1) (T := TX1) (N := 8) hx hb hts hinX1 hown hK hP 0 rfl rfl 1 (by decide) ht1 (fun _ h9 => h9) rfl dX1_neverLeftOf_6 ?_
  refine lv_i2l hx hb dX1_neverLeftOf_9 rfl ?_
  refine lv_lmul hx hb dX1_neverLeftOf_10 ?_
  refine lv_topl (fun v1 ev1 => ?_)
  have h := og_ov h ev1
  refine lv_lstore_n (lv' := [(3, .long v1), (0, .ref o), (1, .ref q), (2, .int a2)]) hx hb dX1_neverLeftOf_11 rfl hl (by decide) rfl (fun ls hl => ?_)
  refine lv_iconst (v := 0) hx hb dX1_neverLeftOf_12 (by decide) ?_
  refine lv_istore (lv' := [(5, .int (0 : Int32)), (3, .long v1), (0, .ref o), (1, .ref q), (2, .int a2)]) hx hb dX1_neverLeftOf_13 hl (by decide) rfl (fun ls hl => ?_)
  obtain ⟨o9, hN15, h⟩ := og_bind h
  refine wlr (r0 := r0) hN15 15 54 (fun u15 ls => lv_has ls 6 [(1, .ref q), (2, .int a2), (3, .long v1), (5, .int u15)]) (fun x8 ls => lv_has ls 6 []) (fun u15 xx h ki15 kx15 kr15 ls hl => ?_) (fun r9 e9 => ?_) (fun x8 ls e9 hl => ?_) (lv_sub hl [3, 4, 1, 0] rfl)
  · unfold s_X1_neverLeftOf_15 at h
    refine lv_iload hx hb dX1_neverLeftOf_15 (lv_at hl 3 rfl) ?_
    refine lv_aload_n hx hb dX1_neverLeftOf_17 rfl (lv_at hl 0 rfl) ?_
    refine va_getN (D := D) (ci := 0) (v := .int n) (C := RX0) (T := TX0) (N := 3) hx hb hts hinX0 hown hK hP 2 rfl rfl 2 (by decide) hnst (fun _ h9 => h9) rfl dX1_neverLeftOf_18 ?_
    refine lv_icmp_ge (tgt := 54) hx hb dX1_neverLeftOf_21 (by decide) (fun c1 => ?_) (fun c1 => ?_)
    · rw [if_pos c1] at h
      exact kx15 _ ls (Option.some.inj h).symm (lv_sub hl [] rfl)
    · rw [if_neg c1] at h
      refine lv_aload_n hx hb dX1_neverLeftOf_24 rfl (lv_at hl 0 rfl) ?_
      refine lv_iload hx hb dX1_neverLeftOf_25 (lv_at hl 3 rfl) ?_
      have hPc := hP.sub (ws' := figW cI q qx qy xs ys n) [2, 3, 4] rfl
      obtain ⟨r3, hcr3, h⟩ := og_bind h
      refine cp_s (va_runV (As := [.int u15]) (rest := []) ⟨hx, hb, hml, hown, hts⟩ (k_X0_x l D cI cF q qx qy xs ys n u15 _ hcr3) (cwV 1 hts gX1_neverLeftOf_X0_x rfl rfl rfl (by decide +kernel) ⟨(Nat.le_of_ble_eq_true rfl), (Nat.le_of_ble_eq_true rfl)⟩) (pre_v (q0 := 0) (ci := 0) hK hPc rfl rfl) rfl rfl hl.1 rfl (lv_room (Nat.le_of_ble_eq_true rfl)) dX1_neverLeftOf_27 ⟨(Nat.zero_le _), (Nat.zero_le _)⟩) ?_
      refine lv_iload_n hx hb dX1_neverLeftOf_30 rfl (lv_at hl 1 rfl) ?_
      refine lv_icmp_lt (tgt := 46) hx hb dX1_neverLeftOf_31 (by decide) (fun c3 => ?_) (fun c3 => ?_)
      · rw [if_pos c3] at h
        refine lv_iconst (v := 0) hx hb dX1_neverLeftOf_46 (by decide) ?_
        obtain rfl := kr15 _ (Option.some.inj h).symm
        exact W.zret hx hb hr rfl (fun t ht _ => ⟨rfl, ht⟩) (fun _ h9 => absurd h9 List.not_mem_nil) dX1_neverLeftOf_47
      · rw [if_neg c3] at h
        refine lv_aload_n hx hb dX1_neverLeftOf_34 rfl (lv_at hl 0 rfl) ?_
        refine lv_iload hx hb dX1_neverLeftOf_35 (lv_at hl 3 rfl) ?_
        refine lv_iload_n hx hb dX1_neverLeftOf_37 rfl (lv_at hl 1 rfl) ?_
        refine lv_iconst (v := 0) hx hb dX1_neverLeftOf_38 (by decide) ?_
        refine lv_lload_n hx hb dX1_neverLeftOf_39 rfl (lv_at hl 2 rfl) ?_
        have hPc := hP.sub (ws' := figW cI q qx qy xs ys n) [2, 3, 4] rfl
        obtain ⟨r5, hcr5, h⟩ := og_bind h
        refine cp_s (va_runV (As := [.int u15, .int a2, .int (0 : Int32), .long v1]) (rest := []) ⟨hx, hb, hml, hown, hts⟩ (k_X0_nearestAgainst l D cI cF q qx qy xs ys n u15 a2 (0 : Int32) v1 _ hcr5) (cwV 4 hts gX1_neverLeftOf_X0_nearestAgainst rfl rfl rfl (by decide +kernel) ⟨(Nat.le_of_ble_eq_true rfl), (Nat.le_of_ble_eq_true rfl)⟩) (pre_v (q0 := 0) (ci := 0) hK hPc rfl rfl) rfl rfl hl.1 rfl (lv_room (Nat.le_of_ble_eq_true rfl)) dX1_neverLeftOf_40 ⟨(Nat.zero_le _), (Nat.zero_le _)⟩) ?_
        refine lv_if_ge (tgt := 48) hx hb dX1_neverLeftOf_43 (by decide) (fun c5 => ?_) (fun c5 => ?_)
        · rw [if_pos c5] at h
          obtain ⟨v7, ev7⟩ : ∃ y : Int32, y = u15 + (1 : Int32) := ⟨_, rfl⟩
          have h := og_ov h ev7
          refine lv_iinc (v := v7) (lv' := [(5, .int v7), (1, .ref q), (2, .int a2), (3, .long v1)]) hx hb dX1_neverLeftOf_48 hl (k := 3) rfl (by rw [ev7]; rfl) (by decide) rfl (fun ls hl => ?_)
          refine lv_goto (tgt := 15) hx hb dX1_neverLeftOf_51 (by decide) ?_
          exact ki15 _ ls (Option.some.inj h).symm (lv_sub hl [1, 2, 3, 0] rfl)
        · rw [if_neg c5] at h
          refine lv_iconst (v := 0) hx hb dX1_neverLeftOf_46 (by decide) ?_
          obtain rfl := kr15 _ (Option.some.inj h).symm
          exact W.zret hx hb hr rfl (fun t ht _ => ⟨rfl, ht⟩) (fun _ h9 => absurd h9 List.not_mem_nil) dX1_neverLeftOf_47
  · subst e9
    exact Option.some.inj h
  · subst e9
    dsimp only [ret2] at h
    refine lv_iconst (v := 1) hx hb dX1_neverLeftOf_54 (by decide) ?_
    obtain rfl := Option.some.inj h
    exact W.zret hx hb hr rfl (fun t ht _ => ⟨rfl, ht⟩) (fun _ h9 => absurd h9 List.not_mem_nil) dX1_neverLeftOf_55
def s_X1_neverRightOf_15 (xs : Nat → Int32) (ys : Nat → Int32) (n : Int32) (a2 : Int32) (v1 : Int64) (u15 : Int32) : Option (Int32 ⊕ (Int32 ⊕ Unit)) :=
  if n ≤ u15 then
  (some (.inr (.inr ())))
  else
  ((f_X0_x xs u15).bind fun r3 =>
  if r3 ≤ a2 then
  (ov (u15 + (1 : Int32)) fun v5 =>
  some (.inl v5))
  else
  ((f_X0_squareTo xs ys u15 (a2.toInt64) (0 : Int64)).bind fun r6 =>
  if (lg_cmp r6 v1) ≤ (0) then
  (ov (u15 + (1 : Int32)) fun v8 =>
  some (.inl v8))
  else
  (some (.inr (.inl (0 : Int32))))))
def f_X1_neverRightOf (ro : Int32) (xs : Nat → Int32) (ys : Nat → Int32) (n : Int32) (a2 : Int32) : Option Int32 :=
  ov ((ro.toInt64) * (ro.toInt64)) fun v1 =>
  (lpf (s_X1_neverRightOf_15 xs ys n a2 v1) 1000 (0 : Int32)).bind fun o10 => ret2 o10 (fun r9 => some r9) fun x9 =>
  some (1 : Int32)
set_option maxHeartbeats 4000000 in
set_option maxRecDepth 100000 in
theorem k_X1_neverRightOf (l : Launch) (D : va_G) (cI cF : ClassId) (o : Nat) (qf : Nat) (g : Nat → Nat) (ro : Int32) (rn : Int32) (tn : Int32) (fx : Int32) (fy : Int32) (ar : Int32) (wh : Int32) (q : Nat) (qx : Nat) (qy : Nat) (xs : Nat → Int32) (ys : Nat → Int32) (n : Int32) (a2 : Int32) (r0 : Int32) (h : f_X1_neverRightOf ro xs ys n a2 = some r0) : Met l yX1_neverRightOf wsX1_neverRightOf ({ frames := 2, cells := 0, slots := 0, locals := 50 }) (va_Pc [.ref o, .ref q, .int a2] (fun U => wN D cI cF (drfW cI cF o qf g ro rn tn fx fy ar wh q qx qy xs ys n) U)) (qS (.int r0)) 0 0 (fun _ => False) := by
  refine Met.ofW (cc := cX1_neverRightOf) (maxL := 6) (ret := (some .boolean)) (by decide) rfl ?_
  intro p e s m args below meth c s₁ B hml hv
  obtain ⟨rfl, hK, hnw, hP⟩ := hv
  have hx := B.exec
  have hb := B.bytes
  have hr := B.returns
  have hts := atoms_spec (ws := wsX1_neverRightOf) B.pre
  have hown : s.vm.findClass RX1 = some m.cls := findClass_of_methodNamed B.named
  have hlocks := B.notSynchronized
  have ht1 := hts (.fieldLink RX1 16 "DrawnAreas" "rodLength" "I") (by decide +kernel)
  have hinX1 : ∀ w ∈ u_ws RX1 TX1 8, w ∈ wsX1_neverRightOf := by decide +kernel
  have hinX0 : ∀ w ∈ u_ws RX0 TX0 3, w ∈ wsX1_neverRightOf := by decide +kernel
  have hnst : nst.before _ s = true := hnw.use (A := [.ref o, .ref q, .int a2].toArray) rfl
  have hl := lv_entry ([.ref o, .ref q, .int a2]) (n := 6) (Nat.le_of_ble_eq_true rfl)
  rw [lg_entry_eq]
  generalize (lg_sl ([.ref o, .ref q, .int a2]) ++ List.replicate (6 - (lg_sl ([.ref o, .ref q, .int a2])).length) Slot.unset).toArray = ls at hl ⊢
  have hl : lv_has ls 6 [(0, .ref o), (1, .ref q), (2, .int a2)] := hl
  unfold f_X1_neverRightOf at h
  refine lv_aload_n hx hb dX1_neverRightOf_0 rfl (lv_at hl 0 rfl) ?_
  refine va_get (D := D) (ci := 1) (v := .int ro) (C := RX1) (T := TX1) (N := 8) hx hb hts hinX1 hown hK hP 0 rfl rfl 1 (by decide) ht1 (fun _ h9 => h9) rfl dX1_neverRightOf_1 ?_
  refine lv_i2l hx hb dX1_neverRightOf_4 rfl ?_
  refine lv_aload_n hx hb dX1_neverRightOf_5 rfl (lv_at hl 0 rfl) ?_
  refine va_get (D := D) (ci := 1) (v := .int ro) (C := RX1) (T := TX1) (N := 8) hx hb hts hinX1 hown hK hP 0 rfl rfl 1 (by decide) ht1 (fun _ h9 => h9) rfl dX1_neverRightOf_6 ?_
  refine lv_i2l hx hb dX1_neverRightOf_9 rfl ?_
  refine lv_lmul hx hb dX1_neverRightOf_10 ?_
  refine lv_topl (fun v1 ev1 => ?_)
  have h := og_ov h ev1
  refine lv_lstore_n (lv' := [(3, .long v1), (0, .ref o), (1, .ref q), (2, .int a2)]) hx hb dX1_neverRightOf_11 rfl hl (by decide) rfl (fun ls hl => ?_)
  refine lv_iconst (v := 0) hx hb dX1_neverRightOf_12 (by decide) ?_
  refine lv_istore (lv' := [(5, .int (0 : Int32)), (3, .long v1), (0, .ref o), (1, .ref q), (2, .int a2)]) hx hb dX1_neverRightOf_13 hl (by decide) rfl (fun ls hl => ?_)
  obtain ⟨o10, hN15, h⟩ := og_bind h
  refine wlr (r0 := r0) hN15 15 56 (fun u15 ls => lv_has ls 6 [(1, .ref q), (2, .int a2), (3, .long v1), (5, .int u15)]) (fun x9 ls => lv_has ls 6 []) (fun u15 xx h ki15 kx15 kr15 ls hl => ?_) (fun r9 e9 => ?_) (fun x9 ls e9 hl => ?_) (lv_sub hl [3, 4, 1, 0] rfl)
  · unfold s_X1_neverRightOf_15 at h
    refine lv_iload hx hb dX1_neverRightOf_15 (lv_at hl 3 rfl) ?_
    refine lv_aload_n hx hb dX1_neverRightOf_17 rfl (lv_at hl 0 rfl) ?_
    refine va_getN (D := D) (ci := 0) (v := .int n) (C := RX0) (T := TX0) (N := 3) hx hb hts hinX0 hown hK hP 2 rfl rfl 2 (by decide) hnst (fun _ h9 => h9) rfl dX1_neverRightOf_18 ?_
    refine lv_icmp_ge (tgt := 56) hx hb dX1_neverRightOf_21 (by decide) (fun c1 => ?_) (fun c1 => ?_)
    · rw [if_pos c1] at h
      exact kx15 _ ls (Option.some.inj h).symm (lv_sub hl [] rfl)
    · rw [if_neg c1] at h
      refine lv_aload_n hx hb dX1_neverRightOf_24 rfl (lv_at hl 0 rfl) ?_
      refine lv_iload hx hb dX1_neverRightOf_25 (lv_at hl 3 rfl) ?_
      have hPc := hP.sub (ws' := figW cI q qx qy xs ys n) [2, 3, 4] rfl
      obtain ⟨r3, hcr3, h⟩ := og_bind h
      refine cp_s (va_runV (As := [.int u15]) (rest := []) ⟨hx, hb, hml, hown, hts⟩ (k_X0_x l D cI cF q qx qy xs ys n u15 _ hcr3) (cwV 1 hts gX1_neverRightOf_X0_x rfl rfl rfl (by decide +kernel) ⟨(Nat.le_of_ble_eq_true rfl), (Nat.le_of_ble_eq_true rfl)⟩) (pre_v (q0 := 0) (ci := 0) hK hPc rfl rfl) rfl rfl hl.1 rfl (lv_room (Nat.le_of_ble_eq_true rfl)) dX1_neverRightOf_27 ⟨(Nat.zero_le _), (Nat.zero_le _)⟩) ?_
      refine lv_iload_n hx hb dX1_neverRightOf_30 rfl (lv_at hl 1 rfl) ?_
      refine lv_icmp_le (tgt := 50) hx hb dX1_neverRightOf_31 (by decide) (fun c3 => ?_) (fun c3 => ?_)
      · rw [if_pos c3] at h
        obtain ⟨v5, ev5⟩ : ∃ y : Int32, y = u15 + (1 : Int32) := ⟨_, rfl⟩
        have h := og_ov h ev5
        refine lv_iinc (v := v5) (lv' := [(5, .int v5), (1, .ref q), (2, .int a2), (3, .long v1)]) hx hb dX1_neverRightOf_50 hl (k := 3) rfl (by rw [ev5]; rfl) (by decide) rfl (fun ls hl => ?_)
        refine lv_goto (tgt := 15) hx hb dX1_neverRightOf_53 (by decide) ?_
        exact ki15 _ ls (Option.some.inj h).symm (lv_sub hl [1, 2, 3, 0] rfl)
      · rw [if_neg c3] at h
        refine lv_aload_n hx hb dX1_neverRightOf_34 rfl (lv_at hl 0 rfl) ?_
        refine lv_iload hx hb dX1_neverRightOf_35 (lv_at hl 3 rfl) ?_
        refine lv_iload_n hx hb dX1_neverRightOf_37 rfl (lv_at hl 1 rfl) ?_
        refine lv_i2l hx hb dX1_neverRightOf_38 rfl ?_
        refine lv_lconst (v := 0) hx hb dX1_neverRightOf_39 (by decide) ?_
        have hPc := hP.sub (ws' := figW cI q qx qy xs ys n) [2, 3, 4] rfl
        obtain ⟨r6, hcr6, h⟩ := og_bind h
        refine cp_s (va_runV (As := [.int u15, .long (a2.toInt64), .long (0 : Int64)]) (rest := []) ⟨hx, hb, hml, hown, hts⟩ (k_X0_squareTo l D cI cF q qx qy xs ys n u15 (a2.toInt64) (0 : Int64) _ hcr6) (cwV 3 hts gX1_neverRightOf_X0_squareTo rfl rfl rfl (by decide +kernel) ⟨(Nat.le_of_ble_eq_true rfl), (Nat.le_of_ble_eq_true rfl)⟩) (pre_v (q0 := 0) (ci := 0) hK hPc rfl rfl) rfl rfl hl.1 rfl (lv_room (Nat.le_of_ble_eq_true rfl)) dX1_neverRightOf_40 ⟨(Nat.zero_le _), (Nat.zero_le _)⟩) ?_
        refine lv_lload_n hx hb dX1_neverRightOf_43 rfl (lv_at hl 2 rfl) ?_
        refine W.lcmp hx hb dX1_neverRightOf_44 ?_
        refine lv_if_le (tgt := 50) hx hb dX1_neverRightOf_45 (by decide) (fun c6 => ?_) (fun c6 => ?_)
        · rw [if_pos c6] at h
          obtain ⟨v8, ev8⟩ : ∃ y : Int32, y = u15 + (1 : Int32) := ⟨_, rfl⟩
          have h := og_ov h ev8
          refine lv_iinc (v := v8) (lv' := [(5, .int v8), (1, .ref q), (2, .int a2), (3, .long v1)]) hx hb dX1_neverRightOf_50 hl (k := 3) rfl (by rw [ev8]; rfl) (by decide) rfl (fun ls hl => ?_)
          refine lv_goto (tgt := 15) hx hb dX1_neverRightOf_53 (by decide) ?_
          exact ki15 _ ls (Option.some.inj h).symm (lv_sub hl [1, 2, 3, 0] rfl)
        · rw [if_neg c6] at h
          refine lv_iconst (v := 0) hx hb dX1_neverRightOf_48 (by decide) ?_
          obtain rfl := kr15 _ (Option.some.inj h).symm
          exact W.zret hx hb hr rfl (fun t ht _ => ⟨rfl, ht⟩) (fun _ h9 => absurd h9 List.not_mem_nil) dX1_neverRightOf_49
  · subst e9
    exact Option.some.inj h
  · subst e9
    dsimp only [ret2] at h
    refine lv_iconst (v := 1) hx hb dX1_neverRightOf_56 (by decide) ?_
    obtain rfl := Option.some.inj h
    exact W.zret hx hb hr rfl (fun t ht _ => ⟨rfl, ht⟩) (fun _ h9 => absurd h9 List.not_mem_nil) dX1_neverRightOf_57
def f_X1_heightRoot (ro : Int32) (a1 : Int32) : Option Int64 :=
  (f_X1_rootOf ((1000000 : Int64) * (((ro * ro) - (a1 * a1)).toInt64))).bind fun r1 =>
  some r1
set_option maxHeartbeats 4000000 in
set_option maxRecDepth 100000 in
theorem k_X1_heightRoot (l : Launch) (D : va_G) (cI cF : ClassId) (o : Nat) (qf : Nat) (g : Nat → Nat) (ro : Int32) (rn : Int32) (tn : Int32) (fx : Int32) (fy : Int32) (ar : Int32) (wh : Int32) (a1 : Int32) (r0 : Int64) (h : f_X1_heightRoot ro a1 = some r0) : Met l yX1_heightRoot wsX1_heightRoot ({ frames := 1, cells := 0, slots := 0, locals := 26 }) (va_Pc [.ref o, .int a1] (fun U => wN D cI cF (drW cF o qf g ro rn tn fx fy ar wh) U)) (qS (.long r0)) 0 0 (fun _ => False) := by
  refine Met.ofW (cc := cX1_heightRoot) (maxL := 2) (ret := (some .long)) (by decide) rfl ?_
  intro p e s m args below meth c s₁ B hml hv
  obtain ⟨rfl, hK, hnw, hP⟩ := hv
  have hx := B.exec
  have hb := B.bytes
  have hr := B.returns
  have hts := atoms_spec (ws := wsX1_heightRoot) B.pre
  have hown : s.vm.findClass RX1 = some m.cls := findClass_of_methodNamed B.named
  have hlocks := B.notSynchronized
  have ht1 := hts (.constantLong RX1 216 (1000000)) (by decide +kernel)
  have ht2 := hts (.fieldLink RX1 16 "DrawnAreas" "rodLength" "I") (by decide +kernel)
  have hinX1 : ∀ w ∈ u_ws RX1 TX1 8, w ∈ wsX1_heightRoot := by decide +kernel
  have hnst : nst.before _ s = true := hnw.use (A := [.ref o, .int a1].toArray) rfl
  have hl := lv_entry ([.ref o, .int a1]) (n := 2) (Nat.le_of_ble_eq_true rfl)
  rw [lg_entry_eq]
  generalize (lg_sl ([.ref o, .int a1]) ++ List.replicate (2 - (lg_sl ([.ref o, .int a1])).length) Slot.unset).toArray = ls at hl ⊢
  have hl : lv_has ls 2 [(0, .ref o), (1, .int a1)] := hl
  unfold f_X1_heightRoot at h
  refine lv_ldc2 hx hb hown ht1 dX1_heightRoot_0 ?_
  refine lv_aload_n hx hb dX1_heightRoot_3 rfl (lv_at hl 0 rfl) ?_
  refine va_get (D := D) (ci := 1) (v := .int ro) (C := RX1) (T := TX1) (N := 8) hx hb hts hinX1 hown hK hP 0 rfl rfl 1 (by decide) ht2 (fun _ h9 => h9) rfl dX1_heightRoot_4 ?_
  refine lv_aload_n hx hb dX1_heightRoot_7 rfl (lv_at hl 0 rfl) ?_
  refine va_get (D := D) (ci := 1) (v := .int ro) (C := RX1) (T := TX1) (N := 8) hx hb hts hinX1 hown hK hP 0 rfl rfl 1 (by decide) ht2 (fun _ h9 => h9) rfl dX1_heightRoot_8 ?_
  refine lv_imul hx hb dX1_heightRoot_11 ?_
  refine lv_iload_n hx hb dX1_heightRoot_12 rfl (lv_at hl 1 rfl) ?_
  refine lv_iload_n hx hb dX1_heightRoot_13 rfl (lv_at hl 1 rfl) ?_
  refine lv_imul hx hb dX1_heightRoot_14 ?_
  refine lv_isub hx hb dX1_heightRoot_15 ?_
  refine lv_i2l hx hb dX1_heightRoot_16 rfl ?_
  refine lv_lmul hx hb dX1_heightRoot_17 ?_
  obtain ⟨r1, hcr1, h⟩ := og_bind h
  refine cp_s (va_runS (As := [.long ((1000000 : Int64) * (((ro * ro) - (a1 * a1)).toInt64))]) (rest := []) ⟨hx, hb, hml, hown, hts⟩ (k_X1_rootOf l ((1000000 : Int64) * (((ro * ro) - (a1 * a1)).toInt64)) _ hcr1) (va_cwS 1 hts gX1_heightRoot_X1_rootOf rfl rfl rfl (by decide +kernel) ⟨(Nat.le_of_ble_eq_true rfl), (Nat.le_of_ble_eq_true rfl)⟩) pre_s rfl rfl hl.1 rfl (lv_room (Nat.le_of_ble_eq_true rfl)) dX1_heightRoot_18 ⟨(Nat.zero_le _), (Nat.zero_le _)⟩) ?_
  obtain rfl := Option.some.inj h
  exact W.lret hx hb hr (fun t ht _ => ⟨rfl, ht⟩) (fun _ h9 => absurd h9 List.not_mem_nil) dX1_heightRoot_21
def s_X1_shutLow_5 (ro : Int32) (a1 : Int32) (u5 : (Int64 × Int32)) : Option ((Int64 × Int32) ⊕ Int64) :=
  if a1 ≤ u5.2 then
  (some (.inr u5.1))
  else
  ((f_X1_heightRoot ro u5.2).bind fun r2 =>
  (f_X1_cut ((u5.2.toInt64) * ((u5.2.toInt64) * (1000000000 : Int64))) ((ro.toInt64) * (r2 + (1 : Int64)))).bind fun r3 =>
  ov (u5.1 + r3) fun v4 =>
  ov (u5.2 + (1 : Int32)) fun v5 =>
  some (.inl (v4, v5)))
def f_X1_shutLow (ro : Int32) (a1 : Int32) : Option Int64 :=
  (lpf (s_X1_shutLow_5 ro a1) 1000 ((0 : Int64), (0 : Int32))).bind fun x6 =>
  some x6
set_option maxHeartbeats 4000000 in
set_option maxRecDepth 100000 in
theorem k_X1_shutLow (l : Launch) (D : va_G) (cI cF : ClassId) (o : Nat) (qf : Nat) (g : Nat → Nat) (ro : Int32) (rn : Int32) (tn : Int32) (fx : Int32) (fy : Int32) (ar : Int32) (wh : Int32) (a1 : Int32) (r0 : Int64) (h : f_X1_shutLow ro a1 = some r0) : Met l yX1_shutLow wsX1_shutLow ({ frames := 2, cells := 0, slots := 0, locals := 47 }) (va_Pc [.ref o, .int a1] (fun U => wN D cI cF (drW cF o qf g ro rn tn fx fy ar wh) U)) (qS (.long r0)) 0 0 (fun _ => False) := by
  refine Met.ofW (cc := cX1_shutLow) (maxL := 5) (ret := (some .long)) (by decide) rfl ?_
  intro p e s m args below meth c s₁ B hml hv
  obtain ⟨rfl, hK, hnw, hP⟩ := hv
  have hx := B.exec
  have hb := B.bytes
  have hr := B.returns
  have hts := atoms_spec (ws := wsX1_shutLow) B.pre
  have hown : s.vm.findClass RX1 = some m.cls := findClass_of_methodNamed B.named
  have hlocks := B.notSynchronized
  have ht1 := hts (.constantLong RX1 211 (1000000000)) (by decide +kernel)
  have ht2 := hts (.fieldLink RX1 16 "DrawnAreas" "rodLength" "I") (by decide +kernel)
  have hinX1 : ∀ w ∈ u_ws RX1 TX1 8, w ∈ wsX1_shutLow := by decide +kernel
  have hnst : nst.before _ s = true := hnw.use (A := [.ref o, .int a1].toArray) rfl
  have hl := lv_entry ([.ref o, .int a1]) (n := 5) (Nat.le_of_ble_eq_true rfl)
  rw [lg_entry_eq]
  generalize (lg_sl ([.ref o, .int a1]) ++ List.replicate (5 - (lg_sl ([.ref o, .int a1])).length) Slot.unset).toArray = ls at hl ⊢
  have hl : lv_has ls 5 [(0, .ref o), (1, .int a1)] := hl
  unfold f_X1_shutLow at h
  refine lv_lconst (v := 0) hx hb dX1_shutLow_0 (by decide) ?_
  refine lv_lstore_n (lv' := [(2, .long (0 : Int64)), (0, .ref o), (1, .int a1)]) hx hb dX1_shutLow_1 rfl hl (by decide) rfl (fun ls hl => ?_)
  refine lv_iconst (v := 0) hx hb dX1_shutLow_2 (by decide) ?_
  refine lv_istore (lv' := [(4, .int (0 : Int32)), (2, .long (0 : Int64)), (0, .ref o), (1, .int a1)]) hx hb dX1_shutLow_3 hl (by decide) rfl (fun ls hl => ?_)
  obtain ⟨x6, hN5, h⟩ := og_bind h
  refine wl hN5 5 48 (fun u5 ls => lv_has ls 5 [(0, .ref o), (1, .int a1), (2, .long u5.1), (4, .int u5.2)]) (fun x6 ls => lv_has ls 5 [(2, .long x6)]) (fun u5 xx h ki5 kx5 ls hl => ?_) (fun ls hl => ?_) (lv_sub hl [2, 3, 1, 0] rfl)
  · unfold s_X1_shutLow_5 at h
    refine lv_iload hx hb dX1_shutLow_5 (lv_at hl 3 rfl) ?_
    refine lv_iload_n hx hb dX1_shutLow_7 rfl (lv_at hl 1 rfl) ?_
    refine lv_icmp_ge (tgt := 48) hx hb dX1_shutLow_8 (by decide) (fun c0 => ?_) (fun c0 => ?_)
    · rw [if_pos c0] at h
      exact kx5 _ ls (Option.some.inj h).symm (lv_sub hl [2] rfl)
    · rw [if_neg c0] at h
      refine lv_lload_n hx hb dX1_shutLow_11 rfl (lv_at hl 2 rfl) ?_
      refine lv_iload hx hb dX1_shutLow_12 (lv_at hl 3 rfl) ?_
      refine lv_i2l hx hb dX1_shutLow_14 rfl ?_
      refine lv_iload hx hb dX1_shutLow_15 (lv_at hl 3 rfl) ?_
      refine lv_i2l hx hb dX1_shutLow_17 rfl ?_
      refine lv_ldc2 hx hb hown ht1 dX1_shutLow_18 ?_
      refine lv_lmul hx hb dX1_shutLow_21 ?_
      refine lv_lmul hx hb dX1_shutLow_22 ?_
      refine lv_aload_n hx hb dX1_shutLow_23 rfl (lv_at hl 0 rfl) ?_
      refine va_get (D := D) (ci := 1) (v := .int ro) (C := RX1) (T := TX1) (N := 8) hx hb hts hinX1 hown hK hP 0 rfl rfl 1 (by decide) ht2 (fun _ h9 => h9) rfl dX1_shutLow_24 ?_
      refine lv_i2l hx hb dX1_shutLow_27 rfl ?_
      refine lv_aload_n hx hb dX1_shutLow_28 rfl (lv_at hl 0 rfl) ?_
      refine lv_iload hx hb dX1_shutLow_29 (lv_at hl 3 rfl) ?_
      obtain ⟨r2, hcr2, h⟩ := og_bind h
      refine cp_s (va_runV (As := [.int u5.2]) (rest := [.long (ro.toInt64), .long ((u5.2.toInt64) * ((u5.2.toInt64) * (1000000000 : Int64))), .long u5.1]) ⟨hx, hb, hml, hown, hts⟩ (k_X1_heightRoot l D cI cF o qf g ro rn tn fx fy ar wh u5.2 _ hcr2) (cwV 1 hts gX1_shutLow_X1_heightRoot rfl rfl rfl (by decide +kernel) ⟨(Nat.le_of_ble_eq_true rfl), (Nat.le_of_ble_eq_true rfl)⟩) (pre_n (q0 := 0) (ci := 1) hK hnw hP rfl rfl) rfl rfl hl.1 rfl (lv_room (Nat.le_of_ble_eq_true rfl)) dX1_shutLow_31 ⟨(Nat.zero_le _), (Nat.zero_le _)⟩) ?_
      refine lv_lconst (v := 1) hx hb dX1_shutLow_34 (by decide) ?_
      refine lv_ladd hx hb dX1_shutLow_35 ?_
      refine lv_lmul hx hb dX1_shutLow_36 ?_
      obtain ⟨r3, hcr3, h⟩ := og_bind h
      refine cp_s (va_runS (As := [.long ((u5.2.toInt64) * ((u5.2.toInt64) * (1000000000 : Int64))), .long ((ro.toInt64) * (r2 + (1 : Int64)))]) (rest := [.long u5.1]) ⟨hx, hb, hml, hown, hts⟩ (k_X1_cut l ((u5.2.toInt64) * ((u5.2.toInt64) * (1000000000 : Int64))) ((ro.toInt64) * (r2 + (1 : Int64))) _ hcr3) (va_cwS 2 hts gX1_shutLow_X1_cut rfl rfl rfl (by decide +kernel) ⟨(Nat.le_of_ble_eq_true rfl), (Nat.le_of_ble_eq_true rfl)⟩) pre_s rfl rfl hl.1 rfl (lv_room (Nat.le_of_ble_eq_true rfl)) dX1_shutLow_37 ⟨(Nat.zero_le _), (Nat.zero_le _)⟩) ?_
      refine lv_ladd hx hb dX1_shutLow_40 ?_
      refine lv_topl (fun v4 ev4 => ?_)
      have h := og_ov h ev4
      refine lv_lstore_n (lv' := [(2, .long v4), (0, .ref o), (1, .int a1), (4, .int u5.2)]) hx hb dX1_shutLow_41 rfl hl (by decide) rfl (fun ls hl => ?_)
      obtain ⟨v5, ev5⟩ : ∃ y : Int32, y = u5.2 + (1 : Int32) := ⟨_, rfl⟩
      have h := og_ov h ev5
      refine lv_iinc (v := v5) (lv' := [(4, .int v5), (2, .long v4), (0, .ref o), (1, .int a1)]) hx hb dX1_shutLow_42 hl (k := 3) rfl (by rw [ev5]; rfl) (by decide) rfl (fun ls hl => ?_)
      refine lv_goto (tgt := 5) hx hb dX1_shutLow_45 (by decide) ?_
      exact ki5 _ ls (Option.some.inj h).symm (lv_sub hl [2, 3, 1, 0] rfl)
  · refine lv_lload_n hx hb dX1_shutLow_48 rfl (lv_at hl 0 rfl) ?_
    obtain rfl := Option.some.inj h
    exact W.lret hx hb hr (fun t ht _ => ⟨rfl, ht⟩) (fun _ h9 => absurd h9 List.not_mem_nil) dX1_shutLow_49
def s_X1_shutHigh_5 (ro : Int32) (a1 : Int32) (u5 : (Int64 × Int32)) : Option ((Int64 × Int32) ⊕ Int64) :=
  if a1 < u5.2 then
  (some (.inr u5.1))
  else
  ((f_X1_heightRoot ro u5.2).bind fun r2 =>
  (f_X1_cut ((u5.2.toInt64) * ((u5.2.toInt64) * (1000000000 : Int64))) ((ro.toInt64) * r2)).bind fun r3 =>
  ov (u5.1 + ((1 : Int64) + r3)) fun v4 =>
  ov (u5.2 + (1 : Int32)) fun v5 =>
  some (.inl (v4, v5)))
def f_X1_shutHigh (ro : Int32) (a1 : Int32) : Option Int64 :=
  (lpf (s_X1_shutHigh_5 ro a1) 1000 ((0 : Int64), (1 : Int32))).bind fun x6 =>
  some x6
set_option maxHeartbeats 4000000 in
set_option maxRecDepth 100000 in
theorem k_X1_shutHigh (l : Launch) (D : va_G) (cI cF : ClassId) (o : Nat) (qf : Nat) (g : Nat → Nat) (ro : Int32) (rn : Int32) (tn : Int32) (fx : Int32) (fy : Int32) (ar : Int32) (wh : Int32) (a1 : Int32) (r0 : Int64) (h : f_X1_shutHigh ro a1 = some r0) : Met l yX1_shutHigh wsX1_shutHigh ({ frames := 2, cells := 0, slots := 0, locals := 47 }) (va_Pc [.ref o, .int a1] (fun U => wN D cI cF (drW cF o qf g ro rn tn fx fy ar wh) U)) (qS (.long r0)) 0 0 (fun _ => False) := by
  refine Met.ofW (cc := cX1_shutHigh) (maxL := 5) (ret := (some .long)) (by decide) rfl ?_
  intro p e s m args below meth c s₁ B hml hv
  obtain ⟨rfl, hK, hnw, hP⟩ := hv
  have hx := B.exec
  have hb := B.bytes
  have hr := B.returns
  have hts := atoms_spec (ws := wsX1_shutHigh) B.pre
  have hown : s.vm.findClass RX1 = some m.cls := findClass_of_methodNamed B.named
  have hlocks := B.notSynchronized
  have ht1 := hts (.constantLong RX1 211 (1000000000)) (by decide +kernel)
  have ht2 := hts (.fieldLink RX1 16 "DrawnAreas" "rodLength" "I") (by decide +kernel)
  have hinX1 : ∀ w ∈ u_ws RX1 TX1 8, w ∈ wsX1_shutHigh := by decide +kernel
  have hnst : nst.before _ s = true := hnw.use (A := [.ref o, .int a1].toArray) rfl
  have hl := lv_entry ([.ref o, .int a1]) (n := 5) (Nat.le_of_ble_eq_true rfl)
  rw [lg_entry_eq]
  generalize (lg_sl ([.ref o, .int a1]) ++ List.replicate (5 - (lg_sl ([.ref o, .int a1])).length) Slot.unset).toArray = ls at hl ⊢
  have hl : lv_has ls 5 [(0, .ref o), (1, .int a1)] := hl
  unfold f_X1_shutHigh at h
  refine lv_lconst (v := 0) hx hb dX1_shutHigh_0 (by decide) ?_
  refine lv_lstore_n (lv' := [(2, .long (0 : Int64)), (0, .ref o), (1, .int a1)]) hx hb dX1_shutHigh_1 rfl hl (by decide) rfl (fun ls hl => ?_)
  refine lv_iconst (v := 1) hx hb dX1_shutHigh_2 (by decide) ?_
  refine lv_istore (lv' := [(4, .int (1 : Int32)), (2, .long (0 : Int64)), (0, .ref o), (1, .int a1)]) hx hb dX1_shutHigh_3 hl (by decide) rfl (fun ls hl => ?_)
  obtain ⟨x6, hN5, h⟩ := og_bind h
  refine wl hN5 5 48 (fun u5 ls => lv_has ls 5 [(0, .ref o), (1, .int a1), (2, .long u5.1), (4, .int u5.2)]) (fun x6 ls => lv_has ls 5 [(2, .long x6)]) (fun u5 xx h ki5 kx5 ls hl => ?_) (fun ls hl => ?_) (lv_sub hl [2, 3, 1, 0] rfl)
  · unfold s_X1_shutHigh_5 at h
    refine lv_iload hx hb dX1_shutHigh_5 (lv_at hl 3 rfl) ?_
    refine lv_iload_n hx hb dX1_shutHigh_7 rfl (lv_at hl 1 rfl) ?_
    refine lv_icmp_gt (tgt := 48) hx hb dX1_shutHigh_8 (by decide) (fun c0 => ?_) (fun c0 => ?_)
    · rw [if_pos c0] at h
      exact kx5 _ ls (Option.some.inj h).symm (lv_sub hl [2] rfl)
    · rw [if_neg c0] at h
      refine lv_lload_n hx hb dX1_shutHigh_11 rfl (lv_at hl 2 rfl) ?_
      refine lv_lconst (v := 1) hx hb dX1_shutHigh_12 (by decide) ?_
      refine lv_iload hx hb dX1_shutHigh_13 (lv_at hl 3 rfl) ?_
      refine lv_i2l hx hb dX1_shutHigh_15 rfl ?_
      refine lv_iload hx hb dX1_shutHigh_16 (lv_at hl 3 rfl) ?_
      refine lv_i2l hx hb dX1_shutHigh_18 rfl ?_
      refine lv_ldc2 hx hb hown ht1 dX1_shutHigh_19 ?_
      refine lv_lmul hx hb dX1_shutHigh_22 ?_
      refine lv_lmul hx hb dX1_shutHigh_23 ?_
      refine lv_aload_n hx hb dX1_shutHigh_24 rfl (lv_at hl 0 rfl) ?_
      refine va_get (D := D) (ci := 1) (v := .int ro) (C := RX1) (T := TX1) (N := 8) hx hb hts hinX1 hown hK hP 0 rfl rfl 1 (by decide) ht2 (fun _ h9 => h9) rfl dX1_shutHigh_25 ?_
      refine lv_i2l hx hb dX1_shutHigh_28 rfl ?_
      refine lv_aload_n hx hb dX1_shutHigh_29 rfl (lv_at hl 0 rfl) ?_
      refine lv_iload hx hb dX1_shutHigh_30 (lv_at hl 3 rfl) ?_
      obtain ⟨r2, hcr2, h⟩ := og_bind h
      refine cp_s (va_runV (As := [.int u5.2]) (rest := [.long (ro.toInt64), .long ((u5.2.toInt64) * ((u5.2.toInt64) * (1000000000 : Int64))), .long (1 : Int64), .long u5.1]) ⟨hx, hb, hml, hown, hts⟩ (k_X1_heightRoot l D cI cF o qf g ro rn tn fx fy ar wh u5.2 _ hcr2) (cwV 1 hts gX1_shutHigh_X1_heightRoot rfl rfl rfl (by decide +kernel) ⟨(Nat.le_of_ble_eq_true rfl), (Nat.le_of_ble_eq_true rfl)⟩) (pre_n (q0 := 0) (ci := 1) hK hnw hP rfl rfl) rfl rfl hl.1 rfl (lv_room (Nat.le_of_ble_eq_true rfl)) dX1_shutHigh_32 ⟨(Nat.zero_le _), (Nat.zero_le _)⟩) ?_
      refine lv_lmul hx hb dX1_shutHigh_35 ?_
      obtain ⟨r3, hcr3, h⟩ := og_bind h
      refine cp_s (va_runS (As := [.long ((u5.2.toInt64) * ((u5.2.toInt64) * (1000000000 : Int64))), .long ((ro.toInt64) * r2)]) (rest := [.long (1 : Int64), .long u5.1]) ⟨hx, hb, hml, hown, hts⟩ (k_X1_cut l ((u5.2.toInt64) * ((u5.2.toInt64) * (1000000000 : Int64))) ((ro.toInt64) * r2) _ hcr3) (va_cwS 2 hts gX1_shutHigh_X1_cut rfl rfl rfl (by decide +kernel) ⟨(Nat.le_of_ble_eq_true rfl), (Nat.le_of_ble_eq_true rfl)⟩) pre_s rfl rfl hl.1 rfl (lv_room (Nat.le_of_ble_eq_true rfl)) dX1_shutHigh_36 ⟨(Nat.zero_le _), (Nat.zero_le _)⟩) ?_
      refine lv_ladd hx hb dX1_shutHigh_39 ?_
      refine lv_ladd hx hb dX1_shutHigh_40 ?_
      refine lv_topl (fun v4 ev4 => ?_)
      have h := og_ov h ev4
      refine lv_lstore_n (lv' := [(2, .long v4), (0, .ref o), (1, .int a1), (4, .int u5.2)]) hx hb dX1_shutHigh_41 rfl hl (by decide) rfl (fun ls hl => ?_)
      obtain ⟨v5, ev5⟩ : ∃ y : Int32, y = u5.2 + (1 : Int32) := ⟨_, rfl⟩
      have h := og_ov h ev5
      refine lv_iinc (v := v5) (lv' := [(4, .int v5), (2, .long v4), (0, .ref o), (1, .int a1)]) hx hb dX1_shutHigh_42 hl (k := 3) rfl (by rw [ev5]; rfl) (by decide) rfl (fun ls hl => ?_)
      refine lv_goto (tgt := 5) hx hb dX1_shutHigh_45 (by decide) ?_
      exact ki5 _ ls (Option.some.inj h).symm (lv_sub hl [2, 3, 1, 0] rfl)
  · refine lv_lload_n hx hb dX1_shutHigh_48 rfl (lv_at hl 0 rfl) ?_
    obtain rfl := Option.some.inj h
    exact W.lret hx hb hr (fun t ht _ => ⟨rfl, ht⟩) (fun _ h9 => absurd h9 List.not_mem_nil) dX1_shutHigh_49
def f_X1_gearedRound (ro : Int32) (xs : Nat → Int32) (ys : Nat → Int32) (n : Int32) (a2 : Int32) (a3 : Int32) : Option Int64 :=
  ov ((ro.toInt64) * (ro.toInt64)) fun v1 =>
  (f_X0_alongX xs ys n (1 : Int32) n).bind fun r2 =>
  if a2 = (1 : Int32) then
  ((f_X1_fraction r2 ((2 : Int64) * (ro.toInt64)) a3).bind fun r9 =>
  some r9)
  else
  (if a2 = (2 : Int32) then
  ((f_X0_alongX xs ys n (2 : Int32) n).bind fun r7 =>
  (f_X1_fraction ((-2 : Int64) * r7) ((3 : Int64) * v1) a3).bind fun r8 =>
  some r8)
  else
  ((f_X0_alongX xs ys n (3 : Int32) n).bind fun r5 =>
  (f_X1_fraction ((((3 : Int64) * v1) * r2) - ((2 : Int64) * r5)) (((2 : Int64) * v1) * (ro.toInt64)) a3).bind fun r6 =>
  some r6))
set_option maxHeartbeats 4000000 in
set_option maxRecDepth 100000 in
theorem k_X1_gearedRound (l : Launch) (D : va_G) (cI cF : ClassId) (o : Nat) (qf : Nat) (g : Nat → Nat) (ro : Int32) (rn : Int32) (tn : Int32) (fx : Int32) (fy : Int32) (ar : Int32) (wh : Int32) (q : Nat) (qx : Nat) (qy : Nat) (xs : Nat → Int32) (ys : Nat → Int32) (n : Int32) (a2 : Int32) (a3 : Int32) (r0 : Int64) (h : f_X1_gearedRound ro xs ys n a2 a3 = some r0) : Met l yX1_gearedRound wsX1_gearedRound ({ frames := 2, cells := 0, slots := 0, locals := 56 }) (va_Pc [.ref o, .ref q, .int a2, .int a3] (fun U => wN D cI cF (drfW cI cF o qf g ro rn tn fx fy ar wh q qx qy xs ys n) U)) (qS (.long r0)) 0 0 (fun _ => False) := by
  refine Met.ofW (cc := cX1_gearedRound) (maxL := 10) (ret := (some .long)) (by decide) rfl ?_
  intro p e s m args below meth c s₁ B hml hv
  obtain ⟨rfl, hK, hnw, hP⟩ := hv
  have hx := B.exec
  have hb := B.bytes
  have hr := B.returns
  have hts := atoms_spec (ws := wsX1_gearedRound) B.pre
  have hown : s.vm.findClass RX1 = some m.cls := findClass_of_methodNamed B.named
  have hlocks := B.notSynchronized
  have ht1 := hts (.fieldLink RX1 16 "DrawnAreas" "rodLength" "I") (by decide +kernel)
  have hinX1 : ∀ w ∈ u_ws RX1 TX1 8, w ∈ wsX1_gearedRound := by decide +kernel
  have hinX0 : ∀ w ∈ u_ws RX0 TX0 3, w ∈ wsX1_gearedRound := by decide +kernel
  have ht4 := hts (.constantLong RX1 223 (3)) (by decide +kernel)
  have ht5 := hts (.constantLong RX1 120 (2)) (by decide +kernel)
  have ht6 := hts (.constantLong RX1 221 (-2)) (by decide +kernel)
  have hnst : nst.before _ s = true := hnw.use (A := [.ref o, .ref q, .int a2, .int a3].toArray) rfl
  have hl := lv_entry ([.ref o, .ref q, .int a2, .int a3]) (n := 10) (Nat.le_of_ble_eq_true rfl)
  rw [lg_entry_eq]
  generalize (lg_sl ([.ref o, .ref q, .int a2, .int a3]) ++ List.replicate (10 - (lg_sl ([.ref o, .ref q, .int a2, .int a3])).length) Slot.unset).toArray = ls at hl ⊢
  have hl : lv_has ls 10 [(0, .ref o), (1, .ref q), (2, .int a2), (3, .int a3)] := hl
  unfold f_X1_gearedRound at h
  refine lv_aload_n hx hb dX1_gearedRound_0 rfl (lv_at hl 0 rfl) ?_
  refine va_get (D := D) (ci := 1) (v := .int ro) (C := RX1) (T := TX1) (N := 8) hx hb hts hinX1 hown hK hP 0 rfl rfl 1 (by decide) ht1 (fun _ h9 => h9) rfl dX1_gearedRound_1 ?_
  refine lv_i2l hx hb dX1_gearedRound_4 rfl ?_
  refine lv_aload_n hx hb dX1_gearedRound_5 rfl (lv_at hl 0 rfl) ?_
  refine va_get (D := D) (ci := 1) (v := .int ro) (C := RX1) (T := TX1) (N := 8) hx hb hts hinX1 hown hK hP 0 rfl rfl 1 (by decide) ht1 (fun _ h9 => h9) rfl dX1_gearedRound_6 ?_
  refine lv_i2l hx hb dX1_gearedRound_9 rfl ?_
  refine lv_lmul hx hb dX1_gearedRound_10 ?_
  refine lv_topl (fun v1 ev1 => ?_)
  have h := og_ov h ev1
  refine lv_lstore (lv' := [(4, .long v1), (0, .ref o), (1, .ref q), (2, .int a2), (3, .int a3)]) hx hb dX1_gearedRound_11 hl (by decide) rfl (fun ls hl => ?_)
  refine lv_aload_n hx hb dX1_gearedRound_13 rfl (lv_at hl 2 rfl) ?_
  refine lv_iconst (v := 1) hx hb dX1_gearedRound_14 (by decide) ?_
  refine lv_aload_n hx hb dX1_gearedRound_15 rfl (lv_at hl 2 rfl) ?_
  refine va_getN (D := D) (ci := 0) (v := .int n) (C := RX0) (T := TX0) (N := 3) hx hb hts hinX0 hown hK hP 2 rfl rfl 2 (by decide) hnst (fun _ h9 => h9) rfl dX1_gearedRound_16 ?_
  have hPc := hP.sub (ws' := figW cI q qx qy xs ys n) [2, 3, 4] rfl
  obtain ⟨r2, hcr2, h⟩ := og_bind h
  refine cp_s (va_runV (As := [.int (1 : Int32), .int n]) (rest := []) ⟨hx, hb, hml, hown, hts⟩ (k_X0_alongX l D cI cF q qx qy xs ys n (1 : Int32) n _ hcr2) (cwV 2 hts gX1_gearedRound_X0_alongX rfl rfl rfl (by decide +kernel) ⟨(Nat.le_of_ble_eq_true rfl), (Nat.le_of_ble_eq_true rfl)⟩) (pre_v (q0 := 0) (ci := 0) hK hPc rfl rfl) rfl rfl hl.1 rfl (lv_room (Nat.le_of_ble_eq_true rfl)) dX1_gearedRound_19 ⟨(Nat.zero_le _), (Nat.zero_le _)⟩) ?_
  refine lv_lstore (lv' := [(6, .long r2), (4, .long v1), (0, .ref o), (1, .ref q), (2, .int a2), (3, .int a3)]) hx hb dX1_gearedRound_22 hl (by decide) rfl (fun ls hl => ?_)
  refine lv_iload_n hx hb dX1_gearedRound_24 rfl (lv_at hl 4 rfl) ?_
  refine lv_iconst (v := 1) hx hb dX1_gearedRound_25 (by decide) ?_
  refine lv_icmp_ne (tgt := 45) hx hb dX1_gearedRound_26 (by decide) (fun c2 => ?_) (fun c2 => ?_)
  · rw [if_neg c2] at h
    refine lv_iload_n hx hb dX1_gearedRound_45 rfl (lv_at hl 4 rfl) ?_
    refine lv_iconst (v := 2) hx hb dX1_gearedRound_46 (by decide) ?_
    refine lv_icmp_ne (tgt := 74) hx hb dX1_gearedRound_47 (by decide) (fun c3 => ?_) (fun c3 => ?_)
    · rw [if_neg c3] at h
      refine lv_aload_n hx hb dX1_gearedRound_74 rfl (lv_at hl 3 rfl) ?_
      refine lv_iconst (v := 3) hx hb dX1_gearedRound_75 (by decide) ?_
      refine lv_aload_n hx hb dX1_gearedRound_76 rfl (lv_at hl 3 rfl) ?_
      refine va_getN (D := D) (ci := 0) (v := .int n) (C := RX0) (T := TX0) (N := 3) hx hb hts hinX0 hown hK hP 2 rfl rfl 2 (by decide) hnst (fun _ h9 => h9) rfl dX1_gearedRound_77 ?_
      have hPc := hP.sub (ws' := figW cI q qx qy xs ys n) [2, 3, 4] rfl
      obtain ⟨r5, hcr5, h⟩ := og_bind h
      refine cp_s (va_runV (As := [.int (3 : Int32), .int n]) (rest := []) ⟨hx, hb, hml, hown, hts⟩ (k_X0_alongX l D cI cF q qx qy xs ys n (3 : Int32) n _ hcr5) (cwV 2 hts gX1_gearedRound_X0_alongX rfl rfl rfl (by decide +kernel) ⟨(Nat.le_of_ble_eq_true rfl), (Nat.le_of_ble_eq_true rfl)⟩) (pre_v (q0 := 0) (ci := 0) hK hPc rfl rfl) rfl rfl hl.1 rfl (lv_room (Nat.le_of_ble_eq_true rfl)) dX1_gearedRound_80 ⟨(Nat.zero_le _), (Nat.zero_le _)⟩) ?_
      refine lv_lstore (lv' := [(8, .long r5), (6, .long r2), (4, .long v1), (0, .ref o), (1, .ref q), (2, .int a2), (3, .int a3)]) hx hb dX1_gearedRound_83 hl (by decide) rfl (fun ls hl => ?_)
      refine lv_ldc2 hx hb hown ht4 dX1_gearedRound_85 ?_
      refine lv_lload hx hb dX1_gearedRound_88 (lv_at hl 2 rfl) ?_
      refine lv_lmul hx hb dX1_gearedRound_90 ?_
      refine lv_lload hx hb dX1_gearedRound_91 (lv_at hl 1 rfl) ?_
      refine lv_lmul hx hb dX1_gearedRound_93 ?_
      refine lv_ldc2 hx hb hown ht5 dX1_gearedRound_94 ?_
      refine lv_lload hx hb dX1_gearedRound_97 (lv_at hl 0 rfl) ?_
      refine lv_lmul hx hb dX1_gearedRound_99 ?_
      refine lv_lsub hx hb dX1_gearedRound_100 ?_
      refine lv_ldc2 hx hb hown ht5 dX1_gearedRound_101 ?_
      refine lv_lload hx hb dX1_gearedRound_104 (lv_at hl 2 rfl) ?_
      refine lv_lmul hx hb dX1_gearedRound_106 ?_
      refine lv_aload_n hx hb dX1_gearedRound_107 rfl (lv_at hl 3 rfl) ?_
      refine va_get (D := D) (ci := 1) (v := .int ro) (C := RX1) (T := TX1) (N := 8) hx hb hts hinX1 hown hK hP 0 rfl rfl 1 (by decide) ht1 (fun _ h9 => h9) rfl dX1_gearedRound_108 ?_
      refine lv_i2l hx hb dX1_gearedRound_111 rfl ?_
      refine lv_lmul hx hb dX1_gearedRound_112 ?_
      refine lv_iload_n hx hb dX1_gearedRound_113 rfl (lv_at hl 6 rfl) ?_
      obtain ⟨r6, hcr6, h⟩ := og_bind h
      refine cp_s (va_runS (As := [.long ((((3 : Int64) * v1) * r2) - ((2 : Int64) * r5)), .long (((2 : Int64) * v1) * (ro.toInt64)), .int a3]) (rest := []) ⟨hx, hb, hml, hown, hts⟩ (k_X1_fraction l ((((3 : Int64) * v1) * r2) - ((2 : Int64) * r5)) (((2 : Int64) * v1) * (ro.toInt64)) a3 _ hcr6) (va_cwS 3 hts gX1_gearedRound_X1_fraction rfl rfl rfl (by decide +kernel) ⟨(Nat.le_of_ble_eq_true rfl), (Nat.le_of_ble_eq_true rfl)⟩) pre_s rfl rfl hl.1 rfl (lv_room (Nat.le_of_ble_eq_true rfl)) dX1_gearedRound_114 ⟨(Nat.zero_le _), (Nat.zero_le _)⟩) ?_
      obtain rfl := Option.some.inj h
      exact W.lret hx hb hr (fun t ht _ => ⟨rfl, ht⟩) (fun _ h9 => absurd h9 List.not_mem_nil) dX1_gearedRound_117
    · rw [if_pos c3] at h
      refine lv_ldc2 hx hb hown ht6 dX1_gearedRound_50 ?_
      refine lv_aload_n hx hb dX1_gearedRound_53 rfl (lv_at hl 3 rfl) ?_
      refine lv_iconst (v := 2) hx hb dX1_gearedRound_54 (by decide) ?_
      refine lv_aload_n hx hb dX1_gearedRound_55 rfl (lv_at hl 3 rfl) ?_
      refine va_getN (D := D) (ci := 0) (v := .int n) (C := RX0) (T := TX0) (N := 3) hx hb hts hinX0 hown hK hP 2 rfl rfl 2 (by decide) hnst (fun _ h9 => h9) rfl dX1_gearedRound_56 ?_
      have hPc := hP.sub (ws' := figW cI q qx qy xs ys n) [2, 3, 4] rfl
      obtain ⟨r7, hcr7, h⟩ := og_bind h
      refine cp_s (va_runV (As := [.int (2 : Int32), .int n]) (rest := [.long (-2 : Int64)]) ⟨hx, hb, hml, hown, hts⟩ (k_X0_alongX l D cI cF q qx qy xs ys n (2 : Int32) n _ hcr7) (cwV 2 hts gX1_gearedRound_X0_alongX rfl rfl rfl (by decide +kernel) ⟨(Nat.le_of_ble_eq_true rfl), (Nat.le_of_ble_eq_true rfl)⟩) (pre_v (q0 := 0) (ci := 0) hK hPc rfl rfl) rfl rfl hl.1 rfl (lv_room (Nat.le_of_ble_eq_true rfl)) dX1_gearedRound_59 ⟨(Nat.zero_le _), (Nat.zero_le _)⟩) ?_
      refine lv_lmul hx hb dX1_gearedRound_62 ?_
      refine lv_ldc2 hx hb hown ht4 dX1_gearedRound_63 ?_
      refine lv_lload hx hb dX1_gearedRound_66 (lv_at hl 1 rfl) ?_
      refine lv_lmul hx hb dX1_gearedRound_68 ?_
      refine lv_iload_n hx hb dX1_gearedRound_69 rfl (lv_at hl 5 rfl) ?_
      obtain ⟨r8, hcr8, h⟩ := og_bind h
      refine cp_s (va_runS (As := [.long ((-2 : Int64) * r7), .long ((3 : Int64) * v1), .int a3]) (rest := []) ⟨hx, hb, hml, hown, hts⟩ (k_X1_fraction l ((-2 : Int64) * r7) ((3 : Int64) * v1) a3 _ hcr8) (va_cwS 3 hts gX1_gearedRound_X1_fraction rfl rfl rfl (by decide +kernel) ⟨(Nat.le_of_ble_eq_true rfl), (Nat.le_of_ble_eq_true rfl)⟩) pre_s rfl rfl hl.1 rfl (lv_room (Nat.le_of_ble_eq_true rfl)) dX1_gearedRound_70 ⟨(Nat.zero_le _), (Nat.zero_le _)⟩) ?_
      obtain rfl := Option.some.inj h
      exact W.lret hx hb hr (fun t ht _ => ⟨rfl, ht⟩) (fun _ h9 => absurd h9 List.not_mem_nil) dX1_gearedRound_73
  · rw [if_pos c2] at h
    refine lv_lload hx hb dX1_gearedRound_29 (lv_at hl 0 rfl) ?_
    refine lv_ldc2 hx hb hown ht5 dX1_gearedRound_31 ?_
    refine lv_aload_n hx hb dX1_gearedRound_34 rfl (lv_at hl 2 rfl) ?_
    refine va_get (D := D) (ci := 1) (v := .int ro) (C := RX1) (T := TX1) (N := 8) hx hb hts hinX1 hown hK hP 0 rfl rfl 1 (by decide) ht1 (fun _ h9 => h9) rfl dX1_gearedRound_35 ?_
    refine lv_i2l hx hb dX1_gearedRound_38 rfl ?_
    refine lv_lmul hx hb dX1_gearedRound_39 ?_
    refine lv_iload_n hx hb dX1_gearedRound_40 rfl (lv_at hl 5 rfl) ?_
    obtain ⟨r9, hcr9, h⟩ := og_bind h
    refine cp_s (va_runS (As := [.long r2, .long ((2 : Int64) * (ro.toInt64)), .int a3]) (rest := []) ⟨hx, hb, hml, hown, hts⟩ (k_X1_fraction l r2 ((2 : Int64) * (ro.toInt64)) a3 _ hcr9) (va_cwS 3 hts gX1_gearedRound_X1_fraction rfl rfl rfl (by decide +kernel) ⟨(Nat.le_of_ble_eq_true rfl), (Nat.le_of_ble_eq_true rfl)⟩) pre_s rfl rfl hl.1 rfl (lv_room (Nat.le_of_ble_eq_true rfl)) dX1_gearedRound_41 ⟨(Nat.zero_le _), (Nat.zero_le _)⟩) ?_
    obtain rfl := Option.some.inj h
    exact W.lret hx hb hr (fun t ht _ => ⟨rfl, ht⟩) (fun _ h9 => absurd h9 List.not_mem_nil) dX1_gearedRound_44
def f_X1_withPi (ro : Int32) (ar : Int32) (wh : Int32) : Option Int64 :=
  some ((((ar * ar) + (ro * ro)) + (((2 : Int32) * wh) * ro)).toInt64)
set_option maxHeartbeats 4000000 in
set_option maxRecDepth 100000 in
theorem k_X1_withPi (l : Launch) (D : va_G) (cI cF : ClassId) (o : Nat) (qf : Nat) (g : Nat → Nat) (ro : Int32) (rn : Int32) (tn : Int32) (fx : Int32) (fy : Int32) (ar : Int32) (wh : Int32) (r0 : Int64) (h : f_X1_withPi ro ar wh = some r0) : Met l yX1_withPi wsX1_withPi ({ frames := 0, cells := 0, slots := 0, locals := 0 }) (va_Pc [.ref o] (fun U => wN D cI cF (drW cF o qf g ro rn tn fx fy ar wh) U)) (qS (.long r0)) 0 0 (fun _ => False) := by
  refine Met.ofW (cc := cX1_withPi) (maxL := 1) (ret := (some .long)) (by decide) rfl ?_
  intro p e s m args below meth c s₁ B hml hv
  obtain ⟨rfl, hK, hnw, hP⟩ := hv
  have hx := B.exec
  have hb := B.bytes
  have hr := B.returns
  have hts := atoms_spec (ws := wsX1_withPi) B.pre
  have hown : s.vm.findClass RX1 = some m.cls := findClass_of_methodNamed B.named
  have hlocks := B.notSynchronized
  have ht1 := hts (.fieldLink RX1 32 "DrawnAreas" "armLength" "I") (by decide +kernel)
  have hinX1 : ∀ w ∈ u_ws RX1 TX1 8, w ∈ wsX1_withPi := by decide +kernel
  have ht3 := hts (.fieldLink RX1 16 "DrawnAreas" "rodLength" "I") (by decide +kernel)
  have ht4 := hts (.fieldLink RX1 35 "DrawnAreas" "wheelBeyond" "I") (by decide +kernel)
  have hnst : nst.before _ s = true := hnw.use (A := [.ref o].toArray) rfl
  have hl := lv_entry ([.ref o]) (n := 1) (Nat.le_of_ble_eq_true rfl)
  rw [lg_entry_eq]
  generalize (lg_sl ([.ref o]) ++ List.replicate (1 - (lg_sl ([.ref o])).length) Slot.unset).toArray = ls at hl ⊢
  have hl : lv_has ls 1 [(0, .ref o)] := hl
  unfold f_X1_withPi at h
  refine lv_aload_n hx hb dX1_withPi_0 rfl (lv_at hl 0 rfl) ?_
  refine va_get (D := D) (ci := 1) (v := .int ar) (C := RX1) (T := TX1) (N := 8) hx hb hts hinX1 hown hK hP 0 rfl rfl 6 (by decide) ht1 (fun _ h9 => h9) rfl dX1_withPi_1 ?_
  refine lv_aload_n hx hb dX1_withPi_4 rfl (lv_at hl 0 rfl) ?_
  refine va_get (D := D) (ci := 1) (v := .int ar) (C := RX1) (T := TX1) (N := 8) hx hb hts hinX1 hown hK hP 0 rfl rfl 6 (by decide) ht1 (fun _ h9 => h9) rfl dX1_withPi_5 ?_
  refine lv_imul hx hb dX1_withPi_8 ?_
  refine lv_aload_n hx hb dX1_withPi_9 rfl (lv_at hl 0 rfl) ?_
  refine va_get (D := D) (ci := 1) (v := .int ro) (C := RX1) (T := TX1) (N := 8) hx hb hts hinX1 hown hK hP 0 rfl rfl 1 (by decide) ht3 (fun _ h9 => h9) rfl dX1_withPi_10 ?_
  refine lv_aload_n hx hb dX1_withPi_13 rfl (lv_at hl 0 rfl) ?_
  refine va_get (D := D) (ci := 1) (v := .int ro) (C := RX1) (T := TX1) (N := 8) hx hb hts hinX1 hown hK hP 0 rfl rfl 1 (by decide) ht3 (fun _ h9 => h9) rfl dX1_withPi_14 ?_
  refine lv_imul hx hb dX1_withPi_17 ?_
  refine lv_iadd hx hb dX1_withPi_18 ?_
  refine lv_iconst (v := 2) hx hb dX1_withPi_19 (by decide) ?_
  refine lv_aload_n hx hb dX1_withPi_20 rfl (lv_at hl 0 rfl) ?_
  refine va_get (D := D) (ci := 1) (v := .int wh) (C := RX1) (T := TX1) (N := 8) hx hb hts hinX1 hown hK hP 0 rfl rfl 7 (by decide) ht4 (fun _ h9 => h9) rfl dX1_withPi_21 ?_
  refine lv_imul hx hb dX1_withPi_24 ?_
  refine lv_aload_n hx hb dX1_withPi_25 rfl (lv_at hl 0 rfl) ?_
  refine va_get (D := D) (ci := 1) (v := .int ro) (C := RX1) (T := TX1) (N := 8) hx hb hts hinX1 hown hK hP 0 rfl rfl 1 (by decide) ht3 (fun _ h9 => h9) rfl dX1_withPi_26 ?_
  refine lv_imul hx hb dX1_withPi_29 ?_
  refine lv_iadd hx hb dX1_withPi_30 ?_
  refine lv_i2l hx hb dX1_withPi_31 rfl ?_
  obtain rfl := Option.some.inj h
  exact W.lret hx hb hr (fun t ht _ => ⟨rfl, ht⟩) (fun _ h9 => absurd h9 List.not_mem_nil) dX1_withPi_32
def s_X1_beyondFolded_14 (fx : Int32) (fy : Int32) (xs : Nat → Int32) (ys : Nat → Int32) (n : Int32) (v1 : Int64) (u14 : Int32) : Option (Int32 ⊕ (Int32 ⊕ Unit)) :=
  if n ≤ u14 then
  (some (.inr (.inr ())))
  else
  ((f_X0_nearestAgainst xs ys n u14 fx fy (v1 * v1)).bind fun r3 =>
  if (0) < r3 then
  (ov (u14 + (1 : Int32)) fun v5 =>
  some (.inl v5))
  else
  (some (.inr (.inl (0 : Int32)))))
def f_X1_beyondFolded (ro : Int32) (fx : Int32) (fy : Int32) (ar : Int32) (xs : Nat → Int32) (ys : Nat → Int32) (n : Int32) : Option Int32 :=
  ov ((ar - ro).toInt64) fun v1 =>
  (lpf (s_X1_beyondFolded_14 fx fy xs ys n v1) 1000 (0 : Int32)).bind fun o7 => ret2 o7 (fun r9 => some r9) fun x6 =>
  some (1 : Int32)
set_option maxHeartbeats 4000000 in
set_option maxRecDepth 100000 in
theorem k_X1_beyondFolded (l : Launch) (D : va_G) (cI cF : ClassId) (o : Nat) (qf : Nat) (g : Nat → Nat) (ro : Int32) (rn : Int32) (tn : Int32) (fx : Int32) (fy : Int32) (ar : Int32) (wh : Int32) (q : Nat) (qx : Nat) (qy : Nat) (xs : Nat → Int32) (ys : Nat → Int32) (n : Int32) (r0 : Int32) (h : f_X1_beyondFolded ro fx fy ar xs ys n = some r0) : Met l yX1_beyondFolded wsX1_beyondFolded ({ frames := 3, cells := 0, slots := 0, locals := 86 }) (va_Pc [.ref o, .ref q] (fun U => wN D cI cF (drfW cI cF o qf g ro rn tn fx fy ar wh q qx qy xs ys n) U)) (qS (.int r0)) 0 0 (fun _ => False) := by
  refine Met.ofW (cc := cX1_beyondFolded) (maxL := 5) (ret := (some .boolean)) (by decide) rfl ?_
  intro p e s m args below meth c s₁ B hml hv
  obtain ⟨rfl, hK, hnw, hP⟩ := hv
  have hx := B.exec
  have hb := B.bytes
  have hr := B.returns
  have hts := atoms_spec (ws := wsX1_beyondFolded) B.pre
  have hown : s.vm.findClass RX1 = some m.cls := findClass_of_methodNamed B.named
  have hlocks := B.notSynchronized
  have ht1 := hts (.fieldLink RX1 32 "DrawnAreas" "armLength" "I") (by decide +kernel)
  have hinX1 : ∀ w ∈ u_ws RX1 TX1 8, w ∈ wsX1_beyondFolded := by decide +kernel
  have ht3 := hts (.fieldLink RX1 16 "DrawnAreas" "rodLength" "I") (by decide +kernel)
  have hinX0 : ∀ w ∈ u_ws RX0 TX0 3, w ∈ wsX1_beyondFolded := by decide +kernel
  have ht5 := hts (.fieldLink RX1 26 "DrawnAreas" "footX" "I") (by decide +kernel)
  have ht6 := hts (.fieldLink RX1 29 "DrawnAreas" "footY" "I") (by decide +kernel)
  have hnst : nst.before _ s = true := hnw.use (A := [.ref o, .ref q].toArray) rfl
  have hl := lv_entry ([.ref o, .ref q]) (n := 5) (Nat.le_of_ble_eq_true rfl)
  rw [lg_entry_eq]
  generalize (lg_sl ([.ref o, .ref q]) ++ List.replicate (5 - (lg_sl ([.ref o, .ref q])).length) Slot.unset).toArray = ls at hl ⊢
  have hl : lv_has ls 5 [(0, .ref o), (1, .ref q)] := hl
  unfold f_X1_beyondFolded at h
  refine lv_aload_n hx hb dX1_beyondFolded_0 rfl (lv_at hl 0 rfl) ?_
  refine va_get (D := D) (ci := 1) (v := .int ar) (C := RX1) (T := TX1) (N := 8) hx hb hts hinX1 hown hK hP 0 rfl rfl 6 (by decide) ht1 (fun _ h9 => h9) rfl dX1_beyondFolded_1 ?_
  refine lv_aload_n hx hb dX1_beyondFolded_4 rfl (lv_at hl 0 rfl) ?_
  refine va_get (D := D) (ci := 1) (v := .int ro) (C := RX1) (T := TX1) (N := 8) hx hb hts hinX1 hown hK hP 0 rfl rfl 1 (by decide) ht3 (fun _ h9 => h9) rfl dX1_beyondFolded_5 ?_
  refine lv_isub hx hb dX1_beyondFolded_8 ?_
  refine lv_i2l hx hb dX1_beyondFolded_9 rfl ?_
  refine lv_topl (fun v1 ev1 => ?_)
  have h := og_ov h ev1
  refine lv_lstore_n (lv' := [(2, .long v1), (0, .ref o), (1, .ref q)]) hx hb dX1_beyondFolded_10 rfl hl (by decide) rfl (fun ls hl => ?_)
  refine lv_iconst (v := 0) hx hb dX1_beyondFolded_11 (by decide) ?_
  refine lv_istore (lv' := [(4, .int (0 : Int32)), (2, .long v1), (0, .ref o), (1, .ref q)]) hx hb dX1_beyondFolded_12 hl (by decide) rfl (fun ls hl => ?_)
  obtain ⟨o7, hN14, h⟩ := og_bind h
  refine wlr (r0 := r0) hN14 14 51 (fun u14 ls => lv_has ls 5 [(0, .ref o), (1, .ref q), (2, .long v1), (4, .int u14)]) (fun x6 ls => lv_has ls 5 []) (fun u14 xx h ki14 kx14 kr14 ls hl => ?_) (fun r9 e9 => ?_) (fun x6 ls e9 hl => ?_) (lv_sub hl [2, 3, 1, 0] rfl)
  · unfold s_X1_beyondFolded_14 at h
    refine lv_iload hx hb dX1_beyondFolded_14 (lv_at hl 3 rfl) ?_
    refine lv_aload_n hx hb dX1_beyondFolded_16 rfl (lv_at hl 1 rfl) ?_
    refine va_getN (D := D) (ci := 0) (v := .int n) (C := RX0) (T := TX0) (N := 3) hx hb hts hinX0 hown hK hP 2 rfl rfl 2 (by decide) hnst (fun _ h9 => h9) rfl dX1_beyondFolded_17 ?_
    refine lv_icmp_ge (tgt := 51) hx hb dX1_beyondFolded_20 (by decide) (fun c1 => ?_) (fun c1 => ?_)
    · rw [if_pos c1] at h
      exact kx14 _ ls (Option.some.inj h).symm (lv_sub hl [] rfl)
    · rw [if_neg c1] at h
      refine lv_aload_n hx hb dX1_beyondFolded_23 rfl (lv_at hl 1 rfl) ?_
      refine lv_iload hx hb dX1_beyondFolded_24 (lv_at hl 3 rfl) ?_
      refine lv_aload_n hx hb dX1_beyondFolded_26 rfl (lv_at hl 0 rfl) ?_
      refine va_get (D := D) (ci := 1) (v := .int fx) (C := RX1) (T := TX1) (N := 8) hx hb hts hinX1 hown hK hP 0 rfl rfl 4 (by decide) ht5 (fun _ h9 => h9) rfl dX1_beyondFolded_27 ?_
      refine lv_aload_n hx hb dX1_beyondFolded_30 rfl (lv_at hl 0 rfl) ?_
      refine va_get (D := D) (ci := 1) (v := .int fy) (C := RX1) (T := TX1) (N := 8) hx hb hts hinX1 hown hK hP 0 rfl rfl 5 (by decide) ht6 (fun _ h9 => h9) rfl dX1_beyondFolded_31 ?_
      refine lv_lload_n hx hb dX1_beyondFolded_34 rfl (lv_at hl 2 rfl) ?_
      refine lv_lload_n hx hb dX1_beyondFolded_35 rfl (lv_at hl 2 rfl) ?_
      refine lv_lmul hx hb dX1_beyondFolded_36 ?_
      have hPc := hP.sub (ws' := figW cI q qx qy xs ys n) [2, 3, 4] rfl
      obtain ⟨r3, hcr3, h⟩ := og_bind h
      refine cp_s (va_runV (As := [.int u14, .int fx, .int fy, .long (v1 * v1)]) (rest := []) ⟨hx, hb, hml, hown, hts⟩ (k_X0_nearestAgainst l D cI cF q qx qy xs ys n u14 fx fy (v1 * v1) _ hcr3) (cwV 4 hts gX1_beyondFolded_X0_nearestAgainst rfl rfl rfl (by decide +kernel) ⟨(Nat.le_of_ble_eq_true rfl), (Nat.le_of_ble_eq_true rfl)⟩) (pre_v (q0 := 0) (ci := 0) hK hPc rfl rfl) rfl rfl hl.1 rfl (lv_room (Nat.le_of_ble_eq_true rfl)) dX1_beyondFolded_37 ⟨(Nat.zero_le _), (Nat.zero_le _)⟩) ?_
      refine lv_if_gt (tgt := 45) hx hb dX1_beyondFolded_40 (by decide) (fun c3 => ?_) (fun c3 => ?_)
      · rw [if_pos c3] at h
        obtain ⟨v5, ev5⟩ : ∃ y : Int32, y = u14 + (1 : Int32) := ⟨_, rfl⟩
        have h := og_ov h ev5
        refine lv_iinc (v := v5) (lv' := [(4, .int v5), (0, .ref o), (1, .ref q), (2, .long v1)]) hx hb dX1_beyondFolded_45 hl (k := 3) rfl (by rw [ev5]; rfl) (by decide) rfl (fun ls hl => ?_)
        refine lv_goto (tgt := 14) hx hb dX1_beyondFolded_48 (by decide) ?_
        exact ki14 _ ls (Option.some.inj h).symm (lv_sub hl [1, 2, 3, 0] rfl)
      · rw [if_neg c3] at h
        refine lv_iconst (v := 0) hx hb dX1_beyondFolded_43 (by decide) ?_
        obtain rfl := kr14 _ (Option.some.inj h).symm
        exact W.zret hx hb hr rfl (fun t ht _ => ⟨rfl, ht⟩) (fun _ h9 => absurd h9 List.not_mem_nil) dX1_beyondFolded_44
  · subst e9
    exact Option.some.inj h
  · subst e9
    dsimp only [ret2] at h
    refine lv_iconst (v := 1) hx hb dX1_beyondFolded_51 (by decide) ?_
    obtain rfl := Option.some.inj h
    exact W.zret hx hb hr rfl (fun t ht _ => ⟨rfl, ht⟩) (fun _ h9 => absurd h9 List.not_mem_nil) dX1_beyondFolded_52
def s_X1_withinStretched_14 (fx : Int32) (fy : Int32) (xs : Nat → Int32) (ys : Nat → Int32) (n : Int32) (v1 : Int64) (u14 : Int32) : Option (Int32 ⊕ (Int32 ⊕ Unit)) :=
  if n ≤ u14 then
  (some (.inr (.inr ())))
  else
  ((f_X0_squareTo xs ys u14 (fx.toInt64) (fy.toInt64)).bind fun r3 =>
  if (lg_cmp r3 (v1 * v1)) < (0) then
  (ov (u14 + (1 : Int32)) fun v5 =>
  some (.inl v5))
  else
  (some (.inr (.inl (0 : Int32)))))
def f_X1_withinStretched (ro : Int32) (fx : Int32) (fy : Int32) (ar : Int32) (xs : Nat → Int32) (ys : Nat → Int32) (n : Int32) : Option Int32 :=
  ov ((ar + ro).toInt64) fun v1 =>
  (lpf (s_X1_withinStretched_14 fx fy xs ys n v1) 1000 (0 : Int32)).bind fun o7 => ret2 o7 (fun r9 => some r9) fun x6 =>
  some (1 : Int32)
set_option maxHeartbeats 4000000 in
set_option maxRecDepth 100000 in
theorem k_X1_withinStretched (l : Launch) (D : va_G) (cI cF : ClassId) (o : Nat) (qf : Nat) (g : Nat → Nat) (ro : Int32) (rn : Int32) (tn : Int32) (fx : Int32) (fy : Int32) (ar : Int32) (wh : Int32) (q : Nat) (qx : Nat) (qy : Nat) (xs : Nat → Int32) (ys : Nat → Int32) (n : Int32) (r0 : Int32) (h : f_X1_withinStretched ro fx fy ar xs ys n = some r0) : Met l yX1_withinStretched wsX1_withinStretched ({ frames := 2, cells := 0, slots := 0, locals := 50 }) (va_Pc [.ref o, .ref q] (fun U => wN D cI cF (drfW cI cF o qf g ro rn tn fx fy ar wh q qx qy xs ys n) U)) (qS (.int r0)) 0 0 (fun _ => False) := by
  refine Met.ofW (cc := cX1_withinStretched) (maxL := 5) (ret := (some .boolean)) (by decide) rfl ?_
  intro p e s m args below meth c s₁ B hml hv
  obtain ⟨rfl, hK, hnw, hP⟩ := hv
  have hx := B.exec
  have hb := B.bytes
  have hr := B.returns
  have hts := atoms_spec (ws := wsX1_withinStretched) B.pre
  have hown : s.vm.findClass RX1 = some m.cls := findClass_of_methodNamed B.named
  have hlocks := B.notSynchronized
  have ht1 := hts (.fieldLink RX1 32 "DrawnAreas" "armLength" "I") (by decide +kernel)
  have hinX1 : ∀ w ∈ u_ws RX1 TX1 8, w ∈ wsX1_withinStretched := by decide +kernel
  have ht3 := hts (.fieldLink RX1 16 "DrawnAreas" "rodLength" "I") (by decide +kernel)
  have hinX0 : ∀ w ∈ u_ws RX0 TX0 3, w ∈ wsX1_withinStretched := by decide +kernel
  have ht5 := hts (.fieldLink RX1 26 "DrawnAreas" "footX" "I") (by decide +kernel)
  have ht6 := hts (.fieldLink RX1 29 "DrawnAreas" "footY" "I") (by decide +kernel)
  have hnst : nst.before _ s = true := hnw.use (A := [.ref o, .ref q].toArray) rfl
  have hl := lv_entry ([.ref o, .ref q]) (n := 5) (Nat.le_of_ble_eq_true rfl)
  rw [lg_entry_eq]
  generalize (lg_sl ([.ref o, .ref q]) ++ List.replicate (5 - (lg_sl ([.ref o, .ref q])).length) Slot.unset).toArray = ls at hl ⊢
  have hl : lv_has ls 5 [(0, .ref o), (1, .ref q)] := hl
  unfold f_X1_withinStretched at h
  refine lv_aload_n hx hb dX1_withinStretched_0 rfl (lv_at hl 0 rfl) ?_
  refine va_get (D := D) (ci := 1) (v := .int ar) (C := RX1) (T := TX1) (N := 8) hx hb hts hinX1 hown hK hP 0 rfl rfl 6 (by decide) ht1 (fun _ h9 => h9) rfl dX1_withinStretched_1 ?_
  refine lv_aload_n hx hb dX1_withinStretched_4 rfl (lv_at hl 0 rfl) ?_
  refine va_get (D := D) (ci := 1) (v := .int ro) (C := RX1) (T := TX1) (N := 8) hx hb hts hinX1 hown hK hP 0 rfl rfl 1 (by decide) ht3 (fun _ h9 => h9) rfl dX1_withinStretched_5 ?_
  refine lv_iadd hx hb dX1_withinStretched_8 ?_
  refine lv_i2l hx hb dX1_withinStretched_9 rfl ?_
  refine lv_topl (fun v1 ev1 => ?_)
  have h := og_ov h ev1
  refine lv_lstore_n (lv' := [(2, .long v1), (0, .ref o), (1, .ref q)]) hx hb dX1_withinStretched_10 rfl hl (by decide) rfl (fun ls hl => ?_)
  refine lv_iconst (v := 0) hx hb dX1_withinStretched_11 (by decide) ?_
  refine lv_istore (lv' := [(4, .int (0 : Int32)), (2, .long v1), (0, .ref o), (1, .ref q)]) hx hb dX1_withinStretched_12 hl (by decide) rfl (fun ls hl => ?_)
  obtain ⟨o7, hN14, h⟩ := og_bind h
  refine wlr (r0 := r0) hN14 14 54 (fun u14 ls => lv_has ls 5 [(0, .ref o), (1, .ref q), (2, .long v1), (4, .int u14)]) (fun x6 ls => lv_has ls 5 []) (fun u14 xx h ki14 kx14 kr14 ls hl => ?_) (fun r9 e9 => ?_) (fun x6 ls e9 hl => ?_) (lv_sub hl [2, 3, 1, 0] rfl)
  · unfold s_X1_withinStretched_14 at h
    refine lv_iload hx hb dX1_withinStretched_14 (lv_at hl 3 rfl) ?_
    refine lv_aload_n hx hb dX1_withinStretched_16 rfl (lv_at hl 1 rfl) ?_
    refine va_getN (D := D) (ci := 0) (v := .int n) (C := RX0) (T := TX0) (N := 3) hx hb hts hinX0 hown hK hP 2 rfl rfl 2 (by decide) hnst (fun _ h9 => h9) rfl dX1_withinStretched_17 ?_
    refine lv_icmp_ge (tgt := 54) hx hb dX1_withinStretched_20 (by decide) (fun c1 => ?_) (fun c1 => ?_)
    · rw [if_pos c1] at h
      exact kx14 _ ls (Option.some.inj h).symm (lv_sub hl [] rfl)
    · rw [if_neg c1] at h
      refine lv_aload_n hx hb dX1_withinStretched_23 rfl (lv_at hl 1 rfl) ?_
      refine lv_iload hx hb dX1_withinStretched_24 (lv_at hl 3 rfl) ?_
      refine lv_aload_n hx hb dX1_withinStretched_26 rfl (lv_at hl 0 rfl) ?_
      refine va_get (D := D) (ci := 1) (v := .int fx) (C := RX1) (T := TX1) (N := 8) hx hb hts hinX1 hown hK hP 0 rfl rfl 4 (by decide) ht5 (fun _ h9 => h9) rfl dX1_withinStretched_27 ?_
      refine lv_i2l hx hb dX1_withinStretched_30 rfl ?_
      refine lv_aload_n hx hb dX1_withinStretched_31 rfl (lv_at hl 0 rfl) ?_
      refine va_get (D := D) (ci := 1) (v := .int fy) (C := RX1) (T := TX1) (N := 8) hx hb hts hinX1 hown hK hP 0 rfl rfl 5 (by decide) ht6 (fun _ h9 => h9) rfl dX1_withinStretched_32 ?_
      refine lv_i2l hx hb dX1_withinStretched_35 rfl ?_
      have hPc := hP.sub (ws' := figW cI q qx qy xs ys n) [2, 3, 4] rfl
      obtain ⟨r3, hcr3, h⟩ := og_bind h
      refine cp_s (va_runV (As := [.int u14, .long (fx.toInt64), .long (fy.toInt64)]) (rest := []) ⟨hx, hb, hml, hown, hts⟩ (k_X0_squareTo l D cI cF q qx qy xs ys n u14 (fx.toInt64) (fy.toInt64) _ hcr3) (cwV 3 hts gX1_withinStretched_X0_squareTo rfl rfl rfl (by decide +kernel) ⟨(Nat.le_of_ble_eq_true rfl), (Nat.le_of_ble_eq_true rfl)⟩) (pre_v (q0 := 0) (ci := 0) hK hPc rfl rfl) rfl rfl hl.1 rfl (lv_room (Nat.le_of_ble_eq_true rfl)) dX1_withinStretched_36 ⟨(Nat.zero_le _), (Nat.zero_le _)⟩) ?_
      refine lv_lload_n hx hb dX1_withinStretched_39 rfl (lv_at hl 2 rfl) ?_
      refine lv_lload_n hx hb dX1_withinStretched_40 rfl (lv_at hl 2 rfl) ?_
      refine lv_lmul hx hb dX1_withinStretched_41 ?_
      refine W.lcmp hx hb dX1_withinStretched_42 ?_
      refine lv_if_lt (tgt := 48) hx hb dX1_withinStretched_43 (by decide) (fun c3 => ?_) (fun c3 => ?_)
      · rw [if_pos c3] at h
        obtain ⟨v5, ev5⟩ : ∃ y : Int32, y = u14 + (1 : Int32) := ⟨_, rfl⟩
        have h := og_ov h ev5
        refine lv_iinc (v := v5) (lv' := [(4, .int v5), (0, .ref o), (1, .ref q), (2, .long v1)]) hx hb dX1_withinStretched_48 hl (k := 3) rfl (by rw [ev5]; rfl) (by decide) rfl (fun ls hl => ?_)
        refine lv_goto (tgt := 14) hx hb dX1_withinStretched_51 (by decide) ?_
        exact ki14 _ ls (Option.some.inj h).symm (lv_sub hl [1, 2, 3, 0] rfl)
      · rw [if_neg c3] at h
        refine lv_iconst (v := 0) hx hb dX1_withinStretched_46 (by decide) ?_
        obtain rfl := kr14 _ (Option.some.inj h).symm
        exact W.zret hx hb hr rfl (fun t ht _ => ⟨rfl, ht⟩) (fun _ h9 => absurd h9 List.not_mem_nil) dX1_withinStretched_47
  · subst e9
    exact Option.some.inj h
  · subst e9
    dsimp only [ret2] at h
    refine lv_iconst (v := 1) hx hb dX1_withinStretched_54 (by decide) ?_
    obtain rfl := Option.some.inj h
    exact W.zret hx hb hr rfl (fun t ht _ => ⟨rfl, ht⟩) (fun _ h9 => absurd h9 List.not_mem_nil) dX1_withinStretched_55
