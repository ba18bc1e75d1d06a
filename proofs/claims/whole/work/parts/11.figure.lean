def s_X0_carries_2 (xs : Nat → Int32) (ys : Nat → Int32) (n : Int32) (a1 : Int32) (a2 : Int32) (u2 : Int32) : Option (Int32 ⊕ (Int32 ⊕ Unit)) :=
  if n ≤ u2 then
  (some (.inr (.inr ())))
  else
  ((f_X0_sideCarries xs ys n u2 a1 a2).bind fun r2 =>
  if r2 = (0) then
  (ov (u2 + (1 : Int32)) fun v4 =>
  some (.inl v4))
  else
  (some (.inr (.inl (1 : Int32)))))
def f_X0_carries (xs : Nat → Int32) (ys : Nat → Int32) (n : Int32) (a1 : Int32) (a2 : Int32) : Option Int32 :=
  (lpf (s_X0_carries_2 xs ys n a1 a2) 1000 (0 : Int32)).bind fun o6 => ret2 o6 (fun r9 => some r9) fun x5 =>
  some (0 : Int32)
set_option maxHeartbeats 4000000 in
set_option maxRecDepth 100000 in
theorem k_X0_carries (l : Launch) (D : va_G) (cI cF : ClassId) (q : Nat) (qx : Nat) (qy : Nat) (xs : Nat → Int32) (ys : Nat → Int32) (n : Int32) (a1 : Int32) (a2 : Int32) (r0 : Int32) (h : f_X0_carries xs ys n a1 a2 = some r0) : Met l yX0_carries wsX0_carries ({ frames := 3, cells := 0, slots := 0, locals := 71 }) (va_Pc [.ref q, .int a1, .int a2] (fun U => wK D cI cF (figW cI q qx qy xs ys n) U)) (qS (.int r0)) 0 0 (fun _ => False) := by
  refine Met.ofW (cc := cX0_carries) (maxL := 4) (ret := (some .boolean)) (by decide) rfl ?_
  intro p e s m args below meth c s₁ B hml hv
  obtain ⟨rfl, hK, hP⟩ := hv
  have hx := B.exec
  have hb := B.bytes
  have hr := B.returns
  have hts := atoms_spec (ws := wsX0_carries) B.pre
  have hown : s.vm.findClass RX0 = some m.cls := findClass_of_methodNamed B.named
  have hlocks := B.notSynchronized
  have ht1 := hts (.fieldLink RX0 18 "DrawnAreas$Figure" "size" "I") (by decide +kernel)
  have hinX0 : ∀ w ∈ u_ws RX0 TX0 3, w ∈ wsX0_carries := by decide +kernel
  have hl := lv_entry ([.ref q, .int a1, .int a2]) (n := 4) (Nat.le_of_ble_eq_true rfl)
  rw [lg_entry_eq]
  generalize (lg_sl ([.ref q, .int a1, .int a2]) ++ List.replicate (4 - (lg_sl ([.ref q, .int a1, .int a2])).length) Slot.unset).toArray = ls at hl ⊢
  have hl : lv_has ls 4 [(0, .ref q), (1, .int a1), (2, .int a2)] := hl
  unfold f_X0_carries at h
  refine lv_iconst (v := 0) hx hb dX0_carries_0 (by decide) ?_
  refine lv_istore_n (lv' := [(3, .int (0 : Int32)), (0, .ref q), (1, .int a1), (2, .int a2)]) hx hb dX0_carries_1 rfl hl (by decide) rfl (fun ls hl => ?_)
  obtain ⟨o6, hN2, h⟩ := og_bind h
  refine wlr (r0 := r0) hN2 2 28 (fun u2 ls => lv_has ls 4 [(0, .ref q), (1, .int a1), (2, .int a2), (3, .int u2)]) (fun x5 ls => lv_has ls 4 []) (fun u2 xx h ki2 kx2 kr2 ls hl => ?_) (fun r9 e9 => ?_) (fun x5 ls e9 hl => ?_) (lv_sub hl [1, 2, 3, 0] rfl)
  · unfold s_X0_carries_2 at h
    refine lv_iload_n hx hb dX0_carries_2 rfl (lv_at hl 3 rfl) ?_
    refine lv_aload_n hx hb dX0_carries_3 rfl (lv_at hl 0 rfl) ?_
    refine va_get (D := D) (ci := 0) (v := .int n) (C := RX0) (T := TX0) (N := 3) hx hb hts hinX0 hown hK hP 0 rfl rfl 2 (by decide) ht1 (fun _ h9 => h9) rfl dX0_carries_4 ?_
    refine lv_icmp_ge (tgt := 28) hx hb dX0_carries_7 (by decide) (fun c0 => ?_) (fun c0 => ?_)
    · rw [if_pos c0] at h
      exact kx2 _ ls (Option.some.inj h).symm (lv_sub hl [] rfl)
    · rw [if_neg c0] at h
      refine lv_aload_n hx hb dX0_carries_10 rfl (lv_at hl 0 rfl) ?_
      refine lv_iload_n hx hb dX0_carries_11 rfl (lv_at hl 3 rfl) ?_
      refine lv_iload_n hx hb dX0_carries_12 rfl (lv_at hl 1 rfl) ?_
      refine lv_iload_n hx hb dX0_carries_13 rfl (lv_at hl 2 rfl) ?_
      obtain ⟨r2, hcr2, h⟩ := og_bind h
      refine cp_s (va_runV (As := [.int u2, .int a1, .int a2]) (rest := []) ⟨hx, hb, hml, hown, hts⟩ (k_X0_sideCarries l D cI cF q qx qy xs ys n u2 a1 a2 _ hcr2) (cwV 3 hts gX0_carries_X0_sideCarries rfl rfl rfl (by decide +kernel) ⟨(Nat.le_of_ble_eq_true rfl), (Nat.le_of_ble_eq_true rfl)⟩) (pre_v (q0 := 0) (ci := 0) hK hP rfl rfl) rfl rfl hl.1 rfl (lv_room (Nat.le_of_ble_eq_true rfl)) dX0_carries_14 ⟨(Nat.zero_le _), (Nat.zero_le _)⟩) ?_
      refine lv_if_eq (tgt := 22) hx hb dX0_carries_17 (by decide) (fun c2 => ?_) (fun c2 => ?_)
      · rw [if_pos c2] at h
        obtain ⟨v4, ev4⟩ : ∃ y : Int32, y = u2 + (1 : Int32) := ⟨_, rfl⟩
        have h := og_ov h ev4
        refine lv_iinc (v := v4) (lv' := [(3, .int v4), (0, .ref q), (1, .int a1), (2, .int a2)]) hx hb dX0_carries_22 hl (k := 3) rfl (by rw [ev4]; rfl) (by decide) rfl (fun ls hl => ?_)
        refine lv_goto (tgt := 2) hx hb dX0_carries_25 (by decide) ?_
        exact ki2 _ ls (Option.some.inj h).symm (lv_sub hl [1, 2, 3, 0] rfl)
      · rw [if_neg c2] at h
        refine lv_iconst (v := 1) hx hb dX0_carries_20 (by decide) ?_
        obtain rfl := kr2 _ (Option.some.inj h).symm
        exact W.zret hx hb hr rfl (fun t ht _ => ⟨rfl, ht⟩) (fun _ h9 => absurd h9 List.not_mem_nil) dX0_carries_21
  · subst e9
    exact Option.some.inj h
  · subst e9
    dsimp only [ret2] at h
    refine lv_iconst (v := 0) hx hb dX0_carries_28 (by decide) ?_
    obtain rfl := Option.some.inj h
    exact W.zret hx hb hr rfl (fun t ht _ => ⟨rfl, ht⟩) (fun _ h9 => absurd h9 List.not_mem_nil) dX0_carries_29
def s_X0_turnsRound_5 (xs : Nat → Int32) (ys : Nat → Int32) (n : Int32) (a1 : Int32) (a2 : Int32) (u5 : (Int32 × Int32)) : Option ((Int32 × Int32) ⊕ Int32) :=
  if n ≤ u5.2 then
  (some (.inr u5.1))
  else
  ((f_X0_y ys u5.2).bind fun r2 =>
  (if r2 ≤ a2 then
  (some ((0 : Int32)))
  else
  (some ((1 : Int32)))).bind fun mv3 =>
  (f_X0_next n u5.2).bind fun r4 =>
  (f_X0_y ys r4).bind fun r5 =>
  (if r5 ≤ a2 then
  (some ((0 : Int32)))
  else
  (some ((1 : Int32)))).bind fun mv6 =>
  (f_X0_leftOf xs ys n u5.2 (a1.toInt64) (a2.toInt64)).bind fun r7 =>
  (if mv3 = (0) then
  (if mv6 = (0) then
  (some (u5.1))
  else
  (if (lg_cmp r7 (0 : Int64)) ≤ (0) then
  (some (u5.1))
  else
  (ov (u5.1 + (1 : Int32)) fun v20 =>
  some (v20))))
  else
  (some (u5.1))).bind fun mv8 =>
  if mv3 = (0) then
  (ov (u5.2 + (1 : Int32)) fun v10 =>
  some (.inl (mv8, v10)))
  else
  (if mv6 = (0) then
  (if (0) ≤ (lg_cmp r7 (0 : Int64)) then
  (ov (u5.2 + (1 : Int32)) fun v14 =>
  some (.inl (mv8, v14)))
  else
  (ov (mv8 + (-1 : Int32)) fun v15 =>
  ov (u5.2 + (1 : Int32)) fun v16 =>
  some (.inl (v15, v16))))
  else
  (ov (u5.2 + (1 : Int32)) fun v12 =>
  some (.inl (mv8, v12)))))
def f_X0_turnsRound (xs : Nat → Int32) (ys : Nat → Int32) (n : Int32) (a1 : Int32) (a2 : Int32) : Option Int32 :=
  (lpf (s_X0_turnsRound_5 xs ys n a1 a2) 1000 ((0 : Int32), (0 : Int32))).bind fun x23 =>
  some x23
set_option maxHeartbeats 4000000 in
set_option maxRecDepth 100000 in
theorem k_X0_turnsRound (l : Launch) (D : va_G) (cI cF : ClassId) (q : Nat) (qx : Nat) (qy : Nat) (xs : Nat → Int32) (ys : Nat → Int32) (n : Int32) (a1 : Int32) (a2 : Int32) (r0 : Int32) (h : f_X0_turnsRound xs ys n a1 a2 = some r0) : Met l yX0_turnsRound wsX0_turnsRound ({ frames := 2, cells := 0, slots := 0, locals := 47 }) (va_Pc [.ref q, .int a1, .int a2] (fun U => wK D cI cF (figW cI q qx qy xs ys n) U)) (qS (.int r0)) 0 0 (fun _ => False) := by
  refine Met.ofW (cc := cX0_turnsRound) (maxL := 9) (ret := (some .int)) (by decide) rfl ?_
  intro p e s m args below meth c s₁ B hml hv
  obtain ⟨rfl, hK, hP⟩ := hv
  have hx := B.exec
  have hb := B.bytes
  have hr := B.returns
  have hts := atoms_spec (ws := wsX0_turnsRound) B.pre
  have hown : s.vm.findClass RX0 = some m.cls := findClass_of_methodNamed B.named
  have hlocks := B.notSynchronized
  have ht1 := hts (.fieldLink RX0 18 "DrawnAreas$Figure" "size" "I") (by decide +kernel)
  have hinX0 : ∀ w ∈ u_ws RX0 TX0 3, w ∈ wsX0_turnsRound := by decide +kernel
  have hl := lv_entry ([.ref q, .int a1, .int a2]) (n := 9) (Nat.le_of_ble_eq_true rfl)
  rw [lg_entry_eq]
  generalize (lg_sl ([.ref q, .int a1, .int a2]) ++ List.replicate (9 - (lg_sl ([.ref q, .int a1, .int a2])).length) Slot.unset).toArray = ls at hl ⊢
  have hl : lv_has ls 9 [(0, .ref q), (1, .int a1), (2, .int a2)] := hl
  unfold f_X0_turnsRound at h
  refine lv_iconst (v := 0) hx hb dX0_turnsRound_0 (by decide) ?_
  refine lv_istore_n (lv' := [(3, .int (0 : Int32)), (0, .ref q), (1, .int a1), (2, .int a2)]) hx hb dX0_turnsRound_1 rfl hl (by decide) rfl (fun ls hl => ?_)
  refine lv_iconst (v := 0) hx hb dX0_turnsRound_2 (by decide) ?_
  refine lv_istore (lv' := [(4, .int (0 : Int32)), (3, .int (0 : Int32)), (0, .ref q), (1, .int a1), (2, .int a2)]) hx hb dX0_turnsRound_3 hl (by decide) rfl (fun ls hl => ?_)
  obtain ⟨x23, hN5, h⟩ := og_bind h
  refine wl hN5 5 110 (fun u5 ls => lv_has ls 9 [(0, .ref q), (1, .int a1), (2, .int a2), (3, .int u5.1), (4, .int u5.2)]) (fun x23 ls => lv_has ls 9 [(3, .int x23)]) (fun u5 xx h ki5 kx5 ls hl => ?_) (fun ls hl => ?_) (lv_sub hl [2, 3, 4, 1, 0] rfl)
  · unfold s_X0_turnsRound_5 at h
    refine lv_iload hx hb dX0_turnsRound_5 (lv_at hl 4 rfl) ?_
    refine lv_aload_n hx hb dX0_turnsRound_7 rfl (lv_at hl 0 rfl) ?_
    refine va_get (D := D) (ci := 0) (v := .int n) (C := RX0) (T := TX0) (N := 3) hx hb hts hinX0 hown hK hP 0 rfl rfl 2 (by decide) ht1 (fun _ h9 => h9) rfl dX0_turnsRound_8 ?_
    refine lv_icmp_ge (tgt := 110) hx hb dX0_turnsRound_11 (by decide) (fun c0 => ?_) (fun c0 => ?_)
    · rw [if_pos c0] at h
      exact kx5 _ ls (Option.some.inj h).symm (lv_sub hl [3] rfl)
    · rw [if_neg c0] at h
      refine lv_aload_n hx hb dX0_turnsRound_14 rfl (lv_at hl 0 rfl) ?_
      refine lv_iload hx hb dX0_turnsRound_15 (lv_at hl 4 rfl) ?_
      obtain ⟨r2, hcr2, h⟩ := og_bind h
      refine cp_s (va_runV (As := [.int u5.2]) (rest := []) ⟨hx, hb, hml, hown, hts⟩ (k_X0_y l D cI cF q qx qy xs ys n u5.2 _ hcr2) (cwV 1 hts gX0_turnsRound_X0_y rfl rfl rfl (by decide +kernel) ⟨(Nat.le_of_ble_eq_true rfl), (Nat.le_of_ble_eq_true rfl)⟩) (pre_v (q0 := 0) (ci := 0) hK hP rfl rfl) rfl rfl hl.1 rfl (lv_room (Nat.le_of_ble_eq_true rfl)) dX0_turnsRound_17 ⟨(Nat.zero_le _), (Nat.zero_le _)⟩) ?_
      refine lv_iload_n hx hb dX0_turnsRound_20 rfl (lv_at hl 2 rfl) ?_
      obtain ⟨mv3, hm29, h⟩ := og_bind h
      refine wj (PC := 29) (ST := [.int mv3]) (fun ls => lv_has ls 9 [(0, .ref q), (1, .int a1), (2, .int a2), (3, .int u5.1), (4, .int u5.2)]) (fun ls hl => ?_) (fun KJ29 => ?_)
      · refine lv_istore (lv' := [(5, .int mv3), (0, .ref q), (1, .int a1), (2, .int a2), (3, .int u5.1), (4, .int u5.2)]) hx hb dX0_turnsRound_29 hl (by decide) rfl (fun ls hl => ?_)
        refine lv_aload_n hx hb dX0_turnsRound_31 rfl (lv_at hl 1 rfl) ?_
        refine lv_aload_n hx hb dX0_turnsRound_32 rfl (lv_at hl 1 rfl) ?_
        refine lv_iload hx hb dX0_turnsRound_33 (lv_at hl 5 rfl) ?_
        obtain ⟨r4, hcr4, h⟩ := og_bind h
        refine cp_s (va_runV (As := [.int u5.2]) (rest := [.ref q]) ⟨hx, hb, hml, hown, hts⟩ (k_X0_next l D cI cF q qx qy xs ys n u5.2 _ hcr4) (cwV 1 hts gX0_turnsRound_X0_next rfl rfl rfl (by decide +kernel) ⟨(Nat.le_of_ble_eq_true rfl), (Nat.le_of_ble_eq_true rfl)⟩) (pre_v (q0 := 0) (ci := 0) hK hP rfl rfl) rfl rfl hl.1 rfl (lv_room (Nat.le_of_ble_eq_true rfl)) dX0_turnsRound_35 ⟨(Nat.zero_le _), (Nat.zero_le _)⟩) ?_
        obtain ⟨r5, hcr5, h⟩ := og_bind h
        refine cp_s (va_runV (As := [.int r4]) (rest := []) ⟨hx, hb, hml, hown, hts⟩ (k_X0_y l D cI cF q qx qy xs ys n r4 _ hcr5) (cwV 1 hts gX0_turnsRound_X0_y rfl rfl rfl (by decide +kernel) ⟨(Nat.le_of_ble_eq_true rfl), (Nat.le_of_ble_eq_true rfl)⟩) (pre_v (q0 := 0) (ci := 0) hK hP rfl rfl) rfl rfl hl.1 rfl (lv_room (Nat.le_of_ble_eq_true rfl)) dX0_turnsRound_38 ⟨(Nat.zero_le _), (Nat.zero_le _)⟩) ?_
        refine lv_iload_n hx hb dX0_turnsRound_41 rfl (lv_at hl 3 rfl) ?_
        obtain ⟨mv6, hm50, h⟩ := og_bind h
        refine wj (PC := 50) (ST := [.int mv6]) (fun ls => lv_has ls 9 [(0, .ref q), (1, .int a1), (2, .int a2), (3, .int u5.1), (4, .int u5.2), (5, .int mv3)]) (fun ls hl => ?_) (fun KJ50 => ?_)
        · refine lv_istore (lv' := [(6, .int mv6), (0, .ref q), (1, .int a1), (2, .int a2), (3, .int u5.1), (4, .int u5.2), (5, .int mv3)]) hx hb dX0_turnsRound_50 hl (by decide) rfl (fun ls hl => ?_)
          refine lv_aload_n hx hb dX0_turnsRound_52 rfl (lv_at hl 1 rfl) ?_
          refine lv_iload hx hb dX0_turnsRound_53 (lv_at hl 5 rfl) ?_
          refine lv_iload_n hx hb dX0_turnsRound_55 rfl (lv_at hl 2 rfl) ?_
          refine lv_i2l hx hb dX0_turnsRound_56 rfl ?_
          refine lv_iload_n hx hb dX0_turnsRound_57 rfl (lv_at hl 3 rfl) ?_
          refine lv_i2l hx hb dX0_turnsRound_58 rfl ?_
          obtain ⟨r7, hcr7, h⟩ := og_bind h
          refine cp_s (va_runV (As := [.int u5.2, .long (a1.toInt64), .long (a2.toInt64)]) (rest := []) ⟨hx, hb, hml, hown, hts⟩ (k_X0_leftOf l D cI cF q qx qy xs ys n u5.2 (a1.toInt64) (a2.toInt64) _ hcr7) (cwV 3 hts gX0_turnsRound_X0_leftOf rfl rfl rfl (by decide +kernel) ⟨(Nat.le_of_ble_eq_true rfl), (Nat.le_of_ble_eq_true rfl)⟩) (pre_v (q0 := 0) (ci := 0) hK hP rfl rfl) rfl rfl hl.1 rfl (lv_room (Nat.le_of_ble_eq_true rfl)) dX0_turnsRound_59 ⟨(Nat.zero_le _), (Nat.zero_le _)⟩) ?_
          refine lv_lstore (lv' := [(7, .long r7), (6, .int mv6), (0, .ref q), (1, .int a1), (2, .int a2), (3, .int u5.1), (4, .int u5.2), (5, .int mv3)]) hx hb dX0_turnsRound_62 hl (by decide) rfl (fun ls hl => ?_)
          refine lv_iload hx hb dX0_turnsRound_64 (lv_at hl 7 rfl) ?_
          obtain ⟨mv8, hm84, h⟩ := og_bind h
          refine wj (PC := 84) (ST := []) (fun ls => lv_has ls 9 [(0, .ref q), (1, .int a1), (2, .int a2), (3, .int mv8), (4, .int u5.2), (5, .int mv3), (6, .int mv6), (7, .long r7)]) (fun ls hl => ?_) (fun KJ84 => ?_)
          · refine lv_iload hx hb dX0_turnsRound_84 (lv_at hl 5 rfl) ?_
            refine lv_if_eq (tgt := 104) hx hb dX0_turnsRound_86 (by decide) (fun c8 => ?_) (fun c8 => ?_)
            · rw [if_pos c8] at h
              obtain ⟨v10, ev10⟩ : ∃ y : Int32, y = u5.2 + (1 : Int32) := ⟨_, rfl⟩
              have h := og_ov h ev10
              refine lv_iinc (v := v10) (lv' := [(4, .int v10), (0, .ref q), (1, .int a1), (2, .int a2), (3, .int mv8), (5, .int mv3), (6, .int mv6), (7, .long r7)]) hx hb dX0_turnsRound_104 hl (k := 4) rfl (by rw [ev10]; rfl) (by decide) rfl (fun ls hl => ?_)
              refine lv_goto (tgt := 5) hx hb dX0_turnsRound_107 (by decide) ?_
              exact ki5 _ ls (Option.some.inj h).symm (lv_sub hl [1, 2, 3, 4, 0] rfl)
            · rw [if_neg c8] at h
              refine lv_iload hx hb dX0_turnsRound_89 (lv_at hl 6 rfl) ?_
              refine lv_if_ne (tgt := 104) hx hb dX0_turnsRound_91 (by decide) (fun c10 => ?_) (fun c10 => ?_)
              · rw [if_neg c10] at h
                obtain ⟨v12, ev12⟩ : ∃ y : Int32, y = u5.2 + (1 : Int32) := ⟨_, rfl⟩
                have h := og_ov h ev12
                refine lv_iinc (v := v12) (lv' := [(4, .int v12), (0, .ref q), (1, .int a1), (2, .int a2), (3, .int mv8), (5, .int mv3), (6, .int mv6), (7, .long r7)]) hx hb dX0_turnsRound_104 hl (k := 4) rfl (by rw [ev12]; rfl) (by decide) rfl (fun ls hl => ?_)
                refine lv_goto (tgt := 5) hx hb dX0_turnsRound_107 (by decide) ?_
                exact ki5 _ ls (Option.some.inj h).symm (lv_sub hl [1, 2, 3, 4, 0] rfl)
              · rw [if_pos c10] at h
                refine lv_lload hx hb dX0_turnsRound_94 (lv_at hl 7 rfl) ?_
                refine lv_lconst (v := 0) hx hb dX0_turnsRound_96 (by decide) ?_
                refine W.lcmp hx hb dX0_turnsRound_97 ?_
                refine lv_if_ge (tgt := 104) hx hb dX0_turnsRound_98 (by decide) (fun c12 => ?_) (fun c12 => ?_)
                · rw [if_pos c12] at h
                  obtain ⟨v14, ev14⟩ : ∃ y : Int32, y = u5.2 + (1 : Int32) := ⟨_, rfl⟩
                  have h := og_ov h ev14
                  refine lv_iinc (v := v14) (lv' := [(4, .int v14), (0, .ref q), (1, .int a1), (2, .int a2), (3, .int mv8), (5, .int mv3), (6, .int mv6), (7, .long r7)]) hx hb dX0_turnsRound_104 hl (k := 4) rfl (by rw [ev14]; rfl) (by decide) rfl (fun ls hl => ?_)
                  refine lv_goto (tgt := 5) hx hb dX0_turnsRound_107 (by decide) ?_
                  exact ki5 _ ls (Option.some.inj h).symm (lv_sub hl [1, 2, 3, 4, 0] rfl)
                · rw [if_neg c12] at h
                  obtain ⟨v15, ev15⟩ : ∃ y : Int32, y = mv8 + (-1 : Int32) := ⟨_, rfl⟩
                  have h := og_ov h ev15
                  refine lv_iinc (v := v15) (lv' := [(3, .int v15), (0, .ref q), (1, .int a1), (2, .int a2), (4, .int u5.2), (5, .int mv3), (6, .int mv6), (7, .long r7)]) hx hb dX0_turnsRound_101 hl (k := 3) rfl (by rw [ev15]; rfl) (by decide) rfl (fun ls hl => ?_)
                  obtain ⟨v16, ev16⟩ : ∃ y : Int32, y = u5.2 + (1 : Int32) := ⟨_, rfl⟩
                  have h := og_ov h ev16
                  refine lv_iinc (v := v16) (lv' := [(4, .int v16), (3, .int v15), (0, .ref q), (1, .int a1), (2, .int a2), (5, .int mv3), (6, .int mv6), (7, .long r7)]) hx hb dX0_turnsRound_104 hl (k := 4) rfl (by rw [ev16]; rfl) (by decide) rfl (fun ls hl => ?_)
                  refine lv_goto (tgt := 5) hx hb dX0_turnsRound_107 (by decide) ?_
                  exact ki5 _ ls (Option.some.inj h).symm (lv_sub hl [2, 3, 4, 1, 0] rfl)
          · have h := hm84
            refine lv_if_ne (tgt := 84) hx hb dX0_turnsRound_66 (by decide) (fun c16 => ?_) (fun c16 => ?_)
            · rw [if_neg c16] at h
              obtain rfl := Option.some.inj h
              exact KJ84 ls (lv_sub hl [2, 3, 4, 5, 6, 7, 1, 0] rfl)
            · rw [if_pos c16] at h
              refine lv_iload hx hb dX0_turnsRound_69 (lv_at hl 1 rfl) ?_
              refine lv_if_eq (tgt := 84) hx hb dX0_turnsRound_71 (by decide) (fun c17 => ?_) (fun c17 => ?_)
              · rw [if_pos c17] at h
                obtain rfl := Option.some.inj h
                exact KJ84 ls (lv_sub hl [2, 3, 4, 5, 6, 7, 1, 0] rfl)
              · rw [if_neg c17] at h
                refine lv_lload hx hb dX0_turnsRound_74 (lv_at hl 0 rfl) ?_
                refine lv_lconst (v := 0) hx hb dX0_turnsRound_76 (by decide) ?_
                refine W.lcmp hx hb dX0_turnsRound_77 ?_
                refine lv_if_le (tgt := 84) hx hb dX0_turnsRound_78 (by decide) (fun c18 => ?_) (fun c18 => ?_)
                · rw [if_pos c18] at h
                  obtain rfl := Option.some.inj h
                  exact KJ84 ls (lv_sub hl [2, 3, 4, 5, 6, 7, 1, 0] rfl)
                · rw [if_neg c18] at h
                  obtain ⟨v20, ev20⟩ : ∃ y : Int32, y = u5.1 + (1 : Int32) := ⟨_, rfl⟩
                  have h := og_ov h ev20
                  refine lv_iinc (v := v20) (lv' := [(3, .int v20), (7, .long r7), (6, .int mv6), (0, .ref q), (1, .int a1), (2, .int a2), (4, .int u5.2), (5, .int mv3)]) hx hb dX0_turnsRound_81 hl (k := 5) rfl (by rw [ev20]; rfl) (by decide) rfl (fun ls hl => ?_)
                  obtain rfl := Option.some.inj h
                  exact KJ84 ls (lv_sub hl [3, 4, 5, 0, 6, 7, 2, 1] rfl)
        · have h := hm50
          refine lv_icmp_le (tgt := 49) hx hb dX0_turnsRound_42 (by decide) (fun c20 => ?_) (fun c20 => ?_)
          · rw [if_pos c20] at h
            refine lv_iconst (v := 0) hx hb dX0_turnsRound_49 (by decide) ?_
            obtain rfl := Option.some.inj h
            exact KJ50 ls (lv_sub hl [1, 2, 3, 4, 5, 0] rfl)
          · rw [if_neg c20] at h
            refine lv_iconst (v := 1) hx hb dX0_turnsRound_45 (by decide) ?_
            refine lv_goto (tgt := 50) hx hb dX0_turnsRound_46 (by decide) ?_
            obtain rfl := Option.some.inj h
            exact KJ50 ls (lv_sub hl [1, 2, 3, 4, 5, 0] rfl)
      · have h := hm29
        refine lv_icmp_le (tgt := 28) hx hb dX0_turnsRound_21 (by decide) (fun c21 => ?_) (fun c21 => ?_)
        · rw [if_pos c21] at h
          refine lv_iconst (v := 0) hx hb dX0_turnsRound_28 (by decide) ?_
          obtain rfl := Option.some.inj h
          exact KJ29 ls (lv_sub hl [0, 1, 2, 3, 4] rfl)
        · rw [if_neg c21] at h
          refine lv_iconst (v := 1) hx hb dX0_turnsRound_24 (by decide) ?_
          refine lv_goto (tgt := 29) hx hb dX0_turnsRound_25 (by decide) ?_
          obtain rfl := Option.some.inj h
          exact KJ29 ls (lv_sub hl [0, 1, 2, 3, 4] rfl)
  · refine lv_iload_n hx hb dX0_turnsRound_110 rfl (lv_at hl 0 rfl) ?_
    obtain rfl := Option.some.inj h
    exact W.iret hx hb hr (fun t ht _ => ⟨rfl, ht⟩) (fun _ h9 => absurd h9 List.not_mem_nil) dX0_turnsRound_111
def f_X0_foldsBack (xs : Nat → Int32) (ys : Nat → Int32) (n : Int32) (a1 : Int32) : Option Int32 :=
  (f_X0_next n a1).bind fun r1 =>
  (f_X0_next n r1).bind fun r2 =>
  (f_X0_x xs r1).bind fun r3 =>
  (f_X0_x xs a1).bind fun r4 =>
  (f_X0_x xs r2).bind fun r5 =>
  (f_X0_x xs r1).bind fun r6 =>
  (f_X0_y ys r1).bind fun r7 =>
  (f_X0_y ys a1).bind fun r8 =>
  (f_X0_y ys r2).bind fun r9 =>
  (f_X0_y ys r1).bind fun r10 =>
  ov (((r3 - r4) * (r5 - r6)) + ((r7 - r8) * (r9 - r10))) fun v11 =>
  if (0) ≤ v11 then
  (some (0 : Int32))
  else
  ((f_X0_x xs r2).bind fun r13 =>
  (f_X0_y ys r2).bind fun r14 =>
  (f_X0_leftOf xs ys n a1 (r13.toInt64) (r14.toInt64)).bind fun r15 =>
  if (lg_cmp r15 (0 : Int64)) = (0) then
  (some (1 : Int32))
  else
  (some (0 : Int32)))
set_option maxHeartbeats 4000000 in
set_option maxRecDepth 100000 in
theorem k_X0_foldsBack (l : Launch) (D : va_G) (cI cF : ClassId) (q : Nat) (qx : Nat) (qy : Nat) (xs : Nat → Int32) (ys : Nat → Int32) (n : Int32) (a1 : Int32) (r0 : Int32) (h : f_X0_foldsBack xs ys n a1 = some r0) : Met l yX0_foldsBack wsX0_foldsBack ({ frames := 2, cells := 0, slots := 0, locals := 47 }) (va_Pc [.ref q, .int a1] (fun U => wK D cI cF (figW cI q qx qy xs ys n) U)) (qS (.int r0)) 0 0 (fun _ => False) := by
  refine Met.ofW (cc := cX0_foldsBack) (maxL := 5) (ret := (some .boolean)) (by decide) rfl ?_
  intro p e s m args below meth c s₁ B hml hv
  obtain ⟨rfl, hK, hP⟩ := hv
  have hx := B.exec
  have hb := B.bytes
  have hr := B.returns
  have hts := atoms_spec (ws := wsX0_foldsBack) B.pre
  have hown : s.vm.findClass RX0 = some m.cls := findClass_of_methodNamed B.named
  have hlocks := B.notSynchronized
  have hl := lv_entry ([.ref q, .int a1]) (n := 5) (Nat.le_of_ble_eq_true rfl)
  rw [lg_entry_eq]
  generalize (lg_sl ([.ref q, .int a1]) ++ List.replicate (5 - (lg_sl ([.ref q, .int a1])).length) Slot.unset).toArray = ls at hl ⊢
  have hl : lv_has ls 5 [(0, .ref q), (1, .int a1)] := hl
  unfold f_X0_foldsBack at h
  refine lv_aload_n hx hb dX0_foldsBack_0 rfl (lv_at hl 0 rfl) ?_
  refine lv_iload_n hx hb dX0_foldsBack_1 rfl (lv_at hl 1 rfl) ?_
  obtain ⟨r1, hcr1, h⟩ := og_bind h
  refine cp_s (va_runV (As := [.int a1]) (rest := []) ⟨hx, hb, hml, hown, hts⟩ (k_X0_next l D cI cF q qx qy xs ys n a1 _ hcr1) (cwV 1 hts gX0_foldsBack_X0_next rfl rfl rfl (by decide +kernel) ⟨(Nat.le_of_ble_eq_true rfl), (Nat.le_of_ble_eq_true rfl)⟩) (pre_v (q0 := 0) (ci := 0) hK hP rfl rfl) rfl rfl hl.1 rfl (lv_room (Nat.le_of_ble_eq_true rfl)) dX0_foldsBack_2 ⟨(Nat.zero_le _), (Nat.zero_le _)⟩) ?_
  refine lv_istore_n (lv' := [(2, .int r1), (0, .ref q), (1, .int a1)]) hx hb dX0_foldsBack_5 rfl hl (by decide) rfl (fun ls hl => ?_)
  refine lv_aload_n hx hb dX0_foldsBack_6 rfl (lv_at hl 1 rfl) ?_
  refine lv_iload_n hx hb dX0_foldsBack_7 rfl (lv_at hl 0 rfl) ?_
  obtain ⟨r2, hcr2, h⟩ := og_bind h
  refine cp_s (va_runV (As := [.int r1]) (rest := []) ⟨hx, hb, hml, hown, hts⟩ (k_X0_next l D cI cF q qx qy xs ys n r1 _ hcr2) (cwV 1 hts gX0_foldsBack_X0_next rfl rfl rfl (by decide +kernel) ⟨(Nat.le_of_ble_eq_true rfl), (Nat.le_of_ble_eq_true rfl)⟩) (pre_v (q0 := 0) (ci := 0) hK hP rfl rfl) rfl rfl hl.1 rfl (lv_room (Nat.le_of_ble_eq_true rfl)) dX0_foldsBack_8 ⟨(Nat.zero_le _), (Nat.zero_le _)⟩) ?_
  refine lv_istore_n (lv' := [(3, .int r2), (2, .int r1), (0, .ref q), (1, .int a1)]) hx hb dX0_foldsBack_11 rfl hl (by decide) rfl (fun ls hl => ?_)
  refine lv_aload_n hx hb dX0_foldsBack_12 rfl (lv_at hl 2 rfl) ?_
  refine lv_iload_n hx hb dX0_foldsBack_13 rfl (lv_at hl 1 rfl) ?_
  obtain ⟨r3, hcr3, h⟩ := og_bind h
  refine cp_s (va_runV (As := [.int r1]) (rest := []) ⟨hx, hb, hml, hown, hts⟩ (k_X0_x l D cI cF q qx qy xs ys n r1 _ hcr3) (cwV 1 hts gX0_foldsBack_X0_x rfl rfl rfl (by decide +kernel) ⟨(Nat.le_of_ble_eq_true rfl), (Nat.le_of_ble_eq_true rfl)⟩) (pre_v (q0 := 0) (ci := 0) hK hP rfl rfl) rfl rfl hl.1 rfl (lv_room (Nat.le_of_ble_eq_true rfl)) dX0_foldsBack_14 ⟨(Nat.zero_le _), (Nat.zero_le _)⟩) ?_
  refine lv_aload_n hx hb dX0_foldsBack_17 rfl (lv_at hl 2 rfl) ?_
  refine lv_iload_n hx hb dX0_foldsBack_18 rfl (lv_at hl 3 rfl) ?_
  obtain ⟨r4, hcr4, h⟩ := og_bind h
  refine cp_s (va_runV (As := [.int a1]) (rest := [.int r3]) ⟨hx, hb, hml, hown, hts⟩ (k_X0_x l D cI cF q qx qy xs ys n a1 _ hcr4) (cwV 1 hts gX0_foldsBack_X0_x rfl rfl rfl (by decide +kernel) ⟨(Nat.le_of_ble_eq_true rfl), (Nat.le_of_ble_eq_true rfl)⟩) (pre_v (q0 := 0) (ci := 0) hK hP rfl rfl) rfl rfl hl.1 rfl (lv_room (Nat.le_of_ble_eq_true rfl)) dX0_foldsBack_19 ⟨(Nat.zero_le _), (Nat.zero_le _)⟩) ?_
  refine lv_isub hx hb dX0_foldsBack_22 ?_
  refine lv_aload_n hx hb dX0_foldsBack_23 rfl (lv_at hl 2 rfl) ?_
  refine lv_iload_n hx hb dX0_foldsBack_24 rfl (lv_at hl 0 rfl) ?_
  obtain ⟨r5, hcr5, h⟩ := og_bind h
  refine cp_s (va_runV (As := [.int r2]) (rest := [.int (r3 - r4)]) ⟨hx, hb, hml, hown, hts⟩ (k_X0_x l D cI cF q qx qy xs ys n r2 _ hcr5) (cwV 1 hts gX0_foldsBack_X0_x rfl rfl rfl (by decide +kernel) ⟨(Nat.le_of_ble_eq_true rfl), (Nat.le_of_ble_eq_true rfl)⟩) (pre_v (q0 := 0) (ci := 0) hK hP rfl rfl) rfl rfl hl.1 rfl (lv_room (Nat.le_of_ble_eq_true rfl)) dX0_foldsBack_25 ⟨(Nat.zero_le _), (Nat.zero_le _)⟩) ?_
  refine lv_aload_n hx hb dX0_foldsBack_28 rfl (lv_at hl 2 rfl) ?_
  refine lv_iload_n hx hb dX0_foldsBack_29 rfl (lv_at hl 1 rfl) ?_
  obtain ⟨r6, hcr6, h⟩ := og_bind h
  refine cp_s (va_runV (As := [.int r1]) (rest := [.int r5, .int (r3 - r4)]) ⟨hx, hb, hml, hown, hts⟩ (k_X0_x l D cI cF q qx qy xs ys n r1 _ hcr6) (cwV 1 hts gX0_foldsBack_X0_x rfl rfl rfl (by decide +kernel) ⟨(Nat.le_of_ble_eq_true rfl), (Nat.le_of_ble_eq_true rfl)⟩) (pre_v (q0 := 0) (ci := 0) hK hP rfl rfl) rfl rfl hl.1 rfl (lv_room (Nat.le_of_ble_eq_true rfl)) dX0_foldsBack_30 ⟨(Nat.zero_le _), (Nat.zero_le _)⟩) ?_
  refine lv_isub hx hb dX0_foldsBack_33 ?_
  refine lv_imul hx hb dX0_foldsBack_34 ?_
  refine lv_aload_n hx hb dX0_foldsBack_35 rfl (lv_at hl 2 rfl) ?_
  refine lv_iload_n hx hb dX0_foldsBack_36 rfl (lv_at hl 1 rfl) ?_
  obtain ⟨r7, hcr7, h⟩ := og_bind h
  refine cp_s (va_runV (As := [.int r1]) (rest := [.int ((r3 - r4) * (r5 - r6))]) ⟨hx, hb, hml, hown, hts⟩ (k_X0_y l D cI cF q qx qy xs ys n r1 _ hcr7) (cwV 1 hts gX0_foldsBack_X0_y rfl rfl rfl (by decide +kernel) ⟨(Nat.le_of_ble_eq_true rfl), (Nat.le_of_ble_eq_true rfl)⟩) (pre_v (q0 := 0) (ci := 0) hK hP rfl rfl) rfl rfl hl.1 rfl (lv_room (Nat.le_of_ble_eq_true rfl)) dX0_foldsBack_37 ⟨(Nat.zero_le _), (Nat.zero_le _)⟩) ?_
  refine lv_aload_n hx hb dX0_foldsBack_40 rfl (lv_at hl 2 rfl) ?_
  refine lv_iload_n hx hb dX0_foldsBack_41 rfl (lv_at hl 3 rfl) ?_
  obtain ⟨r8, hcr8, h⟩ := og_bind h
  refine cp_s (va_runV (As := [.int a1]) (rest := [.int r7, .int ((r3 - r4) * (r5 - r6))]) ⟨hx, hb, hml, hown, hts⟩ (k_X0_y l D cI cF q qx qy xs ys n a1 _ hcr8) (cwV 1 hts gX0_foldsBack_X0_y rfl rfl rfl (by decide +kernel) ⟨(Nat.le_of_ble_eq_true rfl), (Nat.le_of_ble_eq_true rfl)⟩) (pre_v (q0 := 0) (ci := 0) hK hP rfl rfl) rfl rfl hl.1 rfl (lv_room (Nat.le_of_ble_eq_true rfl)) dX0_foldsBack_42 ⟨(Nat.zero_le _), (Nat.zero_le _)⟩) ?_
  refine lv_isub hx hb dX0_foldsBack_45 ?_
  refine lv_aload_n hx hb dX0_foldsBack_46 rfl (lv_at hl 2 rfl) ?_
  refine lv_iload_n hx hb dX0_foldsBack_47 rfl (lv_at hl 0 rfl) ?_
  obtain ⟨r9, hcr9, h⟩ := og_bind h
  refine cp_s (va_runV (As := [.int r2]) (rest := [.int (r7 - r8), .int ((r3 - r4) * (r5 - r6))]) ⟨hx, hb, hml, hown, hts⟩ (k_X0_y l D cI cF q qx qy xs ys n r2 _ hcr9) (cwV 1 hts gX0_foldsBack_X0_y rfl rfl rfl (by decide +kernel) ⟨(Nat.le_of_ble_eq_true rfl), (Nat.le_of_ble_eq_true rfl)⟩) (pre_v (q0 := 0) (ci := 0) hK hP rfl rfl) rfl rfl hl.1 rfl (lv_room (Nat.le_of_ble_eq_true rfl)) dX0_foldsBack_48 ⟨(Nat.zero_le _), (Nat.zero_le _)⟩) ?_
  refine lv_aload_n hx hb dX0_foldsBack_51 rfl (lv_at hl 2 rfl) ?_
  refine lv_iload_n hx hb dX0_foldsBack_52 rfl (lv_at hl 1 rfl) ?_
  obtain ⟨r10, hcr10, h⟩ := og_bind h
  refine cp_s (va_runV (As := [.int r1]) (rest := [.int r9, .int (r7 - r8), .int ((r3 - r4) * (r5 - r6))]) ⟨hx, hb, hml, hown, hts⟩ (k_X0_y l D cI cF q qx qy xs ys n r1 _ hcr10) (cwV 1 hts gX0_foldsBack_X0_y rfl rfl rfl (by decide +kernel) ⟨(Nat.le_of_ble_eq_true rfl), (Nat.le_of_ble_eq_true rfl)⟩) (pre_v (q0 := 0) (ci := 0) hK hP rfl rfl) rfl rfl hl.1 rfl (lv_room (Nat.le_of_ble_eq_true rfl)) dX0_foldsBack_53 ⟨(Nat.zero_le _), (Nat.zero_le _)⟩) ?_
  refine lv_isub hx hb dX0_foldsBack_56 ?_
  refine lv_imul hx hb dX0_foldsBack_57 ?_
  refine lv_iadd hx hb dX0_foldsBack_58 ?_
  refine lv_topi (fun v11 ev11 => ?_)
  have h := og_ov h ev11
  refine lv_istore (lv' := [(4, .int v11), (3, .int r2), (2, .int r1), (0, .ref q), (1, .int a1)]) hx hb dX0_foldsBack_59 hl (by decide) rfl (fun ls hl => ?_)
  refine lv_iload hx hb dX0_foldsBack_61 (lv_at hl 0 rfl) ?_
  refine lv_if_ge (tgt := 92) hx hb dX0_foldsBack_63 (by decide) (fun c11 => ?_) (fun c11 => ?_)
  · rw [if_pos c11] at h
    refine lv_iconst (v := 0) hx hb dX0_foldsBack_92 (by decide) ?_
    obtain rfl := Option.some.inj h
    exact W.zret hx hb hr rfl (fun t ht _ => ⟨rfl, ht⟩) (fun _ h9 => absurd h9 List.not_mem_nil) dX0_foldsBack_93
  · rw [if_neg c11] at h
    refine lv_aload_n hx hb dX0_foldsBack_66 rfl (lv_at hl 3 rfl) ?_
    refine lv_iload_n hx hb dX0_foldsBack_67 rfl (lv_at hl 4 rfl) ?_
    refine lv_aload_n hx hb dX0_foldsBack_68 rfl (lv_at hl 3 rfl) ?_
    refine lv_iload_n hx hb dX0_foldsBack_69 rfl (lv_at hl 1 rfl) ?_
    obtain ⟨r13, hcr13, h⟩ := og_bind h
    refine cp_s (va_runV (As := [.int r2]) (rest := [.int a1, .ref q]) ⟨hx, hb, hml, hown, hts⟩ (k_X0_x l D cI cF q qx qy xs ys n r2 _ hcr13) (cwV 1 hts gX0_foldsBack_X0_x rfl rfl rfl (by decide +kernel) ⟨(Nat.le_of_ble_eq_true rfl), (Nat.le_of_ble_eq_true rfl)⟩) (pre_v (q0 := 0) (ci := 0) hK hP rfl rfl) rfl rfl hl.1 rfl (lv_room (Nat.le_of_ble_eq_true rfl)) dX0_foldsBack_70 ⟨(Nat.zero_le _), (Nat.zero_le _)⟩) ?_
    refine lv_i2l hx hb dX0_foldsBack_73 rfl ?_
    refine lv_aload_n hx hb dX0_foldsBack_74 rfl (lv_at hl 3 rfl) ?_
    refine lv_iload_n hx hb dX0_foldsBack_75 rfl (lv_at hl 1 rfl) ?_
    obtain ⟨r14, hcr14, h⟩ := og_bind h
    refine cp_s (va_runV (As := [.int r2]) (rest := [.long (r13.toInt64), .int a1, .ref q]) ⟨hx, hb, hml, hown, hts⟩ (k_X0_y l D cI cF q qx qy xs ys n r2 _ hcr14) (cwV 1 hts gX0_foldsBack_X0_y rfl rfl rfl (by decide +kernel) ⟨(Nat.le_of_ble_eq_true rfl), (Nat.le_of_ble_eq_true rfl)⟩) (pre_v (q0 := 0) (ci := 0) hK hP rfl rfl) rfl rfl hl.1 rfl (lv_room (Nat.le_of_ble_eq_true rfl)) dX0_foldsBack_76 ⟨(Nat.zero_le _), (Nat.zero_le _)⟩) ?_
    refine lv_i2l hx hb dX0_foldsBack_79 rfl ?_
    obtain ⟨r15, hcr15, h⟩ := og_bind h
    refine cp_s (va_runV (As := [.int a1, .long (r13.toInt64), .long (r14.toInt64)]) (rest := []) ⟨hx, hb, hml, hown, hts⟩ (k_X0_leftOf l D cI cF q qx qy xs ys n a1 (r13.toInt64) (r14.toInt64) _ hcr15) (cwV 3 hts gX0_foldsBack_X0_leftOf rfl rfl rfl (by decide +kernel) ⟨(Nat.le_of_ble_eq_true rfl), (Nat.le_of_ble_eq_true rfl)⟩) (pre_v (q0 := 0) (ci := 0) hK hP rfl rfl) rfl rfl hl.1 rfl (lv_room (Nat.le_of_ble_eq_true rfl)) dX0_foldsBack_80 ⟨(Nat.zero_le _), (Nat.zero_le _)⟩) ?_
    refine lv_lconst (v := 0) hx hb dX0_foldsBack_83 (by decide) ?_
    refine W.lcmp hx hb dX0_foldsBack_84 ?_
    refine lv_if_ne (tgt := 92) hx hb dX0_foldsBack_85 (by decide) (fun c15 => ?_) (fun c15 => ?_)
    · rw [if_neg c15] at h
      refine lv_iconst (v := 0) hx hb dX0_foldsBack_92 (by decide) ?_
      obtain rfl := Option.some.inj h
      exact W.zret hx hb hr rfl (fun t ht _ => ⟨rfl, ht⟩) (fun _ h9 => absurd h9 List.not_mem_nil) dX0_foldsBack_93
    · rw [if_pos c15] at h
      refine lv_iconst (v := 1) hx hb dX0_foldsBack_88 (by decide) ?_
      refine lv_goto (tgt := 93) hx hb dX0_foldsBack_89 (by decide) ?_
      obtain rfl := Option.some.inj h
      exact W.zret hx hb hr rfl (fun t ht _ => ⟨rfl, ht⟩) (fun _ h9 => absurd h9 List.not_mem_nil) dX0_foldsBack_93
def f_X0_parts (xs : Nat → Int32) (ys : Nat → Int32) (n : Int32) (a1 : Int32) (a2 : Int32) : Option Int32 :=
  (f_X0_x xs a2).bind fun r1 =>
  (f_X0_y ys a2).bind fun r2 =>
  (f_X0_leftOf xs ys n a1 (r1.toInt64) (r2.toInt64)).bind fun r3 =>
  (f_X0_next n a2).bind fun r4 =>
  (f_X0_x xs r4).bind fun r5 =>
  (f_X0_next n a2).bind fun r6 =>
  (f_X0_y ys r6).bind fun r7 =>
  (f_X0_leftOf xs ys n a1 (r5.toInt64) (r7.toInt64)).bind fun r8 =>
  if (0) ≤ (lg_cmp r3 (0 : Int64)) then
  (if (lg_cmp r3 (0 : Int64)) ≤ (0) then
  (some (0 : Int32))
  else
  (if (0) ≤ (lg_cmp r8 (0 : Int64)) then
  (some (0 : Int32))
  else
  (some (1 : Int32))))
  else
  (if (0) < (lg_cmp r8 (0 : Int64)) then
  (some (1 : Int32))
  else
  (if (lg_cmp r3 (0 : Int64)) ≤ (0) then
  (some (0 : Int32))
  else
  (if (0) ≤ (lg_cmp r8 (0 : Int64)) then
  (some (0 : Int32))
  else
  (some (1 : Int32)))))
set_option maxHeartbeats 4000000 in
set_option maxRecDepth 100000 in
theorem k_X0_parts (l : Launch) (D : va_G) (cI cF : ClassId) (q : Nat) (qx : Nat) (qy : Nat) (xs : Nat → Int32) (ys : Nat → Int32) (n : Int32) (a1 : Int32) (a2 : Int32) (r0 : Int32) (h : f_X0_parts xs ys n a1 a2 = some r0) : Met l yX0_parts wsX0_parts ({ frames := 2, cells := 0, slots := 0, locals := 47 }) (va_Pc [.ref q, .int a1, .int a2] (fun U => wK D cI cF (figW cI q qx qy xs ys n) U)) (qS (.int r0)) 0 0 (fun _ => False) := by
  refine Met.ofW (cc := cX0_parts) (maxL := 7) (ret := (some .boolean)) (by decide) rfl ?_
  intro p e s m args below meth c s₁ B hml hv
  obtain ⟨rfl, hK, hP⟩ := hv
  have hx := B.exec
  have hb := B.bytes
  have hr := B.returns
  have hts := atoms_spec (ws := wsX0_parts) B.pre
  have hown : s.vm.findClass RX0 = some m.cls := findClass_of_methodNamed B.named
  have hlocks := B.notSynchronized
  have hl := lv_entry ([.ref q, .int a1, .int a2]) (n := 7) (Nat.le_of_ble_eq_true rfl)
  rw [lg_entry_eq]
  generalize (lg_sl ([.ref q, .int a1, .int a2]) ++ List.replicate (7 - (lg_sl ([.ref q, .int a1, .int a2])).length) Slot.unset).toArray = ls at hl ⊢
  have hl : lv_has ls 7 [(0, .ref q), (1, .int a1), (2, .int a2)] := hl
  unfold f_X0_parts at h
  refine lv_aload_n hx hb dX0_parts_0 rfl (lv_at hl 0 rfl) ?_
  refine lv_iload_n hx hb dX0_parts_1 rfl (lv_at hl 1 rfl) ?_
  refine lv_aload_n hx hb dX0_parts_2 rfl (lv_at hl 0 rfl) ?_
  refine lv_iload_n hx hb dX0_parts_3 rfl (lv_at hl 2 rfl) ?_
  obtain ⟨r1, hcr1, h⟩ := og_bind h
  refine cp_s (va_runV (As := [.int a2]) (rest := [.int a1, .ref q]) ⟨hx, hb, hml, hown, hts⟩ (k_X0_x l D cI cF q qx qy xs ys n a2 _ hcr1) (cwV 1 hts gX0_parts_X0_x rfl rfl rfl (by decide +kernel) ⟨(Nat.le_of_ble_eq_true rfl), (Nat.le_of_ble_eq_true rfl)⟩) (pre_v (q0 := 0) (ci := 0) hK hP rfl rfl) rfl rfl hl.1 rfl (lv_room (Nat.le_of_ble_eq_true rfl)) dX0_parts_4 ⟨(Nat.zero_le _), (Nat.zero_le _)⟩) ?_
  refine lv_i2l hx hb dX0_parts_7 rfl ?_
  refine lv_aload_n hx hb dX0_parts_8 rfl (lv_at hl 0 rfl) ?_
  refine lv_iload_n hx hb dX0_parts_9 rfl (lv_at hl 2 rfl) ?_
  obtain ⟨r2, hcr2, h⟩ := og_bind h
  refine cp_s (va_runV (As := [.int a2]) (rest := [.long (r1.toInt64), .int a1, .ref q]) ⟨hx, hb, hml, hown, hts⟩ (k_X0_y l D cI cF q qx qy xs ys n a2 _ hcr2) (cwV 1 hts gX0_parts_X0_y rfl rfl rfl (by decide +kernel) ⟨(Nat.le_of_ble_eq_true rfl), (Nat.le_of_ble_eq_true rfl)⟩) (pre_v (q0 := 0) (ci := 0) hK hP rfl rfl) rfl rfl hl.1 rfl (lv_room (Nat.le_of_ble_eq_true rfl)) dX0_parts_10 ⟨(Nat.zero_le _), (Nat.zero_le _)⟩) ?_
  refine lv_i2l hx hb dX0_parts_13 rfl ?_
  obtain ⟨r3, hcr3, h⟩ := og_bind h
  refine cp_s (va_runV (As := [.int a1, .long (r1.toInt64), .long (r2.toInt64)]) (rest := []) ⟨hx, hb, hml, hown, hts⟩ (k_X0_leftOf l D cI cF q qx qy xs ys n a1 (r1.toInt64) (r2.toInt64) _ hcr3) (cwV 3 hts gX0_parts_X0_leftOf rfl rfl rfl (by decide +kernel) ⟨(Nat.le_of_ble_eq_true rfl), (Nat.le_of_ble_eq_true rfl)⟩) (pre_v (q0 := 0) (ci := 0) hK hP rfl rfl) rfl rfl hl.1 rfl (lv_room (Nat.le_of_ble_eq_true rfl)) dX0_parts_14 ⟨(Nat.zero_le _), (Nat.zero_le _)⟩) ?_
  refine lv_lstore_n (lv' := [(3, .long r3), (0, .ref q), (1, .int a1), (2, .int a2)]) hx hb dX0_parts_17 rfl hl (by decide) rfl (fun ls hl => ?_)
  refine lv_aload_n hx hb dX0_parts_18 rfl (lv_at hl 1 rfl) ?_
  refine lv_iload_n hx hb dX0_parts_19 rfl (lv_at hl 2 rfl) ?_
  refine lv_aload_n hx hb dX0_parts_20 rfl (lv_at hl 1 rfl) ?_
  refine lv_aload_n hx hb dX0_parts_21 rfl (lv_at hl 1 rfl) ?_
  refine lv_iload_n hx hb dX0_parts_22 rfl (lv_at hl 3 rfl) ?_
  obtain ⟨r4, hcr4, h⟩ := og_bind h
  refine cp_s (va_runV (As := [.int a2]) (rest := [.ref q, .int a1, .ref q]) ⟨hx, hb, hml, hown, hts⟩ (k_X0_next l D cI cF q qx qy xs ys n a2 _ hcr4) (cwV 1 hts gX0_parts_X0_next rfl rfl rfl (by decide +kernel) ⟨(Nat.le_of_ble_eq_true rfl), (Nat.le_of_ble_eq_true rfl)⟩) (pre_v (q0 := 0) (ci := 0) hK hP rfl rfl) rfl rfl hl.1 rfl (lv_room (Nat.le_of_ble_eq_true rfl)) dX0_parts_23 ⟨(Nat.zero_le _), (Nat.zero_le _)⟩) ?_
  obtain ⟨r5, hcr5, h⟩ := og_bind h
  refine cp_s (va_runV (As := [.int r4]) (rest := [.int a1, .ref q]) ⟨hx, hb, hml, hown, hts⟩ (k_X0_x l D cI cF q qx qy xs ys n r4 _ hcr5) (cwV 1 hts gX0_parts_X0_x rfl rfl rfl (by decide +kernel) ⟨(Nat.le_of_ble_eq_true rfl), (Nat.le_of_ble_eq_true rfl)⟩) (pre_v (q0 := 0) (ci := 0) hK hP rfl rfl) rfl rfl hl.1 rfl (lv_room (Nat.le_of_ble_eq_true rfl)) dX0_parts_26 ⟨(Nat.zero_le _), (Nat.zero_le _)⟩) ?_
  refine lv_i2l hx hb dX0_parts_29 rfl ?_
  refine lv_aload_n hx hb dX0_parts_30 rfl (lv_at hl 1 rfl) ?_
  refine lv_aload_n hx hb dX0_parts_31 rfl (lv_at hl 1 rfl) ?_
  refine lv_iload_n hx hb dX0_parts_32 rfl (lv_at hl 3 rfl) ?_
  obtain ⟨r6, hcr6, h⟩ := og_bind h
  refine cp_s (va_runV (As := [.int a2]) (rest := [.ref q, .long (r5.toInt64), .int a1, .ref q]) ⟨hx, hb, hml, hown, hts⟩ (k_X0_next l D cI cF q qx qy xs ys n a2 _ hcr6) (cwV 1 hts gX0_parts_X0_next rfl rfl rfl (by decide +kernel) ⟨(Nat.le_of_ble_eq_true rfl), (Nat.le_of_ble_eq_true rfl)⟩) (pre_v (q0 := 0) (ci := 0) hK hP rfl rfl) rfl rfl hl.1 rfl (lv_room (Nat.le_of_ble_eq_true rfl)) dX0_parts_33 ⟨(Nat.zero_le _), (Nat.zero_le _)⟩) ?_
  obtain ⟨r7, hcr7, h⟩ := og_bind h
  refine cp_s (va_runV (As := [.int r6]) (rest := [.long (r5.toInt64), .int a1, .ref q]) ⟨hx, hb, hml, hown, hts⟩ (k_X0_y l D cI cF q qx qy xs ys n r6 _ hcr7) (cwV 1 hts gX0_parts_X0_y rfl rfl rfl (by decide +kernel) ⟨(Nat.le_of_ble_eq_true rfl), (Nat.le_of_ble_eq_true rfl)⟩) (pre_v (q0 := 0) (ci := 0) hK hP rfl rfl) rfl rfl hl.1 rfl (lv_room (Nat.le_of_ble_eq_true rfl)) dX0_parts_36 ⟨(Nat.zero_le _), (Nat.zero_le _)⟩) ?_
  refine lv_i2l hx hb dX0_parts_39 rfl ?_
  obtain ⟨r8, hcr8, h⟩ := og_bind h
  refine cp_s (va_runV (As := [.int a1, .long (r5.toInt64), .long (r7.toInt64)]) (rest := []) ⟨hx, hb, hml, hown, hts⟩ (k_X0_leftOf l D cI cF q qx qy xs ys n a1 (r5.toInt64) (r7.toInt64) _ hcr8) (cwV 3 hts gX0_parts_X0_leftOf rfl rfl rfl (by decide +kernel) ⟨(Nat.le_of_ble_eq_true rfl), (Nat.le_of_ble_eq_true rfl)⟩) (pre_v (q0 := 0) (ci := 0) hK hP rfl rfl) rfl rfl hl.1 rfl (lv_room (Nat.le_of_ble_eq_true rfl)) dX0_parts_40 ⟨(Nat.zero_le _), (Nat.zero_le _)⟩) ?_
  refine lv_lstore (lv' := [(5, .long r8), (3, .long r3), (0, .ref q), (1, .int a1), (2, .int a2)]) hx hb dX0_parts_43 hl (by decide) rfl (fun ls hl => ?_)
  refine lv_lload_n hx hb dX0_parts_45 rfl (lv_at hl 1 rfl) ?_
  refine lv_lconst (v := 0) hx hb dX0_parts_46 (by decide) ?_
  refine W.lcmp hx hb dX0_parts_47 ?_
  refine lv_if_ge (tgt := 58) hx hb dX0_parts_48 (by decide) (fun c8 => ?_) (fun c8 => ?_)
  · rw [if_pos c8] at h
    refine lv_lload_n hx hb dX0_parts_58 rfl (lv_at hl 1 rfl) ?_
    refine lv_lconst (v := 0) hx hb dX0_parts_59 (by decide) ?_
    refine W.lcmp hx hb dX0_parts_60 ?_
    refine lv_if_le (tgt := 75) hx hb dX0_parts_61 (by decide) (fun c9 => ?_) (fun c9 => ?_)
    · rw [if_pos c9] at h
      refine lv_iconst (v := 0) hx hb dX0_parts_75 (by decide) ?_
      obtain rfl := Option.some.inj h
      exact W.zret hx hb hr rfl (fun t ht _ => ⟨rfl, ht⟩) (fun _ h9 => absurd h9 List.not_mem_nil) dX0_parts_76
    · rw [if_neg c9] at h
      refine lv_lload hx hb dX0_parts_64 (lv_at hl 0 rfl) ?_
      refine lv_lconst (v := 0) hx hb dX0_parts_66 (by decide) ?_
      refine W.lcmp hx hb dX0_parts_67 ?_
      refine lv_if_ge (tgt := 75) hx hb dX0_parts_68 (by decide) (fun c10 => ?_) (fun c10 => ?_)
      · rw [if_pos c10] at h
        refine lv_iconst (v := 0) hx hb dX0_parts_75 (by decide) ?_
        obtain rfl := Option.some.inj h
        exact W.zret hx hb hr rfl (fun t ht _ => ⟨rfl, ht⟩) (fun _ h9 => absurd h9 List.not_mem_nil) dX0_parts_76
      · rw [if_neg c10] at h
        refine lv_iconst (v := 1) hx hb dX0_parts_71 (by decide) ?_
        refine lv_goto (tgt := 76) hx hb dX0_parts_72 (by decide) ?_
        obtain rfl := Option.some.inj h
        exact W.zret hx hb hr rfl (fun t ht _ => ⟨rfl, ht⟩) (fun _ h9 => absurd h9 List.not_mem_nil) dX0_parts_76
  · rw [if_neg c8] at h
    refine lv_lload hx hb dX0_parts_51 (lv_at hl 0 rfl) ?_
    refine lv_lconst (v := 0) hx hb dX0_parts_53 (by decide) ?_
    refine W.lcmp hx hb dX0_parts_54 ?_
    refine lv_if_gt (tgt := 71) hx hb dX0_parts_55 (by decide) (fun c11 => ?_) (fun c11 => ?_)
    · rw [if_pos c11] at h
      refine lv_iconst (v := 1) hx hb dX0_parts_71 (by decide) ?_
      refine lv_goto (tgt := 76) hx hb dX0_parts_72 (by decide) ?_
      obtain rfl := Option.some.inj h
      exact W.zret hx hb hr rfl (fun t ht _ => ⟨rfl, ht⟩) (fun _ h9 => absurd h9 List.not_mem_nil) dX0_parts_76
    · rw [if_neg c11] at h
      refine lv_lload_n hx hb dX0_parts_58 rfl (lv_at hl 1 rfl) ?_
      refine lv_lconst (v := 0) hx hb dX0_parts_59 (by decide) ?_
      refine W.lcmp hx hb dX0_parts_60 ?_
      refine lv_if_le (tgt := 75) hx hb dX0_parts_61 (by decide) (fun c12 => ?_) (fun c12 => ?_)
      · rw [if_pos c12] at h
        refine lv_iconst (v := 0) hx hb dX0_parts_75 (by decide) ?_
        obtain rfl := Option.some.inj h
        exact W.zret hx hb hr rfl (fun t ht _ => ⟨rfl, ht⟩) (fun _ h9 => absurd h9 List.not_mem_nil) dX0_parts_76
      · rw [if_neg c12] at h
        refine lv_lload hx hb dX0_parts_64 (lv_at hl 0 rfl) ?_
        refine lv_lconst (v := 0) hx hb dX0_parts_66 (by decide) ?_
        refine W.lcmp hx hb dX0_parts_67 ?_
        refine lv_if_ge (tgt := 75) hx hb dX0_parts_68 (by decide) (fun c13 => ?_) (fun c13 => ?_)
        · rw [if_pos c13] at h
          refine lv_iconst (v := 0) hx hb dX0_parts_75 (by decide) ?_
          obtain rfl := Option.some.inj h
          exact W.zret hx hb hr rfl (fun t ht _ => ⟨rfl, ht⟩) (fun _ h9 => absurd h9 List.not_mem_nil) dX0_parts_76
        · rw [if_neg c13] at h
          refine lv_iconst (v := 1) hx hb dX0_parts_71 (by decide) ?_
          refine lv_goto (tgt := 76) hx hb dX0_parts_72 (by decide) ?_
          obtain rfl := Option.some.inj h
          exact W.zret hx hb hr rfl (fun t ht _ => ⟨rfl, ht⟩) (fun _ h9 => absurd h9 List.not_mem_nil) dX0_parts_76
def f_X0_sidesMeet (xs : Nat → Int32) (ys : Nat → Int32) (n : Int32) (a1 : Int32) (a2 : Int32) : Option Int32 :=
  (f_X0_x xs a2).bind fun r1 =>
  (f_X0_y ys a2).bind fun r2 =>
  (f_X0_sideCarries xs ys n a1 r1 r2).bind fun r3 =>
  if r3 = (0) then
  ((f_X0_next n a2).bind fun r5 =>
  (f_X0_x xs r5).bind fun r6 =>
  (f_X0_next n a2).bind fun r7 =>
  (f_X0_y ys r7).bind fun r8 =>
  (f_X0_sideCarries xs ys n a1 r6 r8).bind fun r9 =>
  if r9 = (0) then
  ((f_X0_x xs a1).bind fun r11 =>
  (f_X0_y ys a1).bind fun r12 =>
  (f_X0_sideCarries xs ys n a2 r11 r12).bind fun r13 =>
  if r13 = (0) then
  ((f_X0_next n a1).bind fun r15 =>
  (f_X0_x xs r15).bind fun r16 =>
  (f_X0_next n a1).bind fun r17 =>
  (f_X0_y ys r17).bind fun r18 =>
  (f_X0_sideCarries xs ys n a2 r16 r18).bind fun r19 =>
  if r19 = (0) then
  ((f_X0_parts xs ys n a1 a2).bind fun r21 =>
  if r21 = (0) then
  (some (0 : Int32))
  else
  ((f_X0_parts xs ys n a2 a1).bind fun r23 =>
  if r23 = (0) then
  (some (0 : Int32))
  else
  (some (1 : Int32))))
  else
  (some (1 : Int32)))
  else
  (some (1 : Int32)))
  else
  (some (1 : Int32)))
  else
  (some (1 : Int32))
set_option maxHeartbeats 4000000 in
set_option maxRecDepth 100000 in
theorem k_X0_sidesMeet (l : Launch) (D : va_G) (cI cF : ClassId) (q : Nat) (qx : Nat) (qy : Nat) (xs : Nat → Int32) (ys : Nat → Int32) (n : Int32) (a1 : Int32) (a2 : Int32) (r0 : Int32) (h : f_X0_sidesMeet xs ys n a1 a2 = some r0) : Met l yX0_sidesMeet wsX0_sidesMeet ({ frames := 3, cells := 0, slots := 0, locals := 73 }) (va_Pc [.ref q, .int a1, .int a2] (fun U => wK D cI cF (figW cI q qx qy xs ys n) U)) (qS (.int r0)) 0 0 (fun _ => False) := by
  refine Met.ofW (cc := cX0_sidesMeet) (maxL := 3) (ret := (some .boolean)) (by decide) rfl ?_
  intro p e s m args below meth c s₁ B hml hv
  obtain ⟨rfl, hK, hP⟩ := hv
  have hx := B.exec
  have hb := B.bytes
  have hr := B.returns
  have hts := atoms_spec (ws := wsX0_sidesMeet) B.pre
  have hown : s.vm.findClass RX0 = some m.cls := findClass_of_methodNamed B.named
  have hlocks := B.notSynchronized
  have hl := lv_entry ([.ref q, .int a1, .int a2]) (n := 3) (Nat.le_of_ble_eq_true rfl)
  rw [lg_entry_eq]
  generalize (lg_sl ([.ref q, .int a1, .int a2]) ++ List.replicate (3 - (lg_sl ([.ref q, .int a1, .int a2])).length) Slot.unset).toArray = ls at hl ⊢
  have hl : lv_has ls 3 [(0, .ref q), (1, .int a1), (2, .int a2)] := hl
  unfold f_X0_sidesMeet at h
  refine lv_aload_n hx hb dX0_sidesMeet_0 rfl (lv_at hl 0 rfl) ?_
  refine lv_iload_n hx hb dX0_sidesMeet_1 rfl (lv_at hl 1 rfl) ?_
  refine lv_aload_n hx hb dX0_sidesMeet_2 rfl (lv_at hl 0 rfl) ?_
  refine lv_iload_n hx hb dX0_sidesMeet_3 rfl (lv_at hl 2 rfl) ?_
  obtain ⟨r1, hcr1, h⟩ := og_bind h
  refine cp_s (va_runV (As := [.int a2]) (rest := [.int a1, .ref q]) ⟨hx, hb, hml, hown, hts⟩ (k_X0_x l D cI cF q qx qy xs ys n a2 _ hcr1) (cwV 1 hts gX0_sidesMeet_X0_x rfl rfl rfl (by decide +kernel) ⟨(Nat.le_of_ble_eq_true rfl), (Nat.le_of_ble_eq_true rfl)⟩) (pre_v (q0 := 0) (ci := 0) hK hP rfl rfl) rfl rfl hl.1 rfl (lv_room (Nat.le_of_ble_eq_true rfl)) dX0_sidesMeet_4 ⟨(Nat.zero_le _), (Nat.zero_le _)⟩) ?_
  refine lv_aload_n hx hb dX0_sidesMeet_7 rfl (lv_at hl 0 rfl) ?_
  refine lv_iload_n hx hb dX0_sidesMeet_8 rfl (lv_at hl 2 rfl) ?_
  obtain ⟨r2, hcr2, h⟩ := og_bind h
  refine cp_s (va_runV (As := [.int a2]) (rest := [.int r1, .int a1, .ref q]) ⟨hx, hb, hml, hown, hts⟩ (k_X0_y l D cI cF q qx qy xs ys n a2 _ hcr2) (cwV 1 hts gX0_sidesMeet_X0_y rfl rfl rfl (by decide +kernel) ⟨(Nat.le_of_ble_eq_true rfl), (Nat.le_of_ble_eq_true rfl)⟩) (pre_v (q0 := 0) (ci := 0) hK hP rfl rfl) rfl rfl hl.1 rfl (lv_room (Nat.le_of_ble_eq_true rfl)) dX0_sidesMeet_9 ⟨(Nat.zero_le _), (Nat.zero_le _)⟩) ?_
  obtain ⟨r3, hcr3, h⟩ := og_bind h
  refine cp_s (va_runV (As := [.int a1, .int r1, .int r2]) (rest := []) ⟨hx, hb, hml, hown, hts⟩ (k_X0_sideCarries l D cI cF q qx qy xs ys n a1 r1 r2 _ hcr3) (cwV 3 hts gX0_sidesMeet_X0_sideCarries rfl rfl rfl (by decide +kernel) ⟨(Nat.le_of_ble_eq_true rfl), (Nat.le_of_ble_eq_true rfl)⟩) (pre_v (q0 := 0) (ci := 0) hK hP rfl rfl) rfl rfl hl.1 rfl (lv_room (Nat.le_of_ble_eq_true rfl)) dX0_sidesMeet_12 ⟨(Nat.zero_le _), (Nat.zero_le _)⟩) ?_
  refine lv_if_ne (tgt := 44) hx hb dX0_sidesMeet_15 (by decide) (fun c3 => ?_) (fun c3 => ?_)
  · rw [if_neg c3] at h
    refine lv_iconst (v := 1) hx hb dX0_sidesMeet_44 (by decide) ?_
    obtain rfl := Option.some.inj h
    exact W.zret hx hb hr rfl (fun t ht _ => ⟨rfl, ht⟩) (fun _ h9 => absurd h9 List.not_mem_nil) dX0_sidesMeet_45
  · rw [if_pos c3] at h
    refine lv_aload_n hx hb dX0_sidesMeet_18 rfl (lv_at hl 0 rfl) ?_
    refine lv_iload_n hx hb dX0_sidesMeet_19 rfl (lv_at hl 1 rfl) ?_
    refine lv_aload_n hx hb dX0_sidesMeet_20 rfl (lv_at hl 0 rfl) ?_
    refine lv_aload_n hx hb dX0_sidesMeet_21 rfl (lv_at hl 0 rfl) ?_
    refine lv_iload_n hx hb dX0_sidesMeet_22 rfl (lv_at hl 2 rfl) ?_
    obtain ⟨r5, hcr5, h⟩ := og_bind h
    refine cp_s (va_runV (As := [.int a2]) (rest := [.ref q, .int a1, .ref q]) ⟨hx, hb, hml, hown, hts⟩ (k_X0_next l D cI cF q qx qy xs ys n a2 _ hcr5) (cwV 1 hts gX0_sidesMeet_X0_next rfl rfl rfl (by decide +kernel) ⟨(Nat.le_of_ble_eq_true rfl), (Nat.le_of_ble_eq_true rfl)⟩) (pre_v (q0 := 0) (ci := 0) hK hP rfl rfl) rfl rfl hl.1 rfl (lv_room (Nat.le_of_ble_eq_true rfl)) dX0_sidesMeet_23 ⟨(Nat.zero_le _), (Nat.zero_le _)⟩) ?_
    obtain ⟨r6, hcr6, h⟩ := og_bind h
    refine cp_s (va_runV (As := [.int r5]) (rest := [.int a1, .ref q]) ⟨hx, hb, hml, hown, hts⟩ (k_X0_x l D cI cF q qx qy xs ys n r5 _ hcr6) (cwV 1 hts gX0_sidesMeet_X0_x rfl rfl rfl (by decide +kernel) ⟨(Nat.le_of_ble_eq_true rfl), (Nat.le_of_ble_eq_true rfl)⟩) (pre_v (q0 := 0) (ci := 0) hK hP rfl rfl) rfl rfl hl.1 rfl (lv_room (Nat.le_of_ble_eq_true rfl)) dX0_sidesMeet_26 ⟨(Nat.zero_le _), (Nat.zero_le _)⟩) ?_
    refine lv_aload_n hx hb dX0_sidesMeet_29 rfl (lv_at hl 0 rfl) ?_
    refine lv_aload_n hx hb dX0_sidesMeet_30 rfl (lv_at hl 0 rfl) ?_
    refine lv_iload_n hx hb dX0_sidesMeet_31 rfl (lv_at hl 2 rfl) ?_
    obtain ⟨r7, hcr7, h⟩ := og_bind h
    refine cp_s (va_runV (As := [.int a2]) (rest := [.ref q, .int r6, .int a1, .ref q]) ⟨hx, hb, hml, hown, hts⟩ (k_X0_next l D cI cF q qx qy xs ys n a2 _ hcr7) (cwV 1 hts gX0_sidesMeet_X0_next rfl rfl rfl (by decide +kernel) ⟨(Nat.le_of_ble_eq_true rfl), (Nat.le_of_ble_eq_true rfl)⟩) (pre_v (q0 := 0) (ci := 0) hK hP rfl rfl) rfl rfl hl.1 rfl (lv_room (Nat.le_of_ble_eq_true rfl)) dX0_sidesMeet_32 ⟨(Nat.zero_le _), (Nat.zero_le _)⟩) ?_
    obtain ⟨r8, hcr8, h⟩ := og_bind h
    refine cp_s (va_runV (As := [.int r7]) (rest := [.int r6, .int a1, .ref q]) ⟨hx, hb, hml, hown, hts⟩ (k_X0_y l D cI cF q qx qy xs ys n r7 _ hcr8) (cwV 1 hts gX0_sidesMeet_X0_y rfl rfl rfl (by decide +kernel) ⟨(Nat.le_of_ble_eq_true rfl), (Nat.le_of_ble_eq_true rfl)⟩) (pre_v (q0 := 0) (ci := 0) hK hP rfl rfl) rfl rfl hl.1 rfl (lv_room (Nat.le_of_ble_eq_true rfl)) dX0_sidesMeet_35 ⟨(Nat.zero_le _), (Nat.zero_le _)⟩) ?_
    obtain ⟨r9, hcr9, h⟩ := og_bind h
    refine cp_s (va_runV (As := [.int a1, .int r6, .int r8]) (rest := []) ⟨hx, hb, hml, hown, hts⟩ (k_X0_sideCarries l D cI cF q qx qy xs ys n a1 r6 r8 _ hcr9) (cwV 3 hts gX0_sidesMeet_X0_sideCarries rfl rfl rfl (by decide +kernel) ⟨(Nat.le_of_ble_eq_true rfl), (Nat.le_of_ble_eq_true rfl)⟩) (pre_v (q0 := 0) (ci := 0) hK hP rfl rfl) rfl rfl hl.1 rfl (lv_room (Nat.le_of_ble_eq_true rfl)) dX0_sidesMeet_38 ⟨(Nat.zero_le _), (Nat.zero_le _)⟩) ?_
    refine lv_if_eq (tgt := 46) hx hb dX0_sidesMeet_41 (by decide) (fun c9 => ?_) (fun c9 => ?_)
    · rw [if_pos c9] at h
      refine lv_aload_n hx hb dX0_sidesMeet_46 rfl (lv_at hl 0 rfl) ?_
      refine lv_iload_n hx hb dX0_sidesMeet_47 rfl (lv_at hl 2 rfl) ?_
      refine lv_aload_n hx hb dX0_sidesMeet_48 rfl (lv_at hl 0 rfl) ?_
      refine lv_iload_n hx hb dX0_sidesMeet_49 rfl (lv_at hl 1 rfl) ?_
      obtain ⟨r11, hcr11, h⟩ := og_bind h
      refine cp_s (va_runV (As := [.int a1]) (rest := [.int a2, .ref q]) ⟨hx, hb, hml, hown, hts⟩ (k_X0_x l D cI cF q qx qy xs ys n a1 _ hcr11) (cwV 1 hts gX0_sidesMeet_X0_x rfl rfl rfl (by decide +kernel) ⟨(Nat.le_of_ble_eq_true rfl), (Nat.le_of_ble_eq_true rfl)⟩) (pre_v (q0 := 0) (ci := 0) hK hP rfl rfl) rfl rfl hl.1 rfl (lv_room (Nat.le_of_ble_eq_true rfl)) dX0_sidesMeet_50 ⟨(Nat.zero_le _), (Nat.zero_le _)⟩) ?_
      refine lv_aload_n hx hb dX0_sidesMeet_53 rfl (lv_at hl 0 rfl) ?_
      refine lv_iload_n hx hb dX0_sidesMeet_54 rfl (lv_at hl 1 rfl) ?_
      obtain ⟨r12, hcr12, h⟩ := og_bind h
      refine cp_s (va_runV (As := [.int a1]) (rest := [.int r11, .int a2, .ref q]) ⟨hx, hb, hml, hown, hts⟩ (k_X0_y l D cI cF q qx qy xs ys n a1 _ hcr12) (cwV 1 hts gX0_sidesMeet_X0_y rfl rfl rfl (by decide +kernel) ⟨(Nat.le_of_ble_eq_true rfl), (Nat.le_of_ble_eq_true rfl)⟩) (pre_v (q0 := 0) (ci := 0) hK hP rfl rfl) rfl rfl hl.1 rfl (lv_room (Nat.le_of_ble_eq_true rfl)) dX0_sidesMeet_55 ⟨(Nat.zero_le _), (Nat.zero_le _)⟩) ?_
      obtain ⟨r13, hcr13, h⟩ := og_bind h
      refine cp_s (va_runV (As := [.int a2, .int r11, .int r12]) (rest := []) ⟨hx, hb, hml, hown, hts⟩ (k_X0_sideCarries l D cI cF q qx qy xs ys n a2 r11 r12 _ hcr13) (cwV 3 hts gX0_sidesMeet_X0_sideCarries rfl rfl rfl (by decide +kernel) ⟨(Nat.le_of_ble_eq_true rfl), (Nat.le_of_ble_eq_true rfl)⟩) (pre_v (q0 := 0) (ci := 0) hK hP rfl rfl) rfl rfl hl.1 rfl (lv_room (Nat.le_of_ble_eq_true rfl)) dX0_sidesMeet_58 ⟨(Nat.zero_le _), (Nat.zero_le _)⟩) ?_
      refine lv_if_ne (tgt := 90) hx hb dX0_sidesMeet_61 (by decide) (fun c13 => ?_) (fun c13 => ?_)
      · rw [if_neg c13] at h
        refine lv_iconst (v := 1) hx hb dX0_sidesMeet_90 (by decide) ?_
        obtain rfl := Option.some.inj h
        exact W.zret hx hb hr rfl (fun t ht _ => ⟨rfl, ht⟩) (fun _ h9 => absurd h9 List.not_mem_nil) dX0_sidesMeet_91
      · rw [if_pos c13] at h
        refine lv_aload_n hx hb dX0_sidesMeet_64 rfl (lv_at hl 0 rfl) ?_
        refine lv_iload_n hx hb dX0_sidesMeet_65 rfl (lv_at hl 2 rfl) ?_
        refine lv_aload_n hx hb dX0_sidesMeet_66 rfl (lv_at hl 0 rfl) ?_
        refine lv_aload_n hx hb dX0_sidesMeet_67 rfl (lv_at hl 0 rfl) ?_
        refine lv_iload_n hx hb dX0_sidesMeet_68 rfl (lv_at hl 1 rfl) ?_
        obtain ⟨r15, hcr15, h⟩ := og_bind h
        refine cp_s (va_runV (As := [.int a1]) (rest := [.ref q, .int a2, .ref q]) ⟨hx, hb, hml, hown, hts⟩ (k_X0_next l D cI cF q qx qy xs ys n a1 _ hcr15) (cwV 1 hts gX0_sidesMeet_X0_next rfl rfl rfl (by decide +kernel) ⟨(Nat.le_of_ble_eq_true rfl), (Nat.le_of_ble_eq_true rfl)⟩) (pre_v (q0 := 0) (ci := 0) hK hP rfl rfl) rfl rfl hl.1 rfl (lv_room (Nat.le_of_ble_eq_true rfl)) dX0_sidesMeet_69 ⟨(Nat.zero_le _), (Nat.zero_le _)⟩) ?_
        obtain ⟨r16, hcr16, h⟩ := og_bind h
        refine cp_s (va_runV (As := [.int r15]) (rest := [.int a2, .ref q]) ⟨hx, hb, hml, hown, hts⟩ (k_X0_x l D cI cF q qx qy xs ys n r15 _ hcr16) (cwV 1 hts gX0_sidesMeet_X0_x rfl rfl rfl (by decide +kernel) ⟨(Nat.le_of_ble_eq_true rfl), (Nat.le_of_ble_eq_true rfl)⟩) (pre_v (q0 := 0) (ci := 0) hK hP rfl rfl) rfl rfl hl.1 rfl (lv_room (Nat.le_of_ble_eq_true rfl)) dX0_sidesMeet_72 ⟨(Nat.zero_le _), (Nat.zero_le _)⟩) ?_
        refine lv_aload_n hx hb dX0_sidesMeet_75 rfl (lv_at hl 0 rfl) ?_
        refine lv_aload_n hx hb dX0_sidesMeet_76 rfl (lv_at hl 0 rfl) ?_
        refine lv_iload_n hx hb dX0_sidesMeet_77 rfl (lv_at hl 1 rfl) ?_
        obtain ⟨r17, hcr17, h⟩ := og_bind h
        refine cp_s (va_runV (As := [.int a1]) (rest := [.ref q, .int r16, .int a2, .ref q]) ⟨hx, hb, hml, hown, hts⟩ (k_X0_next l D cI cF q qx qy xs ys n a1 _ hcr17) (cwV 1 hts gX0_sidesMeet_X0_next rfl rfl rfl (by decide +kernel) ⟨(Nat.le_of_ble_eq_true rfl), (Nat.le_of_ble_eq_true rfl)⟩) (pre_v (q0 := 0) (ci := 0) hK hP rfl rfl) rfl rfl hl.1 rfl (lv_room (Nat.le_of_ble_eq_true rfl)) dX0_sidesMeet_78 ⟨(Nat.zero_le _), (Nat.zero_le _)⟩) ?_
        obtain ⟨r18, hcr18, h⟩ := og_bind h
        refine cp_s (va_runV (As := [.int r17]) (rest := [.int r16, .int a2, .ref q]) ⟨hx, hb, hml, hown, hts⟩ (k_X0_y l D cI cF q qx qy xs ys n r17 _ hcr18) (cwV 1 hts gX0_sidesMeet_X0_y rfl rfl rfl (by decide +kernel) ⟨(Nat.le_of_ble_eq_true rfl), (Nat.le_of_ble_eq_true rfl)⟩) (pre_v (q0 := 0) (ci := 0) hK hP rfl rfl) rfl rfl hl.1 rfl (lv_room (Nat.le_of_ble_eq_true rfl)) dX0_sidesMeet_81 ⟨(Nat.zero_le _), (Nat.zero_le _)⟩) ?_
        obtain ⟨r19, hcr19, h⟩ := og_bind h
        refine cp_s (va_runV (As := [.int a2, .int r16, .int r18]) (rest := []) ⟨hx, hb, hml, hown, hts⟩ (k_X0_sideCarries l D cI cF q qx qy xs ys n a2 r16 r18 _ hcr19) (cwV 3 hts gX0_sidesMeet_X0_sideCarries rfl rfl rfl (by decide +kernel) ⟨(Nat.le_of_ble_eq_true rfl), (Nat.le_of_ble_eq_true rfl)⟩) (pre_v (q0 := 0) (ci := 0) hK hP rfl rfl) rfl rfl hl.1 rfl (lv_room (Nat.le_of_ble_eq_true rfl)) dX0_sidesMeet_84 ⟨(Nat.zero_le _), (Nat.zero_le _)⟩) ?_
        refine lv_if_eq (tgt := 92) hx hb dX0_sidesMeet_87 (by decide) (fun c19 => ?_) (fun c19 => ?_)
        · rw [if_pos c19] at h
          refine lv_aload_n hx hb dX0_sidesMeet_92 rfl (lv_at hl 0 rfl) ?_
          refine lv_iload_n hx hb dX0_sidesMeet_93 rfl (lv_at hl 1 rfl) ?_
          refine lv_iload_n hx hb dX0_sidesMeet_94 rfl (lv_at hl 2 rfl) ?_
          obtain ⟨r21, hcr21, h⟩ := og_bind h
          refine cp_s (va_runV (As := [.int a1, .int a2]) (rest := []) ⟨hx, hb, hml, hown, hts⟩ (k_X0_parts l D cI cF q qx qy xs ys n a1 a2 _ hcr21) (cwV 2 hts gX0_sidesMeet_X0_parts rfl rfl rfl (by decide +kernel) ⟨(Nat.le_of_ble_eq_true rfl), (Nat.le_of_ble_eq_true rfl)⟩) (pre_v (q0 := 0) (ci := 0) hK hP rfl rfl) rfl rfl hl.1 rfl (lv_room (Nat.le_of_ble_eq_true rfl)) dX0_sidesMeet_95 ⟨(Nat.zero_le _), (Nat.zero_le _)⟩) ?_
          refine lv_if_eq (tgt := 114) hx hb dX0_sidesMeet_98 (by decide) (fun c21 => ?_) (fun c21 => ?_)
          · rw [if_pos c21] at h
            refine lv_iconst (v := 0) hx hb dX0_sidesMeet_114 (by decide) ?_
            obtain rfl := Option.some.inj h
            exact W.zret hx hb hr rfl (fun t ht _ => ⟨rfl, ht⟩) (fun _ h9 => absurd h9 List.not_mem_nil) dX0_sidesMeet_115
          · rw [if_neg c21] at h
            refine lv_aload_n hx hb dX0_sidesMeet_101 rfl (lv_at hl 0 rfl) ?_
            refine lv_iload_n hx hb dX0_sidesMeet_102 rfl (lv_at hl 2 rfl) ?_
            refine lv_iload_n hx hb dX0_sidesMeet_103 rfl (lv_at hl 1 rfl) ?_
            obtain ⟨r23, hcr23, h⟩ := og_bind h
            refine cp_s (va_runV (As := [.int a2, .int a1]) (rest := []) ⟨hx, hb, hml, hown, hts⟩ (k_X0_parts l D cI cF q qx qy xs ys n a2 a1 _ hcr23) (cwV 2 hts gX0_sidesMeet_X0_parts rfl rfl rfl (by decide +kernel) ⟨(Nat.le_of_ble_eq_true rfl), (Nat.le_of_ble_eq_true rfl)⟩) (pre_v (q0 := 0) (ci := 0) hK hP rfl rfl) rfl rfl hl.1 rfl (lv_room (Nat.le_of_ble_eq_true rfl)) dX0_sidesMeet_104 ⟨(Nat.zero_le _), (Nat.zero_le _)⟩) ?_
            refine lv_if_eq (tgt := 114) hx hb dX0_sidesMeet_107 (by decide) (fun c23 => ?_) (fun c23 => ?_)
            · rw [if_pos c23] at h
              refine lv_iconst (v := 0) hx hb dX0_sidesMeet_114 (by decide) ?_
              obtain rfl := Option.some.inj h
              exact W.zret hx hb hr rfl (fun t ht _ => ⟨rfl, ht⟩) (fun _ h9 => absurd h9 List.not_mem_nil) dX0_sidesMeet_115
            · rw [if_neg c23] at h
              refine lv_iconst (v := 1) hx hb dX0_sidesMeet_110 (by decide) ?_
              refine lv_goto (tgt := 115) hx hb dX0_sidesMeet_111 (by decide) ?_
              obtain rfl := Option.some.inj h
              exact W.zret hx hb hr rfl (fun t ht _ => ⟨rfl, ht⟩) (fun _ h9 => absurd h9 List.not_mem_nil) dX0_sidesMeet_115
        · rw [if_neg c19] at h
          refine lv_iconst (v := 1) hx hb dX0_sidesMeet_90 (by decide) ?_
          obtain rfl := Option.some.inj h
          exact W.zret hx hb hr rfl (fun t ht _ => ⟨rfl, ht⟩) (fun _ h9 => absurd h9 List.not_mem_nil) dX0_sidesMeet_91
    · rw [if_neg c9] at h
      refine lv_iconst (v := 1) hx hb dX0_sidesMeet_44 (by decide) ?_
      obtain rfl := Option.some.inj h
      exact W.zret hx hb hr rfl (fun t ht _ => ⟨rfl, ht⟩) (fun _ h9 => absurd h9 List.not_mem_nil) dX0_sidesMeet_45
def f_X0_samePlace (xs : Nat → Int32) (ys : Nat → Int32) (us : Nat → Int32) (vs : Nat → Int32) (a1 : Int32) (a3 : Int32) : Option Int32 :=
  (f_X0_x xs a1).bind fun r1 =>
  (f_X0_x us a3).bind fun r2 =>
  if r1 = r2 then
  ((f_X0_y ys a1).bind fun r4 =>
  (f_X0_y vs a3).bind fun r5 =>
  if r4 = r5 then
  (some (1 : Int32))
  else
  (some (0 : Int32)))
  else
  (some (0 : Int32))
set_option maxHeartbeats 4000000 in
set_option maxRecDepth 100000 in
theorem k_X0_samePlace (l : Launch) (D : va_G) (cI cF : ClassId) (q : Nat) (qx : Nat) (qy : Nat) (xs : Nat → Int32) (ys : Nat → Int32) (n : Int32) (w : Nat) (wx : Nat) (wy : Nat) (us : Nat → Int32) (vs : Nat → Int32) (k : Int32) (a1 : Int32) (a3 : Int32) (r0 : Int32) (h : f_X0_samePlace xs ys us vs a1 a3 = some r0) : Met l yX0_samePlace wsX0_samePlace ({ frames := 1, cells := 0, slots := 0, locals := 21 }) (va_Pc [.ref q, .int a1, .ref w, .int a3] (fun U => wK D cI cF (fig2W cI q qx qy xs ys n w wx wy us vs k) U)) (qS (.int r0)) 0 0 (fun _ => False) := by
  refine Met.ofW (cc := cX0_samePlace) (maxL := 4) (ret := (some .boolean)) (by decide) rfl ?_
  intro p e s m args below meth c s₁ B hml hv
  obtain ⟨rfl, hK, hP⟩ := hv
  have hx := B.exec
  have hb := B.bytes
  have hr := B.returns
  have hts := atoms_spec (ws := wsX0_samePlace) B.pre
  have hown : s.vm.findClass RX0 = some m.cls := findClass_of_methodNamed B.named
  have hlocks := B.notSynchronized
  have hl := lv_entry ([.ref q, .int a1, .ref w, .int a3]) (n := 4) (Nat.le_of_ble_eq_true rfl)
  rw [lg_entry_eq]
  generalize (lg_sl ([.ref q, .int a1, .ref w, .int a3]) ++ List.replicate (4 - (lg_sl ([.ref q, .int a1, .ref w, .int a3])).length) Slot.unset).toArray = ls at hl ⊢
  have hl : lv_has ls 4 [(0, .ref q), (1, .int a1), (2, .ref w), (3, .int a3)] := hl
  unfold f_X0_samePlace at h
  refine lv_aload_n hx hb dX0_samePlace_0 rfl (lv_at hl 0 rfl) ?_
  refine lv_iload_n hx hb dX0_samePlace_1 rfl (lv_at hl 1 rfl) ?_
  have hPc := hP.sub (ws' := figW cI q qx qy xs ys n) [0, 1, 2] rfl
  obtain ⟨r1, hcr1, h⟩ := og_bind h
  refine cp_s (va_runV (As := [.int a1]) (rest := []) ⟨hx, hb, hml, hown, hts⟩ (k_X0_x l D cI cF q qx qy xs ys n a1 _ hcr1) (cwV 1 hts gX0_samePlace_X0_x rfl rfl rfl (by decide +kernel) ⟨(Nat.le_of_ble_eq_true rfl), (Nat.le_of_ble_eq_true rfl)⟩) (pre_v (q0 := 0) (ci := 0) hK hPc rfl rfl) rfl rfl hl.1 rfl (lv_room (Nat.le_of_ble_eq_true rfl)) dX0_samePlace_2 ⟨(Nat.zero_le _), (Nat.zero_le _)⟩) ?_
  refine lv_aload_n hx hb dX0_samePlace_5 rfl (lv_at hl 2 rfl) ?_
  refine lv_iload_n hx hb dX0_samePlace_6 rfl (lv_at hl 3 rfl) ?_
  have hPc := hP.sub (ws' := figW cI w wx wy us vs k) [3, 4, 5] rfl
  obtain ⟨r2, hcr2, h⟩ := og_bind h
  refine cp_s (va_runV (As := [.int a3]) (rest := [.int r1]) ⟨hx, hb, hml, hown, hts⟩ (k_X0_x l D cI cF w wx wy us vs k a3 _ hcr2) (cwV 1 hts gX0_samePlace_X0_x rfl rfl rfl (by decide +kernel) ⟨(Nat.le_of_ble_eq_true rfl), (Nat.le_of_ble_eq_true rfl)⟩) (pre_v (q0 := 0) (ci := 0) hK hPc rfl rfl) rfl rfl hl.1 rfl (lv_room (Nat.le_of_ble_eq_true rfl)) dX0_samePlace_7 ⟨(Nat.zero_le _), (Nat.zero_le _)⟩) ?_
  refine lv_icmp_ne (tgt := 30) hx hb dX0_samePlace_10 (by decide) (fun c2 => ?_) (fun c2 => ?_)
  · rw [if_neg c2] at h
    refine lv_iconst (v := 0) hx hb dX0_samePlace_30 (by decide) ?_
    obtain rfl := Option.some.inj h
    exact W.zret hx hb hr rfl (fun t ht _ => ⟨rfl, ht⟩) (fun _ h9 => absurd h9 List.not_mem_nil) dX0_samePlace_31
  · rw [if_pos c2] at h
    refine lv_aload_n hx hb dX0_samePlace_13 rfl (lv_at hl 0 rfl) ?_
    refine lv_iload_n hx hb dX0_samePlace_14 rfl (lv_at hl 1 rfl) ?_
    have hPc := hP.sub (ws' := figW cI q qx qy xs ys n) [0, 1, 2] rfl
    obtain ⟨r4, hcr4, h⟩ := og_bind h
    refine cp_s (va_runV (As := [.int a1]) (rest := []) ⟨hx, hb, hml, hown, hts⟩ (k_X0_y l D cI cF q qx qy xs ys n a1 _ hcr4) (cwV 1 hts gX0_samePlace_X0_y rfl rfl rfl (by decide +kernel) ⟨(Nat.le_of_ble_eq_true rfl), (Nat.le_of_ble_eq_true rfl)⟩) (pre_v (q0 := 0) (ci := 0) hK hPc rfl rfl) rfl rfl hl.1 rfl (lv_room (Nat.le_of_ble_eq_true rfl)) dX0_samePlace_15 ⟨(Nat.zero_le _), (Nat.zero_le _)⟩) ?_
    refine lv_aload_n hx hb dX0_samePlace_18 rfl (lv_at hl 2 rfl) ?_
    refine lv_iload_n hx hb dX0_samePlace_19 rfl (lv_at hl 3 rfl) ?_
    have hPc := hP.sub (ws' := figW cI w wx wy us vs k) [3, 4, 5] rfl
    obtain ⟨r5, hcr5, h⟩ := og_bind h
    refine cp_s (va_runV (As := [.int a3]) (rest := [.int r4]) ⟨hx, hb, hml, hown, hts⟩ (k_X0_y l D cI cF w wx wy us vs k a3 _ hcr5) (cwV 1 hts gX0_samePlace_X0_y rfl rfl rfl (by decide +kernel) ⟨(Nat.le_of_ble_eq_true rfl), (Nat.le_of_ble_eq_true rfl)⟩) (pre_v (q0 := 0) (ci := 0) hK hPc rfl rfl) rfl rfl hl.1 rfl (lv_room (Nat.le_of_ble_eq_true rfl)) dX0_samePlace_20 ⟨(Nat.zero_le _), (Nat.zero_le _)⟩) ?_
    refine lv_icmp_ne (tgt := 30) hx hb dX0_samePlace_23 (by decide) (fun c5 => ?_) (fun c5 => ?_)
    · rw [if_neg c5] at h
      refine lv_iconst (v := 0) hx hb dX0_samePlace_30 (by decide) ?_
      obtain rfl := Option.some.inj h
      exact W.zret hx hb hr rfl (fun t ht _ => ⟨rfl, ht⟩) (fun _ h9 => absurd h9 List.not_mem_nil) dX0_samePlace_31
    · rw [if_pos c5] at h
      refine lv_iconst (v := 1) hx hb dX0_samePlace_26 (by decide) ?_
      refine lv_goto (tgt := 31) hx hb dX0_samePlace_27 (by decide) ?_
      obtain rfl := Option.some.inj h
      exact W.zret hx hb hr rfl (fun t ht _ => ⟨rfl, ht⟩) (fun _ h9 => absurd h9 List.not_mem_nil) dX0_samePlace_31
def s_X0_neverMeetsItself_38 (xs : Nat → Int32) (ys : Nat → Int32) (n : Int32) (u2 : Int32) (u38 : Int32) : Option (Int32 ⊕ (Int32 ⊕ Unit)) :=
  if n ≤ u38 then
  (some (.inr (.inr ())))
  else
  ((f_X0_next n u38).bind fun r9 =>
  if r9 = u2 then
  (ov (u38 + (1 : Int32)) fun v11 =>
  some (.inl v11))
  else
  ((f_X0_sidesMeet xs ys n u2 u38).bind fun r12 =>
  if r12 = (0) then
  (ov (u38 + (1 : Int32)) fun v14 =>
  some (.inl v14))
  else
  (some (.inr (.inl (0 : Int32))))))
def s_X0_neverMeetsItself_2 (xs : Nat → Int32) (ys : Nat → Int32) (n : Int32) (u2 : Int32) : Option (Int32 ⊕ (Int32 ⊕ Unit)) :=
  if n ≤ u2 then
  (some (.inr (.inr ())))
  else
  ((f_X0_next n u2).bind fun r2 =>
  (f_X0_samePlace xs ys xs ys u2 r2).bind fun r3 =>
  if r3 = (0) then
  ((f_X0_foldsBack xs ys n u2).bind fun r5 =>
  if r5 = (0) then
  (ov (u2 + (2 : Int32)) fun v7 =>
  (lpf (s_X0_neverMeetsItself_38 xs ys n u2) 1000 v7).bind fun o17 => ret2 o17 (fun r9 => some (.inr (.inl r9))) fun x15 =>
  ov (u2 + (1 : Int32)) fun v16 =>
  some (.inl v16))
  else
  (some (.inr (.inl (0 : Int32)))))
  else
  (some (.inr (.inl (0 : Int32)))))
def f_X0_neverMeetsItself (xs : Nat → Int32) (ys : Nat → Int32) (n : Int32) : Option Int32 :=
  (lpf (s_X0_neverMeetsItself_2 xs ys n) 1000 (0 : Int32)).bind fun o19 => ret2 o19 (fun r9 => some r9) fun x18 =>
  some (1 : Int32)
set_option maxHeartbeats 4000000 in
set_option maxRecDepth 100000 in
theorem k_X0_neverMeetsItself (l : Launch) (D : va_G) (cI cF : ClassId) (q : Nat) (qx : Nat) (qy : Nat) (xs : Nat → Int32) (ys : Nat → Int32) (n : Int32) (r0 : Int32) (h : f_X0_neverMeetsItself xs ys n = some r0) : Met l yX0_neverMeetsItself wsX0_neverMeetsItself ({ frames := 4, cells := 0, slots := 0, locals := 95 }) (va_Pc [.ref q] (fun U => wK D cI cF (figW cI q qx qy xs ys n) U)) (qS (.int r0)) 0 0 (fun _ => False) := by
  refine Met.ofW (cc := cX0_neverMeetsItself) (maxL := 3) (ret := (some .boolean)) (by decide) rfl ?_
  intro p e s m args below meth c s₁ B hml hv
  obtain ⟨rfl, hK, hP⟩ := hv
  have hx := B.exec
  have hb := B.bytes
  have hr := B.returns
  have hts := atoms_spec (ws := wsX0_neverMeetsItself) B.pre
  have hown : s.vm.findClass RX0 = some m.cls := findClass_of_methodNamed B.named
  have hlocks := B.notSynchronized
  have ht1 := hts (.fieldLink RX0 18 "DrawnAreas$Figure" "size" "I") (by decide +kernel)
  have hinX0 : ∀ w ∈ u_ws RX0 TX0 3, w ∈ wsX0_neverMeetsItself := by decide +kernel
  have hl := lv_entry ([.ref q]) (n := 3) (Nat.le_of_ble_eq_true rfl)
  rw [lg_entry_eq]
  generalize (lg_sl ([.ref q]) ++ List.replicate (3 - (lg_sl ([.ref q])).length) Slot.unset).toArray = ls at hl ⊢
  have hl : lv_has ls 3 [(0, .ref q)] := hl
  unfold f_X0_neverMeetsItself at h
  refine lv_iconst (v := 0) hx hb dX0_neverMeetsItself_0 (by decide) ?_
  refine lv_istore_n (lv' := [(1, .int (0 : Int32)), (0, .ref q)]) hx hb dX0_neverMeetsItself_1 rfl hl (by decide) rfl (fun ls hl => ?_)
  obtain ⟨o19, hN2, h⟩ := og_bind h
  refine wlr (r0 := r0) hN2 2 78 (fun u2 ls => lv_has ls 3 [(0, .ref q), (1, .int u2)]) (fun x18 ls => lv_has ls 3 []) (fun u2 xx h ki2 kx2 kr2 ls hl => ?_) (fun r9 e9 => ?_) (fun x18 ls e9 hl => ?_) (lv_sub hl [1, 0] rfl)
  · unfold s_X0_neverMeetsItself_2 at h
    refine lv_iload_n hx hb dX0_neverMeetsItself_2 rfl (lv_at hl 1 rfl) ?_
    refine lv_aload_n hx hb dX0_neverMeetsItself_3 rfl (lv_at hl 0 rfl) ?_
    refine va_get (D := D) (ci := 0) (v := .int n) (C := RX0) (T := TX0) (N := 3) hx hb hts hinX0 hown hK hP 0 rfl rfl 2 (by decide) ht1 (fun _ h9 => h9) rfl dX0_neverMeetsItself_4 ?_
    refine lv_icmp_ge (tgt := 78) hx hb dX0_neverMeetsItself_7 (by decide) (fun c0 => ?_) (fun c0 => ?_)
    · rw [if_pos c0] at h
      exact kx2 _ ls (Option.some.inj h).symm (lv_sub hl [] rfl)
    · rw [if_neg c0] at h
      refine lv_aload_n hx hb dX0_neverMeetsItself_10 rfl (lv_at hl 0 rfl) ?_
      refine lv_iload_n hx hb dX0_neverMeetsItself_11 rfl (lv_at hl 1 rfl) ?_
      refine lv_aload_n hx hb dX0_neverMeetsItself_12 rfl (lv_at hl 0 rfl) ?_
      refine lv_aload_n hx hb dX0_neverMeetsItself_13 rfl (lv_at hl 0 rfl) ?_
      refine lv_iload_n hx hb dX0_neverMeetsItself_14 rfl (lv_at hl 1 rfl) ?_
      obtain ⟨r2, hcr2, h⟩ := og_bind h
      refine cp_s (va_runV (As := [.int u2]) (rest := [.ref q, .int u2, .ref q]) ⟨hx, hb, hml, hown, hts⟩ (k_X0_next l D cI cF q qx qy xs ys n u2 _ hcr2) (cwV 1 hts gX0_neverMeetsItself_X0_next rfl rfl rfl (by decide +kernel) ⟨(Nat.le_of_ble_eq_true rfl), (Nat.le_of_ble_eq_true rfl)⟩) (pre_v (q0 := 0) (ci := 0) hK hP rfl rfl) rfl rfl hl.1 rfl (lv_room (Nat.le_of_ble_eq_true rfl)) dX0_neverMeetsItself_15 ⟨(Nat.zero_le _), (Nat.zero_le _)⟩) ?_
      have hPc := hP.sub (ws' := fig2W cI q qx qy xs ys n q qx qy xs ys n) [0, 1, 2, 0, 1, 2] rfl
      obtain ⟨r3, hcr3, h⟩ := og_bind h
      refine cp_s (va_runV (As := [.int u2, .ref q, .int r2]) (rest := []) ⟨hx, hb, hml, hown, hts⟩ (k_X0_samePlace l D cI cF q qx qy xs ys n q qx qy xs ys n u2 r2 _ hcr3) (cwV 3 hts gX0_neverMeetsItself_X0_samePlace rfl rfl rfl (by decide +kernel) ⟨(Nat.le_of_ble_eq_true rfl), (Nat.le_of_ble_eq_true rfl)⟩) (pre_v (q0 := 0) (ci := 0) hK hPc rfl rfl) rfl rfl hl.1 rfl (lv_room (Nat.le_of_ble_eq_true rfl)) dX0_neverMeetsItself_18 ⟨(Nat.zero_le _), (Nat.zero_le _)⟩) ?_
      refine lv_if_ne (tgt := 32) hx hb dX0_neverMeetsItself_21 (by decide) (fun c3 => ?_) (fun c3 => ?_)
      · rw [if_neg c3] at h
        refine lv_iconst (v := 0) hx hb dX0_neverMeetsItself_32 (by decide) ?_
        obtain rfl := kr2 _ (Option.some.inj h).symm
        exact W.zret hx hb hr rfl (fun t ht _ => ⟨rfl, ht⟩) (fun _ h9 => absurd h9 List.not_mem_nil) dX0_neverMeetsItself_33
      · rw [if_pos c3] at h
        refine lv_aload_n hx hb dX0_neverMeetsItself_24 rfl (lv_at hl 0 rfl) ?_
        refine lv_iload_n hx hb dX0_neverMeetsItself_25 rfl (lv_at hl 1 rfl) ?_
        obtain ⟨r5, hcr5, h⟩ := og_bind h
        refine cp_s (va_runV (As := [.int u2]) (rest := []) ⟨hx, hb, hml, hown, hts⟩ (k_X0_foldsBack l D cI cF q qx qy xs ys n u2 _ hcr5) (cwV 1 hts gX0_neverMeetsItself_X0_foldsBack rfl rfl rfl (by decide +kernel) ⟨(Nat.le_of_ble_eq_true rfl), (Nat.le_of_ble_eq_true rfl)⟩) (pre_v (q0 := 0) (ci := 0) hK hP rfl rfl) rfl rfl hl.1 rfl (lv_room (Nat.le_of_ble_eq_true rfl)) dX0_neverMeetsItself_26 ⟨(Nat.zero_le _), (Nat.zero_le _)⟩) ?_
        refine lv_if_eq (tgt := 34) hx hb dX0_neverMeetsItself_29 (by decide) (fun c5 => ?_) (fun c5 => ?_)
        · rw [if_pos c5] at h
          refine lv_iload_n hx hb dX0_neverMeetsItself_34 rfl (lv_at hl 1 rfl) ?_
          refine lv_iconst (v := 2) hx hb dX0_neverMeetsItself_35 (by decide) ?_
          refine lv_iadd hx hb dX0_neverMeetsItself_36 ?_
          refine lv_topi (fun v7 ev7 => ?_)
          have h := og_ov h ev7
          refine lv_istore_n (lv' := [(2, .int v7), (0, .ref q), (1, .int u2)]) hx hb dX0_neverMeetsItself_37 rfl hl (by decide) rfl (fun ls hl => ?_)
          obtain ⟨o17, hN38, h⟩ := og_bind h
          refine wlr (r0 := r0) hN38 38 72 (fun u38 ls => lv_has ls 3 [(0, .ref q), (1, .int u2), (2, .int u38)]) (fun x15 ls => lv_has ls 3 [(0, .ref q), (1, .int u2)]) (fun u38 xx h ki38 kx38 kr38 ls hl => ?_) (fun r9 e9 => ?_) (fun x15 ls e9 hl => ?_) (lv_sub hl [1, 2, 0] rfl)
          · unfold s_X0_neverMeetsItself_38 at h
            refine lv_iload_n hx hb dX0_neverMeetsItself_38 rfl (lv_at hl 2 rfl) ?_
            refine lv_aload_n hx hb dX0_neverMeetsItself_39 rfl (lv_at hl 0 rfl) ?_
            refine va_get (D := D) (ci := 0) (v := .int n) (C := RX0) (T := TX0) (N := 3) hx hb hts hinX0 hown hK hP 0 rfl rfl 2 (by decide) ht1 (fun _ h9 => h9) rfl dX0_neverMeetsItself_40 ?_
            refine lv_icmp_ge (tgt := 72) hx hb dX0_neverMeetsItself_43 (by decide) (fun c7 => ?_) (fun c7 => ?_)
            · rw [if_pos c7] at h
              exact kx38 _ ls (Option.some.inj h).symm (lv_sub hl [0, 1] rfl)
            · rw [if_neg c7] at h
              refine lv_aload_n hx hb dX0_neverMeetsItself_46 rfl (lv_at hl 0 rfl) ?_
              refine lv_iload_n hx hb dX0_neverMeetsItself_47 rfl (lv_at hl 2 rfl) ?_
              obtain ⟨r9, hcr9, h⟩ := og_bind h
              refine cp_s (va_runV (As := [.int u38]) (rest := []) ⟨hx, hb, hml, hown, hts⟩ (k_X0_next l D cI cF q qx qy xs ys n u38 _ hcr9) (cwV 1 hts gX0_neverMeetsItself_X0_next rfl rfl rfl (by decide +kernel) ⟨(Nat.le_of_ble_eq_true rfl), (Nat.le_of_ble_eq_true rfl)⟩) (pre_v (q0 := 0) (ci := 0) hK hP rfl rfl) rfl rfl hl.1 rfl (lv_room (Nat.le_of_ble_eq_true rfl)) dX0_neverMeetsItself_48 ⟨(Nat.zero_le _), (Nat.zero_le _)⟩) ?_
              refine lv_iload_n hx hb dX0_neverMeetsItself_51 rfl (lv_at hl 1 rfl) ?_
              refine lv_icmp_eq (tgt := 66) hx hb dX0_neverMeetsItself_52 (by decide) (fun c9 => ?_) (fun c9 => ?_)
              · rw [if_pos c9] at h
                obtain ⟨v11, ev11⟩ : ∃ y : Int32, y = u38 + (1 : Int32) := ⟨_, rfl⟩
                have h := og_ov h ev11
                refine lv_iinc (v := v11) (lv' := [(2, .int v11), (0, .ref q), (1, .int u2)]) hx hb dX0_neverMeetsItself_66 hl (k := 2) rfl (by rw [ev11]; rfl) (by decide) rfl (fun ls hl => ?_)
                refine lv_goto (tgt := 38) hx hb dX0_neverMeetsItself_69 (by decide) ?_
                exact ki38 _ ls (Option.some.inj h).symm (lv_sub hl [1, 2, 0] rfl)
              · rw [if_neg c9] at h
                refine lv_aload_n hx hb dX0_neverMeetsItself_55 rfl (lv_at hl 0 rfl) ?_
                refine lv_iload_n hx hb dX0_neverMeetsItself_56 rfl (lv_at hl 1 rfl) ?_
                refine lv_iload_n hx hb dX0_neverMeetsItself_57 rfl (lv_at hl 2 rfl) ?_
                obtain ⟨r12, hcr12, h⟩ := og_bind h
                refine cp_s (va_runV (As := [.int u2, .int u38]) (rest := []) ⟨hx, hb, hml, hown, hts⟩ (k_X0_sidesMeet l D cI cF q qx qy xs ys n u2 u38 _ hcr12) (cwV 2 hts gX0_neverMeetsItself_X0_sidesMeet rfl rfl rfl (by decide +kernel) ⟨(Nat.le_of_ble_eq_true rfl), (Nat.le_of_ble_eq_true rfl)⟩) (pre_v (q0 := 0) (ci := 0) hK hP rfl rfl) rfl rfl hl.1 rfl (lv_room (Nat.le_of_ble_eq_true rfl)) dX0_neverMeetsItself_58 ⟨(Nat.zero_le _), (Nat.zero_le _)⟩) ?_
                refine lv_if_eq (tgt := 66) hx hb dX0_neverMeetsItself_61 (by decide) (fun c12 => ?_) (fun c12 => ?_)
                · rw [if_pos c12] at h
                  obtain ⟨v14, ev14⟩ : ∃ y : Int32, y = u38 + (1 : Int32) := ⟨_, rfl⟩
                  have h := og_ov h ev14
                  refine lv_iinc (v := v14) (lv' := [(2, .int v14), (0, .ref q), (1, .int u2)]) hx hb dX0_neverMeetsItself_66 hl (k := 2) rfl (by rw [ev14]; rfl) (by decide) rfl (fun ls hl => ?_)
                  refine lv_goto (tgt := 38) hx hb dX0_neverMeetsItself_69 (by decide) ?_
                  exact ki38 _ ls (Option.some.inj h).symm (lv_sub hl [1, 2, 0] rfl)
                · rw [if_neg c12] at h
                  refine lv_iconst (v := 0) hx hb dX0_neverMeetsItself_64 (by decide) ?_
                  obtain rfl := kr38 _ (Option.some.inj h).symm
                  exact W.zret hx hb hr rfl (fun t ht _ => ⟨rfl, ht⟩) (fun _ h9 => absurd h9 List.not_mem_nil) dX0_neverMeetsItself_65
          · subst e9
            exact kr2 _ (Option.some.inj h).symm
          · subst e9
            dsimp only [ret2] at h
            obtain ⟨v16, ev16⟩ : ∃ y : Int32, y = u2 + (1 : Int32) := ⟨_, rfl⟩
            have h := og_ov h ev16
            refine lv_iinc (v := v16) (lv' := [(1, .int v16), (0, .ref q)]) hx hb dX0_neverMeetsItself_72 hl (k := 1) rfl (by rw [ev16]; rfl) (by decide) rfl (fun ls hl => ?_)
            refine lv_goto (tgt := 2) hx hb dX0_neverMeetsItself_75 (by decide) ?_
            exact ki2 _ ls (Option.some.inj h).symm (lv_sub hl [1, 0] rfl)
        · rw [if_neg c5] at h
          refine lv_iconst (v := 0) hx hb dX0_neverMeetsItself_32 (by decide) ?_
          obtain rfl := kr2 _ (Option.some.inj h).symm
          exact W.zret hx hb hr rfl (fun t ht _ => ⟨rfl, ht⟩) (fun _ h9 => absurd h9 List.not_mem_nil) dX0_neverMeetsItself_33
  · subst e9
    exact Option.some.inj h
  · subst e9
    dsimp only [ret2] at h
    refine lv_iconst (v := 1) hx hb dX0_neverMeetsItself_78 (by decide) ?_
    obtain rfl := Option.some.inj h
    exact W.zret hx hb hr rfl (fun t ht _ => ⟨rfl, ht⟩) (fun _ h9 => absurd h9 List.not_mem_nil) dX0_neverMeetsItself_79
def f_X0_squareTo (xs : Nat → Int32) (ys : Nat → Int32) (a1 : Int32) (a2 : Int64) (a3 : Int64) : Option Int64 :=
  (f_X0_x xs a1).bind fun r1 =>
  ov (a2 - (r1.toInt64)) fun v2 =>
  (f_X0_y ys a1).bind fun r3 =>
  ov (a3 - (r3.toInt64)) fun v4 =>
  some ((v2 * v2) + (v4 * v4))
set_option maxHeartbeats 4000000 in
set_option maxRecDepth 100000 in
theorem k_X0_squareTo (l : Launch) (D : va_G) (cI cF : ClassId) (q : Nat) (qx : Nat) (qy : Nat) (xs : Nat → Int32) (ys : Nat → Int32) (n : Int32) (a1 : Int32) (a2 : Int64) (a3 : Int64) (r0 : Int64) (h : f_X0_squareTo xs ys a1 a2 a3 = some r0) : Met l yX0_squareTo wsX0_squareTo ({ frames := 1, cells := 0, slots := 0, locals := 21 }) (va_Pc [.ref q, .int a1, .long a2, .long a3] (fun U => wK D cI cF (figW cI q qx qy xs ys n) U)) (qS (.long r0)) 0 0 (fun _ => False) := by
  refine Met.ofW (cc := cX0_squareTo) (maxL := 10) (ret := (some .long)) (by decide) rfl ?_
  intro p e s m args below meth c s₁ B hml hv
  obtain ⟨rfl, hK, hP⟩ := hv
  have hx := B.exec
  have hb := B.bytes
  have hr := B.returns
  have hts := atoms_spec (ws := wsX0_squareTo) B.pre
  have hown : s.vm.findClass RX0 = some m.cls := findClass_of_methodNamed B.named
  have hlocks := B.notSynchronized
  have hl := lv_entry ([.ref q, .int a1, .long a2, .long a3]) (n := 10) (Nat.le_of_ble_eq_true rfl)
  rw [lg_entry_eq]
  generalize (lg_sl ([.ref q, .int a1, .long a2, .long a3]) ++ List.replicate (10 - (lg_sl ([.ref q, .int a1, .long a2, .long a3])).length) Slot.unset).toArray = ls at hl ⊢
  have hl : lv_has ls 10 [(0, .ref q), (1, .int a1), (2, .long a2), (4, .long a3)] := hl
  unfold f_X0_squareTo at h
  refine lv_lload_n hx hb dX0_squareTo_0 rfl (lv_at hl 2 rfl) ?_
  refine lv_aload_n hx hb dX0_squareTo_1 rfl (lv_at hl 0 rfl) ?_
  refine lv_iload_n hx hb dX0_squareTo_2 rfl (lv_at hl 1 rfl) ?_
  obtain ⟨r1, hcr1, h⟩ := og_bind h
  refine cp_s (va_runV (As := [.int a1]) (rest := [.long a2]) ⟨hx, hb, hml, hown, hts⟩ (k_X0_x l D cI cF q qx qy xs ys n a1 _ hcr1) (cwV 1 hts gX0_squareTo_X0_x rfl rfl rfl (by decide +kernel) ⟨(Nat.le_of_ble_eq_true rfl), (Nat.le_of_ble_eq_true rfl)⟩) (pre_v (q0 := 0) (ci := 0) hK hP rfl rfl) rfl rfl hl.1 rfl (lv_room (Nat.le_of_ble_eq_true rfl)) dX0_squareTo_3 ⟨(Nat.zero_le _), (Nat.zero_le _)⟩) ?_
  refine lv_i2l hx hb dX0_squareTo_6 rfl ?_
  refine lv_lsub hx hb dX0_squareTo_7 ?_
  refine lv_topl (fun v2 ev2 => ?_)
  have h := og_ov h ev2
  refine lv_lstore (lv' := [(6, .long v2), (0, .ref q), (1, .int a1), (2, .long a2), (4, .long a3)]) hx hb dX0_squareTo_8 hl (by decide) rfl (fun ls hl => ?_)
  refine lv_lload hx hb dX0_squareTo_10 (lv_at hl 4 rfl) ?_
  refine lv_aload_n hx hb dX0_squareTo_12 rfl (lv_at hl 1 rfl) ?_
  refine lv_iload_n hx hb dX0_squareTo_13 rfl (lv_at hl 2 rfl) ?_
  obtain ⟨r3, hcr3, h⟩ := og_bind h
  refine cp_s (va_runV (As := [.int a1]) (rest := [.long a3]) ⟨hx, hb, hml, hown, hts⟩ (k_X0_y l D cI cF q qx qy xs ys n a1 _ hcr3) (cwV 1 hts gX0_squareTo_X0_y rfl rfl rfl (by decide +kernel) ⟨(Nat.le_of_ble_eq_true rfl), (Nat.le_of_ble_eq_true rfl)⟩) (pre_v (q0 := 0) (ci := 0) hK hP rfl rfl) rfl rfl hl.1 rfl (lv_room (Nat.le_of_ble_eq_true rfl)) dX0_squareTo_14 ⟨(Nat.zero_le _), (Nat.zero_le _)⟩) ?_
  refine lv_i2l hx hb dX0_squareTo_17 rfl ?_
  refine lv_lsub hx hb dX0_squareTo_18 ?_
  refine lv_topl (fun v4 ev4 => ?_)
  have h := og_ov h ev4
  refine lv_lstore (lv' := [(8, .long v4), (6, .long v2), (0, .ref q), (1, .int a1), (2, .long a2), (4, .long a3)]) hx hb dX0_squareTo_19 hl (by decide) rfl (fun ls hl => ?_)
  refine lv_lload hx hb dX0_squareTo_21 (lv_at hl 1 rfl) ?_
  refine lv_lload hx hb dX0_squareTo_23 (lv_at hl 1 rfl) ?_
  refine lv_lmul hx hb dX0_squareTo_25 ?_
  refine lv_lload hx hb dX0_squareTo_26 (lv_at hl 0 rfl) ?_
  refine lv_lload hx hb dX0_squareTo_28 (lv_at hl 0 rfl) ?_
  refine lv_lmul hx hb dX0_squareTo_30 ?_
  refine lv_ladd hx hb dX0_squareTo_31 ?_
  obtain rfl := Option.some.inj h
  exact W.lret hx hb hr (fun t ht _ => ⟨rfl, ht⟩) (fun _ h9 => absurd h9 List.not_mem_nil) dX0_squareTo_32
def f_J13_compare_74951 (a1 : Int64) (a2 : Int64) : Option Int32 :=
  if (0) ≤ (lg_cmp a1 a2) then
  (if (lg_cmp a1 a2) = (0) then
  (some (0 : Int32))
  else
  (some (1 : Int32)))
  else
  (some (-1 : Int32))
set_option maxHeartbeats 4000000 in
set_option maxRecDepth 100000 in
theorem k_J13_compare_74951 (l : Launch) (a1 : Int64) (a2 : Int64) (r0 : Int32) (h : f_J13_compare_74951 a1 a2 = some r0) : Met l yJ13_compare_74951 wsJ13_compare_74951 ({ frames := 0, cells := 0, slots := 0, locals := 0 }) (va_Pc [.long a1, .long a2] (fun _ => True)) (qS (.int r0)) 0 0 (fun _ => False) := by
  refine Met.ofW (cc := cJ13_compare_74951) (maxL := 4) (ret := (some .int)) (by decide) rfl ?_
  intro p e s m args below meth c s₁ B hml hv
  obtain ⟨rfl, -⟩ := hv
  have hx := B.exec
  have hb := B.bytes
  have hr := B.returns
  have hts := atoms_spec (ws := wsJ13_compare_74951) B.pre
  have hown : s.vm.findClass RJ13 = some m.cls := findClass_of_methodNamed B.named
  have hlocks := B.notSynchronized
  have hl := lv_entry ([.long a1, .long a2]) (n := 4) (Nat.le_of_ble_eq_true rfl)
  rw [lg_entry_eq]
  generalize (lg_sl ([.long a1, .long a2]) ++ List.replicate (4 - (lg_sl ([.long a1, .long a2])).length) Slot.unset).toArray = ls at hl ⊢
  have hl : lv_has ls 4 [(0, .long a1), (2, .long a2)] := hl
  unfold f_J13_compare_74951 at h
  refine lv_lload_n hx hb dJ13_compare_74951_0 rfl (lv_at hl 0 rfl) ?_
  refine lv_lload_n hx hb dJ13_compare_74951_1 rfl (lv_at hl 1 rfl) ?_
  refine W.lcmp hx hb dJ13_compare_74951_2 ?_
  refine lv_if_ge (tgt := 10) hx hb dJ13_compare_74951_3 (by decide) (fun c0 => ?_) (fun c0 => ?_)
  · rw [if_pos c0] at h
    refine lv_lload_n hx hb dJ13_compare_74951_10 rfl (lv_at hl 0 rfl) ?_
    refine lv_lload_n hx hb dJ13_compare_74951_11 rfl (lv_at hl 1 rfl) ?_
    refine W.lcmp hx hb dJ13_compare_74951_12 ?_
    refine lv_if_ne (tgt := 20) hx hb dJ13_compare_74951_13 (by decide) (fun c1 => ?_) (fun c1 => ?_)
    · rw [if_neg c1] at h
      refine lv_iconst (v := 1) hx hb dJ13_compare_74951_20 (by decide) ?_
      obtain rfl := Option.some.inj h
      exact W.iret hx hb hr (fun t ht _ => ⟨rfl, ht⟩) (fun _ h9 => absurd h9 List.not_mem_nil) dJ13_compare_74951_21
    · rw [if_pos c1] at h
      refine lv_iconst (v := 0) hx hb dJ13_compare_74951_16 (by decide) ?_
      refine lv_goto (tgt := 21) hx hb dJ13_compare_74951_17 (by decide) ?_
      obtain rfl := Option.some.inj h
      exact W.iret hx hb hr (fun t ht _ => ⟨rfl, ht⟩) (fun _ h9 => absurd h9 List.not_mem_nil) dJ13_compare_74951_21
  · rw [if_neg c0] at h
    refine lv_iconst (v := -1) hx hb dJ13_compare_74951_6 (by decide) ?_
    refine lv_goto (tgt := 21) hx hb dJ13_compare_74951_7 (by decide) ?_
    obtain rfl := Option.some.inj h
    exact W.iret hx hb hr (fun t ht _ => ⟨rfl, ht⟩) (fun _ h9 => absurd h9 List.not_mem_nil) dJ13_compare_74951_21
def f_X0_nearestAgainst (xs : Nat → Int32) (ys : Nat → Int32) (n : Int32) (a1 : Int32) (a2 : Int32) (a3 : Int32) (a4 : Int64) : Option Int32 :=
  (f_X0_next n a1).bind fun r1 =>
  (f_X0_x xs r1).bind fun r2 =>
  (f_X0_x xs a1).bind fun r3 =>
  ov ((r2 - r3).toInt64) fun v4 =>
  (f_X0_y ys r1).bind fun r5 =>
  (f_X0_y ys a1).bind fun r6 =>
  ov ((r5 - r6).toInt64) fun v7 =>
  ov ((v4 * v4) + (v7 * v7)) fun v8 =>
  (f_X0_x xs a1).bind fun r9 =>
  (f_X0_y ys a1).bind fun r10 =>
  ov ((v4 * ((a2 - r9).toInt64)) + (v7 * ((a3 - r10).toInt64))) fun v11 =>
  if (0) < (lg_cmp v11 (0 : Int64)) then
  (if (lg_cmp v11 v8) < (0) then
  ((f_X0_leftOf xs ys n a1 (a2.toInt64) (a3.toInt64)).bind fun r14 =>
  (f_J13_compare_74951 (r14 * r14) (a4 * v8)).bind fun r15 =>
  some r15)
  else
  ((f_X0_squareTo xs ys r1 (a2.toInt64) (a3.toInt64)).bind fun r16 =>
  (f_J13_compare_74951 r16 a4).bind fun r17 =>
  some r17))
  else
  ((f_X0_squareTo xs ys a1 (a2.toInt64) (a3.toInt64)).bind fun r18 =>
  (f_J13_compare_74951 r18 a4).bind fun r19 =>
  some r19)
set_option maxHeartbeats 4000000 in
set_option maxRecDepth 100000 in
theorem k_X0_nearestAgainst (l : Launch) (D : va_G) (cI cF : ClassId) (q : Nat) (qx : Nat) (qy : Nat) (xs : Nat → Int32) (ys : Nat → Int32) (n : Int32) (a1 : Int32) (a2 : Int32) (a3 : Int32) (a4 : Int64) (r0 : Int32) (h : f_X0_nearestAgainst xs ys n a1 a2 a3 a4 = some r0) : Met l yX0_nearestAgainst wsX0_nearestAgainst ({ frames := 2, cells := 0, slots := 0, locals := 50 }) (va_Pc [.ref q, .int a1, .int a2, .int a3, .long a4] (fun U => wK D cI cF (figW cI q qx qy xs ys n) U)) (qS (.int r0)) 0 0 (fun _ => False) := by
  refine Met.ofW (cc := cX0_nearestAgainst) (maxL := 17) (ret := (some .int)) (by decide) rfl ?_
  intro p e s m args below meth c s₁ B hml hv
  obtain ⟨rfl, hK, hP⟩ := hv
  have hx := B.exec
  have hb := B.bytes
  have hr := B.returns
  have hts := atoms_spec (ws := wsX0_nearestAgainst) B.pre
  have hown : s.vm.findClass RX0 = some m.cls := findClass_of_methodNamed B.named
  have hlocks := B.notSynchronized
  have hl := lv_entry ([.ref q, .int a1, .int a2, .int a3, .long a4]) (n := 17) (Nat.le_of_ble_eq_true rfl)
  rw [lg_entry_eq]
  generalize (lg_sl ([.ref q, .int a1, .int a2, .int a3, .long a4]) ++ List.replicate (17 - (lg_sl ([.ref q, .int a1, .int a2, .int a3, .long a4])).length) Slot.unset).toArray = ls at hl ⊢
  have hl : lv_has ls 17 [(0, .ref q), (1, .int a1), (2, .int a2), (3, .int a3), (4, .long a4)] := hl
  unfold f_X0_nearestAgainst at h
  refine lv_aload_n hx hb dX0_nearestAgainst_0 rfl (lv_at hl 0 rfl) ?_
  refine lv_iload_n hx hb dX0_nearestAgainst_1 rfl (lv_at hl 1 rfl) ?_
  obtain ⟨r1, hcr1, h⟩ := og_bind h
  refine cp_s (va_runV (As := [.int a1]) (rest := []) ⟨hx, hb, hml, hown, hts⟩ (k_X0_next l D cI cF q qx qy xs ys n a1 _ hcr1) (cwV 1 hts gX0_nearestAgainst_X0_next rfl rfl rfl (by decide +kernel) ⟨(Nat.le_of_ble_eq_true rfl), (Nat.le_of_ble_eq_true rfl)⟩) (pre_v (q0 := 0) (ci := 0) hK hP rfl rfl) rfl rfl hl.1 rfl (lv_room (Nat.le_of_ble_eq_true rfl)) dX0_nearestAgainst_2 ⟨(Nat.zero_le _), (Nat.zero_le _)⟩) ?_
  refine lv_istore (lv' := [(6, .int r1), (0, .ref q), (1, .int a1), (2, .int a2), (3, .int a3), (4, .long a4)]) hx hb dX0_nearestAgainst_5 hl (by decide) rfl (fun ls hl => ?_)
  refine lv_aload_n hx hb dX0_nearestAgainst_7 rfl (lv_at hl 1 rfl) ?_
  refine lv_iload hx hb dX0_nearestAgainst_8 (lv_at hl 0 rfl) ?_
  obtain ⟨r2, hcr2, h⟩ := og_bind h
  refine cp_s (va_runV (As := [.int r1]) (rest := []) ⟨hx, hb, hml, hown, hts⟩ (k_X0_x l D cI cF q qx qy xs ys n r1 _ hcr2) (cwV 1 hts gX0_nearestAgainst_X0_x rfl rfl rfl (by decide +kernel) ⟨(Nat.le_of_ble_eq_true rfl), (Nat.le_of_ble_eq_true rfl)⟩) (pre_v (q0 := 0) (ci := 0) hK hP rfl rfl) rfl rfl hl.1 rfl (lv_room (Nat.le_of_ble_eq_true rfl)) dX0_nearestAgainst_10 ⟨(Nat.zero_le _), (Nat.zero_le _)⟩) ?_
  refine lv_aload_n hx hb dX0_nearestAgainst_13 rfl (lv_at hl 1 rfl) ?_
  refine lv_iload_n hx hb dX0_nearestAgainst_14 rfl (lv_at hl 2 rfl) ?_
  obtain ⟨r3, hcr3, h⟩ := og_bind h
  refine cp_s (va_runV (As := [.int a1]) (rest := [.int r2]) ⟨hx, hb, hml, hown, hts⟩ (k_X0_x l D cI cF q qx qy xs ys n a1 _ hcr3) (cwV 1 hts gX0_nearestAgainst_X0_x rfl rfl rfl (by decide +kernel) ⟨(Nat.le_of_ble_eq_true rfl), (Nat.le_of_ble_eq_true rfl)⟩) (pre_v (q0 := 0) (ci := 0) hK hP rfl rfl) rfl rfl hl.1 rfl (lv_room (Nat.le_of_ble_eq_true rfl)) dX0_nearestAgainst_15 ⟨(Nat.zero_le _), (Nat.zero_le _)⟩) ?_
  refine lv_isub hx hb dX0_nearestAgainst_18 ?_
  refine lv_i2l hx hb dX0_nearestAgainst_19 rfl ?_
  refine lv_topl (fun v4 ev4 => ?_)
  have h := og_ov h ev4
  refine lv_lstore (lv' := [(7, .long v4), (6, .int r1), (0, .ref q), (1, .int a1), (2, .int a2), (3, .int a3), (4, .long a4)]) hx hb dX0_nearestAgainst_20 hl (by decide) rfl (fun ls hl => ?_)
  refine lv_aload_n hx hb dX0_nearestAgainst_22 rfl (lv_at hl 2 rfl) ?_
  refine lv_iload hx hb dX0_nearestAgainst_23 (lv_at hl 1 rfl) ?_
  obtain ⟨r5, hcr5, h⟩ := og_bind h
  refine cp_s (va_runV (As := [.int r1]) (rest := []) ⟨hx, hb, hml, hown, hts⟩ (k_X0_y l D cI cF q qx qy xs ys n r1 _ hcr5) (cwV 1 hts gX0_nearestAgainst_X0_y rfl rfl rfl (by decide +kernel) ⟨(Nat.le_of_ble_eq_true rfl), (Nat.le_of_ble_eq_true rfl)⟩) (pre_v (q0 := 0) (ci := 0) hK hP rfl rfl) rfl rfl hl.1 rfl (lv_room (Nat.le_of_ble_eq_true rfl)) dX0_nearestAgainst_25 ⟨(Nat.zero_le _), (Nat.zero_le _)⟩) ?_
  refine lv_aload_n hx hb dX0_nearestAgainst_28 rfl (lv_at hl 2 rfl) ?_
  refine lv_iload_n hx hb dX0_nearestAgainst_29 rfl (lv_at hl 3 rfl) ?_
  obtain ⟨r6, hcr6, h⟩ := og_bind h
  refine cp_s (va_runV (As := [.int a1]) (rest := [.int r5]) ⟨hx, hb, hml, hown, hts⟩ (k_X0_y l D cI cF q qx qy xs ys n a1 _ hcr6) (cwV 1 hts gX0_nearestAgainst_X0_y rfl rfl rfl (by decide +kernel) ⟨(Nat.le_of_ble_eq_true rfl), (Nat.le_of_ble_eq_true rfl)⟩) (pre_v (q0 := 0) (ci := 0) hK hP rfl rfl) rfl rfl hl.1 rfl (lv_room (Nat.le_of_ble_eq_true rfl)) dX0_nearestAgainst_30 ⟨(Nat.zero_le _), (Nat.zero_le _)⟩) ?_
  refine lv_isub hx hb dX0_nearestAgainst_33 ?_
  refine lv_i2l hx hb dX0_nearestAgainst_34 rfl ?_
  refine lv_topl (fun v7 ev7 => ?_)
  have h := og_ov h ev7
  refine lv_lstore (lv' := [(9, .long v7), (7, .long v4), (6, .int r1), (0, .ref q), (1, .int a1), (2, .int a2), (3, .int a3), (4, .long a4)]) hx hb dX0_nearestAgainst_35 hl (by decide) rfl (fun ls hl => ?_)
  refine lv_lload hx hb dX0_nearestAgainst_37 (lv_at hl 1 rfl) ?_
  refine lv_lload hx hb dX0_nearestAgainst_39 (lv_at hl 1 rfl) ?_
  refine lv_lmul hx hb dX0_nearestAgainst_41 ?_
  refine lv_lload hx hb dX0_nearestAgainst_42 (lv_at hl 0 rfl) ?_
  refine lv_lload hx hb dX0_nearestAgainst_44 (lv_at hl 0 rfl) ?_
  refine lv_lmul hx hb dX0_nearestAgainst_46 ?_
  refine lv_ladd hx hb dX0_nearestAgainst_47 ?_
  refine lv_topl (fun v8 ev8 => ?_)
  have h := og_ov h ev8
  refine lv_lstore (lv' := [(11, .long v8), (9, .long v7), (7, .long v4), (6, .int r1), (0, .ref q), (1, .int a1), (2, .int a2), (3, .int a3), (4, .long a4)]) hx hb dX0_nearestAgainst_48 hl (by decide) rfl (fun ls hl => ?_)
  refine lv_lload hx hb dX0_nearestAgainst_50 (lv_at hl 2 rfl) ?_
  refine lv_iload_n hx hb dX0_nearestAgainst_52 rfl (lv_at hl 6 rfl) ?_
  refine lv_aload_n hx hb dX0_nearestAgainst_53 rfl (lv_at hl 4 rfl) ?_
  refine lv_iload_n hx hb dX0_nearestAgainst_54 rfl (lv_at hl 5 rfl) ?_
  obtain ⟨r9, hcr9, h⟩ := og_bind h
  refine cp_s (va_runV (As := [.int a1]) (rest := [.int a2, .long v4]) ⟨hx, hb, hml, hown, hts⟩ (k_X0_x l D cI cF q qx qy xs ys n a1 _ hcr9) (cwV 1 hts gX0_nearestAgainst_X0_x rfl rfl rfl (by decide +kernel) ⟨(Nat.le_of_ble_eq_true rfl), (Nat.le_of_ble_eq_true rfl)⟩) (pre_v (q0 := 0) (ci := 0) hK hP rfl rfl) rfl rfl hl.1 rfl (lv_room (Nat.le_of_ble_eq_true rfl)) dX0_nearestAgainst_55 ⟨(Nat.zero_le _), (Nat.zero_le _)⟩) ?_
  refine lv_isub hx hb dX0_nearestAgainst_58 ?_
  refine lv_i2l hx hb dX0_nearestAgainst_59 rfl ?_
  refine lv_lmul hx hb dX0_nearestAgainst_60 ?_
  refine lv_lload hx hb dX0_nearestAgainst_61 (lv_at hl 1 rfl) ?_
  refine lv_iload_n hx hb dX0_nearestAgainst_63 rfl (lv_at hl 7 rfl) ?_
  refine lv_aload_n hx hb dX0_nearestAgainst_64 rfl (lv_at hl 4 rfl) ?_
  refine lv_iload_n hx hb dX0_nearestAgainst_65 rfl (lv_at hl 5 rfl) ?_
  obtain ⟨r10, hcr10, h⟩ := og_bind h
  refine cp_s (va_runV (As := [.int a1]) (rest := [.int a3, .long v7, .long (v4 * ((a2 - r9).toInt64))]) ⟨hx, hb, hml, hown, hts⟩ (k_X0_y l D cI cF q qx qy xs ys n a1 _ hcr10) (cwV 1 hts gX0_nearestAgainst_X0_y rfl rfl rfl (by decide +kernel) ⟨(Nat.le_of_ble_eq_true rfl), (Nat.le_of_ble_eq_true rfl)⟩) (pre_v (q0 := 0) (ci := 0) hK hP rfl rfl) rfl rfl hl.1 rfl (lv_room (Nat.le_of_ble_eq_true rfl)) dX0_nearestAgainst_66 ⟨(Nat.zero_le _), (Nat.zero_le _)⟩) ?_
  refine lv_isub hx hb dX0_nearestAgainst_69 ?_
  refine lv_i2l hx hb dX0_nearestAgainst_70 rfl ?_
  refine lv_lmul hx hb dX0_nearestAgainst_71 ?_
  refine lv_ladd hx hb dX0_nearestAgainst_72 ?_
  refine lv_topl (fun v11 ev11 => ?_)
  have h := og_ov h ev11
  refine lv_lstore (lv' := [(13, .long v11), (11, .long v8), (9, .long v7), (7, .long v4), (6, .int r1), (0, .ref q), (1, .int a1), (2, .int a2), (3, .int a3), (4, .long a4)]) hx hb dX0_nearestAgainst_73 hl (by decide) rfl (fun ls hl => ?_)
  refine lv_lload hx hb dX0_nearestAgainst_75 (lv_at hl 0 rfl) ?_
  refine lv_lconst (v := 0) hx hb dX0_nearestAgainst_77 (by decide) ?_
  refine W.lcmp hx hb dX0_nearestAgainst_78 ?_
  refine lv_if_gt (tgt := 97) hx hb dX0_nearestAgainst_79 (by decide) (fun c11 => ?_) (fun c11 => ?_)
  · rw [if_pos c11] at h
    refine lv_lload hx hb dX0_nearestAgainst_97 (lv_at hl 0 rfl) ?_
    refine lv_lload hx hb dX0_nearestAgainst_99 (lv_at hl 1 rfl) ?_
    refine W.lcmp hx hb dX0_nearestAgainst_101 ?_
    refine lv_if_lt (tgt := 121) hx hb dX0_nearestAgainst_102 (by decide) (fun c12 => ?_) (fun c12 => ?_)
    · rw [if_pos c12] at h
      refine lv_aload_n hx hb dX0_nearestAgainst_121 rfl (lv_at hl 5 rfl) ?_
      refine lv_iload_n hx hb dX0_nearestAgainst_122 rfl (lv_at hl 6 rfl) ?_
      refine lv_iload_n hx hb dX0_nearestAgainst_123 rfl (lv_at hl 7 rfl) ?_
      refine lv_i2l hx hb dX0_nearestAgainst_124 rfl ?_
      refine lv_iload_n hx hb dX0_nearestAgainst_125 rfl (lv_at hl 8 rfl) ?_
      refine lv_i2l hx hb dX0_nearestAgainst_126 rfl ?_
      obtain ⟨r14, hcr14, h⟩ := og_bind h
      refine cp_s (va_runV (As := [.int a1, .long (a2.toInt64), .long (a3.toInt64)]) (rest := []) ⟨hx, hb, hml, hown, hts⟩ (k_X0_leftOf l D cI cF q qx qy xs ys n a1 (a2.toInt64) (a3.toInt64) _ hcr14) (cwV 3 hts gX0_nearestAgainst_X0_leftOf rfl rfl rfl (by decide +kernel) ⟨(Nat.le_of_ble_eq_true rfl), (Nat.le_of_ble_eq_true rfl)⟩) (pre_v (q0 := 0) (ci := 0) hK hP rfl rfl) rfl rfl hl.1 rfl (lv_room (Nat.le_of_ble_eq_true rfl)) dX0_nearestAgainst_127 ⟨(Nat.zero_le _), (Nat.zero_le _)⟩) ?_
      refine lv_lstore (lv' := [(15, .long r14), (13, .long v11), (11, .long v8), (9, .long v7), (7, .long v4), (6, .int r1), (0, .ref q), (1, .int a1), (2, .int a2), (3, .int a3), (4, .long a4)]) hx hb dX0_nearestAgainst_130 hl (by decide) rfl (fun ls hl => ?_)
      refine lv_lload hx hb dX0_nearestAgainst_132 (lv_at hl 0 rfl) ?_
      refine lv_lload hx hb dX0_nearestAgainst_134 (lv_at hl 0 rfl) ?_
      refine lv_lmul hx hb dX0_nearestAgainst_136 ?_
      refine lv_lload hx hb dX0_nearestAgainst_137 (lv_at hl 10 rfl) ?_
      refine lv_lload hx hb dX0_nearestAgainst_139 (lv_at hl 2 rfl) ?_
      refine lv_lmul hx hb dX0_nearestAgainst_141 ?_
      obtain ⟨r15, hcr15, h⟩ := og_bind h
      refine cp_s (va_runS (As := [.long (r14 * r14), .long (a4 * v8)]) (rest := []) ⟨hx, hb, hml, hown, hts⟩ (k_J13_compare_74951 l (r14 * r14) (a4 * v8) _ hcr15) (va_cwS 2 hts gX0_nearestAgainst_J13_compare_74951 rfl rfl rfl (by decide +kernel) ⟨(Nat.le_of_ble_eq_true rfl), (Nat.le_of_ble_eq_true rfl)⟩) pre_s rfl rfl hl.1 rfl (lv_room (Nat.le_of_ble_eq_true rfl)) dX0_nearestAgainst_142 ⟨(Nat.zero_le _), (Nat.zero_le _)⟩) ?_
      obtain rfl := Option.some.inj h
      exact W.iret hx hb hr (fun t ht _ => ⟨rfl, ht⟩) (fun _ h9 => absurd h9 List.not_mem_nil) dX0_nearestAgainst_145
    · rw [if_neg c12] at h
      refine lv_aload_n hx hb dX0_nearestAgainst_105 rfl (lv_at hl 5 rfl) ?_
      refine lv_iload hx hb dX0_nearestAgainst_106 (lv_at hl 4 rfl) ?_
      refine lv_iload_n hx hb dX0_nearestAgainst_108 rfl (lv_at hl 7 rfl) ?_
      refine lv_i2l hx hb dX0_nearestAgainst_109 rfl ?_
      refine lv_iload_n hx hb dX0_nearestAgainst_110 rfl (lv_at hl 8 rfl) ?_
      refine lv_i2l hx hb dX0_nearestAgainst_111 rfl ?_
      obtain ⟨r16, hcr16, h⟩ := og_bind h
      refine cp_s (va_runV (As := [.int r1, .long (a2.toInt64), .long (a3.toInt64)]) (rest := []) ⟨hx, hb, hml, hown, hts⟩ (k_X0_squareTo l D cI cF q qx qy xs ys n r1 (a2.toInt64) (a3.toInt64) _ hcr16) (cwV 3 hts gX0_nearestAgainst_X0_squareTo rfl rfl rfl (by decide +kernel) ⟨(Nat.le_of_ble_eq_true rfl), (Nat.le_of_ble_eq_true rfl)⟩) (pre_v (q0 := 0) (ci := 0) hK hP rfl rfl) rfl rfl hl.1 rfl (lv_room (Nat.le_of_ble_eq_true rfl)) dX0_nearestAgainst_112 ⟨(Nat.zero_le _), (Nat.zero_le _)⟩) ?_
      refine lv_lload hx hb dX0_nearestAgainst_115 (lv_at hl 9 rfl) ?_
      obtain ⟨r17, hcr17, h⟩ := og_bind h
      refine cp_s (va_runS (As := [.long r16, .long a4]) (rest := []) ⟨hx, hb, hml, hown, hts⟩ (k_J13_compare_74951 l r16 a4 _ hcr17) (va_cwS 2 hts gX0_nearestAgainst_J13_compare_74951 rfl rfl rfl (by decide +kernel) ⟨(Nat.le_of_ble_eq_true rfl), (Nat.le_of_ble_eq_true rfl)⟩) pre_s rfl rfl hl.1 rfl (lv_room (Nat.le_of_ble_eq_true rfl)) dX0_nearestAgainst_117 ⟨(Nat.zero_le _), (Nat.zero_le _)⟩) ?_
      obtain rfl := Option.some.inj h
      exact W.iret hx hb hr (fun t ht _ => ⟨rfl, ht⟩) (fun _ h9 => absurd h9 List.not_mem_nil) dX0_nearestAgainst_120
  · rw [if_neg c11] at h
    refine lv_aload_n hx hb dX0_nearestAgainst_82 rfl (lv_at hl 5 rfl) ?_
    refine lv_iload_n hx hb dX0_nearestAgainst_83 rfl (lv_at hl 6 rfl) ?_
    refine lv_iload_n hx hb dX0_nearestAgainst_84 rfl (lv_at hl 7 rfl) ?_
    refine lv_i2l hx hb dX0_nearestAgainst_85 rfl ?_
    refine lv_iload_n hx hb dX0_nearestAgainst_86 rfl (lv_at hl 8 rfl) ?_
    refine lv_i2l hx hb dX0_nearestAgainst_87 rfl ?_
    obtain ⟨r18, hcr18, h⟩ := og_bind h
    refine cp_s (va_runV (As := [.int a1, .long (a2.toInt64), .long (a3.toInt64)]) (rest := []) ⟨hx, hb, hml, hown, hts⟩ (k_X0_squareTo l D cI cF q qx qy xs ys n a1 (a2.toInt64) (a3.toInt64) _ hcr18) (cwV 3 hts gX0_nearestAgainst_X0_squareTo rfl rfl rfl (by decide +kernel) ⟨(Nat.le_of_ble_eq_true rfl), (Nat.le_of_ble_eq_true rfl)⟩) (pre_v (q0 := 0) (ci := 0) hK hP rfl rfl) rfl rfl hl.1 rfl (lv_room (Nat.le_of_ble_eq_true rfl)) dX0_nearestAgainst_88 ⟨(Nat.zero_le _), (Nat.zero_le _)⟩) ?_
    refine lv_lload hx hb dX0_nearestAgainst_91 (lv_at hl 9 rfl) ?_
    obtain ⟨r19, hcr19, h⟩ := og_bind h
    refine cp_s (va_runS (As := [.long r18, .long a4]) (rest := []) ⟨hx, hb, hml, hown, hts⟩ (k_J13_compare_74951 l r18 a4 _ hcr19) (va_cwS 2 hts gX0_nearestAgainst_J13_compare_74951 rfl rfl rfl (by decide +kernel) ⟨(Nat.le_of_ble_eq_true rfl), (Nat.le_of_ble_eq_true rfl)⟩) pre_s rfl rfl hl.1 rfl (lv_room (Nat.le_of_ble_eq_true rfl)) dX0_nearestAgainst_93 ⟨(Nat.zero_le _), (Nat.zero_le _)⟩) ?_
    obtain rfl := Option.some.inj h
    exact W.iret hx hb hr (fun t ht _ => ⟨rfl, ht⟩) (fun _ h9 => absurd h9 List.not_mem_nil) dX0_nearestAgainst_96
def f_X0_crosses (ys : Nat → Int32) (n : Int32) (a1 : Int32) (a2 : Int32) : Option Int32 :=
  (f_X0_y ys a1).bind fun r1 =>
  (f_X0_next n a1).bind fun r2 =>
  (f_X0_y ys r2).bind fun r3 =>
  if a2 ≤ r1 then
  (if r1 ≤ a2 then
  (some (0 : Int32))
  else
  (if a2 ≤ r3 then
  (some (0 : Int32))
  else
  (some (1 : Int32))))
  else
  (if a2 < r3 then
  (some (1 : Int32))
  else
  (if r1 ≤ a2 then
  (some (0 : Int32))
  else
  (if a2 ≤ r3 then
  (some (0 : Int32))
  else
  (some (1 : Int32)))))
set_option maxHeartbeats 4000000 in
set_option maxRecDepth 100000 in
theorem k_X0_crosses (l : Launch) (D : va_G) (cI cF : ClassId) (q : Nat) (qx : Nat) (qy : Nat) (xs : Nat → Int32) (ys : Nat → Int32) (n : Int32) (a1 : Int32) (a2 : Int32) (r0 : Int32) (h : f_X0_crosses ys n a1 a2 = some r0) : Met l yX0_crosses wsX0_crosses ({ frames := 1, cells := 0, slots := 0, locals := 21 }) (va_Pc [.ref q, .int a1, .int a2] (fun U => wK D cI cF (figW cI q qx qy xs ys n) U)) (qS (.int r0)) 0 0 (fun _ => False) := by
  refine Met.ofW (cc := cX0_crosses) (maxL := 5) (ret := (some .boolean)) (by decide) rfl ?_
  intro p e s m args below meth c s₁ B hml hv
  obtain ⟨rfl, hK, hP⟩ := hv
  have hx := B.exec
  have hb := B.bytes
  have hr := B.returns
  have hts := atoms_spec (ws := wsX0_crosses) B.pre
  have hown : s.vm.findClass RX0 = some m.cls := findClass_of_methodNamed B.named
  have hlocks := B.notSynchronized
  have hl := lv_entry ([.ref q, .int a1, .int a2]) (n := 5) (Nat.le_of_ble_eq_true rfl)
  rw [lg_entry_eq]
  generalize (lg_sl ([.ref q, .int a1, .int a2]) ++ List.replicate (5 - (lg_sl ([.ref q, .int a1, .int a2])).length) Slot.unset).toArray = ls at hl ⊢
  have hl : lv_has ls 5 [(0, .ref q), (1, .int a1), (2, .int a2)] := hl
  unfold f_X0_crosses at h
  refine lv_aload_n hx hb dX0_crosses_0 rfl (lv_at hl 0 rfl) ?_
  refine lv_iload_n hx hb dX0_crosses_1 rfl (lv_at hl 1 rfl) ?_
  obtain ⟨r1, hcr1, h⟩ := og_bind h
  refine cp_s (va_runV (As := [.int a1]) (rest := []) ⟨hx, hb, hml, hown, hts⟩ (k_X0_y l D cI cF q qx qy xs ys n a1 _ hcr1) (cwV 1 hts gX0_crosses_X0_y rfl rfl rfl (by decide +kernel) ⟨(Nat.le_of_ble_eq_true rfl), (Nat.le_of_ble_eq_true rfl)⟩) (pre_v (q0 := 0) (ci := 0) hK hP rfl rfl) rfl rfl hl.1 rfl (lv_room (Nat.le_of_ble_eq_true rfl)) dX0_crosses_2 ⟨(Nat.zero_le _), (Nat.zero_le _)⟩) ?_
  refine lv_istore_n (lv' := [(3, .int r1), (0, .ref q), (1, .int a1), (2, .int a2)]) hx hb dX0_crosses_5 rfl hl (by decide) rfl (fun ls hl => ?_)
  refine lv_aload_n hx hb dX0_crosses_6 rfl (lv_at hl 1 rfl) ?_
  refine lv_aload_n hx hb dX0_crosses_7 rfl (lv_at hl 1 rfl) ?_
  refine lv_iload_n hx hb dX0_crosses_8 rfl (lv_at hl 2 rfl) ?_
  obtain ⟨r2, hcr2, h⟩ := og_bind h
  refine cp_s (va_runV (As := [.int a1]) (rest := [.ref q]) ⟨hx, hb, hml, hown, hts⟩ (k_X0_next l D cI cF q qx qy xs ys n a1 _ hcr2) (cwV 1 hts gX0_crosses_X0_next rfl rfl rfl (by decide +kernel) ⟨(Nat.le_of_ble_eq_true rfl), (Nat.le_of_ble_eq_true rfl)⟩) (pre_v (q0 := 0) (ci := 0) hK hP rfl rfl) rfl rfl hl.1 rfl (lv_room (Nat.le_of_ble_eq_true rfl)) dX0_crosses_9 ⟨(Nat.zero_le _), (Nat.zero_le _)⟩) ?_
  obtain ⟨r3, hcr3, h⟩ := og_bind h
  refine cp_s (va_runV (As := [.int r2]) (rest := []) ⟨hx, hb, hml, hown, hts⟩ (k_X0_y l D cI cF q qx qy xs ys n r2 _ hcr3) (cwV 1 hts gX0_crosses_X0_y rfl rfl rfl (by decide +kernel) ⟨(Nat.le_of_ble_eq_true rfl), (Nat.le_of_ble_eq_true rfl)⟩) (pre_v (q0 := 0) (ci := 0) hK hP rfl rfl) rfl rfl hl.1 rfl (lv_room (Nat.le_of_ble_eq_true rfl)) dX0_crosses_12 ⟨(Nat.zero_le _), (Nat.zero_le _)⟩) ?_
  refine lv_istore (lv' := [(4, .int r3), (3, .int r1), (0, .ref q), (1, .int a1), (2, .int a2)]) hx hb dX0_crosses_15 hl (by decide) rfl (fun ls hl => ?_)
  refine lv_iload_n hx hb dX0_crosses_17 rfl (lv_at hl 1 rfl) ?_
  refine lv_iload_n hx hb dX0_crosses_18 rfl (lv_at hl 4 rfl) ?_
  refine lv_icmp_ge (tgt := 28) hx hb dX0_crosses_19 (by decide) (fun c3 => ?_) (fun c3 => ?_)
  · rw [if_pos c3] at h
    refine lv_iload_n hx hb dX0_crosses_28 rfl (lv_at hl 1 rfl) ?_
    refine lv_iload_n hx hb dX0_crosses_29 rfl (lv_at hl 4 rfl) ?_
    refine lv_icmp_le (tgt := 43) hx hb dX0_crosses_30 (by decide) (fun c4 => ?_) (fun c4 => ?_)
    · rw [if_pos c4] at h
      refine lv_iconst (v := 0) hx hb dX0_crosses_43 (by decide) ?_
      obtain rfl := Option.some.inj h
      exact W.zret hx hb hr rfl (fun t ht _ => ⟨rfl, ht⟩) (fun _ h9 => absurd h9 List.not_mem_nil) dX0_crosses_44
    · rw [if_neg c4] at h
      refine lv_iload hx hb dX0_crosses_33 (lv_at hl 0 rfl) ?_
      refine lv_iload_n hx hb dX0_crosses_35 rfl (lv_at hl 4 rfl) ?_
      refine lv_icmp_ge (tgt := 43) hx hb dX0_crosses_36 (by decide) (fun c5 => ?_) (fun c5 => ?_)
      · rw [if_pos c5] at h
        refine lv_iconst (v := 0) hx hb dX0_crosses_43 (by decide) ?_
        obtain rfl := Option.some.inj h
        exact W.zret hx hb hr rfl (fun t ht _ => ⟨rfl, ht⟩) (fun _ h9 => absurd h9 List.not_mem_nil) dX0_crosses_44
      · rw [if_neg c5] at h
        refine lv_iconst (v := 1) hx hb dX0_crosses_39 (by decide) ?_
        refine lv_goto (tgt := 44) hx hb dX0_crosses_40 (by decide) ?_
        obtain rfl := Option.some.inj h
        exact W.zret hx hb hr rfl (fun t ht _ => ⟨rfl, ht⟩) (fun _ h9 => absurd h9 List.not_mem_nil) dX0_crosses_44
  · rw [if_neg c3] at h
    refine lv_iload hx hb dX0_crosses_22 (lv_at hl 0 rfl) ?_
    refine lv_iload_n hx hb dX0_crosses_24 rfl (lv_at hl 4 rfl) ?_
    refine lv_icmp_gt (tgt := 39) hx hb dX0_crosses_25 (by decide) (fun c6 => ?_) (fun c6 => ?_)
    · rw [if_pos c6] at h
      refine lv_iconst (v := 1) hx hb dX0_crosses_39 (by decide) ?_
      refine lv_goto (tgt := 44) hx hb dX0_crosses_40 (by decide) ?_
      obtain rfl := Option.some.inj h
      exact W.zret hx hb hr rfl (fun t ht _ => ⟨rfl, ht⟩) (fun _ h9 => absurd h9 List.not_mem_nil) dX0_crosses_44
    · rw [if_neg c6] at h
      refine lv_iload_n hx hb dX0_crosses_28 rfl (lv_at hl 1 rfl) ?_
      refine lv_iload_n hx hb dX0_crosses_29 rfl (lv_at hl 4 rfl) ?_
      refine lv_icmp_le (tgt := 43) hx hb dX0_crosses_30 (by decide) (fun c7 => ?_) (fun c7 => ?_)
      · rw [if_pos c7] at h
        refine lv_iconst (v := 0) hx hb dX0_crosses_43 (by decide) ?_
        obtain rfl := Option.some.inj h
        exact W.zret hx hb hr rfl (fun t ht _ => ⟨rfl, ht⟩) (fun _ h9 => absurd h9 List.not_mem_nil) dX0_crosses_44
      · rw [if_neg c7] at h
        refine lv_iload hx hb dX0_crosses_33 (lv_at hl 0 rfl) ?_
        refine lv_iload_n hx hb dX0_crosses_35 rfl (lv_at hl 4 rfl) ?_
        refine lv_icmp_ge (tgt := 43) hx hb dX0_crosses_36 (by decide) (fun c8 => ?_) (fun c8 => ?_)
        · rw [if_pos c8] at h
          refine lv_iconst (v := 0) hx hb dX0_crosses_43 (by decide) ?_
          obtain rfl := Option.some.inj h
          exact W.zret hx hb hr rfl (fun t ht _ => ⟨rfl, ht⟩) (fun _ h9 => absurd h9 List.not_mem_nil) dX0_crosses_44
        · rw [if_neg c8] at h
          refine lv_iconst (v := 1) hx hb dX0_crosses_39 (by decide) ?_
          refine lv_goto (tgt := 44) hx hb dX0_crosses_40 (by decide) ?_
          obtain rfl := Option.some.inj h
          exact W.zret hx hb hr rfl (fun t ht _ => ⟨rfl, ht⟩) (fun _ h9 => absurd h9 List.not_mem_nil) dX0_crosses_44
def f_X0_crossingUpper (xs : Nat → Int32) (ys : Nat → Int32) (n : Int32) (a1 : Int32) (a2 : Int32) : Option Int32 :=
  (f_X0_next n a1).bind fun r1 =>
  (f_X0_x xs r1).bind fun r2 =>
  (f_X0_x xs a1).bind fun r3 =>
  (f_X0_y ys a1).bind fun r4 =>
  some ((r2 - r3) * (a2 - r4))
set_option maxHeartbeats 4000000 in
set_option maxRecDepth 100000 in
theorem k_X0_crossingUpper (l : Launch) (D : va_G) (cI cF : ClassId) (q : Nat) (qx : Nat) (qy : Nat) (xs : Nat → Int32) (ys : Nat → Int32) (n : Int32) (a1 : Int32) (a2 : Int32) (r0 : Int32) (h : f_X0_crossingUpper xs ys n a1 a2 = some r0) : Met l yX0_crossingUpper wsX0_crossingUpper ({ frames := 1, cells := 0, slots := 0, locals := 21 }) (va_Pc [.ref q, .int a1, .int a2] (fun U => wK D cI cF (figW cI q qx qy xs ys n) U)) (qS (.int r0)) 0 0 (fun _ => False) := by
  refine Met.ofW (cc := cX0_crossingUpper) (maxL := 3) (ret := (some .int)) (by decide) rfl ?_
  intro p e s m args below meth c s₁ B hml hv
  obtain ⟨rfl, hK, hP⟩ := hv
  have hx := B.exec
  have hb := B.bytes
  have hr := B.returns
  have hts := atoms_spec (ws := wsX0_crossingUpper) B.pre
  have hown : s.vm.findClass RX0 = some m.cls := findClass_of_methodNamed B.named
  have hlocks := B.notSynchronized
  have hl := lv_entry ([.ref q, .int a1, .int a2]) (n := 3) (Nat.le_of_ble_eq_true rfl)
  rw [lg_entry_eq]
  generalize (lg_sl ([.ref q, .int a1, .int a2]) ++ List.replicate (3 - (lg_sl ([.ref q, .int a1, .int a2])).length) Slot.unset).toArray = ls at hl ⊢
  have hl : lv_has ls 3 [(0, .ref q), (1, .int a1), (2, .int a2)] := hl
  unfold f_X0_crossingUpper at h
  refine lv_aload_n hx hb dX0_crossingUpper_0 rfl (lv_at hl 0 rfl) ?_
  refine lv_aload_n hx hb dX0_crossingUpper_1 rfl (lv_at hl 0 rfl) ?_
  refine lv_iload_n hx hb dX0_crossingUpper_2 rfl (lv_at hl 1 rfl) ?_
  obtain ⟨r1, hcr1, h⟩ := og_bind h
  refine cp_s (va_runV (As := [.int a1]) (rest := [.ref q]) ⟨hx, hb, hml, hown, hts⟩ (k_X0_next l D cI cF q qx qy xs ys n a1 _ hcr1) (cwV 1 hts gX0_crossingUpper_X0_next rfl rfl rfl (by decide +kernel) ⟨(Nat.le_of_ble_eq_true rfl), (Nat.le_of_ble_eq_true rfl)⟩) (pre_v (q0 := 0) (ci := 0) hK hP rfl rfl) rfl rfl hl.1 rfl (lv_room (Nat.le_of_ble_eq_true rfl)) dX0_crossingUpper_3 ⟨(Nat.zero_le _), (Nat.zero_le _)⟩) ?_
  obtain ⟨r2, hcr2, h⟩ := og_bind h
  refine cp_s (va_runV (As := [.int r1]) (rest := []) ⟨hx, hb, hml, hown, hts⟩ (k_X0_x l D cI cF q qx qy xs ys n r1 _ hcr2) (cwV 1 hts gX0_crossingUpper_X0_x rfl rfl rfl (by decide +kernel) ⟨(Nat.le_of_ble_eq_true rfl), (Nat.le_of_ble_eq_true rfl)⟩) (pre_v (q0 := 0) (ci := 0) hK hP rfl rfl) rfl rfl hl.1 rfl (lv_room (Nat.le_of_ble_eq_true rfl)) dX0_crossingUpper_6 ⟨(Nat.zero_le _), (Nat.zero_le _)⟩) ?_
  refine lv_aload_n hx hb dX0_crossingUpper_9 rfl (lv_at hl 0 rfl) ?_
  refine lv_iload_n hx hb dX0_crossingUpper_10 rfl (lv_at hl 1 rfl) ?_
  obtain ⟨r3, hcr3, h⟩ := og_bind h
  refine cp_s (va_runV (As := [.int a1]) (rest := [.int r2]) ⟨hx, hb, hml, hown, hts⟩ (k_X0_x l D cI cF q qx qy xs ys n a1 _ hcr3) (cwV 1 hts gX0_crossingUpper_X0_x rfl rfl rfl (by decide +kernel) ⟨(Nat.le_of_ble_eq_true rfl), (Nat.le_of_ble_eq_true rfl)⟩) (pre_v (q0 := 0) (ci := 0) hK hP rfl rfl) rfl rfl hl.1 rfl (lv_room (Nat.le_of_ble_eq_true rfl)) dX0_crossingUpper_11 ⟨(Nat.zero_le _), (Nat.zero_le _)⟩) ?_
  refine lv_isub hx hb dX0_crossingUpper_14 ?_
  refine lv_iload_n hx hb dX0_crossingUpper_15 rfl (lv_at hl 2 rfl) ?_
  refine lv_aload_n hx hb dX0_crossingUpper_16 rfl (lv_at hl 0 rfl) ?_
  refine lv_iload_n hx hb dX0_crossingUpper_17 rfl (lv_at hl 1 rfl) ?_
  obtain ⟨r4, hcr4, h⟩ := og_bind h
  refine cp_s (va_runV (As := [.int a1]) (rest := [.int a2, .int (r2 - r3)]) ⟨hx, hb, hml, hown, hts⟩ (k_X0_y l D cI cF q qx qy xs ys n a1 _ hcr4) (cwV 1 hts gX0_crossingUpper_X0_y rfl rfl rfl (by decide +kernel) ⟨(Nat.le_of_ble_eq_true rfl), (Nat.le_of_ble_eq_true rfl)⟩) (pre_v (q0 := 0) (ci := 0) hK hP rfl rfl) rfl rfl hl.1 rfl (lv_room (Nat.le_of_ble_eq_true rfl)) dX0_crossingUpper_18 ⟨(Nat.zero_le _), (Nat.zero_le _)⟩) ?_
  refine lv_isub hx hb dX0_crossingUpper_21 ?_
  refine lv_imul hx hb dX0_crossingUpper_22 ?_
  obtain rfl := Option.some.inj h
  exact W.iret hx hb hr (fun t ht _ => ⟨rfl, ht⟩) (fun _ h9 => absurd h9 List.not_mem_nil) dX0_crossingUpper_23
def f_X0_crossingLower (ys : Nat → Int32) (n : Int32) (a1 : Int32) : Option Int32 :=
  (f_X0_next n a1).bind fun r1 =>
  (f_X0_y ys r1).bind fun r2 =>
  (f_X0_y ys a1).bind fun r3 =>
  some (r2 - r3)
set_option maxHeartbeats 4000000 in
set_option maxRecDepth 100000 in
theorem k_X0_crossingLower (l : Launch) (D : va_G) (cI cF : ClassId) (q : Nat) (qx : Nat) (qy : Nat) (xs : Nat → Int32) (ys : Nat → Int32) (n : Int32) (a1 : Int32) (r0 : Int32) (h : f_X0_crossingLower ys n a1 = some r0) : Met l yX0_crossingLower wsX0_crossingLower ({ frames := 1, cells := 0, slots := 0, locals := 21 }) (va_Pc [.ref q, .int a1] (fun U => wK D cI cF (figW cI q qx qy xs ys n) U)) (qS (.int r0)) 0 0 (fun _ => False) := by
  refine Met.ofW (cc := cX0_crossingLower) (maxL := 2) (ret := (some .int)) (by decide) rfl ?_
  intro p e s m args below meth c s₁ B hml hv
  obtain ⟨rfl, hK, hP⟩ := hv
  have hx := B.exec
  have hb := B.bytes
  have hr := B.returns
  have hts := atoms_spec (ws := wsX0_crossingLower) B.pre
  have hown : s.vm.findClass RX0 = some m.cls := findClass_of_methodNamed B.named
  have hlocks := B.notSynchronized
  have hl := lv_entry ([.ref q, .int a1]) (n := 2) (Nat.le_of_ble_eq_true rfl)
  rw [lg_entry_eq]
  generalize (lg_sl ([.ref q, .int a1]) ++ List.replicate (2 - (lg_sl ([.ref q, .int a1])).length) Slot.unset).toArray = ls at hl ⊢
  have hl : lv_has ls 2 [(0, .ref q), (1, .int a1)] := hl
  unfold f_X0_crossingLower at h
  refine lv_aload_n hx hb dX0_crossingLower_0 rfl (lv_at hl 0 rfl) ?_
  refine lv_aload_n hx hb dX0_crossingLower_1 rfl (lv_at hl 0 rfl) ?_
  refine lv_iload_n hx hb dX0_crossingLower_2 rfl (lv_at hl 1 rfl) ?_
  obtain ⟨r1, hcr1, h⟩ := og_bind h
  refine cp_s (va_runV (As := [.int a1]) (rest := [.ref q]) ⟨hx, hb, hml, hown, hts⟩ (k_X0_next l D cI cF q qx qy xs ys n a1 _ hcr1) (cwV 1 hts gX0_crossingLower_X0_next rfl rfl rfl (by decide +kernel) ⟨(Nat.le_of_ble_eq_true rfl), (Nat.le_of_ble_eq_true rfl)⟩) (pre_v (q0 := 0) (ci := 0) hK hP rfl rfl) rfl rfl hl.1 rfl (lv_room (Nat.le_of_ble_eq_true rfl)) dX0_crossingLower_3 ⟨(Nat.zero_le _), (Nat.zero_le _)⟩) ?_
  obtain ⟨r2, hcr2, h⟩ := og_bind h
  refine cp_s (va_runV (As := [.int r1]) (rest := []) ⟨hx, hb, hml, hown, hts⟩ (k_X0_y l D cI cF q qx qy xs ys n r1 _ hcr2) (cwV 1 hts gX0_crossingLower_X0_y rfl rfl rfl (by decide +kernel) ⟨(Nat.le_of_ble_eq_true rfl), (Nat.le_of_ble_eq_true rfl)⟩) (pre_v (q0 := 0) (ci := 0) hK hP rfl rfl) rfl rfl hl.1 rfl (lv_room (Nat.le_of_ble_eq_true rfl)) dX0_crossingLower_6 ⟨(Nat.zero_le _), (Nat.zero_le _)⟩) ?_
  refine lv_aload_n hx hb dX0_crossingLower_9 rfl (lv_at hl 0 rfl) ?_
  refine lv_iload_n hx hb dX0_crossingLower_10 rfl (lv_at hl 1 rfl) ?_
  obtain ⟨r3, hcr3, h⟩ := og_bind h
  refine cp_s (va_runV (As := [.int a1]) (rest := [.int r2]) ⟨hx, hb, hml, hown, hts⟩ (k_X0_y l D cI cF q qx qy xs ys n a1 _ hcr3) (cwV 1 hts gX0_crossingLower_X0_y rfl rfl rfl (by decide +kernel) ⟨(Nat.le_of_ble_eq_true rfl), (Nat.le_of_ble_eq_true rfl)⟩) (pre_v (q0 := 0) (ci := 0) hK hP rfl rfl) rfl rfl hl.1 rfl (lv_room (Nat.le_of_ble_eq_true rfl)) dX0_crossingLower_11 ⟨(Nat.zero_le _), (Nat.zero_le _)⟩) ?_
  refine lv_isub hx hb dX0_crossingLower_14 ?_
  obtain rfl := Option.some.inj h
  exact W.iret hx hb hr (fun t ht _ => ⟨rfl, ht⟩) (fun _ h9 => absurd h9 List.not_mem_nil) dX0_crossingLower_15
def s_X0_placesFrom_4 (ys : Nat → Int32) (n : Int32) (a1 : Int32) (u4 : (Int32 × Int32)) : Option ((Int32 × Int32) ⊕ Int32) :=
  if n ≤ u4.2 then
  (some (.inr u4.1))
  else
  ((f_X0_y ys u4.2).bind fun r2 =>
  (if r2 < a1 then
  (some (u4.1))
  else
  (ov (u4.1 + (1 : Int32)) fun v10 =>
  some (v10))).bind fun mv3 =>
  (f_X0_crosses ys n u4.2 a1).bind fun r4 =>
  if r4 = (0) then
  (ov (u4.2 + (1 : Int32)) fun v6 =>
  some (.inl (mv3, v6)))
  else
  (ov (mv3 + (1 : Int32)) fun v7 =>
  ov (u4.2 + (1 : Int32)) fun v8 =>
  some (.inl (v7, v8))))
def f_X0_placesFrom (ys : Nat → Int32) (n : Int32) (a1 : Int32) : Option Int32 :=
  (lpf (s_X0_placesFrom_4 ys n a1) 1000 ((0 : Int32), (0 : Int32))).bind fun x11 =>
  some x11
set_option maxHeartbeats 4000000 in
set_option maxRecDepth 100000 in
theorem k_X0_placesFrom (l : Launch) (D : va_G) (cI cF : ClassId) (q : Nat) (qx : Nat) (qy : Nat) (xs : Nat → Int32) (ys : Nat → Int32) (n : Int32) (a1 : Int32) (r0 : Int32) (h : f_X0_placesFrom ys n a1 = some r0) : Met l yX0_placesFrom wsX0_placesFrom ({ frames := 2, cells := 0, slots := 0, locals := 45 }) (va_Pc [.ref q, .int a1] (fun U => wK D cI cF (figW cI q qx qy xs ys n) U)) (qS (.int r0)) 0 0 (fun _ => False) := by
  refine Met.ofW (cc := cX0_placesFrom) (maxL := 4) (ret := (some .int)) (by decide) rfl ?_
  intro p e s m args below meth c s₁ B hml hv
  obtain ⟨rfl, hK, hP⟩ := hv
  have hx := B.exec
  have hb := B.bytes
  have hr := B.returns
  have hts := atoms_spec (ws := wsX0_placesFrom) B.pre
  have hown : s.vm.findClass RX0 = some m.cls := findClass_of_methodNamed B.named
  have hlocks := B.notSynchronized
  have ht1 := hts (.fieldLink RX0 18 "DrawnAreas$Figure" "size" "I") (by decide +kernel)
  have hinX0 : ∀ w ∈ u_ws RX0 TX0 3, w ∈ wsX0_placesFrom := by decide +kernel
  have hl := lv_entry ([.ref q, .int a1]) (n := 4) (Nat.le_of_ble_eq_true rfl)
  rw [lg_entry_eq]
  generalize (lg_sl ([.ref q, .int a1]) ++ List.replicate (4 - (lg_sl ([.ref q, .int a1])).length) Slot.unset).toArray = ls at hl ⊢
  have hl : lv_has ls 4 [(0, .ref q), (1, .int a1)] := hl
  unfold f_X0_placesFrom at h
  refine lv_iconst (v := 0) hx hb dX0_placesFrom_0 (by decide) ?_
  refine lv_istore_n (lv' := [(2, .int (0 : Int32)), (0, .ref q), (1, .int a1)]) hx hb dX0_placesFrom_1 rfl hl (by decide) rfl (fun ls hl => ?_)
  refine lv_iconst (v := 0) hx hb dX0_placesFrom_2 (by decide) ?_
  refine lv_istore_n (lv' := [(3, .int (0 : Int32)), (2, .int (0 : Int32)), (0, .ref q), (1, .int a1)]) hx hb dX0_placesFrom_3 rfl hl (by decide) rfl (fun ls hl => ?_)
  obtain ⟨x11, hN4, h⟩ := og_bind h
  refine wl hN4 4 42 (fun u4 ls => lv_has ls 4 [(0, .ref q), (1, .int a1), (2, .int u4.1), (3, .int u4.2)]) (fun x11 ls => lv_has ls 4 [(2, .int x11)]) (fun u4 xx h ki4 kx4 ls hl => ?_) (fun ls hl => ?_) (lv_sub hl [2, 3, 1, 0] rfl)
  · unfold s_X0_placesFrom_4 at h
    refine lv_iload_n hx hb dX0_placesFrom_4 rfl (lv_at hl 3 rfl) ?_
    refine lv_aload_n hx hb dX0_placesFrom_5 rfl (lv_at hl 0 rfl) ?_
    refine va_get (D := D) (ci := 0) (v := .int n) (C := RX0) (T := TX0) (N := 3) hx hb hts hinX0 hown hK hP 0 rfl rfl 2 (by decide) ht1 (fun _ h9 => h9) rfl dX0_placesFrom_6 ?_
    refine lv_icmp_ge (tgt := 42) hx hb dX0_placesFrom_9 (by decide) (fun c0 => ?_) (fun c0 => ?_)
    · rw [if_pos c0] at h
      exact kx4 _ ls (Option.some.inj h).symm (lv_sub hl [2] rfl)
    · rw [if_neg c0] at h
      refine lv_aload_n hx hb dX0_placesFrom_12 rfl (lv_at hl 0 rfl) ?_
      refine lv_iload_n hx hb dX0_placesFrom_13 rfl (lv_at hl 3 rfl) ?_
      obtain ⟨r2, hcr2, h⟩ := og_bind h
      refine cp_s (va_runV (As := [.int u4.2]) (rest := []) ⟨hx, hb, hml, hown, hts⟩ (k_X0_y l D cI cF q qx qy xs ys n u4.2 _ hcr2) (cwV 1 hts gX0_placesFrom_X0_y rfl rfl rfl (by decide +kernel) ⟨(Nat.le_of_ble_eq_true rfl), (Nat.le_of_ble_eq_true rfl)⟩) (pre_v (q0 := 0) (ci := 0) hK hP rfl rfl) rfl rfl hl.1 rfl (lv_room (Nat.le_of_ble_eq_true rfl)) dX0_placesFrom_14 ⟨(Nat.zero_le _), (Nat.zero_le _)⟩) ?_
      refine lv_iload_n hx hb dX0_placesFrom_17 rfl (lv_at hl 1 rfl) ?_
      obtain ⟨mv3, hm24, h⟩ := og_bind h
      refine wj (PC := 24) (ST := []) (fun ls => lv_has ls 4 [(0, .ref q), (1, .int a1), (2, .int mv3), (3, .int u4.2)]) (fun ls hl => ?_) (fun KJ24 => ?_)
      · refine lv_aload_n hx hb dX0_placesFrom_24 rfl (lv_at hl 0 rfl) ?_
        refine lv_iload_n hx hb dX0_placesFrom_25 rfl (lv_at hl 3 rfl) ?_
        refine lv_iload_n hx hb dX0_placesFrom_26 rfl (lv_at hl 1 rfl) ?_
        obtain ⟨r4, hcr4, h⟩ := og_bind h
        refine cp_s (va_runV (As := [.int u4.2, .int a1]) (rest := []) ⟨hx, hb, hml, hown, hts⟩ (k_X0_crosses l D cI cF q qx qy xs ys n u4.2 a1 _ hcr4) (cwV 2 hts gX0_placesFrom_X0_crosses rfl rfl rfl (by decide +kernel) ⟨(Nat.le_of_ble_eq_true rfl), (Nat.le_of_ble_eq_true rfl)⟩) (pre_v (q0 := 0) (ci := 0) hK hP rfl rfl) rfl rfl hl.1 rfl (lv_room (Nat.le_of_ble_eq_true rfl)) dX0_placesFrom_27 ⟨(Nat.zero_le _), (Nat.zero_le _)⟩) ?_
        refine lv_if_eq (tgt := 36) hx hb dX0_placesFrom_30 (by decide) (fun c4 => ?_) (fun c4 => ?_)
        · rw [if_pos c4] at h
          obtain ⟨v6, ev6⟩ : ∃ y : Int32, y = u4.2 + (1 : Int32) := ⟨_, rfl⟩
          have h := og_ov h ev6
          refine lv_iinc (v := v6) (lv' := [(3, .int v6), (0, .ref q), (1, .int a1), (2, .int mv3)]) hx hb dX0_placesFrom_36 hl (k := 3) rfl (by rw [ev6]; rfl) (by decide) rfl (fun ls hl => ?_)
          refine lv_goto (tgt := 4) hx hb dX0_placesFrom_39 (by decide) ?_
          exact ki4 _ ls (Option.some.inj h).symm (lv_sub hl [1, 2, 3, 0] rfl)
        · rw [if_neg c4] at h
          obtain ⟨v7, ev7⟩ : ∃ y : Int32, y = mv3 + (1 : Int32) := ⟨_, rfl⟩
          have h := og_ov h ev7
          refine lv_iinc (v := v7) (lv' := [(2, .int v7), (0, .ref q), (1, .int a1), (3, .int u4.2)]) hx hb dX0_placesFrom_33 hl (k := 2) rfl (by rw [ev7]; rfl) (by decide) rfl (fun ls hl => ?_)
          obtain ⟨v8, ev8⟩ : ∃ y : Int32, y = u4.2 + (1 : Int32) := ⟨_, rfl⟩
          have h := og_ov h ev8
          refine lv_iinc (v := v8) (lv' := [(3, .int v8), (2, .int v7), (0, .ref q), (1, .int a1)]) hx hb dX0_placesFrom_36 hl (k := 3) rfl (by rw [ev8]; rfl) (by decide) rfl (fun ls hl => ?_)
          refine lv_goto (tgt := 4) hx hb dX0_placesFrom_39 (by decide) ?_
          exact ki4 _ ls (Option.some.inj h).symm (lv_sub hl [2, 3, 1, 0] rfl)
      · have h := hm24
        refine lv_icmp_lt (tgt := 24) hx hb dX0_placesFrom_18 (by decide) (fun c8 => ?_) (fun c8 => ?_)
        · rw [if_pos c8] at h
          obtain rfl := Option.some.inj h
          exact KJ24 ls (lv_sub hl [0, 1, 2, 3] rfl)
        · rw [if_neg c8] at h
          obtain ⟨v10, ev10⟩ : ∃ y : Int32, y = u4.1 + (1 : Int32) := ⟨_, rfl⟩
          have h := og_ov h ev10
          refine lv_iinc (v := v10) (lv' := [(2, .int v10), (0, .ref q), (1, .int a1), (3, .int u4.2)]) hx hb dX0_placesFrom_21 hl (k := 2) rfl (by rw [ev10]; rfl) (by decide) rfl (fun ls hl => ?_)
          obtain rfl := Option.some.inj h
          exact KJ24 ls (lv_sub hl [1, 2, 0, 3] rfl)
  · refine lv_iload_n hx hb dX0_placesFrom_42 rfl (lv_at hl 0 rfl) ?_
    obtain rfl := Option.some.inj h
    exact W.iret hx hb hr (fun t ht _ => ⟨rfl, ht⟩) (fun _ h9 => absurd h9 List.not_mem_nil) dX0_placesFrom_43
def s_X0_crossesWhole_2 (xs : Nat → Int32) (ys : Nat → Int32) (n : Int32) (a1 : Int32) (u2 : Int32) : Option (Int32 ⊕ (Int32 ⊕ Unit)) :=
  if n ≤ u2 then
  (some (.inr (.inr ())))
  else
  ((f_X0_crossingLower ys n u2).bind fun r2 =>
  if r2 = (0) then
  (ov (u2 + (1 : Int32)) fun v4 =>
  some (.inl v4))
  else
  ((f_X0_crosses ys n u2 a1).bind fun r5 =>
  if r5 = (0) then
  (ov (u2 + (1 : Int32)) fun v7 =>
  some (.inl v7))
  else
  ((f_X0_crossingUpper xs ys n u2 a1).bind fun r8 =>
  if r2 = 0 then none else
  if (r8 - r8 / r2 * r2) = (0) then
  (ov (u2 + (1 : Int32)) fun v11 =>
  some (.inl v11))
  else
  (some (.inr (.inl (0 : Int32)))))))
def f_X0_crossesWhole (xs : Nat → Int32) (ys : Nat → Int32) (n : Int32) (a1 : Int32) : Option Int32 :=
  (lpf (s_X0_crossesWhole_2 xs ys n a1) 1000 (0 : Int32)).bind fun o13 => ret2 o13 (fun r9 => some r9) fun x12 =>
  some (1 : Int32)
set_option maxHeartbeats 4000000 in
set_option maxRecDepth 100000 in
theorem k_X0_crossesWhole (l : Launch) (D : va_G) (cI cF : ClassId) (q : Nat) (qx : Nat) (qy : Nat) (xs : Nat → Int32) (ys : Nat → Int32) (n : Int32) (a1 : Int32) (r0 : Int32) (h : f_X0_crossesWhole xs ys n a1 = some r0) : Met l yX0_crossesWhole wsX0_crossesWhole ({ frames := 2, cells := 0, slots := 0, locals := 45 }) (va_Pc [.ref q, .int a1] (fun U => wK D cI cF (figW cI q qx qy xs ys n) U)) (qS (.int r0)) 0 0 (fun _ => False) := by
  refine Met.ofW (cc := cX0_crossesWhole) (maxL := 4) (ret := (some .boolean)) (by decide) rfl ?_
  intro p e s m args below meth c s₁ B hml hv
  obtain ⟨rfl, hK, hP⟩ := hv
  have hx := B.exec
  have hb := B.bytes
  have hr := B.returns
  have hts := atoms_spec (ws := wsX0_crossesWhole) B.pre
  have hown : s.vm.findClass RX0 = some m.cls := findClass_of_methodNamed B.named
  have hlocks := B.notSynchronized
  have ht1 := hts (.fieldLink RX0 18 "DrawnAreas$Figure" "size" "I") (by decide +kernel)
  have hinX0 : ∀ w ∈ u_ws RX0 TX0 3, w ∈ wsX0_crossesWhole := by decide +kernel
  have hl := lv_entry ([.ref q, .int a1]) (n := 4) (Nat.le_of_ble_eq_true rfl)
  rw [lg_entry_eq]
  generalize (lg_sl ([.ref q, .int a1]) ++ List.replicate (4 - (lg_sl ([.ref q, .int a1])).length) Slot.unset).toArray = ls at hl ⊢
  have hl : lv_has ls 4 [(0, .ref q), (1, .int a1)] := hl
  unfold f_X0_crossesWhole at h
  refine lv_iconst (v := 0) hx hb dX0_crossesWhole_0 (by decide) ?_
  refine lv_istore_n (lv' := [(2, .int (0 : Int32)), (0, .ref q), (1, .int a1)]) hx hb dX0_crossesWhole_1 rfl hl (by decide) rfl (fun ls hl => ?_)
  obtain ⟨o13, hN2, h⟩ := og_bind h
  refine wlr (r0 := r0) hN2 2 48 (fun u2 ls => lv_has ls 4 [(0, .ref q), (1, .int a1), (2, .int u2)]) (fun x12 ls => lv_has ls 4 []) (fun u2 xx h ki2 kx2 kr2 ls hl => ?_) (fun r9 e9 => ?_) (fun x12 ls e9 hl => ?_) (lv_sub hl [1, 2, 0] rfl)
  · unfold s_X0_crossesWhole_2 at h
    refine lv_iload_n hx hb dX0_crossesWhole_2 rfl (lv_at hl 2 rfl) ?_
    refine lv_aload_n hx hb dX0_crossesWhole_3 rfl (lv_at hl 0 rfl) ?_
    refine va_get (D := D) (ci := 0) (v := .int n) (C := RX0) (T := TX0) (N := 3) hx hb hts hinX0 hown hK hP 0 rfl rfl 2 (by decide) ht1 (fun _ h9 => h9) rfl dX0_crossesWhole_4 ?_
    refine lv_icmp_ge (tgt := 48) hx hb dX0_crossesWhole_7 (by decide) (fun c0 => ?_) (fun c0 => ?_)
    · rw [if_pos c0] at h
      exact kx2 _ ls (Option.some.inj h).symm (lv_sub hl [] rfl)
    · rw [if_neg c0] at h
      refine lv_aload_n hx hb dX0_crossesWhole_10 rfl (lv_at hl 0 rfl) ?_
      refine lv_iload_n hx hb dX0_crossesWhole_11 rfl (lv_at hl 2 rfl) ?_
      obtain ⟨r2, hcr2, h⟩ := og_bind h
      refine cp_s (va_runV (As := [.int u2]) (rest := []) ⟨hx, hb, hml, hown, hts⟩ (k_X0_crossingLower l D cI cF q qx qy xs ys n u2 _ hcr2) (cwV 1 hts gX0_crossesWhole_X0_crossingLower rfl rfl rfl (by decide +kernel) ⟨(Nat.le_of_ble_eq_true rfl), (Nat.le_of_ble_eq_true rfl)⟩) (pre_v (q0 := 0) (ci := 0) hK hP rfl rfl) rfl rfl hl.1 rfl (lv_room (Nat.le_of_ble_eq_true rfl)) dX0_crossesWhole_12 ⟨(Nat.zero_le _), (Nat.zero_le _)⟩) ?_
      refine lv_istore_n (lv' := [(3, .int r2), (0, .ref q), (1, .int a1), (2, .int u2)]) hx hb dX0_crossesWhole_15 rfl hl (by decide) rfl (fun ls hl => ?_)
      refine lv_iload_n hx hb dX0_crossesWhole_16 rfl (lv_at hl 0 rfl) ?_
      refine lv_if_eq (tgt := 42) hx hb dX0_crossesWhole_17 (by decide) (fun c2 => ?_) (fun c2 => ?_)
      · rw [if_pos c2] at h
        obtain ⟨v4, ev4⟩ : ∃ y : Int32, y = u2 + (1 : Int32) := ⟨_, rfl⟩
        have h := og_ov h ev4
        refine lv_iinc (v := v4) (lv' := [(2, .int v4), (3, .int r2), (0, .ref q), (1, .int a1)]) hx hb dX0_crossesWhole_42 hl (k := 3) rfl (by rw [ev4]; rfl) (by decide) rfl (fun ls hl => ?_)
        refine lv_goto (tgt := 2) hx hb dX0_crossesWhole_45 (by decide) ?_
        exact ki2 _ ls (Option.some.inj h).symm (lv_sub hl [2, 3, 0] rfl)
      · rw [if_neg c2] at h
        refine lv_aload_n hx hb dX0_crossesWhole_20 rfl (lv_at hl 1 rfl) ?_
        refine lv_iload_n hx hb dX0_crossesWhole_21 rfl (lv_at hl 3 rfl) ?_
        refine lv_iload_n hx hb dX0_crossesWhole_22 rfl (lv_at hl 2 rfl) ?_
        obtain ⟨r5, hcr5, h⟩ := og_bind h
        refine cp_s (va_runV (As := [.int u2, .int a1]) (rest := []) ⟨hx, hb, hml, hown, hts⟩ (k_X0_crosses l D cI cF q qx qy xs ys n u2 a1 _ hcr5) (cwV 2 hts gX0_crossesWhole_X0_crosses rfl rfl rfl (by decide +kernel) ⟨(Nat.le_of_ble_eq_true rfl), (Nat.le_of_ble_eq_true rfl)⟩) (pre_v (q0 := 0) (ci := 0) hK hP rfl rfl) rfl rfl hl.1 rfl (lv_room (Nat.le_of_ble_eq_true rfl)) dX0_crossesWhole_23 ⟨(Nat.zero_le _), (Nat.zero_le _)⟩) ?_
        refine lv_if_eq (tgt := 42) hx hb dX0_crossesWhole_26 (by decide) (fun c5 => ?_) (fun c5 => ?_)
        · rw [if_pos c5] at h
          obtain ⟨v7, ev7⟩ : ∃ y : Int32, y = u2 + (1 : Int32) := ⟨_, rfl⟩
          have h := og_ov h ev7
          refine lv_iinc (v := v7) (lv' := [(2, .int v7), (3, .int r2), (0, .ref q), (1, .int a1)]) hx hb dX0_crossesWhole_42 hl (k := 3) rfl (by rw [ev7]; rfl) (by decide) rfl (fun ls hl => ?_)
          refine lv_goto (tgt := 2) hx hb dX0_crossesWhole_45 (by decide) ?_
          exact ki2 _ ls (Option.some.inj h).symm (lv_sub hl [2, 3, 0] rfl)
        · rw [if_neg c5] at h
          refine lv_aload_n hx hb dX0_crossesWhole_29 rfl (lv_at hl 1 rfl) ?_
          refine lv_iload_n hx hb dX0_crossesWhole_30 rfl (lv_at hl 3 rfl) ?_
          refine lv_iload_n hx hb dX0_crossesWhole_31 rfl (lv_at hl 2 rfl) ?_
          obtain ⟨r8, hcr8, h⟩ := og_bind h
          refine cp_s (va_runV (As := [.int u2, .int a1]) (rest := []) ⟨hx, hb, hml, hown, hts⟩ (k_X0_crossingUpper l D cI cF q qx qy xs ys n u2 a1 _ hcr8) (cwV 2 hts gX0_crossesWhole_X0_crossingUpper rfl rfl rfl (by decide +kernel) ⟨(Nat.le_of_ble_eq_true rfl), (Nat.le_of_ble_eq_true rfl)⟩) (pre_v (q0 := 0) (ci := 0) hK hP rfl rfl) rfl rfl hl.1 rfl (lv_room (Nat.le_of_ble_eq_true rfl)) dX0_crossesWhole_32 ⟨(Nat.zero_le _), (Nat.zero_le _)⟩) ?_
          refine lv_iload_n hx hb dX0_crossesWhole_35 rfl (lv_at hl 0 rfl) ?_
          obtain ⟨gz8, h⟩ := og_nz h
          refine lv_irem hx hb dX0_crossesWhole_36 gz8 ?_
          refine lv_if_eq (tgt := 42) hx hb dX0_crossesWhole_37 (by decide) (fun c9 => ?_) (fun c9 => ?_)
          · rw [if_pos c9] at h
            obtain ⟨v11, ev11⟩ : ∃ y : Int32, y = u2 + (1 : Int32) := ⟨_, rfl⟩
            have h := og_ov h ev11
            refine lv_iinc (v := v11) (lv' := [(2, .int v11), (3, .int r2), (0, .ref q), (1, .int a1)]) hx hb dX0_crossesWhole_42 hl (k := 3) rfl (by rw [ev11]; rfl) (by decide) rfl (fun ls hl => ?_)
            refine lv_goto (tgt := 2) hx hb dX0_crossesWhole_45 (by decide) ?_
            exact ki2 _ ls (Option.some.inj h).symm (lv_sub hl [2, 3, 0] rfl)
          · rw [if_neg c9] at h
            refine lv_iconst (v := 0) hx hb dX0_crossesWhole_40 (by decide) ?_
            obtain rfl := kr2 _ (Option.some.inj h).symm
            exact W.zret hx hb hr rfl (fun t ht _ => ⟨rfl, ht⟩) (fun _ h9 => absurd h9 List.not_mem_nil) dX0_crossesWhole_41
  · subst e9
    exact Option.some.inj h
  · subst e9
    dsimp only [ret2] at h
    refine lv_iconst (v := 1) hx hb dX0_crossesWhole_48 (by decide) ?_
    obtain rfl := Option.some.inj h
    exact W.zret hx hb hr rfl (fun t ht _ => ⟨rfl, ht⟩) (fun _ h9 => absurd h9 List.not_mem_nil) dX0_crossesWhole_49
