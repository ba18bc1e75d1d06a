set_option maxHeartbeats 8000000 in
set_option maxRecDepth 100000 in
theorem law_shut {p : Program} {l : Launch} {e : Env} {s : State} {m : MethodId} {below : List Frame} {meth : Method} {c : Code} {D : va_G} {cI cF : ClassId} {b L : Nat} {xs : Nat → Int32} {o qf : Nat} {g gx gy : Nat → Nat} {m0 m1 m2 m3 m4 m5 : Nat} (C0 : lw_At p s m meth c b L xs) (F : LF D cI cF s o qf g gx gy m0 m1 m2 m3 m4 m5) (x3 : Int32) (e1 : Int32) (he1 : e1 = xs (x3 + 1).toNatClampNeg) (hi1 : vp_in (x3 + 1) L) (e2 : Int32) (he2 : e2 = xs (x3 + 2).toNatClampNeg) (hi2 : vp_in (x3 + 2) L) (H : Heap) (locs : List Loc) (I : LI D cI cF s o qf g gx gy m0 m1 m2 m3 m4 m5 H locs) (cont : ∀ (H : Heap) (locs : List Loc) (ls : Array Slot), LI D cI cF s o qf g gx gy m0 m1 m2 m3 m4 m5 H locs → lv_has ls 4 [(0, .ref b), (1, .ref o), (2, .ref m0), (3, .int x3)] → W p l e room_1 s m #[Value.ref b] below meth c H locs 26 723 (lw_Z below #[Value.ref b] s) (F0 m 1090 ls [])) (ls : Array Slot) (hl : lv_has ls 4 [(0, .ref b), (1, .ref o), (2, .ref m0), (3, .int x3)]) : W p l e room_1 s m #[Value.ref b] below meth c H locs 26 723 (lw_Z below #[Value.ref b] s) (F0 m 588 ls []) := by
  obtain ⟨hx, hb, hr, hml, hown, hts, hX, hbl, hlocks, hgv⟩ := C0
  obtain ⟨hK, hnw, hpt, hdl, hmD⟩ := F
  obtain ⟨ro, rn, tn, fx, fy, ar, wh, X, Y, N, pt, px, py, ma, u, v, hG, hR, hO, hm, hS⟩ := I
  have hb : c.code = cL_law := hb
  have hown : s.vm.findClass RL = some m.cls := hown
  have htw : ∀ w ∈ wsL_law, w.before #[Value.ref b] s = true := fun w h => hts w (wsL_law_in w h)
  have hbA : ¬ (fun q : Nat => s.heap.size ≤ q) b := Nat.not_le.mpr hbl
  refine lv_aload_n hx hb dL_law_588 rfl (lv_at hl 1 rfl) ?_
  refine lv_aload_n hx hb dL_law_589 rfl (lv_at hl 0 rfl) ?_
  refine lv_iload_n hx hb dL_law_590 rfl (lv_at hl 3 rfl) ?_
  refine lv_iconst (v := 1) hx hb dL_law_591 (by decide) ?_
  refine lv_iadd hx hb dL_law_592 ?_
  refine va_sld hx hb hX hbl hbA hS hi1 dL_law_593 ?_
  rw [← he1]
  refine lv_aload_n hx hb dL_law_594 rfl (lv_at hl 0 rfl) ?_
  refine lv_iload_n hx hb dL_law_595 rfl (lv_at hl 3 rfl) ?_
  refine lv_iconst (v := 2) hx hb dL_law_596 (by decide) ?_
  refine lv_iadd hx hb dL_law_597 ?_
  refine va_sld hx hb hX hbl hbA hS hi2 dL_law_598 ?_
  rw [← he2]
  obtain ⟨r1, h1, h2⟩ := op_shut hG e1 e2
  refine cp_s (va_runV (As := [.int e1, .int e2]) (rest := []) ⟨hx, hb, hml, hown, htw⟩ (k_X1_shut l D cI cF o qf g gx gy ro rn tn fx fy ar wh X Y N e1 e2 _ h1) (cwV 2 htw gL_law_X1_shut rfl rfl rfl (by decide +kernel) ⟨(Nat.le_of_ble_eq_true rfl), (Nat.le_of_ble_eq_true rfl)⟩) (pre_o hK hnw hO) rfl rfl hl.1 rfl (lv_room (Nat.le_of_ble_eq_true rfl)) dL_law_599 ⟨(Nat.le_of_ble_eq_true rfl), (Nat.le_of_ble_eq_true rfl)⟩) ?_
  refine lv_aload_n hx hb dL_law_602 rfl (lv_at hl 2 rfl) ?_
  refine lv_aload_n hx hb dL_law_603 rfl (lv_at hl 0 rfl) ?_
  refine lv_iload_n hx hb dL_law_604 rfl (lv_at hl 3 rfl) ?_
  refine lv_iconst (v := 1) hx hb dL_law_605 (by decide) ?_
  refine lv_iadd hx hb dL_law_606 ?_
  refine va_sld hx hb hX hbl hbA hS hi1 dL_law_607 ?_
  rw [← he1]
  refine lv_aload_n hx hb dL_law_608 rfl (lv_at hl 0 rfl) ?_
  refine lv_iload_n hx hb dL_law_609 rfl (lv_at hl 3 rfl) ?_
  refine lv_iconst (v := 2) hx hb dL_law_610 (by decide) ?_
  refine lv_iadd hx hb dL_law_611 ?_
  refine va_sld hx hb hX hbl hbA hS hi2 dL_law_612 ?_
  rw [← he2]
  refine cp_s (va_runV (As := [.int e1, .int e2]) (rest := [.long r1]) ⟨hx, hb, hml, hown, htw⟩ (k_X2_shut l D cI cF m0 m1 m2 m3 m4 m5 pt px py ro rn tn fx fy ar wh ma u v e1 e2 _ h2) (cwV 2 htw gL_law_X2_shut rfl rfl rfl (by decide +kernel) ⟨(Nat.le_of_ble_eq_true rfl), (Nat.le_of_ble_eq_true rfl)⟩) (pre_v (q0 := 0) (ci := 2) hK hm rfl rfl) rfl rfl hl.1 rfl (lv_room (Nat.le_of_ble_eq_true rfl)) dL_law_613 ⟨(Nat.le_of_ble_eq_true rfl), (Nat.le_of_ble_eq_true rfl)⟩) ?_
  refine W.lcmp hx hb dL_law_616 ?_
  refine lv_if_eq (tgt := 1090) hx hb dL_law_617 (by decide) (fun _ => ?_) (fun c9 => absurd ((cmp_eq _ _).mpr rfl) c9)
  exact cont _ _ ls ⟨ro, rn, tn, fx, fy, ar, wh, X, Y, N, pt, px, py, ma, u, v, hG, hR, hO, hm, hS⟩ hl
set_option maxHeartbeats 8000000 in
set_option maxRecDepth 100000 in
theorem law_geared {p : Program} {l : Launch} {e : Env} {s : State} {m : MethodId} {below : List Frame} {meth : Method} {c : Code} {D : va_G} {cI cF : ClassId} {b L : Nat} {xs : Nat → Int32} {o qf : Nat} {g gx gy : Nat → Nat} {m0 m1 m2 m3 m4 m5 : Nat} (C0 : lw_At p s m meth c b L xs) (F : LF D cI cF s o qf g gx gy m0 m1 m2 m3 m4 m5) (x3 : Int32) (e1 : Int32) (he1 : e1 = xs (x3 + 1).toNatClampNeg) (hi1 : vp_in (x3 + 1) L) (e2 : Int32) (he2 : e2 = xs (x3 + 2).toNatClampNeg) (hi2 : vp_in (x3 + 2) L) (e3 : Int32) (he3 : e3 = xs (x3 + 3).toNatClampNeg) (hi3 : vp_in (x3 + 3) L) (H : Heap) (locs : List Loc) (I : LI D cI cF s o qf g gx gy m0 m1 m2 m3 m4 m5 H locs) (cont : ∀ (H : Heap) (locs : List Loc) (ls : Array Slot), LI D cI cF s o qf g gx gy m0 m1 m2 m3 m4 m5 H locs → lv_has ls 4 [(0, .ref b), (1, .ref o), (2, .ref m0), (3, .int x3)] → W p l e room_1 s m #[Value.ref b] below meth c H locs 26 723 (lw_Z below #[Value.ref b] s) (F0 m 1090 ls [])) (ls : Array Slot) (hl : lv_has ls 4 [(0, .ref b), (1, .ref o), (2, .ref m0), (3, .int x3)]) : W p l e room_1 s m #[Value.ref b] below meth c H locs 26 723 (lw_Z below #[Value.ref b] s) (F0 m 622 ls []) := by
  obtain ⟨hx, hb, hr, hml, hown, hts, hX, hbl, hlocks, hgv⟩ := C0
  obtain ⟨hK, hnw, hpt, hdl, hmD⟩ := F
  obtain ⟨ro, rn, tn, fx, fy, ar, wh, X, Y, N, pt, px, py, ma, u, v, hG, hR, hO, hm, hS⟩ := I
  have hb : c.code = cL_law := hb
  have hown : s.vm.findClass RL = some m.cls := hown
  have htw : ∀ w ∈ wsL_law, w.before #[Value.ref b] s = true := fun w h => hts w (wsL_law_in w h)
  have hbA : ¬ (fun q : Nat => s.heap.size ≤ q) b := Nat.not_le.mpr hbl
  refine lv_aload_n hx hb dL_law_622 rfl (lv_at hl 1 rfl) ?_
  refine lv_aload_n hx hb dL_law_623 rfl (lv_at hl 0 rfl) ?_
  refine lv_iload_n hx hb dL_law_624 rfl (lv_at hl 3 rfl) ?_
  refine lv_iconst (v := 1) hx hb dL_law_625 (by decide) ?_
  refine lv_iadd hx hb dL_law_626 ?_
  refine va_sld hx hb hX hbl hbA hS hi1 dL_law_627 ?_
  rw [← he1]
  refine lv_aload_n hx hb dL_law_628 rfl (lv_at hl 0 rfl) ?_
  refine lv_iload_n hx hb dL_law_629 rfl (lv_at hl 3 rfl) ?_
  refine lv_iconst (v := 2) hx hb dL_law_630 (by decide) ?_
  refine lv_iadd hx hb dL_law_631 ?_
  refine va_sld hx hb hX hbl hbA hS hi2 dL_law_632 ?_
  rw [← he2]
  refine lv_aload_n hx hb dL_law_633 rfl (lv_at hl 0 rfl) ?_
  refine lv_iload_n hx hb dL_law_634 rfl (lv_at hl 3 rfl) ?_
  refine lv_iconst (v := 3) hx hb dL_law_635 (by decide) ?_
  refine lv_iadd hx hb dL_law_636 ?_
  refine va_sld hx hb hX hbl hbA hS hi3 dL_law_637 ?_
  rw [← he3]
  obtain ⟨r1, h1, h2⟩ := op_geared (Ro_of hG.1) hR e1 e2 e3
  refine cp_s (va_runV (As := [.int e1, .int e2, .int e3]) (rest := []) ⟨hx, hb, hml, hown, htw⟩ (k_X1_geared l D cI cF o qf g gx gy ro rn tn fx fy ar wh X Y N e1 e2 e3 _ h1) (cwV 3 htw gL_law_X1_geared rfl rfl rfl (by decide +kernel) ⟨(Nat.le_of_ble_eq_true rfl), (Nat.le_of_ble_eq_true rfl)⟩) (pre_o hK hnw hO) rfl rfl hl.1 rfl (lv_room (Nat.le_of_ble_eq_true rfl)) dL_law_638 ⟨(Nat.le_of_ble_eq_true rfl), (Nat.le_of_ble_eq_true rfl)⟩) ?_
  refine lv_aload_n hx hb dL_law_641 rfl (lv_at hl 2 rfl) ?_
  refine lv_aload_n hx hb dL_law_642 rfl (lv_at hl 0 rfl) ?_
  refine lv_iload_n hx hb dL_law_643 rfl (lv_at hl 3 rfl) ?_
  refine lv_iconst (v := 1) hx hb dL_law_644 (by decide) ?_
  refine lv_iadd hx hb dL_law_645 ?_
  refine va_sld hx hb hX hbl hbA hS hi1 dL_law_646 ?_
  rw [← he1]
  refine lv_aload_n hx hb dL_law_647 rfl (lv_at hl 0 rfl) ?_
  refine lv_iload_n hx hb dL_law_648 rfl (lv_at hl 3 rfl) ?_
  refine lv_iconst (v := 2) hx hb dL_law_649 (by decide) ?_
  refine lv_iadd hx hb dL_law_650 ?_
  refine va_sld hx hb hX hbl hbA hS hi2 dL_law_651 ?_
  rw [← he2]
  refine lv_aload_n hx hb dL_law_652 rfl (lv_at hl 0 rfl) ?_
  refine lv_iload_n hx hb dL_law_653 rfl (lv_at hl 3 rfl) ?_
  refine lv_iconst (v := 3) hx hb dL_law_654 (by decide) ?_
  refine lv_iadd hx hb dL_law_655 ?_
  refine va_sld hx hb hX hbl hbA hS hi3 dL_law_656 ?_
  rw [← he3]
  refine cp_s (va_runV (As := [.int e1, .int e2, .int e3]) (rest := [.long r1]) ⟨hx, hb, hml, hown, htw⟩ (k_X2_geared l D cI cF m0 m1 m2 m3 m4 m5 pt px py ro rn tn fx fy ar wh ma u v e1 e2 e3 _ h2) (cwV 3 htw gL_law_X2_geared rfl rfl rfl (by decide +kernel) ⟨(Nat.le_of_ble_eq_true rfl), (Nat.le_of_ble_eq_true rfl)⟩) (pre_v (q0 := 0) (ci := 2) hK hm rfl rfl) rfl rfl hl.1 rfl (lv_room (Nat.le_of_ble_eq_true rfl)) dL_law_657 ⟨(Nat.le_of_ble_eq_true rfl), (Nat.le_of_ble_eq_true rfl)⟩) ?_
  refine W.lcmp hx hb dL_law_660 ?_
  refine lv_if_eq (tgt := 1090) hx hb dL_law_661 (by decide) (fun _ => ?_) (fun c9 => absurd ((cmp_eq _ _).mpr rfl) c9)
  exact cont _ _ ls ⟨ro, rn, tn, fx, fy, ar, wh, X, Y, N, pt, px, py, ma, u, v, hG, hR, hO, hm, hS⟩ hl
set_option maxHeartbeats 8000000 in
set_option maxRecDepth 100000 in
theorem law_moment {p : Program} {l : Launch} {e : Env} {s : State} {m : MethodId} {below : List Frame} {meth : Method} {c : Code} {D : va_G} {cI cF : ClassId} {b L : Nat} {xs : Nat → Int32} {o qf : Nat} {g gx gy : Nat → Nat} {m0 m1 m2 m3 m4 m5 : Nat} (C0 : lw_At p s m meth c b L xs) (F : LF D cI cF s o qf g gx gy m0 m1 m2 m3 m4 m5) (x3 : Int32) (e1 : Int32) (he1 : e1 = xs (x3 + 1).toNatClampNeg) (hi1 : vp_in (x3 + 1) L) (e2 : Int32) (he2 : e2 = xs (x3 + 2).toNatClampNeg) (hi2 : vp_in (x3 + 2) L) (e3 : Int32) (he3 : e3 = xs (x3 + 3).toNatClampNeg) (hi3 : vp_in (x3 + 3) L) (H : Heap) (locs : List Loc) (I : LI D cI cF s o qf g gx gy m0 m1 m2 m3 m4 m5 H locs) (cont : ∀ (H : Heap) (locs : List Loc) (ls : Array Slot), LI D cI cF s o qf g gx gy m0 m1 m2 m3 m4 m5 H locs → lv_has ls 4 [(0, .ref b), (1, .ref o), (2, .ref m0), (3, .int x3)] → W p l e room_1 s m #[Value.ref b] below meth c H locs 26 723 (lw_Z below #[Value.ref b] s) (F0 m 1090 ls [])) (ls : Array Slot) (hl : lv_has ls 4 [(0, .ref b), (1, .ref o), (2, .ref m0), (3, .int x3)]) : W p l e room_1 s m #[Value.ref b] below meth c H locs 26 723 (lw_Z below #[Value.ref b] s) (F0 m 666 ls []) := by
  obtain ⟨hx, hb, hr, hml, hown, hts, hX, hbl, hlocks, hgv⟩ := C0
  obtain ⟨hK, hnw, hpt, hdl, hmD⟩ := F
  obtain ⟨ro, rn, tn, fx, fy, ar, wh, X, Y, N, pt, px, py, ma, u, v, hG, hR, hO, hm, hS⟩ := I
  have hb : c.code = cL_law := hb
  have hown : s.vm.findClass RL = some m.cls := hown
  have htw : ∀ w ∈ wsL_law, w.before #[Value.ref b] s = true := fun w h => hts w (wsL_law_in w h)
  have hbA : ¬ (fun q : Nat => s.heap.size ≤ q) b := Nat.not_le.mpr hbl
  refine lv_aload_n hx hb dL_law_666 rfl (lv_at hl 1 rfl) ?_
  refine lv_aload_n hx hb dL_law_667 rfl (lv_at hl 0 rfl) ?_
  refine lv_iload_n hx hb dL_law_668 rfl (lv_at hl 3 rfl) ?_
  refine lv_iconst (v := 1) hx hb dL_law_669 (by decide) ?_
  refine lv_iadd hx hb dL_law_670 ?_
  refine va_sld hx hb hX hbl hbA hS hi1 dL_law_671 ?_
  rw [← he1]
  refine lv_aload_n hx hb dL_law_672 rfl (lv_at hl 0 rfl) ?_
  refine lv_iload_n hx hb dL_law_673 rfl (lv_at hl 3 rfl) ?_
  refine lv_iconst (v := 2) hx hb dL_law_674 (by decide) ?_
  refine lv_iadd hx hb dL_law_675 ?_
  refine va_sld hx hb hX hbl hbA hS hi2 dL_law_676 ?_
  rw [← he2]
  refine lv_aload_n hx hb dL_law_677 rfl (lv_at hl 0 rfl) ?_
  refine lv_iload_n hx hb dL_law_678 rfl (lv_at hl 3 rfl) ?_
  refine lv_iconst (v := 3) hx hb dL_law_679 (by decide) ?_
  refine lv_iadd hx hb dL_law_680 ?_
  refine va_sld hx hb hX hbl hbA hS hi3 dL_law_681 ?_
  rw [← he3]
  obtain ⟨r1, h1, h2⟩ := op_moment hR e1 e2 e3
  refine cp_s (va_runV (As := [.int e1, .int e2, .int e3]) (rest := []) ⟨hx, hb, hml, hown, htw⟩ (k_X1_moment l D cI cF o qf g gx gy ro rn tn fx fy ar wh X Y N e1 e2 e3 _ h1) (cwV 3 htw gL_law_X1_moment rfl rfl rfl (by decide +kernel) ⟨(Nat.le_of_ble_eq_true rfl), (Nat.le_of_ble_eq_true rfl)⟩) (pre_o hK hnw hO) rfl rfl hl.1 rfl (lv_room (Nat.le_of_ble_eq_true rfl)) dL_law_682 ⟨(Nat.le_of_ble_eq_true rfl), (Nat.le_of_ble_eq_true rfl)⟩) ?_
  refine lv_aload_n hx hb dL_law_685 rfl (lv_at hl 2 rfl) ?_
  refine lv_aload_n hx hb dL_law_686 rfl (lv_at hl 0 rfl) ?_
  refine lv_iload_n hx hb dL_law_687 rfl (lv_at hl 3 rfl) ?_
  refine lv_iconst (v := 1) hx hb dL_law_688 (by decide) ?_
  refine lv_iadd hx hb dL_law_689 ?_
  refine va_sld hx hb hX hbl hbA hS hi1 dL_law_690 ?_
  rw [← he1]
  refine lv_aload_n hx hb dL_law_691 rfl (lv_at hl 0 rfl) ?_
  refine lv_iload_n hx hb dL_law_692 rfl (lv_at hl 3 rfl) ?_
  refine lv_iconst (v := 2) hx hb dL_law_693 (by decide) ?_
  refine lv_iadd hx hb dL_law_694 ?_
  refine va_sld hx hb hX hbl hbA hS hi2 dL_law_695 ?_
  rw [← he2]
  refine lv_aload_n hx hb dL_law_696 rfl (lv_at hl 0 rfl) ?_
  refine lv_iload_n hx hb dL_law_697 rfl (lv_at hl 3 rfl) ?_
  refine lv_iconst (v := 3) hx hb dL_law_698 (by decide) ?_
  refine lv_iadd hx hb dL_law_699 ?_
  refine va_sld hx hb hX hbl hbA hS hi3 dL_law_700 ?_
  rw [← he3]
  refine cp_s (va_runV (As := [.int e1, .int e2, .int e3]) (rest := [.long r1]) ⟨hx, hb, hml, hown, htw⟩ (k_X2_moment l D cI cF m0 m1 m2 m3 m4 m5 pt px py ro rn tn fx fy ar wh ma u v e1 e2 e3 _ h2) (cwV 3 htw gL_law_X2_moment rfl rfl rfl (by decide +kernel) ⟨(Nat.le_of_ble_eq_true rfl), (Nat.le_of_ble_eq_true rfl)⟩) (pre_v (q0 := 0) (ci := 2) hK hm rfl rfl) rfl rfl hl.1 rfl (lv_room (Nat.le_of_ble_eq_true rfl)) dL_law_701 ⟨(Nat.le_of_ble_eq_true rfl), (Nat.le_of_ble_eq_true rfl)⟩) ?_
  refine W.lcmp hx hb dL_law_704 ?_
  refine lv_if_eq (tgt := 1090) hx hb dL_law_705 (by decide) (fun _ => ?_) (fun c9 => absurd ((cmp_eq _ _).mpr rfl) c9)
  exact cont _ _ ls ⟨ro, rn, tn, fx, fy, ar, wh, X, Y, N, pt, px, py, ma, u, v, hG, hR, hO, hm, hS⟩ hl
set_option maxHeartbeats 8000000 in
set_option maxRecDepth 100000 in
theorem law_arm {p : Program} {l : Launch} {e : Env} {s : State} {m : MethodId} {below : List Frame} {meth : Method} {c : Code} {D : va_G} {cI cF : ClassId} {b L : Nat} {xs : Nat → Int32} {o qf : Nat} {g gx gy : Nat → Nat} {m0 m1 m2 m3 m4 m5 : Nat} (C0 : lw_At p s m meth c b L xs) (F : LF D cI cF s o qf g gx gy m0 m1 m2 m3 m4 m5) (x3 : Int32) (e1 : Int32) (he1 : e1 = xs (x3 + 1).toNatClampNeg) (hi1 : vp_in (x3 + 1) L) (e2 : Int32) (he2 : e2 = xs (x3 + 2).toNatClampNeg) (hi2 : vp_in (x3 + 2) L) (e3 : Int32) (he3 : e3 = xs (x3 + 3).toNatClampNeg) (hi3 : vp_in (x3 + 3) L) (e4 : Int32) (he4 : e4 = xs (x3 + 4).toNatClampNeg) (hi4 : vp_in (x3 + 4) L) (H : Heap) (locs : List Loc) (I : LI D cI cF s o qf g gx gy m0 m1 m2 m3 m4 m5 H locs) (cont : ∀ (H : Heap) (locs : List Loc) (ls : Array Slot), LI D cI cF s o qf g gx gy m0 m1 m2 m3 m4 m5 H locs → lv_has ls 4 [(0, .ref b), (1, .ref o), (2, .ref m0), (3, .int x3)] → W p l e room_1 s m #[Value.ref b] below meth c H locs 26 723 (lw_Z below #[Value.ref b] s) (F0 m 1090 ls [])) (ls : Array Slot) (hl : lv_has ls 4 [(0, .ref b), (1, .ref o), (2, .ref m0), (3, .int x3)]) : W p l e room_1 s m #[Value.ref b] below meth c H locs 26 723 (lw_Z below #[Value.ref b] s) (F0 m 710 ls []) := by
  obtain ⟨hx, hb, hr, hml, hown, hts, hX, hbl, hlocks, hgv⟩ := C0
  obtain ⟨hK, hnw, hpt, hdl, hmD⟩ := F
  obtain ⟨ro, rn, tn, fx, fy, ar, wh, X, Y, N, pt, px, py, ma, u, v, hG, hR, hO, hm, hS⟩ := I
  have hb : c.code = cL_law := hb
  have hown : s.vm.findClass RL = some m.cls := hown
  have htw : ∀ w ∈ wsL_law, w.before #[Value.ref b] s = true := fun w h => hts w (wsL_law_in w h)
  have hbA : ¬ (fun q : Nat => s.heap.size ≤ q) b := Nat.not_le.mpr hbl
  refine lv_aload_n hx hb dL_law_710 rfl (lv_at hl 1 rfl) ?_
  refine lv_aload_n hx hb dL_law_711 rfl (lv_at hl 0 rfl) ?_
  refine lv_iload_n hx hb dL_law_712 rfl (lv_at hl 3 rfl) ?_
  refine lv_iconst (v := 1) hx hb dL_law_713 (by decide) ?_
  refine lv_iadd hx hb dL_law_714 ?_
  refine va_sld hx hb hX hbl hbA hS hi1 dL_law_715 ?_
  rw [← he1]
  refine lv_aload_n hx hb dL_law_716 rfl (lv_at hl 0 rfl) ?_
  refine lv_iload_n hx hb dL_law_717 rfl (lv_at hl 3 rfl) ?_
  refine lv_iconst (v := 2) hx hb dL_law_718 (by decide) ?_
  refine lv_iadd hx hb dL_law_719 ?_
  refine va_sld hx hb hX hbl hbA hS hi2 dL_law_720 ?_
  rw [← he2]
  refine lv_aload_n hx hb dL_law_721 rfl (lv_at hl 0 rfl) ?_
  refine lv_iload_n hx hb dL_law_722 rfl (lv_at hl 3 rfl) ?_
  refine lv_iconst (v := 3) hx hb dL_law_723 (by decide) ?_
  refine lv_iadd hx hb dL_law_724 ?_
  refine va_sld hx hb hX hbl hbA hS hi3 dL_law_725 ?_
  rw [← he3]
  refine lv_aload_n hx hb dL_law_726 rfl (lv_at hl 0 rfl) ?_
  refine lv_iload_n hx hb dL_law_727 rfl (lv_at hl 3 rfl) ?_
  refine lv_iconst (v := 4) hx hb dL_law_728 (by decide) ?_
  refine lv_iadd hx hb dL_law_729 ?_
  refine va_sld hx hb hX hbl hbA hS hi4 dL_law_730 ?_
  rw [← he4]
  obtain ⟨⟨r1, fx1, fy1, ar1, wh1⟩, h1, h2, hG1⟩ := op_arm hG e1 e2 e3 e4
  refine cp_w (va_runV (As := [.int e1, .int e2, .int e3, .int e4]) (rest := []) ⟨hx, hb, hml, hown, htw⟩ (k_X1_arm l D cI cF o qf g gx gy ro rn tn fx fy ar wh X Y N e1 e2 e3 e4 _ h1) (cwV 4 htw gL_law_X1_arm rfl rfl rfl (by decide +kernel) ⟨(Nat.le_of_ble_eq_true rfl), (Nat.le_of_ble_eq_true rfl)⟩) (pre_p hK hnw hO hpt) rfl rfl hl.1 rfl (lv_room (Nat.le_of_ble_eq_true rfl)) dL_law_731 ⟨(Nat.le_of_ble_eq_true rfl), (Nat.le_of_ble_eq_true rfl)⟩) hS (fun a9 h9 => (hdl a9 h9).1) (fun H1 locs1 hO1 hz1 hk1 hS => ?_)
  have hO1 : drP D cI cF o qf g gx gy ro rn tn fx1 fy1 ar1 wh1 X Y N H1 := hO1
  have hm1 := mo_kept (fun a h => (hdl a h).2) hm hk1
  refine lv_aload_n hx hb dL_law_734 rfl (lv_at hl 2 rfl) ?_
  refine lv_aload_n hx hb dL_law_735 rfl (lv_at hl 0 rfl) ?_
  refine lv_iload_n hx hb dL_law_736 rfl (lv_at hl 3 rfl) ?_
  refine lv_iconst (v := 1) hx hb dL_law_737 (by decide) ?_
  refine lv_iadd hx hb dL_law_738 ?_
  refine va_sld hx hb hX hbl hbA hS hi1 dL_law_739 ?_
  rw [← he1]
  refine lv_aload_n hx hb dL_law_740 rfl (lv_at hl 0 rfl) ?_
  refine lv_iload_n hx hb dL_law_741 rfl (lv_at hl 3 rfl) ?_
  refine lv_iconst (v := 2) hx hb dL_law_742 (by decide) ?_
  refine lv_iadd hx hb dL_law_743 ?_
  refine va_sld hx hb hX hbl hbA hS hi2 dL_law_744 ?_
  rw [← he2]
  refine lv_aload_n hx hb dL_law_745 rfl (lv_at hl 0 rfl) ?_
  refine lv_iload_n hx hb dL_law_746 rfl (lv_at hl 3 rfl) ?_
  refine lv_iconst (v := 3) hx hb dL_law_747 (by decide) ?_
  refine lv_iadd hx hb dL_law_748 ?_
  refine va_sld hx hb hX hbl hbA hS hi3 dL_law_749 ?_
  rw [← he3]
  refine lv_aload_n hx hb dL_law_750 rfl (lv_at hl 0 rfl) ?_
  refine lv_iload_n hx hb dL_law_751 rfl (lv_at hl 3 rfl) ?_
  refine lv_iconst (v := 4) hx hb dL_law_752 (by decide) ?_
  refine lv_iadd hx hb dL_law_753 ?_
  refine va_sld hx hb hX hbl hbA hS hi4 dL_law_754 ?_
  rw [← he4]
  refine cp_w (va_runV (As := [.int e1, .int e2, .int e3, .int e4]) (rest := [.int r1]) ⟨hx, hb, hml, hown, htw⟩ (k_X2_arm l D cI cF m0 m1 m2 m3 m4 m5 pt px py ro rn tn fx fy ar wh ma u v e1 e2 e3 e4 _ h2) (cwV 4 htw gL_law_X2_arm rfl rfl rfl (by decide +kernel) ⟨(Nat.le_of_ble_eq_true rfl), (Nat.le_of_ble_eq_true rfl)⟩) (pre_d (q0 := 0) (ci := 2) hK hm1 (hmD _ _ _ _ _ _ _ _ _ _ _ _ _) rfl rfl) rfl rfl hl.1 rfl (lv_room (Nat.le_of_ble_eq_true rfl)) dL_law_755 ⟨(Nat.le_of_ble_eq_true rfl), (Nat.le_of_ble_eq_true rfl)⟩) hS (fun a9 h9 => va_in (hmD pt px py ro rn tn fx fy ar wh ma u v) h9 [0, 1, 2, 3, 4, 5] rfl) (fun H2 locs2 hm2 hz2 hk2 hS => ?_)
  have hm2 : va_P D vwCl (moW cI m0 m1 m2 m3 m4 m5 pt px py ro rn tn fx1 fy1 ar1 wh1 ma u v) H2 := hm2
  have hO2 := drP_kept hO1 (fun a h h3 => hk2 a h3 (fun z => (hdl a h).2 (mo_in z)))
  refine lv_icmp_eq (tgt := 1090) hx hb dL_law_758 (by decide) (fun _ => ?_) (fun c9 => absurd rfl c9)
  exact cont _ _ ls ⟨ro, rn, tn, fx1, fy1, ar1, wh1, X, Y, N, pt, px, py, ma, u, v, hG1, hR, hO2, hm2, hS⟩ hl
set_option maxHeartbeats 8000000 in
set_option maxRecDepth 100000 in
theorem law_ring {p : Program} {l : Launch} {e : Env} {s : State} {m : MethodId} {below : List Frame} {meth : Method} {c : Code} {D : va_G} {cI cF : ClassId} {b L : Nat} {xs : Nat → Int32} {o qf : Nat} {g gx gy : Nat → Nat} {m0 m1 m2 m3 m4 m5 : Nat} (C0 : lw_At p s m meth c b L xs) (F : LF D cI cF s o qf g gx gy m0 m1 m2 m3 m4 m5) (x3 : Int32) (e1 : Int32) (he1 : e1 = xs (x3 + 1).toNatClampNeg) (hi1 : vp_in (x3 + 1) L) (e2 : Int32) (he2 : e2 = xs (x3 + 2).toNatClampNeg) (hi2 : vp_in (x3 + 2) L) (H : Heap) (locs : List Loc) (I : LI D cI cF s o qf g gx gy m0 m1 m2 m3 m4 m5 H locs) (cont : ∀ (H : Heap) (locs : List Loc) (ls : Array Slot), LI D cI cF s o qf g gx gy m0 m1 m2 m3 m4 m5 H locs → lv_has ls 4 [(0, .ref b), (1, .ref o), (2, .ref m0), (3, .int x3)] → W p l e room_1 s m #[Value.ref b] below meth c H locs 26 723 (lw_Z below #[Value.ref b] s) (F0 m 1090 ls [])) (ls : Array Slot) (hl : lv_has ls 4 [(0, .ref b), (1, .ref o), (2, .ref m0), (3, .int x3)]) : W p l e room_1 s m #[Value.ref b] below meth c H locs 26 723 (lw_Z below #[Value.ref b] s) (F0 m 763 ls []) := by
  obtain ⟨hx, hb, hr, hml, hown, hts, hX, hbl, hlocks, hgv⟩ := C0
  obtain ⟨hK, hnw, hpt, hdl, hmD⟩ := F
  obtain ⟨ro, rn, tn, fx, fy, ar, wh, X, Y, N, pt, px, py, ma, u, v, hG, hR, hO, hm, hS⟩ := I
  have hb : c.code = cL_law := hb
  have hown : s.vm.findClass RL = some m.cls := hown
  have htw : ∀ w ∈ wsL_law, w.before #[Value.ref b] s = true := fun w h => hts w (wsL_law_in w h)
  have hbA : ¬ (fun q : Nat => s.heap.size ≤ q) b := Nat.not_le.mpr hbl
  refine lv_aload_n hx hb dL_law_763 rfl (lv_at hl 1 rfl) ?_
  refine lv_aload_n hx hb dL_law_764 rfl (lv_at hl 0 rfl) ?_
  refine lv_iload_n hx hb dL_law_765 rfl (lv_at hl 3 rfl) ?_
  refine lv_iconst (v := 1) hx hb dL_law_766 (by decide) ?_
  refine lv_iadd hx hb dL_law_767 ?_
  refine va_sld hx hb hX hbl hbA hS hi1 dL_law_768 ?_
  rw [← he1]
  refine lv_aload_n hx hb dL_law_769 rfl (lv_at hl 0 rfl) ?_
  refine lv_iload_n hx hb dL_law_770 rfl (lv_at hl 3 rfl) ?_
  refine lv_iconst (v := 2) hx hb dL_law_771 (by decide) ?_
  refine lv_iadd hx hb dL_law_772 ?_
  refine va_sld hx hb hX hbl hbA hS hi2 dL_law_773 ?_
  rw [← he2]
  obtain ⟨r1, h1, h2⟩ := op_ring hG hR e1 e2
  refine cp_s (va_runV (As := [.int e1, .int e2]) (rest := []) ⟨hx, hb, hml, hown, htw⟩ (k_X1_ring l D cI cF o qf g gx gy ro rn tn fx fy ar wh X Y N e1 e2 _ h1) (cwV 2 htw gL_law_X1_ring rfl rfl rfl (by decide +kernel) ⟨(Nat.le_of_ble_eq_true rfl), (Nat.le_of_ble_eq_true rfl)⟩) (pre_o hK hnw hO) rfl rfl hl.1 rfl (lv_room (Nat.le_of_ble_eq_true rfl)) dL_law_774 ⟨(Nat.le_of_ble_eq_true rfl), (Nat.le_of_ble_eq_true rfl)⟩) ?_
  refine lv_aload_n hx hb dL_law_777 rfl (lv_at hl 2 rfl) ?_
  refine lv_aload_n hx hb dL_law_778 rfl (lv_at hl 0 rfl) ?_
  refine lv_iload_n hx hb dL_law_779 rfl (lv_at hl 3 rfl) ?_
  refine lv_iconst (v := 1) hx hb dL_law_780 (by decide) ?_
  refine lv_iadd hx hb dL_law_781 ?_
  refine va_sld hx hb hX hbl hbA hS hi1 dL_law_782 ?_
  rw [← he1]
  refine lv_aload_n hx hb dL_law_783 rfl (lv_at hl 0 rfl) ?_
  refine lv_iload_n hx hb dL_law_784 rfl (lv_at hl 3 rfl) ?_
  refine lv_iconst (v := 2) hx hb dL_law_785 (by decide) ?_
  refine lv_iadd hx hb dL_law_786 ?_
  refine va_sld hx hb hX hbl hbA hS hi2 dL_law_787 ?_
  rw [← he2]
  refine cp_s (va_runV (As := [.int e1, .int e2]) (rest := [.long r1]) ⟨hx, hb, hml, hown, htw⟩ (k_X2_ring l D cI cF m0 m1 m2 m3 m4 m5 pt px py ro rn tn fx fy ar wh ma u v e1 e2 _ h2) (cwV 2 htw gL_law_X2_ring rfl rfl rfl (by decide +kernel) ⟨(Nat.le_of_ble_eq_true rfl), (Nat.le_of_ble_eq_true rfl)⟩) (pre_v (q0 := 0) (ci := 2) hK hm rfl rfl) rfl rfl hl.1 rfl (lv_room (Nat.le_of_ble_eq_true rfl)) dL_law_788 ⟨(Nat.le_of_ble_eq_true rfl), (Nat.le_of_ble_eq_true rfl)⟩) ?_
  refine W.lcmp hx hb dL_law_791 ?_
  refine lv_if_eq (tgt := 1090) hx hb dL_law_792 (by decide) (fun _ => ?_) (fun c9 => absurd ((cmp_eq _ _).mpr rfl) c9)
  exact cont _ _ ls ⟨ro, rn, tn, fx, fy, ar, wh, X, Y, N, pt, px, py, ma, u, v, hG, hR, hO, hm, hS⟩ hl
set_option maxHeartbeats 8000000 in
set_option maxRecDepth 100000 in
theorem law_reaches {p : Program} {l : Launch} {e : Env} {s : State} {m : MethodId} {below : List Frame} {meth : Method} {c : Code} {D : va_G} {cI cF : ClassId} {b L : Nat} {xs : Nat → Int32} {o qf : Nat} {g gx gy : Nat → Nat} {m0 m1 m2 m3 m4 m5 : Nat} (C0 : lw_At p s m meth c b L xs) (F : LF D cI cF s o qf g gx gy m0 m1 m2 m3 m4 m5) (x3 : Int32) (e1 : Int32) (he1 : e1 = xs (x3 + 1).toNatClampNeg) (hi1 : vp_in (x3 + 1) L) (H : Heap) (locs : List Loc) (I : LI D cI cF s o qf g gx gy m0 m1 m2 m3 m4 m5 H locs) (cont : ∀ (H : Heap) (locs : List Loc) (ls : Array Slot), LI D cI cF s o qf g gx gy m0 m1 m2 m3 m4 m5 H locs → lv_has ls 4 [(0, .ref b), (1, .ref o), (2, .ref m0), (3, .int x3)] → W p l e room_1 s m #[Value.ref b] below meth c H locs 26 723 (lw_Z below #[Value.ref b] s) (F0 m 1090 ls [])) (ls : Array Slot) (hl : lv_has ls 4 [(0, .ref b), (1, .ref o), (2, .ref m0), (3, .int x3)]) : W p l e room_1 s m #[Value.ref b] below meth c H locs 26 723 (lw_Z below #[Value.ref b] s) (F0 m 797 ls []) := by
  obtain ⟨hx, hb, hr, hml, hown, hts, hX, hbl, hlocks, hgv⟩ := C0
  obtain ⟨hK, hnw, hpt, hdl, hmD⟩ := F
  obtain ⟨ro, rn, tn, fx, fy, ar, wh, X, Y, N, pt, px, py, ma, u, v, hG, hR, hO, hm, hS⟩ := I
  have hb : c.code = cL_law := hb
  have hown : s.vm.findClass RL = some m.cls := hown
  have htw : ∀ w ∈ wsL_law, w.before #[Value.ref b] s = true := fun w h => hts w (wsL_law_in w h)
  have hbA : ¬ (fun q : Nat => s.heap.size ≤ q) b := Nat.not_le.mpr hbl
  refine lv_aload_n hx hb dL_law_797 rfl (lv_at hl 1 rfl) ?_
  refine lv_aload_n hx hb dL_law_798 rfl (lv_at hl 0 rfl) ?_
  refine lv_iload_n hx hb dL_law_799 rfl (lv_at hl 3 rfl) ?_
  refine lv_iconst (v := 1) hx hb dL_law_800 (by decide) ?_
  refine lv_iadd hx hb dL_law_801 ?_
  refine va_sld hx hb hX hbl hbA hS hi1 dL_law_802 ?_
  rw [← he1]
  obtain ⟨r1, h1, h2⟩ := op_reaches hG hR e1
  refine cp_s (va_runV (As := [.int e1]) (rest := []) ⟨hx, hb, hml, hown, htw⟩ (k_X1_reaches l D cI cF o qf g gx gy ro rn tn fx fy ar wh X Y N e1 _ h1) (cwV 1 htw gL_law_X1_reaches rfl rfl rfl (by decide +kernel) ⟨(Nat.le_of_ble_eq_true rfl), (Nat.le_of_ble_eq_true rfl)⟩) (pre_o hK hnw hO) rfl rfl hl.1 rfl (lv_room (Nat.le_of_ble_eq_true rfl)) dL_law_803 ⟨(Nat.le_of_ble_eq_true rfl), (Nat.le_of_ble_eq_true rfl)⟩) ?_
  refine lv_aload_n hx hb dL_law_806 rfl (lv_at hl 2 rfl) ?_
  refine lv_aload_n hx hb dL_law_807 rfl (lv_at hl 0 rfl) ?_
  refine lv_iload_n hx hb dL_law_808 rfl (lv_at hl 3 rfl) ?_
  refine lv_iconst (v := 1) hx hb dL_law_809 (by decide) ?_
  refine lv_iadd hx hb dL_law_810 ?_
  refine va_sld hx hb hX hbl hbA hS hi1 dL_law_811 ?_
  rw [← he1]
  refine cp_s (va_runV (As := [.int e1]) (rest := [.int r1]) ⟨hx, hb, hml, hown, htw⟩ (k_X2_reaches l D cI cF m0 m1 m2 m3 m4 m5 pt px py ro rn tn fx fy ar wh ma u v e1 _ h2) (cwV 1 htw gL_law_X2_reaches rfl rfl rfl (by decide +kernel) ⟨(Nat.le_of_ble_eq_true rfl), (Nat.le_of_ble_eq_true rfl)⟩) (pre_v (q0 := 0) (ci := 2) hK hm rfl rfl) rfl rfl hl.1 rfl (lv_room (Nat.le_of_ble_eq_true rfl)) dL_law_812 ⟨(Nat.le_of_ble_eq_true rfl), (Nat.le_of_ble_eq_true rfl)⟩) ?_
  refine lv_icmp_eq (tgt := 1090) hx hb dL_law_815 (by decide) (fun _ => ?_) (fun c9 => absurd rfl c9)
  exact cont _ _ ls ⟨ro, rn, tn, fx, fy, ar, wh, X, Y, N, pt, px, py, ma, u, v, hG, hR, hO, hm, hS⟩ hl
set_option maxHeartbeats 8000000 in
set_option maxRecDepth 100000 in
theorem law_teeth {p : Program} {l : Launch} {e : Env} {s : State} {m : MethodId} {below : List Frame} {meth : Method} {c : Code} {D : va_G} {cI cF : ClassId} {b L : Nat} {xs : Nat → Int32} {o qf : Nat} {g gx gy : Nat → Nat} {m0 m1 m2 m3 m4 m5 : Nat} (C0 : lw_At p s m meth c b L xs) (F : LF D cI cF s o qf g gx gy m0 m1 m2 m3 m4 m5) (x3 : Int32) (e1 : Int32) (he1 : e1 = xs (x3 + 1).toNatClampNeg) (hi1 : vp_in (x3 + 1) L) (e2 : Int32) (he2 : e2 = xs (x3 + 2).toNatClampNeg) (hi2 : vp_in (x3 + 2) L) (H : Heap) (locs : List Loc) (I : LI D cI cF s o qf g gx gy m0 m1 m2 m3 m4 m5 H locs) (cont : ∀ (H : Heap) (locs : List Loc) (ls : Array Slot), LI D cI cF s o qf g gx gy m0 m1 m2 m3 m4 m5 H locs → lv_has ls 4 [(0, .ref b), (1, .ref o), (2, .ref m0), (3, .int x3)] → W p l e room_1 s m #[Value.ref b] below meth c H locs 26 723 (lw_Z below #[Value.ref b] s) (F0 m 1090 ls [])) (ls : Array Slot) (hl : lv_has ls 4 [(0, .ref b), (1, .ref o), (2, .ref m0), (3, .int x3)]) : W p l e room_1 s m #[Value.ref b] below meth c H locs 26 723 (lw_Z below #[Value.ref b] s) (F0 m 820 ls []) := by
  obtain ⟨hx, hb, hr, hml, hown, hts, hX, hbl, hlocks, hgv⟩ := C0
  obtain ⟨hK, hnw, hpt, hdl, hmD⟩ := F
  obtain ⟨ro, rn, tn, fx, fy, ar, wh, X, Y, N, pt, px, py, ma, u, v, hG, hR, hO, hm, hS⟩ := I
  have hb : c.code = cL_law := hb
  have hown : s.vm.findClass RL = some m.cls := hown
  have htw : ∀ w ∈ wsL_law, w.before #[Value.ref b] s = true := fun w h => hts w (wsL_law_in w h)
  have hbA : ¬ (fun q : Nat => s.heap.size ≤ q) b := Nat.not_le.mpr hbl
  refine lv_aload_n hx hb dL_law_820 rfl (lv_at hl 1 rfl) ?_
  refine lv_aload_n hx hb dL_law_821 rfl (lv_at hl 0 rfl) ?_
  refine lv_iload_n hx hb dL_law_822 rfl (lv_at hl 3 rfl) ?_
  refine lv_iconst (v := 1) hx hb dL_law_823 (by decide) ?_
  refine lv_iadd hx hb dL_law_824 ?_
  refine va_sld hx hb hX hbl hbA hS hi1 dL_law_825 ?_
  rw [← he1]
  refine lv_aload_n hx hb dL_law_826 rfl (lv_at hl 0 rfl) ?_
  refine lv_iload_n hx hb dL_law_827 rfl (lv_at hl 3 rfl) ?_
  refine lv_iconst (v := 2) hx hb dL_law_828 (by decide) ?_
  refine lv_iadd hx hb dL_law_829 ?_
  refine va_sld hx hb hX hbl hbA hS hi2 dL_law_830 ?_
  rw [← he2]
  obtain ⟨⟨r1, rn1, tn1⟩, h1, h2, hG1⟩ := op_teeth hG e1 e2
  refine cp_w (va_runV (As := [.int e1, .int e2]) (rest := []) ⟨hx, hb, hml, hown, htw⟩ (k_X1_teeth l D cI cF o qf g gx gy ro rn tn fx fy ar wh X Y N e1 e2 _ h1) (cwV 2 htw gL_law_X1_teeth rfl rfl rfl (by decide +kernel) ⟨(Nat.le_of_ble_eq_true rfl), (Nat.le_of_ble_eq_true rfl)⟩) (pre_p hK hnw hO hpt) rfl rfl hl.1 rfl (lv_room (Nat.le_of_ble_eq_true rfl)) dL_law_831 ⟨(Nat.le_of_ble_eq_true rfl), (Nat.le_of_ble_eq_true rfl)⟩) hS (fun a9 h9 => (hdl a9 h9).1) (fun H1 locs1 hO1 hz1 hk1 hS => ?_)
  have hO1 : drP D cI cF o qf g gx gy ro rn1 tn1 fx fy ar wh X Y N H1 := hO1
  have hm1 := mo_kept (fun a h => (hdl a h).2) hm hk1
  refine lv_aload_n hx hb dL_law_834 rfl (lv_at hl 2 rfl) ?_
  refine lv_aload_n hx hb dL_law_835 rfl (lv_at hl 0 rfl) ?_
  refine lv_iload_n hx hb dL_law_836 rfl (lv_at hl 3 rfl) ?_
  refine lv_iconst (v := 1) hx hb dL_law_837 (by decide) ?_
  refine lv_iadd hx hb dL_law_838 ?_
  refine va_sld hx hb hX hbl hbA hS hi1 dL_law_839 ?_
  rw [← he1]
  refine lv_aload_n hx hb dL_law_840 rfl (lv_at hl 0 rfl) ?_
  refine lv_iload_n hx hb dL_law_841 rfl (lv_at hl 3 rfl) ?_
  refine lv_iconst (v := 2) hx hb dL_law_842 (by decide) ?_
  refine lv_iadd hx hb dL_law_843 ?_
  refine va_sld hx hb hX hbl hbA hS hi2 dL_law_844 ?_
  rw [← he2]
  refine cp_w (va_runV (As := [.int e1, .int e2]) (rest := [.int r1]) ⟨hx, hb, hml, hown, htw⟩ (k_X2_teeth l D cI cF m0 m1 m2 m3 m4 m5 pt px py ro rn tn fx fy ar wh ma u v e1 e2 _ h2) (cwV 2 htw gL_law_X2_teeth rfl rfl rfl (by decide +kernel) ⟨(Nat.le_of_ble_eq_true rfl), (Nat.le_of_ble_eq_true rfl)⟩) (pre_d (q0 := 0) (ci := 2) hK hm1 (hmD _ _ _ _ _ _ _ _ _ _ _ _ _) rfl rfl) rfl rfl hl.1 rfl (lv_room (Nat.le_of_ble_eq_true rfl)) dL_law_845 ⟨(Nat.le_of_ble_eq_true rfl), (Nat.le_of_ble_eq_true rfl)⟩) hS (fun a9 h9 => va_in (hmD pt px py ro rn tn fx fy ar wh ma u v) h9 [0, 1, 2, 3, 4, 5] rfl) (fun H2 locs2 hm2 hz2 hk2 hS => ?_)
  have hm2 : va_P D vwCl (moW cI m0 m1 m2 m3 m4 m5 pt px py ro rn1 tn1 fx fy ar wh ma u v) H2 := hm2
  have hO2 := drP_kept hO1 (fun a h h3 => hk2 a h3 (fun z => (hdl a h).2 (mo_in z)))
  refine lv_icmp_eq (tgt := 1090) hx hb dL_law_848 (by decide) (fun _ => ?_) (fun c9 => absurd rfl c9)
  exact cont _ _ ls ⟨ro, rn1, tn1, fx, fy, ar, wh, X, Y, N, pt, px, py, ma, u, v, hG1, hR, hO2, hm2, hS⟩ hl
set_option maxHeartbeats 8000000 in
set_option maxRecDepth 100000 in
theorem law_count {p : Program} {l : Launch} {e : Env} {s : State} {m : MethodId} {below : List Frame} {meth : Method} {c : Code} {D : va_G} {cI cF : ClassId} {b L : Nat} {xs : Nat → Int32} {o qf : Nat} {g gx gy : Nat → Nat} {m0 m1 m2 m3 m4 m5 : Nat} (C0 : lw_At p s m meth c b L xs) (F : LF D cI cF s o qf g gx gy m0 m1 m2 m3 m4 m5) (x3 : Int32) (e1 : Int32) (he1 : e1 = xs (x3 + 1).toNatClampNeg) (hi1 : vp_in (x3 + 1) L) (H : Heap) (locs : List Loc) (I : LI D cI cF s o qf g gx gy m0 m1 m2 m3 m4 m5 H locs) (cont : ∀ (H : Heap) (locs : List Loc) (ls : Array Slot), LI D cI cF s o qf g gx gy m0 m1 m2 m3 m4 m5 H locs → lv_has ls 4 [(0, .ref b), (1, .ref o), (2, .ref m0), (3, .int x3)] → W p l e room_1 s m #[Value.ref b] below meth c H locs 26 723 (lw_Z below #[Value.ref b] s) (F0 m 1090 ls [])) (ls : Array Slot) (hl : lv_has ls 4 [(0, .ref b), (1, .ref o), (2, .ref m0), (3, .int x3)]) : W p l e room_1 s m #[Value.ref b] below meth c H locs 26 723 (lw_Z below #[Value.ref b] s) (F0 m 853 ls []) := by
  obtain ⟨hx, hb, hr, hml, hown, hts, hX, hbl, hlocks, hgv⟩ := C0
  obtain ⟨hK, hnw, hpt, hdl, hmD⟩ := F
  obtain ⟨ro, rn, tn, fx, fy, ar, wh, X, Y, N, pt, px, py, ma, u, v, hG, hR, hO, hm, hS⟩ := I
  have hb : c.code = cL_law := hb
  have hown : s.vm.findClass RL = some m.cls := hown
  have htw : ∀ w ∈ wsL_law, w.before #[Value.ref b] s = true := fun w h => hts w (wsL_law_in w h)
  have hbA : ¬ (fun q : Nat => s.heap.size ≤ q) b := Nat.not_le.mpr hbl
  refine lv_aload_n hx hb dL_law_853 rfl (lv_at hl 1 rfl) ?_
  refine lv_aload_n hx hb dL_law_854 rfl (lv_at hl 0 rfl) ?_
  refine lv_iload_n hx hb dL_law_855 rfl (lv_at hl 3 rfl) ?_
  refine lv_iconst (v := 1) hx hb dL_law_856 (by decide) ?_
  refine lv_iadd hx hb dL_law_857 ?_
  refine va_sld hx hb hX hbl hbA hS hi1 dL_law_858 ?_
  rw [← he1]
  obtain ⟨r1, h1, h2⟩ := op_count hG hR e1
  refine cp_s (va_runV (As := [.int e1]) (rest := []) ⟨hx, hb, hml, hown, htw⟩ (k_X1_count l D cI cF o qf g gx gy ro rn tn fx fy ar wh X Y N e1 _ h1) (cwV 1 htw gL_law_X1_count rfl rfl rfl (by decide +kernel) ⟨(Nat.le_of_ble_eq_true rfl), (Nat.le_of_ble_eq_true rfl)⟩) (pre_o hK hnw hO) rfl rfl hl.1 rfl (lv_room (Nat.le_of_ble_eq_true rfl)) dL_law_859 ⟨(Nat.le_of_ble_eq_true rfl), (Nat.le_of_ble_eq_true rfl)⟩) ?_
  refine lv_aload_n hx hb dL_law_862 rfl (lv_at hl 2 rfl) ?_
  refine lv_aload_n hx hb dL_law_863 rfl (lv_at hl 0 rfl) ?_
  refine lv_iload_n hx hb dL_law_864 rfl (lv_at hl 3 rfl) ?_
  refine lv_iconst (v := 1) hx hb dL_law_865 (by decide) ?_
  refine lv_iadd hx hb dL_law_866 ?_
  refine va_sld hx hb hX hbl hbA hS hi1 dL_law_867 ?_
  rw [← he1]
  refine cp_s (va_runV (As := [.int e1]) (rest := [.long r1]) ⟨hx, hb, hml, hown, htw⟩ (k_X2_count l D cI cF m0 m1 m2 m3 m4 m5 pt px py ro rn tn fx fy ar wh ma u v e1 _ h2) (cwV 1 htw gL_law_X2_count rfl rfl rfl (by decide +kernel) ⟨(Nat.le_of_ble_eq_true rfl), (Nat.le_of_ble_eq_true rfl)⟩) (pre_v (q0 := 0) (ci := 2) hK hm rfl rfl) rfl rfl hl.1 rfl (lv_room (Nat.le_of_ble_eq_true rfl)) dL_law_868 ⟨(Nat.le_of_ble_eq_true rfl), (Nat.le_of_ble_eq_true rfl)⟩) ?_
  refine W.lcmp hx hb dL_law_871 ?_
  refine lv_if_eq (tgt := 1090) hx hb dL_law_872 (by decide) (fun _ => ?_) (fun c9 => absurd ((cmp_eq _ _).mpr rfl) c9)
  exact cont _ _ ls ⟨ro, rn, tn, fx, fy, ar, wh, X, Y, N, pt, px, py, ma, u, v, hG, hR, hO, hm, hS⟩ hl
set_option maxHeartbeats 8000000 in
set_option maxRecDepth 100000 in
theorem law_may {p : Program} {l : Launch} {e : Env} {s : State} {m : MethodId} {below : List Frame} {meth : Method} {c : Code} {D : va_G} {cI cF : ClassId} {b L : Nat} {xs : Nat → Int32} {o qf : Nat} {g gx gy : Nat → Nat} {m0 m1 m2 m3 m4 m5 : Nat} (C0 : lw_At p s m meth c b L xs) (F : LF D cI cF s o qf g gx gy m0 m1 m2 m3 m4 m5) (x3 : Int32) (e1 : Int32) (he1 : e1 = xs (x3 + 1).toNatClampNeg) (hi1 : vp_in (x3 + 1) L) (e2 : Int32) (he2 : e2 = xs (x3 + 2).toNatClampNeg) (hi2 : vp_in (x3 + 2) L) (e3 : Int32) (he3 : e3 = xs (x3 + 3).toNatClampNeg) (hi3 : vp_in (x3 + 3) L) (e4 : Int32) (he4 : e4 = xs (x3 + 4).toNatClampNeg) (hi4 : vp_in (x3 + 4) L) (e5 : Int32) (he5 : e5 = xs (x3 + 5).toNatClampNeg) (hi5 : vp_in (x3 + 5) L) (H : Heap) (locs : List Loc) (I : LI D cI cF s o qf g gx gy m0 m1 m2 m3 m4 m5 H locs) (cont : ∀ (H : Heap) (locs : List Loc) (ls : Array Slot), LI D cI cF s o qf g gx gy m0 m1 m2 m3 m4 m5 H locs → lv_has ls 4 [(0, .ref b), (1, .ref o), (2, .ref m0), (3, .int x3)] → W p l e room_1 s m #[Value.ref b] below meth c H locs 26 723 (lw_Z below #[Value.ref b] s) (F0 m 1090 ls [])) (ls : Array Slot) (hl : lv_has ls 4 [(0, .ref b), (1, .ref o), (2, .ref m0), (3, .int x3)]) : W p l e room_1 s m #[Value.ref b] below meth c H locs 26 723 (lw_Z below #[Value.ref b] s) (F0 m 877 ls []) := by
  obtain ⟨hx, hb, hr, hml, hown, hts, hX, hbl, hlocks, hgv⟩ := C0
  obtain ⟨hK, hnw, hpt, hdl, hmD⟩ := F
  obtain ⟨ro, rn, tn, fx, fy, ar, wh, X, Y, N, pt, px, py, ma, u, v, hG, hR, hO, hm, hS⟩ := I
  have hb : c.code = cL_law := hb
  have hown : s.vm.findClass RL = some m.cls := hown
  have htw : ∀ w ∈ wsL_law, w.before #[Value.ref b] s = true := fun w h => hts w (wsL_law_in w h)
  have hbA : ¬ (fun q : Nat => s.heap.size ≤ q) b := Nat.not_le.mpr hbl
  refine lv_aload_n hx hb dL_law_877 rfl (lv_at hl 1 rfl) ?_
  refine lv_aload_n hx hb dL_law_878 rfl (lv_at hl 0 rfl) ?_
  refine lv_iload_n hx hb dL_law_879 rfl (lv_at hl 3 rfl) ?_
  refine lv_iconst (v := 1) hx hb dL_law_880 (by decide) ?_
  refine lv_iadd hx hb dL_law_881 ?_
  refine va_sld hx hb hX hbl hbA hS hi1 dL_law_882 ?_
  rw [← he1]
  refine lv_aload_n hx hb dL_law_883 rfl (lv_at hl 0 rfl) ?_
  refine lv_iload_n hx hb dL_law_884 rfl (lv_at hl 3 rfl) ?_
  refine lv_iconst (v := 2) hx hb dL_law_885 (by decide) ?_
  refine lv_iadd hx hb dL_law_886 ?_
  refine va_sld hx hb hX hbl hbA hS hi2 dL_law_887 ?_
  rw [← he2]
  refine lv_aload_n hx hb dL_law_888 rfl (lv_at hl 0 rfl) ?_
  refine lv_iload_n hx hb dL_law_889 rfl (lv_at hl 3 rfl) ?_
  refine lv_iconst (v := 3) hx hb dL_law_890 (by decide) ?_
  refine lv_iadd hx hb dL_law_891 ?_
  refine va_sld hx hb hX hbl hbA hS hi3 dL_law_892 ?_
  rw [← he3]
  refine lv_aload_n hx hb dL_law_893 rfl (lv_at hl 0 rfl) ?_
  refine lv_iload_n hx hb dL_law_894 rfl (lv_at hl 3 rfl) ?_
  refine lv_iconst (v := 4) hx hb dL_law_895 (by decide) ?_
  refine lv_iadd hx hb dL_law_896 ?_
  refine va_sld hx hb hX hbl hbA hS hi4 dL_law_897 ?_
  rw [← he4]
  refine lv_aload_n hx hb dL_law_898 rfl (lv_at hl 0 rfl) ?_
  refine lv_iload_n hx hb dL_law_899 rfl (lv_at hl 3 rfl) ?_
  refine lv_iconst (v := 5) hx hb dL_law_900 (by decide) ?_
  refine lv_iadd hx hb dL_law_901 ?_
  refine va_sld hx hb hX hbl hbA hS hi5 dL_law_902 ?_
  rw [← he5]
  obtain ⟨r1, h1, h2⟩ := op_may hG e1 e2 e3 e4 e5
  refine cp_s (va_runV (As := [.int e1, .int e2, .int e3, .int e4, .int e5]) (rest := []) ⟨hx, hb, hml, hown, htw⟩ (k_X1_may l D cI cF o qf g gx gy ro rn tn fx fy ar wh X Y N e1 e2 e3 e4 e5 _ h1) (cwV 5 htw gL_law_X1_may rfl rfl rfl (by decide +kernel) ⟨(Nat.le_of_ble_eq_true rfl), (Nat.le_of_ble_eq_true rfl)⟩) (pre_o hK hnw hO) rfl rfl hl.1 rfl (lv_room (Nat.le_of_ble_eq_true rfl)) dL_law_903 ⟨(Nat.le_of_ble_eq_true rfl), (Nat.le_of_ble_eq_true rfl)⟩) ?_
  refine lv_aload_n hx hb dL_law_906 rfl (lv_at hl 2 rfl) ?_
  refine lv_aload_n hx hb dL_law_907 rfl (lv_at hl 0 rfl) ?_
  refine lv_iload_n hx hb dL_law_908 rfl (lv_at hl 3 rfl) ?_
  refine lv_iconst (v := 1) hx hb dL_law_909 (by decide) ?_
  refine lv_iadd hx hb dL_law_910 ?_
  refine va_sld hx hb hX hbl hbA hS hi1 dL_law_911 ?_
  rw [← he1]
  refine lv_aload_n hx hb dL_law_912 rfl (lv_at hl 0 rfl) ?_
  refine lv_iload_n hx hb dL_law_913 rfl (lv_at hl 3 rfl) ?_
  refine lv_iconst (v := 2) hx hb dL_law_914 (by decide) ?_
  refine lv_iadd hx hb dL_law_915 ?_
  refine va_sld hx hb hX hbl hbA hS hi2 dL_law_916 ?_
  rw [← he2]
  refine lv_aload_n hx hb dL_law_917 rfl (lv_at hl 0 rfl) ?_
  refine lv_iload_n hx hb dL_law_918 rfl (lv_at hl 3 rfl) ?_
  refine lv_iconst (v := 3) hx hb dL_law_919 (by decide) ?_
  refine lv_iadd hx hb dL_law_920 ?_
  refine va_sld hx hb hX hbl hbA hS hi3 dL_law_921 ?_
  rw [← he3]
  refine lv_aload_n hx hb dL_law_922 rfl (lv_at hl 0 rfl) ?_
  refine lv_iload_n hx hb dL_law_923 rfl (lv_at hl 3 rfl) ?_
  refine lv_iconst (v := 4) hx hb dL_law_924 (by decide) ?_
  refine lv_iadd hx hb dL_law_925 ?_
  refine va_sld hx hb hX hbl hbA hS hi4 dL_law_926 ?_
  rw [← he4]
  refine lv_aload_n hx hb dL_law_927 rfl (lv_at hl 0 rfl) ?_
  refine lv_iload_n hx hb dL_law_928 rfl (lv_at hl 3 rfl) ?_
  refine lv_iconst (v := 5) hx hb dL_law_929 (by decide) ?_
  refine lv_iadd hx hb dL_law_930 ?_
  refine va_sld hx hb hX hbl hbA hS hi5 dL_law_931 ?_
  rw [← he5]
  refine cp_s (va_runV (As := [.int e1, .int e2, .int e3, .int e4, .int e5]) (rest := [.long r1]) ⟨hx, hb, hml, hown, htw⟩ (k_X2_may l D cI cF m0 m1 m2 m3 m4 m5 pt px py ro rn tn fx fy ar wh ma u v e1 e2 e3 e4 e5 _ h2) (cwV 5 htw gL_law_X2_may rfl rfl rfl (by decide +kernel) ⟨(Nat.le_of_ble_eq_true rfl), (Nat.le_of_ble_eq_true rfl)⟩) (pre_v (q0 := 0) (ci := 2) hK hm rfl rfl) rfl rfl hl.1 rfl (lv_room (Nat.le_of_ble_eq_true rfl)) dL_law_932 ⟨(Nat.le_of_ble_eq_true rfl), (Nat.le_of_ble_eq_true rfl)⟩) ?_
  refine W.lcmp hx hb dL_law_935 ?_
  refine lv_if_eq (tgt := 1090) hx hb dL_law_936 (by decide) (fun _ => ?_) (fun c9 => absurd ((cmp_eq _ _).mpr rfl) c9)
  exact cont _ _ ls ⟨ro, rn, tn, fx, fy, ar, wh, X, Y, N, pt, px, py, ma, u, v, hG, hR, hO, hm, hS⟩ hl
set_option maxHeartbeats 8000000 in
set_option maxRecDepth 100000 in
theorem law_fits {p : Program} {l : Launch} {e : Env} {s : State} {m : MethodId} {below : List Frame} {meth : Method} {c : Code} {D : va_G} {cI cF : ClassId} {b L : Nat} {xs : Nat → Int32} {o qf : Nat} {g gx gy : Nat → Nat} {m0 m1 m2 m3 m4 m5 : Nat} (C0 : lw_At p s m meth c b L xs) (F : LF D cI cF s o qf g gx gy m0 m1 m2 m3 m4 m5) (x3 : Int32) (e1 : Int32) (he1 : e1 = xs (x3 + 1).toNatClampNeg) (hi1 : vp_in (x3 + 1) L) (e2 : Int32) (he2 : e2 = xs (x3 + 2).toNatClampNeg) (hi2 : vp_in (x3 + 2) L) (e3 : Int32) (he3 : e3 = xs (x3 + 3).toNatClampNeg) (hi3 : vp_in (x3 + 3) L) (e4 : Int32) (he4 : e4 = xs (x3 + 4).toNatClampNeg) (hi4 : vp_in (x3 + 4) L) (H : Heap) (locs : List Loc) (I : LI D cI cF s o qf g gx gy m0 m1 m2 m3 m4 m5 H locs) (cont : ∀ (H : Heap) (locs : List Loc) (ls : Array Slot), LI D cI cF s o qf g gx gy m0 m1 m2 m3 m4 m5 H locs → lv_has ls 4 [(0, .ref b), (1, .ref o), (2, .ref m0), (3, .int x3)] → W p l e room_1 s m #[Value.ref b] below meth c H locs 26 723 (lw_Z below #[Value.ref b] s) (F0 m 1090 ls [])) (ls : Array Slot) (hl : lv_has ls 4 [(0, .ref b), (1, .ref o), (2, .ref m0), (3, .int x3)]) : W p l e room_1 s m #[Value.ref b] below meth c H locs 26 723 (lw_Z below #[Value.ref b] s) (F0 m 941 ls []) := by
  obtain ⟨hx, hb, hr, hml, hown, hts, hX, hbl, hlocks, hgv⟩ := C0
  obtain ⟨hK, hnw, hpt, hdl, hmD⟩ := F
  obtain ⟨ro, rn, tn, fx, fy, ar, wh, X, Y, N, pt, px, py, ma, u, v, hG, hR, hO, hm, hS⟩ := I
  have hb : c.code = cL_law := hb
  have hown : s.vm.findClass RL = some m.cls := hown
  have htw : ∀ w ∈ wsL_law, w.before #[Value.ref b] s = true := fun w h => hts w (wsL_law_in w h)
  have hbA : ¬ (fun q : Nat => s.heap.size ≤ q) b := Nat.not_le.mpr hbl
  refine lv_aload_n hx hb dL_law_941 rfl (lv_at hl 1 rfl) ?_
  refine lv_aload_n hx hb dL_law_942 rfl (lv_at hl 0 rfl) ?_
  refine lv_iload_n hx hb dL_law_943 rfl (lv_at hl 3 rfl) ?_
  refine lv_iconst (v := 1) hx hb dL_law_944 (by decide) ?_
  refine lv_iadd hx hb dL_law_945 ?_
  refine va_sld hx hb hX hbl hbA hS hi1 dL_law_946 ?_
  rw [← he1]
  refine lv_aload_n hx hb dL_law_947 rfl (lv_at hl 0 rfl) ?_
  refine lv_iload_n hx hb dL_law_948 rfl (lv_at hl 3 rfl) ?_
  refine lv_iconst (v := 2) hx hb dL_law_949 (by decide) ?_
  refine lv_iadd hx hb dL_law_950 ?_
  refine va_sld hx hb hX hbl hbA hS hi2 dL_law_951 ?_
  rw [← he2]
  refine lv_aload_n hx hb dL_law_952 rfl (lv_at hl 0 rfl) ?_
  refine lv_iload_n hx hb dL_law_953 rfl (lv_at hl 3 rfl) ?_
  refine lv_iconst (v := 3) hx hb dL_law_954 (by decide) ?_
  refine lv_iadd hx hb dL_law_955 ?_
  refine va_sld hx hb hX hbl hbA hS hi3 dL_law_956 ?_
  rw [← he3]
  refine lv_aload_n hx hb dL_law_957 rfl (lv_at hl 0 rfl) ?_
  refine lv_iload_n hx hb dL_law_958 rfl (lv_at hl 3 rfl) ?_
  refine lv_iconst (v := 4) hx hb dL_law_959 (by decide) ?_
  refine lv_iadd hx hb dL_law_960 ?_
  refine va_sld hx hb hX hbl hbA hS hi4 dL_law_961 ?_
  rw [← he4]
  obtain ⟨r1, h1, h2⟩ := op_fits hG hR e1 e2 e3 e4
  refine cp_s (va_runV (As := [.int e1, .int e2, .int e3, .int e4]) (rest := []) ⟨hx, hb, hml, hown, htw⟩ (k_X1_fits l D cI cF o qf g gx gy ro rn tn fx fy ar wh X Y N e1 e2 e3 e4 _ h1) (cwV 4 htw gL_law_X1_fits rfl rfl rfl (by decide +kernel) ⟨(Nat.le_of_ble_eq_true rfl), (Nat.le_of_ble_eq_true rfl)⟩) (pre_o hK hnw hO) rfl rfl hl.1 rfl (lv_room (Nat.le_of_ble_eq_true rfl)) dL_law_962 ⟨(Nat.le_of_ble_eq_true rfl), (Nat.le_of_ble_eq_true rfl)⟩) ?_
  refine lv_aload_n hx hb dL_law_965 rfl (lv_at hl 2 rfl) ?_
  refine lv_aload_n hx hb dL_law_966 rfl (lv_at hl 0 rfl) ?_
  refine lv_iload_n hx hb dL_law_967 rfl (lv_at hl 3 rfl) ?_
  refine lv_iconst (v := 1) hx hb dL_law_968 (by decide) ?_
  refine lv_iadd hx hb dL_law_969 ?_
  refine va_sld hx hb hX hbl hbA hS hi1 dL_law_970 ?_
  rw [← he1]
  refine lv_aload_n hx hb dL_law_971 rfl (lv_at hl 0 rfl) ?_
  refine lv_iload_n hx hb dL_law_972 rfl (lv_at hl 3 rfl) ?_
  refine lv_iconst (v := 2) hx hb dL_law_973 (by decide) ?_
  refine lv_iadd hx hb dL_law_974 ?_
  refine va_sld hx hb hX hbl hbA hS hi2 dL_law_975 ?_
  rw [← he2]
  refine lv_aload_n hx hb dL_law_976 rfl (lv_at hl 0 rfl) ?_
  refine lv_iload_n hx hb dL_law_977 rfl (lv_at hl 3 rfl) ?_
  refine lv_iconst (v := 3) hx hb dL_law_978 (by decide) ?_
  refine lv_iadd hx hb dL_law_979 ?_
  refine va_sld hx hb hX hbl hbA hS hi3 dL_law_980 ?_
  rw [← he3]
  refine lv_aload_n hx hb dL_law_981 rfl (lv_at hl 0 rfl) ?_
  refine lv_iload_n hx hb dL_law_982 rfl (lv_at hl 3 rfl) ?_
  refine lv_iconst (v := 4) hx hb dL_law_983 (by decide) ?_
  refine lv_iadd hx hb dL_law_984 ?_
  refine va_sld hx hb hX hbl hbA hS hi4 dL_law_985 ?_
  rw [← he4]
  refine cp_s (va_runV (As := [.int e1, .int e2, .int e3, .int e4]) (rest := [.int r1]) ⟨hx, hb, hml, hown, htw⟩ (k_X2_fits l D cI cF m0 m1 m2 m3 m4 m5 pt px py ro rn tn fx fy ar wh ma u v e1 e2 e3 e4 _ h2) (cwV 4 htw gL_law_X2_fits rfl rfl rfl (by decide +kernel) ⟨(Nat.le_of_ble_eq_true rfl), (Nat.le_of_ble_eq_true rfl)⟩) (pre_v (q0 := 0) (ci := 2) hK hm rfl rfl) rfl rfl hl.1 rfl (lv_room (Nat.le_of_ble_eq_true rfl)) dL_law_986 ⟨(Nat.le_of_ble_eq_true rfl), (Nat.le_of_ble_eq_true rfl)⟩) ?_
  refine lv_icmp_eq (tgt := 1090) hx hb dL_law_989 (by decide) (fun _ => ?_) (fun c9 => absurd rfl c9)
  exact cont _ _ ls ⟨ro, rn, tn, fx, fy, ar, wh, X, Y, N, pt, px, py, ma, u, v, hG, hR, hO, hm, hS⟩ hl
set_option maxHeartbeats 8000000 in
set_option maxRecDepth 100000 in
theorem law_join {p : Program} {l : Launch} {e : Env} {s : State} {m : MethodId} {below : List Frame} {meth : Method} {c : Code} {D : va_G} {cI cF : ClassId} {b L : Nat} {xs : Nat → Int32} {o qf : Nat} {g gx gy : Nat → Nat} {m0 m1 m2 m3 m4 m5 : Nat} (C0 : lw_At p s m meth c b L xs) (F : LF D cI cF s o qf g gx gy m0 m1 m2 m3 m4 m5) (x3 : Int32) (e1 : Int32) (he1 : e1 = xs (x3 + 1).toNatClampNeg) (hi1 : vp_in (x3 + 1) L) (e2 : Int32) (he2 : e2 = xs (x3 + 2).toNatClampNeg) (hi2 : vp_in (x3 + 2) L) (e3 : Int32) (he3 : e3 = xs (x3 + 3).toNatClampNeg) (hi3 : vp_in (x3 + 3) L) (e4 : Int32) (he4 : e4 = xs (x3 + 4).toNatClampNeg) (hi4 : vp_in (x3 + 4) L) (H : Heap) (locs : List Loc) (I : LI D cI cF s o qf g gx gy m0 m1 m2 m3 m4 m5 H locs) (cont : ∀ (H : Heap) (locs : List Loc) (ls : Array Slot), LI D cI cF s o qf g gx gy m0 m1 m2 m3 m4 m5 H locs → lv_has ls 4 [(0, .ref b), (1, .ref o), (2, .ref m0), (3, .int x3)] → W p l e room_1 s m #[Value.ref b] below meth c H locs 26 723 (lw_Z below #[Value.ref b] s) (F0 m 1090 ls [])) (ls : Array Slot) (hl : lv_has ls 4 [(0, .ref b), (1, .ref o), (2, .ref m0), (3, .int x3)]) : W p l e room_1 s m #[Value.ref b] below meth c H locs 26 723 (lw_Z below #[Value.ref b] s) (F0 m 994 ls []) := by
  obtain ⟨hx, hb, hr, hml, hown, hts, hX, hbl, hlocks, hgv⟩ := C0
  obtain ⟨hK, hnw, hpt, hdl, hmD⟩ := F
  obtain ⟨ro, rn, tn, fx, fy, ar, wh, X, Y, N, pt, px, py, ma, u, v, hG, hR, hO, hm, hS⟩ := I
  have hb : c.code = cL_law := hb
  have hown : s.vm.findClass RL = some m.cls := hown
  have htw : ∀ w ∈ wsL_law, w.before #[Value.ref b] s = true := fun w h => hts w (wsL_law_in w h)
  have hbA : ¬ (fun q : Nat => s.heap.size ≤ q) b := Nat.not_le.mpr hbl
  by_cases hab : e1 = e3
  · subst hab
    refine lv_aload_n hx hb dL_law_994 rfl (lv_at hl 1 rfl) ?_
    refine lv_aload_n hx hb dL_law_995 rfl (lv_at hl 0 rfl) ?_
    refine lv_iload_n hx hb dL_law_996 rfl (lv_at hl 3 rfl) ?_
    refine lv_iconst (v := 1) hx hb dL_law_997 (by decide) ?_
    refine lv_iadd hx hb dL_law_998 ?_
    refine va_sld hx hb hX hbl hbA hS hi1 dL_law_999 ?_
    rw [← he1]
    refine lv_aload_n hx hb dL_law_1000 rfl (lv_at hl 0 rfl) ?_
    refine lv_iload_n hx hb dL_law_1001 rfl (lv_at hl 3 rfl) ?_
    refine lv_iconst (v := 2) hx hb dL_law_1002 (by decide) ?_
    refine lv_iadd hx hb dL_law_1003 ?_
    refine va_sld hx hb hX hbl hbA hS hi2 dL_law_1004 ?_
    rw [← he2]
    refine lv_aload_n hx hb dL_law_1005 rfl (lv_at hl 0 rfl) ?_
    refine lv_iload_n hx hb dL_law_1006 rfl (lv_at hl 3 rfl) ?_
    refine lv_iconst (v := 3) hx hb dL_law_1007 (by decide) ?_
    refine lv_iadd hx hb dL_law_1008 ?_
    refine va_sld hx hb hX hbl hbA hS hi3 dL_law_1009 ?_
    rw [← he3]
    refine lv_aload_n hx hb dL_law_1010 rfl (lv_at hl 0 rfl) ?_
    refine lv_iload_n hx hb dL_law_1011 rfl (lv_at hl 3 rfl) ?_
    refine lv_iconst (v := 4) hx hb dL_law_1012 (by decide) ?_
    refine lv_iadd hx hb dL_law_1013 ?_
    refine va_sld hx hb hX hbl hbA hS hi4 dL_law_1014 ?_
    rw [← he4]
    obtain ⟨r1, X1, Y1, N1, pt1, px1, py1, ma1, u1, v1, h1, h2, hR1⟩ := op_join hR ma u v e1 e2 e1 e4
    refine cp_w (va_runV (As := [.int e1, .int e2, .int e1, .int e4]) (rest := []) ⟨hx, hb, hml, hown, htw⟩ (k_X1_join_eq l D cI cF o qf g gx gy ro rn tn fx fy ar wh X Y N e1 e2 e4 _ h1) (cwV 4 htw gL_law_X1_join rfl rfl rfl (by decide +kernel) ⟨(Nat.le_of_ble_eq_true rfl), (Nat.le_of_ble_eq_true rfl)⟩) (pre_p hK hnw hO hpt) rfl rfl hl.1 rfl (lv_room (Nat.le_of_ble_eq_true rfl)) dL_law_1015 ⟨(Nat.le_of_ble_eq_true rfl), (Nat.le_of_ble_eq_true rfl)⟩) hS (fun a9 h9 => (hdl a9 h9).1) (fun H1 locs1 hO1 hz1 hk1 hS => ?_)
    have hO1 : drP D cI cF o qf g gx gy ro rn tn fx fy ar wh X1 Y1 N1 H1 := hO1
    have hm1 := mo_kept (fun a h => (hdl a h).2) hm hk1
    refine lv_aload_n hx hb dL_law_1018 rfl (lv_at hl 2 rfl) ?_
    refine lv_aload_n hx hb dL_law_1019 rfl (lv_at hl 0 rfl) ?_
    refine lv_iload_n hx hb dL_law_1020 rfl (lv_at hl 3 rfl) ?_
    refine lv_iconst (v := 1) hx hb dL_law_1021 (by decide) ?_
    refine lv_iadd hx hb dL_law_1022 ?_
    refine va_sld hx hb hX hbl hbA hS hi1 dL_law_1023 ?_
    rw [← he1]
    refine lv_aload_n hx hb dL_law_1024 rfl (lv_at hl 0 rfl) ?_
    refine lv_iload_n hx hb dL_law_1025 rfl (lv_at hl 3 rfl) ?_
    refine lv_iconst (v := 2) hx hb dL_law_1026 (by decide) ?_
    refine lv_iadd hx hb dL_law_1027 ?_
    refine va_sld hx hb hX hbl hbA hS hi2 dL_law_1028 ?_
    rw [← he2]
    refine lv_aload_n hx hb dL_law_1029 rfl (lv_at hl 0 rfl) ?_
    refine lv_iload_n hx hb dL_law_1030 rfl (lv_at hl 3 rfl) ?_
    refine lv_iconst (v := 3) hx hb dL_law_1031 (by decide) ?_
    refine lv_iadd hx hb dL_law_1032 ?_
    refine va_sld hx hb hX hbl hbA hS hi3 dL_law_1033 ?_
    rw [← he3]
    refine lv_aload_n hx hb dL_law_1034 rfl (lv_at hl 0 rfl) ?_
    refine lv_iload_n hx hb dL_law_1035 rfl (lv_at hl 3 rfl) ?_
    refine lv_iconst (v := 4) hx hb dL_law_1036 (by decide) ?_
    refine lv_iadd hx hb dL_law_1037 ?_
    refine va_sld hx hb hX hbl hbA hS hi4 dL_law_1038 ?_
    rw [← he4]
    refine cp_w (va_runV (As := [.int e1, .int e2, .int e1, .int e4]) (rest := [.int r1]) ⟨hx, hb, hml, hown, htw⟩ (k_X2_join l D cI cF m0 m1 m2 m3 m4 m5 pt px py ro rn tn fx fy ar wh ma u v e1 e2 e1 e4 _ h2) (cwV 4 htw gL_law_X2_join rfl rfl rfl (by decide +kernel) ⟨(Nat.le_of_ble_eq_true rfl), (Nat.le_of_ble_eq_true rfl)⟩) (pre_d (q0 := 0) (ci := 2) hK hm1 (hmD _ _ _ _ _ _ _ _ _ _ _ _ _) rfl rfl) rfl rfl hl.1 rfl (lv_room (Nat.le_of_ble_eq_true rfl)) dL_law_1039 ⟨(Nat.le_of_ble_eq_true rfl), (Nat.le_of_ble_eq_true rfl)⟩) hS (fun a9 h9 => va_in (hmD pt px py ro rn tn fx fy ar wh ma u v) h9 [0, 1, 2, 3, 4, 5] rfl) (fun H2 locs2 hm2 hz2 hk2 hS => ?_)
    have hm2 : va_P D vwCl (moW cI m0 m1 m2 m3 m4 m5 pt1 px1 py1 ro rn tn fx fy ar wh ma1 u1 v1) H2 := hm2
    have hO2 := drP_kept hO1 (fun a h h3 => hk2 a h3 (fun z => (hdl a h).2 (mo_in z)))
    refine lv_icmp_eq (tgt := 1090) hx hb dL_law_1042 (by decide) (fun _ => ?_) (fun c9 => absurd rfl c9)
    exact cont _ _ ls ⟨ro, rn, tn, fx, fy, ar, wh, X1, Y1, N1, pt1, px1, py1, ma1, u1, v1, hG, hR1, hO2, hm2, hS⟩ hl
  · refine lv_aload_n hx hb dL_law_994 rfl (lv_at hl 1 rfl) ?_
    refine lv_aload_n hx hb dL_law_995 rfl (lv_at hl 0 rfl) ?_
    refine lv_iload_n hx hb dL_law_996 rfl (lv_at hl 3 rfl) ?_
    refine lv_iconst (v := 1) hx hb dL_law_997 (by decide) ?_
    refine lv_iadd hx hb dL_law_998 ?_
    refine va_sld hx hb hX hbl hbA hS hi1 dL_law_999 ?_
    rw [← he1]
    refine lv_aload_n hx hb dL_law_1000 rfl (lv_at hl 0 rfl) ?_
    refine lv_iload_n hx hb dL_law_1001 rfl (lv_at hl 3 rfl) ?_
    refine lv_iconst (v := 2) hx hb dL_law_1002 (by decide) ?_
    refine lv_iadd hx hb dL_law_1003 ?_
    refine va_sld hx hb hX hbl hbA hS hi2 dL_law_1004 ?_
    rw [← he2]
    refine lv_aload_n hx hb dL_law_1005 rfl (lv_at hl 0 rfl) ?_
    refine lv_iload_n hx hb dL_law_1006 rfl (lv_at hl 3 rfl) ?_
    refine lv_iconst (v := 3) hx hb dL_law_1007 (by decide) ?_
    refine lv_iadd hx hb dL_law_1008 ?_
    refine va_sld hx hb hX hbl hbA hS hi3 dL_law_1009 ?_
    rw [← he3]
    refine lv_aload_n hx hb dL_law_1010 rfl (lv_at hl 0 rfl) ?_
    refine lv_iload_n hx hb dL_law_1011 rfl (lv_at hl 3 rfl) ?_
    refine lv_iconst (v := 4) hx hb dL_law_1012 (by decide) ?_
    refine lv_iadd hx hb dL_law_1013 ?_
    refine va_sld hx hb hX hbl hbA hS hi4 dL_law_1014 ?_
    rw [← he4]
    obtain ⟨r1, X1, Y1, N1, pt1, px1, py1, ma1, u1, v1, h1, h2, hR1⟩ := op_join hR ma u v e1 e2 e3 e4
    refine cp_w (va_runV (As := [.int e1, .int e2, .int e3, .int e4]) (rest := []) ⟨hx, hb, hml, hown, htw⟩ (k_X1_join_ne l D cI cF o qf g gx gy ro rn tn fx fy ar wh X Y N e1 e2 e3 e4 hab _ h1) (cwV 4 htw gL_law_X1_join rfl rfl rfl (by decide +kernel) ⟨(Nat.le_of_ble_eq_true rfl), (Nat.le_of_ble_eq_true rfl)⟩) (pre_p hK hnw hO hpt) rfl rfl hl.1 rfl (lv_room (Nat.le_of_ble_eq_true rfl)) dL_law_1015 ⟨(Nat.le_of_ble_eq_true rfl), (Nat.le_of_ble_eq_true rfl)⟩) hS (fun a9 h9 => (hdl a9 h9).1) (fun H1 locs1 hO1 hz1 hk1 hS => ?_)
    have hO1 : drP D cI cF o qf g gx gy ro rn tn fx fy ar wh X1 Y1 N1 H1 := hO1
    have hm1 := mo_kept (fun a h => (hdl a h).2) hm hk1
    refine lv_aload_n hx hb dL_law_1018 rfl (lv_at hl 2 rfl) ?_
    refine lv_aload_n hx hb dL_law_1019 rfl (lv_at hl 0 rfl) ?_
    refine lv_iload_n hx hb dL_law_1020 rfl (lv_at hl 3 rfl) ?_
    refine lv_iconst (v := 1) hx hb dL_law_1021 (by decide) ?_
    refine lv_iadd hx hb dL_law_1022 ?_
    refine va_sld hx hb hX hbl hbA hS hi1 dL_law_1023 ?_
    rw [← he1]
    refine lv_aload_n hx hb dL_law_1024 rfl (lv_at hl 0 rfl) ?_
    refine lv_iload_n hx hb dL_law_1025 rfl (lv_at hl 3 rfl) ?_
    refine lv_iconst (v := 2) hx hb dL_law_1026 (by decide) ?_
    refine lv_iadd hx hb dL_law_1027 ?_
    refine va_sld hx hb hX hbl hbA hS hi2 dL_law_1028 ?_
    rw [← he2]
    refine lv_aload_n hx hb dL_law_1029 rfl (lv_at hl 0 rfl) ?_
    refine lv_iload_n hx hb dL_law_1030 rfl (lv_at hl 3 rfl) ?_
    refine lv_iconst (v := 3) hx hb dL_law_1031 (by decide) ?_
    refine lv_iadd hx hb dL_law_1032 ?_
    refine va_sld hx hb hX hbl hbA hS hi3 dL_law_1033 ?_
    rw [← he3]
    refine lv_aload_n hx hb dL_law_1034 rfl (lv_at hl 0 rfl) ?_
    refine lv_iload_n hx hb dL_law_1035 rfl (lv_at hl 3 rfl) ?_
    refine lv_iconst (v := 4) hx hb dL_law_1036 (by decide) ?_
    refine lv_iadd hx hb dL_law_1037 ?_
    refine va_sld hx hb hX hbl hbA hS hi4 dL_law_1038 ?_
    rw [← he4]
    refine cp_w (va_runV (As := [.int e1, .int e2, .int e3, .int e4]) (rest := [.int r1]) ⟨hx, hb, hml, hown, htw⟩ (k_X2_join l D cI cF m0 m1 m2 m3 m4 m5 pt px py ro rn tn fx fy ar wh ma u v e1 e2 e3 e4 _ h2) (cwV 4 htw gL_law_X2_join rfl rfl rfl (by decide +kernel) ⟨(Nat.le_of_ble_eq_true rfl), (Nat.le_of_ble_eq_true rfl)⟩) (pre_d (q0 := 0) (ci := 2) hK hm1 (hmD _ _ _ _ _ _ _ _ _ _ _ _ _) rfl rfl) rfl rfl hl.1 rfl (lv_room (Nat.le_of_ble_eq_true rfl)) dL_law_1039 ⟨(Nat.le_of_ble_eq_true rfl), (Nat.le_of_ble_eq_true rfl)⟩) hS (fun a9 h9 => va_in (hmD pt px py ro rn tn fx fy ar wh ma u v) h9 [0, 1, 2, 3, 4, 5] rfl) (fun H2 locs2 hm2 hz2 hk2 hS => ?_)
    have hm2 : va_P D vwCl (moW cI m0 m1 m2 m3 m4 m5 pt1 px1 py1 ro rn tn fx fy ar wh ma1 u1 v1) H2 := hm2
    have hO2 := drP_kept hO1 (fun a h h3 => hk2 a h3 (fun z => (hdl a h).2 (mo_in z)))
    refine lv_icmp_eq (tgt := 1090) hx hb dL_law_1042 (by decide) (fun _ => ?_) (fun c9 => absurd rfl c9)
    exact cont _ _ ls ⟨ro, rn, tn, fx, fy, ar, wh, X1, Y1, N1, pt1, px1, py1, ma1, u1, v1, hG, hR1, hO2, hm2, hS⟩ hl
set_option maxHeartbeats 8000000 in
set_option maxRecDepth 100000 in
theorem law_part {p : Program} {l : Launch} {e : Env} {s : State} {m : MethodId} {below : List Frame} {meth : Method} {c : Code} {D : va_G} {cI cF : ClassId} {b L : Nat} {xs : Nat → Int32} {o qf : Nat} {g gx gy : Nat → Nat} {m0 m1 m2 m3 m4 m5 : Nat} (C0 : lw_At p s m meth c b L xs) (F : LF D cI cF s o qf g gx gy m0 m1 m2 m3 m4 m5) (x3 : Int32) (e1 : Int32) (he1 : e1 = xs (x3 + 1).toNatClampNeg) (hi1 : vp_in (x3 + 1) L) (e2 : Int32) (he2 : e2 = xs (x3 + 2).toNatClampNeg) (hi2 : vp_in (x3 + 2) L) (e3 : Int32) (he3 : e3 = xs (x3 + 3).toNatClampNeg) (hi3 : vp_in (x3 + 3) L) (H : Heap) (locs : List Loc) (I : LI D cI cF s o qf g gx gy m0 m1 m2 m3 m4 m5 H locs) (cont : ∀ (H : Heap) (locs : List Loc) (ls : Array Slot), LI D cI cF s o qf g gx gy m0 m1 m2 m3 m4 m5 H locs → lv_has ls 4 [(0, .ref b), (1, .ref o), (2, .ref m0), (3, .int x3)] → W p l e room_1 s m #[Value.ref b] below meth c H locs 26 723 (lw_Z below #[Value.ref b] s) (F0 m 1090 ls [])) (ls : Array Slot) (hl : lv_has ls 4 [(0, .ref b), (1, .ref o), (2, .ref m0), (3, .int x3)]) : W p l e room_1 s m #[Value.ref b] below meth c H locs 26 723 (lw_Z below #[Value.ref b] s) (F0 m 1047 ls []) := by
  obtain ⟨hx, hb, hr, hml, hown, hts, hX, hbl, hlocks, hgv⟩ := C0
  obtain ⟨hK, hnw, hpt, hdl, hmD⟩ := F
  obtain ⟨ro, rn, tn, fx, fy, ar, wh, X, Y, N, pt, px, py, ma, u, v, hG, hR, hO, hm, hS⟩ := I
  have hb : c.code = cL_law := hb
  have hown : s.vm.findClass RL = some m.cls := hown
  have htw : ∀ w ∈ wsL_law, w.before #[Value.ref b] s = true := fun w h => hts w (wsL_law_in w h)
  have hbA : ¬ (fun q : Nat => s.heap.size ≤ q) b := Nat.not_le.mpr hbl
  by_cases hab : e1 = e2
  · subst hab
    refine lv_aload_n hx hb dL_law_1047 rfl (lv_at hl 1 rfl) ?_
    refine lv_aload_n hx hb dL_law_1048 rfl (lv_at hl 0 rfl) ?_
    refine lv_iload_n hx hb dL_law_1049 rfl (lv_at hl 3 rfl) ?_
    refine lv_iconst (v := 1) hx hb dL_law_1050 (by decide) ?_
    refine lv_iadd hx hb dL_law_1051 ?_
    refine va_sld hx hb hX hbl hbA hS hi1 dL_law_1052 ?_
    rw [← he1]
    refine lv_aload_n hx hb dL_law_1053 rfl (lv_at hl 0 rfl) ?_
    refine lv_iload_n hx hb dL_law_1054 rfl (lv_at hl 3 rfl) ?_
    refine lv_iconst (v := 2) hx hb dL_law_1055 (by decide) ?_
    refine lv_iadd hx hb dL_law_1056 ?_
    refine va_sld hx hb hX hbl hbA hS hi2 dL_law_1057 ?_
    rw [← he2]
    refine lv_aload_n hx hb dL_law_1058 rfl (lv_at hl 0 rfl) ?_
    refine lv_iload_n hx hb dL_law_1059 rfl (lv_at hl 3 rfl) ?_
    refine lv_iconst (v := 3) hx hb dL_law_1060 (by decide) ?_
    refine lv_iadd hx hb dL_law_1061 ?_
    refine va_sld hx hb hX hbl hbA hS hi3 dL_law_1062 ?_
    rw [← he3]
    obtain ⟨r1, X1, Y1, N1, pt1, px1, py1, ma1, u1, v1, h1, h2, hR1⟩ := op_part hR ma u v e1 e1 e3
    refine cp_w (va_runV (As := [.int e1, .int e1, .int e3]) (rest := []) ⟨hx, hb, hml, hown, htw⟩ (k_X1_part_eq l D cI cF o qf g gx gy ro rn tn fx fy ar wh X Y N e1 e3 _ h1) (cwV 3 htw gL_law_X1_part rfl rfl rfl (by decide +kernel) ⟨(Nat.le_of_ble_eq_true rfl), (Nat.le_of_ble_eq_true rfl)⟩) (pre_p hK hnw hO hpt) rfl rfl hl.1 rfl (lv_room (Nat.le_of_ble_eq_true rfl)) dL_law_1063 ⟨(Nat.le_of_ble_eq_true rfl), (Nat.le_of_ble_eq_true rfl)⟩) hS (fun a9 h9 => (hdl a9 h9).1) (fun H1 locs1 hO1 hz1 hk1 hS => ?_)
    have hO1 : drP D cI cF o qf g gx gy ro rn tn fx fy ar wh X1 Y1 N1 H1 := hO1
    have hm1 := mo_kept (fun a h => (hdl a h).2) hm hk1
    refine lv_aload_n hx hb dL_law_1066 rfl (lv_at hl 2 rfl) ?_
    refine lv_aload_n hx hb dL_law_1067 rfl (lv_at hl 0 rfl) ?_
    refine lv_iload_n hx hb dL_law_1068 rfl (lv_at hl 3 rfl) ?_
    refine lv_iconst (v := 1) hx hb dL_law_1069 (by decide) ?_
    refine lv_iadd hx hb dL_law_1070 ?_
    refine va_sld hx hb hX hbl hbA hS hi1 dL_law_1071 ?_
    rw [← he1]
    refine lv_aload_n hx hb dL_law_1072 rfl (lv_at hl 0 rfl) ?_
    refine lv_iload_n hx hb dL_law_1073 rfl (lv_at hl 3 rfl) ?_
    refine lv_iconst (v := 2) hx hb dL_law_1074 (by decide) ?_
    refine lv_iadd hx hb dL_law_1075 ?_
    refine va_sld hx hb hX hbl hbA hS hi2 dL_law_1076 ?_
    rw [← he2]
    refine lv_aload_n hx hb dL_law_1077 rfl (lv_at hl 0 rfl) ?_
    refine lv_iload_n hx hb dL_law_1078 rfl (lv_at hl 3 rfl) ?_
    refine lv_iconst (v := 3) hx hb dL_law_1079 (by decide) ?_
    refine lv_iadd hx hb dL_law_1080 ?_
    refine va_sld hx hb hX hbl hbA hS hi3 dL_law_1081 ?_
    rw [← he3]
    refine cp_w (va_runV (As := [.int e1, .int e1, .int e3]) (rest := [.int r1]) ⟨hx, hb, hml, hown, htw⟩ (k_X2_part l D cI cF m0 m1 m2 m3 m4 m5 pt px py ro rn tn fx fy ar wh ma u v e1 e1 e3 _ h2) (cwV 3 htw gL_law_X2_part rfl rfl rfl (by decide +kernel) ⟨(Nat.le_of_ble_eq_true rfl), (Nat.le_of_ble_eq_true rfl)⟩) (pre_d (q0 := 0) (ci := 2) hK hm1 (hmD _ _ _ _ _ _ _ _ _ _ _ _ _) rfl rfl) rfl rfl hl.1 rfl (lv_room (Nat.le_of_ble_eq_true rfl)) dL_law_1082 ⟨(Nat.le_of_ble_eq_true rfl), (Nat.le_of_ble_eq_true rfl)⟩) hS (fun a9 h9 => va_in (hmD pt px py ro rn tn fx fy ar wh ma u v) h9 [0, 1, 2, 3, 4, 5] rfl) (fun H2 locs2 hm2 hz2 hk2 hS => ?_)
    have hm2 : va_P D vwCl (moW cI m0 m1 m2 m3 m4 m5 pt1 px1 py1 ro rn tn fx fy ar wh ma1 u1 v1) H2 := hm2
    have hO2 := drP_kept hO1 (fun a h h3 => hk2 a h3 (fun z => (hdl a h).2 (mo_in z)))
    refine lv_icmp_eq (tgt := 1090) hx hb dL_law_1085 (by decide) (fun _ => ?_) (fun c9 => absurd rfl c9)
    exact cont _ _ ls ⟨ro, rn, tn, fx, fy, ar, wh, X1, Y1, N1, pt1, px1, py1, ma1, u1, v1, hG, hR1, hO2, hm2, hS⟩ hl
  · refine lv_aload_n hx hb dL_law_1047 rfl (lv_at hl 1 rfl) ?_
    refine lv_aload_n hx hb dL_law_1048 rfl (lv_at hl 0 rfl) ?_
    refine lv_iload_n hx hb dL_law_1049 rfl (lv_at hl 3 rfl) ?_
    refine lv_iconst (v := 1) hx hb dL_law_1050 (by decide) ?_
    refine lv_iadd hx hb dL_law_1051 ?_
    refine va_sld hx hb hX hbl hbA hS hi1 dL_law_1052 ?_
    rw [← he1]
    refine lv_aload_n hx hb dL_law_1053 rfl (lv_at hl 0 rfl) ?_
    refine lv_iload_n hx hb dL_law_1054 rfl (lv_at hl 3 rfl) ?_
    refine lv_iconst (v := 2) hx hb dL_law_1055 (by decide) ?_
    refine lv_iadd hx hb dL_law_1056 ?_
    refine va_sld hx hb hX hbl hbA hS hi2 dL_law_1057 ?_
    rw [← he2]
    refine lv_aload_n hx hb dL_law_1058 rfl (lv_at hl 0 rfl) ?_
    refine lv_iload_n hx hb dL_law_1059 rfl (lv_at hl 3 rfl) ?_
    refine lv_iconst (v := 3) hx hb dL_law_1060 (by decide) ?_
    refine lv_iadd hx hb dL_law_1061 ?_
    refine va_sld hx hb hX hbl hbA hS hi3 dL_law_1062 ?_
    rw [← he3]
    obtain ⟨r1, X1, Y1, N1, pt1, px1, py1, ma1, u1, v1, h1, h2, hR1⟩ := op_part hR ma u v e1 e2 e3
    refine cp_w (va_runV (As := [.int e1, .int e2, .int e3]) (rest := []) ⟨hx, hb, hml, hown, htw⟩ (k_X1_part_ne l D cI cF o qf g gx gy ro rn tn fx fy ar wh X Y N e1 e2 e3 hab _ h1) (cwV 3 htw gL_law_X1_part rfl rfl rfl (by decide +kernel) ⟨(Nat.le_of_ble_eq_true rfl), (Nat.le_of_ble_eq_true rfl)⟩) (pre_p hK hnw hO hpt) rfl rfl hl.1 rfl (lv_room (Nat.le_of_ble_eq_true rfl)) dL_law_1063 ⟨(Nat.le_of_ble_eq_true rfl), (Nat.le_of_ble_eq_true rfl)⟩) hS (fun a9 h9 => (hdl a9 h9).1) (fun H1 locs1 hO1 hz1 hk1 hS => ?_)
    have hO1 : drP D cI cF o qf g gx gy ro rn tn fx fy ar wh X1 Y1 N1 H1 := hO1
    have hm1 := mo_kept (fun a h => (hdl a h).2) hm hk1
    refine lv_aload_n hx hb dL_law_1066 rfl (lv_at hl 2 rfl) ?_
    refine lv_aload_n hx hb dL_law_1067 rfl (lv_at hl 0 rfl) ?_
    refine lv_iload_n hx hb dL_law_1068 rfl (lv_at hl 3 rfl) ?_
    refine lv_iconst (v := 1) hx hb dL_law_1069 (by decide) ?_
    refine lv_iadd hx hb dL_law_1070 ?_
    refine va_sld hx hb hX hbl hbA hS hi1 dL_law_1071 ?_
    rw [← he1]
    refine lv_aload_n hx hb dL_law_1072 rfl (lv_at hl 0 rfl) ?_
    refine lv_iload_n hx hb dL_law_1073 rfl (lv_at hl 3 rfl) ?_
    refine lv_iconst (v := 2) hx hb dL_law_1074 (by decide) ?_
    refine lv_iadd hx hb dL_law_1075 ?_
    refine va_sld hx hb hX hbl hbA hS hi2 dL_law_1076 ?_
    rw [← he2]
    refine lv_aload_n hx hb dL_law_1077 rfl (lv_at hl 0 rfl) ?_
    refine lv_iload_n hx hb dL_law_1078 rfl (lv_at hl 3 rfl) ?_
    refine lv_iconst (v := 3) hx hb dL_law_1079 (by decide) ?_
    refine lv_iadd hx hb dL_law_1080 ?_
    refine va_sld hx hb hX hbl hbA hS hi3 dL_law_1081 ?_
    rw [← he3]
    refine cp_w (va_runV (As := [.int e1, .int e2, .int e3]) (rest := [.int r1]) ⟨hx, hb, hml, hown, htw⟩ (k_X2_part l D cI cF m0 m1 m2 m3 m4 m5 pt px py ro rn tn fx fy ar wh ma u v e1 e2 e3 _ h2) (cwV 3 htw gL_law_X2_part rfl rfl rfl (by decide +kernel) ⟨(Nat.le_of_ble_eq_true rfl), (Nat.le_of_ble_eq_true rfl)⟩) (pre_d (q0 := 0) (ci := 2) hK hm1 (hmD _ _ _ _ _ _ _ _ _ _ _ _ _) rfl rfl) rfl rfl hl.1 rfl (lv_room (Nat.le_of_ble_eq_true rfl)) dL_law_1082 ⟨(Nat.le_of_ble_eq_true rfl), (Nat.le_of_ble_eq_true rfl)⟩) hS (fun a9 h9 => va_in (hmD pt px py ro rn tn fx fy ar wh ma u v) h9 [0, 1, 2, 3, 4, 5] rfl) (fun H2 locs2 hm2 hz2 hk2 hS => ?_)
    have hm2 : va_P D vwCl (moW cI m0 m1 m2 m3 m4 m5 pt1 px1 py1 ro rn tn fx fy ar wh ma1 u1 v1) H2 := hm2
    have hO2 := drP_kept hO1 (fun a h h3 => hk2 a h3 (fun z => (hdl a h).2 (mo_in z)))
    refine lv_icmp_eq (tgt := 1090) hx hb dL_law_1085 (by decide) (fun _ => ?_) (fun c9 => absurd rfl c9)
    exact cont _ _ ls ⟨ro, rn, tn, fx, fy, ar, wh, X1, Y1, N1, pt1, px1, py1, ma1, u1, v1, hG, hR1, hO2, hm2, hS⟩ hl
