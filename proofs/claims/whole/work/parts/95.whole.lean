theorem dall_lt {D : va_G} {cI cF : ClassId} {o qf : Nat} {g gx gy : Nat → Nat} {ro rn tn fx fy ar wh : Int32} {X Y : Nat → Nat → Int32} {N : Nat → Int32} {H : Heap} (hO : drP D cI cF o qf g gx gy ro rn tn fx fy ar wh X Y N H) {a : Nat} (h : dall o qf g gx gy a) : a < H.size := by
  obtain ⟨i, hi, rfl⟩ := h
  by_cases h0 : i = 0
  · subst h0; exact (hO.1 0 _ rfl).lt
  by_cases h1 : i = 1
  · subst h1; exact (hO.1 1 _ rfl).lt
  have hk : (i - 2) / 3 < 6 := by omega
  have key : i = 2 + 3 * ((i - 2) / 3) ∨ i = 3 + 3 * ((i - 2) / 3) ∨ i = 4 + 3 * ((i - 2) / 3) := by omega
  generalize (i - 2) / 3 = k at key hk
  rcases key with rfl | rfl | rfl
  · rw [dad_g]; exact (hO.2 k hk 0 _ rfl).lt
  · rw [dad_x]; exact (hO.2 k hk 1 _ rfl).lt
  · rw [dad_y]; exact (hO.2 k hk 2 _ rfl).lt
theorem rg_new : Rg 150 60 1000 0 0 100 0 := by
  unfold Rg
  decide +kernel
theorem rl_new : Rl (fun _ _ => 0) (fun _ _ => 0) (fun _ => 0) (fun _ => 0) (fun _ => 0) (fun _ => 0) := fun f _ => ⟨0, ⟨Nat.zero_le _, fun i hi => absurd hi (Nat.not_lt_zero i)⟩, rfl, rfl, fun i hi => absurd hi (Nat.not_lt_zero i)⟩
set_option maxHeartbeats 8000000 in
set_option maxRecDepth 100000 in
theorem law_loop {p : Program} {l : Launch} {e : Env} {s : State} {m : MethodId} {below : List Frame} {meth : Method} {c : Code} {D : va_G} {cI cF : ClassId} {b L : Nat} {xs : Nat → Int32} {o qf : Nat} {g gx gy : Nat → Nat} {m0 m1 m2 m3 m4 m5 : Nat} (hL : L ≤ 3072) (C0 : lw_At p s m meth c b L xs) (F : LF D cI cF s o qf g gx gy m0 m1 m2 m3 m4 m5) :
    ∀ (n i : Nat) (x3 : Int32), i ≤ L + 6 → L + 1 ≤ i + n → x3 = nI i → ∀ (H : Heap) (locs : List Loc), LI D cI cF s o qf g gx gy m0 m1 m2 m3 m4 m5 H locs → ∀ (ls : Array Slot), lv_has ls 4 [(0, .ref b), (1, .ref o), (2, .ref m0), (3, .int x3)] → W p l e room_1 s m #[Value.ref b] below meth c H locs 26 723 (lw_Z below #[Value.ref b] s) (F0 m 18 ls []) := by
  obtain ⟨hx, hb0, hr, hml, hown, hts, hX, hbl, hlocks, hgv⟩ := id C0
  have hb : c.code = cL_law := hb0
  have hbA : ¬ (fun q : Nat => s.heap.size ≤ q) b := Nat.not_le.mpr hbl
  have fin : ∀ (H : Heap) (locs : List Loc) (ls : Array Slot), va_S (fun q : Nat => s.heap.size ≤ q) s.heap H locs → W p l e room_1 s m #[Value.ref b] below meth c H locs 26 723 (lw_Z below #[Value.ref b] s) (F0 m 1096 ls []) := by
    intro H locs ls hS
    refine lv_iconst (v := 1) hx hb dL_law_1096 (by decide) ?_
    refine va_forget (fun q hq => hS.2.2 q hq) ?_
    refine W.widen (k := 600000) (n := 7302250) (by decide) (by decide) ?_
    exact lw_ret hx hb0 hr hlocks dL_law_1097
  intro n
  induction n with
  | zero =>
    intro i x3 h1 h2 ex H locs I ls hl
    have hS := I
    obtain ⟨-, -, -, -, -, -, -, -, -, -, -, -, -, -, -, -, -, -, -, -, hS⟩ := hS
    refine lv_iload_n hx hb dL_law_18 rfl (lv_at hl 3 rfl) ?_
    refine lv_aload_n hx hb dL_law_19 rfl (lv_at hl 0 rfl) ?_
    refine va_slen hx hb hX hbl hbA hS dL_law_20 ?_
    refine lv_bipush (v := 6) hx hb dL_law_21 (by decide) ?_
    refine lv_isub hx hb dL_law_23 ?_
    refine lv_icmp_gt (tgt := 1096) hx hb dL_law_24 (by decide) (fun _ => fin H locs ls hS) (fun c9 => ?_)
    exfalso
    refine c9 ?_
    rw [ex, Int32.lt_iff_toInt_lt, nI_toInt (by omega), show (Int32.ofNat L - 6).toInt = (L : Int) - 6 from pk_sub_toInt (a := L) (b := 6) (by omega) (by decide)]
    omega
  | succ n ih =>
    intro i x3 h1 h2 ex H locs I ls hl
    have hS := I
    obtain ⟨-, -, -, -, -, -, -, -, -, -, -, -, -, -, -, -, -, -, -, -, hS⟩ := hS
    refine lv_iload_n hx hb dL_law_18 rfl (lv_at hl 3 rfl) ?_
    refine lv_aload_n hx hb dL_law_19 rfl (lv_at hl 0 rfl) ?_
    refine va_slen hx hb hX hbl hbA hS dL_law_20 ?_
    refine lv_bipush (v := 6) hx hb dL_law_21 (by decide) ?_
    refine lv_isub hx hb dL_law_23 ?_
    refine lv_icmp_gt (tgt := 1096) hx hb dL_law_24 (by decide) (fun _ => fin H locs ls hS) (fun c9 => ?_)
    have h6 : i + 6 ≤ L := by
      rw [ex, Int32.lt_iff_toInt_lt, nI_toInt (by omega), show (Int32.ofNat L - 6).toInt = (L : Int) - 6 from pk_sub_toInt (a := L) (b := 6) (by omega) (by decide)] at c9
      omega
    have hi0 : vp_in x3 L := by rw [ex]; exact vp_in_nI (by omega) (by omega)
    have hk : ∀ k : Nat, k < 6 → vp_in (x3 + nI k) L := fun k h => by rw [ex, nI_add]; exact vp_in_nI (by omega) (by omega)
    have cont : ∀ (H : Heap) (locs : List Loc) (ls : Array Slot), LI D cI cF s o qf g gx gy m0 m1 m2 m3 m4 m5 H locs → lv_has ls 4 [(0, .ref b), (1, .ref o), (2, .ref m0), (3, .int x3)] → W p l e room_1 s m #[Value.ref b] below meth c H locs 26 723 (lw_Z below #[Value.ref b] s) (F0 m 1090 ls []) := by
      intro H locs ls I hl
      obtain ⟨y, ey⟩ : ∃ y : Int32, y = x3 + 6 := ⟨_, rfl⟩
      refine lv_iinc (v := y) (lv' := [(3, .int y), (0, .ref b), (1, .ref o), (2, .ref m0)]) hx hb dL_law_1090 hl (k := 3) rfl (by rw [ey]; rfl) (by decide) rfl (fun ls hl => ?_)
      refine lv_goto (tgt := 18) hx hb dL_law_1093 (by decide) ?_
      exact ih (i + 6) y (by omega) (by omega) (by rw [ey, ex]; exact nI_add i 6) H locs I ls (lv_sub hl [1, 2, 3, 0] rfl)
    refine lv_aload_n hx hb dL_law_27 rfl (lv_at hl 0 rfl) ?_
    refine lv_iload_n hx hb dL_law_28 rfl (lv_at hl 3 rfl) ?_
    refine va_sld hx hb hX hbl hbA hS hi0 dL_law_29 ?_
    refine lv_bipush (v := 31) hx hb dL_law_30 (by decide) ?_
    refine lv_iand hx hb dL_law_32 ?_
    obtain ⟨j, hj, ej⟩ := pk_andE (xs x3.toNatClampNeg) (m := 31) 5 (by decide)
    rw [ej]
    by_cases h24 : 24 ≤ j
    · refine lv_tableOut (tgt := 1090) hx hb dL_law_33 (Or.inr (by rw [nI_toInt (by omega)]; omega)) (by decide) ?_
      exact cont H locs ls I hl
    · have hj2 : j < 24 := by omega
      have e0 : ∀ k, k = j → ¬ (nI k).toInt < 0 ∧ ¬ 23 < (nI k).toInt := fun k hk => by rw [nI_toInt (by omega)]; omega
      rcases (show j = 0 ∨ j = 1 ∨ j = 2 ∨ j = 3 ∨ j = 4 ∨ j = 5 ∨ j = 6 ∨ j = 7 ∨ j = 8 ∨ j = 9 ∨ j = 10 ∨ j = 11 ∨ j = 12 ∨ j = 13 ∨ j = 14 ∨ j = 15 ∨ j = 16 ∨ j = 17 ∨ j = 18 ∨ j = 19 ∨ j = 20 ∨ j = 21 ∨ j = 22 ∨ j = 23 by omega) with rfl | rfl | rfl | rfl | rfl | rfl | rfl | rfl | rfl | rfl | rfl | rfl | rfl | rfl | rfl | rfl | rfl | rfl | rfl | rfl | rfl | rfl | rfl | rfl
      · refine lv_tableIn (off := 111) (tgt := 144) hx hb dL_law_33 (e0 _ rfl).1 (e0 _ rfl).2 rfl (by decide) ?_
        exact law_point C0 F x3 _ rfl (hk 1 (by decide)) _ rfl (hk 2 (by decide)) _ rfl (hk 3 (by decide)) H locs I cont ls hl
      · refine lv_tableIn (off := 154) (tgt := 187) hx hb dL_law_33 (e0 _ rfl).1 (e0 _ rfl).2 rfl (by decide) ?_
        exact law_move C0 F x3 _ rfl (hk 1 (by decide)) _ rfl (hk 2 (by decide)) _ rfl (hk 3 (by decide)) _ rfl (hk 4 (by decide)) H locs I cont ls hl
      · refine lv_tableIn (off := 207) (tgt := 240) hx hb dL_law_33 (e0 _ rfl).1 (e0 _ rfl).2 rfl (by decide) ?_
        exact law_clear C0 F x3 _ rfl (hk 1 (by decide)) H locs I cont ls hl
      · refine lv_tableIn (off := 230) (tgt := 263) hx hb dL_law_33 (e0 _ rfl).1 (e0 _ rfl).2 rfl (by decide) ?_
        exact law_at C0 F x3 _ rfl (hk 1 (by decide)) _ rfl (hk 2 (by decide)) _ rfl (hk 3 (by decide)) H locs I cont ls hl
      · refine lv_tableIn (off := 273) (tgt := 306) hx hb dL_law_33 (e0 _ rfl).1 (e0 _ rfl).2 rfl (by decide) ?_
        exact law_copy C0 F x3 _ rfl (hk 1 (by decide)) _ rfl (hk 2 (by decide)) _ rfl (hk 3 (by decide)) H locs I cont ls hl
      · refine lv_tableIn (off := 332) (tgt := 365) hx hb dL_law_33 (e0 _ rfl).1 (e0 _ rfl).2 rfl (by decide) ?_
        exact law_twice C0 F x3 _ rfl (hk 1 (by decide)) H locs I cont ls hl
      · refine lv_tableIn (off := 356) (tgt := 389) hx hb dL_law_33 (e0 _ rfl).1 (e0 _ rfl).2 rfl (by decide) ?_
        exact law_simple C0 F x3 _ rfl (hk 1 (by decide)) H locs I cont ls hl
      · refine lv_tableIn (off := 379) (tgt := 412) hx hb dL_law_33 (e0 _ rfl).1 (e0 _ rfl).2 rfl (by decide) ?_
        exact law_winds C0 F x3 _ rfl (hk 1 (by decide)) _ rfl (hk 2 (by decide)) _ rfl (hk 3 (by decide)) H locs I cont ls hl
      · refine lv_tableIn (off := 422) (tgt := 455) hx hb dL_law_33 (e0 _ rfl).1 (e0 _ rfl).2 rfl (by decide) ?_
        exact law_rod C0 F x3 _ rfl (hk 1 (by decide)) H locs I cont ls hl
      · refine lv_tableIn (off := 445) (tgt := 478) hx hb dL_law_33 (e0 _ rfl).1 (e0 _ rfl).2 rfl (by decide) ?_
        exact law_told C0 F x3 _ rfl (hk 1 (by decide)) _ rfl (hk 2 (by decide)) _ rfl (hk 3 (by decide)) H locs I cont ls hl
      · refine lv_tableIn (off := 489) (tgt := 522) hx hb dL_law_33 (e0 _ rfl).1 (e0 _ rfl).2 rfl (by decide) ?_
        exact law_can C0 F x3 _ rfl (hk 1 (by decide)) H locs I cont ls hl
      · refine lv_tableIn (off := 512) (tgt := 545) hx hb dL_law_33 (e0 _ rfl).1 (e0 _ rfl).2 rfl (by decide) ?_
        exact law_rail C0 F x3 _ rfl (hk 1 (by decide)) _ rfl (hk 2 (by decide)) _ rfl (hk 3 (by decide)) H locs I cont ls hl
      · refine lv_tableIn (off := 555) (tgt := 588) hx hb dL_law_33 (e0 _ rfl).1 (e0 _ rfl).2 rfl (by decide) ?_
        exact law_shut C0 F x3 _ rfl (hk 1 (by decide)) _ rfl (hk 2 (by decide)) H locs I cont ls hl
      · refine lv_tableIn (off := 589) (tgt := 622) hx hb dL_law_33 (e0 _ rfl).1 (e0 _ rfl).2 rfl (by decide) ?_
        exact law_geared C0 F x3 _ rfl (hk 1 (by decide)) _ rfl (hk 2 (by decide)) _ rfl (hk 3 (by decide)) H locs I cont ls hl
      · refine lv_tableIn (off := 633) (tgt := 666) hx hb dL_law_33 (e0 _ rfl).1 (e0 _ rfl).2 rfl (by decide) ?_
        exact law_moment C0 F x3 _ rfl (hk 1 (by decide)) _ rfl (hk 2 (by decide)) _ rfl (hk 3 (by decide)) H locs I cont ls hl
      · refine lv_tableIn (off := 677) (tgt := 710) hx hb dL_law_33 (e0 _ rfl).1 (e0 _ rfl).2 rfl (by decide) ?_
        exact law_arm C0 F x3 _ rfl (hk 1 (by decide)) _ rfl (hk 2 (by decide)) _ rfl (hk 3 (by decide)) _ rfl (hk 4 (by decide)) H locs I cont ls hl
      · refine lv_tableIn (off := 730) (tgt := 763) hx hb dL_law_33 (e0 _ rfl).1 (e0 _ rfl).2 rfl (by decide) ?_
        exact law_ring C0 F x3 _ rfl (hk 1 (by decide)) _ rfl (hk 2 (by decide)) H locs I cont ls hl
      · refine lv_tableIn (off := 764) (tgt := 797) hx hb dL_law_33 (e0 _ rfl).1 (e0 _ rfl).2 rfl (by decide) ?_
        exact law_reaches C0 F x3 _ rfl (hk 1 (by decide)) H locs I cont ls hl
      · refine lv_tableIn (off := 787) (tgt := 820) hx hb dL_law_33 (e0 _ rfl).1 (e0 _ rfl).2 rfl (by decide) ?_
        exact law_teeth C0 F x3 _ rfl (hk 1 (by decide)) _ rfl (hk 2 (by decide)) H locs I cont ls hl
      · refine lv_tableIn (off := 820) (tgt := 853) hx hb dL_law_33 (e0 _ rfl).1 (e0 _ rfl).2 rfl (by decide) ?_
        exact law_count C0 F x3 _ rfl (hk 1 (by decide)) H locs I cont ls hl
      · refine lv_tableIn (off := 844) (tgt := 877) hx hb dL_law_33 (e0 _ rfl).1 (e0 _ rfl).2 rfl (by decide) ?_
        exact law_may C0 F x3 _ rfl (hk 1 (by decide)) _ rfl (hk 2 (by decide)) _ rfl (hk 3 (by decide)) _ rfl (hk 4 (by decide)) _ rfl (hk 5 (by decide)) H locs I cont ls hl
      · refine lv_tableIn (off := 908) (tgt := 941) hx hb dL_law_33 (e0 _ rfl).1 (e0 _ rfl).2 rfl (by decide) ?_
        exact law_fits C0 F x3 _ rfl (hk 1 (by decide)) _ rfl (hk 2 (by decide)) _ rfl (hk 3 (by decide)) _ rfl (hk 4 (by decide)) H locs I cont ls hl
      · refine lv_tableIn (off := 961) (tgt := 994) hx hb dL_law_33 (e0 _ rfl).1 (e0 _ rfl).2 rfl (by decide) ?_
        exact law_join C0 F x3 _ rfl (hk 1 (by decide)) _ rfl (hk 2 (by decide)) _ rfl (hk 3 (by decide)) _ rfl (hk 4 (by decide)) H locs I cont ls hl
      · refine lv_tableIn (off := 1014) (tgt := 1047) hx hb dL_law_33 (e0 _ rfl).1 (e0 _ rfl).2 rfl (by decide) ?_
        exact law_part C0 F x3 _ rfl (hk 1 (by decide)) _ rfl (hk 2 (by decide)) _ rfl (hk 3 (by decide)) H locs I cont ls hl
set_option maxHeartbeats 8000000 in
set_option maxRecDepth 100000 in
theorem whole_start {p : Program} {e : Env} {s : State} {m : MethodId} {below : List Frame} {meth : Method} {c : Code} (l : Launch) {b L : Nat} {xs : Nat → Int32} (hL : L ≤ 3072) (C0 : lw_At p s m meth c b L xs) : W p l e room_1 s m #[Value.ref b] below meth c s.heap [] 0 0 (lw_Z below #[Value.ref b] s) (entryFrame m ([Value.ref b] : List Value).toArray 4) := by
  obtain ⟨hx, hb0, hr, hml, hown0, hts, hX, hbl, hlocks, hgv⟩ := id C0
  have hb : c.code = cL_law := hb0
  have hown : s.vm.findClass RL = some m.cls := hown0
  have htw : ∀ w ∈ wsL_law, w.before #[Value.ref b] s = true := fun w h => hts w (wsL_law_in w h)
  have hA : ∀ q : Nat, s.heap.size ≤ q → (fun q : Nat => s.heap.size ≤ q) q := fun _ h => h
  have hbA : ¬ (fun q : Nat => s.heap.size ≤ q) b := Nat.not_le.mpr hbl
  obtain ⟨c0, iS0, hKn0⟩ := u_known (C := RX0) (T := TX0) (N := 3) (n := 3) hts inX0 (hts (.instantiable RX0 3) (List.mem_of_getElem? (i := 52) (by decide +kernel)))
  obtain ⟨c1, iS1, hKn1⟩ := u_known (C := RX1) (T := TX1) (N := 8) (n := 8) hts inX1 (hts (.instantiable RX1 8) (List.mem_of_getElem? (i := 43) (by decide +kernel)))
  obtain ⟨c2, iS2, hKn2⟩ := u_known (C := RX2) (T := TX2) (N := 13) (n := 13) hts inX2 (hts (.instantiable RX2 13) (List.mem_of_getElem? (i := 430) (by decide +kernel)))
  obtain ⟨cI, kI, pI, fI1, fI2, fI3⟩ := Cond.arrayClass_spec (hts (.arrayClass .int) (List.mem_of_getElem? (i := 68) (by decide +kernel)))
  have hov := hts (.arrayOver (.object "DrawnAreas$Figure")) (List.mem_of_getElem? (i := 51) (by decide +kernel))
  obtain ⟨pF, cF, kF, fF1, -, fF3, fF4, fF5⟩ := Cond.arrayOver_spec hov
  have hAO : va_AO "DrawnAreas$Figure" s := va_AO.of hov
  have hnw : va_Nw nst s := va_Nw.of (A := #[Value.ref b]) rfl (hts nst (List.mem_of_getElem? (i := 60) (by decide +kernel)))
  obtain ⟨D, hKc⟩ : ∃ D : va_G, ∀ (k : Nat) (q : vw_C), vwCl[k]? = some q → u_Kn s q.1 q.2.1 q.2.2 (D.1 k) (D.2 k) := by
    refine ⟨(fun k => if k = 0 then c0 else if k = 1 then c1 else c2, fun k => if k = 0 then iS0 else if k = 1 then iS1 else iS2), ?_⟩
    intro k q hq
    match k, hq with
    | 0, hq => cases hq; exact hKn0
    | 1, hq => cases hq; exact hKn1
    | 2, hq => cases hq; exact hKn2
    | k + 3, hq => cases hq
  have hK : va_K D vwCl (tyl cI cF) s := by
    refine ⟨hKc, fun k q h => ?_⟩
    match k, h with
    | 0, h => cases h; exact ⟨fun n z => ⟨fun k h => (by cases h), kI, fI2, pI, fI3⟩, fI1⟩
    | 1, h => cases h; exact ⟨fun n z => ⟨fun k h => (by cases h), kF, fF3, pF, fF4⟩, kF, pF, fF3, fF4, fF1, fF5⟩
    | k + 2, h => cases h
  have hS : va_S (fun q : Nat => s.heap.size ≤ q) s.heap s.heap [] := va_S.rf
  have hP : va_P D vwCl [] s.heap := fun k q h => by simp at h
  have hD : va_D (fun q : Nat => s.heap.size ≤ q) [] := ⟨fun i j p q h => by simp at h, fun k q h => by simp at h⟩
  have hl := lv_entry ([.ref b]) (n := 4) (Nat.le_of_ble_eq_true rfl)
  rw [lg_entry_eq]
  generalize (lg_sl ([.ref b]) ++ List.replicate (4 - (lg_sl ([.ref b])).length) Slot.unset).toArray = ls at hl ⊢
  have hl : lv_has ls 4 [(0, .ref b)] := hl
  refine va_new (ci := 1) (fs := [.null, .int 0, .int 0, .int 0, .int 0, .int 0, .int 0, .int 0]) (C := RX1) (T := TX1) (N := 8) hx hb htw inlX1 tyX1 tyX1_ok hown (htw (.classLink RL 7 RX1) (by decide +kernel)) (htw (.instantiable RX1 8) (by decide +kernel)) (htw (.initialized RX1) (by decide +kernel)) hK hP hD hS hA rfl (fun j hj => by rcases (show j = 0 ∨ j = 1 ∨ j = 2 ∨ j = 3 ∨ j = 4 ∨ j = 5 ∨ j = 6 ∨ j = 7 by omega) with rfl | rfl | rfl | rfl | rfl | rfl | rfl | rfl <;> rfl) (Nat.le_of_ble_eq_true rfl) (Nat.le_of_ble_eq_true rfl) dL_law_0 (fun o H hP hD hS => ?_)
  have hP : va_P D vwCl [(o, .inr (1, [.null, .int 0, .int 0, .int 0, .int 0, .int 0, .int 0, .int 0]))] H := hP
  have hD : va_D (fun q : Nat => s.heap.size ≤ q) [(o, .inr (1, [.null, .int 0, .int 0, .int 0, .int 0, .int 0, .int 0, .int 0]))] := hD
  refine W.widen (k := 1) (n := 8) (by omega) (by omega) ?_
  refine lv_dup hx hb dL_law_3 rfl ?_
  have hFc := va_free (wc := [(o, .inr (1, [.null, .int 0, .int 0, .int 0, .int 0, .int 0, .int 0, .int 0]))]) hD hS hA [0] rfl
  refine va_callv (va_runI (As := []) (rest := [.ref o]) ⟨hx, hb, hml, hown, htw⟩ (k_X1_init l D cI cF o H.size) (cwI 0 htw gL_law_X1_init rfl rfl rfl (htw (.initialized RX1) (by decide +kernel)) (htw (.methodLink RL 9 yX1_init) (by decide +kernel)) (htw (.instanceMethod yX1_init) (by decide +kernel)) rfl (by decide +kernel) ⟨(Nat.le_of_ble_eq_true rfl), (Nat.le_of_ble_eq_true rfl)⟩) ⟨fun a U g mk q => ⟨q.1, q.2.1, va_K.moved (u := U) (U := U.calling g mk a) (Vm.Alike.refl U.vm) q.2.2.1, va_AO.moved (u := U) (U := U.calling g mk a) (Vm.Alike.refl U.vm) q.2.2.2.1, q.2.2.2.2⟩, fun U hU hW => ⟨rfl, by rw [hU], va_K.moved hW.alike hK, va_AO.moved hW.alike hAO, by rw [hU]; exact hP, hD.weaken (fun _ _ _ _ => trivial)⟩⟩ rfl rfl hl.1 rfl (lv_room (Nat.le_of_ble_eq_true rfl)) dL_law_4 ⟨(Nat.le_of_ble_eq_true rfl), (Nat.le_of_ble_eq_true rfl)⟩) hS (fun q _ h => hFc q h) hFc (fun w t H1 locs ht hvm hw hB hz1 hk1 hS => ?_)
  obtain ⟨qf, g, gx, gy⟩ := w
  obtain ⟨hO, hpt, hin⟩ := hB
  rw [ht] at hO
  have hO : drP D cI cF o qf g gx gy 150 60 1000 0 0 100 0 (fun _ _ => 0) (fun _ _ => 0) (fun _ => 0) H1 := hO
  have hpt : dpt o qf g gx gy := hpt
  have hdA : ∀ a, dall o qf g gx gy a → s.heap.size ≤ a := fun a h => hFc a (hin a h)
  have hdl : ∀ a, dall o qf g gx gy a → a < H1.size := fun a h => dall_lt hO h
  have hz1 : s.heap.size ≤ H1.size := hS.1
  refine W.widen (k := 20) (n := 320) (by omega) (by omega) ?_
  refine va_forget (fun q hq => hS.2.2 q hq) ?_
  refine lv_astore_n (lv' := [(1, .ref o), (0, .ref b)]) hx hb dL_law_7 rfl hl (by decide) rfl (fun ls hl => ?_)
  have hP : va_P D vwCl [] H1 := fun k q h => by simp at h
  have hD : va_D (fun q : Nat => H1.size ≤ q) [] := ⟨fun i j p q h => by simp at h, fun k q h => by simp at h⟩
  refine va_new (ci := 2) (fs := [.null, .null, .null, .int 0, .int 0, .int 0, .int 0, .int 0, .int 0, .int 0, .int 0, .null, .null]) (C := RX2) (T := TX2) (N := 13) hx hb htw inlX2 tyX2 tyX2_ok hown (htw (.classLink RL 10 RX2) (by decide +kernel)) (htw (.instantiable RX2 13) (by decide +kernel)) (htw (.initialized RX2) (by decide +kernel)) hK hP hD va_S.rf (fun _ h => h) rfl (fun j hj => by rcases (show j = 0 ∨ j = 1 ∨ j = 2 ∨ j = 3 ∨ j = 4 ∨ j = 5 ∨ j = 6 ∨ j = 7 ∨ j = 8 ∨ j = 9 ∨ j = 10 ∨ j = 11 ∨ j = 12 by omega) with rfl | rfl | rfl | rfl | rfl | rfl | rfl | rfl | rfl | rfl | rfl | rfl | rfl <;> rfl) (Nat.le_of_ble_eq_true rfl) (Nat.le_of_ble_eq_true rfl) dL_law_8 (fun m0 H2 hP2 hD2 hS2 => ?_)
  have hP2 : va_P D vwCl [(m0, .inr (2, [.null, .null, .null, .int 0, .int 0, .int 0, .int 0, .int 0, .int 0, .int 0, .int 0, .null, .null]))] H2 := hP2
  have hD2 : va_D (fun q : Nat => H1.size ≤ q) [(m0, .inr (2, [.null, .null, .null, .int 0, .int 0, .int 0, .int 0, .int 0, .int 0, .int 0, .int 0, .null, .null]))] := hD2
  have hm0 : H1.size ≤ m0 := hD2.2 0 _ rfl
  have hS : va_S (fun q : Nat => s.heap.size ≤ q) s.heap H2 [] := ⟨Nat.le_trans hz1 hS2.1, fun q h1 h2 => (hS2.2.1 q (Nat.lt_of_lt_of_le h1 hz1) (Nat.not_le.mpr (Nat.lt_of_lt_of_le h1 hz1))).trans (hS.2.1 q h1 h2), fun _ h => by cases h⟩
  have hO : drP D cI cF o qf g gx gy 150 60 1000 0 0 100 0 (fun _ _ => 0) (fun _ _ => 0) (fun _ => 0) H2 := drP_kept hO (fun a _ h3 => hS2.2.1 a h3 (Nat.not_le.mpr h3))
  refine W.widen (k := 21) (n := 333) (by omega) (by omega) ?_
  refine lv_dup hx hb dL_law_11 rfl ?_
  have hD3 : va_D (fun q : Nat => s.heap.size ≤ q) [(m0, .inr (2, [.null, .null, .null, .int 0, .int 0, .int 0, .int 0, .int 0, .int 0, .int 0, .int 0, .null, .null]))] := hD2.weaken (fun k q _ h => Nat.le_trans hz1 h)
  have hFm := va_free (wc := [(m0, .inr (2, [.null, .null, .null, .int 0, .int 0, .int 0, .int 0, .int 0, .int 0, .int 0, .int 0, .null, .null]))]) hD3 hS hA [0] rfl
  refine va_callv (va_runI (As := []) (rest := [.ref m0]) ⟨hx, hb, hml, hown, htw⟩ (k_X2_init l D cI cF m0 H2.size) (cwI 0 htw gL_law_X2_init rfl rfl rfl (htw (.initialized RX2) (by decide +kernel)) (htw (.methodLink RL 12 yX2_init) (by decide +kernel)) (htw (.instanceMethod yX2_init) (by decide +kernel)) rfl (by decide +kernel) ⟨(Nat.le_of_ble_eq_true rfl), (Nat.le_of_ble_eq_true rfl)⟩) ⟨fun a U g mk q => ⟨q.1, q.2.1, va_K.moved (u := U) (U := U.calling g mk a) (Vm.Alike.refl U.vm) q.2.2.1, q.2.2.2⟩, fun U hU hW => ⟨rfl, by rw [hU], va_K.moved hW.alike hK, by rw [hU]; exact hP2, hD2.weaken (fun _ _ _ _ => trivial)⟩⟩ rfl rfl hl.1 rfl (lv_room (Nat.le_of_ble_eq_true rfl)) dL_law_12 ⟨(Nat.le_of_ble_eq_true rfl), (Nat.le_of_ble_eq_true rfl)⟩) hS (fun q _ h => hFm q h) hFm (fun w t H3 locs ht hvm hw hB hz3 hk3 hS => ?_)
  obtain ⟨m1, m2, m3, m4, m5⟩ := w
  obtain ⟨hm, hmD⟩ := hB
  rw [ht] at hm
  have hm : va_P D vwCl (moW cI m0 m1 m2 m3 m4 m5 (fun _ => 0) (fun _ => 0) (fun _ => 0) 150 60 1000 0 0 100 0 0 (fun _ => 0) (fun _ => 0)) H3 := hm
  have hmD : va_D (va_A [(m0, .inr (2, [.null, .null, .null, .int 0, .int 0, .int 0, .int 0, .int 0, .int 0, .int 0, .int 0, .null, .null]))] H2.size) (moW cI m0 m1 m2 m3 m4 m5 (fun _ => 0) (fun _ => 0) (fun _ => 0) 150 60 1000 0 0 100 0 0 (fun _ => 0) (fun _ => 0)) := hmD
  have h0 : ∀ x : Nat, va_A [(m0, .inr (2, [.null, .null, .null, .int 0, .int 0, .int 0, .int 0, .int 0, .int 0, .int 0, .int 0, .null, .null]))] H2.size x → H1.size ≤ x := by
    intro x hx
    rcases hx with ⟨k, e, hk⟩ | hk
    · match k, hk with
      | 0, hk => cases hk; exact hm0
      | k + 1, hk => cases hk
    · exact Nat.le_trans hS2.1 hk
  have hmge : ∀ a, mal m0 m1 m2 m3 m4 m5 a → H1.size ≤ a := by
    intro a ha
    unfold mal at ha
    rcases ha with e | e | e | e | e | e <;> rw [e]
    · exact hm0
    · exact h0 _ (hmD.2 1 _ rfl)
    · exact h0 _ (hmD.2 2 _ rfl)
    · exact h0 _ (hmD.2 3 _ rfl)
    · exact h0 _ (hmD.2 4 _ rfl)
    · exact h0 _ (hmD.2 5 _ rfl)
  have hO : drP D cI cF o qf g gx gy 150 60 1000 0 0 100 0 (fun _ _ => 0) (fun _ _ => 0) (fun _ => 0) H3 := drP_kept hO (fun a h h3 => hk3 a h3 (fun hz => Nat.lt_irrefl _ (Nat.lt_of_lt_of_le (hdl a h) (h0 a hz))))
  have F : LF D cI cF s o qf g gx gy m0 m1 m2 m3 m4 m5 := ⟨hK, hnw, hpt, fun a h => ⟨hdA a h, fun hz => Nat.lt_irrefl _ (Nat.lt_of_lt_of_le (hdl a h) (hmge a hz))⟩, fun _ _ _ _ _ _ _ _ _ _ _ _ _ => va_D_same (hmD.weaken (fun _ _ _ h => hFm _ h)) rfl⟩
  have I : LI D cI cF s o qf g gx gy m0 m1 m2 m3 m4 m5 H3 locs := ⟨150, 60, 1000, 0, 0, 100, 0, fun _ _ => 0, fun _ _ => 0, fun _ => 0, fun _ => 0, fun _ => 0, fun _ => 0, 0, fun _ => 0, fun _ => 0, rg_new, rl_new, hO, hm, hS⟩
  refine W.widen (k := 26) (n := 723) (by omega) (by omega) ?_
  refine lv_astore_n (lv' := [(2, .ref m0), (1, .ref o), (0, .ref b)]) hx hb dL_law_15 rfl hl (by decide) rfl (fun ls hl => ?_)
  refine lv_iconst (v := 0) hx hb dL_law_16 (by decide) ?_
  refine lv_istore_n (lv' := [(3, .int 0), (2, .ref m0), (1, .ref o), (0, .ref b)]) hx hb dL_law_17 rfl hl (by decide) rfl (fun ls hl => ?_)
  exact law_loop hL C0 F (L + 1) 0 0 (by omega) (by omega) rfl H3 locs I ls (lv_sub hl [3, 2, 1, 0] rfl)
-- ===== YOUR PART ENDS =====
set_option maxHeartbeats 4000000 in
theorem lw_walk (l : Launch) (b : Addr) (xs : List Int32) : MetFree l x (headSpec (Jvm.Cond.code x code maxLocals ret :: tables_1) room_1) (lw_P b xs) (fun _ _ _ _ _ => True) lw_Q := by
  refine MetFree.of_bodyS (code := code) (maxLocals := maxLocals) (ret := ret) (by decide) ?_ ?_
  · intro args s m h hn
    obtain ⟨meth, c, h1, h2, h3, h4, h5, h6, -, -⟩ := Cond.code_spec hn (atoms_spec (ws := Jvm.Cond.code x code maxLocals ret :: tables_1) h _ List.mem_cons_self)
    exact ⟨meth, c, h1, h2, h3, h4, h5, h6⟩
  · intro p e s m args below meth c s₁ B hml0 hP _
    obtain ⟨rfl, hx, hbd, hgv⟩ := hP
    obtain ⟨scr, harrAt, hlist, hof, hsmall⟩ := hx
    obtain ⟨hcb, hkn, -, -⟩ := State.arrayAt?_spec harrAt
    have hown : s.vm.findClass R_law = some m.cls := findClass_of_methodNamed B.named
    have hts0 : ∀ c ∈ (Jvm.Cond.code x code maxLocals ret :: tables_1), c.before #[Value.ref b] s = true := atoms_spec (ws := Jvm.Cond.code x code maxLocals ret :: tables_1) B.pre
    have hts : ∀ w ∈ lw_tbl, w.before #[Value.ref b] s = true := k2_hts_sels lw_privs (fun w hw => hts0 w (List.mem_cons_of_mem _ hw)) lw_privs_ok
    have hml : c.maxLocals = 4 := B.maxLocals_eq (hts0 _ List.mem_cons_self)
    have X₀ : Stand p l e room_1 s m #[Value.ref b] below meth c s₁ [] 0 0 := Stand.of_body B
    have hh0 : s₁.heap = s.heap := by rw [B.state]; rfl
    have hsz : scr.slots.size = xs.length := by rw [← Array.length_toList, hlist, List.length_map]
    have hval : ∀ j : Nat, j < xs.length → scr.slots[j]? = some (.int (xs.getD j 0)) := fun j hj => by
      rw [← Array.getElem?_toList, hlist]
      simp [hj]
    have hbl : b < s.heap.size := (Array.getElem?_eq_some_iff.mp hcb).1
    have hX : va_X b xs.length (fun j => xs.getD j 0) s s.heap := ⟨scr, hcb, hof, hkn, hsz, hval⟩
    have K : W p l e room_1 s m #[Value.ref b] below meth c s₁.heap [] 0 0 (lw_Z below #[Value.ref b] s) (entryFrame m ([Value.ref b] : List Value).toArray 4) := by
      rw [hh0]
      exact whole_start l hbd ⟨B.exec, B.bytes, B.returns, hml, hown, hts, hX, hbl, B.notSynchronized, hgv⟩
    obtain ⟨t, a1, o, b1, b2, b3⟩ := K s₁ rfl X₀
    exact ⟨t, o, a1, b1, b2, b3⟩
theorem lw_pre_spec {args : Array Value} {s : State} (h : (Jvm.Cond.and given_1 narrow_1).before args s = true) (hr : rest_1_c.before args s = true) : ∃ (b : Addr) (xs : List Int32), lw_P b xs args s := by
  have hs := flat_of_before _ h
  have hq := flat_of_before _ hr
  have hc : (Cond.count 1).before args s = true := hs _ (by decide +kernel)
  have harr : (Cond.arrayOf (.arg 0) .int).before args s = true := hs _ (by decide +kernel)
  have hle : (Cond.le (.length (.arg 0)) (.int 3072)).before args s = true := hs _ (by decide +kernel)
  have hlen : (Cond.isInt (.length (.arg 0))).before args s = true := hq _ (by decide +kernel)
  have hall : (Cond.all (.arg 0) (.isInt (.elem (.arg 0) (.index 0)))).before args s = true := hq _ (by decide +kernel)
  obtain ⟨b, xs, hb, hx⟩ := State.ints_of_pre rfl harr hlen hall
  have hsm : xs.length < 2 ^ 31 := hx.choose_spec.2.2.2
  have hev : (Term.length (.arg 0)).eval args s none [] s = some (.int xs.length.toInt32) := hx.length_eval hb
  have hv := Cond.le_ints hev (show (Term.int 3072).eval args s none [] s = some (.int 3072) from rfl)
  have hd : xs.length.toInt32 ≤ 3072 := by
    simpa [Cond.before, Cond.holds, hv] using hle
  have hN : xs.length ≤ 3072 := (Int32.ofNat_le_ofNat hsm (by decide)).mp (show Int32.ofNat xs.length ≤ Int32.ofNat 3072 from hd)
  exact ⟨b, xs, Cond.one_arg hc (show args[0]? = some (.ref b) from hb), hx, hN, h⟩
theorem lw_comes (l : Launch) : Comes l x (Jvm.Cond.code x code maxLocals ret :: tables_1) room_1 (fun tb e args s => Calls_1 tb e args s ∧ rest_1 tb e args s ∧ Pre_1 tb e args s)
    (fun _ _ args s o t => lw_Q args s o t) := by
  intro p e ha hc hk s m args below hf hfit hheap happ hpre
  obtain ⟨b, xs, hP⟩ := lw_pre_spec hpre.2.2 hpre.2.1
  obtain ⟨k, o, h1, h2, h3, hQ⟩ := lw_walk l b xs p e ha hc hk s m args below hf ((Spec.applies_iff_loose hf).mp happ).1 hP trivial
  exact ⟨k, o, h1, h2, h3, hQ⟩
theorem lw_frame {s t : State} {o : Outcome} {args : Array Value} (h : Framed s o t [] 600000 7302250) :
    Framed s o t (fieldLocs frame_1_writes args s ++ arrayLocs frame_1_arrays args s ++ staticLocs frame_1_statics s) 600000 7302250 := h
theorem lw_limb (L : Cond) (hL : ∀ (args : Array Value) (s t : State), L.after args s (.returned (some (.int 1))) t = true) :
    ArmFor flags0 classFile x code maxLocals ret World_1 tables_1 room_1 Calls_1 rest_1 Pre_1
      (fun tb e a s o t => postC L tb e a s o t ∧ Framed s o t (fieldLocs frame_1_writes a s ++ arrayLocs frame_1_arrays a s ++ staticLocs frame_1_statics s) 600000 7302250) := by
  intro l _ _ _ p e ha hc hk s m args below hf hfit hheap happ hpre
  obtain ⟨k, o, h1, h2, h3, rfl, hF⟩ := lw_comes l p e ha hc hk s m args below hf hfit hheap happ hpre
  exact ⟨k, _, h1, h2, h3, hL args s _, lw_frame hF⟩
theorem i_vc : Claimed_1_1 ∧ Claimed_1_2 := ⟨lw_limb limb_1_1 (fun args s t => by simp [limb_1_1, Cond.after, Cond.holds, Cond.value]), lw_limb limb_1_2 (fun args s t => Cond.after_iff.mpr (by
  first | (rw [show limb_1_2 = Cond.eq .result (.int 1) from rfl, Cond.eq_ints (x := 1) (y := 1) rfl rfl]; simp; done) | (simp [limb_1_2, Cond.value, Term.eval]; done)))⟩
