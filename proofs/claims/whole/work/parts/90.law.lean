/-! THE CLAIM OUT OF ONE WALK OF THE LAW'S BODY. Your part is whole_start (and what it stands on); all else here is the same for every law, but numbers. -/
def R_law : String := "DrawnAreasLaw"
def lw_P (b : Addr) (xs : List Int32) (args : Array Value) (s : State) : Prop := args = #[.ref b] ∧ s.IntsAt b xs ∧ xs.length ≤ 3072 ∧ (Jvm.Cond.and given_1 narrow_1).before args s = true
def lw_Q (_ : Array Value) (s : State) (o : Outcome) (t : State) : Prop := o = .returned (some (.int 1)) ∧ Framed s o t [] 600000 7302250
def lw_Z (below : List Frame) (a : Array Value) (s : State) : State → Prop := fun t => ∃ o, t.status = .running ∧ Ended t below o ∧ lw_Q a s o t
/-- the law's own end, with 1 on the stack, nothing written that was there before, its room as the claim has it -/
theorem lw_ret {p : Program} {l : Launch} {e : Env} {s : State} {m : MethodId} {below : List Frame} {meth : Method} {c : Code} {b : Nat} (hx : p.tables.exec = Jvm.exec) (hb : c.code = code) (hr : meth.sig.returnType = ret) (hlocks : meth.locks = false) {pc : Nat} {H : Heap} {ls : Array Slot} (hdg : decode code pc = .ok (.ireturn, 1)) : W p l e room_1 s m #[Value.ref b] below meth c H [] 600000 7302250 (lw_Z below #[Value.ref b] s) (F0 m pc ls [.int 1]) := by
  intro T hT X
  obtain ⟨fs, hret, hrun, hended, hW, hframe⟩ := X.leave (v := some (.int 1)) (hlocks := hlocks) (fun h => by rw [hr] at h; cases h)
  have hmeth' : T.vm.method? m = some meth := X.method'
  refine ⟨T.setFrames fs, ?_, .returned (some (.int 1)), hrun, hended, rfl, ⟨_, rfl⟩, hW, hframe⟩
  jvm_step X.here [X.here.top, hx, hb, hdg, hmeth', hr, ret, narrow_b1]
  (try refine ⟨rfl, ?_⟩); (try refine ⟨rfl, ?_⟩)
  first | (intro acts; rw [hret _ acts rfl rfl rfl]) | rw [hret _ _ rfl rfl rfl]
  exact Steps.refl _
/-- what holds at the law's entry: the machine, the code, the tables' words (any of lw_tbl by 'hts w (by decide +kernel)'), the script of L ints xs at the cell b, what the Statement gives of the start (any of its parts by flat_of_before) -/
def lw_At (p : Program) (s : State) (m : MethodId) (meth : Method) (c : Code) (b L : Nat) (xs : Nat → Int32) : Prop :=
  p.tables.exec = Jvm.exec ∧ c.code = code ∧ meth.sig.returnType = ret ∧ c.maxLocals = 4 ∧ s.vm.findClass R_law = some m.cls ∧ (∀ w ∈ lw_tbl, w.before #[Value.ref b] s = true) ∧ va_X b L xs s s.heap ∧ b < s.heap.size ∧ meth.locks = false ∧ (Jvm.Cond.and given_1 narrow_1).before #[Value.ref b] s = true
/-! the law's loop: what holds between calls -/
def mal (m0 m1 m2 m3 m4 m5 : Nat) (a : Nat) : Prop := a = m0 ∨ a = m1 ∨ a = m2 ∨ a = m3 ∨ a = m4 ∨ a = m5
/-- what is fixed: where things lie -/
def LF (D : va_G) (cI cF : ClassId) (s : State) (o qf : Nat) (g gx gy : Nat → Nat) (m0 m1 m2 m3 m4 m5 : Nat) : Prop :=
  va_K D vwCl (tyl cI cF) s ∧ va_Nw nst s ∧ dpt o qf g gx gy ∧ (∀ a, dall o qf g gx gy a → s.heap.size ≤ a ∧ ¬ mal m0 m1 m2 m3 m4 m5 a) ∧ ∀ (pt px py : Nat → Int32) (ro an te fx fy ar be ma : Int32) (nx ny : Nat → Int32), va_D (fun q : Nat => s.heap.size ≤ q) (moW cI m0 m1 m2 m3 m4 m5 pt px py ro an te fx fy ar be ma nx ny)
/-- what the heap holds: both, and they agree -/
def LI (D : va_G) (cI cF : ClassId) (s : State) (o qf : Nat) (g gx gy : Nat → Nat) (m0 m1 m2 m3 m4 m5 : Nat) (H : Heap) (locs : List Loc) : Prop :=
  ∃ (ro rn tn fx fy ar wh : Int32) (X Y : Nat → Nat → Int32) (N pt px py : Nat → Int32) (ma : Int32) (u v : Nat → Int32), Rg ro rn tn fx fy ar wh ∧ Rl X Y N pt px py ∧ drP D cI cF o qf g gx gy ro rn tn fx fy ar wh X Y N H ∧ va_P D vwCl (moW cI m0 m1 m2 m3 m4 m5 pt px py ro rn tn fx fy ar wh ma u v) H ∧ va_S (fun q : Nat => s.heap.size ≤ q) s.heap H locs
theorem mo_in {cI : ClassId} {m0 m1 m2 m3 m4 m5 : Nat} {pt px py : Nat → Int32} {ro an te fx fy ar be ma : Int32} {nx ny : Nat → Int32} {a : Nat} (h : va_A0 (moW cI m0 m1 m2 m3 m4 m5 pt px py ro an te fx fy ar be ma nx ny) a) : mal m0 m1 m2 m3 m4 m5 a := by
  obtain ⟨k, x, h⟩ := h
  unfold mal
  match k, h with
  | 0, h => cases h; simp
  | 1, h => cases h; simp
  | 2, h => cases h; simp
  | 3, h => cases h; simp
  | 4, h => cases h; simp
  | 5, h => cases h; simp
  | k + 6, h => cases h
theorem drP_kept {D : va_G} {cI cF : ClassId} {o qf : Nat} {g gx gy : Nat → Nat} {ro rn tn fx fy ar wh : Int32} {X Y : Nat → Nat → Int32} {N : Nat → Int32} {H H1 : Heap} (hO : drP D cI cF o qf g gx gy ro rn tn fx fy ar wh X Y N H) (hk : ∀ a, dall o qf g gx gy a → a < H.size → H1[a]? = H[a]?) : drP D cI cF o qf g gx gy ro rn tn fx fy ar wh X Y N H1 := by
  refine ⟨hO.1.kept (fun k q h => hk q.1 ?_ (hO.1 k q h).lt), fun j hj => (hO.2 j hj).kept (fun k q h => hk q.1 ?_ (hO.2 j hj k q h).lt)⟩
  · match k, h with
    | 0, h => cases h; exact ⟨0, by decide, dad_0.symm⟩
    | 1, h => cases h; exact ⟨1, by decide, dad_1.symm⟩
    | k + 2, h => cases h
  · match k, h with
    | 0, h => cases h; exact ⟨2 + 3 * j, by omega, (dad_g j).symm⟩
    | 1, h => cases h; exact ⟨3 + 3 * j, by omega, (dad_x j).symm⟩
    | 2, h => cases h; exact ⟨4 + 3 * j, by omega, (dad_y j).symm⟩
    | k + 3, h => cases h
/-- the model's cells lie apart from the object's -/
theorem mo_kept {D : va_G} {cI : ClassId} {o qf : Nat} {g gx gy : Nat → Nat} {m0 m1 m2 m3 m4 m5 : Nat} {pt px py : Nat → Int32} {ro an te fx fy ar be ma : Int32} {nx ny : Nat → Int32} {H H1 : Heap} (hno : ∀ a, dall o qf g gx gy a → ¬ mal m0 m1 m2 m3 m4 m5 a) (hm : va_P D vwCl (moW cI m0 m1 m2 m3 m4 m5 pt px py ro an te fx fy ar be ma nx ny) H) (hk : ∀ q : Nat, q < H.size → ¬ dall o qf g gx gy q → H1[q]? = H[q]?) : va_P D vwCl (moW cI m0 m1 m2 m3 m4 m5 pt px py ro an te fx fy ar be ma nx ny) H1 :=
  hm.kept (fun k q h => hk q.1 (hm k q h).lt (fun hd => hno _ hd (mo_in ⟨k, q.2, h⟩)))
set_option maxHeartbeats 8000000 in
set_option maxRecDepth 100000 in
theorem law_point {p : Program} {l : Launch} {e : Env} {s : State} {m : MethodId} {below : List Frame} {meth : Method} {c : Code} {D : va_G} {cI cF : ClassId} {b L : Nat} {xs : Nat → Int32} {o qf : Nat} {g gx gy : Nat → Nat} {m0 m1 m2 m3 m4 m5 : Nat} (C0 : lw_At p s m meth c b L xs) (F : LF D cI cF s o qf g gx gy m0 m1 m2 m3 m4 m5) (x3 : Int32) (e1 : Int32) (he1 : e1 = xs (x3 + 1).toNatClampNeg) (hi1 : vp_in (x3 + 1) L) (e2 : Int32) (he2 : e2 = xs (x3 + 2).toNatClampNeg) (hi2 : vp_in (x3 + 2) L) (e3 : Int32) (he3 : e3 = xs (x3 + 3).toNatClampNeg) (hi3 : vp_in (x3 + 3) L) (H : Heap) (locs : List Loc) (I : LI D cI cF s o qf g gx gy m0 m1 m2 m3 m4 m5 H locs) (cont : ∀ (H : Heap) (locs : List Loc) (ls : Array Slot), LI D cI cF s o qf g gx gy m0 m1 m2 m3 m4 m5 H locs → lv_has ls 4 [(0, .ref b), (1, .ref o), (2, .ref m0), (3, .int x3)] → W p l e room_1 s m #[Value.ref b] below meth c H locs 26 723 (lw_Z below #[Value.ref b] s) (F0 m 1090 ls [])) (ls : Array Slot) (hl : lv_has ls 4 [(0, .ref b), (1, .ref o), (2, .ref m0), (3, .int x3)]) : W p l e room_1 s m #[Value.ref b] below meth c H locs 26 723 (lw_Z below #[Value.ref b] s) (F0 m 144 ls []) := by
  obtain ⟨hx, hb, hr, hml, hown, hts, hX, hbl, hlocks, hgv⟩ := C0
  obtain ⟨hK, hnw, hpt, hdl, hmD⟩ := F
  obtain ⟨ro, rn, tn, fx, fy, ar, wh, X, Y, N, pt, px, py, ma, u, v, hG, hR, hO, hm, hS⟩ := I
  have hb : c.code = cL_law := hb
  have hown : s.vm.findClass RL = some m.cls := hown
  have htw : ∀ w ∈ wsL_law, w.before #[Value.ref b] s = true := fun w h => hts w (wsL_law_in w h)
  have hbA : ¬ (fun q : Nat => s.heap.size ≤ q) b := Nat.not_le.mpr hbl
  refine lv_aload_n hx hb dL_law_144 rfl (lv_at hl 1 rfl) ?_
  refine lv_aload_n hx hb dL_law_145 rfl (lv_at hl 0 rfl) ?_
  refine lv_iload_n hx hb dL_law_146 rfl (lv_at hl 3 rfl) ?_
  refine lv_iconst (v := 1) hx hb dL_law_147 (by decide) ?_
  refine lv_iadd hx hb dL_law_148 ?_
  refine va_sld hx hb hX hbl hbA hS hi1 dL_law_149 ?_
  rw [← he1]
  refine lv_aload_n hx hb dL_law_150 rfl (lv_at hl 0 rfl) ?_
  refine lv_iload_n hx hb dL_law_151 rfl (lv_at hl 3 rfl) ?_
  refine lv_iconst (v := 2) hx hb dL_law_152 (by decide) ?_
  refine lv_iadd hx hb dL_law_153 ?_
  refine va_sld hx hb hX hbl hbA hS hi2 dL_law_154 ?_
  rw [← he2]
  refine lv_aload_n hx hb dL_law_155 rfl (lv_at hl 0 rfl) ?_
  refine lv_iload_n hx hb dL_law_156 rfl (lv_at hl 3 rfl) ?_
  refine lv_iconst (v := 3) hx hb dL_law_157 (by decide) ?_
  refine lv_iadd hx hb dL_law_158 ?_
  refine va_sld hx hb hX hbl hbA hS hi3 dL_law_159 ?_
  rw [← he3]
  obtain ⟨r1, X1, Y1, N1, pt1, px1, py1, h1, h2, hR1⟩ := op_point hR e1 e2 e3
  refine cp_w (va_runV (As := [.int e1, .int e2, .int e3]) (rest := []) ⟨hx, hb, hml, hown, htw⟩ (k_X1_point l D cI cF o qf g gx gy ro rn tn fx fy ar wh X Y N e1 e2 e3 _ h1) (cwV 3 htw gL_law_X1_point rfl rfl rfl (by decide +kernel) ⟨(Nat.le_of_ble_eq_true rfl), (Nat.le_of_ble_eq_true rfl)⟩) (pre_p hK hnw hO hpt) rfl rfl hl.1 rfl (lv_room (Nat.le_of_ble_eq_true rfl)) dL_law_160 ⟨(Nat.le_of_ble_eq_true rfl), (Nat.le_of_ble_eq_true rfl)⟩) hS (fun a9 h9 => (hdl a9 h9).1) (fun H1 locs1 hO1 hz1 hk1 hS => ?_)
  have hO1 : drP D cI cF o qf g gx gy ro rn tn fx fy ar wh X1 Y1 N1 H1 := hO1
  have hm1 := mo_kept (fun a h => (hdl a h).2) hm hk1
  refine lv_aload_n hx hb dL_law_163 rfl (lv_at hl 2 rfl) ?_
  refine lv_aload_n hx hb dL_law_164 rfl (lv_at hl 0 rfl) ?_
  refine lv_iload_n hx hb dL_law_165 rfl (lv_at hl 3 rfl) ?_
  refine lv_iconst (v := 1) hx hb dL_law_166 (by decide) ?_
  refine lv_iadd hx hb dL_law_167 ?_
  refine va_sld hx hb hX hbl hbA hS hi1 dL_law_168 ?_
  rw [← he1]
  refine lv_aload_n hx hb dL_law_169 rfl (lv_at hl 0 rfl) ?_
  refine lv_iload_n hx hb dL_law_170 rfl (lv_at hl 3 rfl) ?_
  refine lv_iconst (v := 2) hx hb dL_law_171 (by decide) ?_
  refine lv_iadd hx hb dL_law_172 ?_
  refine va_sld hx hb hX hbl hbA hS hi2 dL_law_173 ?_
  rw [← he2]
  refine lv_aload_n hx hb dL_law_174 rfl (lv_at hl 0 rfl) ?_
  refine lv_iload_n hx hb dL_law_175 rfl (lv_at hl 3 rfl) ?_
  refine lv_iconst (v := 3) hx hb dL_law_176 (by decide) ?_
  refine lv_iadd hx hb dL_law_177 ?_
  refine va_sld hx hb hX hbl hbA hS hi3 dL_law_178 ?_
  rw [← he3]
  refine cp_w (va_runV (As := [.int e1, .int e2, .int e3]) (rest := [.int r1]) ⟨hx, hb, hml, hown, htw⟩ (k_X2_point l D cI cF m0 m1 m2 m3 m4 m5 pt px py ro rn tn fx fy ar wh ma u v e1 e2 e3 _ h2) (cwV 3 htw gL_law_X2_point rfl rfl rfl (by decide +kernel) ⟨(Nat.le_of_ble_eq_true rfl), (Nat.le_of_ble_eq_true rfl)⟩) (pre_d (q0 := 0) (ci := 2) hK hm1 (hmD _ _ _ _ _ _ _ _ _ _ _ _ _) rfl rfl) rfl rfl hl.1 rfl (lv_room (Nat.le_of_ble_eq_true rfl)) dL_law_179 ⟨(Nat.le_of_ble_eq_true rfl), (Nat.le_of_ble_eq_true rfl)⟩) hS (fun a9 h9 => va_in (hmD pt px py ro rn tn fx fy ar wh ma u v) h9 [0, 1, 2, 3, 4, 5] rfl) (fun H2 locs2 hm2 hz2 hk2 hS => ?_)
  have hm2 : va_P D vwCl (moW cI m0 m1 m2 m3 m4 m5 pt1 px1 py1 ro rn tn fx fy ar wh ma u v) H2 := hm2
  have hO2 := drP_kept hO1 (fun a h h3 => hk2 a h3 (fun z => (hdl a h).2 (mo_in z)))
  refine lv_icmp_eq (tgt := 1090) hx hb dL_law_182 (by decide) (fun _ => ?_) (fun c9 => absurd rfl c9)
  exact cont _ _ ls ⟨ro, rn, tn, fx, fy, ar, wh, X1, Y1, N1, pt1, px1, py1, ma, u, v, hG, hR1, hO2, hm2, hS⟩ hl
set_option maxHeartbeats 8000000 in
set_option maxRecDepth 100000 in
theorem law_move {p : Program} {l : Launch} {e : Env} {s : State} {m : MethodId} {below : List Frame} {meth : Method} {c : Code} {D : va_G} {cI cF : ClassId} {b L : Nat} {xs : Nat → Int32} {o qf : Nat} {g gx gy : Nat → Nat} {m0 m1 m2 m3 m4 m5 : Nat} (C0 : lw_At p s m meth c b L xs) (F : LF D cI cF s o qf g gx gy m0 m1 m2 m3 m4 m5) (x3 : Int32) (e1 : Int32) (he1 : e1 = xs (x3 + 1).toNatClampNeg) (hi1 : vp_in (x3 + 1) L) (e2 : Int32) (he2 : e2 = xs (x3 + 2).toNatClampNeg) (hi2 : vp_in (x3 + 2) L) (e3 : Int32) (he3 : e3 = xs (x3 + 3).toNatClampNeg) (hi3 : vp_in (x3 + 3) L) (e4 : Int32) (he4 : e4 = xs (x3 + 4).toNatClampNeg) (hi4 : vp_in (x3 + 4) L) (H : Heap) (locs : List Loc) (I : LI D cI cF s o qf g gx gy m0 m1 m2 m3 m4 m5 H locs) (cont : ∀ (H : Heap) (locs : List Loc) (ls : Array Slot), LI D cI cF s o qf g gx gy m0 m1 m2 m3 m4 m5 H locs → lv_has ls 4 [(0, .ref b), (1, .ref o), (2, .ref m0), (3, .int x3)] → W p l e room_1 s m #[Value.ref b] below meth c H locs 26 723 (lw_Z below #[Value.ref b] s) (F0 m 1090 ls [])) (ls : Array Slot) (hl : lv_has ls 4 [(0, .ref b), (1, .ref o), (2, .ref m0), (3, .int x3)]) : W p l e room_1 s m #[Value.ref b] below meth c H locs 26 723 (lw_Z below #[Value.ref b] s) (F0 m 187 ls []) := by
  obtain ⟨hx, hb, hr, hml, hown, hts, hX, hbl, hlocks, hgv⟩ := C0
  obtain ⟨hK, hnw, hpt, hdl, hmD⟩ := F
  obtain ⟨ro, rn, tn, fx, fy, ar, wh, X, Y, N, pt, px, py, ma, u, v, hG, hR, hO, hm, hS⟩ := I
  have hb : c.code = cL_law := hb
  have hown : s.vm.findClass RL = some m.cls := hown
  have htw : ∀ w ∈ wsL_law, w.before #[Value.ref b] s = true := fun w h => hts w (wsL_law_in w h)
  have hbA : ¬ (fun q : Nat => s.heap.size ≤ q) b := Nat.not_le.mpr hbl
  refine lv_aload_n hx hb dL_law_187 rfl (lv_at hl 1 rfl) ?_
  refine lv_aload_n hx hb dL_law_188 rfl (lv_at hl 0 rfl) ?_
  refine lv_iload_n hx hb dL_law_189 rfl (lv_at hl 3 rfl) ?_
  refine lv_iconst (v := 1) hx hb dL_law_190 (by decide) ?_
  refine lv_iadd hx hb dL_law_191 ?_
  refine va_sld hx hb hX hbl hbA hS hi1 dL_law_192 ?_
  rw [← he1]
  refine lv_aload_n hx hb dL_law_193 rfl (lv_at hl 0 rfl) ?_
  refine lv_iload_n hx hb dL_law_194 rfl (lv_at hl 3 rfl) ?_
  refine lv_iconst (v := 2) hx hb dL_law_195 (by decide) ?_
  refine lv_iadd hx hb dL_law_196 ?_
  refine va_sld hx hb hX hbl hbA hS hi2 dL_law_197 ?_
  rw [← he2]
  refine lv_aload_n hx hb dL_law_198 rfl (lv_at hl 0 rfl) ?_
  refine lv_iload_n hx hb dL_law_199 rfl (lv_at hl 3 rfl) ?_
  refine lv_iconst (v := 3) hx hb dL_law_200 (by decide) ?_
  refine lv_iadd hx hb dL_law_201 ?_
  refine va_sld hx hb hX hbl hbA hS hi3 dL_law_202 ?_
  rw [← he3]
  refine lv_aload_n hx hb dL_law_203 rfl (lv_at hl 0 rfl) ?_
  refine lv_iload_n hx hb dL_law_204 rfl (lv_at hl 3 rfl) ?_
  refine lv_iconst (v := 4) hx hb dL_law_205 (by decide) ?_
  refine lv_iadd hx hb dL_law_206 ?_
  refine va_sld hx hb hX hbl hbA hS hi4 dL_law_207 ?_
  rw [← he4]
  obtain ⟨r1, X1, Y1, N1, px1, py1, h1, h2, hR1⟩ := op_move hR e1 e2 e3 e4
  refine cp_w (va_runV (As := [.int e1, .int e2, .int e3, .int e4]) (rest := []) ⟨hx, hb, hml, hown, htw⟩ (k_X1_move l D cI cF o qf g gx gy ro rn tn fx fy ar wh X Y N e1 e2 e3 e4 _ h1) (cwV 4 htw gL_law_X1_move rfl rfl rfl (by decide +kernel) ⟨(Nat.le_of_ble_eq_true rfl), (Nat.le_of_ble_eq_true rfl)⟩) (pre_p hK hnw hO hpt) rfl rfl hl.1 rfl (lv_room (Nat.le_of_ble_eq_true rfl)) dL_law_208 ⟨(Nat.le_of_ble_eq_true rfl), (Nat.le_of_ble_eq_true rfl)⟩) hS (fun a9 h9 => (hdl a9 h9).1) (fun H1 locs1 hO1 hz1 hk1 hS => ?_)
  have hO1 : drP D cI cF o qf g gx gy ro rn tn fx fy ar wh X1 Y1 N1 H1 := hO1
  have hm1 := mo_kept (fun a h => (hdl a h).2) hm hk1
  refine lv_aload_n hx hb dL_law_211 rfl (lv_at hl 2 rfl) ?_
  refine lv_aload_n hx hb dL_law_212 rfl (lv_at hl 0 rfl) ?_
  refine lv_iload_n hx hb dL_law_213 rfl (lv_at hl 3 rfl) ?_
  refine lv_iconst (v := 1) hx hb dL_law_214 (by decide) ?_
  refine lv_iadd hx hb dL_law_215 ?_
  refine va_sld hx hb hX hbl hbA hS hi1 dL_law_216 ?_
  rw [← he1]
  refine lv_aload_n hx hb dL_law_217 rfl (lv_at hl 0 rfl) ?_
  refine lv_iload_n hx hb dL_law_218 rfl (lv_at hl 3 rfl) ?_
  refine lv_iconst (v := 2) hx hb dL_law_219 (by decide) ?_
  refine lv_iadd hx hb dL_law_220 ?_
  refine va_sld hx hb hX hbl hbA hS hi2 dL_law_221 ?_
  rw [← he2]
  refine lv_aload_n hx hb dL_law_222 rfl (lv_at hl 0 rfl) ?_
  refine lv_iload_n hx hb dL_law_223 rfl (lv_at hl 3 rfl) ?_
  refine lv_iconst (v := 3) hx hb dL_law_224 (by decide) ?_
  refine lv_iadd hx hb dL_law_225 ?_
  refine va_sld hx hb hX hbl hbA hS hi3 dL_law_226 ?_
  rw [← he3]
  refine lv_aload_n hx hb dL_law_227 rfl (lv_at hl 0 rfl) ?_
  refine lv_iload_n hx hb dL_law_228 rfl (lv_at hl 3 rfl) ?_
  refine lv_iconst (v := 4) hx hb dL_law_229 (by decide) ?_
  refine lv_iadd hx hb dL_law_230 ?_
  refine va_sld hx hb hX hbl hbA hS hi4 dL_law_231 ?_
  rw [← he4]
  refine cp_w (va_runV (As := [.int e1, .int e2, .int e3, .int e4]) (rest := [.int r1]) ⟨hx, hb, hml, hown, htw⟩ (k_X2_move l D cI cF m0 m1 m2 m3 m4 m5 pt px py ro rn tn fx fy ar wh ma u v e1 e2 e3 e4 _ h2) (cwV 4 htw gL_law_X2_move rfl rfl rfl (by decide +kernel) ⟨(Nat.le_of_ble_eq_true rfl), (Nat.le_of_ble_eq_true rfl)⟩) (pre_d (q0 := 0) (ci := 2) hK hm1 (hmD _ _ _ _ _ _ _ _ _ _ _ _ _) rfl rfl) rfl rfl hl.1 rfl (lv_room (Nat.le_of_ble_eq_true rfl)) dL_law_232 ⟨(Nat.le_of_ble_eq_true rfl), (Nat.le_of_ble_eq_true rfl)⟩) hS (fun a9 h9 => va_in (hmD pt px py ro rn tn fx fy ar wh ma u v) h9 [0, 1, 2, 3, 4, 5] rfl) (fun H2 locs2 hm2 hz2 hk2 hS => ?_)
  have hm2 : va_P D vwCl (moW cI m0 m1 m2 m3 m4 m5 pt px1 py1 ro rn tn fx fy ar wh ma u v) H2 := hm2
  have hO2 := drP_kept hO1 (fun a h h3 => hk2 a h3 (fun z => (hdl a h).2 (mo_in z)))
  refine lv_icmp_eq (tgt := 1090) hx hb dL_law_235 (by decide) (fun _ => ?_) (fun c9 => absurd rfl c9)
  exact cont _ _ ls ⟨ro, rn, tn, fx, fy, ar, wh, X1, Y1, N1, pt, px1, py1, ma, u, v, hG, hR1, hO2, hm2, hS⟩ hl
set_option maxHeartbeats 8000000 in
set_option maxRecDepth 100000 in
theorem law_clear {p : Program} {l : Launch} {e : Env} {s : State} {m : MethodId} {below : List Frame} {meth : Method} {c : Code} {D : va_G} {cI cF : ClassId} {b L : Nat} {xs : Nat → Int32} {o qf : Nat} {g gx gy : Nat → Nat} {m0 m1 m2 m3 m4 m5 : Nat} (C0 : lw_At p s m meth c b L xs) (F : LF D cI cF s o qf g gx gy m0 m1 m2 m3 m4 m5) (x3 : Int32) (e1 : Int32) (he1 : e1 = xs (x3 + 1).toNatClampNeg) (hi1 : vp_in (x3 + 1) L) (H : Heap) (locs : List Loc) (I : LI D cI cF s o qf g gx gy m0 m1 m2 m3 m4 m5 H locs) (cont : ∀ (H : Heap) (locs : List Loc) (ls : Array Slot), LI D cI cF s o qf g gx gy m0 m1 m2 m3 m4 m5 H locs → lv_has ls 4 [(0, .ref b), (1, .ref o), (2, .ref m0), (3, .int x3)] → W p l e room_1 s m #[Value.ref b] below meth c H locs 26 723 (lw_Z below #[Value.ref b] s) (F0 m 1090 ls [])) (ls : Array Slot) (hl : lv_has ls 4 [(0, .ref b), (1, .ref o), (2, .ref m0), (3, .int x3)]) : W p l e room_1 s m #[Value.ref b] below meth c H locs 26 723 (lw_Z below #[Value.ref b] s) (F0 m 240 ls []) := by
  obtain ⟨hx, hb, hr, hml, hown, hts, hX, hbl, hlocks, hgv⟩ := C0
  obtain ⟨hK, hnw, hpt, hdl, hmD⟩ := F
  obtain ⟨ro, rn, tn, fx, fy, ar, wh, X, Y, N, pt, px, py, ma, u, v, hG, hR, hO, hm, hS⟩ := I
  have hb : c.code = cL_law := hb
  have hown : s.vm.findClass RL = some m.cls := hown
  have htw : ∀ w ∈ wsL_law, w.before #[Value.ref b] s = true := fun w h => hts w (wsL_law_in w h)
  have hbA : ¬ (fun q : Nat => s.heap.size ≤ q) b := Nat.not_le.mpr hbl
  refine lv_aload_n hx hb dL_law_240 rfl (lv_at hl 1 rfl) ?_
  refine lv_aload_n hx hb dL_law_241 rfl (lv_at hl 0 rfl) ?_
  refine lv_iload_n hx hb dL_law_242 rfl (lv_at hl 3 rfl) ?_
  refine lv_iconst (v := 1) hx hb dL_law_243 (by decide) ?_
  refine lv_iadd hx hb dL_law_244 ?_
  refine va_sld hx hb hX hbl hbA hS hi1 dL_law_245 ?_
  rw [← he1]
  obtain ⟨r1, X1, Y1, N1, pt1, h1, h2, hR1⟩ := op_clear hR e1
  refine cp_w (va_runV (As := [.int e1]) (rest := []) ⟨hx, hb, hml, hown, htw⟩ (k_X1_clear l D cI cF o qf g gx gy ro rn tn fx fy ar wh X Y N e1 _ h1) (cwV 1 htw gL_law_X1_clear rfl rfl rfl (by decide +kernel) ⟨(Nat.le_of_ble_eq_true rfl), (Nat.le_of_ble_eq_true rfl)⟩) (pre_p hK hnw hO hpt) rfl rfl hl.1 rfl (lv_room (Nat.le_of_ble_eq_true rfl)) dL_law_246 ⟨(Nat.le_of_ble_eq_true rfl), (Nat.le_of_ble_eq_true rfl)⟩) hS (fun a9 h9 => (hdl a9 h9).1) (fun H1 locs1 hO1 hz1 hk1 hS => ?_)
  have hO1 : drP D cI cF o qf g gx gy ro rn tn fx fy ar wh X1 Y1 N1 H1 := hO1
  have hm1 := mo_kept (fun a h => (hdl a h).2) hm hk1
  refine lv_aload_n hx hb dL_law_249 rfl (lv_at hl 2 rfl) ?_
  refine lv_aload_n hx hb dL_law_250 rfl (lv_at hl 0 rfl) ?_
  refine lv_iload_n hx hb dL_law_251 rfl (lv_at hl 3 rfl) ?_
  refine lv_iconst (v := 1) hx hb dL_law_252 (by decide) ?_
  refine lv_iadd hx hb dL_law_253 ?_
  refine va_sld hx hb hX hbl hbA hS hi1 dL_law_254 ?_
  rw [← he1]
  refine cp_w (va_runV (As := [.int e1]) (rest := [.int r1]) ⟨hx, hb, hml, hown, htw⟩ (k_X2_clear l D cI cF m0 m1 m2 m3 m4 m5 pt px py ro rn tn fx fy ar wh ma u v e1 _ h2) (cwV 1 htw gL_law_X2_clear rfl rfl rfl (by decide +kernel) ⟨(Nat.le_of_ble_eq_true rfl), (Nat.le_of_ble_eq_true rfl)⟩) (pre_d (q0 := 0) (ci := 2) hK hm1 (hmD _ _ _ _ _ _ _ _ _ _ _ _ _) rfl rfl) rfl rfl hl.1 rfl (lv_room (Nat.le_of_ble_eq_true rfl)) dL_law_255 ⟨(Nat.le_of_ble_eq_true rfl), (Nat.le_of_ble_eq_true rfl)⟩) hS (fun a9 h9 => va_in (hmD pt px py ro rn tn fx fy ar wh ma u v) h9 [0, 1, 2, 3, 4, 5] rfl) (fun H2 locs2 hm2 hz2 hk2 hS => ?_)
  have hm2 : va_P D vwCl (moW cI m0 m1 m2 m3 m4 m5 pt1 px py ro rn tn fx fy ar wh ma u v) H2 := hm2
  have hO2 := drP_kept hO1 (fun a h h3 => hk2 a h3 (fun z => (hdl a h).2 (mo_in z)))
  refine lv_icmp_eq (tgt := 1090) hx hb dL_law_258 (by decide) (fun _ => ?_) (fun c9 => absurd rfl c9)
  exact cont _ _ ls ⟨ro, rn, tn, fx, fy, ar, wh, X1, Y1, N1, pt1, px, py, ma, u, v, hG, hR1, hO2, hm2, hS⟩ hl
set_option maxHeartbeats 8000000 in
set_option maxRecDepth 100000 in
theorem law_at {p : Program} {l : Launch} {e : Env} {s : State} {m : MethodId} {below : List Frame} {meth : Method} {c : Code} {D : va_G} {cI cF : ClassId} {b L : Nat} {xs : Nat → Int32} {o qf : Nat} {g gx gy : Nat → Nat} {m0 m1 m2 m3 m4 m5 : Nat} (C0 : lw_At p s m meth c b L xs) (F : LF D cI cF s o qf g gx gy m0 m1 m2 m3 m4 m5) (x3 : Int32) (e1 : Int32) (he1 : e1 = xs (x3 + 1).toNatClampNeg) (hi1 : vp_in (x3 + 1) L) (e2 : Int32) (he2 : e2 = xs (x3 + 2).toNatClampNeg) (hi2 : vp_in (x3 + 2) L) (e3 : Int32) (he3 : e3 = xs (x3 + 3).toNatClampNeg) (hi3 : vp_in (x3 + 3) L) (H : Heap) (locs : List Loc) (I : LI D cI cF s o qf g gx gy m0 m1 m2 m3 m4 m5 H locs) (cont : ∀ (H : Heap) (locs : List Loc) (ls : Array Slot), LI D cI cF s o qf g gx gy m0 m1 m2 m3 m4 m5 H locs → lv_has ls 4 [(0, .ref b), (1, .ref o), (2, .ref m0), (3, .int x3)] → W p l e room_1 s m #[Value.ref b] below meth c H locs 26 723 (lw_Z below #[Value.ref b] s) (F0 m 1090 ls [])) (ls : Array Slot) (hl : lv_has ls 4 [(0, .ref b), (1, .ref o), (2, .ref m0), (3, .int x3)]) : W p l e room_1 s m #[Value.ref b] below meth c H locs 26 723 (lw_Z below #[Value.ref b] s) (F0 m 263 ls []) := by
  obtain ⟨hx, hb, hr, hml, hown, hts, hX, hbl, hlocks, hgv⟩ := C0
  obtain ⟨hK, hnw, hpt, hdl, hmD⟩ := F
  obtain ⟨ro, rn, tn, fx, fy, ar, wh, X, Y, N, pt, px, py, ma, u, v, hG, hR, hO, hm, hS⟩ := I
  have hb : c.code = cL_law := hb
  have hown : s.vm.findClass RL = some m.cls := hown
  have htw : ∀ w ∈ wsL_law, w.before #[Value.ref b] s = true := fun w h => hts w (wsL_law_in w h)
  have hbA : ¬ (fun q : Nat => s.heap.size ≤ q) b := Nat.not_le.mpr hbl
  refine lv_aload_n hx hb dL_law_263 rfl (lv_at hl 1 rfl) ?_
  refine lv_aload_n hx hb dL_law_264 rfl (lv_at hl 0 rfl) ?_
  refine lv_iload_n hx hb dL_law_265 rfl (lv_at hl 3 rfl) ?_
  refine lv_iconst (v := 1) hx hb dL_law_266 (by decide) ?_
  refine lv_iadd hx hb dL_law_267 ?_
  refine va_sld hx hb hX hbl hbA hS hi1 dL_law_268 ?_
  rw [← he1]
  refine lv_aload_n hx hb dL_law_269 rfl (lv_at hl 0 rfl) ?_
  refine lv_iload_n hx hb dL_law_270 rfl (lv_at hl 3 rfl) ?_
  refine lv_iconst (v := 2) hx hb dL_law_271 (by decide) ?_
  refine lv_iadd hx hb dL_law_272 ?_
  refine va_sld hx hb hX hbl hbA hS hi2 dL_law_273 ?_
  rw [← he2]
  refine lv_aload_n hx hb dL_law_274 rfl (lv_at hl 0 rfl) ?_
  refine lv_iload_n hx hb dL_law_275 rfl (lv_at hl 3 rfl) ?_
  refine lv_iconst (v := 3) hx hb dL_law_276 (by decide) ?_
  refine lv_iadd hx hb dL_law_277 ?_
  refine va_sld hx hb hX hbl hbA hS hi3 dL_law_278 ?_
  rw [← he3]
  obtain ⟨r1, h1, h2⟩ := op_at hR e1 e2 e3
  refine cp_s (va_runV (As := [.int e1, .int e2, .int e3]) (rest := []) ⟨hx, hb, hml, hown, htw⟩ (k_X1_at l D cI cF o qf g gx gy ro rn tn fx fy ar wh X Y N e1 e2 e3 _ h1) (cwV 3 htw gL_law_X1_at rfl rfl rfl (by decide +kernel) ⟨(Nat.le_of_ble_eq_true rfl), (Nat.le_of_ble_eq_true rfl)⟩) (pre_o hK hnw hO) rfl rfl hl.1 rfl (lv_room (Nat.le_of_ble_eq_true rfl)) dL_law_279 ⟨(Nat.le_of_ble_eq_true rfl), (Nat.le_of_ble_eq_true rfl)⟩) ?_
  refine lv_aload_n hx hb dL_law_282 rfl (lv_at hl 2 rfl) ?_
  refine lv_aload_n hx hb dL_law_283 rfl (lv_at hl 0 rfl) ?_
  refine lv_iload_n hx hb dL_law_284 rfl (lv_at hl 3 rfl) ?_
  refine lv_iconst (v := 1) hx hb dL_law_285 (by decide) ?_
  refine lv_iadd hx hb dL_law_286 ?_
  refine va_sld hx hb hX hbl hbA hS hi1 dL_law_287 ?_
  rw [← he1]
  refine lv_aload_n hx hb dL_law_288 rfl (lv_at hl 0 rfl) ?_
  refine lv_iload_n hx hb dL_law_289 rfl (lv_at hl 3 rfl) ?_
  refine lv_iconst (v := 2) hx hb dL_law_290 (by decide) ?_
  refine lv_iadd hx hb dL_law_291 ?_
  refine va_sld hx hb hX hbl hbA hS hi2 dL_law_292 ?_
  rw [← he2]
  refine lv_aload_n hx hb dL_law_293 rfl (lv_at hl 0 rfl) ?_
  refine lv_iload_n hx hb dL_law_294 rfl (lv_at hl 3 rfl) ?_
  refine lv_iconst (v := 3) hx hb dL_law_295 (by decide) ?_
  refine lv_iadd hx hb dL_law_296 ?_
  refine va_sld hx hb hX hbl hbA hS hi3 dL_law_297 ?_
  rw [← he3]
  refine cp_s (va_runV (As := [.int e1, .int e2, .int e3]) (rest := [.int r1]) ⟨hx, hb, hml, hown, htw⟩ (k_X2_at l D cI cF m0 m1 m2 m3 m4 m5 pt px py ro rn tn fx fy ar wh ma u v e1 e2 e3 _ h2) (cwV 3 htw gL_law_X2_at rfl rfl rfl (by decide +kernel) ⟨(Nat.le_of_ble_eq_true rfl), (Nat.le_of_ble_eq_true rfl)⟩) (pre_v (q0 := 0) (ci := 2) hK hm rfl rfl) rfl rfl hl.1 rfl (lv_room (Nat.le_of_ble_eq_true rfl)) dL_law_298 ⟨(Nat.le_of_ble_eq_true rfl), (Nat.le_of_ble_eq_true rfl)⟩) ?_
  refine lv_icmp_eq (tgt := 1090) hx hb dL_law_301 (by decide) (fun _ => ?_) (fun c9 => absurd rfl c9)
  exact cont _ _ ls ⟨ro, rn, tn, fx, fy, ar, wh, X, Y, N, pt, px, py, ma, u, v, hG, hR, hO, hm, hS⟩ hl
set_option maxHeartbeats 8000000 in
set_option maxRecDepth 100000 in
theorem law_copy {p : Program} {l : Launch} {e : Env} {s : State} {m : MethodId} {below : List Frame} {meth : Method} {c : Code} {D : va_G} {cI cF : ClassId} {b L : Nat} {xs : Nat → Int32} {o qf : Nat} {g gx gy : Nat → Nat} {m0 m1 m2 m3 m4 m5 : Nat} (C0 : lw_At p s m meth c b L xs) (F : LF D cI cF s o qf g gx gy m0 m1 m2 m3 m4 m5) (x3 : Int32) (e1 : Int32) (he1 : e1 = xs (x3 + 1).toNatClampNeg) (hi1 : vp_in (x3 + 1) L) (e2 : Int32) (he2 : e2 = xs (x3 + 2).toNatClampNeg) (hi2 : vp_in (x3 + 2) L) (e3 : Int32) (he3 : e3 = xs (x3 + 3).toNatClampNeg) (hi3 : vp_in (x3 + 3) L) (H : Heap) (locs : List Loc) (I : LI D cI cF s o qf g gx gy m0 m1 m2 m3 m4 m5 H locs) (cont : ∀ (H : Heap) (locs : List Loc) (ls : Array Slot), LI D cI cF s o qf g gx gy m0 m1 m2 m3 m4 m5 H locs → lv_has ls 4 [(0, .ref b), (1, .ref o), (2, .ref m0), (3, .int x3)] → W p l e room_1 s m #[Value.ref b] below meth c H locs 26 723 (lw_Z below #[Value.ref b] s) (F0 m 1090 ls [])) (ls : Array Slot) (hl : lv_has ls 4 [(0, .ref b), (1, .ref o), (2, .ref m0), (3, .int x3)]) : W p l e room_1 s m #[Value.ref b] below meth c H locs 26 723 (lw_Z below #[Value.ref b] s) (F0 m 306 ls []) := by
  obtain ⟨hx, hb, hr, hml, hown, hts, hX, hbl, hlocks, hgv⟩ := C0
  obtain ⟨hK, hnw, hpt, hdl, hmD⟩ := F
  obtain ⟨ro, rn, tn, fx, fy, ar, wh, X, Y, N, pt, px, py, ma, u, v, hG, hR, hO, hm, hS⟩ := I
  have hb : c.code = cL_law := hb
  have hown : s.vm.findClass RL = some m.cls := hown
  have htw : ∀ w ∈ wsL_law, w.before #[Value.ref b] s = true := fun w h => hts w (wsL_law_in w h)
  have hbA : ¬ (fun q : Nat => s.heap.size ≤ q) b := Nat.not_le.mpr hbl
  by_cases hab : e1 = e2
  · subst hab
    by_cases hz : e3 = 0
    · refine lv_aload_n hx hb dL_law_306 rfl (lv_at hl 1 rfl) ?_
      refine lv_aload_n hx hb dL_law_307 rfl (lv_at hl 0 rfl) ?_
      refine lv_iload_n hx hb dL_law_308 rfl (lv_at hl 3 rfl) ?_
      refine lv_iconst (v := 1) hx hb dL_law_309 (by decide) ?_
      refine lv_iadd hx hb dL_law_310 ?_
      refine va_sld hx hb hX hbl hbA hS hi1 dL_law_311 ?_
      rw [← he1]
      refine lv_aload_n hx hb dL_law_312 rfl (lv_at hl 0 rfl) ?_
      refine lv_iload_n hx hb dL_law_313 rfl (lv_at hl 3 rfl) ?_
      refine lv_iconst (v := 2) hx hb dL_law_314 (by decide) ?_
      refine lv_iadd hx hb dL_law_315 ?_
      refine va_sld hx hb hX hbl hbA hS hi2 dL_law_316 ?_
      rw [← he2]
      refine lv_aload_n hx hb dL_law_317 rfl (lv_at hl 0 rfl) ?_
      refine lv_iload_n hx hb dL_law_318 rfl (lv_at hl 3 rfl) ?_
      refine lv_iconst (v := 3) hx hb dL_law_319 (by decide) ?_
      refine lv_iadd hx hb dL_law_320 ?_
      refine va_sld hx hb hX hbl hbA hS hi3 dL_law_321 ?_
      rw [← he3]
      refine lv_if_eq (tgt := 329) hx hb dL_law_322 (by decide) (fun _ => ?_) (fun c9 => absurd hz c9)
      refine lv_iconst (v := 0) hx hb dL_law_329 (by decide) ?_
      obtain ⟨r1, X1, Y1, N1, pt1, px1, py1, ma1, u1, v1, h1, h2, hR1⟩ := op_copy hR ma u v e1 e1 (0 : Int32)
      refine cp_w (va_runV (As := [.int e1, .int e1, .int (0 : Int32)]) (rest := []) ⟨hx, hb, hml, hown, htw⟩ (k_X1_copy_eq l D cI cF o qf g gx gy ro rn tn fx fy ar wh X Y N e1 (0 : Int32) _ h1) (cwV 3 htw gL_law_X1_copy rfl rfl rfl (by decide +kernel) ⟨(Nat.le_of_ble_eq_true rfl), (Nat.le_of_ble_eq_true rfl)⟩) (pre_p hK hnw hO hpt) rfl rfl hl.1 rfl (lv_room (Nat.le_of_ble_eq_true rfl)) dL_law_330 ⟨(Nat.le_of_ble_eq_true rfl), (Nat.le_of_ble_eq_true rfl)⟩) hS (fun a9 h9 => (hdl a9 h9).1) (fun H1 locs1 hO1 hz1 hk1 hS => ?_)
      have hO1 : drP D cI cF o qf g gx gy ro rn tn fx fy ar wh X1 Y1 N1 H1 := hO1
      have hm1 := mo_kept (fun a h => (hdl a h).2) hm hk1
      refine lv_aload_n hx hb dL_law_333 rfl (lv_at hl 2 rfl) ?_
      refine lv_aload_n hx hb dL_law_334 rfl (lv_at hl 0 rfl) ?_
      refine lv_iload_n hx hb dL_law_335 rfl (lv_at hl 3 rfl) ?_
      refine lv_iconst (v := 1) hx hb dL_law_336 (by decide) ?_
      refine lv_iadd hx hb dL_law_337 ?_
      refine va_sld hx hb hX hbl hbA hS hi1 dL_law_338 ?_
      rw [← he1]
      refine lv_aload_n hx hb dL_law_339 rfl (lv_at hl 0 rfl) ?_
      refine lv_iload_n hx hb dL_law_340 rfl (lv_at hl 3 rfl) ?_
      refine lv_iconst (v := 2) hx hb dL_law_341 (by decide) ?_
      refine lv_iadd hx hb dL_law_342 ?_
      refine va_sld hx hb hX hbl hbA hS hi2 dL_law_343 ?_
      rw [← he2]
      refine lv_aload_n hx hb dL_law_344 rfl (lv_at hl 0 rfl) ?_
      refine lv_iload_n hx hb dL_law_345 rfl (lv_at hl 3 rfl) ?_
      refine lv_iconst (v := 3) hx hb dL_law_346 (by decide) ?_
      refine lv_iadd hx hb dL_law_347 ?_
      refine va_sld hx hb hX hbl hbA hS hi3 dL_law_348 ?_
      rw [← he3]
      refine lv_if_eq (tgt := 356) hx hb dL_law_349 (by decide) (fun _ => ?_) (fun c9 => absurd hz c9)
      refine lv_iconst (v := 0) hx hb dL_law_356 (by decide) ?_
      refine cp_w (va_runV (As := [.int e1, .int e1, .int (0 : Int32)]) (rest := [.int r1]) ⟨hx, hb, hml, hown, htw⟩ (k_X2_copy l D cI cF m0 m1 m2 m3 m4 m5 pt px py ro rn tn fx fy ar wh ma u v e1 e1 (0 : Int32) _ h2) (cwV 3 htw gL_law_X2_copy rfl rfl rfl (by decide +kernel) ⟨(Nat.le_of_ble_eq_true rfl), (Nat.le_of_ble_eq_true rfl)⟩) (pre_d (q0 := 0) (ci := 2) hK hm1 (hmD _ _ _ _ _ _ _ _ _ _ _ _ _) rfl rfl) rfl rfl hl.1 rfl (lv_room (Nat.le_of_ble_eq_true rfl)) dL_law_357 ⟨(Nat.le_of_ble_eq_true rfl), (Nat.le_of_ble_eq_true rfl)⟩) hS (fun a9 h9 => va_in (hmD pt px py ro rn tn fx fy ar wh ma u v) h9 [0, 1, 2, 3, 4, 5] rfl) (fun H2 locs2 hm2 hz2 hk2 hS => ?_)
      have hm2 : va_P D vwCl (moW cI m0 m1 m2 m3 m4 m5 pt1 px1 py1 ro rn tn fx fy ar wh ma1 u1 v1) H2 := hm2
      have hO2 := drP_kept hO1 (fun a h h3 => hk2 a h3 (fun z => (hdl a h).2 (mo_in z)))
      refine lv_icmp_eq (tgt := 1090) hx hb dL_law_360 (by decide) (fun _ => ?_) (fun c9 => absurd rfl c9)
      exact cont _ _ ls ⟨ro, rn, tn, fx, fy, ar, wh, X1, Y1, N1, pt1, px1, py1, ma1, u1, v1, hG, hR1, hO2, hm2, hS⟩ hl
    · refine lv_aload_n hx hb dL_law_306 rfl (lv_at hl 1 rfl) ?_
      refine lv_aload_n hx hb dL_law_307 rfl (lv_at hl 0 rfl) ?_
      refine lv_iload_n hx hb dL_law_308 rfl (lv_at hl 3 rfl) ?_
      refine lv_iconst (v := 1) hx hb dL_law_309 (by decide) ?_
      refine lv_iadd hx hb dL_law_310 ?_
      refine va_sld hx hb hX hbl hbA hS hi1 dL_law_311 ?_
      rw [← he1]
      refine lv_aload_n hx hb dL_law_312 rfl (lv_at hl 0 rfl) ?_
      refine lv_iload_n hx hb dL_law_313 rfl (lv_at hl 3 rfl) ?_
      refine lv_iconst (v := 2) hx hb dL_law_314 (by decide) ?_
      refine lv_iadd hx hb dL_law_315 ?_
      refine va_sld hx hb hX hbl hbA hS hi2 dL_law_316 ?_
      rw [← he2]
      refine lv_aload_n hx hb dL_law_317 rfl (lv_at hl 0 rfl) ?_
      refine lv_iload_n hx hb dL_law_318 rfl (lv_at hl 3 rfl) ?_
      refine lv_iconst (v := 3) hx hb dL_law_319 (by decide) ?_
      refine lv_iadd hx hb dL_law_320 ?_
      refine va_sld hx hb hX hbl hbA hS hi3 dL_law_321 ?_
      rw [← he3]
      refine lv_if_eq (tgt := 329) hx hb dL_law_322 (by decide) (fun c9 => absurd c9 hz) (fun _ => ?_)
      refine lv_iconst (v := 1) hx hb dL_law_325 (by decide) ?_
      refine lv_goto (tgt := 330) hx hb dL_law_326 (by decide) ?_
      obtain ⟨r1, X1, Y1, N1, pt1, px1, py1, ma1, u1, v1, h1, h2, hR1⟩ := op_copy hR ma u v e1 e1 (1 : Int32)
      refine cp_w (va_runV (As := [.int e1, .int e1, .int (1 : Int32)]) (rest := []) ⟨hx, hb, hml, hown, htw⟩ (k_X1_copy_eq l D cI cF o qf g gx gy ro rn tn fx fy ar wh X Y N e1 (1 : Int32) _ h1) (cwV 3 htw gL_law_X1_copy rfl rfl rfl (by decide +kernel) ⟨(Nat.le_of_ble_eq_true rfl), (Nat.le_of_ble_eq_true rfl)⟩) (pre_p hK hnw hO hpt) rfl rfl hl.1 rfl (lv_room (Nat.le_of_ble_eq_true rfl)) dL_law_330 ⟨(Nat.le_of_ble_eq_true rfl), (Nat.le_of_ble_eq_true rfl)⟩) hS (fun a9 h9 => (hdl a9 h9).1) (fun H1 locs1 hO1 hz1 hk1 hS => ?_)
      have hO1 : drP D cI cF o qf g gx gy ro rn tn fx fy ar wh X1 Y1 N1 H1 := hO1
      have hm1 := mo_kept (fun a h => (hdl a h).2) hm hk1
      refine lv_aload_n hx hb dL_law_333 rfl (lv_at hl 2 rfl) ?_
      refine lv_aload_n hx hb dL_law_334 rfl (lv_at hl 0 rfl) ?_
      refine lv_iload_n hx hb dL_law_335 rfl (lv_at hl 3 rfl) ?_
      refine lv_iconst (v := 1) hx hb dL_law_336 (by decide) ?_
      refine lv_iadd hx hb dL_law_337 ?_
      refine va_sld hx hb hX hbl hbA hS hi1 dL_law_338 ?_
      rw [← he1]
      refine lv_aload_n hx hb dL_law_339 rfl (lv_at hl 0 rfl) ?_
      refine lv_iload_n hx hb dL_law_340 rfl (lv_at hl 3 rfl) ?_
      refine lv_iconst (v := 2) hx hb dL_law_341 (by decide) ?_
      refine lv_iadd hx hb dL_law_342 ?_
      refine va_sld hx hb hX hbl hbA hS hi2 dL_law_343 ?_
      rw [← he2]
      refine lv_aload_n hx hb dL_law_344 rfl (lv_at hl 0 rfl) ?_
      refine lv_iload_n hx hb dL_law_345 rfl (lv_at hl 3 rfl) ?_
      refine lv_iconst (v := 3) hx hb dL_law_346 (by decide) ?_
      refine lv_iadd hx hb dL_law_347 ?_
      refine va_sld hx hb hX hbl hbA hS hi3 dL_law_348 ?_
      rw [← he3]
      refine lv_if_eq (tgt := 356) hx hb dL_law_349 (by decide) (fun c9 => absurd c9 hz) (fun _ => ?_)
      refine lv_iconst (v := 1) hx hb dL_law_352 (by decide) ?_
      refine lv_goto (tgt := 357) hx hb dL_law_353 (by decide) ?_
      refine cp_w (va_runV (As := [.int e1, .int e1, .int (1 : Int32)]) (rest := [.int r1]) ⟨hx, hb, hml, hown, htw⟩ (k_X2_copy l D cI cF m0 m1 m2 m3 m4 m5 pt px py ro rn tn fx fy ar wh ma u v e1 e1 (1 : Int32) _ h2) (cwV 3 htw gL_law_X2_copy rfl rfl rfl (by decide +kernel) ⟨(Nat.le_of_ble_eq_true rfl), (Nat.le_of_ble_eq_true rfl)⟩) (pre_d (q0 := 0) (ci := 2) hK hm1 (hmD _ _ _ _ _ _ _ _ _ _ _ _ _) rfl rfl) rfl rfl hl.1 rfl (lv_room (Nat.le_of_ble_eq_true rfl)) dL_law_357 ⟨(Nat.le_of_ble_eq_true rfl), (Nat.le_of_ble_eq_true rfl)⟩) hS (fun a9 h9 => va_in (hmD pt px py ro rn tn fx fy ar wh ma u v) h9 [0, 1, 2, 3, 4, 5] rfl) (fun H2 locs2 hm2 hz2 hk2 hS => ?_)
      have hm2 : va_P D vwCl (moW cI m0 m1 m2 m3 m4 m5 pt1 px1 py1 ro rn tn fx fy ar wh ma1 u1 v1) H2 := hm2
      have hO2 := drP_kept hO1 (fun a h h3 => hk2 a h3 (fun z => (hdl a h).2 (mo_in z)))
      refine lv_icmp_eq (tgt := 1090) hx hb dL_law_360 (by decide) (fun _ => ?_) (fun c9 => absurd rfl c9)
      exact cont _ _ ls ⟨ro, rn, tn, fx, fy, ar, wh, X1, Y1, N1, pt1, px1, py1, ma1, u1, v1, hG, hR1, hO2, hm2, hS⟩ hl
  · by_cases hz : e3 = 0
    · refine lv_aload_n hx hb dL_law_306 rfl (lv_at hl 1 rfl) ?_
      refine lv_aload_n hx hb dL_law_307 rfl (lv_at hl 0 rfl) ?_
      refine lv_iload_n hx hb dL_law_308 rfl (lv_at hl 3 rfl) ?_
      refine lv_iconst (v := 1) hx hb dL_law_309 (by decide) ?_
      refine lv_iadd hx hb dL_law_310 ?_
      refine va_sld hx hb hX hbl hbA hS hi1 dL_law_311 ?_
      rw [← he1]
      refine lv_aload_n hx hb dL_law_312 rfl (lv_at hl 0 rfl) ?_
      refine lv_iload_n hx hb dL_law_313 rfl (lv_at hl 3 rfl) ?_
      refine lv_iconst (v := 2) hx hb dL_law_314 (by decide) ?_
      refine lv_iadd hx hb dL_law_315 ?_
      refine va_sld hx hb hX hbl hbA hS hi2 dL_law_316 ?_
      rw [← he2]
      refine lv_aload_n hx hb dL_law_317 rfl (lv_at hl 0 rfl) ?_
      refine lv_iload_n hx hb dL_law_318 rfl (lv_at hl 3 rfl) ?_
      refine lv_iconst (v := 3) hx hb dL_law_319 (by decide) ?_
      refine lv_iadd hx hb dL_law_320 ?_
      refine va_sld hx hb hX hbl hbA hS hi3 dL_law_321 ?_
      rw [← he3]
      refine lv_if_eq (tgt := 329) hx hb dL_law_322 (by decide) (fun _ => ?_) (fun c9 => absurd hz c9)
      refine lv_iconst (v := 0) hx hb dL_law_329 (by decide) ?_
      obtain ⟨r1, X1, Y1, N1, pt1, px1, py1, ma1, u1, v1, h1, h2, hR1⟩ := op_copy hR ma u v e1 e2 (0 : Int32)
      refine cp_w (va_runV (As := [.int e1, .int e2, .int (0 : Int32)]) (rest := []) ⟨hx, hb, hml, hown, htw⟩ (k_X1_copy_ne l D cI cF o qf g gx gy ro rn tn fx fy ar wh X Y N e1 e2 (0 : Int32) hab _ h1) (cwV 3 htw gL_law_X1_copy rfl rfl rfl (by decide +kernel) ⟨(Nat.le_of_ble_eq_true rfl), (Nat.le_of_ble_eq_true rfl)⟩) (pre_p hK hnw hO hpt) rfl rfl hl.1 rfl (lv_room (Nat.le_of_ble_eq_true rfl)) dL_law_330 ⟨(Nat.le_of_ble_eq_true rfl), (Nat.le_of_ble_eq_true rfl)⟩) hS (fun a9 h9 => (hdl a9 h9).1) (fun H1 locs1 hO1 hz1 hk1 hS => ?_)
      have hO1 : drP D cI cF o qf g gx gy ro rn tn fx fy ar wh X1 Y1 N1 H1 := hO1
      have hm1 := mo_kept (fun a h => (hdl a h).2) hm hk1
      refine lv_aload_n hx hb dL_law_333 rfl (lv_at hl 2 rfl) ?_
      refine lv_aload_n hx hb dL_law_334 rfl (lv_at hl 0 rfl) ?_
      refine lv_iload_n hx hb dL_law_335 rfl (lv_at hl 3 rfl) ?_
      refine lv_iconst (v := 1) hx hb dL_law_336 (by decide) ?_
      refine lv_iadd hx hb dL_law_337 ?_
      refine va_sld hx hb hX hbl hbA hS hi1 dL_law_338 ?_
      rw [← he1]
      refine lv_aload_n hx hb dL_law_339 rfl (lv_at hl 0 rfl) ?_
      refine lv_iload_n hx hb dL_law_340 rfl (lv_at hl 3 rfl) ?_
      refine lv_iconst (v := 2) hx hb dL_law_341 (by decide) ?_
      refine lv_iadd hx hb dL_law_342 ?_
      refine va_sld hx hb hX hbl hbA hS hi2 dL_law_343 ?_
      rw [← he2]
      refine lv_aload_n hx hb dL_law_344 rfl (lv_at hl 0 rfl) ?_
      refine lv_iload_n hx hb dL_law_345 rfl (lv_at hl 3 rfl) ?_
      refine lv_iconst (v := 3) hx hb dL_law_346 (by decide) ?_
      refine lv_iadd hx hb dL_law_347 ?_
      refine va_sld hx hb hX hbl hbA hS hi3 dL_law_348 ?_
      rw [← he3]
      refine lv_if_eq (tgt := 356) hx hb dL_law_349 (by decide) (fun _ => ?_) (fun c9 => absurd hz c9)
      refine lv_iconst (v := 0) hx hb dL_law_356 (by decide) ?_
      refine cp_w (va_runV (As := [.int e1, .int e2, .int (0 : Int32)]) (rest := [.int r1]) ⟨hx, hb, hml, hown, htw⟩ (k_X2_copy l D cI cF m0 m1 m2 m3 m4 m5 pt px py ro rn tn fx fy ar wh ma u v e1 e2 (0 : Int32) _ h2) (cwV 3 htw gL_law_X2_copy rfl rfl rfl (by decide +kernel) ⟨(Nat.le_of_ble_eq_true rfl), (Nat.le_of_ble_eq_true rfl)⟩) (pre_d (q0 := 0) (ci := 2) hK hm1 (hmD _ _ _ _ _ _ _ _ _ _ _ _ _) rfl rfl) rfl rfl hl.1 rfl (lv_room (Nat.le_of_ble_eq_true rfl)) dL_law_357 ⟨(Nat.le_of_ble_eq_true rfl), (Nat.le_of_ble_eq_true rfl)⟩) hS (fun a9 h9 => va_in (hmD pt px py ro rn tn fx fy ar wh ma u v) h9 [0, 1, 2, 3, 4, 5] rfl) (fun H2 locs2 hm2 hz2 hk2 hS => ?_)
      have hm2 : va_P D vwCl (moW cI m0 m1 m2 m3 m4 m5 pt1 px1 py1 ro rn tn fx fy ar wh ma1 u1 v1) H2 := hm2
      have hO2 := drP_kept hO1 (fun a h h3 => hk2 a h3 (fun z => (hdl a h).2 (mo_in z)))
      refine lv_icmp_eq (tgt := 1090) hx hb dL_law_360 (by decide) (fun _ => ?_) (fun c9 => absurd rfl c9)
      exact cont _ _ ls ⟨ro, rn, tn, fx, fy, ar, wh, X1, Y1, N1, pt1, px1, py1, ma1, u1, v1, hG, hR1, hO2, hm2, hS⟩ hl
    · refine lv_aload_n hx hb dL_law_306 rfl (lv_at hl 1 rfl) ?_
      refine lv_aload_n hx hb dL_law_307 rfl (lv_at hl 0 rfl) ?_
      refine lv_iload_n hx hb dL_law_308 rfl (lv_at hl 3 rfl) ?_
      refine lv_iconst (v := 1) hx hb dL_law_309 (by decide) ?_
      refine lv_iadd hx hb dL_law_310 ?_
      refine va_sld hx hb hX hbl hbA hS hi1 dL_law_311 ?_
      rw [← he1]
      refine lv_aload_n hx hb dL_law_312 rfl (lv_at hl 0 rfl) ?_
      refine lv_iload_n hx hb dL_law_313 rfl (lv_at hl 3 rfl) ?_
      refine lv_iconst (v := 2) hx hb dL_law_314 (by decide) ?_
      refine lv_iadd hx hb dL_law_315 ?_
      refine va_sld hx hb hX hbl hbA hS hi2 dL_law_316 ?_
      rw [← he2]
      refine lv_aload_n hx hb dL_law_317 rfl (lv_at hl 0 rfl) ?_
      refine lv_iload_n hx hb dL_law_318 rfl (lv_at hl 3 rfl) ?_
      refine lv_iconst (v := 3) hx hb dL_law_319 (by decide) ?_
      refine lv_iadd hx hb dL_law_320 ?_
      refine va_sld hx hb hX hbl hbA hS hi3 dL_law_321 ?_
      rw [← he3]
      refine lv_if_eq (tgt := 329) hx hb dL_law_322 (by decide) (fun c9 => absurd c9 hz) (fun _ => ?_)
      refine lv_iconst (v := 1) hx hb dL_law_325 (by decide) ?_
      refine lv_goto (tgt := 330) hx hb dL_law_326 (by decide) ?_
      obtain ⟨r1, X1, Y1, N1, pt1, px1, py1, ma1, u1, v1, h1, h2, hR1⟩ := op_copy hR ma u v e1 e2 (1 : Int32)
      refine cp_w (va_runV (As := [.int e1, .int e2, .int (1 : Int32)]) (rest := []) ⟨hx, hb, hml, hown, htw⟩ (k_X1_copy_ne l D cI cF o qf g gx gy ro rn tn fx fy ar wh X Y N e1 e2 (1 : Int32) hab _ h1) (cwV 3 htw gL_law_X1_copy rfl rfl rfl (by decide +kernel) ⟨(Nat.le_of_ble_eq_true rfl), (Nat.le_of_ble_eq_true rfl)⟩) (pre_p hK hnw hO hpt) rfl rfl hl.1 rfl (lv_room (Nat.le_of_ble_eq_true rfl)) dL_law_330 ⟨(Nat.le_of_ble_eq_true rfl), (Nat.le_of_ble_eq_true rfl)⟩) hS (fun a9 h9 => (hdl a9 h9).1) (fun H1 locs1 hO1 hz1 hk1 hS => ?_)
      have hO1 : drP D cI cF o qf g gx gy ro rn tn fx fy ar wh X1 Y1 N1 H1 := hO1
      have hm1 := mo_kept (fun a h => (hdl a h).2) hm hk1
      refine lv_aload_n hx hb dL_law_333 rfl (lv_at hl 2 rfl) ?_
      refine lv_aload_n hx hb dL_law_334 rfl (lv_at hl 0 rfl) ?_
      refine lv_iload_n hx hb dL_law_335 rfl (lv_at hl 3 rfl) ?_
      refine lv_iconst (v := 1) hx hb dL_law_336 (by decide) ?_
      refine lv_iadd hx hb dL_law_337 ?_
      refine va_sld hx hb hX hbl hbA hS hi1 dL_law_338 ?_
      rw [← he1]
      refine lv_aload_n hx hb dL_law_339 rfl (lv_at hl 0 rfl) ?_
      refine lv_iload_n hx hb dL_law_340 rfl (lv_at hl 3 rfl) ?_
      refine lv_iconst (v := 2) hx hb dL_law_341 (by decide) ?_
      refine lv_iadd hx hb dL_law_342 ?_
      refine va_sld hx hb hX hbl hbA hS hi2 dL_law_343 ?_
      rw [← he2]
      refine lv_aload_n hx hb dL_law_344 rfl (lv_at hl 0 rfl) ?_
      refine lv_iload_n hx hb dL_law_345 rfl (lv_at hl 3 rfl) ?_
      refine lv_iconst (v := 3) hx hb dL_law_346 (by decide) ?_
      refine lv_iadd hx hb dL_law_347 ?_
      refine va_sld hx hb hX hbl hbA hS hi3 dL_law_348 ?_
      rw [← he3]
      refine lv_if_eq (tgt := 356) hx hb dL_law_349 (by decide) (fun c9 => absurd c9 hz) (fun _ => ?_)
      refine lv_iconst (v := 1) hx hb dL_law_352 (by decide) ?_
      refine lv_goto (tgt := 357) hx hb dL_law_353 (by decide) ?_
      refine cp_w (va_runV (As := [.int e1, .int e2, .int (1 : Int32)]) (rest := [.int r1]) ⟨hx, hb, hml, hown, htw⟩ (k_X2_copy l D cI cF m0 m1 m2 m3 m4 m5 pt px py ro rn tn fx fy ar wh ma u v e1 e2 (1 : Int32) _ h2) (cwV 3 htw gL_law_X2_copy rfl rfl rfl (by decide +kernel) ⟨(Nat.le_of_ble_eq_true rfl), (Nat.le_of_ble_eq_true rfl)⟩) (pre_d (q0 := 0) (ci := 2) hK hm1 (hmD _ _ _ _ _ _ _ _ _ _ _ _ _) rfl rfl) rfl rfl hl.1 rfl (lv_room (Nat.le_of_ble_eq_true rfl)) dL_law_357 ⟨(Nat.le_of_ble_eq_true rfl), (Nat.le_of_ble_eq_true rfl)⟩) hS (fun a9 h9 => va_in (hmD pt px py ro rn tn fx fy ar wh ma u v) h9 [0, 1, 2, 3, 4, 5] rfl) (fun H2 locs2 hm2 hz2 hk2 hS => ?_)
      have hm2 : va_P D vwCl (moW cI m0 m1 m2 m3 m4 m5 pt1 px1 py1 ro rn tn fx fy ar wh ma1 u1 v1) H2 := hm2
      have hO2 := drP_kept hO1 (fun a h h3 => hk2 a h3 (fun z => (hdl a h).2 (mo_in z)))
      refine lv_icmp_eq (tgt := 1090) hx hb dL_law_360 (by decide) (fun _ => ?_) (fun c9 => absurd rfl c9)
      exact cont _ _ ls ⟨ro, rn, tn, fx, fy, ar, wh, X1, Y1, N1, pt1, px1, py1, ma1, u1, v1, hG, hR1, hO2, hm2, hS⟩ hl
set_option maxHeartbeats 8000000 in
set_option maxRecDepth 100000 in
theorem law_twice {p : Program} {l : Launch} {e : Env} {s : State} {m : MethodId} {below : List Frame} {meth : Method} {c : Code} {D : va_G} {cI cF : ClassId} {b L : Nat} {xs : Nat → Int32} {o qf : Nat} {g gx gy : Nat → Nat} {m0 m1 m2 m3 m4 m5 : Nat} (C0 : lw_At p s m meth c b L xs) (F : LF D cI cF s o qf g gx gy m0 m1 m2 m3 m4 m5) (x3 : Int32) (e1 : Int32) (he1 : e1 = xs (x3 + 1).toNatClampNeg) (hi1 : vp_in (x3 + 1) L) (H : Heap) (locs : List Loc) (I : LI D cI cF s o qf g gx gy m0 m1 m2 m3 m4 m5 H locs) (cont : ∀ (H : Heap) (locs : List Loc) (ls : Array Slot), LI D cI cF s o qf g gx gy m0 m1 m2 m3 m4 m5 H locs → lv_has ls 4 [(0, .ref b), (1, .ref o), (2, .ref m0), (3, .int x3)] → W p l e room_1 s m #[Value.ref b] below meth c H locs 26 723 (lw_Z below #[Value.ref b] s) (F0 m 1090 ls [])) (ls : Array Slot) (hl : lv_has ls 4 [(0, .ref b), (1, .ref o), (2, .ref m0), (3, .int x3)]) : W p l e room_1 s m #[Value.ref b] below meth c H locs 26 723 (lw_Z below #[Value.ref b] s) (F0 m 365 ls []) := by
  obtain ⟨hx, hb, hr, hml, hown, hts, hX, hbl, hlocks, hgv⟩ := C0
  obtain ⟨hK, hnw, hpt, hdl, hmD⟩ := F
  obtain ⟨ro, rn, tn, fx, fy, ar, wh, X, Y, N, pt, px, py, ma, u, v, hG, hR, hO, hm, hS⟩ := I
  have hb : c.code = cL_law := hb
  have hown : s.vm.findClass RL = some m.cls := hown
  have htw : ∀ w ∈ wsL_law, w.before #[Value.ref b] s = true := fun w h => hts w (wsL_law_in w h)
  have hbA : ¬ (fun q : Nat => s.heap.size ≤ q) b := Nat.not_le.mpr hbl
  refine lv_aload_n hx hb dL_law_365 rfl (lv_at hl 1 rfl) ?_
  refine lv_aload_n hx hb dL_law_366 rfl (lv_at hl 0 rfl) ?_
  refine lv_iload_n hx hb dL_law_367 rfl (lv_at hl 3 rfl) ?_
  refine lv_iconst (v := 1) hx hb dL_law_368 (by decide) ?_
  refine lv_iadd hx hb dL_law_369 ?_
  refine va_sld hx hb hX hbl hbA hS hi1 dL_law_370 ?_
  rw [← he1]
  obtain ⟨r1, h1, h2⟩ := op_twice hR e1
  refine cp_s (va_runV (As := [.int e1]) (rest := []) ⟨hx, hb, hml, hown, htw⟩ (k_X1_twice l D cI cF o qf g gx gy ro rn tn fx fy ar wh X Y N e1 _ h1) (cwV 1 htw gL_law_X1_twice rfl rfl rfl (by decide +kernel) ⟨(Nat.le_of_ble_eq_true rfl), (Nat.le_of_ble_eq_true rfl)⟩) (pre_o hK hnw hO) rfl rfl hl.1 rfl (lv_room (Nat.le_of_ble_eq_true rfl)) dL_law_371 ⟨(Nat.le_of_ble_eq_true rfl), (Nat.le_of_ble_eq_true rfl)⟩) ?_
  refine lv_aload_n hx hb dL_law_374 rfl (lv_at hl 2 rfl) ?_
  refine lv_aload_n hx hb dL_law_375 rfl (lv_at hl 0 rfl) ?_
  refine lv_iload_n hx hb dL_law_376 rfl (lv_at hl 3 rfl) ?_
  refine lv_iconst (v := 1) hx hb dL_law_377 (by decide) ?_
  refine lv_iadd hx hb dL_law_378 ?_
  refine va_sld hx hb hX hbl hbA hS hi1 dL_law_379 ?_
  rw [← he1]
  refine cp_s (va_runV (As := [.int e1]) (rest := [.long r1]) ⟨hx, hb, hml, hown, htw⟩ (k_X2_twice l D cI cF m0 m1 m2 m3 m4 m5 pt px py ro rn tn fx fy ar wh ma u v e1 _ h2) (cwV 1 htw gL_law_X2_twice rfl rfl rfl (by decide +kernel) ⟨(Nat.le_of_ble_eq_true rfl), (Nat.le_of_ble_eq_true rfl)⟩) (pre_v (q0 := 0) (ci := 2) hK hm rfl rfl) rfl rfl hl.1 rfl (lv_room (Nat.le_of_ble_eq_true rfl)) dL_law_380 ⟨(Nat.le_of_ble_eq_true rfl), (Nat.le_of_ble_eq_true rfl)⟩) ?_
  refine W.lcmp hx hb dL_law_383 ?_
  refine lv_if_eq (tgt := 1090) hx hb dL_law_384 (by decide) (fun _ => ?_) (fun c9 => absurd ((cmp_eq _ _).mpr rfl) c9)
  exact cont _ _ ls ⟨ro, rn, tn, fx, fy, ar, wh, X, Y, N, pt, px, py, ma, u, v, hG, hR, hO, hm, hS⟩ hl
set_option maxHeartbeats 8000000 in
set_option maxRecDepth 100000 in
theorem law_simple {p : Program} {l : Launch} {e : Env} {s : State} {m : MethodId} {below : List Frame} {meth : Method} {c : Code} {D : va_G} {cI cF : ClassId} {b L : Nat} {xs : Nat → Int32} {o qf : Nat} {g gx gy : Nat → Nat} {m0 m1 m2 m3 m4 m5 : Nat} (C0 : lw_At p s m meth c b L xs) (F : LF D cI cF s o qf g gx gy m0 m1 m2 m3 m4 m5) (x3 : Int32) (e1 : Int32) (he1 : e1 = xs (x3 + 1).toNatClampNeg) (hi1 : vp_in (x3 + 1) L) (H : Heap) (locs : List Loc) (I : LI D cI cF s o qf g gx gy m0 m1 m2 m3 m4 m5 H locs) (cont : ∀ (H : Heap) (locs : List Loc) (ls : Array Slot), LI D cI cF s o qf g gx gy m0 m1 m2 m3 m4 m5 H locs → lv_has ls 4 [(0, .ref b), (1, .ref o), (2, .ref m0), (3, .int x3)] → W p l e room_1 s m #[Value.ref b] below meth c H locs 26 723 (lw_Z below #[Value.ref b] s) (F0 m 1090 ls [])) (ls : Array Slot) (hl : lv_has ls 4 [(0, .ref b), (1, .ref o), (2, .ref m0), (3, .int x3)]) : W p l e room_1 s m #[Value.ref b] below meth c H locs 26 723 (lw_Z below #[Value.ref b] s) (F0 m 389 ls []) := by
  obtain ⟨hx, hb, hr, hml, hown, hts, hX, hbl, hlocks, hgv⟩ := C0
  obtain ⟨hK, hnw, hpt, hdl, hmD⟩ := F
  obtain ⟨ro, rn, tn, fx, fy, ar, wh, X, Y, N, pt, px, py, ma, u, v, hG, hR, hO, hm, hS⟩ := I
  have hb : c.code = cL_law := hb
  have hown : s.vm.findClass RL = some m.cls := hown
  have htw : ∀ w ∈ wsL_law, w.before #[Value.ref b] s = true := fun w h => hts w (wsL_law_in w h)
  have hbA : ¬ (fun q : Nat => s.heap.size ≤ q) b := Nat.not_le.mpr hbl
  refine lv_aload_n hx hb dL_law_389 rfl (lv_at hl 1 rfl) ?_
  refine lv_aload_n hx hb dL_law_390 rfl (lv_at hl 0 rfl) ?_
  refine lv_iload_n hx hb dL_law_391 rfl (lv_at hl 3 rfl) ?_
  refine lv_iconst (v := 1) hx hb dL_law_392 (by decide) ?_
  refine lv_iadd hx hb dL_law_393 ?_
  refine va_sld hx hb hX hbl hbA hS hi1 dL_law_394 ?_
  rw [← he1]
  obtain ⟨r1, h1, h2⟩ := op_simple hR e1
  refine cp_s (va_runV (As := [.int e1]) (rest := []) ⟨hx, hb, hml, hown, htw⟩ (k_X1_simple l D cI cF o qf g gx gy ro rn tn fx fy ar wh X Y N e1 _ h1) (cwV 1 htw gL_law_X1_simple rfl rfl rfl (by decide +kernel) ⟨(Nat.le_of_ble_eq_true rfl), (Nat.le_of_ble_eq_true rfl)⟩) (pre_o hK hnw hO) rfl rfl hl.1 rfl (lv_room (Nat.le_of_ble_eq_true rfl)) dL_law_395 ⟨(Nat.le_of_ble_eq_true rfl), (Nat.le_of_ble_eq_true rfl)⟩) ?_
  refine lv_aload_n hx hb dL_law_398 rfl (lv_at hl 2 rfl) ?_
  refine lv_aload_n hx hb dL_law_399 rfl (lv_at hl 0 rfl) ?_
  refine lv_iload_n hx hb dL_law_400 rfl (lv_at hl 3 rfl) ?_
  refine lv_iconst (v := 1) hx hb dL_law_401 (by decide) ?_
  refine lv_iadd hx hb dL_law_402 ?_
  refine va_sld hx hb hX hbl hbA hS hi1 dL_law_403 ?_
  rw [← he1]
  refine cp_s (va_runV (As := [.int e1]) (rest := [.int r1]) ⟨hx, hb, hml, hown, htw⟩ (k_X2_simple l D cI cF m0 m1 m2 m3 m4 m5 pt px py ro rn tn fx fy ar wh ma u v e1 _ h2) (cwV 1 htw gL_law_X2_simple rfl rfl rfl (by decide +kernel) ⟨(Nat.le_of_ble_eq_true rfl), (Nat.le_of_ble_eq_true rfl)⟩) (pre_v (q0 := 0) (ci := 2) hK hm rfl rfl) rfl rfl hl.1 rfl (lv_room (Nat.le_of_ble_eq_true rfl)) dL_law_404 ⟨(Nat.le_of_ble_eq_true rfl), (Nat.le_of_ble_eq_true rfl)⟩) ?_
  refine lv_icmp_eq (tgt := 1090) hx hb dL_law_407 (by decide) (fun _ => ?_) (fun c9 => absurd rfl c9)
  exact cont _ _ ls ⟨ro, rn, tn, fx, fy, ar, wh, X, Y, N, pt, px, py, ma, u, v, hG, hR, hO, hm, hS⟩ hl
set_option maxHeartbeats 8000000 in
set_option maxRecDepth 100000 in
theorem law_winds {p : Program} {l : Launch} {e : Env} {s : State} {m : MethodId} {below : List Frame} {meth : Method} {c : Code} {D : va_G} {cI cF : ClassId} {b L : Nat} {xs : Nat → Int32} {o qf : Nat} {g gx gy : Nat → Nat} {m0 m1 m2 m3 m4 m5 : Nat} (C0 : lw_At p s m meth c b L xs) (F : LF D cI cF s o qf g gx gy m0 m1 m2 m3 m4 m5) (x3 : Int32) (e1 : Int32) (he1 : e1 = xs (x3 + 1).toNatClampNeg) (hi1 : vp_in (x3 + 1) L) (e2 : Int32) (he2 : e2 = xs (x3 + 2).toNatClampNeg) (hi2 : vp_in (x3 + 2) L) (e3 : Int32) (he3 : e3 = xs (x3 + 3).toNatClampNeg) (hi3 : vp_in (x3 + 3) L) (H : Heap) (locs : List Loc) (I : LI D cI cF s o qf g gx gy m0 m1 m2 m3 m4 m5 H locs) (cont : ∀ (H : Heap) (locs : List Loc) (ls : Array Slot), LI D cI cF s o qf g gx gy m0 m1 m2 m3 m4 m5 H locs → lv_has ls 4 [(0, .ref b), (1, .ref o), (2, .ref m0), (3, .int x3)] → W p l e room_1 s m #[Value.ref b] below meth c H locs 26 723 (lw_Z below #[Value.ref b] s) (F0 m 1090 ls [])) (ls : Array Slot) (hl : lv_has ls 4 [(0, .ref b), (1, .ref o), (2, .ref m0), (3, .int x3)]) : W p l e room_1 s m #[Value.ref b] below meth c H locs 26 723 (lw_Z below #[Value.ref b] s) (F0 m 412 ls []) := by
  obtain ⟨hx, hb, hr, hml, hown, hts, hX, hbl, hlocks, hgv⟩ := C0
  obtain ⟨hK, hnw, hpt, hdl, hmD⟩ := F
  obtain ⟨ro, rn, tn, fx, fy, ar, wh, X, Y, N, pt, px, py, ma, u, v, hG, hR, hO, hm, hS⟩ := I
  have hb : c.code = cL_law := hb
  have hown : s.vm.findClass RL = some m.cls := hown
  have htw : ∀ w ∈ wsL_law, w.before #[Value.ref b] s = true := fun w h => hts w (wsL_law_in w h)
  have hbA : ¬ (fun q : Nat => s.heap.size ≤ q) b := Nat.not_le.mpr hbl
  refine lv_aload_n hx hb dL_law_412 rfl (lv_at hl 1 rfl) ?_
  refine lv_aload_n hx hb dL_law_413 rfl (lv_at hl 0 rfl) ?_
  refine lv_iload_n hx hb dL_law_414 rfl (lv_at hl 3 rfl) ?_
  refine lv_iconst (v := 1) hx hb dL_law_415 (by decide) ?_
  refine lv_iadd hx hb dL_law_416 ?_
  refine va_sld hx hb hX hbl hbA hS hi1 dL_law_417 ?_
  rw [← he1]
  refine lv_aload_n hx hb dL_law_418 rfl (lv_at hl 0 rfl) ?_
  refine lv_iload_n hx hb dL_law_419 rfl (lv_at hl 3 rfl) ?_
  refine lv_iconst (v := 2) hx hb dL_law_420 (by decide) ?_
  refine lv_iadd hx hb dL_law_421 ?_
  refine va_sld hx hb hX hbl hbA hS hi2 dL_law_422 ?_
  rw [← he2]
  refine lv_aload_n hx hb dL_law_423 rfl (lv_at hl 0 rfl) ?_
  refine lv_iload_n hx hb dL_law_424 rfl (lv_at hl 3 rfl) ?_
  refine lv_iconst (v := 3) hx hb dL_law_425 (by decide) ?_
  refine lv_iadd hx hb dL_law_426 ?_
  refine va_sld hx hb hX hbl hbA hS hi3 dL_law_427 ?_
  rw [← he3]
  obtain ⟨r1, h1, h2⟩ := op_winds hR e1 e2 e3
  refine cp_s (va_runV (As := [.int e1, .int e2, .int e3]) (rest := []) ⟨hx, hb, hml, hown, htw⟩ (k_X1_winds l D cI cF o qf g gx gy ro rn tn fx fy ar wh X Y N e1 e2 e3 _ h1) (cwV 3 htw gL_law_X1_winds rfl rfl rfl (by decide +kernel) ⟨(Nat.le_of_ble_eq_true rfl), (Nat.le_of_ble_eq_true rfl)⟩) (pre_o hK hnw hO) rfl rfl hl.1 rfl (lv_room (Nat.le_of_ble_eq_true rfl)) dL_law_428 ⟨(Nat.le_of_ble_eq_true rfl), (Nat.le_of_ble_eq_true rfl)⟩) ?_
  refine lv_aload_n hx hb dL_law_431 rfl (lv_at hl 2 rfl) ?_
  refine lv_aload_n hx hb dL_law_432 rfl (lv_at hl 0 rfl) ?_
  refine lv_iload_n hx hb dL_law_433 rfl (lv_at hl 3 rfl) ?_
  refine lv_iconst (v := 1) hx hb dL_law_434 (by decide) ?_
  refine lv_iadd hx hb dL_law_435 ?_
  refine va_sld hx hb hX hbl hbA hS hi1 dL_law_436 ?_
  rw [← he1]
  refine lv_aload_n hx hb dL_law_437 rfl (lv_at hl 0 rfl) ?_
  refine lv_iload_n hx hb dL_law_438 rfl (lv_at hl 3 rfl) ?_
  refine lv_iconst (v := 2) hx hb dL_law_439 (by decide) ?_
  refine lv_iadd hx hb dL_law_440 ?_
  refine va_sld hx hb hX hbl hbA hS hi2 dL_law_441 ?_
  rw [← he2]
  refine lv_aload_n hx hb dL_law_442 rfl (lv_at hl 0 rfl) ?_
  refine lv_iload_n hx hb dL_law_443 rfl (lv_at hl 3 rfl) ?_
  refine lv_iconst (v := 3) hx hb dL_law_444 (by decide) ?_
  refine lv_iadd hx hb dL_law_445 ?_
  refine va_sld hx hb hX hbl hbA hS hi3 dL_law_446 ?_
  rw [← he3]
  refine cp_s (va_runV (As := [.int e1, .int e2, .int e3]) (rest := [.int r1]) ⟨hx, hb, hml, hown, htw⟩ (k_X2_winds l D cI cF m0 m1 m2 m3 m4 m5 pt px py ro rn tn fx fy ar wh ma u v e1 e2 e3 _ h2) (cwV 3 htw gL_law_X2_winds rfl rfl rfl (by decide +kernel) ⟨(Nat.le_of_ble_eq_true rfl), (Nat.le_of_ble_eq_true rfl)⟩) (pre_v (q0 := 0) (ci := 2) hK hm rfl rfl) rfl rfl hl.1 rfl (lv_room (Nat.le_of_ble_eq_true rfl)) dL_law_447 ⟨(Nat.le_of_ble_eq_true rfl), (Nat.le_of_ble_eq_true rfl)⟩) ?_
  refine lv_icmp_eq (tgt := 1090) hx hb dL_law_450 (by decide) (fun _ => ?_) (fun c9 => absurd rfl c9)
  exact cont _ _ ls ⟨ro, rn, tn, fx, fy, ar, wh, X, Y, N, pt, px, py, ma, u, v, hG, hR, hO, hm, hS⟩ hl
set_option maxHeartbeats 8000000 in
set_option maxRecDepth 100000 in
theorem law_rod {p : Program} {l : Launch} {e : Env} {s : State} {m : MethodId} {below : List Frame} {meth : Method} {c : Code} {D : va_G} {cI cF : ClassId} {b L : Nat} {xs : Nat → Int32} {o qf : Nat} {g gx gy : Nat → Nat} {m0 m1 m2 m3 m4 m5 : Nat} (C0 : lw_At p s m meth c b L xs) (F : LF D cI cF s o qf g gx gy m0 m1 m2 m3 m4 m5) (x3 : Int32) (e1 : Int32) (he1 : e1 = xs (x3 + 1).toNatClampNeg) (hi1 : vp_in (x3 + 1) L) (H : Heap) (locs : List Loc) (I : LI D cI cF s o qf g gx gy m0 m1 m2 m3 m4 m5 H locs) (cont : ∀ (H : Heap) (locs : List Loc) (ls : Array Slot), LI D cI cF s o qf g gx gy m0 m1 m2 m3 m4 m5 H locs → lv_has ls 4 [(0, .ref b), (1, .ref o), (2, .ref m0), (3, .int x3)] → W p l e room_1 s m #[Value.ref b] below meth c H locs 26 723 (lw_Z below #[Value.ref b] s) (F0 m 1090 ls [])) (ls : Array Slot) (hl : lv_has ls 4 [(0, .ref b), (1, .ref o), (2, .ref m0), (3, .int x3)]) : W p l e room_1 s m #[Value.ref b] below meth c H locs 26 723 (lw_Z below #[Value.ref b] s) (F0 m 455 ls []) := by
  obtain ⟨hx, hb, hr, hml, hown, hts, hX, hbl, hlocks, hgv⟩ := C0
  obtain ⟨hK, hnw, hpt, hdl, hmD⟩ := F
  obtain ⟨ro, rn, tn, fx, fy, ar, wh, X, Y, N, pt, px, py, ma, u, v, hG, hR, hO, hm, hS⟩ := I
  have hb : c.code = cL_law := hb
  have hown : s.vm.findClass RL = some m.cls := hown
  have htw : ∀ w ∈ wsL_law, w.before #[Value.ref b] s = true := fun w h => hts w (wsL_law_in w h)
  have hbA : ¬ (fun q : Nat => s.heap.size ≤ q) b := Nat.not_le.mpr hbl
  refine lv_aload_n hx hb dL_law_455 rfl (lv_at hl 1 rfl) ?_
  refine lv_aload_n hx hb dL_law_456 rfl (lv_at hl 0 rfl) ?_
  refine lv_iload_n hx hb dL_law_457 rfl (lv_at hl 3 rfl) ?_
  refine lv_iconst (v := 1) hx hb dL_law_458 (by decide) ?_
  refine lv_iadd hx hb dL_law_459 ?_
  refine va_sld hx hb hX hbl hbA hS hi1 dL_law_460 ?_
  rw [← he1]
  obtain ⟨⟨r1, ro1⟩, h1, h2, hG1⟩ := op_rod hG e1
  refine cp_w (va_runV (As := [.int e1]) (rest := []) ⟨hx, hb, hml, hown, htw⟩ (k_X1_rod l D cI cF o qf g gx gy ro rn tn fx fy ar wh X Y N e1 _ h1) (cwV 1 htw gL_law_X1_rod rfl rfl rfl (by decide +kernel) ⟨(Nat.le_of_ble_eq_true rfl), (Nat.le_of_ble_eq_true rfl)⟩) (pre_p hK hnw hO hpt) rfl rfl hl.1 rfl (lv_room (Nat.le_of_ble_eq_true rfl)) dL_law_461 ⟨(Nat.le_of_ble_eq_true rfl), (Nat.le_of_ble_eq_true rfl)⟩) hS (fun a9 h9 => (hdl a9 h9).1) (fun H1 locs1 hO1 hz1 hk1 hS => ?_)
  have hO1 : drP D cI cF o qf g gx gy ro1 rn tn fx fy ar wh X Y N H1 := hO1
  have hm1 := mo_kept (fun a h => (hdl a h).2) hm hk1
  refine lv_aload_n hx hb dL_law_464 rfl (lv_at hl 2 rfl) ?_
  refine lv_aload_n hx hb dL_law_465 rfl (lv_at hl 0 rfl) ?_
  refine lv_iload_n hx hb dL_law_466 rfl (lv_at hl 3 rfl) ?_
  refine lv_iconst (v := 1) hx hb dL_law_467 (by decide) ?_
  refine lv_iadd hx hb dL_law_468 ?_
  refine va_sld hx hb hX hbl hbA hS hi1 dL_law_469 ?_
  rw [← he1]
  refine cp_w (va_runV (As := [.int e1]) (rest := [.int r1]) ⟨hx, hb, hml, hown, htw⟩ (k_X2_rod l D cI cF m0 m1 m2 m3 m4 m5 pt px py ro rn tn fx fy ar wh ma u v e1 _ h2) (cwV 1 htw gL_law_X2_rod rfl rfl rfl (by decide +kernel) ⟨(Nat.le_of_ble_eq_true rfl), (Nat.le_of_ble_eq_true rfl)⟩) (pre_d (q0 := 0) (ci := 2) hK hm1 (hmD _ _ _ _ _ _ _ _ _ _ _ _ _) rfl rfl) rfl rfl hl.1 rfl (lv_room (Nat.le_of_ble_eq_true rfl)) dL_law_470 ⟨(Nat.le_of_ble_eq_true rfl), (Nat.le_of_ble_eq_true rfl)⟩) hS (fun a9 h9 => va_in (hmD pt px py ro rn tn fx fy ar wh ma u v) h9 [0, 1, 2, 3, 4, 5] rfl) (fun H2 locs2 hm2 hz2 hk2 hS => ?_)
  have hm2 : va_P D vwCl (moW cI m0 m1 m2 m3 m4 m5 pt px py ro1 rn tn fx fy ar wh ma u v) H2 := hm2
  have hO2 := drP_kept hO1 (fun a h h3 => hk2 a h3 (fun z => (hdl a h).2 (mo_in z)))
  refine lv_icmp_eq (tgt := 1090) hx hb dL_law_473 (by decide) (fun _ => ?_) (fun c9 => absurd rfl c9)
  exact cont _ _ ls ⟨ro1, rn, tn, fx, fy, ar, wh, X, Y, N, pt, px, py, ma, u, v, hG1, hR, hO2, hm2, hS⟩ hl
set_option maxHeartbeats 8000000 in
set_option maxRecDepth 100000 in
theorem law_told {p : Program} {l : Launch} {e : Env} {s : State} {m : MethodId} {below : List Frame} {meth : Method} {c : Code} {D : va_G} {cI cF : ClassId} {b L : Nat} {xs : Nat → Int32} {o qf : Nat} {g gx gy : Nat → Nat} {m0 m1 m2 m3 m4 m5 : Nat} (C0 : lw_At p s m meth c b L xs) (F : LF D cI cF s o qf g gx gy m0 m1 m2 m3 m4 m5) (x3 : Int32) (e1 : Int32) (he1 : e1 = xs (x3 + 1).toNatClampNeg) (hi1 : vp_in (x3 + 1) L) (e2 : Int32) (he2 : e2 = xs (x3 + 2).toNatClampNeg) (hi2 : vp_in (x3 + 2) L) (e3 : Int32) (he3 : e3 = xs (x3 + 3).toNatClampNeg) (hi3 : vp_in (x3 + 3) L) (H : Heap) (locs : List Loc) (I : LI D cI cF s o qf g gx gy m0 m1 m2 m3 m4 m5 H locs) (cont : ∀ (H : Heap) (locs : List Loc) (ls : Array Slot), LI D cI cF s o qf g gx gy m0 m1 m2 m3 m4 m5 H locs → lv_has ls 4 [(0, .ref b), (1, .ref o), (2, .ref m0), (3, .int x3)] → W p l e room_1 s m #[Value.ref b] below meth c H locs 26 723 (lw_Z below #[Value.ref b] s) (F0 m 1090 ls [])) (ls : Array Slot) (hl : lv_has ls 4 [(0, .ref b), (1, .ref o), (2, .ref m0), (3, .int x3)]) : W p l e room_1 s m #[Value.ref b] below meth c H locs 26 723 (lw_Z below #[Value.ref b] s) (F0 m 478 ls []) := by
  obtain ⟨hx, hb, hr, hml, hown, hts, hX, hbl, hlocks, hgv⟩ := C0
  obtain ⟨hK, hnw, hpt, hdl, hmD⟩ := F
  obtain ⟨ro, rn, tn, fx, fy, ar, wh, X, Y, N, pt, px, py, ma, u, v, hG, hR, hO, hm, hS⟩ := I
  have hb : c.code = cL_law := hb
  have hown : s.vm.findClass RL = some m.cls := hown
  have htw : ∀ w ∈ wsL_law, w.before #[Value.ref b] s = true := fun w h => hts w (wsL_law_in w h)
  have hbA : ¬ (fun q : Nat => s.heap.size ≤ q) b := Nat.not_le.mpr hbl
  refine lv_aload_n hx hb dL_law_478 rfl (lv_at hl 1 rfl) ?_
  refine lv_aload_n hx hb dL_law_479 rfl (lv_at hl 0 rfl) ?_
  refine lv_iload_n hx hb dL_law_480 rfl (lv_at hl 3 rfl) ?_
  refine lv_iconst (v := 1) hx hb dL_law_481 (by decide) ?_
  refine lv_iadd hx hb dL_law_482 ?_
  refine va_sld hx hb hX hbl hbA hS hi1 dL_law_483 ?_
  rw [← he1]
  refine lv_aload_n hx hb dL_law_484 rfl (lv_at hl 0 rfl) ?_
  refine lv_iload_n hx hb dL_law_485 rfl (lv_at hl 3 rfl) ?_
  refine lv_iconst (v := 2) hx hb dL_law_486 (by decide) ?_
  refine lv_iadd hx hb dL_law_487 ?_
  refine va_sld hx hb hX hbl hbA hS hi2 dL_law_488 ?_
  rw [← he2]
  refine lv_aload_n hx hb dL_law_489 rfl (lv_at hl 0 rfl) ?_
  refine lv_iload_n hx hb dL_law_490 rfl (lv_at hl 3 rfl) ?_
  refine lv_iconst (v := 3) hx hb dL_law_491 (by decide) ?_
  refine lv_iadd hx hb dL_law_492 ?_
  refine va_sld hx hb hX hbl hbA hS hi3 dL_law_493 ?_
  rw [← he3]
  obtain ⟨r1, h1, h2⟩ := op_told (Ro_of hG.1) hR e1 e2 e3
  refine cp_s (va_runV (As := [.int e1, .int e2, .int e3]) (rest := []) ⟨hx, hb, hml, hown, htw⟩ (k_X1_told l D cI cF o qf g gx gy ro rn tn fx fy ar wh X Y N e1 e2 e3 _ h1) (cwV 3 htw gL_law_X1_told rfl rfl rfl (by decide +kernel) ⟨(Nat.le_of_ble_eq_true rfl), (Nat.le_of_ble_eq_true rfl)⟩) (pre_o hK hnw hO) rfl rfl hl.1 rfl (lv_room (Nat.le_of_ble_eq_true rfl)) dL_law_494 ⟨(Nat.le_of_ble_eq_true rfl), (Nat.le_of_ble_eq_true rfl)⟩) ?_
  refine lv_aload_n hx hb dL_law_497 rfl (lv_at hl 2 rfl) ?_
  refine lv_aload_n hx hb dL_law_498 rfl (lv_at hl 0 rfl) ?_
  refine lv_iload_n hx hb dL_law_499 rfl (lv_at hl 3 rfl) ?_
  refine lv_iconst (v := 1) hx hb dL_law_500 (by decide) ?_
  refine lv_iadd hx hb dL_law_501 ?_
  refine va_sld hx hb hX hbl hbA hS hi1 dL_law_502 ?_
  rw [← he1]
  refine lv_aload_n hx hb dL_law_503 rfl (lv_at hl 0 rfl) ?_
  refine lv_iload_n hx hb dL_law_504 rfl (lv_at hl 3 rfl) ?_
  refine lv_iconst (v := 2) hx hb dL_law_505 (by decide) ?_
  refine lv_iadd hx hb dL_law_506 ?_
  refine va_sld hx hb hX hbl hbA hS hi2 dL_law_507 ?_
  rw [← he2]
  refine lv_aload_n hx hb dL_law_508 rfl (lv_at hl 0 rfl) ?_
  refine lv_iload_n hx hb dL_law_509 rfl (lv_at hl 3 rfl) ?_
  refine lv_iconst (v := 3) hx hb dL_law_510 (by decide) ?_
  refine lv_iadd hx hb dL_law_511 ?_
  refine va_sld hx hb hX hbl hbA hS hi3 dL_law_512 ?_
  rw [← he3]
  refine cp_s (va_runV (As := [.int e1, .int e2, .int e3]) (rest := [.long r1]) ⟨hx, hb, hml, hown, htw⟩ (k_X2_told l D cI cF m0 m1 m2 m3 m4 m5 pt px py ro rn tn fx fy ar wh ma u v e1 e2 e3 _ h2) (cwV 3 htw gL_law_X2_told rfl rfl rfl (by decide +kernel) ⟨(Nat.le_of_ble_eq_true rfl), (Nat.le_of_ble_eq_true rfl)⟩) (pre_v (q0 := 0) (ci := 2) hK hm rfl rfl) rfl rfl hl.1 rfl (lv_room (Nat.le_of_ble_eq_true rfl)) dL_law_513 ⟨(Nat.le_of_ble_eq_true rfl), (Nat.le_of_ble_eq_true rfl)⟩) ?_
  refine W.lcmp hx hb dL_law_516 ?_
  refine lv_if_eq (tgt := 1090) hx hb dL_law_517 (by decide) (fun _ => ?_) (fun c9 => absurd ((cmp_eq _ _).mpr rfl) c9)
  exact cont _ _ ls ⟨ro, rn, tn, fx, fy, ar, wh, X, Y, N, pt, px, py, ma, u, v, hG, hR, hO, hm, hS⟩ hl
set_option maxHeartbeats 8000000 in
set_option maxRecDepth 100000 in
theorem law_can {p : Program} {l : Launch} {e : Env} {s : State} {m : MethodId} {below : List Frame} {meth : Method} {c : Code} {D : va_G} {cI cF : ClassId} {b L : Nat} {xs : Nat → Int32} {o qf : Nat} {g gx gy : Nat → Nat} {m0 m1 m2 m3 m4 m5 : Nat} (C0 : lw_At p s m meth c b L xs) (F : LF D cI cF s o qf g gx gy m0 m1 m2 m3 m4 m5) (x3 : Int32) (e1 : Int32) (he1 : e1 = xs (x3 + 1).toNatClampNeg) (hi1 : vp_in (x3 + 1) L) (H : Heap) (locs : List Loc) (I : LI D cI cF s o qf g gx gy m0 m1 m2 m3 m4 m5 H locs) (cont : ∀ (H : Heap) (locs : List Loc) (ls : Array Slot), LI D cI cF s o qf g gx gy m0 m1 m2 m3 m4 m5 H locs → lv_has ls 4 [(0, .ref b), (1, .ref o), (2, .ref m0), (3, .int x3)] → W p l e room_1 s m #[Value.ref b] below meth c H locs 26 723 (lw_Z below #[Value.ref b] s) (F0 m 1090 ls [])) (ls : Array Slot) (hl : lv_has ls 4 [(0, .ref b), (1, .ref o), (2, .ref m0), (3, .int x3)]) : W p l e room_1 s m #[Value.ref b] below meth c H locs 26 723 (lw_Z below #[Value.ref b] s) (F0 m 522 ls []) := by
  obtain ⟨hx, hb, hr, hml, hown, hts, hX, hbl, hlocks, hgv⟩ := C0
  obtain ⟨hK, hnw, hpt, hdl, hmD⟩ := F
  obtain ⟨ro, rn, tn, fx, fy, ar, wh, X, Y, N, pt, px, py, ma, u, v, hG, hR, hO, hm, hS⟩ := I
  have hb : c.code = cL_law := hb
  have hown : s.vm.findClass RL = some m.cls := hown
  have htw : ∀ w ∈ wsL_law, w.before #[Value.ref b] s = true := fun w h => hts w (wsL_law_in w h)
  have hbA : ¬ (fun q : Nat => s.heap.size ≤ q) b := Nat.not_le.mpr hbl
  refine lv_aload_n hx hb dL_law_522 rfl (lv_at hl 1 rfl) ?_
  refine lv_aload_n hx hb dL_law_523 rfl (lv_at hl 0 rfl) ?_
  refine lv_iload_n hx hb dL_law_524 rfl (lv_at hl 3 rfl) ?_
  refine lv_iconst (v := 1) hx hb dL_law_525 (by decide) ?_
  refine lv_iadd hx hb dL_law_526 ?_
  refine va_sld hx hb hX hbl hbA hS hi1 dL_law_527 ?_
  rw [← he1]
  obtain ⟨r1, h1, h2⟩ := op_can (Ro_of hG.1) hR e1
  refine cp_s (va_runV (As := [.int e1]) (rest := []) ⟨hx, hb, hml, hown, htw⟩ (k_X1_can l D cI cF o qf g gx gy ro rn tn fx fy ar wh X Y N e1 _ h1) (cwV 1 htw gL_law_X1_can rfl rfl rfl (by decide +kernel) ⟨(Nat.le_of_ble_eq_true rfl), (Nat.le_of_ble_eq_true rfl)⟩) (pre_o hK hnw hO) rfl rfl hl.1 rfl (lv_room (Nat.le_of_ble_eq_true rfl)) dL_law_528 ⟨(Nat.le_of_ble_eq_true rfl), (Nat.le_of_ble_eq_true rfl)⟩) ?_
  refine lv_aload_n hx hb dL_law_531 rfl (lv_at hl 2 rfl) ?_
  refine lv_aload_n hx hb dL_law_532 rfl (lv_at hl 0 rfl) ?_
  refine lv_iload_n hx hb dL_law_533 rfl (lv_at hl 3 rfl) ?_
  refine lv_iconst (v := 1) hx hb dL_law_534 (by decide) ?_
  refine lv_iadd hx hb dL_law_535 ?_
  refine va_sld hx hb hX hbl hbA hS hi1 dL_law_536 ?_
  rw [← he1]
  refine cp_s (va_runV (As := [.int e1]) (rest := [.int r1]) ⟨hx, hb, hml, hown, htw⟩ (k_X2_can l D cI cF m0 m1 m2 m3 m4 m5 pt px py ro rn tn fx fy ar wh ma u v e1 _ h2) (cwV 1 htw gL_law_X2_can rfl rfl rfl (by decide +kernel) ⟨(Nat.le_of_ble_eq_true rfl), (Nat.le_of_ble_eq_true rfl)⟩) (pre_v (q0 := 0) (ci := 2) hK hm rfl rfl) rfl rfl hl.1 rfl (lv_room (Nat.le_of_ble_eq_true rfl)) dL_law_537 ⟨(Nat.le_of_ble_eq_true rfl), (Nat.le_of_ble_eq_true rfl)⟩) ?_
  refine lv_icmp_eq (tgt := 1090) hx hb dL_law_540 (by decide) (fun _ => ?_) (fun c9 => absurd rfl c9)
  exact cont _ _ ls ⟨ro, rn, tn, fx, fy, ar, wh, X, Y, N, pt, px, py, ma, u, v, hG, hR, hO, hm, hS⟩ hl
set_option maxHeartbeats 8000000 in
set_option maxRecDepth 100000 in
theorem law_rail {p : Program} {l : Launch} {e : Env} {s : State} {m : MethodId} {below : List Frame} {meth : Method} {c : Code} {D : va_G} {cI cF : ClassId} {b L : Nat} {xs : Nat → Int32} {o qf : Nat} {g gx gy : Nat → Nat} {m0 m1 m2 m3 m4 m5 : Nat} (C0 : lw_At p s m meth c b L xs) (F : LF D cI cF s o qf g gx gy m0 m1 m2 m3 m4 m5) (x3 : Int32) (e1 : Int32) (he1 : e1 = xs (x3 + 1).toNatClampNeg) (hi1 : vp_in (x3 + 1) L) (e2 : Int32) (he2 : e2 = xs (x3 + 2).toNatClampNeg) (hi2 : vp_in (x3 + 2) L) (e3 : Int32) (he3 : e3 = xs (x3 + 3).toNatClampNeg) (hi3 : vp_in (x3 + 3) L) (H : Heap) (locs : List Loc) (I : LI D cI cF s o qf g gx gy m0 m1 m2 m3 m4 m5 H locs) (cont : ∀ (H : Heap) (locs : List Loc) (ls : Array Slot), LI D cI cF s o qf g gx gy m0 m1 m2 m3 m4 m5 H locs → lv_has ls 4 [(0, .ref b), (1, .ref o), (2, .ref m0), (3, .int x3)] → W p l e room_1 s m #[Value.ref b] below meth c H locs 26 723 (lw_Z below #[Value.ref b] s) (F0 m 1090 ls [])) (ls : Array Slot) (hl : lv_has ls 4 [(0, .ref b), (1, .ref o), (2, .ref m0), (3, .int x3)]) : W p l e room_1 s m #[Value.ref b] below meth c H locs 26 723 (lw_Z below #[Value.ref b] s) (F0 m 545 ls []) := by
  obtain ⟨hx, hb, hr, hml, hown, hts, hX, hbl, hlocks, hgv⟩ := C0
  obtain ⟨hK, hnw, hpt, hdl, hmD⟩ := F
  obtain ⟨ro, rn, tn, fx, fy, ar, wh, X, Y, N, pt, px, py, ma, u, v, hG, hR, hO, hm, hS⟩ := I
  have hb : c.code = cL_law := hb
  have hown : s.vm.findClass RL = some m.cls := hown
  have htw : ∀ w ∈ wsL_law, w.before #[Value.ref b] s = true := fun w h => hts w (wsL_law_in w h)
  have hbA : ¬ (fun q : Nat => s.heap.size ≤ q) b := Nat.not_le.mpr hbl
  refine lv_aload_n hx hb dL_law_545 rfl (lv_at hl 1 rfl) ?_
  refine lv_aload_n hx hb dL_law_546 rfl (lv_at hl 0 rfl) ?_
  refine lv_iload_n hx hb dL_law_547 rfl (lv_at hl 3 rfl) ?_
  refine lv_iconst (v := 1) hx hb dL_law_548 (by decide) ?_
  refine lv_iadd hx hb dL_law_549 ?_
  refine va_sld hx hb hX hbl hbA hS hi1 dL_law_550 ?_
  rw [← he1]
  refine lv_aload_n hx hb dL_law_551 rfl (lv_at hl 0 rfl) ?_
  refine lv_iload_n hx hb dL_law_552 rfl (lv_at hl 3 rfl) ?_
  refine lv_iconst (v := 2) hx hb dL_law_553 (by decide) ?_
  refine lv_iadd hx hb dL_law_554 ?_
  refine va_sld hx hb hX hbl hbA hS hi2 dL_law_555 ?_
  rw [← he2]
  refine lv_aload_n hx hb dL_law_556 rfl (lv_at hl 0 rfl) ?_
  refine lv_iload_n hx hb dL_law_557 rfl (lv_at hl 3 rfl) ?_
  refine lv_iconst (v := 3) hx hb dL_law_558 (by decide) ?_
  refine lv_iadd hx hb dL_law_559 ?_
  refine va_sld hx hb hX hbl hbA hS hi3 dL_law_560 ?_
  rw [← he3]
  obtain ⟨r1, h1, h2⟩ := op_rail hG hR e1 e2 e3
  refine cp_s (va_runV (As := [.int e1, .int e2, .int e3]) (rest := []) ⟨hx, hb, hml, hown, htw⟩ (k_X1_rail l D cI cF o qf g gx gy ro rn tn fx fy ar wh X Y N e1 e2 e3 _ h1) (cwV 3 htw gL_law_X1_rail rfl rfl rfl (by decide +kernel) ⟨(Nat.le_of_ble_eq_true rfl), (Nat.le_of_ble_eq_true rfl)⟩) (pre_o hK hnw hO) rfl rfl hl.1 rfl (lv_room (Nat.le_of_ble_eq_true rfl)) dL_law_561 ⟨(Nat.le_of_ble_eq_true rfl), (Nat.le_of_ble_eq_true rfl)⟩) ?_
  refine lv_aload_n hx hb dL_law_564 rfl (lv_at hl 2 rfl) ?_
  refine lv_aload_n hx hb dL_law_565 rfl (lv_at hl 0 rfl) ?_
  refine lv_iload_n hx hb dL_law_566 rfl (lv_at hl 3 rfl) ?_
  refine lv_iconst (v := 1) hx hb dL_law_567 (by decide) ?_
  refine lv_iadd hx hb dL_law_568 ?_
  refine va_sld hx hb hX hbl hbA hS hi1 dL_law_569 ?_
  rw [← he1]
  refine lv_aload_n hx hb dL_law_570 rfl (lv_at hl 0 rfl) ?_
  refine lv_iload_n hx hb dL_law_571 rfl (lv_at hl 3 rfl) ?_
  refine lv_iconst (v := 2) hx hb dL_law_572 (by decide) ?_
  refine lv_iadd hx hb dL_law_573 ?_
  refine va_sld hx hb hX hbl hbA hS hi2 dL_law_574 ?_
  rw [← he2]
  refine lv_aload_n hx hb dL_law_575 rfl (lv_at hl 0 rfl) ?_
  refine lv_iload_n hx hb dL_law_576 rfl (lv_at hl 3 rfl) ?_
  refine lv_iconst (v := 3) hx hb dL_law_577 (by decide) ?_
  refine lv_iadd hx hb dL_law_578 ?_
  refine va_sld hx hb hX hbl hbA hS hi3 dL_law_579 ?_
  rw [← he3]
  refine cp_s (va_runV (As := [.int e1, .int e2, .int e3]) (rest := [.int r1]) ⟨hx, hb, hml, hown, htw⟩ (k_X2_rail l D cI cF m0 m1 m2 m3 m4 m5 pt px py ro rn tn fx fy ar wh ma u v e1 e2 e3 _ h2) (cwV 3 htw gL_law_X2_rail rfl rfl rfl (by decide +kernel) ⟨(Nat.le_of_ble_eq_true rfl), (Nat.le_of_ble_eq_true rfl)⟩) (pre_v (q0 := 0) (ci := 2) hK hm rfl rfl) rfl rfl hl.1 rfl (lv_room (Nat.le_of_ble_eq_true rfl)) dL_law_580 ⟨(Nat.le_of_ble_eq_true rfl), (Nat.le_of_ble_eq_true rfl)⟩) ?_
  refine lv_icmp_eq (tgt := 1090) hx hb dL_law_583 (by decide) (fun _ => ?_) (fun c9 => absurd rfl c9)
  exact cont _ _ ls ⟨ro, rn, tn, fx, fy, ar, wh, X, Y, N, pt, px, py, ma, u, v, hG, hR, hO, hm, hS⟩ hl
