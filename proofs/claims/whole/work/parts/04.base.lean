theorem bin_lt {i : Int32} {n : Nat} (h : bin i n = true) : i.toNatClampNeg < n := (decide_eq_true_iff.mp h).2
/-- as wK, with the word on the nest mate's field -/
def wN (D : va_G) (cI cF : ClassId) (ws : va_W) (U : State) : Prop := va_K D vwCl (tyl cI cF) U ∧ va_Nw nst U ∧ va_P D vwCl ws U.heap
theorem pre_n {s : State} {H : Heap} {D : va_G} {cI cF : ClassId} {As : List Value} {ws : va_W} {a q0 ci : Nat} {C : vw_C} {fs : List Value} (hK : va_K D vwCl (tyl cI cF) s) (hnw : va_Nw nst s) (hP : va_P D vwCl ws H) (hc : vwCl[ci]? = some C) (he : ws[q0]? = some (a, .inr (ci, fs))) : PreV s H C.1 a (va_Pc (.ref a :: As) (fun U => wN D cI cF ws U)) As :=
  ⟨fun a U g mk q => ⟨q.1, va_K.moved (u := U) (U := U.calling g mk a) (Vm.Alike.refl U.vm) q.2.1, q.2.2.1.same rfl rfl, q.2.2.2⟩, va_recv hK hP hc he, fun U hU hW => ⟨rfl, va_K.moved hW.alike hK, hnw.warmF hW, by rw [hU]; exact hP⟩⟩
theorem pre_o {s : State} {H : Heap} {D : va_G} {cI cF : ClassId} {As : List Value} {o qf : Nat} {g gx gy : Nat → Nat} {ro rn tn fx fy ar wh : Int32} {X Y : Nat → Nat → Int32} {N : Nat → Int32} (hK : va_K D vwCl (tyl cI cF) s) (hnw : va_Nw nst s) (hO : drP D cI cF o qf g gx gy ro rn tn fx fy ar wh X Y N H) : PreV s H RX1 o (va_Pc (.ref o :: As) (fun U => wO D cI cF o qf g gx gy ro rn tn fx fy ar wh X Y N U)) As :=
  ⟨fun a U g mk q => ⟨q.1, va_K.moved (u := U) (U := U.calling g mk a) (Vm.Alike.refl U.vm) q.2.1, q.2.2.1.same rfl rfl, q.2.2.2⟩, va_recv (ci := 1) (q0 := 0) hK hO.1 rfl rfl, fun U hU hW => ⟨rfl, va_K.moved hW.alike hK, hnw.warmF hW, by rw [hU]; exact hO⟩⟩
/-! worlds that are written -/
def va_A0 (ws : va_W) : Nat → Prop := fun q => ∃ (k : Nat) (x : va_E), ws[k]? = some (q, x)
theorem va_D_A0 {A : Nat → Prop} {ws : va_W} (h : va_D A ws) : va_D (va_A0 ws) ws := ⟨h.1, fun k q hk => ⟨k, q.2, hk⟩⟩
theorem at_place {ws wc : va_W} {pos : List Nat} (hC : pos.map (fun i => ws[i]?) = wc.map some) {k : Nat} {q : Nat × va_E} (h : wc[k]? = some q) : ∃ i, pos[k]? = some i ∧ ws[i]? = some q := by
  have h1 : (pos.map (fun i => ws[i]?))[k]? = some (some q) := by rw [hC, List.getElem?_map, h]; rfl
  rw [List.getElem?_map] at h1
  cases hi : pos[k]? with
  | none => rw [hi] at h1; cases h1
  | some i => rw [hi] at h1; exact ⟨i, rfl, Option.some.inj h1⟩
theorem va_in {A : Nat → Prop} {ws wc : va_W} {a : Nat} (hD : va_D A ws) (h : va_A0 wc a) (pos : List Nat) (hC : pos.map (fun i => ws[i]?) = wc.map some) : A a := by
  obtain ⟨k, x, h⟩ := h
  obtain ⟨i, -, hi⟩ := at_place hC h
  exact hD.2 i _ hi
theorem va_D_same {A : Nat → Prop} {ws ws' : va_W} (h : va_D A ws) (hm : ws'.map Prod.fst = ws.map Prod.fst) : va_D A ws' := by
  have key : ∀ (k : Nat) (q : Nat × va_E), ws'[k]? = some q → ∃ q0 : Nat × va_E, ws[k]? = some q0 ∧ q0.1 = q.1 := by
    intro k q hk
    have h1 : (ws'.map Prod.fst)[k]? = some q.1 := by rw [List.getElem?_map, hk]; rfl
    rw [hm, List.getElem?_map] at h1
    cases h2 : ws[k]? with
    | none => rw [h2] at h1; cases h1
    | some q0 => rw [h2] at h1; exact ⟨q0, rfl, Option.some.inj h1⟩
  refine ⟨fun i j p q hi hj e => ?_, fun k q hk => ?_⟩
  · obtain ⟨p0, h1, e1⟩ := key i p hi
    obtain ⟨q0, h2, e2⟩ := key j q hj
    exact h.1 i j p0 q0 h1 h2 (by rw [e1, e2, e])
  · obtain ⟨q0, h1, e1⟩ := key k q hk
    rw [← e1]; exact h.2 k q0 h1
/-- behind a call that wrote the cells at 'pos' alone -/
theorem va_fit2 {A : Nat → Prop} {D : va_G} {cl : List vw_C} {ws wc w1 ws' : va_W} {H H1 : Heap} (hP : va_P D cl ws H) (hD : va_D A ws) (hk : ∀ q : Nat, q < H.size → ¬ va_A0 wc q → H1[q]? = H[q]?) (hP1 : va_P D cl w1 H1)
    (pos oth : List Nat) (n : Nat) (h1 : pos.map (fun i => ws'[i]?) = w1.map some) (h2 : oth.map (fun i => ws'[i]?) = oth.map (fun i => ws[i]?)) (hC : pos.map (fun i => ws[i]?) = wc.map some) (hn : ws'.length = n)
    (hcov : (List.range n).all (fun i => pos.contains i || oth.contains i) = true) (hdis : oth.all (fun i => !pos.contains i) = true) : va_P D cl ws' H1 := by
  intro k q hk'
  have hlt : k < n := by rw [← hn]; exact (List.getElem?_eq_some_iff.mp hk').1
  have hc := List.all_eq_true.mp hcov k (List.mem_range.mpr hlt)
  rcases (Bool.or_eq_true _ _).mp hc with hc | hc
  · have hm : k ∈ pos := List.contains_iff_mem.mp hc
    obtain ⟨j, hj⟩ := List.getElem?_of_mem hm
    have e1 : (pos.map (fun i => ws'[i]?))[j]? = some (some q) := by rw [List.getElem?_map, hj]; exact congrArg some hk'
    rw [h1, List.getElem?_map] at e1
    cases h3 : w1[j]? with
    | none => rw [h3] at e1; cases e1
    | some q1 => rw [h3] at e1; cases Option.some.inj (Option.some.inj e1); exact hP1 j _ h3
  · have hm : k ∈ oth := List.contains_iff_mem.mp hc
    obtain ⟨j, hj⟩ := List.getElem?_of_mem hm
    have e1 : (oth.map (fun i => ws'[i]?))[j]? = some (some q) := by rw [List.getElem?_map, hj]; exact congrArg some hk'
    rw [h2, List.getElem?_map, hj] at e1
    have e2 : ws[k]? = some q := Option.some.inj e1
    have hl := (hP k q e2).lt
    refine (hP k q e2).kept (hk q.1 hl (fun hA => ?_))
    obtain ⟨k2, x, h5⟩ := hA
    obtain ⟨i, h6, h7⟩ := at_place hC h5
    have : k = i := hD.1 k i q (q.1, x) e2 h7 rfl
    have hnd := List.all_eq_true.mp hdis k hm
    rw [this] at hnd
    rw [List.contains_iff_mem.mpr (List.mem_of_getElem? h6)] at hnd
    cases hnd
