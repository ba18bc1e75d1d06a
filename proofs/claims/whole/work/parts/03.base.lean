/-! Partial functions that mirror the bytecode (none: the machine would throw, or a loop outruns its count), and the steps by which a walk reads them. -/
def ov {α β : Type} (e : α) (k : α → Option β) : Option β := k e
def bin (i : Int32) (n : Nat) : Bool := decide (0 ≤ i ∧ i.toNatClampNeg < n)
theorem bin_in {i : Int32} {n : Nat} : bin i n = true ↔ vp_in i n := by
  unfold bin vp_in
  rw [decide_eq_true_iff]
  constructor
  · intro h q
    rcases q with q | q
    · exact absurd h.1 (Int32.not_le.mpr q)
    · omega
  · intro h
    refine ⟨?_, ?_⟩
    · exact Int32.not_lt.mp (fun q => h (Or.inl q))
    · exact Nat.lt_of_not_le (fun q => h (Or.inr q))
theorem og_ov {α β : Type} {e v : α} {k : α → Option β} {r : β} (h : ov e k = some r) (hv : v = e) : k v = some r := by subst hv; exact h
theorem og_in {β : Type} {i : Int32} {n : Nat} {a : Option β} {r : β} (h : (if bin i n = true then a else none) = some r) : vp_in i n ∧ a = some r := by
  by_cases c : bin i n = true
  · rw [if_pos c] at h; exact ⟨bin_in.mp c, h⟩
  · rw [if_neg c] at h; cases h
theorem og_c {β : Type} {c : Prop} [Decidable c] {a : Option β} {r : β} (h : (if c then a else none) = some r) : c ∧ a = some r := by
  by_cases q : c
  · rw [if_pos q] at h; exact ⟨q, h⟩
  · rw [if_neg q] at h; cases h
theorem og_nz {β : Type} {c : Prop} [Decidable c] {a : Option β} {r : β} (h : (if c then none else a) = some r) : ¬ c ∧ a = some r := by
  by_cases q : c
  · rw [if_pos q] at h; cases h
  · rw [if_neg q] at h; exact ⟨q, h⟩
theorem og_bind {α β : Type} {a : Option α} {k : α → Option β} {r : β} (h : a.bind k = some r) : ∃ v, a = some v ∧ k v = some r := by
  cases a with
  | none => cases h
  | some v => exact ⟨v, rfl, h⟩
def ret2 {R E β : Type} (o : R ⊕ E) (fr : R → β) (fe : E → β) : β := match o with
  | .inl r => fr r
  | .inr x => fe x
/-- a loop: at most n rounds of 'step' (.inl: go on, .inr: behind it) -/
def lpf {V O : Type} (step : V → Option (V ⊕ O)) : Nat → V → Option O
  | 0, _ => none
  | n + 1, v => (step v).bind (fun x => ret2 x (fun v' => lpf step n v') (fun o => some o))
theorem lpf_P {V O : Type} {step : V → Option (V ⊕ O)} {P : V → Prop} {X : O → Prop}
    (hs : ∀ v x, step v = some x → (∀ v', x = .inl v' → P v') → (∀ o, x = .inr o → X o) → P v) :
    ∀ (n : Nat) (v : V) (o : O), lpf step n v = some o → X o → P v := by
  intro n
  induction n with
  | zero => intro v o h; cases h
  | succ n ih =>
    intro v o h hX
    obtain ⟨x, hx, h⟩ := og_bind (show (step v).bind (fun x => ret2 x (fun v' => lpf step n v') (fun o => some o)) = some o from h)
    refine hs v x hx (fun v' e => ?_) (fun o' e => ?_)
    · subst e; exact ih v' o h hX
    · subst e; cases Option.some.inj (show some o' = some o from h); exact hX
def mabs (x : Int32) : Int32 := if 0 ≤ x then x else 0 - x
def mabsL (x : Int64) : Int64 := if 0 < x then x else -x
def mmax (x y : Int32) : Int32 := if x < y then y else x
def mmin (x y : Int32) : Int32 := if y < x then y else x
/-! answers of methods that write nothing, and of those that write -/
def qS (v : Value) : Array Value → State → Outcome → State → Prop := fun _ st o t => o = .returned (some v) ∧ t.heap = st.heap
def qW (v : Option Value) (A : Nat → Prop) (F : Heap → Prop) : Array Value → State → Outcome → State → Prop := fun _ st o t => o = .returned v ∧ F t.heap ∧ va_F A st t
section BaseW
variable {p : Program} {l : Launch} {e : Env} {R : Room} {s : State} {m : MethodId} {args : Array Value} {below : List Frame} {meth : Method} {c : Code} {H : Heap} {locs : List Loc} {cells slots : Nat} {Q : State → Prop}
variable {pc : Nat} {ls : Array Slot} {rest st0 : List Value} {a : Array Value}
theorem cp_s {v : Value} (hr : va_Run p l e R s m args below meth c H locs cells slots 0 0 (F0 m pc ls st0) rest (qS v a) (fun _ => False))
    (kk : W p l e R s m args below meth c H locs cells slots Q (F0 m (pc + 3) ls (v :: rest))) : W p l e R s m args below meth c H locs cells slots Q (F0 m pc ls st0) := by
  intro T hT X
  obtain ⟨v', st₀, t, T', L, h0, X', hL, e1, e2, ⟨hv, hh⟩, st⟩ := hr T hT X
  cases hv
  obtain ⟨t2, a1, b1⟩ := kk T' (by rw [e1, hh, h0]) (Stand.forget X' (fun q h => (hL q h).elim))
  exact ⟨t2, st t2 a1, b1⟩
theorem cp_w {v : Value} {A0 A1 : Nat → Prop} {F : Heap → Prop} {H0 : Heap} (hr : va_Run p l e R s m args below meth c H locs cells slots 0 0 (F0 m pc ls st0) rest (qW (some v) A1 F a) A1) (hS : va_S A0 H0 H locs) (hA : ∀ q, A1 q → A0 q)
    (kk : ∀ (H1 : Heap) (locs1 : List Loc), F H1 → H.size ≤ H1.size → (∀ q : Nat, q < H.size → ¬ A1 q → H1[q]? = H[q]?) → va_S A0 H0 H1 locs1 → W p l e R s m args below meth c H1 locs1 cells slots Q (F0 m (pc + 3) ls (v :: rest))) : W p l e R s m args below meth c H locs cells slots Q (F0 m pc ls st0) := by
  intro T hT X
  obtain ⟨v', st₀, t, T', L, h0, X', hL, e1, e2, ⟨hv, hF, hz, hk⟩, st⟩ := hr T hT X
  cases hv
  rw [h0] at hz hk
  obtain ⟨t2, a1, b1⟩ := kk T'.heap (locs ++ L) (by rw [e1]; exact hF) (by rw [e1]; exact hz) (fun q h1 h2 => by rw [e1]; exact hk q h1 h2)
    ⟨Nat.le_trans hS.1 (by rw [e1]; exact hz), fun q h1 h2 => by rw [e1, hk q (Nat.lt_of_lt_of_le h1 hS.1) (fun z => h2 (hA q z))]; exact hS.2.1 q h1 h2, fun q hq => by
      rcases List.mem_append.mp hq with h | h
      · exact hS.2.2 q h
      · exact hA _ (hL q h)⟩ T' rfl X'
  exact ⟨t2, st t2 a1, b1⟩
theorem cp_v {A0 A1 : Nat → Prop} {F : Heap → Prop} {H0 : Heap} (hr : va_Run p l e R s m args below meth c H locs cells slots 0 0 (F0 m pc ls st0) rest (qW none A1 F a) A1) (hS : va_S A0 H0 H locs) (hA : ∀ q, A1 q → A0 q)
    (kk : ∀ (H1 : Heap) (locs1 : List Loc), F H1 → H.size ≤ H1.size → (∀ q : Nat, q < H.size → ¬ A1 q → H1[q]? = H[q]?) → va_S A0 H0 H1 locs1 → W p l e R s m args below meth c H1 locs1 cells slots Q (F0 m (pc + 3) ls rest)) : W p l e R s m args below meth c H locs cells slots Q (F0 m pc ls st0) := by
  intro T hT X
  obtain ⟨v', st₀, t, T', L, h0, X', hL, e1, e2, ⟨hv, hF, hz, hk⟩, st⟩ := hr T hT X
  cases hv
  rw [h0] at hz hk
  obtain ⟨t2, a1, b1⟩ := kk T'.heap (locs ++ L) (by rw [e1]; exact hF) (by rw [e1]; exact hz) (fun q h1 h2 => by rw [e1]; exact hk q h1 h2)
    ⟨Nat.le_trans hS.1 (by rw [e1]; exact hz), fun q h1 h2 => by rw [e1, hk q (Nat.lt_of_lt_of_le h1 hS.1) (fun z => h2 (hA q z))]; exact hS.2.1 q h1 h2, fun q hq => by
      rcases List.mem_append.mp hq with h | h
      · exact hS.2.2 q h
      · exact hA _ (hL q h)⟩ T' rfl X'
  exact ⟨t2, st t2 a1, b1⟩
/-- where ways meet: the rest once, for all locals that fit -/
theorem wj {PC : Nat} {ST st : List Value} (P : Array Slot → Prop)
    (a : ∀ ls', P ls' → W p l e R s m args below meth c H locs cells slots Q (F0 m PC ls' ST))
    (b : (∀ ls', P ls' → W p l e R s m args below meth c H locs cells slots Q (F0 m PC ls' ST)) → W p l e R s m args below meth c H locs cells slots Q (F0 m pc ls st)) : W p l e R s m args below meth c H locs cells slots Q (F0 m pc ls st) := b a
theorem wjH {PC : Nat} {ST st : List Value} (P : Array Slot → Heap → List Loc → Prop)
    (a : ∀ ls' H' locs', P ls' H' locs' → W p l e R s m args below meth c H' locs' cells slots Q (F0 m PC ls' ST))
    (b : (∀ ls' H' locs', P ls' H' locs' → W p l e R s m args below meth c H' locs' cells slots Q (F0 m PC ls' ST)) → W p l e R s m args below meth c H locs cells slots Q (F0 m pc ls st)) : W p l e R s m args below meth c H locs cells slots Q (F0 m pc ls st) := b a
/-- a loop without a return in it -/
theorem wl {V O : Type} {step : V → Option (V ⊕ O)} {N : Nat} {v : V} {o : O} (hN : lpf step N v = some o) (PC XC : Nat) (L : V → Array Slot → Prop) (LX : O → Array Slot → Prop)
    (body : ∀ (v : V) (x : V ⊕ O), step v = some x → (∀ v' ls, x = .inl v' → L v' ls → W p l e R s m args below meth c H locs cells slots Q (F0 m PC ls [])) → (∀ o ls, x = .inr o → LX o ls → W p l e R s m args below meth c H locs cells slots Q (F0 m XC ls [])) → ∀ ls, L v ls → W p l e R s m args below meth c H locs cells slots Q (F0 m PC ls []))
    (exit : ∀ ls, LX o ls → W p l e R s m args below meth c H locs cells slots Q (F0 m XC ls []))
    (hl : L v ls) : W p l e R s m args below meth c H locs cells slots Q (F0 m PC ls []) :=
  lpf_P (P := fun v => ∀ ls, L v ls → W p l e R s m args below meth c H locs cells slots Q (F0 m PC ls [])) (X := fun o => ∀ ls, LX o ls → W p l e R s m args below meth c H locs cells slots Q (F0 m XC ls []))
    (fun v x hx ki kx ls hl => body v x hx (fun v' ls e hl => ki v' e ls hl) (fun o ls e hl => kx o e ls hl) ls hl) N v o hN exit ls hl
/-- a loop with a return in it -/
theorem wlr {V T O : Type} {step : V → Option (V ⊕ (T ⊕ O))} {N : Nat} {v : V} {o : T ⊕ O} {r0 : T} (hN : lpf step N v = some o) (PC XC : Nat) (L : V → Array Slot → Prop) (LX : O → Array Slot → Prop)
    (body : ∀ (v : V) (x : V ⊕ (T ⊕ O)), step v = some x → (∀ v' ls, x = .inl v' → L v' ls → W p l e R s m args below meth c H locs cells slots Q (F0 m PC ls [])) → (∀ o ls, x = .inr (.inr o) → LX o ls → W p l e R s m args below meth c H locs cells slots Q (F0 m XC ls [])) → (∀ r, x = .inr (.inl r) → r = r0) → ∀ ls, L v ls → W p l e R s m args below meth c H locs cells slots Q (F0 m PC ls []))
    (hr0 : ∀ r, o = .inl r → r = r0)
    (exit : ∀ o' ls, o = .inr o' → LX o' ls → W p l e R s m args below meth c H locs cells slots Q (F0 m XC ls []))
    (hl : L v ls) : W p l e R s m args below meth c H locs cells slots Q (F0 m PC ls []) :=
  lpf_P (P := fun v => ∀ ls, L v ls → W p l e R s m args below meth c H locs cells slots Q (F0 m PC ls [])) (X := fun o => (∀ r, o = .inl r → r = r0) ∧ ∀ o' ls, o = .inr o' → LX o' ls → W p l e R s m args below meth c H locs cells slots Q (F0 m XC ls []))
    (fun v x hx ki kx ls hl => body v x hx (fun v' ls e hl => ki v' e ls hl) (fun o ls e hl => (kx (.inr o) e).2 o ls rfl hl) (fun r e => (kx (.inl r) e).1 r rfl) ls hl) N v o hN ⟨hr0, exit⟩ ls hl
/-- a loop that writes -/
theorem wlH {V O : Type} {step : V → Option (V ⊕ O)} {N : Nat} {v : V} {o : O} (hN : lpf step N v = some o) (PC XC : Nat) (L : V → Array Slot → Heap → List Loc → Prop) (LX : O → Array Slot → Heap → List Loc → Prop)
    (body : ∀ (v : V) (x : V ⊕ O), step v = some x → (∀ v' ls H locs, x = .inl v' → L v' ls H locs → W p l e R s m args below meth c H locs cells slots Q (F0 m PC ls [])) → (∀ o ls H locs, x = .inr o → LX o ls H locs → W p l e R s m args below meth c H locs cells slots Q (F0 m XC ls [])) → ∀ ls H locs, L v ls H locs → W p l e R s m args below meth c H locs cells slots Q (F0 m PC ls []))
    (exit : ∀ ls H locs, LX o ls H locs → W p l e R s m args below meth c H locs cells slots Q (F0 m XC ls []))
    (hl : L v ls H locs) : W p l e R s m args below meth c H locs cells slots Q (F0 m PC ls []) :=
  lpf_P (P := fun v => ∀ ls H locs, L v ls H locs → W p l e R s m args below meth c H locs cells slots Q (F0 m PC ls [])) (X := fun o => ∀ ls H locs, LX o ls H locs → W p l e R s m args below meth c H locs cells slots Q (F0 m XC ls []))
    (fun v x hx ki kx ls H locs hl => body v x hx (fun v' ls H locs e hl => ki v' e ls H locs hl) (fun o ls H locs e hl => kx o e ls H locs hl) ls H locs hl) N v o hN exit ls H locs hl
end BaseW
/-! worlds: a figure; two figures; the object and its row of figures; with one figure, with two; the model -/
abbrev tyl (cI cF : ClassId) : List (ClassId × FieldType) := [(cI, .int), (cF, .object "DrawnAreas$Figure")]
abbrev nst : Cond := .fieldLinkNest "DrawnAreas" 46 "DrawnAreas$Figure" "size" "I" "DrawnAreas"
abbrev figW (cI : ClassId) (q qx qy : Nat) (xs ys : Nat → Int32) (n : Int32) : va_W := [(q, .inr (0, [.ref qx, .ref qy, .int n])), (qx, .inl (cI, 24, .inl xs)), (qy, .inl (cI, 24, .inl ys))]
abbrev fig2W (cI : ClassId) (q qx qy : Nat) (xs ys : Nat → Int32) (n : Int32) (w wx wy : Nat) (us vs : Nat → Int32) (k : Int32) : va_W := [(q, .inr (0, [.ref qx, .ref qy, .int n])), (qx, .inl (cI, 24, .inl xs)), (qy, .inl (cI, 24, .inl ys)), (w, .inr (0, [.ref wx, .ref wy, .int k])), (wx, .inl (cI, 24, .inl us)), (wy, .inl (cI, 24, .inl vs))]
abbrev drW (cF : ClassId) (o qf : Nat) (g : Nat → Nat) (ro rn tn fx fy ar wh : Int32) : va_W := [(o, .inr (1, [.ref qf, .int ro, .int rn, .int tn, .int fx, .int fy, .int ar, .int wh])), (qf, .inl (cF, 6, .inr (.inr (.inr (.inr (fun k => some (g k)))))))]
abbrev drfW (cI cF : ClassId) (o qf : Nat) (g : Nat → Nat) (ro rn tn fx fy ar wh : Int32) (q qx qy : Nat) (xs ys : Nat → Int32) (n : Int32) : va_W := [(o, .inr (1, [.ref qf, .int ro, .int rn, .int tn, .int fx, .int fy, .int ar, .int wh])), (qf, .inl (cF, 6, .inr (.inr (.inr (.inr (fun k => some (g k))))))), (q, .inr (0, [.ref qx, .ref qy, .int n])), (qx, .inl (cI, 24, .inl xs)), (qy, .inl (cI, 24, .inl ys))]
abbrev drffW (cI cF : ClassId) (o qf : Nat) (g : Nat → Nat) (ro rn tn fx fy ar wh : Int32) (q qx qy : Nat) (xs ys : Nat → Int32) (n : Int32) (w wx wy : Nat) (us vs : Nat → Int32) (k : Int32) : va_W := [(o, .inr (1, [.ref qf, .int ro, .int rn, .int tn, .int fx, .int fy, .int ar, .int wh])), (qf, .inl (cF, 6, .inr (.inr (.inr (.inr (fun k => some (g k))))))), (q, .inr (0, [.ref qx, .ref qy, .int n])), (qx, .inl (cI, 24, .inl xs)), (qy, .inl (cI, 24, .inl ys)), (w, .inr (0, [.ref wx, .ref wy, .int k])), (wx, .inl (cI, 24, .inl us)), (wy, .inl (cI, 24, .inl vs))]
abbrev moW (cI : ClassId) (m0 m1 m2 m3 m4 m5 : Nat) (pt px py : Nat → Int32) (ro an te fx fy ar be ma : Int32) (nx ny : Nat → Int32) : va_W := [(m0, .inr (2, [.ref m1, .ref m2, .ref m3, .int ro, .int an, .int te, .int fx, .int fy, .int ar, .int be, .int ma, .ref m4, .ref m5])), (m1, .inl (cI, 6, .inl pt)), (m2, .inl (cI, 144, .inl px)), (m3, .inl (cI, 144, .inl py)), (m4, .inl (cI, 48, .inl nx)), (m5, .inl (cI, 48, .inl ny))]
/-- what a method may take as given: the classes, and the cells ws -/
def wK (D : va_G) (cI cF : ClassId) (ws : va_W) (U : State) : Prop := va_K D vwCl (tyl cI cF) U ∧ va_P D vwCl ws U.heap
/-- the same, for a method that writes: the cells are apart -/
def wD (D : va_G) (cI cF : ClassId) (ws : va_W) (U : State) : Prop := va_K D vwCl (tyl cI cF) U ∧ va_P D vwCl ws U.heap ∧ va_D (fun _ => True) ws
/-- the whole object: itself, its row, its six figures -/
def drP (D : va_G) (cI cF : ClassId) (o qf : Nat) (g gx gy : Nat → Nat) (ro rn tn fx fy ar wh : Int32) (X Y : Nat → Nat → Int32) (N : Nat → Int32) (H : Heap) : Prop :=
  va_P D vwCl (drW cF o qf g ro rn tn fx fy ar wh) H ∧ ∀ k, k < 6 → va_P D vwCl (figW cI (g k) (gx k) (gy k) (X k) (Y k) (N k)) H
def wO (D : va_G) (cI cF : ClassId) (o qf : Nat) (g gx gy : Nat → Nat) (ro rn tn fx fy ar wh : Int32) (X Y : Nat → Nat → Int32) (N : Nat → Int32) (U : State) : Prop :=
  va_K D vwCl (tyl cI cF) U ∧ va_Nw nst U ∧ drP D cI cF o qf g gx gy ro rn tn fx fy ar wh X Y N U.heap
section BasePre
variable {s : State} {H : Heap} {D : va_G} {cI cF : ClassId} {As : List Value} {ws : va_W}
theorem pre_v {a q0 ci : Nat} {C : vw_C} {fs : List Value} (hK : va_K D vwCl (tyl cI cF) s) (hP : va_P D vwCl ws H) (hc : vwCl[ci]? = some C) (he : ws[q0]? = some (a, .inr (ci, fs))) : PreV s H C.1 a (va_Pc (.ref a :: As) (fun U => wK D cI cF ws U)) As :=
  ⟨fun a U g mk q => ⟨q.1, va_K.moved (u := U) (U := U.calling g mk a) (Vm.Alike.refl U.vm) q.2.1, q.2.2⟩, va_recv hK hP hc he, fun U hU hW => ⟨rfl, va_K.moved hW.alike hK, by rw [hU]; exact hP⟩⟩
theorem pre_d {a q0 ci : Nat} {C : vw_C} {fs : List Value} {A : Nat → Prop} (hK : va_K D vwCl (tyl cI cF) s) (hP : va_P D vwCl ws H) (hD : va_D A ws) (hc : vwCl[ci]? = some C) (he : ws[q0]? = some (a, .inr (ci, fs))) : PreV s H C.1 a (va_Pc (.ref a :: As) (fun U => wD D cI cF ws U)) As :=
  ⟨fun a U g mk q => ⟨q.1, va_K.moved (u := U) (U := U.calling g mk a) (Vm.Alike.refl U.vm) q.2.1, q.2.2⟩, va_recv hK hP hc he, fun U hU hW => ⟨rfl, va_K.moved hW.alike hK, by rw [hU]; exact hP, hD.weaken (fun _ _ _ _ => trivial)⟩⟩
theorem pre_s : PreS s H (va_Pc As (fun _ => True)) As := ⟨fun _ _ _ _ q => q, fun _ _ _ => ⟨rfl, trivial⟩⟩
end BasePre
