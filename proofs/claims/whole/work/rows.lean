section
-- ===== PART A: goes FIRST, ahead of the names: the tables' words, and 'selects' of the private methods out of them =====
/-- a private method of a class that the tables say can be made, by its rows of tables_1 -/
def lw_okq (q : MethodName × Nat) : Prop := (q.1.cls ≠ "java/lang/invoke/MethodHandle" ∧ q.1.cls ≠ "java/lang/invoke/VarHandle") ∧ Cond.instantiable q.1.cls q.2 ∈ tables_1 ∧ Cond.privateMethod q.1 ∈ tables_1 ∧ Cond.instanceMethod q.1 ∈ tables_1
theorem lw_p0 : lw_okq (⟨"DrawnAreas", "find", "(I)LDrawnAreas$Figure;"⟩, 8) := ⟨⟨by decide +kernel, by decide +kernel⟩, List.mem_of_getElem? (i := 7) (by decide +kernel), List.mem_of_getElem? (i := 63) (by decide +kernel), List.mem_of_getElem? (i := 64) (by decide +kernel)⟩
theorem lw_p1 : lw_okq (⟨"DrawnAreas$Figure", "foldsBack", "(I)Z"⟩, 3) := ⟨⟨by decide +kernel, by decide +kernel⟩, List.mem_of_getElem? (i := 16) (by decide +kernel), List.mem_of_getElem? (i := 151) (by decide +kernel), List.mem_of_getElem? (i := 152) (by decide +kernel)⟩
theorem lw_p2 : lw_okq (⟨"DrawnAreas$Figure", "leftOf", "(IJJ)J"⟩, 3) := ⟨⟨by decide +kernel, by decide +kernel⟩, List.mem_of_getElem? (i := 16) (by decide +kernel), List.mem_of_getElem? (i := 155) (by decide +kernel), List.mem_of_getElem? (i := 156) (by decide +kernel)⟩
theorem lw_p3 : lw_okq (⟨"DrawnAreas$Figure", "sidesMeet", "(II)Z"⟩, 3) := ⟨⟨by decide +kernel, by decide +kernel⟩, List.mem_of_getElem? (i := 16) (by decide +kernel), List.mem_of_getElem? (i := 159) (by decide +kernel), List.mem_of_getElem? (i := 160) (by decide +kernel)⟩
theorem lw_p4 : lw_okq (⟨"DrawnAreas$Figure", "sideCarries", "(III)Z"⟩, 3) := ⟨⟨by decide +kernel, by decide +kernel⟩, List.mem_of_getElem? (i := 16) (by decide +kernel), List.mem_of_getElem? (i := 163) (by decide +kernel), List.mem_of_getElem? (i := 164) (by decide +kernel)⟩
theorem lw_p5 : lw_okq (⟨"DrawnAreas$Figure", "parts", "(II)Z"⟩, 3) := ⟨⟨by decide +kernel, by decide +kernel⟩, List.mem_of_getElem? (i := 16) (by decide +kernel), List.mem_of_getElem? (i := 176) (by decide +kernel), List.mem_of_getElem? (i := 177) (by decide +kernel)⟩
theorem lw_p6 : lw_okq (⟨"DrawnAreas", "goesRound", "(LDrawnAreas$Figure;)Z"⟩, 8) := ⟨⟨by decide +kernel, by decide +kernel⟩, List.mem_of_getElem? (i := 7) (by decide +kernel), List.mem_of_getElem? (i := 210) (by decide +kernel), List.mem_of_getElem? (i := 211) (by decide +kernel)⟩
theorem lw_p7 : lw_okq (⟨"DrawnAreas", "neverLeftOf", "(LDrawnAreas$Figure;I)Z"⟩, 8) := ⟨⟨by decide +kernel, by decide +kernel⟩, List.mem_of_getElem? (i := 7) (by decide +kernel), List.mem_of_getElem? (i := 249) (by decide +kernel), List.mem_of_getElem? (i := 250) (by decide +kernel)⟩
theorem lw_p8 : lw_okq (⟨"DrawnAreas", "neverRightOf", "(LDrawnAreas$Figure;I)Z"⟩, 8) := ⟨⟨by decide +kernel, by decide +kernel⟩, List.mem_of_getElem? (i := 7) (by decide +kernel), List.mem_of_getElem? (i := 264) (by decide +kernel), List.mem_of_getElem? (i := 265) (by decide +kernel)⟩
theorem lw_p9 : lw_okq (⟨"DrawnAreas", "shutLow", "(I)J"⟩, 8) := ⟨⟨by decide +kernel, by decide +kernel⟩, List.mem_of_getElem? (i := 7) (by decide +kernel), List.mem_of_getElem? (i := 273) (by decide +kernel), List.mem_of_getElem? (i := 274) (by decide +kernel)⟩
theorem lw_p10 : lw_okq (⟨"DrawnAreas", "heightRoot", "(I)J"⟩, 8) := ⟨⟨by decide +kernel, by decide +kernel⟩, List.mem_of_getElem? (i := 7) (by decide +kernel), List.mem_of_getElem? (i := 278) (by decide +kernel), List.mem_of_getElem? (i := 279) (by decide +kernel)⟩
theorem lw_p11 : lw_okq (⟨"DrawnAreas", "shutHigh", "(I)J"⟩, 8) := ⟨⟨by decide +kernel, by decide +kernel⟩, List.mem_of_getElem? (i := 7) (by decide +kernel), List.mem_of_getElem? (i := 286) (by decide +kernel), List.mem_of_getElem? (i := 287) (by decide +kernel)⟩
theorem lw_p12 : lw_okq (⟨"DrawnAreas", "gearedRound", "(LDrawnAreas$Figure;II)J"⟩, 8) := ⟨⟨by decide +kernel, by decide +kernel⟩, List.mem_of_getElem? (i := 7) (by decide +kernel), List.mem_of_getElem? (i := 294) (by decide +kernel), List.mem_of_getElem? (i := 295) (by decide +kernel)⟩
theorem lw_p13 : lw_okq (⟨"DrawnAreas", "withPi", "()J"⟩, 8) := ⟨⟨by decide +kernel, by decide +kernel⟩, List.mem_of_getElem? (i := 7) (by decide +kernel), List.mem_of_getElem? (i := 313) (by decide +kernel), List.mem_of_getElem? (i := 314) (by decide +kernel)⟩
theorem lw_p14 : lw_okq (⟨"DrawnAreas", "beyondFolded", "(LDrawnAreas$Figure;)Z"⟩, 8) := ⟨⟨by decide +kernel, by decide +kernel⟩, List.mem_of_getElem? (i := 7) (by decide +kernel), List.mem_of_getElem? (i := 321) (by decide +kernel), List.mem_of_getElem? (i := 322) (by decide +kernel)⟩
theorem lw_p15 : lw_okq (⟨"DrawnAreas", "withinStretched", "(LDrawnAreas$Figure;)Z"⟩, 8) := ⟨⟨by decide +kernel, by decide +kernel⟩, List.mem_of_getElem? (i := 7) (by decide +kernel), List.mem_of_getElem? (i := 325) (by decide +kernel), List.mem_of_getElem? (i := 326) (by decide +kernel)⟩
def lw_privs_1 : List (MethodName × Nat) := [(⟨"DrawnAreas", "find", "(I)LDrawnAreas$Figure;"⟩, 8), (⟨"DrawnAreas$Figure", "foldsBack", "(I)Z"⟩, 3), (⟨"DrawnAreas$Figure", "leftOf", "(IJJ)J"⟩, 3), (⟨"DrawnAreas$Figure", "sidesMeet", "(II)Z"⟩, 3), (⟨"DrawnAreas$Figure", "sideCarries", "(III)Z"⟩, 3), (⟨"DrawnAreas$Figure", "parts", "(II)Z"⟩, 3), (⟨"DrawnAreas", "goesRound", "(LDrawnAreas$Figure;)Z"⟩, 8), (⟨"DrawnAreas", "neverLeftOf", "(LDrawnAreas$Figure;I)Z"⟩, 8), (⟨"DrawnAreas", "neverRightOf", "(LDrawnAreas$Figure;I)Z"⟩, 8), (⟨"DrawnAreas", "shutLow", "(I)J"⟩, 8), (⟨"DrawnAreas", "heightRoot", "(I)J"⟩, 8), (⟨"DrawnAreas", "shutHigh", "(I)J"⟩, 8), (⟨"DrawnAreas", "gearedRound", "(LDrawnAreas$Figure;II)J"⟩, 8), (⟨"DrawnAreas", "withPi", "()J"⟩, 8), (⟨"DrawnAreas", "beyondFolded", "(LDrawnAreas$Figure;)Z"⟩, 8), (⟨"DrawnAreas", "withinStretched", "(LDrawnAreas$Figure;)Z"⟩, 8)]
theorem lw_r1 : ∀ q ∈ lw_privs_1, lw_okq q := List.forall_mem_cons.mpr ⟨lw_p0, List.forall_mem_cons.mpr ⟨lw_p1, List.forall_mem_cons.mpr ⟨lw_p2, List.forall_mem_cons.mpr ⟨lw_p3, List.forall_mem_cons.mpr ⟨lw_p4, List.forall_mem_cons.mpr ⟨lw_p5, List.forall_mem_cons.mpr ⟨lw_p6, List.forall_mem_cons.mpr ⟨lw_p7, List.forall_mem_cons.mpr ⟨lw_p8, List.forall_mem_cons.mpr ⟨lw_p9, List.forall_mem_cons.mpr ⟨lw_p10, List.forall_mem_cons.mpr ⟨lw_p11, List.forall_mem_cons.mpr ⟨lw_p12, List.forall_mem_cons.mpr ⟨lw_p13, List.forall_mem_cons.mpr ⟨lw_p14, List.forall_mem_cons.mpr ⟨lw_p15, fun _ h => absurd h List.not_mem_nil⟩⟩⟩⟩⟩⟩⟩⟩⟩⟩⟩⟩⟩⟩⟩⟩
theorem lw_p16 : lw_okq (⟨"DrawnAreas$Figure", "crosses", "(II)Z"⟩, 3) := ⟨⟨by decide +kernel, by decide +kernel⟩, List.mem_of_getElem? (i := 16) (by decide +kernel), List.mem_of_getElem? (i := 374) (by decide +kernel), List.mem_of_getElem? (i := 375) (by decide +kernel)⟩
theorem lw_p17 : lw_okq (⟨"DrawnAreas$Figure", "crossingLower", "(I)I"⟩, 3) := ⟨⟨by decide +kernel, by decide +kernel⟩, List.mem_of_getElem? (i := 16) (by decide +kernel), List.mem_of_getElem? (i := 382) (by decide +kernel), List.mem_of_getElem? (i := 383) (by decide +kernel)⟩
theorem lw_p18 : lw_okq (⟨"DrawnAreas$Figure", "crossingUpper", "(II)I"⟩, 3) := ⟨⟨by decide +kernel, by decide +kernel⟩, List.mem_of_getElem? (i := 16) (by decide +kernel), List.mem_of_getElem? (i := 386) (by decide +kernel), List.mem_of_getElem? (i := 387) (by decide +kernel)⟩
theorem lw_p19 : lw_okq (⟨"DrawnAreasModel", "isPoint", "(II)Z"⟩, 13) := ⟨⟨by decide +kernel, by decide +kernel⟩, List.mem_of_getElem? (i := 394) (by decide +kernel), List.mem_of_getElem? (i := 457) (by decide +kernel), List.mem_of_getElem? (i := 458) (by decide +kernel)⟩
theorem lw_p20 : lw_okq (⟨"DrawnAreasModel", "x", "(II)I"⟩, 13) := ⟨⟨by decide +kernel, by decide +kernel⟩, List.mem_of_getElem? (i := 394) (by decide +kernel), List.mem_of_getElem? (i := 469) (by decide +kernel), List.mem_of_getElem? (i := 470) (by decide +kernel)⟩
theorem lw_p21 : lw_okq (⟨"DrawnAreasModel", "y", "(II)I"⟩, 13) := ⟨⟨by decide +kernel, by decide +kernel⟩, List.mem_of_getElem? (i := 394) (by decide +kernel), List.mem_of_getElem? (i := 473) (by decide +kernel), List.mem_of_getElem? (i := 474) (by decide +kernel)⟩
theorem lw_p22 : lw_okq (⟨"DrawnAreasModel", "lay", "(II)V"⟩, 13) := ⟨⟨by decide +kernel, by decide +kernel⟩, List.mem_of_getElem? (i := 394) (by decide +kernel), List.mem_of_getElem? (i := 481) (by decide +kernel), List.mem_of_getElem? (i := 482) (by decide +kernel)⟩
theorem lw_p23 : lw_okq (⟨"DrawnAreasModel", "take", "(I)I"⟩, 13) := ⟨⟨by decide +kernel, by decide +kernel⟩, List.mem_of_getElem? (i := 394) (by decide +kernel), List.mem_of_getElem? (i := 485) (by decide +kernel), List.mem_of_getElem? (i := 486) (by decide +kernel)⟩
theorem lw_p24 : lw_okq (⟨"DrawnAreasModel", "isClosed", "(I)Z"⟩, 13) := ⟨⟨by decide +kernel, by decide +kernel⟩, List.mem_of_getElem? (i := 394) (by decide +kernel), List.mem_of_getElem? (i := 494) (by decide +kernel), List.mem_of_getElem? (i := 495) (by decide +kernel)⟩
theorem lw_p25 : lw_okq (⟨"DrawnAreasModel", "twiceOf", "(I)J"⟩, 13) := ⟨⟨by decide +kernel, by decide +kernel⟩, List.mem_of_getElem? (i := 394) (by decide +kernel), List.mem_of_getElem? (i := 498) (by decide +kernel), List.mem_of_getElem? (i := 499) (by decide +kernel)⟩
theorem lw_p26 : lw_okq (⟨"DrawnAreasModel", "turnsBack", "(II)Z"⟩, 13) := ⟨⟨by decide +kernel, by decide +kernel⟩, List.mem_of_getElem? (i := 394) (by decide +kernel), List.mem_of_getElem? (i := 507) (by decide +kernel), List.mem_of_getElem? (i := 508) (by decide +kernel)⟩
theorem lw_p27 : lw_okq (⟨"DrawnAreasModel", "meet", "(III)Z"⟩, 13) := ⟨⟨by decide +kernel, by decide +kernel⟩, List.mem_of_getElem? (i := 394) (by decide +kernel), List.mem_of_getElem? (i := 511) (by decide +kernel), List.mem_of_getElem? (i := 512) (by decide +kernel)⟩
theorem lw_p28 : lw_okq (⟨"DrawnAreasModel", "isOn", "(IIII)Z"⟩, 13) := ⟨⟨by decide +kernel, by decide +kernel⟩, List.mem_of_getElem? (i := 394) (by decide +kernel), List.mem_of_getElem? (i := 515) (by decide +kernel), List.mem_of_getElem? (i := 516) (by decide +kernel)⟩
theorem lw_p29 : lw_okq (⟨"DrawnAreasModel", "windsOf", "(III)I"⟩, 13) := ⟨⟨by decide +kernel, by decide +kernel⟩, List.mem_of_getElem? (i := 394) (by decide +kernel), List.mem_of_getElem? (i := 529) (by decide +kernel), List.mem_of_getElem? (i := 530) (by decide +kernel)⟩
theorem lw_p30 : lw_okq (⟨"DrawnAreasModel", "canGo", "(I)Z"⟩, 13) := ⟨⟨by decide +kernel, by decide +kernel⟩, List.mem_of_getElem? (i := 394) (by decide +kernel), List.mem_of_getElem? (i := 545) (by decide +kernel), List.mem_of_getElem? (i := 546) (by decide +kernel)⟩
theorem lw_p31 : lw_okq (⟨"DrawnAreasModel", "along", "(III)J"⟩, 13) := ⟨⟨by decide +kernel, by decide +kernel⟩, List.mem_of_getElem? (i := 394) (by decide +kernel), List.mem_of_getElem? (i := 549) (by decide +kernel), List.mem_of_getElem? (i := 550) (by decide +kernel)⟩
def lw_privs_2 : List (MethodName × Nat) := [(⟨"DrawnAreas$Figure", "crosses", "(II)Z"⟩, 3), (⟨"DrawnAreas$Figure", "crossingLower", "(I)I"⟩, 3), (⟨"DrawnAreas$Figure", "crossingUpper", "(II)I"⟩, 3), (⟨"DrawnAreasModel", "isPoint", "(II)Z"⟩, 13), (⟨"DrawnAreasModel", "x", "(II)I"⟩, 13), (⟨"DrawnAreasModel", "y", "(II)I"⟩, 13), (⟨"DrawnAreasModel", "lay", "(II)V"⟩, 13), (⟨"DrawnAreasModel", "take", "(I)I"⟩, 13), (⟨"DrawnAreasModel", "isClosed", "(I)Z"⟩, 13), (⟨"DrawnAreasModel", "twiceOf", "(I)J"⟩, 13), (⟨"DrawnAreasModel", "turnsBack", "(II)Z"⟩, 13), (⟨"DrawnAreasModel", "meet", "(III)Z"⟩, 13), (⟨"DrawnAreasModel", "isOn", "(IIII)Z"⟩, 13), (⟨"DrawnAreasModel", "windsOf", "(III)I"⟩, 13), (⟨"DrawnAreasModel", "canGo", "(I)Z"⟩, 13), (⟨"DrawnAreasModel", "along", "(III)J"⟩, 13)]
theorem lw_r2 : ∀ q ∈ lw_privs_2, lw_okq q := List.forall_mem_cons.mpr ⟨lw_p16, List.forall_mem_cons.mpr ⟨lw_p17, List.forall_mem_cons.mpr ⟨lw_p18, List.forall_mem_cons.mpr ⟨lw_p19, List.forall_mem_cons.mpr ⟨lw_p20, List.forall_mem_cons.mpr ⟨lw_p21, List.forall_mem_cons.mpr ⟨lw_p22, List.forall_mem_cons.mpr ⟨lw_p23, List.forall_mem_cons.mpr ⟨lw_p24, List.forall_mem_cons.mpr ⟨lw_p25, List.forall_mem_cons.mpr ⟨lw_p26, List.forall_mem_cons.mpr ⟨lw_p27, List.forall_mem_cons.mpr ⟨lw_p28, List.forall_mem_cons.mpr ⟨lw_p29, List.forall_mem_cons.mpr ⟨lw_p30, List.forall_mem_cons.mpr ⟨lw_p31, fun _ h => absurd h List.not_mem_nil⟩⟩⟩⟩⟩⟩⟩⟩⟩⟩⟩⟩⟩⟩⟩⟩
theorem lw_p32 : lw_okq (⟨"DrawnAreasModel", "standsWell", "(IIII)Z"⟩, 13) := ⟨⟨by decide +kernel, by decide +kernel⟩, List.mem_of_getElem? (i := 394) (by decide +kernel), List.mem_of_getElem? (i := 568) (by decide +kernel), List.mem_of_getElem? (i := 569) (by decide +kernel)⟩
theorem lw_p33 : lw_okq (⟨"DrawnAreasModel", "dips", "(IIIIJ)Z"⟩, 13) := ⟨⟨by decide +kernel, by decide +kernel⟩, List.mem_of_getElem? (i := 394) (by decide +kernel), List.mem_of_getElem? (i := 572) (by decide +kernel), List.mem_of_getElem? (i := 573) (by decide +kernel)⟩
theorem lw_p34 : lw_okq (⟨"DrawnAreasModel", "slope", "(I)J"⟩, 13) := ⟨⟨by decide +kernel, by decide +kernel⟩, List.mem_of_getElem? (i := 394) (by decide +kernel), List.mem_of_getElem? (i := 581) (by decide +kernel), List.mem_of_getElem? (i := 582) (by decide +kernel)⟩
theorem lw_p35 : lw_okq (⟨"DrawnAreasModel", "touches", "(IIJ)Z"⟩, 13) := ⟨⟨by decide +kernel, by decide +kernel⟩, List.mem_of_getElem? (i := 394) (by decide +kernel), List.mem_of_getElem? (i := 612) (by decide +kernel), List.mem_of_getElem? (i := 613) (by decide +kernel)⟩
def lw_privs_3 : List (MethodName × Nat) := [(⟨"DrawnAreasModel", "standsWell", "(IIII)Z"⟩, 13), (⟨"DrawnAreasModel", "dips", "(IIIIJ)Z"⟩, 13), (⟨"DrawnAreasModel", "slope", "(I)J"⟩, 13), (⟨"DrawnAreasModel", "touches", "(IIJ)Z"⟩, 13)]
theorem lw_r3 : ∀ q ∈ lw_privs_3, lw_okq q := List.forall_mem_cons.mpr ⟨lw_p32, List.forall_mem_cons.mpr ⟨lw_p33, List.forall_mem_cons.mpr ⟨lw_p34, List.forall_mem_cons.mpr ⟨lw_p35, fun _ h => absurd h List.not_mem_nil⟩⟩⟩⟩
def lw_privs : List (MethodName × Nat) := lw_privs_1 ++ (lw_privs_2 ++ (lw_privs_3))
def lw_tbl : List Cond := k2_sels lw_privs ++ tables_1
theorem lw_privs_ok : ∀ q ∈ lw_privs, lw_okq q := by
  show ∀ q ∈ lw_privs_1 ++ (lw_privs_2 ++ (lw_privs_3)), lw_okq q
  exact List.forall_mem_append.mpr ⟨lw_r1, List.forall_mem_append.mpr ⟨lw_r2, lw_r3⟩⟩
end
section
/-! ===== BEGIN words of one list among another's, by their places ===== -/
theorem goodIn_r {big : List Cond} (ws : List Cond) (ps : List Nat) (hp : ws = ps.filterMap (fun i => big[i]?)) (h : ws.all goodWord = true) : GoodIn big ws := by
  intro w hw
  have h1 := List.all_eq_true.mp h w hw
  rw [hp] at hw
  obtain ⟨i, -, hi⟩ := List.mem_filterMap.mp hw
  have hm : w ∈ big := by first | exact List.mem_of_getElem? hi | exact List.getElem?_mem hi
  exact ⟨hm, good_of_word h1⟩
theorem goodIn_app {big a b : List Cond} (ha : GoodIn big a) (hb : GoodIn big b) : GoodIn big (a ++ b) := fun w h => (List.mem_append.mp h).elim (ha w) (hb w)
theorem goodIn_ca {big a b : List Cond} {c : Cond} (ha : GoodIn big (c :: a)) (hb : GoodIn big b) : GoodIn big (c :: (a ++ b)) := fun w h => (List.mem_cons.mp h).elim (fun e => ha w (List.mem_cons.mpr (Or.inl e))) (fun h => (List.mem_append.mp h).elim (fun h => ha w (List.mem_cons.mpr (Or.inr h))) (hb w))
theorem goodIn_sub {big ws : List Cond} (hm : ∀ w ∈ ws, w ∈ big) (h : ws.all goodWord = true) : GoodIn big ws := fun w hw => ⟨hm w hw, good_of_word (List.all_eq_true.mp h w hw)⟩
/-! ===== END ===== -/

/-! ===== BEGIN printed: names, fields, word lists, decode rows ===== -/
def RX0 : String := "DrawnAreas$Figure"
def TX0 : u_T := fun k => match k with
  | 0 => ("DrawnAreas$Figure", "xs", "[I", true)
  | 1 => ("DrawnAreas$Figure", "ys", "[I", true)
  | _ => ("DrawnAreas$Figure", "size", "I", false)
def tyX0 : Nat → FieldType := fun k => match k with
  | 0 => .array .int
  | 1 => .array .int
  | _ => .int
abbrev wsX00 : List Cond := u_ws RX0 TX0 3
theorem nmX0 : ∀ a, a < 3 → ∀ b, b < 3 → a ≠ b → (TX0 a).2.1 ≠ (TX0 b).2.1 := by decide +kernel
theorem tyX0_ok : ∀ k, k < 3 → parseFieldDescriptor (TX0 k).2.2.1 = some (tyX0 k) := by decide +kernel
abbrev cX0_init : ByteArray := prog_2_method_1_code
def yX0_init : MethodName := ⟨RX0, "<init>", "()V"⟩
abbrev cX0_has : ByteArray := prog_2_method_2_code
def yX0_has : MethodName := ⟨RX0, "has", "(I)Z"⟩
abbrev cX0_closed : ByteArray := prog_2_method_3_code
def yX0_closed : MethodName := ⟨RX0, "closed", "()Z"⟩
abbrev cX0_x : ByteArray := prog_2_method_4_code
def yX0_x : MethodName := ⟨RX0, "x", "(I)I"⟩
abbrev cX0_y : ByteArray := prog_2_method_5_code
def yX0_y : MethodName := ⟨RX0, "y", "(I)I"⟩
abbrev cX0_next : ByteArray := prog_2_method_6_code
def yX0_next : MethodName := ⟨RX0, "next", "(I)I"⟩
abbrev cX0_put : ByteArray := prog_2_method_7_code
def yX0_put : MethodName := ⟨RX0, "put", "(III)V"⟩
abbrev cX0_add : ByteArray := prog_2_method_8_code
def yX0_add : MethodName := ⟨RX0, "add", "(II)V"⟩
abbrev cX0_become : ByteArray := prog_2_method_9_code
def yX0_become : MethodName := ⟨RX0, "become", "(LDrawnAreas$Figure;)V"⟩
abbrev cX0_turn : ByteArray := prog_2_method_10_code
def yX0_turn : MethodName := ⟨RX0, "turn", "()V"⟩
abbrev cX0_doubleArea : ByteArray := prog_2_method_11_code
def yX0_doubleArea : MethodName := ⟨RX0, "doubleArea", "()J"⟩
abbrev cX0_alongX : ByteArray := prog_2_method_12_code
def yX0_alongX : MethodName := ⟨RX0, "alongX", "(II)J"⟩
abbrev cX0_mixedPowers : ByteArray := prog_2_method_13_code
def yX0_mixedPowers : MethodName := ⟨RX0, "mixedPowers", "(JJI)J"⟩
abbrev cX0_staysNearer : ByteArray := prog_2_method_14_code
def yX0_staysNearer : MethodName := ⟨RX0, "staysNearer", "(I)Z"⟩
abbrev cX0_leftOf : ByteArray := prog_2_method_15_code
def yX0_leftOf : MethodName := ⟨RX0, "leftOf", "(IJJ)J"⟩
abbrev cX0_between : ByteArray := prog_2_method_16_code
def yX0_between : MethodName := ⟨RX0, "between", "(JII)Z"⟩
abbrev cX0_sideCarries : ByteArray := prog_2_method_17_code
def yX0_sideCarries : MethodName := ⟨RX0, "sideCarries", "(III)Z"⟩
abbrev cX0_carries : ByteArray := prog_2_method_18_code
def yX0_carries : MethodName := ⟨RX0, "carries", "(II)Z"⟩
abbrev cX0_turnsRound : ByteArray := prog_2_method_19_code
def yX0_turnsRound : MethodName := ⟨RX0, "turnsRound", "(II)I"⟩
abbrev cX0_neverMeetsItself : ByteArray := prog_2_method_20_code
def yX0_neverMeetsItself : MethodName := ⟨RX0, "neverMeetsItself", "()Z"⟩
abbrev cX0_foldsBack : ByteArray := prog_2_method_21_code
def yX0_foldsBack : MethodName := ⟨RX0, "foldsBack", "(I)Z"⟩
abbrev cX0_sidesMeet : ByteArray := prog_2_method_22_code
def yX0_sidesMeet : MethodName := ⟨RX0, "sidesMeet", "(II)Z"⟩
abbrev cX0_parts : ByteArray := prog_2_method_23_code
def yX0_parts : MethodName := ⟨RX0, "parts", "(II)Z"⟩
abbrev cX0_squareTo : ByteArray := prog_2_method_24_code
def yX0_squareTo : MethodName := ⟨RX0, "squareTo", "(IJJ)J"⟩
abbrev cX0_nearestAgainst : ByteArray := prog_2_method_25_code
def yX0_nearestAgainst : MethodName := ⟨RX0, "nearestAgainst", "(IIIJ)I"⟩
abbrev cX0_samePlace : ByteArray := prog_2_method_26_code
def yX0_samePlace : MethodName := ⟨RX0, "samePlace", "(ILDrawnAreas$Figure;I)Z"⟩
abbrev cX0_takeIn : ByteArray := prog_2_method_27_code
def yX0_takeIn : MethodName := ⟨RX0, "takeIn", "(ILDrawnAreas$Figure;I)V"⟩
abbrev cX0_crosses : ByteArray := prog_2_method_28_code
def yX0_crosses : MethodName := ⟨RX0, "crosses", "(II)Z"⟩
abbrev cX0_crossingUpper : ByteArray := prog_2_method_29_code
def yX0_crossingUpper : MethodName := ⟨RX0, "crossingUpper", "(II)I"⟩
abbrev cX0_crossingLower : ByteArray := prog_2_method_30_code
def yX0_crossingLower : MethodName := ⟨RX0, "crossingLower", "(I)I"⟩
abbrev cX0_placesFrom : ByteArray := prog_2_method_31_code
def yX0_placesFrom : MethodName := ⟨RX0, "placesFrom", "(I)I"⟩
abbrev cX0_crossesWhole : ByteArray := prog_2_method_32_code
def yX0_crossesWhole : MethodName := ⟨RX0, "crossesWhole", "(I)Z"⟩
abbrev cX0_becomeUpper : ByteArray := prog_2_method_33_code
def yX0_becomeUpper : MethodName := ⟨RX0, "becomeUpper", "(LDrawnAreas$Figure;I)V"⟩
def RX1 : String := "DrawnAreas"
def TX1 : u_T := fun k => match k with
  | 0 => ("DrawnAreas", "figures", "[LDrawnAreas$Figure;", true)
  | 1 => ("DrawnAreas", "rodLength", "I", false)
  | 2 => ("DrawnAreas", "roundLength", "I", false)
  | 3 => ("DrawnAreas", "toothNumber", "I", false)
  | 4 => ("DrawnAreas", "footX", "I", false)
  | 5 => ("DrawnAreas", "footY", "I", false)
  | 6 => ("DrawnAreas", "armLength", "I", false)
  | _ => ("DrawnAreas", "wheelBeyond", "I", false)
def tyX1 : Nat → FieldType := fun k => match k with
  | 0 => .array (.object "DrawnAreas$Figure")
  | 1 => .int
  | 2 => .int
  | 3 => .int
  | 4 => .int
  | 5 => .int
  | 6 => .int
  | _ => .int
abbrev wsX10 : List Cond := u_ws RX1 TX1 8
theorem nmX1 : ∀ a, a < 8 → ∀ b, b < 8 → a ≠ b → (TX1 a).2.1 ≠ (TX1 b).2.1 := by decide +kernel
theorem tyX1_ok : ∀ k, k < 8 → parseFieldDescriptor (TX1 k).2.2.1 = some (tyX1 k) := by decide +kernel
abbrev cX1_init : ByteArray := prog_1_method_1_code
def yX1_init : MethodName := ⟨RX1, "<init>", "()V"⟩
abbrev cX1_point : ByteArray := prog_1_method_2_code
def yX1_point : MethodName := ⟨RX1, "point", "(III)I"⟩
abbrev cX1_move : ByteArray := prog_1_method_3_code
def yX1_move : MethodName := ⟨RX1, "move", "(IIII)I"⟩
abbrev cX1_clear : ByteArray := prog_1_method_4_code
def yX1_clear : MethodName := ⟨RX1, "clear", "(I)I"⟩
abbrev cX1_at : ByteArray := prog_1_method_5_code
def yX1_at : MethodName := ⟨RX1, "at", "(III)I"⟩
abbrev cX1_copy : ByteArray := prog_1_method_6_code
def yX1_copy : MethodName := ⟨RX1, "copy", "(IIZ)I"⟩
abbrev cX1_twice : ByteArray := prog_1_method_7_code
def yX1_twice : MethodName := ⟨RX1, "twice", "(I)J"⟩
abbrev cX1_simple : ByteArray := prog_1_method_8_code
def yX1_simple : MethodName := ⟨RX1, "simple", "(I)I"⟩
abbrev cX1_winds : ByteArray := prog_1_method_9_code
def yX1_winds : MethodName := ⟨RX1, "winds", "(III)I"⟩
abbrev cX1_rod : ByteArray := prog_1_method_10_code
def yX1_rod : MethodName := ⟨RX1, "rod", "(I)I"⟩
abbrev cX1_told : ByteArray := prog_1_method_11_code
def yX1_told : MethodName := ⟨RX1, "told", "(III)J"⟩
abbrev cX1_can : ByteArray := prog_1_method_12_code
def yX1_can : MethodName := ⟨RX1, "can", "(I)I"⟩
abbrev cX1_rail : ByteArray := prog_1_method_13_code
def yX1_rail : MethodName := ⟨RX1, "rail", "(III)I"⟩
abbrev cX1_shut : ByteArray := prog_1_method_14_code
def yX1_shut : MethodName := ⟨RX1, "shut", "(II)J"⟩
abbrev cX1_geared : ByteArray := prog_1_method_15_code
def yX1_geared : MethodName := ⟨RX1, "geared", "(III)J"⟩
abbrev cX1_moment : ByteArray := prog_1_method_16_code
def yX1_moment : MethodName := ⟨RX1, "moment", "(III)J"⟩
abbrev cX1_arm : ByteArray := prog_1_method_17_code
def yX1_arm : MethodName := ⟨RX1, "arm", "(IIII)I"⟩
abbrev cX1_ring : ByteArray := prog_1_method_18_code
def yX1_ring : MethodName := ⟨RX1, "ring", "(II)J"⟩
abbrev cX1_reaches : ByteArray := prog_1_method_19_code
def yX1_reaches : MethodName := ⟨RX1, "reaches", "(I)I"⟩
abbrev cX1_teeth : ByteArray := prog_1_method_20_code
def yX1_teeth : MethodName := ⟨RX1, "teeth", "(II)I"⟩
abbrev cX1_count : ByteArray := prog_1_method_21_code
def yX1_count : MethodName := ⟨RX1, "count", "(I)J"⟩
abbrev cX1_may : ByteArray := prog_1_method_22_code
def yX1_may : MethodName := ⟨RX1, "may", "(IIIII)J"⟩
abbrev cX1_fits : ByteArray := prog_1_method_23_code
def yX1_fits : MethodName := ⟨RX1, "fits", "(IIII)I"⟩
abbrev cX1_join : ByteArray := prog_1_method_24_code
def yX1_join : MethodName := ⟨RX1, "join", "(IIII)I"⟩
abbrev cX1_part : ByteArray := prog_1_method_25_code
def yX1_part : MethodName := ⟨RX1, "part", "(III)I"⟩
abbrev cX1_find : ByteArray := prog_1_method_26_code
def yX1_find : MethodName := ⟨RX1, "find", "(I)LDrawnAreas$Figure;"⟩
abbrev cX1_within : ByteArray := prog_1_method_27_code
def yX1_within : MethodName := ⟨RX1, "within", "(II)Z"⟩
abbrev cX1_from0To : ByteArray := prog_1_method_28_code
def yX1_from0To : MethodName := ⟨RX1, "from0To", "(II)Z"⟩
abbrev cX1_from1To : ByteArray := prog_1_method_29_code
def yX1_from1To : MethodName := ⟨RX1, "from1To", "(II)Z"⟩
abbrev cX1_zeroOrOne : ByteArray := prog_1_method_30_code
def yX1_zeroOrOne : MethodName := ⟨RX1, "zeroOrOne", "(I)Z"⟩
abbrev cX1_oneIf : ByteArray := prog_1_method_31_code
def yX1_oneIf : MethodName := ⟨RX1, "oneIf", "(Z)I"⟩
abbrev cX1_cut : ByteArray := prog_1_method_32_code
def yX1_cut : MethodName := ⟨RX1, "cut", "(JJ)J"⟩
abbrev cX1_fraction : ByteArray := prog_1_method_33_code
def yX1_fraction : MethodName := ⟨RX1, "fraction", "(JJI)J"⟩
abbrev cX1_commonDivisor : ByteArray := prog_1_method_34_code
def yX1_commonDivisor : MethodName := ⟨RX1, "commonDivisor", "(JJ)J"⟩
abbrev cX1_rootOf : ByteArray := prog_1_method_35_code
def yX1_rootOf : MethodName := ⟨RX1, "rootOf", "(J)J"⟩
abbrev cX1_goesRound : ByteArray := prog_1_method_36_code
def yX1_goesRound : MethodName := ⟨RX1, "goesRound", "(LDrawnAreas$Figure;)Z"⟩
abbrev cX1_neverLeftOf : ByteArray := prog_1_method_37_code
def yX1_neverLeftOf : MethodName := ⟨RX1, "neverLeftOf", "(LDrawnAreas$Figure;I)Z"⟩
abbrev cX1_neverRightOf : ByteArray := prog_1_method_38_code
def yX1_neverRightOf : MethodName := ⟨RX1, "neverRightOf", "(LDrawnAreas$Figure;I)Z"⟩
abbrev cX1_shutLow : ByteArray := prog_1_method_39_code
def yX1_shutLow : MethodName := ⟨RX1, "shutLow", "(I)J"⟩
abbrev cX1_shutHigh : ByteArray := prog_1_method_40_code
def yX1_shutHigh : MethodName := ⟨RX1, "shutHigh", "(I)J"⟩
abbrev cX1_heightRoot : ByteArray := prog_1_method_41_code
def yX1_heightRoot : MethodName := ⟨RX1, "heightRoot", "(I)J"⟩
abbrev cX1_gearedRound : ByteArray := prog_1_method_42_code
def yX1_gearedRound : MethodName := ⟨RX1, "gearedRound", "(LDrawnAreas$Figure;II)J"⟩
abbrev cX1_withPi : ByteArray := prog_1_method_43_code
def yX1_withPi : MethodName := ⟨RX1, "withPi", "()J"⟩
abbrev cX1_beyondFolded : ByteArray := prog_1_method_44_code
def yX1_beyondFolded : MethodName := ⟨RX1, "beyondFolded", "(LDrawnAreas$Figure;)Z"⟩
abbrev cX1_withinStretched : ByteArray := prog_1_method_45_code
def yX1_withinStretched : MethodName := ⟨RX1, "withinStretched", "(LDrawnAreas$Figure;)Z"⟩
abbrev cX1_readable : ByteArray := prog_1_method_46_code
def yX1_readable : MethodName := ⟨RX1, "readable", "(III)Z"⟩
abbrev cX1_leastTeeth : ByteArray := prog_1_method_47_code
def yX1_leastTeeth : MethodName := ⟨RX1, "leastTeeth", "(III)J"⟩
abbrev cX1_belowTeeth : ByteArray := prog_1_method_48_code
def yX1_belowTeeth : MethodName := ⟨RX1, "belowTeeth", "(III)J"⟩
def RX2 : String := "DrawnAreasModel"
def TX2 : u_T := fun k => match k with
  | 0 => ("DrawnAreasModel", "points", "[I", true)
  | 1 => ("DrawnAreasModel", "px", "[I", true)
  | 2 => ("DrawnAreasModel", "py", "[I", true)
  | 3 => ("DrawnAreasModel", "rod", "I", false)
  | 4 => ("DrawnAreasModel", "around", "I", false)
  | 5 => ("DrawnAreasModel", "teeth", "I", false)
  | 6 => ("DrawnAreasModel", "footX", "I", false)
  | 7 => ("DrawnAreasModel", "footY", "I", false)
  | 8 => ("DrawnAreasModel", "arm", "I", false)
  | 9 => ("DrawnAreasModel", "beyond", "I", false)
  | 10 => ("DrawnAreasModel", "many", "I", false)
  | 11 => ("DrawnAreasModel", "newX", "[I", true)
  | _ => ("DrawnAreasModel", "newY", "[I", true)
def tyX2 : Nat → FieldType := fun k => match k with
  | 0 => .array .int
  | 1 => .array .int
  | 2 => .array .int
  | 3 => .int
  | 4 => .int
  | 5 => .int
  | 6 => .int
  | 7 => .int
  | 8 => .int
  | 9 => .int
  | 10 => .int
  | 11 => .array .int
  | _ => .array .int
abbrev wsX20 : List Cond := u_ws RX2 TX2 13
theorem nmX2 : ∀ a, a < 13 → ∀ b, b < 13 → a ≠ b → (TX2 a).2.1 ≠ (TX2 b).2.1 := by decide +kernel
theorem tyX2_ok : ∀ k, k < 13 → parseFieldDescriptor (TX2 k).2.2.1 = some (tyX2 k) := by decide +kernel
abbrev cX2_init : ByteArray := prog_4_method_1_code
def yX2_init : MethodName := ⟨RX2, "<init>", "()V"⟩
abbrev cX2_in : ByteArray := prog_4_method_2_code
def yX2_in : MethodName := ⟨RX2, "in", "(III)Z"⟩
abbrev cX2_isFigure : ByteArray := prog_4_method_3_code
def yX2_isFigure : MethodName := ⟨RX2, "isFigure", "(I)Z"⟩
abbrev cX2_isPoint : ByteArray := prog_4_method_4_code
def yX2_isPoint : MethodName := ⟨RX2, "isPoint", "(II)Z"⟩
abbrev cX2_isClosed : ByteArray := prog_4_method_5_code
def yX2_isClosed : MethodName := ⟨RX2, "isClosed", "(I)Z"⟩
abbrev cX2_x : ByteArray := prog_4_method_6_code
def yX2_x : MethodName := ⟨RX2, "x", "(II)I"⟩
abbrev cX2_y : ByteArray := prog_4_method_7_code
def yX2_y : MethodName := ⟨RX2, "y", "(II)I"⟩
abbrev cX2_isPlace : ByteArray := prog_4_method_8_code
def yX2_isPlace : MethodName := ⟨RX2, "isPlace", "(I)Z"⟩
abbrev cX2_point : ByteArray := prog_4_method_9_code
def yX2_point : MethodName := ⟨RX2, "point", "(III)I"⟩
abbrev cX2_move : ByteArray := prog_4_method_10_code
def yX2_move : MethodName := ⟨RX2, "move", "(IIII)I"⟩
abbrev cX2_clear : ByteArray := prog_4_method_11_code
def yX2_clear : MethodName := ⟨RX2, "clear", "(I)I"⟩
abbrev cX2_at : ByteArray := prog_4_method_12_code
def yX2_at : MethodName := ⟨RX2, "at", "(III)I"⟩
abbrev cX2_lay : ByteArray := prog_4_method_13_code
def yX2_lay : MethodName := ⟨RX2, "lay", "(II)V"⟩
abbrev cX2_take : ByteArray := prog_4_method_14_code
def yX2_take : MethodName := ⟨RX2, "take", "(I)I"⟩
abbrev cX2_copy : ByteArray := prog_4_method_15_code
def yX2_copy : MethodName := ⟨RX2, "copy", "(IIZ)I"⟩
abbrev cX2_twiceOf : ByteArray := prog_4_method_16_code
def yX2_twiceOf : MethodName := ⟨RX2, "twiceOf", "(I)J"⟩
abbrev cX2_twice : ByteArray := prog_4_method_17_code
def yX2_twice : MethodName := ⟨RX2, "twice", "(I)J"⟩
abbrev cX2_side : ByteArray := prog_4_method_18_code
def yX2_side : MethodName := ⟨RX2, "side", "(IIIIII)J"⟩
abbrev cX2_isOn : ByteArray := prog_4_method_19_code
def yX2_isOn : MethodName := ⟨RX2, "isOn", "(IIII)Z"⟩
abbrev cX2_sign : ByteArray := prog_4_method_20_code
def yX2_sign : MethodName := ⟨RX2, "sign", "(J)I"⟩
abbrev cX2_meet : ByteArray := prog_4_method_21_code
def yX2_meet : MethodName := ⟨RX2, "meet", "(III)Z"⟩
abbrev cX2_turnsBack : ByteArray := prog_4_method_22_code
def yX2_turnsBack : MethodName := ⟨RX2, "turnsBack", "(II)Z"⟩
abbrev cX2_simple : ByteArray := prog_4_method_23_code
def yX2_simple : MethodName := ⟨RX2, "simple", "(I)I"⟩
abbrev cX2_windsOf : ByteArray := prog_4_method_24_code
def yX2_windsOf : MethodName := ⟨RX2, "windsOf", "(III)I"⟩
abbrev cX2_winds : ByteArray := prog_4_method_25_code
def yX2_winds : MethodName := ⟨RX2, "winds", "(III)I"⟩
abbrev cX2_rod : ByteArray := prog_4_method_26_code
def yX2_rod : MethodName := ⟨RX2, "rod", "(I)I"⟩
abbrev cX2_common : ByteArray := prog_4_method_27_code
def yX2_common : MethodName := ⟨RX2, "common", "(JJ)J"⟩
abbrev cX2_term : ByteArray := prog_4_method_28_code
def yX2_term : MethodName := ⟨RX2, "term", "(JJI)J"⟩
abbrev cX2_isPart : ByteArray := prog_4_method_29_code
def yX2_isPart : MethodName := ⟨RX2, "isPart", "(I)Z"⟩
abbrev cX2_canGo : ByteArray := prog_4_method_30_code
def yX2_canGo : MethodName := ⟨RX2, "canGo", "(I)Z"⟩
abbrev cX2_along : ByteArray := prog_4_method_31_code
def yX2_along : MethodName := ⟨RX2, "along", "(III)J"⟩
abbrev cX2_told : ByteArray := prog_4_method_32_code
def yX2_told : MethodName := ⟨RX2, "told", "(III)J"⟩
abbrev cX2_can : ByteArray := prog_4_method_33_code
def yX2_can : MethodName := ⟨RX2, "can", "(I)I"⟩
abbrev cX2_standsWell : ByteArray := prog_4_method_34_code
def yX2_standsWell : MethodName := ⟨RX2, "standsWell", "(IIII)Z"⟩
abbrev cX2_dips : ByteArray := prog_4_method_35_code
def yX2_dips : MethodName := ⟨RX2, "dips", "(IIIIJ)Z"⟩
abbrev cX2_rail : ByteArray := prog_4_method_36_code
def yX2_rail : MethodName := ⟨RX2, "rail", "(III)I"⟩
abbrev cX2_root : ByteArray := prog_4_method_37_code
def yX2_root : MethodName := ⟨RX2, "root", "(J)J"⟩
abbrev cX2_slope : ByteArray := prog_4_method_38_code
def yX2_slope : MethodName := ⟨RX2, "slope", "(I)J"⟩
abbrev cX2_shut : ByteArray := prog_4_method_39_code
def yX2_shut : MethodName := ⟨RX2, "shut", "(II)J"⟩
abbrev cX2_geared : ByteArray := prog_4_method_40_code
def yX2_geared : MethodName := ⟨RX2, "geared", "(III)J"⟩
abbrev cX2_moment : ByteArray := prog_4_method_41_code
def yX2_moment : MethodName := ⟨RX2, "moment", "(III)J"⟩
abbrev cX2_arm : ByteArray := prog_4_method_42_code
def yX2_arm : MethodName := ⟨RX2, "arm", "(IIII)I"⟩
abbrev cX2_ring : ByteArray := prog_4_method_43_code
def yX2_ring : MethodName := ⟨RX2, "ring", "(II)J"⟩
abbrev cX2_reaches : ByteArray := prog_4_method_44_code
def yX2_reaches : MethodName := ⟨RX2, "reaches", "(I)I"⟩
abbrev cX2_touches : ByteArray := prog_4_method_45_code
def yX2_touches : MethodName := ⟨RX2, "touches", "(IIJ)Z"⟩
abbrev cX2_teeth : ByteArray := prog_4_method_46_code
def yX2_teeth : MethodName := ⟨RX2, "teeth", "(II)I"⟩
abbrev cX2_count : ByteArray := prog_4_method_47_code
def yX2_count : MethodName := ⟨RX2, "count", "(I)J"⟩
abbrev cX2_isCount : ByteArray := prog_4_method_48_code
def yX2_isCount : MethodName := ⟨RX2, "isCount", "(III)Z"⟩
abbrev cX2_bound : ByteArray := prog_4_method_49_code
def yX2_bound : MethodName := ⟨RX2, "bound", "(IIII)J"⟩
abbrev cX2_may : ByteArray := prog_4_method_50_code
def yX2_may : MethodName := ⟨RX2, "may", "(IIIII)J"⟩
abbrev cX2_fits : ByteArray := prog_4_method_51_code
def yX2_fits : MethodName := ⟨RX2, "fits", "(IIII)I"⟩
abbrev cX2_join : ByteArray := prog_4_method_52_code
def yX2_join : MethodName := ⟨RX2, "join", "(IIII)I"⟩
abbrev cX2_part : ByteArray := prog_4_method_53_code
def yX2_part : MethodName := ⟨RX2, "part", "(III)I"⟩
def RJ13 : String := "java/lang/Long"
def TJ13 : u_T := fun k => match k with
  | _ => ("", "", "", false)
def tyJ13 : Nat → FieldType := fun k => match k with
  | _ => .int
abbrev wsJ130 : List Cond := u_ws RJ13 TJ13 0
theorem nmJ13 : ∀ a, a < 0 → ∀ b, b < 0 → a ≠ b → (TJ13 a).2.1 ≠ (TJ13 b).2.1 := by decide +kernel
theorem tyJ13_ok : ∀ k, k < 0 → parseFieldDescriptor (TJ13 k).2.2.1 = some (tyJ13 k) := by decide +kernel
abbrev cJ13_compare_74951 : ByteArray := prog_5_method_42_code
def yJ13_compare_74951 : MethodName := ⟨RJ13, "compare", "(JJ)I"⟩
def RJ9 : String := "java/lang/Math"
def TJ9 : u_T := fun k => match k with
  | _ => ("", "", "", false)
def tyJ9 : Nat → FieldType := fun k => match k with
  | _ => .int
abbrev wsJ90 : List Cond := u_ws RJ9 TJ9 0
theorem nmJ9 : ∀ a, a < 0 → ∀ b, b < 0 → a ≠ b → (TJ9 a).2.1 ≠ (TJ9 b).2.1 := by decide +kernel
theorem tyJ9_ok : ∀ k, k < 0 → parseFieldDescriptor (TJ9 k).2.2.1 = some (tyJ9 k) := by decide +kernel
abbrev cJ9_abs_0f7a4 : ByteArray := prog_6_method_59_code
def yJ9_abs_0f7a4 : MethodName := ⟨RJ9, "abs", "(I)I"⟩
abbrev cJ9_abs_067f4 : ByteArray := prog_6_method_61_code
def yJ9_abs_067f4 : MethodName := ⟨RJ9, "abs", "(J)J"⟩
abbrev cJ9_max_7cf53 : ByteArray := prog_6_method_65_code
def yJ9_max_7cf53 : MethodName := ⟨RJ9, "max", "(II)I"⟩
abbrev cJ9_min_7cf53 : ByteArray := prog_6_method_69_code
def yJ9_min_7cf53 : MethodName := ⟨RJ9, "min", "(II)I"⟩
def RL : String := "DrawnAreasLaw"
abbrev cL_law : ByteArray := code
def yL_law : MethodName := ⟨RL, "law", "([I)Z"⟩
def wsX0_init : List Cond := .code yX0_init cX0_init 1 none :: ([.methodLink RX0 3 objectInit, .instanceMethod objectInit, .code objectInit ⟨#[0xb1]⟩ 1 none, .arrayClass .int, .fieldLink RX0 9 "DrawnAreas$Figure" "xs" "[I", .fieldLink RX0 15 "DrawnAreas$Figure" "ys" "[I", .fieldLink RX0 18 "DrawnAreas$Figure" "size" "I"] ++ wsX00)
def wsX0_has : List Cond := .code yX0_has cX0_has 2 (some .boolean) :: ([.fieldLink RX0 18 "DrawnAreas$Figure" "size" "I"] ++ wsX00)
def wsX0_closed : List Cond := .code yX0_closed cX0_closed 1 (some .boolean) :: ([.fieldLink RX0 18 "DrawnAreas$Figure" "size" "I"] ++ wsX00)
def wsX0_x : List Cond := .code yX0_x cX0_x 2 (some .int) :: ([.fieldLink RX0 9 "DrawnAreas$Figure" "xs" "[I"] ++ wsX00)
def wsX0_y : List Cond := .code yX0_y cX0_y 2 (some .int) :: ([.fieldLink RX0 15 "DrawnAreas$Figure" "ys" "[I"] ++ wsX00)
def wsX0_next : List Cond := .code yX0_next cX0_next 2 (some .int) :: ([.fieldLink RX0 18 "DrawnAreas$Figure" "size" "I"] ++ wsX00)
def wsX0_put : List Cond := .code yX0_put cX0_put 4 none :: ([.fieldLink RX0 9 "DrawnAreas$Figure" "xs" "[I", .fieldLink RX0 15 "DrawnAreas$Figure" "ys" "[I"] ++ wsX00)
def wsX0_add : List Cond := .code yX0_add cX0_add 3 none :: ([.fieldLink RX0 18 "DrawnAreas$Figure" "size" "I", .methodLink RX0 22 yX0_put, .instanceMethod yX0_put, .selects RX0 yX0_put yX0_put, .initialized RX0, .code yX0_put cX0_put 4 none, .fieldLink RX0 9 "DrawnAreas$Figure" "xs" "[I", .fieldLink RX0 15 "DrawnAreas$Figure" "ys" "[I"] ++ wsX00)
def wsX0_become : List Cond := .code yX0_become cX0_become 3 none :: ([.fieldLink RX0 18 "DrawnAreas$Figure" "size" "I", .methodLink RX0 26 yX0_x, .instanceMethod yX0_x, .selects RX0 yX0_x yX0_x, .initialized RX0, .code yX0_x cX0_x 2 (some .int), .fieldLink RX0 9 "DrawnAreas$Figure" "xs" "[I", .methodLink RX0 30 yX0_y, .instanceMethod yX0_y, .selects RX0 yX0_y yX0_y, .code yX0_y cX0_y 2 (some .int), .fieldLink RX0 15 "DrawnAreas$Figure" "ys" "[I", .methodLink RX0 33 yX0_add, .instanceMethod yX0_add, .selects RX0 yX0_add yX0_add, .code yX0_add cX0_add 3 none, .methodLink RX0 22 yX0_put, .instanceMethod yX0_put, .selects RX0 yX0_put yX0_put, .code yX0_put cX0_put 4 none] ++ wsX00)
def wsX0_turn : List Cond := .code yX0_turn cX0_turn 5 none :: ([.fieldLink RX0 18 "DrawnAreas$Figure" "size" "I", .methodLink RX0 26 yX0_x, .instanceMethod yX0_x, .selects RX0 yX0_x yX0_x, .initialized RX0, .code yX0_x cX0_x 2 (some .int), .fieldLink RX0 9 "DrawnAreas$Figure" "xs" "[I", .methodLink RX0 30 yX0_y, .instanceMethod yX0_y, .selects RX0 yX0_y yX0_y, .code yX0_y cX0_y 2 (some .int), .fieldLink RX0 15 "DrawnAreas$Figure" "ys" "[I", .methodLink RX0 22 yX0_put, .instanceMethod yX0_put, .selects RX0 yX0_put yX0_put, .code yX0_put cX0_put 4 none] ++ wsX00)
def wsX0_doubleArea : List Cond := .code yX0_doubleArea cX0_doubleArea 5 (some .long) :: ([.fieldLink RX0 18 "DrawnAreas$Figure" "size" "I", .methodLink RX0 37 yX0_next, .instanceMethod yX0_next, .selects RX0 yX0_next yX0_next, .initialized RX0, .code yX0_next cX0_next 2 (some .int), .methodLink RX0 26 yX0_x, .instanceMethod yX0_x, .selects RX0 yX0_x yX0_x, .code yX0_x cX0_x 2 (some .int), .fieldLink RX0 9 "DrawnAreas$Figure" "xs" "[I", .methodLink RX0 30 yX0_y, .instanceMethod yX0_y, .selects RX0 yX0_y yX0_y, .code yX0_y cX0_y 2 (some .int), .fieldLink RX0 15 "DrawnAreas$Figure" "ys" "[I"] ++ wsX00)
def wsX0_mixedPowers : List Cond := .code yX0_mixedPowers cX0_mixedPowers 10 (some .long) :: ([])
def wsX0_alongX : List Cond := .code yX0_alongX cX0_alongX 7 (some .long) :: ([.methodLink RX0 37 yX0_next, .instanceMethod yX0_next, .selects RX0 yX0_next yX0_next, .initialized RX0, .code yX0_next cX0_next 2 (some .int), .fieldLink RX0 18 "DrawnAreas$Figure" "size" "I", .methodLink RX0 26 yX0_x, .instanceMethod yX0_x, .selects RX0 yX0_x yX0_x, .code yX0_x cX0_x 2 (some .int), .fieldLink RX0 9 "DrawnAreas$Figure" "xs" "[I", .methodLink RX0 30 yX0_y, .instanceMethod yX0_y, .selects RX0 yX0_y yX0_y, .code yX0_y cX0_y 2 (some .int), .fieldLink RX0 15 "DrawnAreas$Figure" "ys" "[I", .methodLink RX0 40 yX0_mixedPowers, .static yX0_mixedPowers, .code yX0_mixedPowers cX0_mixedPowers 10 (some .long)] ++ wsX00)
def wsX0_staysNearer : List Cond := .code yX0_staysNearer cX0_staysNearer 3 (some .boolean) :: ([.fieldLink RX0 18 "DrawnAreas$Figure" "size" "I", .methodLink RX0 44 Lib.Math.abs.name, .static Lib.Math.abs.name, .initialized "java/lang/Math", .code Lib.Math.abs.name Lib.Math.abs.code 1 (some .int), .methodLink RX0 30 yX0_y, .instanceMethod yX0_y, .selects RX0 yX0_y yX0_y, .initialized RX0, .code yX0_y cX0_y 2 (some .int), .fieldLink RX0 15 "DrawnAreas$Figure" "ys" "[I"] ++ wsX00)
def wsX0_leftOf : List Cond := .code yX0_leftOf cX0_leftOf 7 (some .long) :: ([.methodLink RX0 37 yX0_next, .instanceMethod yX0_next, .selects RX0 yX0_next yX0_next, .initialized RX0, .code yX0_next cX0_next 2 (some .int), .fieldLink RX0 18 "DrawnAreas$Figure" "size" "I", .methodLink RX0 26 yX0_x, .instanceMethod yX0_x, .selects RX0 yX0_x yX0_x, .code yX0_x cX0_x 2 (some .int), .fieldLink RX0 9 "DrawnAreas$Figure" "xs" "[I", .methodLink RX0 30 yX0_y, .instanceMethod yX0_y, .selects RX0 yX0_y yX0_y, .code yX0_y cX0_y 2 (some .int), .fieldLink RX0 15 "DrawnAreas$Figure" "ys" "[I"] ++ wsX00)
def wsX0_between : List Cond := .code yX0_between cX0_between 4 (some .boolean) :: ([.methodLink RX0 49 Lib.Math.min.name, .static Lib.Math.min.name, .initialized "java/lang/Math", .code Lib.Math.min.name Lib.Math.min.code 2 (some .int), .methodLink RX0 53 Lib.Math.max.name, .static Lib.Math.max.name, .code Lib.Math.max.name Lib.Math.max.code 2 (some .int)])
def wsX0_sideCarries_r1 : List Cond := [Cond.methodLink RX0 37 yX0_next, Cond.instanceMethod yX0_next, Cond.selects RX0 yX0_next yX0_next, Cond.initialized RX0, Cond.code yX0_next cX0_next 2 (some .int), Cond.fieldLink RX0 18 "DrawnAreas$Figure" "size" "I", Cond.methodLink RX0 56 yX0_leftOf, Cond.instanceMethod yX0_leftOf, Cond.selects RX0 yX0_leftOf yX0_leftOf, Cond.code yX0_leftOf cX0_leftOf 7 (some .long), Cond.methodLink RX0 26 yX0_x, Cond.instanceMethod yX0_x, Cond.selects RX0 yX0_x yX0_x, Cond.code yX0_x cX0_x 2 (some .int), Cond.fieldLink RX0 9 "DrawnAreas$Figure" "xs" "[I", Cond.methodLink RX0 30 yX0_y, Cond.instanceMethod yX0_y, Cond.selects RX0 yX0_y yX0_y, Cond.code yX0_y cX0_y 2 (some .int), Cond.fieldLink RX0 15 "DrawnAreas$Figure" "ys" "[I", Cond.methodLink RX0 60 yX0_between, Cond.static yX0_between, Cond.code yX0_between cX0_between 4 (some .boolean), Cond.methodLink RX0 49 Lib.Math.min.name]
def wsX0_sideCarries_r2 : List Cond := [Cond.static Lib.Math.min.name, Cond.initialized "java/lang/Math", Cond.code Lib.Math.min.name Lib.Math.min.code 2 (some .int), Cond.methodLink RX0 53 Lib.Math.max.name, Cond.static Lib.Math.max.name, Cond.code Lib.Math.max.name Lib.Math.max.code 2 (some .int)]
def wsX0_sideCarries : List Cond := .code yX0_sideCarries cX0_sideCarries 5 (some .boolean) :: ((wsX0_sideCarries_r1 ++ wsX0_sideCarries_r2) ++ wsX00)
def wsX0_carries_r1 : List Cond := [Cond.fieldLink RX0 18 "DrawnAreas$Figure" "size" "I", Cond.methodLink RX0 64 yX0_sideCarries, Cond.instanceMethod yX0_sideCarries, Cond.selects RX0 yX0_sideCarries yX0_sideCarries, Cond.initialized RX0, Cond.code yX0_sideCarries cX0_sideCarries 5 (some .boolean), Cond.methodLink RX0 37 yX0_next, Cond.instanceMethod yX0_next, Cond.selects RX0 yX0_next yX0_next, Cond.code yX0_next cX0_next 2 (some .int), Cond.methodLink RX0 56 yX0_leftOf, Cond.instanceMethod yX0_leftOf, Cond.selects RX0 yX0_leftOf yX0_leftOf, Cond.code yX0_leftOf cX0_leftOf 7 (some .long), Cond.methodLink RX0 26 yX0_x, Cond.instanceMethod yX0_x, Cond.selects RX0 yX0_x yX0_x, Cond.code yX0_x cX0_x 2 (some .int), Cond.fieldLink RX0 9 "DrawnAreas$Figure" "xs" "[I", Cond.methodLink RX0 30 yX0_y, Cond.instanceMethod yX0_y, Cond.selects RX0 yX0_y yX0_y, Cond.code yX0_y cX0_y 2 (some .int), Cond.fieldLink RX0 15 "DrawnAreas$Figure" "ys" "[I"]
def wsX0_carries_r2 : List Cond := [Cond.methodLink RX0 60 yX0_between, Cond.static yX0_between, Cond.code yX0_between cX0_between 4 (some .boolean), Cond.methodLink RX0 49 Lib.Math.min.name, Cond.static Lib.Math.min.name, Cond.initialized "java/lang/Math", Cond.code Lib.Math.min.name Lib.Math.min.code 2 (some .int), Cond.methodLink RX0 53 Lib.Math.max.name, Cond.static Lib.Math.max.name, Cond.code Lib.Math.max.name Lib.Math.max.code 2 (some .int)]
def wsX0_carries : List Cond := .code yX0_carries cX0_carries 4 (some .boolean) :: ((wsX0_carries_r1 ++ wsX0_carries_r2) ++ wsX00)
def wsX0_turnsRound : List Cond := .code yX0_turnsRound cX0_turnsRound 9 (some .int) :: ([.fieldLink RX0 18 "DrawnAreas$Figure" "size" "I", .methodLink RX0 30 yX0_y, .instanceMethod yX0_y, .selects RX0 yX0_y yX0_y, .initialized RX0, .code yX0_y cX0_y 2 (some .int), .fieldLink RX0 15 "DrawnAreas$Figure" "ys" "[I", .methodLink RX0 37 yX0_next, .instanceMethod yX0_next, .selects RX0 yX0_next yX0_next, .code yX0_next cX0_next 2 (some .int), .methodLink RX0 56 yX0_leftOf, .instanceMethod yX0_leftOf, .selects RX0 yX0_leftOf yX0_leftOf, .code yX0_leftOf cX0_leftOf 7 (some .long), .methodLink RX0 26 yX0_x, .instanceMethod yX0_x, .selects RX0 yX0_x yX0_x, .code yX0_x cX0_x 2 (some .int), .fieldLink RX0 9 "DrawnAreas$Figure" "xs" "[I"] ++ wsX00)
def wsX0_samePlace : List Cond := .code yX0_samePlace cX0_samePlace 4 (some .boolean) :: ([.methodLink RX0 26 yX0_x, .instanceMethod yX0_x, .selects RX0 yX0_x yX0_x, .initialized RX0, .code yX0_x cX0_x 2 (some .int), .fieldLink RX0 9 "DrawnAreas$Figure" "xs" "[I", .methodLink RX0 30 yX0_y, .instanceMethod yX0_y, .selects RX0 yX0_y yX0_y, .code yX0_y cX0_y 2 (some .int), .fieldLink RX0 15 "DrawnAreas$Figure" "ys" "[I"] ++ wsX00)
def wsX0_foldsBack : List Cond := .code yX0_foldsBack cX0_foldsBack 5 (some .boolean) :: ([.methodLink RX0 37 yX0_next, .instanceMethod yX0_next, .selects RX0 yX0_next yX0_next, .initialized RX0, .code yX0_next cX0_next 2 (some .int), .fieldLink RX0 18 "DrawnAreas$Figure" "size" "I", .methodLink RX0 26 yX0_x, .instanceMethod yX0_x, .selects RX0 yX0_x yX0_x, .code yX0_x cX0_x 2 (some .int), .fieldLink RX0 9 "DrawnAreas$Figure" "xs" "[I", .methodLink RX0 30 yX0_y, .instanceMethod yX0_y, .selects RX0 yX0_y yX0_y, .code yX0_y cX0_y 2 (some .int), .fieldLink RX0 15 "DrawnAreas$Figure" "ys" "[I", .methodLink RX0 56 yX0_leftOf, .instanceMethod yX0_leftOf, .selects RX0 yX0_leftOf yX0_leftOf, .code yX0_leftOf cX0_leftOf 7 (some .long)] ++ wsX00)
def wsX0_parts : List Cond := .code yX0_parts cX0_parts 7 (some .boolean) :: ([.methodLink RX0 26 yX0_x, .instanceMethod yX0_x, .selects RX0 yX0_x yX0_x, .initialized RX0, .code yX0_x cX0_x 2 (some .int), .fieldLink RX0 9 "DrawnAreas$Figure" "xs" "[I", .methodLink RX0 30 yX0_y, .instanceMethod yX0_y, .selects RX0 yX0_y yX0_y, .code yX0_y cX0_y 2 (some .int), .fieldLink RX0 15 "DrawnAreas$Figure" "ys" "[I", .methodLink RX0 56 yX0_leftOf, .instanceMethod yX0_leftOf, .selects RX0 yX0_leftOf yX0_leftOf, .code yX0_leftOf cX0_leftOf 7 (some .long), .methodLink RX0 37 yX0_next, .instanceMethod yX0_next, .selects RX0 yX0_next yX0_next, .code yX0_next cX0_next 2 (some .int), .fieldLink RX0 18 "DrawnAreas$Figure" "size" "I"] ++ wsX00)
def wsX0_sidesMeet_r1 : List Cond := [Cond.methodLink RX0 26 yX0_x, Cond.instanceMethod yX0_x, Cond.selects RX0 yX0_x yX0_x, Cond.initialized RX0, Cond.code yX0_x cX0_x 2 (some .int), Cond.fieldLink RX0 9 "DrawnAreas$Figure" "xs" "[I", Cond.methodLink RX0 30 yX0_y, Cond.instanceMethod yX0_y, Cond.selects RX0 yX0_y yX0_y, Cond.code yX0_y cX0_y 2 (some .int), Cond.fieldLink RX0 15 "DrawnAreas$Figure" "ys" "[I", Cond.methodLink RX0 64 yX0_sideCarries, Cond.instanceMethod yX0_sideCarries, Cond.selects RX0 yX0_sideCarries yX0_sideCarries, Cond.code yX0_sideCarries cX0_sideCarries 5 (some .boolean), Cond.methodLink RX0 37 yX0_next, Cond.instanceMethod yX0_next, Cond.selects RX0 yX0_next yX0_next, Cond.code yX0_next cX0_next 2 (some .int), Cond.fieldLink RX0 18 "DrawnAreas$Figure" "size" "I", Cond.methodLink RX0 56 yX0_leftOf, Cond.instanceMethod yX0_leftOf, Cond.selects RX0 yX0_leftOf yX0_leftOf, Cond.code yX0_leftOf cX0_leftOf 7 (some .long)]
def wsX0_sidesMeet_r2 : List Cond := [Cond.methodLink RX0 60 yX0_between, Cond.static yX0_between, Cond.code yX0_between cX0_between 4 (some .boolean), Cond.methodLink RX0 49 Lib.Math.min.name, Cond.static Lib.Math.min.name, Cond.initialized "java/lang/Math", Cond.code Lib.Math.min.name Lib.Math.min.code 2 (some .int), Cond.methodLink RX0 53 Lib.Math.max.name, Cond.static Lib.Math.max.name, Cond.code Lib.Math.max.name Lib.Math.max.code 2 (some .int), Cond.methodLink RX0 80 yX0_parts, Cond.instanceMethod yX0_parts, Cond.selects RX0 yX0_parts yX0_parts, Cond.code yX0_parts cX0_parts 7 (some .boolean)]
def wsX0_sidesMeet : List Cond := .code yX0_sidesMeet cX0_sidesMeet 3 (some .boolean) :: ((wsX0_sidesMeet_r1 ++ wsX0_sidesMeet_r2) ++ wsX00)
def wsX0_neverMeetsItself_r1 : List Cond := [Cond.fieldLink RX0 18 "DrawnAreas$Figure" "size" "I", Cond.methodLink RX0 37 yX0_next, Cond.instanceMethod yX0_next, Cond.selects RX0 yX0_next yX0_next, Cond.initialized RX0, Cond.code yX0_next cX0_next 2 (some .int), Cond.methodLink RX0 68 yX0_samePlace, Cond.instanceMethod yX0_samePlace, Cond.selects RX0 yX0_samePlace yX0_samePlace, Cond.code yX0_samePlace cX0_samePlace 4 (some .boolean), Cond.methodLink RX0 26 yX0_x, Cond.instanceMethod yX0_x, Cond.selects RX0 yX0_x yX0_x, Cond.code yX0_x cX0_x 2 (some .int), Cond.fieldLink RX0 9 "DrawnAreas$Figure" "xs" "[I", Cond.methodLink RX0 30 yX0_y, Cond.instanceMethod yX0_y, Cond.selects RX0 yX0_y yX0_y, Cond.code yX0_y cX0_y 2 (some .int), Cond.fieldLink RX0 15 "DrawnAreas$Figure" "ys" "[I", Cond.methodLink RX0 72 yX0_foldsBack, Cond.instanceMethod yX0_foldsBack, Cond.selects RX0 yX0_foldsBack yX0_foldsBack, Cond.code yX0_foldsBack cX0_foldsBack 5 (some .boolean)]
def wsX0_neverMeetsItself_r2 : List Cond := [Cond.methodLink RX0 56 yX0_leftOf, Cond.instanceMethod yX0_leftOf, Cond.selects RX0 yX0_leftOf yX0_leftOf, Cond.code yX0_leftOf cX0_leftOf 7 (some .long), Cond.methodLink RX0 76 yX0_sidesMeet, Cond.instanceMethod yX0_sidesMeet, Cond.selects RX0 yX0_sidesMeet yX0_sidesMeet, Cond.code yX0_sidesMeet cX0_sidesMeet 3 (some .boolean), Cond.methodLink RX0 64 yX0_sideCarries, Cond.instanceMethod yX0_sideCarries, Cond.selects RX0 yX0_sideCarries yX0_sideCarries, Cond.code yX0_sideCarries cX0_sideCarries 5 (some .boolean), Cond.methodLink RX0 60 yX0_between, Cond.static yX0_between, Cond.code yX0_between cX0_between 4 (some .boolean), Cond.methodLink RX0 49 Lib.Math.min.name, Cond.static Lib.Math.min.name, Cond.initialized "java/lang/Math", Cond.code Lib.Math.min.name Lib.Math.min.code 2 (some .int), Cond.methodLink RX0 53 Lib.Math.max.name, Cond.static Lib.Math.max.name, Cond.code Lib.Math.max.name Lib.Math.max.code 2 (some .int), Cond.methodLink RX0 80 yX0_parts, Cond.instanceMethod yX0_parts]
def wsX0_neverMeetsItself_r3 : List Cond := [Cond.selects RX0 yX0_parts yX0_parts, Cond.code yX0_parts cX0_parts 7 (some .boolean)]
def wsX0_neverMeetsItself : List Cond := .code yX0_neverMeetsItself cX0_neverMeetsItself 3 (some .boolean) :: ((wsX0_neverMeetsItself_r1 ++ (wsX0_neverMeetsItself_r2 ++ wsX0_neverMeetsItself_r3)) ++ wsX00)
def wsX0_squareTo : List Cond := .code yX0_squareTo cX0_squareTo 10 (some .long) :: ([.methodLink RX0 26 yX0_x, .instanceMethod yX0_x, .selects RX0 yX0_x yX0_x, .initialized RX0, .code yX0_x cX0_x 2 (some .int), .fieldLink RX0 9 "DrawnAreas$Figure" "xs" "[I", .methodLink RX0 30 yX0_y, .instanceMethod yX0_y, .selects RX0 yX0_y yX0_y, .code yX0_y cX0_y 2 (some .int), .fieldLink RX0 15 "DrawnAreas$Figure" "ys" "[I"] ++ wsX00)
def wsJ13_compare_74951 : List Cond := .code yJ13_compare_74951 cJ13_compare_74951 4 (some .int) :: ([])
def wsX0_nearestAgainst_r1 : List Cond := [Cond.methodLink RX0 37 yX0_next, Cond.instanceMethod yX0_next, Cond.selects RX0 yX0_next yX0_next, Cond.initialized RX0, Cond.code yX0_next cX0_next 2 (some .int), Cond.fieldLink RX0 18 "DrawnAreas$Figure" "size" "I", Cond.methodLink RX0 26 yX0_x, Cond.instanceMethod yX0_x, Cond.selects RX0 yX0_x yX0_x, Cond.code yX0_x cX0_x 2 (some .int), Cond.fieldLink RX0 9 "DrawnAreas$Figure" "xs" "[I", Cond.methodLink RX0 30 yX0_y, Cond.instanceMethod yX0_y, Cond.selects RX0 yX0_y yX0_y, Cond.code yX0_y cX0_y 2 (some .int), Cond.fieldLink RX0 15 "DrawnAreas$Figure" "ys" "[I", Cond.methodLink RX0 83 yX0_squareTo, Cond.instanceMethod yX0_squareTo, Cond.selects RX0 yX0_squareTo yX0_squareTo, Cond.code yX0_squareTo cX0_squareTo 10 (some .long), Cond.methodLink RX0 86 yJ13_compare_74951, Cond.static yJ13_compare_74951, Cond.initialized RJ13, Cond.code yJ13_compare_74951 cJ13_compare_74951 4 (some .int)]
def wsX0_nearestAgainst_r2 : List Cond := [Cond.methodLink RX0 56 yX0_leftOf, Cond.instanceMethod yX0_leftOf, Cond.selects RX0 yX0_leftOf yX0_leftOf, Cond.code yX0_leftOf cX0_leftOf 7 (some .long)]
def wsX0_nearestAgainst : List Cond := .code yX0_nearestAgainst cX0_nearestAgainst 17 (some .int) :: ((wsX0_nearestAgainst_r1 ++ wsX0_nearestAgainst_r2) ++ wsX00)
def wsX0_takeIn : List Cond := .code yX0_takeIn cX0_takeIn 7 none :: ([.fieldLink RX0 18 "DrawnAreas$Figure" "size" "I", .methodLink RX0 26 yX0_x, .instanceMethod yX0_x, .selects RX0 yX0_x yX0_x, .initialized RX0, .code yX0_x cX0_x 2 (some .int), .fieldLink RX0 9 "DrawnAreas$Figure" "xs" "[I", .methodLink RX0 30 yX0_y, .instanceMethod yX0_y, .selects RX0 yX0_y yX0_y, .code yX0_y cX0_y 2 (some .int), .fieldLink RX0 15 "DrawnAreas$Figure" "ys" "[I", .methodLink RX0 22 yX0_put, .instanceMethod yX0_put, .selects RX0 yX0_put yX0_put, .code yX0_put cX0_put 4 none, .methodLink RX0 37 yX0_next, .instanceMethod yX0_next, .selects RX0 yX0_next yX0_next, .code yX0_next cX0_next 2 (some .int)] ++ wsX00)
def wsX0_crosses : List Cond := .code yX0_crosses cX0_crosses 5 (some .boolean) :: ([.methodLink RX0 30 yX0_y, .instanceMethod yX0_y, .selects RX0 yX0_y yX0_y, .initialized RX0, .code yX0_y cX0_y 2 (some .int), .fieldLink RX0 15 "DrawnAreas$Figure" "ys" "[I", .methodLink RX0 37 yX0_next, .instanceMethod yX0_next, .selects RX0 yX0_next yX0_next, .code yX0_next cX0_next 2 (some .int), .fieldLink RX0 18 "DrawnAreas$Figure" "size" "I"] ++ wsX00)
def wsX0_crossingUpper : List Cond := .code yX0_crossingUpper cX0_crossingUpper 3 (some .int) :: ([.methodLink RX0 37 yX0_next, .instanceMethod yX0_next, .selects RX0 yX0_next yX0_next, .initialized RX0, .code yX0_next cX0_next 2 (some .int), .fieldLink RX0 18 "DrawnAreas$Figure" "size" "I", .methodLink RX0 26 yX0_x, .instanceMethod yX0_x, .selects RX0 yX0_x yX0_x, .code yX0_x cX0_x 2 (some .int), .fieldLink RX0 9 "DrawnAreas$Figure" "xs" "[I", .methodLink RX0 30 yX0_y, .instanceMethod yX0_y, .selects RX0 yX0_y yX0_y, .code yX0_y cX0_y 2 (some .int), .fieldLink RX0 15 "DrawnAreas$Figure" "ys" "[I"] ++ wsX00)
def wsX0_crossingLower : List Cond := .code yX0_crossingLower cX0_crossingLower 2 (some .int) :: ([.methodLink RX0 37 yX0_next, .instanceMethod yX0_next, .selects RX0 yX0_next yX0_next, .initialized RX0, .code yX0_next cX0_next 2 (some .int), .fieldLink RX0 18 "DrawnAreas$Figure" "size" "I", .methodLink RX0 30 yX0_y, .instanceMethod yX0_y, .selects RX0 yX0_y yX0_y, .code yX0_y cX0_y 2 (some .int), .fieldLink RX0 15 "DrawnAreas$Figure" "ys" "[I"] ++ wsX00)
def wsX0_placesFrom : List Cond := .code yX0_placesFrom cX0_placesFrom 4 (some .int) :: ([.fieldLink RX0 18 "DrawnAreas$Figure" "size" "I", .methodLink RX0 30 yX0_y, .instanceMethod yX0_y, .selects RX0 yX0_y yX0_y, .initialized RX0, .code yX0_y cX0_y 2 (some .int), .fieldLink RX0 15 "DrawnAreas$Figure" "ys" "[I", .methodLink RX0 92 yX0_crosses, .instanceMethod yX0_crosses, .selects RX0 yX0_crosses yX0_crosses, .code yX0_crosses cX0_crosses 5 (some .boolean), .methodLink RX0 37 yX0_next, .instanceMethod yX0_next, .selects RX0 yX0_next yX0_next, .code yX0_next cX0_next 2 (some .int)] ++ wsX00)
def wsX0_crossesWhole_r1 : List Cond := [Cond.fieldLink RX0 18 "DrawnAreas$Figure" "size" "I", Cond.methodLink RX0 95 yX0_crossingLower, Cond.instanceMethod yX0_crossingLower, Cond.selects RX0 yX0_crossingLower yX0_crossingLower, Cond.initialized RX0, Cond.code yX0_crossingLower cX0_crossingLower 2 (some .int), Cond.methodLink RX0 37 yX0_next, Cond.instanceMethod yX0_next, Cond.selects RX0 yX0_next yX0_next, Cond.code yX0_next cX0_next 2 (some .int), Cond.methodLink RX0 30 yX0_y, Cond.instanceMethod yX0_y, Cond.selects RX0 yX0_y yX0_y, Cond.code yX0_y cX0_y 2 (some .int), Cond.fieldLink RX0 15 "DrawnAreas$Figure" "ys" "[I", Cond.methodLink RX0 92 yX0_crosses, Cond.instanceMethod yX0_crosses, Cond.selects RX0 yX0_crosses yX0_crosses, Cond.code yX0_crosses cX0_crosses 5 (some .boolean), Cond.methodLink RX0 98 yX0_crossingUpper, Cond.instanceMethod yX0_crossingUpper, Cond.selects RX0 yX0_crossingUpper yX0_crossingUpper, Cond.code yX0_crossingUpper cX0_crossingUpper 3 (some .int), Cond.methodLink RX0 26 yX0_x]
def wsX0_crossesWhole_r2 : List Cond := [Cond.instanceMethod yX0_x, Cond.selects RX0 yX0_x yX0_x, Cond.code yX0_x cX0_x 2 (some .int), Cond.fieldLink RX0 9 "DrawnAreas$Figure" "xs" "[I"]
def wsX0_crossesWhole : List Cond := .code yX0_crossesWhole cX0_crossesWhole 4 (some .boolean) :: ((wsX0_crossesWhole_r1 ++ wsX0_crossesWhole_r2) ++ wsX00)
def wsX0_becomeUpper_r1 : List Cond := [Cond.fieldLink RX0 18 "DrawnAreas$Figure" "size" "I", Cond.methodLink RX0 30 yX0_y, Cond.instanceMethod yX0_y, Cond.selects RX0 yX0_y yX0_y, Cond.initialized RX0, Cond.code yX0_y cX0_y 2 (some .int), Cond.fieldLink RX0 15 "DrawnAreas$Figure" "ys" "[I", Cond.methodLink RX0 26 yX0_x, Cond.instanceMethod yX0_x, Cond.selects RX0 yX0_x yX0_x, Cond.code yX0_x cX0_x 2 (some .int), Cond.fieldLink RX0 9 "DrawnAreas$Figure" "xs" "[I", Cond.methodLink RX0 33 yX0_add, Cond.instanceMethod yX0_add, Cond.selects RX0 yX0_add yX0_add, Cond.code yX0_add cX0_add 3 none, Cond.methodLink RX0 22 yX0_put, Cond.instanceMethod yX0_put, Cond.selects RX0 yX0_put yX0_put, Cond.code yX0_put cX0_put 4 none, Cond.methodLink RX0 95 yX0_crossingLower, Cond.instanceMethod yX0_crossingLower, Cond.selects RX0 yX0_crossingLower yX0_crossingLower, Cond.code yX0_crossingLower cX0_crossingLower 2 (some .int)]
def wsX0_becomeUpper_r2 : List Cond := [Cond.methodLink RX0 37 yX0_next, Cond.instanceMethod yX0_next, Cond.selects RX0 yX0_next yX0_next, Cond.code yX0_next cX0_next 2 (some .int), Cond.methodLink RX0 92 yX0_crosses, Cond.instanceMethod yX0_crosses, Cond.selects RX0 yX0_crosses yX0_crosses, Cond.code yX0_crosses cX0_crosses 5 (some .boolean), Cond.methodLink RX0 98 yX0_crossingUpper, Cond.instanceMethod yX0_crossingUpper, Cond.selects RX0 yX0_crossingUpper yX0_crossingUpper, Cond.code yX0_crossingUpper cX0_crossingUpper 3 (some .int)]
def wsX0_becomeUpper : List Cond := .code yX0_becomeUpper cX0_becomeUpper 5 none :: ((wsX0_becomeUpper_r1 ++ wsX0_becomeUpper_r2) ++ wsX00)
def wsX1_init : List Cond := .code yX1_init cX1_init 2 none :: ([.methodLink RX1 1 objectInit, .instanceMethod objectInit, .code objectInit ⟨#[0xb1]⟩ 1 none, .classLink RX1 9 RX0, .fieldLink RX1 11 "DrawnAreas" "figures" "[LDrawnAreas$Figure;", .instantiable RX0 3, .initialized RX0, .fieldLink RX1 16 "DrawnAreas" "rodLength" "I", .fieldLink RX1 20 "DrawnAreas" "roundLength" "I", .fieldLink RX1 23 "DrawnAreas" "toothNumber" "I", .fieldLink RX1 26 "DrawnAreas" "footX" "I", .fieldLink RX1 29 "DrawnAreas" "footY" "I", .fieldLink RX1 32 "DrawnAreas" "armLength" "I", .fieldLink RX1 35 "DrawnAreas" "wheelBeyond" "I", .methodLink RX1 15 yX0_init, .instanceMethod yX0_init, .code yX0_init cX0_init 1 none, .methodLink RX0 3 objectInit, .arrayClass .int, .fieldLink RX0 9 "DrawnAreas$Figure" "xs" "[I", .fieldLink RX0 15 "DrawnAreas$Figure" "ys" "[I", .fieldLink RX0 18 "DrawnAreas$Figure" "size" "I"] ++ wsX10 ++ wsX00)
def wsX1_find : List Cond := .code yX1_find cX1_find 2 (some (.object "DrawnAreas$Figure")) :: ([.fieldLink RX1 11 "DrawnAreas" "figures" "[LDrawnAreas$Figure;"] ++ wsX10)
def wsX1_within : List Cond := .code yX1_within cX1_within 2 (some .boolean) :: ([])
def wsX1_point : List Cond := .code yX1_point cX1_point 5 (some .int) :: ([.methodLink RX1 38 yX1_find, .instanceMethod yX1_find, .selects RX1 yX1_find yX1_find, .initialized RX1, .code yX1_find cX1_find 2 (some (.object "DrawnAreas$Figure")), .fieldLink RX1 11 "DrawnAreas" "figures" "[LDrawnAreas$Figure;", .methodLink RX1 42 yX1_within, .static yX1_within, .code yX1_within cX1_within 2 (some .boolean), .methodLink RX1 49 yX0_add, .instanceMethod yX0_add, .selects RX0 yX0_add yX0_add, .initialized RX0, .code yX0_add cX0_add 3 none, .fieldLink RX0 18 "DrawnAreas$Figure" "size" "I", .methodLink RX0 22 yX0_put, .instanceMethod yX0_put, .selects RX0 yX0_put yX0_put, .code yX0_put cX0_put 4 none, .fieldLink RX0 9 "DrawnAreas$Figure" "xs" "[I", .fieldLink RX0 15 "DrawnAreas$Figure" "ys" "[I"] ++ wsX00 ++ wsX10)
def wsX1_move : List Cond := .code yX1_move cX1_move 6 (some .int) :: ([.methodLink RX1 38 yX1_find, .instanceMethod yX1_find, .selects RX1 yX1_find yX1_find, .initialized RX1, .code yX1_find cX1_find 2 (some (.object "DrawnAreas$Figure")), .fieldLink RX1 11 "DrawnAreas" "figures" "[LDrawnAreas$Figure;", .methodLink RX1 53 yX0_has, .instanceMethod yX0_has, .selects RX0 yX0_has yX0_has, .initialized RX0, .code yX0_has cX0_has 2 (some .boolean), .fieldLink RX0 18 "DrawnAreas$Figure" "size" "I", .methodLink RX1 42 yX1_within, .static yX1_within, .code yX1_within cX1_within 2 (some .boolean), .methodLink RX1 57 yX0_put, .instanceMethod yX0_put, .selects RX0 yX0_put yX0_put, .code yX0_put cX0_put 4 none, .fieldLink RX0 9 "DrawnAreas$Figure" "xs" "[I", .fieldLink RX0 15 "DrawnAreas$Figure" "ys" "[I"] ++ wsX10 ++ wsX00)
def wsX1_clear : List Cond := .code yX1_clear cX1_clear 4 (some .int) :: ([.methodLink RX1 38 yX1_find, .instanceMethod yX1_find, .selects RX1 yX1_find yX1_find, .initialized RX1, .code yX1_find cX1_find 2 (some (.object "DrawnAreas$Figure")), .fieldLink RX1 11 "DrawnAreas" "figures" "[LDrawnAreas$Figure;"] ++ wsX00 ++ wsX10)
def wsX1_zeroOrOne : List Cond := .code yX1_zeroOrOne cX1_zeroOrOne 1 (some .boolean) :: ([])
def wsX1_at_r1 : List Cond := [Cond.methodLink RX1 38 yX1_find, Cond.instanceMethod yX1_find, Cond.selects RX1 yX1_find yX1_find, Cond.initialized RX1, Cond.code yX1_find cX1_find 2 (some (.object "DrawnAreas$Figure")), Cond.fieldLink RX1 11 "DrawnAreas" "figures" "[LDrawnAreas$Figure;", Cond.methodLink RX1 53 yX0_has, Cond.instanceMethod yX0_has, Cond.selects RX0 yX0_has yX0_has, Cond.initialized RX0, Cond.code yX0_has cX0_has 2 (some .boolean), Cond.fieldLink RX0 18 "DrawnAreas$Figure" "size" "I", Cond.methodLink RX1 61 yX1_zeroOrOne, Cond.static yX1_zeroOrOne, Cond.code yX1_zeroOrOne cX1_zeroOrOne 1 (some .boolean), Cond.methodLink RX1 64 yX0_x, Cond.instanceMethod yX0_x, Cond.selects RX0 yX0_x yX0_x, Cond.code yX0_x cX0_x 2 (some .int), Cond.fieldLink RX0 9 "DrawnAreas$Figure" "xs" "[I", Cond.methodLink RX1 68 yX0_y, Cond.instanceMethod yX0_y, Cond.selects RX0 yX0_y yX0_y, Cond.code yX0_y cX0_y 2 (some .int)]
def wsX1_at_r2 : List Cond := [Cond.fieldLink RX0 15 "DrawnAreas$Figure" "ys" "[I"]
def wsX1_at : List Cond := .code yX1_at cX1_at 5 (some .int) :: ((wsX1_at_r1 ++ wsX1_at_r2) ++ wsX00 ++ wsX10)
def wsX1_copy_r1 : List Cond := [Cond.methodLink RX1 38 yX1_find, Cond.instanceMethod yX1_find, Cond.selects RX1 yX1_find yX1_find, Cond.initialized RX1, Cond.code yX1_find cX1_find 2 (some (.object "DrawnAreas$Figure")), Cond.fieldLink RX1 11 "DrawnAreas" "figures" "[LDrawnAreas$Figure;", Cond.methodLink RX1 71 yX0_become, Cond.instanceMethod yX0_become, Cond.selects RX0 yX0_become yX0_become, Cond.initialized RX0, Cond.code yX0_become cX0_become 3 none, Cond.fieldLink RX0 18 "DrawnAreas$Figure" "size" "I", Cond.methodLink RX0 26 yX0_x, Cond.instanceMethod yX0_x, Cond.selects RX0 yX0_x yX0_x, Cond.code yX0_x cX0_x 2 (some .int), Cond.fieldLink RX0 9 "DrawnAreas$Figure" "xs" "[I", Cond.methodLink RX0 30 yX0_y, Cond.instanceMethod yX0_y, Cond.selects RX0 yX0_y yX0_y, Cond.code yX0_y cX0_y 2 (some .int), Cond.fieldLink RX0 15 "DrawnAreas$Figure" "ys" "[I", Cond.methodLink RX0 33 yX0_add, Cond.instanceMethod yX0_add]
def wsX1_copy_r2 : List Cond := [Cond.selects RX0 yX0_add yX0_add, Cond.code yX0_add cX0_add 3 none, Cond.methodLink RX0 22 yX0_put, Cond.instanceMethod yX0_put, Cond.selects RX0 yX0_put yX0_put, Cond.code yX0_put cX0_put 4 none, Cond.methodLink RX1 75 yX0_turn, Cond.instanceMethod yX0_turn, Cond.selects RX0 yX0_turn yX0_turn, Cond.code yX0_turn cX0_turn 5 none]
def wsX1_copy : List Cond := .code yX1_copy cX1_copy 6 (some .int) :: ((wsX1_copy_r1 ++ wsX1_copy_r2) ++ wsX00 ++ wsX10)
def wsX1_twice_r1 : List Cond := [Cond.constantLong RX1 78 (-1000000000000000001), Cond.constantLong RX1 84 (-1000000000000000003), Cond.methodLink RX1 38 yX1_find, Cond.instanceMethod yX1_find, Cond.selects RX1 yX1_find yX1_find, Cond.initialized RX1, Cond.code yX1_find cX1_find 2 (some (.object "DrawnAreas$Figure")), Cond.fieldLink RX1 11 "DrawnAreas" "figures" "[LDrawnAreas$Figure;", Cond.methodLink RX1 80 yX0_closed, Cond.instanceMethod yX0_closed, Cond.selects RX0 yX0_closed yX0_closed, Cond.initialized RX0, Cond.code yX0_closed cX0_closed 1 (some .boolean), Cond.fieldLink RX0 18 "DrawnAreas$Figure" "size" "I", Cond.methodLink RX1 86 yX0_doubleArea, Cond.instanceMethod yX0_doubleArea, Cond.selects RX0 yX0_doubleArea yX0_doubleArea, Cond.code yX0_doubleArea cX0_doubleArea 5 (some .long), Cond.methodLink RX0 37 yX0_next, Cond.instanceMethod yX0_next, Cond.selects RX0 yX0_next yX0_next, Cond.code yX0_next cX0_next 2 (some .int), Cond.methodLink RX0 26 yX0_x, Cond.instanceMethod yX0_x]
def wsX1_twice_r2 : List Cond := [Cond.selects RX0 yX0_x yX0_x, Cond.code yX0_x cX0_x 2 (some .int), Cond.fieldLink RX0 9 "DrawnAreas$Figure" "xs" "[I", Cond.methodLink RX0 30 yX0_y, Cond.instanceMethod yX0_y, Cond.selects RX0 yX0_y yX0_y, Cond.code yX0_y cX0_y 2 (some .int), Cond.fieldLink RX0 15 "DrawnAreas$Figure" "ys" "[I"]
def wsX1_twice : List Cond := .code yX1_twice cX1_twice 3 (some .long) :: ((wsX1_twice_r1 ++ wsX1_twice_r2) ++ wsX10 ++ wsX00)
def wsX1_oneIf : List Cond := .code yX1_oneIf cX1_oneIf 1 (some .int) :: ([])
def wsX1_simple_r1 : List Cond := [Cond.methodLink RX1 38 yX1_find, Cond.instanceMethod yX1_find, Cond.selects RX1 yX1_find yX1_find, Cond.initialized RX1, Cond.code yX1_find cX1_find 2 (some (.object "DrawnAreas$Figure")), Cond.fieldLink RX1 11 "DrawnAreas" "figures" "[LDrawnAreas$Figure;", Cond.methodLink RX1 80 yX0_closed, Cond.instanceMethod yX0_closed, Cond.selects RX0 yX0_closed yX0_closed, Cond.initialized RX0, Cond.code yX0_closed cX0_closed 1 (some .boolean), Cond.fieldLink RX0 18 "DrawnAreas$Figure" "size" "I", Cond.methodLink RX1 90 yX0_neverMeetsItself, Cond.instanceMethod yX0_neverMeetsItself, Cond.selects RX0 yX0_neverMeetsItself yX0_neverMeetsItself, Cond.code yX0_neverMeetsItself cX0_neverMeetsItself 3 (some .boolean), Cond.methodLink RX0 37 yX0_next, Cond.instanceMethod yX0_next, Cond.selects RX0 yX0_next yX0_next, Cond.code yX0_next cX0_next 2 (some .int), Cond.methodLink RX0 68 yX0_samePlace, Cond.instanceMethod yX0_samePlace, Cond.selects RX0 yX0_samePlace yX0_samePlace, Cond.code yX0_samePlace cX0_samePlace 4 (some .boolean)]
def wsX1_simple_r2 : List Cond := [Cond.methodLink RX0 26 yX0_x, Cond.instanceMethod yX0_x, Cond.selects RX0 yX0_x yX0_x, Cond.code yX0_x cX0_x 2 (some .int), Cond.fieldLink RX0 9 "DrawnAreas$Figure" "xs" "[I", Cond.methodLink RX0 30 yX0_y, Cond.instanceMethod yX0_y, Cond.selects RX0 yX0_y yX0_y, Cond.code yX0_y cX0_y 2 (some .int), Cond.fieldLink RX0 15 "DrawnAreas$Figure" "ys" "[I", Cond.methodLink RX0 72 yX0_foldsBack, Cond.instanceMethod yX0_foldsBack, Cond.selects RX0 yX0_foldsBack yX0_foldsBack, Cond.code yX0_foldsBack cX0_foldsBack 5 (some .boolean), Cond.methodLink RX0 56 yX0_leftOf, Cond.instanceMethod yX0_leftOf, Cond.selects RX0 yX0_leftOf yX0_leftOf, Cond.code yX0_leftOf cX0_leftOf 7 (some .long), Cond.methodLink RX0 76 yX0_sidesMeet, Cond.instanceMethod yX0_sidesMeet, Cond.selects RX0 yX0_sidesMeet yX0_sidesMeet, Cond.code yX0_sidesMeet cX0_sidesMeet 3 (some .boolean), Cond.methodLink RX0 64 yX0_sideCarries, Cond.instanceMethod yX0_sideCarries]
def wsX1_simple_r3 : List Cond := [Cond.selects RX0 yX0_sideCarries yX0_sideCarries, Cond.code yX0_sideCarries cX0_sideCarries 5 (some .boolean), Cond.methodLink RX0 60 yX0_between, Cond.static yX0_between, Cond.code yX0_between cX0_between 4 (some .boolean), Cond.methodLink RX0 49 Lib.Math.min.name, Cond.static Lib.Math.min.name, Cond.initialized "java/lang/Math", Cond.code Lib.Math.min.name Lib.Math.min.code 2 (some .int), Cond.methodLink RX0 53 Lib.Math.max.name, Cond.static Lib.Math.max.name, Cond.code Lib.Math.max.name Lib.Math.max.code 2 (some .int), Cond.methodLink RX0 80 yX0_parts, Cond.instanceMethod yX0_parts, Cond.selects RX0 yX0_parts yX0_parts, Cond.code yX0_parts cX0_parts 7 (some .boolean), Cond.methodLink RX1 93 yX1_oneIf, Cond.static yX1_oneIf, Cond.code yX1_oneIf cX1_oneIf 1 (some .int)]
def wsX1_simple : List Cond := .code yX1_simple cX1_simple 3 (some .int) :: ((wsX1_simple_r1 ++ (wsX1_simple_r2 ++ wsX1_simple_r3)) ++ wsX10 ++ wsX00)
def wsX1_winds_r1 : List Cond := [Cond.methodLink RX1 38 yX1_find, Cond.instanceMethod yX1_find, Cond.selects RX1 yX1_find yX1_find, Cond.initialized RX1, Cond.code yX1_find cX1_find 2 (some (.object "DrawnAreas$Figure")), Cond.fieldLink RX1 11 "DrawnAreas" "figures" "[LDrawnAreas$Figure;", Cond.methodLink RX1 42 yX1_within, Cond.static yX1_within, Cond.code yX1_within cX1_within 2 (some .boolean), Cond.methodLink RX1 80 yX0_closed, Cond.instanceMethod yX0_closed, Cond.selects RX0 yX0_closed yX0_closed, Cond.initialized RX0, Cond.code yX0_closed cX0_closed 1 (some .boolean), Cond.fieldLink RX0 18 "DrawnAreas$Figure" "size" "I", Cond.methodLink RX1 97 yX0_carries, Cond.instanceMethod yX0_carries, Cond.selects RX0 yX0_carries yX0_carries, Cond.code yX0_carries cX0_carries 4 (some .boolean), Cond.methodLink RX0 64 yX0_sideCarries, Cond.instanceMethod yX0_sideCarries, Cond.selects RX0 yX0_sideCarries yX0_sideCarries, Cond.code yX0_sideCarries cX0_sideCarries 5 (some .boolean), Cond.methodLink RX0 37 yX0_next]
def wsX1_winds_r2 : List Cond := [Cond.instanceMethod yX0_next, Cond.selects RX0 yX0_next yX0_next, Cond.code yX0_next cX0_next 2 (some .int), Cond.methodLink RX0 56 yX0_leftOf, Cond.instanceMethod yX0_leftOf, Cond.selects RX0 yX0_leftOf yX0_leftOf, Cond.code yX0_leftOf cX0_leftOf 7 (some .long), Cond.methodLink RX0 26 yX0_x, Cond.instanceMethod yX0_x, Cond.selects RX0 yX0_x yX0_x, Cond.code yX0_x cX0_x 2 (some .int), Cond.fieldLink RX0 9 "DrawnAreas$Figure" "xs" "[I", Cond.methodLink RX0 30 yX0_y, Cond.instanceMethod yX0_y, Cond.selects RX0 yX0_y yX0_y, Cond.code yX0_y cX0_y 2 (some .int), Cond.fieldLink RX0 15 "DrawnAreas$Figure" "ys" "[I", Cond.methodLink RX0 60 yX0_between, Cond.static yX0_between, Cond.code yX0_between cX0_between 4 (some .boolean), Cond.methodLink RX0 49 Lib.Math.min.name, Cond.static Lib.Math.min.name, Cond.initialized "java/lang/Math", Cond.code Lib.Math.min.name Lib.Math.min.code 2 (some .int)]
def wsX1_winds_r3 : List Cond := [Cond.methodLink RX0 53 Lib.Math.max.name, Cond.static Lib.Math.max.name, Cond.code Lib.Math.max.name Lib.Math.max.code 2 (some .int), Cond.methodLink RX1 100 yX0_turnsRound, Cond.instanceMethod yX0_turnsRound, Cond.selects RX0 yX0_turnsRound yX0_turnsRound, Cond.code yX0_turnsRound cX0_turnsRound 9 (some .int)]
def wsX1_winds : List Cond := .code yX1_winds cX1_winds 5 (some .int) :: ((wsX1_winds_r1 ++ (wsX1_winds_r2 ++ wsX1_winds_r3)) ++ wsX10 ++ wsX00)
def wsX1_from1To : List Cond := .code yX1_from1To cX1_from1To 2 (some .boolean) :: ([])
def wsX1_rod : List Cond := .code yX1_rod cX1_rod 3 (some .int) :: ([.fieldLink RX1 16 "DrawnAreas" "rodLength" "I", .methodLink RX1 104 yX1_from1To, .static yX1_from1To, .initialized RX1, .code yX1_from1To cX1_from1To 2 (some .boolean)] ++ wsX10)
def wsX1_from0To : List Cond := .code yX1_from0To cX1_from0To 2 (some .boolean) :: ([])
def wsX1_goesRound : List Cond := .code yX1_goesRound cX1_goesRound 2 (some .boolean) :: ([.fieldLink RX1 16 "DrawnAreas" "rodLength" "I", .methodLink RX1 80 yX0_closed, .instanceMethod yX0_closed, .selects RX0 yX0_closed yX0_closed, .initialized RX0, .code yX0_closed cX0_closed 1 (some .boolean), .fieldLink RX0 18 "DrawnAreas$Figure" "size" "I", .methodLink RX1 200 yX0_staysNearer, .instanceMethod yX0_staysNearer, .selects RX0 yX0_staysNearer yX0_staysNearer, .code yX0_staysNearer cX0_staysNearer 3 (some .boolean), .methodLink RX0 44 Lib.Math.abs.name, .static Lib.Math.abs.name, .initialized "java/lang/Math", .code Lib.Math.abs.name Lib.Math.abs.code 1 (some .int), .methodLink RX0 30 yX0_y, .instanceMethod yX0_y, .selects RX0 yX0_y yX0_y, .code yX0_y cX0_y 2 (some .int), .fieldLink RX0 15 "DrawnAreas$Figure" "ys" "[I"] ++ wsX10 ++ wsX00)
def wsX1_commonDivisor : List Cond := .code yX1_commonDivisor cX1_commonDivisor 11 (some .long) :: ([])
def wsX1_cut : List Cond := .code yX1_cut cX1_cut 4 (some .long) :: ([])
def wsX1_fraction : List Cond := .code yX1_fraction cX1_fraction 7 (some .long) :: ([.methodLink RX1 155 Lib.MathLoose.abs_long.x, .static Lib.MathLoose.abs_long.x, .initialized "java/lang/Math", .code Lib.MathLoose.abs_long.x Lib.MathLoose.abs_long.code 2 (some .long), .methodLink RX1 197 yX1_commonDivisor, .static yX1_commonDivisor, .initialized RX1, .code yX1_commonDivisor cX1_commonDivisor 11 (some .long), .methodLink RX1 161 yX1_cut, .static yX1_cut, .code yX1_cut cX1_cut 4 (some .long)])
def wsX1_told_r1 : List Cond := [Cond.constantLong RX1 78 (-1000000000000000001), Cond.constantLong RX1 110 (-1000000000000000002), Cond.constantLong RX1 84 (-1000000000000000003), Cond.constantLong RX1 120 (2), Cond.fieldLink RX1 16 "DrawnAreas" "rodLength" "I", Cond.methodLink RX1 38 yX1_find, Cond.instanceMethod yX1_find, Cond.selects RX1 yX1_find yX1_find, Cond.initialized RX1, Cond.code yX1_find cX1_find 2 (some (.object "DrawnAreas$Figure")), Cond.fieldLink RX1 11 "DrawnAreas" "figures" "[LDrawnAreas$Figure;", Cond.methodLink RX1 107 yX1_from0To, Cond.static yX1_from0To, Cond.code yX1_from0To cX1_from0To 2 (some .boolean), Cond.methodLink RX1 61 yX1_zeroOrOne, Cond.static yX1_zeroOrOne, Cond.code yX1_zeroOrOne cX1_zeroOrOne 1 (some .boolean), Cond.methodLink RX1 112 yX1_goesRound, Cond.instanceMethod yX1_goesRound, Cond.selects RX1 yX1_goesRound yX1_goesRound, Cond.code yX1_goesRound cX1_goesRound 2 (some .boolean), Cond.methodLink RX1 80 yX0_closed, Cond.instanceMethod yX0_closed, Cond.selects RX0 yX0_closed yX0_closed]
def wsX1_told_r2 : List Cond := [Cond.initialized RX0, Cond.code yX0_closed cX0_closed 1 (some .boolean), Cond.fieldLink RX0 18 "DrawnAreas$Figure" "size" "I", Cond.methodLink RX1 200 yX0_staysNearer, Cond.instanceMethod yX0_staysNearer, Cond.selects RX0 yX0_staysNearer yX0_staysNearer, Cond.code yX0_staysNearer cX0_staysNearer 3 (some .boolean), Cond.methodLink RX0 44 Lib.Math.abs.name, Cond.static Lib.Math.abs.name, Cond.initialized "java/lang/Math", Cond.code Lib.Math.abs.name Lib.Math.abs.code 1 (some .int), Cond.methodLink RX0 30 yX0_y, Cond.instanceMethod yX0_y, Cond.selects RX0 yX0_y yX0_y, Cond.code yX0_y cX0_y 2 (some .int), Cond.fieldLink RX0 15 "DrawnAreas$Figure" "ys" "[I", Cond.methodLink RX1 116 yX0_alongX, Cond.instanceMethod yX0_alongX, Cond.selects RX0 yX0_alongX yX0_alongX, Cond.code yX0_alongX cX0_alongX 7 (some .long), Cond.methodLink RX0 37 yX0_next, Cond.instanceMethod yX0_next, Cond.selects RX0 yX0_next yX0_next, Cond.code yX0_next cX0_next 2 (some .int)]
def wsX1_told_r3 : List Cond := [Cond.methodLink RX0 26 yX0_x, Cond.instanceMethod yX0_x, Cond.selects RX0 yX0_x yX0_x, Cond.code yX0_x cX0_x 2 (some .int), Cond.fieldLink RX0 9 "DrawnAreas$Figure" "xs" "[I", Cond.methodLink RX0 40 yX0_mixedPowers, Cond.static yX0_mixedPowers, Cond.code yX0_mixedPowers cX0_mixedPowers 10 (some .long), Cond.methodLink RX1 122 yX1_fraction, Cond.static yX1_fraction, Cond.code yX1_fraction cX1_fraction 7 (some .long), Cond.methodLink RX1 155 Lib.MathLoose.abs_long.x, Cond.static Lib.MathLoose.abs_long.x, Cond.code Lib.MathLoose.abs_long.x Lib.MathLoose.abs_long.code 2 (some .long), Cond.methodLink RX1 197 yX1_commonDivisor, Cond.static yX1_commonDivisor, Cond.code yX1_commonDivisor cX1_commonDivisor 11 (some .long), Cond.methodLink RX1 161 yX1_cut, Cond.static yX1_cut, Cond.code yX1_cut cX1_cut 4 (some .long)]
def wsX1_told : List Cond := .code yX1_told cX1_told 5 (some .long) :: ((wsX1_told_r1 ++ (wsX1_told_r2 ++ wsX1_told_r3)) ++ wsX00 ++ wsX10)
def wsX1_can_r1 : List Cond := [Cond.methodLink RX1 38 yX1_find, Cond.instanceMethod yX1_find, Cond.selects RX1 yX1_find yX1_find, Cond.initialized RX1, Cond.code yX1_find cX1_find 2 (some (.object "DrawnAreas$Figure")), Cond.fieldLink RX1 11 "DrawnAreas" "figures" "[LDrawnAreas$Figure;", Cond.methodLink RX1 80 yX0_closed, Cond.instanceMethod yX0_closed, Cond.selects RX0 yX0_closed yX0_closed, Cond.initialized RX0, Cond.code yX0_closed cX0_closed 1 (some .boolean), Cond.fieldLink RX0 18 "DrawnAreas$Figure" "size" "I", Cond.methodLink RX1 112 yX1_goesRound, Cond.instanceMethod yX1_goesRound, Cond.selects RX1 yX1_goesRound yX1_goesRound, Cond.code yX1_goesRound cX1_goesRound 2 (some .boolean), Cond.fieldLink RX1 16 "DrawnAreas" "rodLength" "I", Cond.methodLink RX1 200 yX0_staysNearer, Cond.instanceMethod yX0_staysNearer, Cond.selects RX0 yX0_staysNearer yX0_staysNearer, Cond.code yX0_staysNearer cX0_staysNearer 3 (some .boolean), Cond.methodLink RX0 44 Lib.Math.abs.name, Cond.static Lib.Math.abs.name, Cond.initialized "java/lang/Math"]
def wsX1_can_r2 : List Cond := [Cond.code Lib.Math.abs.name Lib.Math.abs.code 1 (some .int), Cond.methodLink RX0 30 yX0_y, Cond.instanceMethod yX0_y, Cond.selects RX0 yX0_y yX0_y, Cond.code yX0_y cX0_y 2 (some .int), Cond.fieldLink RX0 15 "DrawnAreas$Figure" "ys" "[I", Cond.methodLink RX1 93 yX1_oneIf, Cond.static yX1_oneIf, Cond.code yX1_oneIf cX1_oneIf 1 (some .int)]
def wsX1_can : List Cond := .code yX1_can cX1_can 3 (some .int) :: ((wsX1_can_r1 ++ wsX1_can_r2) ++ wsX10 ++ wsX00)
def wsX1_neverLeftOf_r1 : List Cond := [Cond.fieldLink RX1 16 "DrawnAreas" "rodLength" "I", Cond.methodLink RX1 64 yX0_x, Cond.instanceMethod yX0_x, Cond.selects RX0 yX0_x yX0_x, Cond.initialized RX0, Cond.code yX0_x cX0_x 2 (some .int), Cond.fieldLink RX0 9 "DrawnAreas$Figure" "xs" "[I", Cond.methodLink RX1 203 yX0_nearestAgainst, Cond.instanceMethod yX0_nearestAgainst, Cond.selects RX0 yX0_nearestAgainst yX0_nearestAgainst, Cond.code yX0_nearestAgainst cX0_nearestAgainst 17 (some .int), Cond.methodLink RX0 37 yX0_next, Cond.instanceMethod yX0_next, Cond.selects RX0 yX0_next yX0_next, Cond.code yX0_next cX0_next 2 (some .int), Cond.fieldLink RX0 18 "DrawnAreas$Figure" "size" "I", Cond.methodLink RX0 26 yX0_x, Cond.methodLink RX0 30 yX0_y, Cond.instanceMethod yX0_y, Cond.selects RX0 yX0_y yX0_y, Cond.code yX0_y cX0_y 2 (some .int), Cond.fieldLink RX0 15 "DrawnAreas$Figure" "ys" "[I", Cond.methodLink RX0 83 yX0_squareTo, Cond.instanceMethod yX0_squareTo]
def wsX1_neverLeftOf_r2 : List Cond := [Cond.selects RX0 yX0_squareTo yX0_squareTo, Cond.code yX0_squareTo cX0_squareTo 10 (some .long), Cond.methodLink RX0 86 yJ13_compare_74951, Cond.static yJ13_compare_74951, Cond.initialized RJ13, Cond.code yJ13_compare_74951 cJ13_compare_74951 4 (some .int), Cond.methodLink RX0 56 yX0_leftOf, Cond.instanceMethod yX0_leftOf, Cond.selects RX0 yX0_leftOf yX0_leftOf, Cond.code yX0_leftOf cX0_leftOf 7 (some .long)]
def wsX1_neverLeftOf : List Cond := .code yX1_neverLeftOf cX1_neverLeftOf 6 (some .boolean) :: ((wsX1_neverLeftOf_r1 ++ wsX1_neverLeftOf_r2) ++ wsX10 ++ wsX00)
def wsX1_neverRightOf : List Cond := .code yX1_neverRightOf cX1_neverRightOf 6 (some .boolean) :: ([.fieldLink RX1 16 "DrawnAreas" "rodLength" "I", .methodLink RX1 64 yX0_x, .instanceMethod yX0_x, .selects RX0 yX0_x yX0_x, .initialized RX0, .code yX0_x cX0_x 2 (some .int), .fieldLink RX0 9 "DrawnAreas$Figure" "xs" "[I", .methodLink RX1 207 yX0_squareTo, .instanceMethod yX0_squareTo, .selects RX0 yX0_squareTo yX0_squareTo, .code yX0_squareTo cX0_squareTo 10 (some .long), .methodLink RX0 26 yX0_x, .methodLink RX0 30 yX0_y, .instanceMethod yX0_y, .selects RX0 yX0_y yX0_y, .code yX0_y cX0_y 2 (some .int), .fieldLink RX0 15 "DrawnAreas$Figure" "ys" "[I"] ++ wsX10 ++ wsX00)
def wsX1_rail_r1 : List Cond := [Cond.methodLink RX1 38 yX1_find, Cond.instanceMethod yX1_find, Cond.selects RX1 yX1_find yX1_find, Cond.initialized RX1, Cond.code yX1_find cX1_find 2 (some (.object "DrawnAreas$Figure")), Cond.fieldLink RX1 11 "DrawnAreas" "figures" "[LDrawnAreas$Figure;", Cond.methodLink RX1 42 yX1_within, Cond.static yX1_within, Cond.code yX1_within cX1_within 2 (some .boolean), Cond.methodLink RX1 80 yX0_closed, Cond.instanceMethod yX0_closed, Cond.selects RX0 yX0_closed yX0_closed, Cond.initialized RX0, Cond.code yX0_closed cX0_closed 1 (some .boolean), Cond.fieldLink RX0 18 "DrawnAreas$Figure" "size" "I", Cond.methodLink RX1 112 yX1_goesRound, Cond.instanceMethod yX1_goesRound, Cond.selects RX1 yX1_goesRound yX1_goesRound, Cond.code yX1_goesRound cX1_goesRound 2 (some .boolean), Cond.fieldLink RX1 16 "DrawnAreas" "rodLength" "I", Cond.methodLink RX1 200 yX0_staysNearer, Cond.instanceMethod yX0_staysNearer, Cond.selects RX0 yX0_staysNearer yX0_staysNearer, Cond.code yX0_staysNearer cX0_staysNearer 3 (some .boolean)]
def wsX1_rail_r2 : List Cond := [Cond.methodLink RX0 44 Lib.Math.abs.name, Cond.static Lib.Math.abs.name, Cond.initialized "java/lang/Math", Cond.code Lib.Math.abs.name Lib.Math.abs.code 1 (some .int), Cond.methodLink RX0 30 yX0_y, Cond.instanceMethod yX0_y, Cond.selects RX0 yX0_y yX0_y, Cond.code yX0_y cX0_y 2 (some .int), Cond.fieldLink RX0 15 "DrawnAreas$Figure" "ys" "[I", Cond.methodLink RX1 126 yX1_neverLeftOf, Cond.instanceMethod yX1_neverLeftOf, Cond.selects RX1 yX1_neverLeftOf yX1_neverLeftOf, Cond.code yX1_neverLeftOf cX1_neverLeftOf 6 (some .boolean), Cond.methodLink RX1 64 yX0_x, Cond.instanceMethod yX0_x, Cond.selects RX0 yX0_x yX0_x, Cond.code yX0_x cX0_x 2 (some .int), Cond.fieldLink RX0 9 "DrawnAreas$Figure" "xs" "[I", Cond.methodLink RX1 203 yX0_nearestAgainst, Cond.instanceMethod yX0_nearestAgainst, Cond.selects RX0 yX0_nearestAgainst yX0_nearestAgainst, Cond.code yX0_nearestAgainst cX0_nearestAgainst 17 (some .int), Cond.methodLink RX0 37 yX0_next, Cond.instanceMethod yX0_next]
def wsX1_rail_r3 : List Cond := [Cond.selects RX0 yX0_next yX0_next, Cond.code yX0_next cX0_next 2 (some .int), Cond.methodLink RX0 26 yX0_x, Cond.methodLink RX0 83 yX0_squareTo, Cond.instanceMethod yX0_squareTo, Cond.selects RX0 yX0_squareTo yX0_squareTo, Cond.code yX0_squareTo cX0_squareTo 10 (some .long), Cond.methodLink RX0 86 yJ13_compare_74951, Cond.static yJ13_compare_74951, Cond.initialized RJ13, Cond.code yJ13_compare_74951 cJ13_compare_74951 4 (some .int), Cond.methodLink RX0 56 yX0_leftOf, Cond.instanceMethod yX0_leftOf, Cond.selects RX0 yX0_leftOf yX0_leftOf, Cond.code yX0_leftOf cX0_leftOf 7 (some .long), Cond.methodLink RX1 130 yX1_neverRightOf, Cond.instanceMethod yX1_neverRightOf, Cond.selects RX1 yX1_neverRightOf yX1_neverRightOf, Cond.code yX1_neverRightOf cX1_neverRightOf 6 (some .boolean), Cond.methodLink RX1 207 yX0_squareTo, Cond.methodLink RX1 93 yX1_oneIf, Cond.static yX1_oneIf, Cond.code yX1_oneIf cX1_oneIf 1 (some .int)]
def wsX1_rail : List Cond := .code yX1_rail cX1_rail 5 (some .int) :: ((wsX1_rail_r1 ++ (wsX1_rail_r2 ++ wsX1_rail_r3)) ++ wsX10 ++ wsX00)
def wsX1_rootOf : List Cond := .code yX1_rootOf cX1_rootOf 7 (some .long) :: ([])
def wsX1_heightRoot : List Cond := .code yX1_heightRoot cX1_heightRoot 2 (some .long) :: ([.constantLong RX1 216 (1000000), .fieldLink RX1 16 "DrawnAreas" "rodLength" "I", .methodLink RX1 218 yX1_rootOf, .static yX1_rootOf, .initialized RX1, .code yX1_rootOf cX1_rootOf 7 (some .long)] ++ wsX10)
def wsX1_shutLow : List Cond := .code yX1_shutLow cX1_shutLow 5 (some .long) :: ([.constantLong RX1 211 (1000000000), .fieldLink RX1 16 "DrawnAreas" "rodLength" "I", .methodLink RX1 213 yX1_heightRoot, .instanceMethod yX1_heightRoot, .selects RX1 yX1_heightRoot yX1_heightRoot, .initialized RX1, .code yX1_heightRoot cX1_heightRoot 2 (some .long), .constantLong RX1 216 (1000000), .methodLink RX1 218 yX1_rootOf, .static yX1_rootOf, .code yX1_rootOf cX1_rootOf 7 (some .long), .methodLink RX1 161 yX1_cut, .static yX1_cut, .code yX1_cut cX1_cut 4 (some .long)] ++ wsX10)
def wsX1_shutHigh : List Cond := .code yX1_shutHigh cX1_shutHigh 5 (some .long) :: ([.constantLong RX1 211 (1000000000), .fieldLink RX1 16 "DrawnAreas" "rodLength" "I", .methodLink RX1 213 yX1_heightRoot, .instanceMethod yX1_heightRoot, .selects RX1 yX1_heightRoot yX1_heightRoot, .initialized RX1, .code yX1_heightRoot cX1_heightRoot 2 (some .long), .constantLong RX1 216 (1000000), .methodLink RX1 218 yX1_rootOf, .static yX1_rootOf, .code yX1_rootOf cX1_rootOf 7 (some .long), .methodLink RX1 161 yX1_cut, .static yX1_cut, .code yX1_cut cX1_cut 4 (some .long)] ++ wsX10)
def wsX1_shut_r1 : List Cond := [Cond.fieldLink RX1 16 "DrawnAreas" "rodLength" "I", Cond.constantLong RX1 110 (-1000000000000000002), Cond.methodLink RX1 107 yX1_from0To, Cond.static yX1_from0To, Cond.initialized RX1, Cond.code yX1_from0To cX1_from0To 2 (some .boolean), Cond.methodLink RX1 61 yX1_zeroOrOne, Cond.static yX1_zeroOrOne, Cond.code yX1_zeroOrOne cX1_zeroOrOne 1 (some .boolean), Cond.methodLink RX1 133 yX1_shutLow, Cond.instanceMethod yX1_shutLow, Cond.selects RX1 yX1_shutLow yX1_shutLow, Cond.code yX1_shutLow cX1_shutLow 5 (some .long), Cond.constantLong RX1 211 (1000000000), Cond.methodLink RX1 213 yX1_heightRoot, Cond.instanceMethod yX1_heightRoot, Cond.selects RX1 yX1_heightRoot yX1_heightRoot, Cond.code yX1_heightRoot cX1_heightRoot 2 (some .long), Cond.constantLong RX1 216 (1000000), Cond.methodLink RX1 218 yX1_rootOf, Cond.static yX1_rootOf, Cond.code yX1_rootOf cX1_rootOf 7 (some .long), Cond.methodLink RX1 161 yX1_cut, Cond.static yX1_cut]
def wsX1_shut_r2 : List Cond := [Cond.code yX1_cut cX1_cut 4 (some .long), Cond.methodLink RX1 137 yX1_shutHigh, Cond.instanceMethod yX1_shutHigh, Cond.selects RX1 yX1_shutHigh yX1_shutHigh, Cond.code yX1_shutHigh cX1_shutHigh 5 (some .long)]
def wsX1_shut : List Cond := .code yX1_shut cX1_shut 3 (some .long) :: ((wsX1_shut_r1 ++ wsX1_shut_r2) ++ wsX10)
def wsX1_gearedRound_r1 : List Cond := [Cond.fieldLink RX1 16 "DrawnAreas" "rodLength" "I", Cond.constantLong RX1 120 (2), Cond.constantLong RX1 221 (-2), Cond.constantLong RX1 223 (3), Cond.methodLink RX1 116 yX0_alongX, Cond.instanceMethod yX0_alongX, Cond.selects RX0 yX0_alongX yX0_alongX, Cond.initialized RX0, Cond.code yX0_alongX cX0_alongX 7 (some .long), Cond.methodLink RX0 37 yX0_next, Cond.instanceMethod yX0_next, Cond.selects RX0 yX0_next yX0_next, Cond.code yX0_next cX0_next 2 (some .int), Cond.fieldLink RX0 18 "DrawnAreas$Figure" "size" "I", Cond.methodLink RX0 26 yX0_x, Cond.instanceMethod yX0_x, Cond.selects RX0 yX0_x yX0_x, Cond.code yX0_x cX0_x 2 (some .int), Cond.fieldLink RX0 9 "DrawnAreas$Figure" "xs" "[I", Cond.methodLink RX0 30 yX0_y, Cond.instanceMethod yX0_y, Cond.selects RX0 yX0_y yX0_y, Cond.code yX0_y cX0_y 2 (some .int), Cond.fieldLink RX0 15 "DrawnAreas$Figure" "ys" "[I"]
def wsX1_gearedRound_r2 : List Cond := [Cond.methodLink RX0 40 yX0_mixedPowers, Cond.static yX0_mixedPowers, Cond.code yX0_mixedPowers cX0_mixedPowers 10 (some .long), Cond.methodLink RX1 122 yX1_fraction, Cond.static yX1_fraction, Cond.initialized RX1, Cond.code yX1_fraction cX1_fraction 7 (some .long), Cond.methodLink RX1 155 Lib.MathLoose.abs_long.x, Cond.static Lib.MathLoose.abs_long.x, Cond.initialized "java/lang/Math", Cond.code Lib.MathLoose.abs_long.x Lib.MathLoose.abs_long.code 2 (some .long), Cond.methodLink RX1 197 yX1_commonDivisor, Cond.static yX1_commonDivisor, Cond.code yX1_commonDivisor cX1_commonDivisor 11 (some .long), Cond.methodLink RX1 161 yX1_cut, Cond.static yX1_cut, Cond.code yX1_cut cX1_cut 4 (some .long)]
def wsX1_gearedRound : List Cond := .code yX1_gearedRound cX1_gearedRound 10 (some .long) :: ((wsX1_gearedRound_r1 ++ wsX1_gearedRound_r2) ++ wsX10 ++ wsX00)
def wsX1_geared_r1 : List Cond := [Cond.constantLong RX1 78 (-1000000000000000001), Cond.constantLong RX1 110 (-1000000000000000002), Cond.constantLong RX1 84 (-1000000000000000003), Cond.methodLink RX1 38 yX1_find, Cond.instanceMethod yX1_find, Cond.selects RX1 yX1_find yX1_find, Cond.initialized RX1, Cond.code yX1_find cX1_find 2 (some (.object "DrawnAreas$Figure")), Cond.fieldLink RX1 11 "DrawnAreas" "figures" "[LDrawnAreas$Figure;", Cond.methodLink RX1 104 yX1_from1To, Cond.static yX1_from1To, Cond.code yX1_from1To cX1_from1To 2 (some .boolean), Cond.methodLink RX1 61 yX1_zeroOrOne, Cond.static yX1_zeroOrOne, Cond.code yX1_zeroOrOne cX1_zeroOrOne 1 (some .boolean), Cond.methodLink RX1 112 yX1_goesRound, Cond.instanceMethod yX1_goesRound, Cond.selects RX1 yX1_goesRound yX1_goesRound, Cond.code yX1_goesRound cX1_goesRound 2 (some .boolean), Cond.fieldLink RX1 16 "DrawnAreas" "rodLength" "I", Cond.methodLink RX1 80 yX0_closed, Cond.instanceMethod yX0_closed, Cond.selects RX0 yX0_closed yX0_closed, Cond.initialized RX0]
def wsX1_geared_r2 : List Cond := [Cond.code yX0_closed cX0_closed 1 (some .boolean), Cond.fieldLink RX0 18 "DrawnAreas$Figure" "size" "I", Cond.methodLink RX1 200 yX0_staysNearer, Cond.instanceMethod yX0_staysNearer, Cond.selects RX0 yX0_staysNearer yX0_staysNearer, Cond.code yX0_staysNearer cX0_staysNearer 3 (some .boolean), Cond.methodLink RX0 44 Lib.Math.abs.name, Cond.static Lib.Math.abs.name, Cond.initialized "java/lang/Math", Cond.code Lib.Math.abs.name Lib.Math.abs.code 1 (some .int), Cond.methodLink RX0 30 yX0_y, Cond.instanceMethod yX0_y, Cond.selects RX0 yX0_y yX0_y, Cond.code yX0_y cX0_y 2 (some .int), Cond.fieldLink RX0 15 "DrawnAreas$Figure" "ys" "[I", Cond.methodLink RX1 140 yX1_gearedRound, Cond.instanceMethod yX1_gearedRound, Cond.selects RX1 yX1_gearedRound yX1_gearedRound, Cond.code yX1_gearedRound cX1_gearedRound 10 (some .long), Cond.constantLong RX1 120 (2), Cond.constantLong RX1 221 (-2), Cond.constantLong RX1 223 (3), Cond.methodLink RX1 116 yX0_alongX, Cond.instanceMethod yX0_alongX]
def wsX1_geared_r3 : List Cond := [Cond.selects RX0 yX0_alongX yX0_alongX, Cond.code yX0_alongX cX0_alongX 7 (some .long), Cond.methodLink RX0 37 yX0_next, Cond.instanceMethod yX0_next, Cond.selects RX0 yX0_next yX0_next, Cond.code yX0_next cX0_next 2 (some .int), Cond.methodLink RX0 26 yX0_x, Cond.instanceMethod yX0_x, Cond.selects RX0 yX0_x yX0_x, Cond.code yX0_x cX0_x 2 (some .int), Cond.fieldLink RX0 9 "DrawnAreas$Figure" "xs" "[I", Cond.methodLink RX0 40 yX0_mixedPowers, Cond.static yX0_mixedPowers, Cond.code yX0_mixedPowers cX0_mixedPowers 10 (some .long), Cond.methodLink RX1 122 yX1_fraction, Cond.static yX1_fraction, Cond.code yX1_fraction cX1_fraction 7 (some .long), Cond.methodLink RX1 155 Lib.MathLoose.abs_long.x, Cond.static Lib.MathLoose.abs_long.x, Cond.code Lib.MathLoose.abs_long.x Lib.MathLoose.abs_long.code 2 (some .long), Cond.methodLink RX1 197 yX1_commonDivisor, Cond.static yX1_commonDivisor, Cond.code yX1_commonDivisor cX1_commonDivisor 11 (some .long), Cond.methodLink RX1 161 yX1_cut]
def wsX1_geared_r4 : List Cond := [Cond.static yX1_cut, Cond.code yX1_cut cX1_cut 4 (some .long)]
def wsX1_geared : List Cond := .code yX1_geared cX1_geared 5 (some .long) :: ((wsX1_geared_r1 ++ (wsX1_geared_r2 ++ (wsX1_geared_r3 ++ wsX1_geared_r4))) ++ wsX10 ++ wsX00)
def wsX1_moment_r1 : List Cond := [Cond.constantLong RX1 78 (-1000000000000000001), Cond.constantLong RX1 110 (-1000000000000000002), Cond.constantLong RX1 84 (-1000000000000000003), Cond.constantLong RX1 120 (2), Cond.methodLink RX1 38 yX1_find, Cond.instanceMethod yX1_find, Cond.selects RX1 yX1_find yX1_find, Cond.initialized RX1, Cond.code yX1_find cX1_find 2 (some (.object "DrawnAreas$Figure")), Cond.fieldLink RX1 11 "DrawnAreas" "figures" "[LDrawnAreas$Figure;", Cond.methodLink RX1 107 yX1_from0To, Cond.static yX1_from0To, Cond.code yX1_from0To cX1_from0To 2 (some .boolean), Cond.methodLink RX1 61 yX1_zeroOrOne, Cond.static yX1_zeroOrOne, Cond.code yX1_zeroOrOne cX1_zeroOrOne 1 (some .boolean), Cond.methodLink RX1 80 yX0_closed, Cond.instanceMethod yX0_closed, Cond.selects RX0 yX0_closed yX0_closed, Cond.initialized RX0, Cond.code yX0_closed cX0_closed 1 (some .boolean), Cond.fieldLink RX0 18 "DrawnAreas$Figure" "size" "I", Cond.methodLink RX1 116 yX0_alongX, Cond.instanceMethod yX0_alongX]
def wsX1_moment_r2 : List Cond := [Cond.selects RX0 yX0_alongX yX0_alongX, Cond.code yX0_alongX cX0_alongX 7 (some .long), Cond.methodLink RX0 37 yX0_next, Cond.instanceMethod yX0_next, Cond.selects RX0 yX0_next yX0_next, Cond.code yX0_next cX0_next 2 (some .int), Cond.methodLink RX0 26 yX0_x, Cond.instanceMethod yX0_x, Cond.selects RX0 yX0_x yX0_x, Cond.code yX0_x cX0_x 2 (some .int), Cond.fieldLink RX0 9 "DrawnAreas$Figure" "xs" "[I", Cond.methodLink RX0 30 yX0_y, Cond.instanceMethod yX0_y, Cond.selects RX0 yX0_y yX0_y, Cond.code yX0_y cX0_y 2 (some .int), Cond.fieldLink RX0 15 "DrawnAreas$Figure" "ys" "[I", Cond.methodLink RX0 40 yX0_mixedPowers, Cond.static yX0_mixedPowers, Cond.code yX0_mixedPowers cX0_mixedPowers 10 (some .long), Cond.methodLink RX1 122 yX1_fraction, Cond.static yX1_fraction, Cond.code yX1_fraction cX1_fraction 7 (some .long), Cond.methodLink RX1 155 Lib.MathLoose.abs_long.x, Cond.static Lib.MathLoose.abs_long.x]
def wsX1_moment_r3 : List Cond := [Cond.initialized "java/lang/Math", Cond.code Lib.MathLoose.abs_long.x Lib.MathLoose.abs_long.code 2 (some .long), Cond.methodLink RX1 197 yX1_commonDivisor, Cond.static yX1_commonDivisor, Cond.code yX1_commonDivisor cX1_commonDivisor 11 (some .long), Cond.methodLink RX1 161 yX1_cut, Cond.static yX1_cut, Cond.code yX1_cut cX1_cut 4 (some .long)]
def wsX1_moment : List Cond := .code yX1_moment cX1_moment 5 (some .long) :: ((wsX1_moment_r1 ++ (wsX1_moment_r2 ++ wsX1_moment_r3)) ++ wsX00 ++ wsX10)
def wsX1_arm : List Cond := .code yX1_arm cX1_arm 5 (some .int) :: ([.fieldLink RX1 26 "DrawnAreas" "footX" "I", .fieldLink RX1 29 "DrawnAreas" "footY" "I", .fieldLink RX1 32 "DrawnAreas" "armLength" "I", .fieldLink RX1 35 "DrawnAreas" "wheelBeyond" "I", .methodLink RX1 42 yX1_within, .static yX1_within, .initialized RX1, .code yX1_within cX1_within 2 (some .boolean), .methodLink RX1 104 yX1_from1To, .static yX1_from1To, .code yX1_from1To cX1_from1To 2 (some .boolean)] ++ wsX10)
def wsX1_withPi : List Cond := .code yX1_withPi cX1_withPi 1 (some .long) :: ([.fieldLink RX1 32 "DrawnAreas" "armLength" "I", .fieldLink RX1 16 "DrawnAreas" "rodLength" "I", .fieldLink RX1 35 "DrawnAreas" "wheelBeyond" "I"] ++ wsX10)
def wsX1_ring_r1 : List Cond := [Cond.constantLong RX1 78 (-1000000000000000001), Cond.constantLong RX1 110 (-1000000000000000002), Cond.constantLong RX1 84 (-1000000000000000003), Cond.fieldLink RX1 26 "DrawnAreas" "footX" "I", Cond.fieldLink RX1 29 "DrawnAreas" "footY" "I", Cond.constantLong RX1 144 (-1000000000000000005), Cond.methodLink RX1 38 yX1_find, Cond.instanceMethod yX1_find, Cond.selects RX1 yX1_find yX1_find, Cond.initialized RX1, Cond.code yX1_find cX1_find 2 (some (.object "DrawnAreas$Figure")), Cond.fieldLink RX1 11 "DrawnAreas" "figures" "[LDrawnAreas$Figure;", Cond.methodLink RX1 61 yX1_zeroOrOne, Cond.static yX1_zeroOrOne, Cond.code yX1_zeroOrOne cX1_zeroOrOne 1 (some .boolean), Cond.methodLink RX1 80 yX0_closed, Cond.instanceMethod yX0_closed, Cond.selects RX0 yX0_closed yX0_closed, Cond.initialized RX0, Cond.code yX0_closed cX0_closed 1 (some .boolean), Cond.fieldLink RX0 18 "DrawnAreas$Figure" "size" "I", Cond.methodLink RX1 97 yX0_carries, Cond.instanceMethod yX0_carries, Cond.selects RX0 yX0_carries yX0_carries]
def wsX1_ring_r2 : List Cond := [Cond.code yX0_carries cX0_carries 4 (some .boolean), Cond.methodLink RX0 64 yX0_sideCarries, Cond.instanceMethod yX0_sideCarries, Cond.selects RX0 yX0_sideCarries yX0_sideCarries, Cond.code yX0_sideCarries cX0_sideCarries 5 (some .boolean), Cond.methodLink RX0 37 yX0_next, Cond.instanceMethod yX0_next, Cond.selects RX0 yX0_next yX0_next, Cond.code yX0_next cX0_next 2 (some .int), Cond.methodLink RX0 56 yX0_leftOf, Cond.instanceMethod yX0_leftOf, Cond.selects RX0 yX0_leftOf yX0_leftOf, Cond.code yX0_leftOf cX0_leftOf 7 (some .long), Cond.methodLink RX0 26 yX0_x, Cond.instanceMethod yX0_x, Cond.selects RX0 yX0_x yX0_x, Cond.code yX0_x cX0_x 2 (some .int), Cond.fieldLink RX0 9 "DrawnAreas$Figure" "xs" "[I", Cond.methodLink RX0 30 yX0_y, Cond.instanceMethod yX0_y, Cond.selects RX0 yX0_y yX0_y, Cond.code yX0_y cX0_y 2 (some .int), Cond.fieldLink RX0 15 "DrawnAreas$Figure" "ys" "[I", Cond.methodLink RX0 60 yX0_between]
def wsX1_ring_r3 : List Cond := [Cond.static yX0_between, Cond.code yX0_between cX0_between 4 (some .boolean), Cond.methodLink RX0 49 Lib.Math.min.name, Cond.static Lib.Math.min.name, Cond.initialized "java/lang/Math", Cond.code Lib.Math.min.name Lib.Math.min.code 2 (some .int), Cond.methodLink RX0 53 Lib.Math.max.name, Cond.static Lib.Math.max.name, Cond.code Lib.Math.max.name Lib.Math.max.code 2 (some .int), Cond.methodLink RX1 146 yX1_withPi, Cond.instanceMethod yX1_withPi, Cond.selects RX1 yX1_withPi yX1_withPi, Cond.code yX1_withPi cX1_withPi 1 (some .long), Cond.fieldLink RX1 32 "DrawnAreas" "armLength" "I", Cond.fieldLink RX1 16 "DrawnAreas" "rodLength" "I", Cond.fieldLink RX1 35 "DrawnAreas" "wheelBeyond" "I", Cond.methodLink RX1 100 yX0_turnsRound, Cond.instanceMethod yX0_turnsRound, Cond.selects RX0 yX0_turnsRound yX0_turnsRound, Cond.code yX0_turnsRound cX0_turnsRound 9 (some .int)]
def wsX1_ring : List Cond := .code yX1_ring cX1_ring 4 (some .long) :: ((wsX1_ring_r1 ++ (wsX1_ring_r2 ++ wsX1_ring_r3)) ++ wsX10 ++ wsX00)
def wsX1_beyondFolded_r1 : List Cond := [Cond.fieldLink RX1 32 "DrawnAreas" "armLength" "I", Cond.fieldLink RX1 16 "DrawnAreas" "rodLength" "I", Cond.fieldLink RX1 26 "DrawnAreas" "footX" "I", Cond.fieldLink RX1 29 "DrawnAreas" "footY" "I", Cond.methodLink RX1 203 yX0_nearestAgainst, Cond.instanceMethod yX0_nearestAgainst, Cond.selects RX0 yX0_nearestAgainst yX0_nearestAgainst, Cond.initialized RX0, Cond.code yX0_nearestAgainst cX0_nearestAgainst 17 (some .int), Cond.methodLink RX0 37 yX0_next, Cond.instanceMethod yX0_next, Cond.selects RX0 yX0_next yX0_next, Cond.code yX0_next cX0_next 2 (some .int), Cond.fieldLink RX0 18 "DrawnAreas$Figure" "size" "I", Cond.methodLink RX0 26 yX0_x, Cond.instanceMethod yX0_x, Cond.selects RX0 yX0_x yX0_x, Cond.code yX0_x cX0_x 2 (some .int), Cond.fieldLink RX0 9 "DrawnAreas$Figure" "xs" "[I", Cond.methodLink RX0 30 yX0_y, Cond.instanceMethod yX0_y, Cond.selects RX0 yX0_y yX0_y, Cond.code yX0_y cX0_y 2 (some .int), Cond.fieldLink RX0 15 "DrawnAreas$Figure" "ys" "[I"]
def wsX1_beyondFolded_r2 : List Cond := [Cond.methodLink RX0 83 yX0_squareTo, Cond.instanceMethod yX0_squareTo, Cond.selects RX0 yX0_squareTo yX0_squareTo, Cond.code yX0_squareTo cX0_squareTo 10 (some .long), Cond.methodLink RX0 86 yJ13_compare_74951, Cond.static yJ13_compare_74951, Cond.initialized RJ13, Cond.code yJ13_compare_74951 cJ13_compare_74951 4 (some .int), Cond.methodLink RX0 56 yX0_leftOf, Cond.instanceMethod yX0_leftOf, Cond.selects RX0 yX0_leftOf yX0_leftOf, Cond.code yX0_leftOf cX0_leftOf 7 (some .long)]
def wsX1_beyondFolded : List Cond := .code yX1_beyondFolded cX1_beyondFolded 5 (some .boolean) :: ((wsX1_beyondFolded_r1 ++ wsX1_beyondFolded_r2) ++ wsX10 ++ wsX00)
def wsX1_withinStretched : List Cond := .code yX1_withinStretched cX1_withinStretched 5 (some .boolean) :: ([.fieldLink RX1 32 "DrawnAreas" "armLength" "I", .fieldLink RX1 16 "DrawnAreas" "rodLength" "I", .fieldLink RX1 26 "DrawnAreas" "footX" "I", .fieldLink RX1 29 "DrawnAreas" "footY" "I", .methodLink RX1 207 yX0_squareTo, .instanceMethod yX0_squareTo, .selects RX0 yX0_squareTo yX0_squareTo, .initialized RX0, .code yX0_squareTo cX0_squareTo 10 (some .long), .methodLink RX0 26 yX0_x, .instanceMethod yX0_x, .selects RX0 yX0_x yX0_x, .code yX0_x cX0_x 2 (some .int), .fieldLink RX0 9 "DrawnAreas$Figure" "xs" "[I", .methodLink RX0 30 yX0_y, .instanceMethod yX0_y, .selects RX0 yX0_y yX0_y, .code yX0_y cX0_y 2 (some .int), .fieldLink RX0 15 "DrawnAreas$Figure" "ys" "[I"] ++ wsX10 ++ wsX00)
def wsX1_reaches_r1 : List Cond := [Cond.methodLink RX1 38 yX1_find, Cond.instanceMethod yX1_find, Cond.selects RX1 yX1_find yX1_find, Cond.initialized RX1, Cond.code yX1_find cX1_find 2 (some (.object "DrawnAreas$Figure")), Cond.fieldLink RX1 11 "DrawnAreas" "figures" "[LDrawnAreas$Figure;", Cond.methodLink RX1 80 yX0_closed, Cond.instanceMethod yX0_closed, Cond.selects RX0 yX0_closed yX0_closed, Cond.initialized RX0, Cond.code yX0_closed cX0_closed 1 (some .boolean), Cond.fieldLink RX0 18 "DrawnAreas$Figure" "size" "I", Cond.methodLink RX1 149 yX1_beyondFolded, Cond.instanceMethod yX1_beyondFolded, Cond.selects RX1 yX1_beyondFolded yX1_beyondFolded, Cond.code yX1_beyondFolded cX1_beyondFolded 5 (some .boolean), Cond.fieldLink RX1 32 "DrawnAreas" "armLength" "I", Cond.fieldLink RX1 16 "DrawnAreas" "rodLength" "I", Cond.fieldLink RX1 26 "DrawnAreas" "footX" "I", Cond.fieldLink RX1 29 "DrawnAreas" "footY" "I", Cond.methodLink RX1 203 yX0_nearestAgainst, Cond.instanceMethod yX0_nearestAgainst, Cond.selects RX0 yX0_nearestAgainst yX0_nearestAgainst, Cond.code yX0_nearestAgainst cX0_nearestAgainst 17 (some .int)]
def wsX1_reaches_r2 : List Cond := [Cond.methodLink RX0 37 yX0_next, Cond.instanceMethod yX0_next, Cond.selects RX0 yX0_next yX0_next, Cond.code yX0_next cX0_next 2 (some .int), Cond.methodLink RX0 26 yX0_x, Cond.instanceMethod yX0_x, Cond.selects RX0 yX0_x yX0_x, Cond.code yX0_x cX0_x 2 (some .int), Cond.fieldLink RX0 9 "DrawnAreas$Figure" "xs" "[I", Cond.methodLink RX0 30 yX0_y, Cond.instanceMethod yX0_y, Cond.selects RX0 yX0_y yX0_y, Cond.code yX0_y cX0_y 2 (some .int), Cond.fieldLink RX0 15 "DrawnAreas$Figure" "ys" "[I", Cond.methodLink RX0 83 yX0_squareTo, Cond.instanceMethod yX0_squareTo, Cond.selects RX0 yX0_squareTo yX0_squareTo, Cond.code yX0_squareTo cX0_squareTo 10 (some .long), Cond.methodLink RX0 86 yJ13_compare_74951, Cond.static yJ13_compare_74951, Cond.initialized RJ13, Cond.code yJ13_compare_74951 cJ13_compare_74951 4 (some .int), Cond.methodLink RX0 56 yX0_leftOf, Cond.instanceMethod yX0_leftOf]
def wsX1_reaches_r3 : List Cond := [Cond.selects RX0 yX0_leftOf yX0_leftOf, Cond.code yX0_leftOf cX0_leftOf 7 (some .long), Cond.methodLink RX1 152 yX1_withinStretched, Cond.instanceMethod yX1_withinStretched, Cond.selects RX1 yX1_withinStretched yX1_withinStretched, Cond.code yX1_withinStretched cX1_withinStretched 5 (some .boolean), Cond.methodLink RX1 207 yX0_squareTo, Cond.methodLink RX1 93 yX1_oneIf, Cond.static yX1_oneIf, Cond.code yX1_oneIf cX1_oneIf 1 (some .int)]
def wsX1_reaches : List Cond := .code yX1_reaches cX1_reaches 3 (some .int) :: ((wsX1_reaches_r1 ++ (wsX1_reaches_r2 ++ wsX1_reaches_r3)) ++ wsX10 ++ wsX00)
def wsX1_teeth : List Cond := .code yX1_teeth cX1_teeth 3 (some .int) :: ([.fieldLink RX1 20 "DrawnAreas" "roundLength" "I", .fieldLink RX1 23 "DrawnAreas" "toothNumber" "I", .methodLink RX1 104 yX1_from1To, .static yX1_from1To, .initialized RX1, .code yX1_from1To cX1_from1To 2 (some .boolean)] ++ wsX10)
def wsX1_count_r1 : List Cond := [Cond.constantLong RX1 78 (-1000000000000000001), Cond.constantLong RX1 84 (-1000000000000000003), Cond.methodLink RX1 155 Lib.MathLoose.abs_long.x, Cond.static Lib.MathLoose.abs_long.x, Cond.initialized "java/lang/Math", Cond.code Lib.MathLoose.abs_long.x Lib.MathLoose.abs_long.code 2 (some .long), Cond.fieldLink RX1 23 "DrawnAreas" "toothNumber" "I", Cond.constantLong RX1 120 (2), Cond.fieldLink RX1 16 "DrawnAreas" "rodLength" "I", Cond.fieldLink RX1 20 "DrawnAreas" "roundLength" "I", Cond.methodLink RX1 38 yX1_find, Cond.instanceMethod yX1_find, Cond.selects RX1 yX1_find yX1_find, Cond.initialized RX1, Cond.code yX1_find cX1_find 2 (some (.object "DrawnAreas$Figure")), Cond.fieldLink RX1 11 "DrawnAreas" "figures" "[LDrawnAreas$Figure;", Cond.methodLink RX1 112 yX1_goesRound, Cond.instanceMethod yX1_goesRound, Cond.selects RX1 yX1_goesRound yX1_goesRound, Cond.code yX1_goesRound cX1_goesRound 2 (some .boolean), Cond.methodLink RX1 80 yX0_closed, Cond.instanceMethod yX0_closed, Cond.selects RX0 yX0_closed yX0_closed, Cond.initialized RX0]
def wsX1_count_r2 : List Cond := [Cond.code yX0_closed cX0_closed 1 (some .boolean), Cond.fieldLink RX0 18 "DrawnAreas$Figure" "size" "I", Cond.methodLink RX1 200 yX0_staysNearer, Cond.instanceMethod yX0_staysNearer, Cond.selects RX0 yX0_staysNearer yX0_staysNearer, Cond.code yX0_staysNearer cX0_staysNearer 3 (some .boolean), Cond.methodLink RX0 44 Lib.Math.abs.name, Cond.static Lib.Math.abs.name, Cond.code Lib.Math.abs.name Lib.Math.abs.code 1 (some .int), Cond.methodLink RX0 30 yX0_y, Cond.instanceMethod yX0_y, Cond.selects RX0 yX0_y yX0_y, Cond.code yX0_y cX0_y 2 (some .int), Cond.fieldLink RX0 15 "DrawnAreas$Figure" "ys" "[I", Cond.methodLink RX1 116 yX0_alongX, Cond.instanceMethod yX0_alongX, Cond.selects RX0 yX0_alongX yX0_alongX, Cond.code yX0_alongX cX0_alongX 7 (some .long), Cond.methodLink RX0 37 yX0_next, Cond.instanceMethod yX0_next, Cond.selects RX0 yX0_next yX0_next, Cond.code yX0_next cX0_next 2 (some .int), Cond.methodLink RX0 26 yX0_x, Cond.instanceMethod yX0_x]
def wsX1_count_r3 : List Cond := [Cond.selects RX0 yX0_x yX0_x, Cond.code yX0_x cX0_x 2 (some .int), Cond.fieldLink RX0 9 "DrawnAreas$Figure" "xs" "[I", Cond.methodLink RX0 40 yX0_mixedPowers, Cond.static yX0_mixedPowers, Cond.code yX0_mixedPowers cX0_mixedPowers 10 (some .long), Cond.methodLink RX1 161 yX1_cut, Cond.static yX1_cut, Cond.code yX1_cut cX1_cut 4 (some .long)]
def wsX1_count : List Cond := .code yX1_count cX1_count 3 (some .long) :: ((wsX1_count_r1 ++ (wsX1_count_r2 ++ wsX1_count_r3)) ++ wsX00 ++ wsX10)
def wsX1_readable : List Cond := .code yX1_readable cX1_readable 3 (some .boolean) :: ([.constant RX1 225 (1000000), .methodLink RX1 107 yX1_from0To, .static yX1_from0To, .initialized RX1, .code yX1_from0To cX1_from0To 2 (some .boolean)])
def wsX1_leastTeeth : List Cond := .code yX1_leastTeeth cX1_leastTeeth 3 (some .long) :: ([.methodLink RX1 226 Lib.Math.max.name, .static Lib.Math.max.name, .initialized "java/lang/Math", .code Lib.Math.max.name Lib.Math.max.code 2 (some .int)])
def wsX1_belowTeeth : List Cond := .code yX1_belowTeeth cX1_belowTeeth 3 (some .long) :: ([])
def wsX1_may_r1 : List Cond := [Cond.constantLong RX1 110 (-1000000000000000002), Cond.fieldLink RX1 20 "DrawnAreas" "roundLength" "I", Cond.fieldLink RX1 16 "DrawnAreas" "rodLength" "I", Cond.fieldLink RX1 23 "DrawnAreas" "toothNumber" "I", Cond.methodLink RX1 165 yX1_readable, Cond.static yX1_readable, Cond.initialized RX1, Cond.code yX1_readable cX1_readable 3 (some .boolean), Cond.constant RX1 225 (1000000), Cond.methodLink RX1 107 yX1_from0To, Cond.static yX1_from0To, Cond.code yX1_from0To cX1_from0To 2 (some .boolean), Cond.methodLink RX1 61 yX1_zeroOrOne, Cond.static yX1_zeroOrOne, Cond.code yX1_zeroOrOne cX1_zeroOrOne 1 (some .boolean), Cond.methodLink RX1 169 yX1_leastTeeth, Cond.static yX1_leastTeeth, Cond.code yX1_leastTeeth cX1_leastTeeth 3 (some .long), Cond.methodLink RX1 226 Lib.Math.max.name, Cond.static Lib.Math.max.name, Cond.initialized "java/lang/Math", Cond.code Lib.Math.max.name Lib.Math.max.code 2 (some .int), Cond.methodLink RX1 173 yX1_belowTeeth, Cond.static yX1_belowTeeth]
def wsX1_may_r2 : List Cond := [Cond.code yX1_belowTeeth cX1_belowTeeth 3 (some .long), Cond.methodLink RX1 122 yX1_fraction, Cond.static yX1_fraction, Cond.code yX1_fraction cX1_fraction 7 (some .long), Cond.methodLink RX1 155 Lib.MathLoose.abs_long.x, Cond.static Lib.MathLoose.abs_long.x, Cond.code Lib.MathLoose.abs_long.x Lib.MathLoose.abs_long.code 2 (some .long), Cond.methodLink RX1 197 yX1_commonDivisor, Cond.static yX1_commonDivisor, Cond.code yX1_commonDivisor cX1_commonDivisor 11 (some .long), Cond.methodLink RX1 161 yX1_cut, Cond.static yX1_cut, Cond.code yX1_cut cX1_cut 4 (some .long)]
def wsX1_may : List Cond := .code yX1_may cX1_may 8 (some .long) :: ((wsX1_may_r1 ++ wsX1_may_r2) ++ wsX10)
def wsX1_fits_r1 : List Cond := [Cond.methodLink RX1 155 Lib.MathLoose.abs_long.x, Cond.static Lib.MathLoose.abs_long.x, Cond.initialized "java/lang/Math", Cond.code Lib.MathLoose.abs_long.x Lib.MathLoose.abs_long.code 2 (some .long), Cond.fieldLink RX1 23 "DrawnAreas" "toothNumber" "I", Cond.constantLong RX1 120 (2), Cond.fieldLink RX1 20 "DrawnAreas" "roundLength" "I", Cond.fieldLink RX1 16 "DrawnAreas" "rodLength" "I", Cond.methodLink RX1 38 yX1_find, Cond.instanceMethod yX1_find, Cond.selects RX1 yX1_find yX1_find, Cond.initialized RX1, Cond.code yX1_find cX1_find 2 (some (.object "DrawnAreas$Figure")), Cond.fieldLink RX1 11 "DrawnAreas" "figures" "[LDrawnAreas$Figure;", Cond.methodLink RX1 165 yX1_readable, Cond.static yX1_readable, Cond.code yX1_readable cX1_readable 3 (some .boolean), Cond.constant RX1 225 (1000000), Cond.methodLink RX1 107 yX1_from0To, Cond.static yX1_from0To, Cond.code yX1_from0To cX1_from0To 2 (some .boolean), Cond.methodLink RX1 80 yX0_closed, Cond.instanceMethod yX0_closed, Cond.selects RX0 yX0_closed yX0_closed]
def wsX1_fits_r2 : List Cond := [Cond.initialized RX0, Cond.code yX0_closed cX0_closed 1 (some .boolean), Cond.fieldLink RX0 18 "DrawnAreas$Figure" "size" "I", Cond.methodLink RX1 86 yX0_doubleArea, Cond.instanceMethod yX0_doubleArea, Cond.selects RX0 yX0_doubleArea yX0_doubleArea, Cond.code yX0_doubleArea cX0_doubleArea 5 (some .long), Cond.methodLink RX0 37 yX0_next, Cond.instanceMethod yX0_next, Cond.selects RX0 yX0_next yX0_next, Cond.code yX0_next cX0_next 2 (some .int), Cond.methodLink RX0 26 yX0_x, Cond.instanceMethod yX0_x, Cond.selects RX0 yX0_x yX0_x, Cond.code yX0_x cX0_x 2 (some .int), Cond.fieldLink RX0 9 "DrawnAreas$Figure" "xs" "[I", Cond.methodLink RX0 30 yX0_y, Cond.instanceMethod yX0_y, Cond.selects RX0 yX0_y yX0_y, Cond.code yX0_y cX0_y 2 (some .int), Cond.fieldLink RX0 15 "DrawnAreas$Figure" "ys" "[I", Cond.methodLink RX1 169 yX1_leastTeeth, Cond.static yX1_leastTeeth, Cond.code yX1_leastTeeth cX1_leastTeeth 3 (some .long)]
def wsX1_fits_r3 : List Cond := [Cond.methodLink RX1 226 Lib.Math.max.name, Cond.static Lib.Math.max.name, Cond.code Lib.Math.max.name Lib.Math.max.code 2 (some .int), Cond.methodLink RX1 173 yX1_belowTeeth, Cond.static yX1_belowTeeth, Cond.code yX1_belowTeeth cX1_belowTeeth 3 (some .long), Cond.methodLink RX1 93 yX1_oneIf, Cond.static yX1_oneIf, Cond.code yX1_oneIf cX1_oneIf 1 (some .int)]
def wsX1_fits : List Cond := .code yX1_fits cX1_fits 10 (some .int) :: ((wsX1_fits_r1 ++ (wsX1_fits_r2 ++ wsX1_fits_r3)) ++ wsX10 ++ wsX00)
def wsX1_join_r1 : List Cond := [Cond.methodLink RX1 38 yX1_find, Cond.instanceMethod yX1_find, Cond.selects RX1 yX1_find yX1_find, Cond.initialized RX1, Cond.code yX1_find cX1_find 2 (some (.object "DrawnAreas$Figure")), Cond.fieldLink RX1 11 "DrawnAreas" "figures" "[LDrawnAreas$Figure;", Cond.methodLink RX1 53 yX0_has, Cond.instanceMethod yX0_has, Cond.selects RX0 yX0_has yX0_has, Cond.initialized RX0, Cond.code yX0_has cX0_has 2 (some .boolean), Cond.fieldLink RX0 18 "DrawnAreas$Figure" "size" "I", Cond.methodLink RX1 80 yX0_closed, Cond.instanceMethod yX0_closed, Cond.selects RX0 yX0_closed yX0_closed, Cond.code yX0_closed cX0_closed 1 (some .boolean), Cond.methodLink RX1 176 yX0_next, Cond.instanceMethod yX0_next, Cond.selects RX0 yX0_next yX0_next, Cond.code yX0_next cX0_next 2 (some .int), Cond.methodLink RX1 179 yX0_samePlace, Cond.instanceMethod yX0_samePlace, Cond.selects RX0 yX0_samePlace yX0_samePlace, Cond.code yX0_samePlace cX0_samePlace 4 (some .boolean)]
def wsX1_join_r2 : List Cond := [Cond.methodLink RX0 26 yX0_x, Cond.instanceMethod yX0_x, Cond.selects RX0 yX0_x yX0_x, Cond.code yX0_x cX0_x 2 (some .int), Cond.fieldLink RX0 9 "DrawnAreas$Figure" "xs" "[I", Cond.methodLink RX0 30 yX0_y, Cond.instanceMethod yX0_y, Cond.selects RX0 yX0_y yX0_y, Cond.code yX0_y cX0_y 2 (some .int), Cond.fieldLink RX0 15 "DrawnAreas$Figure" "ys" "[I", Cond.methodLink RX1 183 yX0_takeIn, Cond.instanceMethod yX0_takeIn, Cond.selects RX0 yX0_takeIn yX0_takeIn, Cond.code yX0_takeIn cX0_takeIn 7 none, Cond.methodLink RX0 22 yX0_put, Cond.instanceMethod yX0_put, Cond.selects RX0 yX0_put yX0_put, Cond.code yX0_put cX0_put 4 none, Cond.methodLink RX0 37 yX0_next]
def wsX1_join : List Cond := .code yX1_join cX1_join 7 (some .int) :: ((wsX1_join_r1 ++ wsX1_join_r2) ++ wsX00 ++ wsX10)
def wsX1_part_r1 : List Cond := [Cond.methodLink RX1 38 yX1_find, Cond.instanceMethod yX1_find, Cond.selects RX1 yX1_find yX1_find, Cond.initialized RX1, Cond.code yX1_find cX1_find 2 (some (.object "DrawnAreas$Figure")), Cond.fieldLink RX1 11 "DrawnAreas" "figures" "[LDrawnAreas$Figure;", Cond.methodLink RX1 42 yX1_within, Cond.static yX1_within, Cond.code yX1_within cX1_within 2 (some .boolean), Cond.methodLink RX1 80 yX0_closed, Cond.instanceMethod yX0_closed, Cond.selects RX0 yX0_closed yX0_closed, Cond.initialized RX0, Cond.code yX0_closed cX0_closed 1 (some .boolean), Cond.fieldLink RX0 18 "DrawnAreas$Figure" "size" "I", Cond.methodLink RX1 187 yX0_placesFrom, Cond.instanceMethod yX0_placesFrom, Cond.selects RX0 yX0_placesFrom yX0_placesFrom, Cond.code yX0_placesFrom cX0_placesFrom 4 (some .int), Cond.methodLink RX0 30 yX0_y, Cond.instanceMethod yX0_y, Cond.selects RX0 yX0_y yX0_y, Cond.code yX0_y cX0_y 2 (some .int), Cond.fieldLink RX0 15 "DrawnAreas$Figure" "ys" "[I"]
def wsX1_part_r2 : List Cond := [Cond.methodLink RX0 92 yX0_crosses, Cond.instanceMethod yX0_crosses, Cond.selects RX0 yX0_crosses yX0_crosses, Cond.code yX0_crosses cX0_crosses 5 (some .boolean), Cond.methodLink RX0 37 yX0_next, Cond.instanceMethod yX0_next, Cond.selects RX0 yX0_next yX0_next, Cond.code yX0_next cX0_next 2 (some .int), Cond.methodLink RX1 190 yX0_crossesWhole, Cond.instanceMethod yX0_crossesWhole, Cond.selects RX0 yX0_crossesWhole yX0_crossesWhole, Cond.code yX0_crossesWhole cX0_crossesWhole 4 (some .boolean), Cond.methodLink RX0 95 yX0_crossingLower, Cond.instanceMethod yX0_crossingLower, Cond.selects RX0 yX0_crossingLower yX0_crossingLower, Cond.code yX0_crossingLower cX0_crossingLower 2 (some .int), Cond.methodLink RX0 98 yX0_crossingUpper, Cond.instanceMethod yX0_crossingUpper, Cond.selects RX0 yX0_crossingUpper yX0_crossingUpper, Cond.code yX0_crossingUpper cX0_crossingUpper 3 (some .int), Cond.methodLink RX0 26 yX0_x, Cond.instanceMethod yX0_x, Cond.selects RX0 yX0_x yX0_x, Cond.code yX0_x cX0_x 2 (some .int)]
def wsX1_part_r3 : List Cond := [Cond.fieldLink RX0 9 "DrawnAreas$Figure" "xs" "[I", Cond.methodLink RX1 193 yX0_becomeUpper, Cond.instanceMethod yX0_becomeUpper, Cond.selects RX0 yX0_becomeUpper yX0_becomeUpper, Cond.code yX0_becomeUpper cX0_becomeUpper 5 none, Cond.methodLink RX0 33 yX0_add, Cond.instanceMethod yX0_add, Cond.selects RX0 yX0_add yX0_add, Cond.code yX0_add cX0_add 3 none, Cond.methodLink RX0 22 yX0_put, Cond.instanceMethod yX0_put, Cond.selects RX0 yX0_put yX0_put, Cond.code yX0_put cX0_put 4 none]
def wsX1_part : List Cond := .code yX1_part cX1_part 6 (some .int) :: ((wsX1_part_r1 ++ (wsX1_part_r2 ++ wsX1_part_r3)) ++ wsX00 ++ wsX10)
def wsX2_init : List Cond := .code yX2_init cX2_init 1 none :: ([.methodLink RX2 1 objectInit, .instanceMethod objectInit, .code objectInit ⟨#[0xb1]⟩ 1 none, .arrayClass .int, .fieldLink RX2 7 "DrawnAreasModel" "points" "[I", .fieldLink RX2 13 "DrawnAreasModel" "px" "[I", .fieldLink RX2 16 "DrawnAreasModel" "py" "[I", .fieldLink RX2 19 "DrawnAreasModel" "rod" "I", .fieldLink RX2 23 "DrawnAreasModel" "around" "I", .fieldLink RX2 26 "DrawnAreasModel" "teeth" "I", .fieldLink RX2 29 "DrawnAreasModel" "arm" "I", .fieldLink RX2 32 "DrawnAreasModel" "newX" "[I", .fieldLink RX2 35 "DrawnAreasModel" "newY" "[I"] ++ wsX20)
def wsX2_in : List Cond := .code yX2_in cX2_in 3 (some .boolean) :: ([])
def wsX2_isFigure : List Cond := .code yX2_isFigure cX2_isFigure 1 (some .boolean) :: ([.methodLink RX2 38 yX2_in, .static yX2_in, .initialized RX2, .code yX2_in cX2_in 3 (some .boolean)])
def wsX2_isPoint : List Cond := .code yX2_isPoint cX2_isPoint 3 (some .boolean) :: ([.fieldLink RX2 7 "DrawnAreasModel" "points" "[I", .methodLink RX2 42 yX2_isFigure, .static yX2_isFigure, .initialized RX2, .code yX2_isFigure cX2_isFigure 1 (some .boolean), .methodLink RX2 38 yX2_in, .static yX2_in, .code yX2_in cX2_in 3 (some .boolean)] ++ wsX20)
def wsX2_isClosed : List Cond := .code yX2_isClosed cX2_isClosed 2 (some .boolean) :: ([.fieldLink RX2 7 "DrawnAreasModel" "points" "[I"] ++ wsX20)
def wsX2_x : List Cond := .code yX2_x cX2_x 3 (some .int) :: ([.fieldLink RX2 13 "DrawnAreasModel" "px" "[I", .fieldLink RX2 7 "DrawnAreasModel" "points" "[I"] ++ wsX20)
def wsX2_y : List Cond := .code yX2_y cX2_y 3 (some .int) :: ([.fieldLink RX2 16 "DrawnAreasModel" "py" "[I", .fieldLink RX2 7 "DrawnAreasModel" "points" "[I"] ++ wsX20)
def wsX2_isPlace : List Cond := .code yX2_isPlace cX2_isPlace 1 (some .boolean) :: ([.methodLink RX2 38 yX2_in, .static yX2_in, .initialized RX2, .code yX2_in cX2_in 3 (some .boolean)])
def wsX2_point : List Cond := .code yX2_point cX2_point 4 (some .int) :: ([.fieldLink RX2 7 "DrawnAreasModel" "points" "[I", .fieldLink RX2 13 "DrawnAreasModel" "px" "[I", .fieldLink RX2 16 "DrawnAreasModel" "py" "[I", .methodLink RX2 42 yX2_isFigure, .static yX2_isFigure, .initialized RX2, .code yX2_isFigure cX2_isFigure 1 (some .boolean), .methodLink RX2 38 yX2_in, .static yX2_in, .code yX2_in cX2_in 3 (some .boolean), .methodLink RX2 46 yX2_isPlace, .static yX2_isPlace, .code yX2_isPlace cX2_isPlace 1 (some .boolean)] ++ wsX20)
def wsX2_move : List Cond := .code yX2_move cX2_move 5 (some .int) :: ([.fieldLink RX2 13 "DrawnAreasModel" "px" "[I", .fieldLink RX2 16 "DrawnAreasModel" "py" "[I", .methodLink RX2 49 yX2_isPoint, .instanceMethod yX2_isPoint, .selects RX2 yX2_isPoint yX2_isPoint, .initialized RX2, .code yX2_isPoint cX2_isPoint 3 (some .boolean), .fieldLink RX2 7 "DrawnAreasModel" "points" "[I", .methodLink RX2 42 yX2_isFigure, .static yX2_isFigure, .code yX2_isFigure cX2_isFigure 1 (some .boolean), .methodLink RX2 38 yX2_in, .static yX2_in, .code yX2_in cX2_in 3 (some .boolean), .methodLink RX2 46 yX2_isPlace, .static yX2_isPlace, .code yX2_isPlace cX2_isPlace 1 (some .boolean)] ++ wsX20)
def wsX2_clear : List Cond := .code yX2_clear cX2_clear 3 (some .int) :: ([.fieldLink RX2 7 "DrawnAreasModel" "points" "[I", .methodLink RX2 42 yX2_isFigure, .static yX2_isFigure, .initialized RX2, .code yX2_isFigure cX2_isFigure 1 (some .boolean), .methodLink RX2 38 yX2_in, .static yX2_in, .code yX2_in cX2_in 3 (some .boolean)] ++ wsX20)
def wsX2_at : List Cond := .code yX2_at cX2_at 4 (some .int) :: ([.fieldLink RX2 7 "DrawnAreasModel" "points" "[I", .methodLink RX2 42 yX2_isFigure, .static yX2_isFigure, .initialized RX2, .code yX2_isFigure cX2_isFigure 1 (some .boolean), .methodLink RX2 38 yX2_in, .static yX2_in, .code yX2_in cX2_in 3 (some .boolean), .methodLink RX2 49 yX2_isPoint, .instanceMethod yX2_isPoint, .selects RX2 yX2_isPoint yX2_isPoint, .code yX2_isPoint cX2_isPoint 3 (some .boolean), .methodLink RX2 53 yX2_x, .instanceMethod yX2_x, .selects RX2 yX2_x yX2_x, .code yX2_x cX2_x 3 (some .int), .fieldLink RX2 13 "DrawnAreasModel" "px" "[I", .methodLink RX2 57 yX2_y, .instanceMethod yX2_y, .selects RX2 yX2_y yX2_y, .code yX2_y cX2_y 3 (some .int), .fieldLink RX2 16 "DrawnAreasModel" "py" "[I"] ++ wsX20)
def wsX2_lay : List Cond := .code yX2_lay cX2_lay 3 none :: ([.fieldLink RX2 32 "DrawnAreasModel" "newX" "[I", .fieldLink RX2 60 "DrawnAreasModel" "many" "I", .fieldLink RX2 35 "DrawnAreasModel" "newY" "[I"] ++ wsX20)
def wsX2_take : List Cond := .code yX2_take cX2_take 3 (some .int) :: ([.fieldLink RX2 7 "DrawnAreasModel" "points" "[I", .fieldLink RX2 60 "DrawnAreasModel" "many" "I", .fieldLink RX2 13 "DrawnAreasModel" "px" "[I", .fieldLink RX2 32 "DrawnAreasModel" "newX" "[I", .fieldLink RX2 16 "DrawnAreasModel" "py" "[I", .fieldLink RX2 35 "DrawnAreasModel" "newY" "[I"] ++ wsX20)
def wsX2_copy_r1 : List Cond := [Cond.fieldLink RX2 60 "DrawnAreasModel" "many" "I", Cond.fieldLink RX2 7 "DrawnAreasModel" "points" "[I", Cond.methodLink RX2 42 yX2_isFigure, Cond.static yX2_isFigure, Cond.initialized RX2, Cond.code yX2_isFigure cX2_isFigure 1 (some .boolean), Cond.methodLink RX2 38 yX2_in, Cond.static yX2_in, Cond.code yX2_in cX2_in 3 (some .boolean), Cond.methodLink RX2 53 yX2_x, Cond.instanceMethod yX2_x, Cond.selects RX2 yX2_x yX2_x, Cond.code yX2_x cX2_x 3 (some .int), Cond.fieldLink RX2 13 "DrawnAreasModel" "px" "[I", Cond.methodLink RX2 57 yX2_y, Cond.instanceMethod yX2_y, Cond.selects RX2 yX2_y yX2_y, Cond.code yX2_y cX2_y 3 (some .int), Cond.fieldLink RX2 16 "DrawnAreasModel" "py" "[I", Cond.methodLink RX2 63 yX2_lay, Cond.instanceMethod yX2_lay, Cond.selects RX2 yX2_lay yX2_lay, Cond.code yX2_lay cX2_lay 3 none, Cond.fieldLink RX2 32 "DrawnAreasModel" "newX" "[I"]
def wsX2_copy_r2 : List Cond := [Cond.fieldLink RX2 35 "DrawnAreasModel" "newY" "[I", Cond.methodLink RX2 67 yX2_take, Cond.instanceMethod yX2_take, Cond.selects RX2 yX2_take yX2_take, Cond.code yX2_take cX2_take 3 (some .int)]
def wsX2_copy : List Cond := .code yX2_copy cX2_copy 6 (some .int) :: ((wsX2_copy_r1 ++ wsX2_copy_r2) ++ wsX20)
def wsX2_twiceOf : List Cond := .code yX2_twiceOf cX2_twiceOf 5 (some .long) :: ([.fieldLink RX2 7 "DrawnAreasModel" "points" "[I", .methodLink RX2 53 yX2_x, .instanceMethod yX2_x, .selects RX2 yX2_x yX2_x, .initialized RX2, .code yX2_x cX2_x 3 (some .int), .fieldLink RX2 13 "DrawnAreasModel" "px" "[I", .methodLink RX2 57 yX2_y, .instanceMethod yX2_y, .selects RX2 yX2_y yX2_y, .code yX2_y cX2_y 3 (some .int), .fieldLink RX2 16 "DrawnAreasModel" "py" "[I"] ++ wsX20)
def wsX2_twice_r1 : List Cond := [Cond.constantLong RX2 71 (-1000000000000000001), Cond.constantLong RX2 80 (-1000000000000000003), Cond.methodLink RX2 42 yX2_isFigure, Cond.static yX2_isFigure, Cond.initialized RX2, Cond.code yX2_isFigure cX2_isFigure 1 (some .boolean), Cond.methodLink RX2 38 yX2_in, Cond.static yX2_in, Cond.code yX2_in cX2_in 3 (some .boolean), Cond.methodLink RX2 73 yX2_isClosed, Cond.instanceMethod yX2_isClosed, Cond.selects RX2 yX2_isClosed yX2_isClosed, Cond.code yX2_isClosed cX2_isClosed 2 (some .boolean), Cond.fieldLink RX2 7 "DrawnAreasModel" "points" "[I", Cond.methodLink RX2 76 yX2_twiceOf, Cond.instanceMethod yX2_twiceOf, Cond.selects RX2 yX2_twiceOf yX2_twiceOf, Cond.code yX2_twiceOf cX2_twiceOf 5 (some .long), Cond.methodLink RX2 53 yX2_x, Cond.instanceMethod yX2_x, Cond.selects RX2 yX2_x yX2_x, Cond.code yX2_x cX2_x 3 (some .int), Cond.fieldLink RX2 13 "DrawnAreasModel" "px" "[I", Cond.methodLink RX2 57 yX2_y]
def wsX2_twice_r2 : List Cond := [Cond.instanceMethod yX2_y, Cond.selects RX2 yX2_y yX2_y, Cond.code yX2_y cX2_y 3 (some .int), Cond.fieldLink RX2 16 "DrawnAreasModel" "py" "[I"]
def wsX2_twice : List Cond := .code yX2_twice cX2_twice 2 (some .long) :: ((wsX2_twice_r1 ++ wsX2_twice_r2) ++ wsX20)
def wsX2_side : List Cond := .code yX2_side cX2_side 6 (some .long) :: ([])
def wsX2_isOn : List Cond := .code yX2_isOn cX2_isOn 10 (some .boolean) :: ([.methodLink RX2 53 yX2_x, .instanceMethod yX2_x, .selects RX2 yX2_x yX2_x, .initialized RX2, .code yX2_x cX2_x 3 (some .int), .fieldLink RX2 13 "DrawnAreasModel" "px" "[I", .fieldLink RX2 7 "DrawnAreasModel" "points" "[I", .methodLink RX2 57 yX2_y, .instanceMethod yX2_y, .selects RX2 yX2_y yX2_y, .code yX2_y cX2_y 3 (some .int), .fieldLink RX2 16 "DrawnAreasModel" "py" "[I", .methodLink RX2 82 yX2_side, .static yX2_side, .code yX2_side cX2_side 6 (some .long)] ++ wsX20)
def wsX2_sign : List Cond := .code yX2_sign cX2_sign 2 (some .int) :: ([])
def wsX2_meet : List Cond := .code yX2_meet cX2_meet 8 (some .boolean) :: ([.methodLink RX2 53 yX2_x, .instanceMethod yX2_x, .selects RX2 yX2_x yX2_x, .initialized RX2, .code yX2_x cX2_x 3 (some .int), .fieldLink RX2 13 "DrawnAreasModel" "px" "[I", .fieldLink RX2 7 "DrawnAreasModel" "points" "[I", .methodLink RX2 57 yX2_y, .instanceMethod yX2_y, .selects RX2 yX2_y yX2_y, .code yX2_y cX2_y 3 (some .int), .fieldLink RX2 16 "DrawnAreasModel" "py" "[I", .methodLink RX2 86 yX2_isOn, .instanceMethod yX2_isOn, .selects RX2 yX2_isOn yX2_isOn, .code yX2_isOn cX2_isOn 10 (some .boolean), .methodLink RX2 82 yX2_side, .static yX2_side, .code yX2_side cX2_side 6 (some .long), .methodLink RX2 90 yX2_sign, .static yX2_sign, .code yX2_sign cX2_sign 2 (some .int)] ++ wsX20)
def wsX2_turnsBack : List Cond := .code yX2_turnsBack cX2_turnsBack 12 (some .boolean) :: ([.fieldLink RX2 7 "DrawnAreasModel" "points" "[I", .methodLink RX2 53 yX2_x, .instanceMethod yX2_x, .selects RX2 yX2_x yX2_x, .initialized RX2, .code yX2_x cX2_x 3 (some .int), .fieldLink RX2 13 "DrawnAreasModel" "px" "[I", .methodLink RX2 57 yX2_y, .instanceMethod yX2_y, .selects RX2 yX2_y yX2_y, .code yX2_y cX2_y 3 (some .int), .fieldLink RX2 16 "DrawnAreasModel" "py" "[I"] ++ wsX20)
def wsX2_simple_r1 : List Cond := [Cond.fieldLink RX2 7 "DrawnAreasModel" "points" "[I", Cond.methodLink RX2 42 yX2_isFigure, Cond.static yX2_isFigure, Cond.initialized RX2, Cond.code yX2_isFigure cX2_isFigure 1 (some .boolean), Cond.methodLink RX2 38 yX2_in, Cond.static yX2_in, Cond.code yX2_in cX2_in 3 (some .boolean), Cond.methodLink RX2 73 yX2_isClosed, Cond.instanceMethod yX2_isClosed, Cond.selects RX2 yX2_isClosed yX2_isClosed, Cond.code yX2_isClosed cX2_isClosed 2 (some .boolean), Cond.methodLink RX2 53 yX2_x, Cond.instanceMethod yX2_x, Cond.selects RX2 yX2_x yX2_x, Cond.code yX2_x cX2_x 3 (some .int), Cond.fieldLink RX2 13 "DrawnAreasModel" "px" "[I", Cond.methodLink RX2 57 yX2_y, Cond.instanceMethod yX2_y, Cond.selects RX2 yX2_y yX2_y, Cond.code yX2_y cX2_y 3 (some .int), Cond.fieldLink RX2 16 "DrawnAreasModel" "py" "[I", Cond.methodLink RX2 94 yX2_turnsBack, Cond.instanceMethod yX2_turnsBack]
def wsX2_simple_r2 : List Cond := [Cond.selects RX2 yX2_turnsBack yX2_turnsBack, Cond.code yX2_turnsBack cX2_turnsBack 12 (some .boolean), Cond.methodLink RX2 97 yX2_meet, Cond.instanceMethod yX2_meet, Cond.selects RX2 yX2_meet yX2_meet, Cond.code yX2_meet cX2_meet 8 (some .boolean), Cond.methodLink RX2 86 yX2_isOn, Cond.instanceMethod yX2_isOn, Cond.selects RX2 yX2_isOn yX2_isOn, Cond.code yX2_isOn cX2_isOn 10 (some .boolean), Cond.methodLink RX2 82 yX2_side, Cond.static yX2_side, Cond.code yX2_side cX2_side 6 (some .long), Cond.methodLink RX2 90 yX2_sign, Cond.static yX2_sign, Cond.code yX2_sign cX2_sign 2 (some .int)]
def wsX2_simple : List Cond := .code yX2_simple cX2_simple 6 (some .int) :: ((wsX2_simple_r1 ++ wsX2_simple_r2) ++ wsX20)
def wsX2_windsOf : List Cond := .code yX2_windsOf cX2_windsOf 10 (some .int) :: ([.fieldLink RX2 7 "DrawnAreasModel" "points" "[I", .methodLink RX2 86 yX2_isOn, .instanceMethod yX2_isOn, .selects RX2 yX2_isOn yX2_isOn, .initialized RX2, .code yX2_isOn cX2_isOn 10 (some .boolean), .methodLink RX2 53 yX2_x, .instanceMethod yX2_x, .selects RX2 yX2_x yX2_x, .code yX2_x cX2_x 3 (some .int), .fieldLink RX2 13 "DrawnAreasModel" "px" "[I", .methodLink RX2 57 yX2_y, .instanceMethod yX2_y, .selects RX2 yX2_y yX2_y, .code yX2_y cX2_y 3 (some .int), .fieldLink RX2 16 "DrawnAreasModel" "py" "[I", .methodLink RX2 82 yX2_side, .static yX2_side, .code yX2_side cX2_side 6 (some .long)] ++ wsX20)
def wsX2_winds_r1 : List Cond := [Cond.methodLink RX2 42 yX2_isFigure, Cond.static yX2_isFigure, Cond.initialized RX2, Cond.code yX2_isFigure cX2_isFigure 1 (some .boolean), Cond.methodLink RX2 38 yX2_in, Cond.static yX2_in, Cond.code yX2_in cX2_in 3 (some .boolean), Cond.methodLink RX2 73 yX2_isClosed, Cond.instanceMethod yX2_isClosed, Cond.selects RX2 yX2_isClosed yX2_isClosed, Cond.code yX2_isClosed cX2_isClosed 2 (some .boolean), Cond.fieldLink RX2 7 "DrawnAreasModel" "points" "[I", Cond.methodLink RX2 100 yX2_windsOf, Cond.instanceMethod yX2_windsOf, Cond.selects RX2 yX2_windsOf yX2_windsOf, Cond.code yX2_windsOf cX2_windsOf 10 (some .int), Cond.methodLink RX2 86 yX2_isOn, Cond.instanceMethod yX2_isOn, Cond.selects RX2 yX2_isOn yX2_isOn, Cond.code yX2_isOn cX2_isOn 10 (some .boolean), Cond.methodLink RX2 53 yX2_x, Cond.instanceMethod yX2_x, Cond.selects RX2 yX2_x yX2_x, Cond.code yX2_x cX2_x 3 (some .int)]
def wsX2_winds_r2 : List Cond := [Cond.fieldLink RX2 13 "DrawnAreasModel" "px" "[I", Cond.methodLink RX2 57 yX2_y, Cond.instanceMethod yX2_y, Cond.selects RX2 yX2_y yX2_y, Cond.code yX2_y cX2_y 3 (some .int), Cond.fieldLink RX2 16 "DrawnAreasModel" "py" "[I", Cond.methodLink RX2 82 yX2_side, Cond.static yX2_side, Cond.code yX2_side cX2_side 6 (some .long)]
def wsX2_winds : List Cond := .code yX2_winds cX2_winds 4 (some .int) :: ((wsX2_winds_r1 ++ wsX2_winds_r2) ++ wsX20)
def wsX2_rod : List Cond := .code yX2_rod cX2_rod 3 (some .int) :: ([.fieldLink RX2 19 "DrawnAreasModel" "rod" "I", .methodLink RX2 38 yX2_in, .static yX2_in, .initialized RX2, .code yX2_in cX2_in 3 (some .boolean)] ++ wsX20)
def wsX2_common : List Cond := .code yX2_common cX2_common 10 (some .long) :: ([])
def wsX2_term : List Cond := .code yX2_term cX2_term 7 (some .long) :: ([.methodLink RX2 104 yX2_common, .static yX2_common, .initialized RX2, .code yX2_common cX2_common 10 (some .long)])
def wsX2_isPart : List Cond := .code yX2_isPart cX2_isPart 1 (some .boolean) :: ([.methodLink RX2 38 yX2_in, .static yX2_in, .initialized RX2, .code yX2_in cX2_in 3 (some .boolean)])
def wsX2_canGo : List Cond := .code yX2_canGo cX2_canGo 4 (some .boolean) :: ([.fieldLink RX2 7 "DrawnAreasModel" "points" "[I", .fieldLink RX2 19 "DrawnAreasModel" "rod" "I", .methodLink RX2 57 yX2_y, .instanceMethod yX2_y, .selects RX2 yX2_y yX2_y, .initialized RX2, .code yX2_y cX2_y 3 (some .int), .fieldLink RX2 16 "DrawnAreasModel" "py" "[I"] ++ wsX20)
def wsX2_along : List Cond := .code yX2_along cX2_along 15 (some .long) :: ([.methodLink RX2 53 yX2_x, .instanceMethod yX2_x, .selects RX2 yX2_x yX2_x, .initialized RX2, .code yX2_x cX2_x 3 (some .int), .fieldLink RX2 13 "DrawnAreasModel" "px" "[I", .fieldLink RX2 7 "DrawnAreasModel" "points" "[I", .methodLink RX2 57 yX2_y, .instanceMethod yX2_y, .selects RX2 yX2_y yX2_y, .code yX2_y cX2_y 3 (some .int), .fieldLink RX2 16 "DrawnAreasModel" "py" "[I"] ++ wsX20)
def wsX2_told_r1 : List Cond := [Cond.constantLong RX2 71 (-1000000000000000001), Cond.fieldLink RX2 7 "DrawnAreasModel" "points" "[I", Cond.constantLong RX2 111 (-1000000000000000002), Cond.constantLong RX2 120 (2), Cond.fieldLink RX2 19 "DrawnAreasModel" "rod" "I", Cond.constantLong RX2 80 (-1000000000000000003), Cond.methodLink RX2 42 yX2_isFigure, Cond.static yX2_isFigure, Cond.initialized RX2, Cond.code yX2_isFigure cX2_isFigure 1 (some .boolean), Cond.methodLink RX2 38 yX2_in, Cond.static yX2_in, Cond.code yX2_in cX2_in 3 (some .boolean), Cond.methodLink RX2 108 yX2_isPart, Cond.static yX2_isPart, Cond.code yX2_isPart cX2_isPart 1 (some .boolean), Cond.methodLink RX2 73 yX2_isClosed, Cond.instanceMethod yX2_isClosed, Cond.selects RX2 yX2_isClosed yX2_isClosed, Cond.code yX2_isClosed cX2_isClosed 2 (some .boolean), Cond.methodLink RX2 113 yX2_canGo, Cond.instanceMethod yX2_canGo, Cond.selects RX2 yX2_canGo yX2_canGo, Cond.code yX2_canGo cX2_canGo 4 (some .boolean)]
def wsX2_told_r2 : List Cond := [Cond.methodLink RX2 57 yX2_y, Cond.instanceMethod yX2_y, Cond.selects RX2 yX2_y yX2_y, Cond.code yX2_y cX2_y 3 (some .int), Cond.fieldLink RX2 16 "DrawnAreasModel" "py" "[I", Cond.methodLink RX2 116 yX2_along, Cond.instanceMethod yX2_along, Cond.selects RX2 yX2_along yX2_along, Cond.code yX2_along cX2_along 15 (some .long), Cond.methodLink RX2 53 yX2_x, Cond.instanceMethod yX2_x, Cond.selects RX2 yX2_x yX2_x, Cond.code yX2_x cX2_x 3 (some .int), Cond.fieldLink RX2 13 "DrawnAreasModel" "px" "[I", Cond.methodLink RX2 122 yX2_term, Cond.static yX2_term, Cond.code yX2_term cX2_term 7 (some .long), Cond.methodLink RX2 104 yX2_common, Cond.static yX2_common, Cond.code yX2_common cX2_common 10 (some .long)]
def wsX2_told : List Cond := .code yX2_told cX2_told 4 (some .long) :: ((wsX2_told_r1 ++ wsX2_told_r2) ++ wsX20)
def wsX2_can : List Cond := .code yX2_can cX2_can 2 (some .int) :: ([.methodLink RX2 42 yX2_isFigure, .static yX2_isFigure, .initialized RX2, .code yX2_isFigure cX2_isFigure 1 (some .boolean), .methodLink RX2 38 yX2_in, .static yX2_in, .code yX2_in cX2_in 3 (some .boolean), .methodLink RX2 73 yX2_isClosed, .instanceMethod yX2_isClosed, .selects RX2 yX2_isClosed yX2_isClosed, .code yX2_isClosed cX2_isClosed 2 (some .boolean), .fieldLink RX2 7 "DrawnAreasModel" "points" "[I", .methodLink RX2 113 yX2_canGo, .instanceMethod yX2_canGo, .selects RX2 yX2_canGo yX2_canGo, .code yX2_canGo cX2_canGo 4 (some .boolean), .fieldLink RX2 19 "DrawnAreasModel" "rod" "I", .methodLink RX2 57 yX2_y, .instanceMethod yX2_y, .selects RX2 yX2_y yX2_y, .code yX2_y cX2_y 3 (some .int), .fieldLink RX2 16 "DrawnAreasModel" "py" "[I"] ++ wsX20)
def wsX2_standsWell : List Cond := .code yX2_standsWell cX2_standsWell 11 (some .boolean) :: ([.fieldLink RX2 19 "DrawnAreasModel" "rod" "I"] ++ wsX20)
def wsX2_dips : List Cond := .code yX2_dips cX2_dips 21 (some .boolean) :: ([.methodLink RX2 53 yX2_x, .instanceMethod yX2_x, .selects RX2 yX2_x yX2_x, .initialized RX2, .code yX2_x cX2_x 3 (some .int), .fieldLink RX2 13 "DrawnAreasModel" "px" "[I", .fieldLink RX2 7 "DrawnAreasModel" "points" "[I", .methodLink RX2 57 yX2_y, .instanceMethod yX2_y, .selects RX2 yX2_y yX2_y, .code yX2_y cX2_y 3 (some .int), .fieldLink RX2 16 "DrawnAreasModel" "py" "[I"] ++ wsX20)
def wsX2_rail_r1 : List Cond := [Cond.fieldLink RX2 7 "DrawnAreasModel" "points" "[I", Cond.fieldLink RX2 19 "DrawnAreasModel" "rod" "I", Cond.methodLink RX2 42 yX2_isFigure, Cond.static yX2_isFigure, Cond.initialized RX2, Cond.code yX2_isFigure cX2_isFigure 1 (some .boolean), Cond.methodLink RX2 38 yX2_in, Cond.static yX2_in, Cond.code yX2_in cX2_in 3 (some .boolean), Cond.methodLink RX2 73 yX2_isClosed, Cond.instanceMethod yX2_isClosed, Cond.selects RX2 yX2_isClosed yX2_isClosed, Cond.code yX2_isClosed cX2_isClosed 2 (some .boolean), Cond.methodLink RX2 113 yX2_canGo, Cond.instanceMethod yX2_canGo, Cond.selects RX2 yX2_canGo yX2_canGo, Cond.code yX2_canGo cX2_canGo 4 (some .boolean), Cond.methodLink RX2 57 yX2_y, Cond.instanceMethod yX2_y, Cond.selects RX2 yX2_y yX2_y, Cond.code yX2_y cX2_y 3 (some .int), Cond.fieldLink RX2 16 "DrawnAreasModel" "py" "[I", Cond.methodLink RX2 53 yX2_x, Cond.instanceMethod yX2_x]
def wsX2_rail_r2 : List Cond := [Cond.selects RX2 yX2_x yX2_x, Cond.code yX2_x cX2_x 3 (some .int), Cond.fieldLink RX2 13 "DrawnAreasModel" "px" "[I", Cond.methodLink RX2 126 yX2_standsWell, Cond.instanceMethod yX2_standsWell, Cond.selects RX2 yX2_standsWell yX2_standsWell, Cond.code yX2_standsWell cX2_standsWell 11 (some .boolean), Cond.methodLink RX2 129 yX2_dips, Cond.instanceMethod yX2_dips, Cond.selects RX2 yX2_dips yX2_dips, Cond.code yX2_dips cX2_dips 21 (some .boolean)]
def wsX2_rail : List Cond := .code yX2_rail cX2_rail 6 (some .int) :: ((wsX2_rail_r1 ++ wsX2_rail_r2) ++ wsX20)
def wsX2_root : List Cond := .code yX2_root cX2_root 8 (some .long) :: ([.constantLong RX2 133 (1000000), .constantLong RX2 120 (2)])
def wsX2_slope : List Cond := .code yX2_slope cX2_slope 2 (some .long) :: ([.constantLong RX2 133 (1000000), .fieldLink RX2 19 "DrawnAreasModel" "rod" "I", .methodLink RX2 135 yX2_root, .static yX2_root, .initialized RX2, .code yX2_root cX2_root 8 (some .long), .constantLong RX2 120 (2)] ++ wsX20)
def wsX2_shut : List Cond := .code yX2_shut cX2_shut 8 (some .long) :: ([.fieldLink RX2 19 "DrawnAreasModel" "rod" "I", .constantLong RX2 111 (-1000000000000000002), .constantLong RX2 139 (1000000000), .methodLink RX2 38 yX2_in, .static yX2_in, .initialized RX2, .code yX2_in cX2_in 3 (some .boolean), .methodLink RX2 108 yX2_isPart, .static yX2_isPart, .code yX2_isPart cX2_isPart 1 (some .boolean), .methodLink RX2 141 yX2_slope, .instanceMethod yX2_slope, .selects RX2 yX2_slope yX2_slope, .code yX2_slope cX2_slope 2 (some .long), .constantLong RX2 133 (1000000), .methodLink RX2 135 yX2_root, .static yX2_root, .code yX2_root cX2_root 8 (some .long), .constantLong RX2 120 (2)] ++ wsX20)
def wsX2_geared_r1 : List Cond := [Cond.constantLong RX2 71 (-1000000000000000001), Cond.constantLong RX2 111 (-1000000000000000002), Cond.constantLong RX2 80 (-1000000000000000003), Cond.fieldLink RX2 19 "DrawnAreasModel" "rod" "I", Cond.fieldLink RX2 7 "DrawnAreasModel" "points" "[I", Cond.constantLong RX2 120 (2), Cond.constantLong RX2 144 (-2), Cond.constantLong RX2 146 (3), Cond.methodLink RX2 42 yX2_isFigure, Cond.static yX2_isFigure, Cond.initialized RX2, Cond.code yX2_isFigure cX2_isFigure 1 (some .boolean), Cond.methodLink RX2 38 yX2_in, Cond.static yX2_in, Cond.code yX2_in cX2_in 3 (some .boolean), Cond.methodLink RX2 108 yX2_isPart, Cond.static yX2_isPart, Cond.code yX2_isPart cX2_isPart 1 (some .boolean), Cond.methodLink RX2 73 yX2_isClosed, Cond.instanceMethod yX2_isClosed, Cond.selects RX2 yX2_isClosed yX2_isClosed, Cond.code yX2_isClosed cX2_isClosed 2 (some .boolean), Cond.methodLink RX2 113 yX2_canGo, Cond.instanceMethod yX2_canGo]
def wsX2_geared_r2 : List Cond := [Cond.selects RX2 yX2_canGo yX2_canGo, Cond.code yX2_canGo cX2_canGo 4 (some .boolean), Cond.methodLink RX2 57 yX2_y, Cond.instanceMethod yX2_y, Cond.selects RX2 yX2_y yX2_y, Cond.code yX2_y cX2_y 3 (some .int), Cond.fieldLink RX2 16 "DrawnAreasModel" "py" "[I", Cond.methodLink RX2 116 yX2_along, Cond.instanceMethod yX2_along, Cond.selects RX2 yX2_along yX2_along, Cond.code yX2_along cX2_along 15 (some .long), Cond.methodLink RX2 53 yX2_x, Cond.instanceMethod yX2_x, Cond.selects RX2 yX2_x yX2_x, Cond.code yX2_x cX2_x 3 (some .int), Cond.fieldLink RX2 13 "DrawnAreasModel" "px" "[I", Cond.methodLink RX2 122 yX2_term, Cond.static yX2_term, Cond.code yX2_term cX2_term 7 (some .long), Cond.methodLink RX2 104 yX2_common, Cond.static yX2_common, Cond.code yX2_common cX2_common 10 (some .long)]
def wsX2_geared : List Cond := .code yX2_geared cX2_geared 8 (some .long) :: ((wsX2_geared_r1 ++ wsX2_geared_r2) ++ wsX20)
def wsX2_moment_r1 : List Cond := [Cond.constantLong RX2 71 (-1000000000000000001), Cond.constantLong RX2 111 (-1000000000000000002), Cond.constantLong RX2 80 (-1000000000000000003), Cond.fieldLink RX2 7 "DrawnAreasModel" "points" "[I", Cond.constantLong RX2 120 (2), Cond.methodLink RX2 42 yX2_isFigure, Cond.static yX2_isFigure, Cond.initialized RX2, Cond.code yX2_isFigure cX2_isFigure 1 (some .boolean), Cond.methodLink RX2 38 yX2_in, Cond.static yX2_in, Cond.code yX2_in cX2_in 3 (some .boolean), Cond.methodLink RX2 108 yX2_isPart, Cond.static yX2_isPart, Cond.code yX2_isPart cX2_isPart 1 (some .boolean), Cond.methodLink RX2 73 yX2_isClosed, Cond.instanceMethod yX2_isClosed, Cond.selects RX2 yX2_isClosed yX2_isClosed, Cond.code yX2_isClosed cX2_isClosed 2 (some .boolean), Cond.methodLink RX2 116 yX2_along, Cond.instanceMethod yX2_along, Cond.selects RX2 yX2_along yX2_along, Cond.code yX2_along cX2_along 15 (some .long), Cond.methodLink RX2 53 yX2_x]
def wsX2_moment_r2 : List Cond := [Cond.instanceMethod yX2_x, Cond.selects RX2 yX2_x yX2_x, Cond.code yX2_x cX2_x 3 (some .int), Cond.fieldLink RX2 13 "DrawnAreasModel" "px" "[I", Cond.methodLink RX2 57 yX2_y, Cond.instanceMethod yX2_y, Cond.selects RX2 yX2_y yX2_y, Cond.code yX2_y cX2_y 3 (some .int), Cond.fieldLink RX2 16 "DrawnAreasModel" "py" "[I", Cond.methodLink RX2 122 yX2_term, Cond.static yX2_term, Cond.code yX2_term cX2_term 7 (some .long), Cond.methodLink RX2 104 yX2_common, Cond.static yX2_common, Cond.code yX2_common cX2_common 10 (some .long)]
def wsX2_moment : List Cond := .code yX2_moment cX2_moment 4 (some .long) :: ((wsX2_moment_r1 ++ wsX2_moment_r2) ++ wsX20)
def wsX2_arm : List Cond := .code yX2_arm cX2_arm 5 (some .int) :: ([.fieldLink RX2 148 "DrawnAreasModel" "footX" "I", .fieldLink RX2 151 "DrawnAreasModel" "footY" "I", .fieldLink RX2 29 "DrawnAreasModel" "arm" "I", .fieldLink RX2 154 "DrawnAreasModel" "beyond" "I", .methodLink RX2 38 yX2_in, .static yX2_in, .initialized RX2, .code yX2_in cX2_in 3 (some .boolean), .methodLink RX2 46 yX2_isPlace, .static yX2_isPlace, .code yX2_isPlace cX2_isPlace 1 (some .boolean)] ++ wsX20)
def wsX2_ring_r1 : List Cond := [Cond.constantLong RX2 71 (-1000000000000000001), Cond.constantLong RX2 111 (-1000000000000000002), Cond.constantLong RX2 80 (-1000000000000000003), Cond.fieldLink RX2 148 "DrawnAreasModel" "footX" "I", Cond.fieldLink RX2 151 "DrawnAreasModel" "footY" "I", Cond.constantLong RX2 157 (-1000000000000000005), Cond.fieldLink RX2 29 "DrawnAreasModel" "arm" "I", Cond.fieldLink RX2 19 "DrawnAreasModel" "rod" "I", Cond.constantLong RX2 120 (2), Cond.fieldLink RX2 154 "DrawnAreasModel" "beyond" "I", Cond.methodLink RX2 42 yX2_isFigure, Cond.static yX2_isFigure, Cond.initialized RX2, Cond.code yX2_isFigure cX2_isFigure 1 (some .boolean), Cond.methodLink RX2 38 yX2_in, Cond.static yX2_in, Cond.code yX2_in cX2_in 3 (some .boolean), Cond.methodLink RX2 73 yX2_isClosed, Cond.instanceMethod yX2_isClosed, Cond.selects RX2 yX2_isClosed yX2_isClosed, Cond.code yX2_isClosed cX2_isClosed 2 (some .boolean), Cond.fieldLink RX2 7 "DrawnAreasModel" "points" "[I", Cond.methodLink RX2 100 yX2_windsOf, Cond.instanceMethod yX2_windsOf]
def wsX2_ring_r2 : List Cond := [Cond.selects RX2 yX2_windsOf yX2_windsOf, Cond.code yX2_windsOf cX2_windsOf 10 (some .int), Cond.methodLink RX2 86 yX2_isOn, Cond.instanceMethod yX2_isOn, Cond.selects RX2 yX2_isOn yX2_isOn, Cond.code yX2_isOn cX2_isOn 10 (some .boolean), Cond.methodLink RX2 53 yX2_x, Cond.instanceMethod yX2_x, Cond.selects RX2 yX2_x yX2_x, Cond.code yX2_x cX2_x 3 (some .int), Cond.fieldLink RX2 13 "DrawnAreasModel" "px" "[I", Cond.methodLink RX2 57 yX2_y, Cond.instanceMethod yX2_y, Cond.selects RX2 yX2_y yX2_y, Cond.code yX2_y cX2_y 3 (some .int), Cond.fieldLink RX2 16 "DrawnAreasModel" "py" "[I", Cond.methodLink RX2 82 yX2_side, Cond.static yX2_side, Cond.code yX2_side cX2_side 6 (some .long)]
def wsX2_ring : List Cond := .code yX2_ring cX2_ring 4 (some .long) :: ((wsX2_ring_r1 ++ wsX2_ring_r2) ++ wsX20)
def wsX2_touches : List Cond := .code yX2_touches cX2_touches 19 (some .boolean) :: ([.fieldLink RX2 148 "DrawnAreasModel" "footX" "I", .fieldLink RX2 151 "DrawnAreasModel" "footY" "I", .methodLink RX2 53 yX2_x, .instanceMethod yX2_x, .selects RX2 yX2_x yX2_x, .initialized RX2, .code yX2_x cX2_x 3 (some .int), .fieldLink RX2 13 "DrawnAreasModel" "px" "[I", .fieldLink RX2 7 "DrawnAreasModel" "points" "[I", .methodLink RX2 57 yX2_y, .instanceMethod yX2_y, .selects RX2 yX2_y yX2_y, .code yX2_y cX2_y 3 (some .int), .fieldLink RX2 16 "DrawnAreasModel" "py" "[I"] ++ wsX20)
def wsX2_reaches_r1 : List Cond := [Cond.fieldLink RX2 29 "DrawnAreasModel" "arm" "I", Cond.fieldLink RX2 19 "DrawnAreasModel" "rod" "I", Cond.fieldLink RX2 7 "DrawnAreasModel" "points" "[I", Cond.fieldLink RX2 148 "DrawnAreasModel" "footX" "I", Cond.fieldLink RX2 151 "DrawnAreasModel" "footY" "I", Cond.methodLink RX2 42 yX2_isFigure, Cond.static yX2_isFigure, Cond.initialized RX2, Cond.code yX2_isFigure cX2_isFigure 1 (some .boolean), Cond.methodLink RX2 38 yX2_in, Cond.static yX2_in, Cond.code yX2_in cX2_in 3 (some .boolean), Cond.methodLink RX2 73 yX2_isClosed, Cond.instanceMethod yX2_isClosed, Cond.selects RX2 yX2_isClosed yX2_isClosed, Cond.code yX2_isClosed cX2_isClosed 2 (some .boolean), Cond.methodLink RX2 53 yX2_x, Cond.instanceMethod yX2_x, Cond.selects RX2 yX2_x yX2_x, Cond.code yX2_x cX2_x 3 (some .int), Cond.fieldLink RX2 13 "DrawnAreasModel" "px" "[I", Cond.methodLink RX2 57 yX2_y, Cond.instanceMethod yX2_y, Cond.selects RX2 yX2_y yX2_y]
def wsX2_reaches_r2 : List Cond := [Cond.code yX2_y cX2_y 3 (some .int), Cond.fieldLink RX2 16 "DrawnAreasModel" "py" "[I", Cond.methodLink RX2 159 yX2_touches, Cond.instanceMethod yX2_touches, Cond.selects RX2 yX2_touches yX2_touches, Cond.code yX2_touches cX2_touches 19 (some .boolean)]
def wsX2_reaches : List Cond := .code yX2_reaches cX2_reaches 14 (some .int) :: ((wsX2_reaches_r1 ++ wsX2_reaches_r2) ++ wsX20)
def wsX2_teeth : List Cond := .code yX2_teeth cX2_teeth 3 (some .int) :: ([.fieldLink RX2 23 "DrawnAreasModel" "around" "I", .fieldLink RX2 26 "DrawnAreasModel" "teeth" "I", .methodLink RX2 38 yX2_in, .static yX2_in, .initialized RX2, .code yX2_in cX2_in 3 (some .boolean)] ++ wsX20)
def wsX2_count_r1 : List Cond := [Cond.constantLong RX2 71 (-1000000000000000001), Cond.constantLong RX2 80 (-1000000000000000003), Cond.fieldLink RX2 7 "DrawnAreasModel" "points" "[I", Cond.fieldLink RX2 26 "DrawnAreasModel" "teeth" "I", Cond.constantLong RX2 120 (2), Cond.fieldLink RX2 19 "DrawnAreasModel" "rod" "I", Cond.fieldLink RX2 23 "DrawnAreasModel" "around" "I", Cond.methodLink RX2 42 yX2_isFigure, Cond.static yX2_isFigure, Cond.initialized RX2, Cond.code yX2_isFigure cX2_isFigure 1 (some .boolean), Cond.methodLink RX2 38 yX2_in, Cond.static yX2_in, Cond.code yX2_in cX2_in 3 (some .boolean), Cond.methodLink RX2 73 yX2_isClosed, Cond.instanceMethod yX2_isClosed, Cond.selects RX2 yX2_isClosed yX2_isClosed, Cond.code yX2_isClosed cX2_isClosed 2 (some .boolean), Cond.methodLink RX2 113 yX2_canGo, Cond.instanceMethod yX2_canGo, Cond.selects RX2 yX2_canGo yX2_canGo, Cond.code yX2_canGo cX2_canGo 4 (some .boolean), Cond.methodLink RX2 57 yX2_y, Cond.instanceMethod yX2_y]
def wsX2_count_r2 : List Cond := [Cond.selects RX2 yX2_y yX2_y, Cond.code yX2_y cX2_y 3 (some .int), Cond.fieldLink RX2 16 "DrawnAreasModel" "py" "[I", Cond.methodLink RX2 116 yX2_along, Cond.instanceMethod yX2_along, Cond.selects RX2 yX2_along yX2_along, Cond.code yX2_along cX2_along 15 (some .long), Cond.methodLink RX2 53 yX2_x, Cond.instanceMethod yX2_x, Cond.selects RX2 yX2_x yX2_x, Cond.code yX2_x cX2_x 3 (some .int), Cond.fieldLink RX2 13 "DrawnAreasModel" "px" "[I"]
def wsX2_count : List Cond := .code yX2_count cX2_count 4 (some .long) :: ((wsX2_count_r1 ++ wsX2_count_r2) ++ wsX20)
def wsX2_isCount : List Cond := .code yX2_isCount cX2_isCount 3 (some .boolean) :: ([.constant RX2 163 (1000000), .methodLink RX2 38 yX2_in, .static yX2_in, .initialized RX2, .code yX2_in cX2_in 3 (some .boolean)])
def wsX2_bound : List Cond := .code yX2_bound cX2_bound 6 (some .long) :: ([])
def wsX2_may : List Cond := .code yX2_may cX2_may 6 (some .long) :: ([.constantLong RX2 111 (-1000000000000000002), .fieldLink RX2 23 "DrawnAreasModel" "around" "I", .fieldLink RX2 19 "DrawnAreasModel" "rod" "I", .fieldLink RX2 26 "DrawnAreasModel" "teeth" "I", .methodLink RX2 164 yX2_isCount, .static yX2_isCount, .initialized RX2, .code yX2_isCount cX2_isCount 3 (some .boolean), .constant RX2 163 (1000000), .methodLink RX2 38 yX2_in, .static yX2_in, .code yX2_in cX2_in 3 (some .boolean), .methodLink RX2 108 yX2_isPart, .static yX2_isPart, .code yX2_isPart cX2_isPart 1 (some .boolean), .methodLink RX2 167 yX2_bound, .static yX2_bound, .code yX2_bound cX2_bound 6 (some .long), .methodLink RX2 122 yX2_term, .static yX2_term, .code yX2_term cX2_term 7 (some .long), .methodLink RX2 104 yX2_common, .static yX2_common, .code yX2_common cX2_common 10 (some .long)] ++ wsX20)
def wsX2_fits_r1 : List Cond := [Cond.fieldLink RX2 26 "DrawnAreasModel" "teeth" "I", Cond.constantLong RX2 120 (2), Cond.fieldLink RX2 23 "DrawnAreasModel" "around" "I", Cond.fieldLink RX2 19 "DrawnAreasModel" "rod" "I", Cond.methodLink RX2 42 yX2_isFigure, Cond.static yX2_isFigure, Cond.initialized RX2, Cond.code yX2_isFigure cX2_isFigure 1 (some .boolean), Cond.methodLink RX2 38 yX2_in, Cond.static yX2_in, Cond.code yX2_in cX2_in 3 (some .boolean), Cond.methodLink RX2 164 yX2_isCount, Cond.static yX2_isCount, Cond.code yX2_isCount cX2_isCount 3 (some .boolean), Cond.constant RX2 163 (1000000), Cond.methodLink RX2 73 yX2_isClosed, Cond.instanceMethod yX2_isClosed, Cond.selects RX2 yX2_isClosed yX2_isClosed, Cond.code yX2_isClosed cX2_isClosed 2 (some .boolean), Cond.fieldLink RX2 7 "DrawnAreasModel" "points" "[I", Cond.methodLink RX2 76 yX2_twiceOf, Cond.instanceMethod yX2_twiceOf, Cond.selects RX2 yX2_twiceOf yX2_twiceOf, Cond.code yX2_twiceOf cX2_twiceOf 5 (some .long)]
def wsX2_fits_r2 : List Cond := [Cond.methodLink RX2 53 yX2_x, Cond.instanceMethod yX2_x, Cond.selects RX2 yX2_x yX2_x, Cond.code yX2_x cX2_x 3 (some .int), Cond.fieldLink RX2 13 "DrawnAreasModel" "px" "[I", Cond.methodLink RX2 57 yX2_y, Cond.instanceMethod yX2_y, Cond.selects RX2 yX2_y yX2_y, Cond.code yX2_y cX2_y 3 (some .int), Cond.fieldLink RX2 16 "DrawnAreasModel" "py" "[I", Cond.methodLink RX2 167 yX2_bound, Cond.static yX2_bound, Cond.code yX2_bound cX2_bound 6 (some .long)]
def wsX2_fits : List Cond := .code yX2_fits cX2_fits 11 (some .int) :: ((wsX2_fits_r1 ++ wsX2_fits_r2) ++ wsX20)
def wsX2_join_r1 : List Cond := [Cond.fieldLink RX2 7 "DrawnAreasModel" "points" "[I", Cond.fieldLink RX2 60 "DrawnAreasModel" "many" "I", Cond.methodLink RX2 49 yX2_isPoint, Cond.instanceMethod yX2_isPoint, Cond.selects RX2 yX2_isPoint yX2_isPoint, Cond.initialized RX2, Cond.code yX2_isPoint cX2_isPoint 3 (some .boolean), Cond.methodLink RX2 42 yX2_isFigure, Cond.static yX2_isFigure, Cond.code yX2_isFigure cX2_isFigure 1 (some .boolean), Cond.methodLink RX2 38 yX2_in, Cond.static yX2_in, Cond.code yX2_in cX2_in 3 (some .boolean), Cond.methodLink RX2 73 yX2_isClosed, Cond.instanceMethod yX2_isClosed, Cond.selects RX2 yX2_isClosed yX2_isClosed, Cond.code yX2_isClosed cX2_isClosed 2 (some .boolean), Cond.methodLink RX2 53 yX2_x, Cond.instanceMethod yX2_x, Cond.selects RX2 yX2_x yX2_x, Cond.code yX2_x cX2_x 3 (some .int), Cond.fieldLink RX2 13 "DrawnAreasModel" "px" "[I", Cond.methodLink RX2 57 yX2_y, Cond.instanceMethod yX2_y]
def wsX2_join_r2 : List Cond := [Cond.selects RX2 yX2_y yX2_y, Cond.code yX2_y cX2_y 3 (some .int), Cond.fieldLink RX2 16 "DrawnAreasModel" "py" "[I", Cond.methodLink RX2 63 yX2_lay, Cond.instanceMethod yX2_lay, Cond.selects RX2 yX2_lay yX2_lay, Cond.code yX2_lay cX2_lay 3 none, Cond.fieldLink RX2 32 "DrawnAreasModel" "newX" "[I", Cond.fieldLink RX2 35 "DrawnAreasModel" "newY" "[I", Cond.methodLink RX2 67 yX2_take, Cond.instanceMethod yX2_take, Cond.selects RX2 yX2_take yX2_take, Cond.code yX2_take cX2_take 3 (some .int)]
def wsX2_join : List Cond := .code yX2_join cX2_join 7 (some .int) :: ((wsX2_join_r1 ++ wsX2_join_r2) ++ wsX20)
def wsX2_part_r1 : List Cond := [Cond.fieldLink RX2 60 "DrawnAreasModel" "many" "I", Cond.fieldLink RX2 7 "DrawnAreasModel" "points" "[I", Cond.methodLink RX2 42 yX2_isFigure, Cond.static yX2_isFigure, Cond.initialized RX2, Cond.code yX2_isFigure cX2_isFigure 1 (some .boolean), Cond.methodLink RX2 38 yX2_in, Cond.static yX2_in, Cond.code yX2_in cX2_in 3 (some .boolean), Cond.methodLink RX2 46 yX2_isPlace, Cond.static yX2_isPlace, Cond.code yX2_isPlace cX2_isPlace 1 (some .boolean), Cond.methodLink RX2 73 yX2_isClosed, Cond.instanceMethod yX2_isClosed, Cond.selects RX2 yX2_isClosed yX2_isClosed, Cond.code yX2_isClosed cX2_isClosed 2 (some .boolean), Cond.methodLink RX2 57 yX2_y, Cond.instanceMethod yX2_y, Cond.selects RX2 yX2_y yX2_y, Cond.code yX2_y cX2_y 3 (some .int), Cond.fieldLink RX2 16 "DrawnAreasModel" "py" "[I", Cond.methodLink RX2 53 yX2_x, Cond.instanceMethod yX2_x, Cond.selects RX2 yX2_x yX2_x]
def wsX2_part_r2 : List Cond := [Cond.code yX2_x cX2_x 3 (some .int), Cond.fieldLink RX2 13 "DrawnAreasModel" "px" "[I", Cond.methodLink RX2 63 yX2_lay, Cond.instanceMethod yX2_lay, Cond.selects RX2 yX2_lay yX2_lay, Cond.code yX2_lay cX2_lay 3 none, Cond.fieldLink RX2 32 "DrawnAreasModel" "newX" "[I", Cond.fieldLink RX2 35 "DrawnAreasModel" "newY" "[I", Cond.methodLink RX2 67 yX2_take, Cond.instanceMethod yX2_take, Cond.selects RX2 yX2_take yX2_take, Cond.code yX2_take cX2_take 3 (some .int)]
def wsX2_part : List Cond := .code yX2_part cX2_part 8 (some .int) :: ((wsX2_part_r1 ++ wsX2_part_r2) ++ wsX20)
def wsJ9_abs_0f7a4 : List Cond := .code yJ9_abs_0f7a4 cJ9_abs_0f7a4 1 (some .int) :: ([])
def wsJ9_abs_067f4 : List Cond := .code yJ9_abs_067f4 cJ9_abs_067f4 2 (some .long) :: ([])
def wsJ9_max_7cf53 : List Cond := .code yJ9_max_7cf53 cJ9_max_7cf53 2 (some .int) :: ([])
def wsJ9_min_7cf53 : List Cond := .code yJ9_min_7cf53 cJ9_min_7cf53 2 (some .int) :: ([])
def wsL_law_r1 : List Cond := [Cond.classLink RL 7 RX1, Cond.instantiable RX1 8, Cond.initialized RX1, Cond.classLink RL 10 RX2, Cond.instantiable RX2 13, Cond.initialized RX2, Cond.methodLink RL 9 yX1_init, Cond.instanceMethod yX1_init, Cond.code yX1_init cX1_init 2 none, Cond.methodLink RX1 1 objectInit, Cond.instanceMethod objectInit, Cond.code objectInit ⟨#[0xb1]⟩ 1 none, Cond.classLink RX1 9 RX0, Cond.fieldLink RX1 11 "DrawnAreas" "figures" "[LDrawnAreas$Figure;", Cond.instantiable RX0 3, Cond.initialized RX0, Cond.fieldLink RX1 16 "DrawnAreas" "rodLength" "I", Cond.fieldLink RX1 20 "DrawnAreas" "roundLength" "I", Cond.fieldLink RX1 23 "DrawnAreas" "toothNumber" "I", Cond.fieldLink RX1 26 "DrawnAreas" "footX" "I", Cond.fieldLink RX1 29 "DrawnAreas" "footY" "I", Cond.fieldLink RX1 32 "DrawnAreas" "armLength" "I", Cond.fieldLink RX1 35 "DrawnAreas" "wheelBeyond" "I", Cond.methodLink RX1 15 yX0_init]
def wsL_law_r2 : List Cond := [Cond.instanceMethod yX0_init, Cond.code yX0_init cX0_init 1 none, Cond.methodLink RX0 3 objectInit, Cond.arrayClass .int, Cond.fieldLink RX0 9 "DrawnAreas$Figure" "xs" "[I", Cond.fieldLink RX0 15 "DrawnAreas$Figure" "ys" "[I", Cond.fieldLink RX0 18 "DrawnAreas$Figure" "size" "I", Cond.methodLink RL 12 yX2_init, Cond.instanceMethod yX2_init, Cond.code yX2_init cX2_init 1 none, Cond.methodLink RX2 1 objectInit, Cond.fieldLink RX2 7 "DrawnAreasModel" "points" "[I", Cond.fieldLink RX2 13 "DrawnAreasModel" "px" "[I", Cond.fieldLink RX2 16 "DrawnAreasModel" "py" "[I", Cond.fieldLink RX2 19 "DrawnAreasModel" "rod" "I", Cond.fieldLink RX2 23 "DrawnAreasModel" "around" "I", Cond.fieldLink RX2 26 "DrawnAreasModel" "teeth" "I", Cond.fieldLink RX2 29 "DrawnAreasModel" "arm" "I", Cond.fieldLink RX2 32 "DrawnAreasModel" "newX" "[I", Cond.fieldLink RX2 35 "DrawnAreasModel" "newY" "[I", Cond.methodLink RL 13 yX1_point, Cond.instanceMethod yX1_point, Cond.selects RX1 yX1_point yX1_point, Cond.code yX1_point cX1_point 5 (some .int)]
def wsL_law_r3 : List Cond := [Cond.methodLink RX1 38 yX1_find, Cond.instanceMethod yX1_find, Cond.selects RX1 yX1_find yX1_find, Cond.code yX1_find cX1_find 2 (some (.object "DrawnAreas$Figure")), Cond.methodLink RX1 42 yX1_within, Cond.static yX1_within, Cond.code yX1_within cX1_within 2 (some .boolean), Cond.methodLink RX1 49 yX0_add, Cond.instanceMethod yX0_add, Cond.selects RX0 yX0_add yX0_add, Cond.code yX0_add cX0_add 3 none, Cond.methodLink RX0 22 yX0_put, Cond.instanceMethod yX0_put, Cond.selects RX0 yX0_put yX0_put, Cond.code yX0_put cX0_put 4 none, Cond.methodLink RL 17 yX2_point, Cond.instanceMethod yX2_point, Cond.selects RX2 yX2_point yX2_point, Cond.code yX2_point cX2_point 4 (some .int), Cond.methodLink RX2 42 yX2_isFigure, Cond.static yX2_isFigure, Cond.code yX2_isFigure cX2_isFigure 1 (some .boolean), Cond.methodLink RX2 38 yX2_in, Cond.static yX2_in]
def wsL_law_r4 : List Cond := [Cond.code yX2_in cX2_in 3 (some .boolean), Cond.methodLink RX2 46 yX2_isPlace, Cond.static yX2_isPlace, Cond.code yX2_isPlace cX2_isPlace 1 (some .boolean), Cond.methodLink RL 18 yX1_move, Cond.instanceMethod yX1_move, Cond.selects RX1 yX1_move yX1_move, Cond.code yX1_move cX1_move 6 (some .int), Cond.methodLink RX1 53 yX0_has, Cond.instanceMethod yX0_has, Cond.selects RX0 yX0_has yX0_has, Cond.code yX0_has cX0_has 2 (some .boolean), Cond.methodLink RX1 57 yX0_put, Cond.methodLink RL 22 yX2_move, Cond.instanceMethod yX2_move, Cond.selects RX2 yX2_move yX2_move, Cond.code yX2_move cX2_move 5 (some .int), Cond.methodLink RX2 49 yX2_isPoint, Cond.instanceMethod yX2_isPoint, Cond.selects RX2 yX2_isPoint yX2_isPoint, Cond.code yX2_isPoint cX2_isPoint 3 (some .boolean), Cond.methodLink RL 23 yX1_clear, Cond.instanceMethod yX1_clear, Cond.selects RX1 yX1_clear yX1_clear]
def wsL_law_r5 : List Cond := [Cond.code yX1_clear cX1_clear 4 (some .int), Cond.methodLink RL 27 yX2_clear, Cond.instanceMethod yX2_clear, Cond.selects RX2 yX2_clear yX2_clear, Cond.code yX2_clear cX2_clear 3 (some .int), Cond.methodLink RL 28 yX1_at, Cond.instanceMethod yX1_at, Cond.selects RX1 yX1_at yX1_at, Cond.code yX1_at cX1_at 5 (some .int), Cond.methodLink RX1 61 yX1_zeroOrOne, Cond.static yX1_zeroOrOne, Cond.code yX1_zeroOrOne cX1_zeroOrOne 1 (some .boolean), Cond.methodLink RX1 64 yX0_x, Cond.instanceMethod yX0_x, Cond.selects RX0 yX0_x yX0_x, Cond.code yX0_x cX0_x 2 (some .int), Cond.methodLink RX1 68 yX0_y, Cond.instanceMethod yX0_y, Cond.selects RX0 yX0_y yX0_y, Cond.code yX0_y cX0_y 2 (some .int), Cond.methodLink RL 31 yX2_at, Cond.instanceMethod yX2_at, Cond.selects RX2 yX2_at yX2_at, Cond.code yX2_at cX2_at 4 (some .int)]
def wsL_law_r6 : List Cond := [Cond.methodLink RX2 53 yX2_x, Cond.instanceMethod yX2_x, Cond.selects RX2 yX2_x yX2_x, Cond.code yX2_x cX2_x 3 (some .int), Cond.methodLink RX2 57 yX2_y, Cond.instanceMethod yX2_y, Cond.selects RX2 yX2_y yX2_y, Cond.code yX2_y cX2_y 3 (some .int), Cond.methodLink RL 32 yX1_copy, Cond.instanceMethod yX1_copy, Cond.selects RX1 yX1_copy yX1_copy, Cond.code yX1_copy cX1_copy 6 (some .int), Cond.methodLink RX1 71 yX0_become, Cond.instanceMethod yX0_become, Cond.selects RX0 yX0_become yX0_become, Cond.code yX0_become cX0_become 3 none, Cond.methodLink RX0 26 yX0_x, Cond.methodLink RX0 30 yX0_y, Cond.methodLink RX0 33 yX0_add, Cond.methodLink RX1 75 yX0_turn, Cond.instanceMethod yX0_turn, Cond.selects RX0 yX0_turn yX0_turn, Cond.code yX0_turn cX0_turn 5 none, Cond.methodLink RL 36 yX2_copy]
def wsL_law_r7 : List Cond := [Cond.instanceMethod yX2_copy, Cond.selects RX2 yX2_copy yX2_copy, Cond.code yX2_copy cX2_copy 6 (some .int), Cond.fieldLink RX2 60 "DrawnAreasModel" "many" "I", Cond.methodLink RX2 63 yX2_lay, Cond.instanceMethod yX2_lay, Cond.selects RX2 yX2_lay yX2_lay, Cond.code yX2_lay cX2_lay 3 none, Cond.methodLink RX2 67 yX2_take, Cond.instanceMethod yX2_take, Cond.selects RX2 yX2_take yX2_take, Cond.code yX2_take cX2_take 3 (some .int), Cond.methodLink RL 37 yX1_twice, Cond.instanceMethod yX1_twice, Cond.selects RX1 yX1_twice yX1_twice, Cond.code yX1_twice cX1_twice 3 (some .long), Cond.constantLong RX1 78 (-1000000000000000001), Cond.constantLong RX1 84 (-1000000000000000003), Cond.methodLink RX1 80 yX0_closed, Cond.instanceMethod yX0_closed, Cond.selects RX0 yX0_closed yX0_closed, Cond.code yX0_closed cX0_closed 1 (some .boolean), Cond.methodLink RX1 86 yX0_doubleArea, Cond.instanceMethod yX0_doubleArea]
def wsL_law_r8 : List Cond := [Cond.selects RX0 yX0_doubleArea yX0_doubleArea, Cond.code yX0_doubleArea cX0_doubleArea 5 (some .long), Cond.methodLink RX0 37 yX0_next, Cond.instanceMethod yX0_next, Cond.selects RX0 yX0_next yX0_next, Cond.code yX0_next cX0_next 2 (some .int), Cond.methodLink RL 41 yX2_twice, Cond.instanceMethod yX2_twice, Cond.selects RX2 yX2_twice yX2_twice, Cond.code yX2_twice cX2_twice 2 (some .long), Cond.constantLong RX2 71 (-1000000000000000001), Cond.constantLong RX2 80 (-1000000000000000003), Cond.methodLink RX2 73 yX2_isClosed, Cond.instanceMethod yX2_isClosed, Cond.selects RX2 yX2_isClosed yX2_isClosed, Cond.code yX2_isClosed cX2_isClosed 2 (some .boolean), Cond.methodLink RX2 76 yX2_twiceOf, Cond.instanceMethod yX2_twiceOf, Cond.selects RX2 yX2_twiceOf yX2_twiceOf, Cond.code yX2_twiceOf cX2_twiceOf 5 (some .long), Cond.methodLink RL 42 yX1_simple, Cond.instanceMethod yX1_simple, Cond.selects RX1 yX1_simple yX1_simple, Cond.code yX1_simple cX1_simple 3 (some .int)]
def wsL_law_r9 : List Cond := [Cond.methodLink RX1 90 yX0_neverMeetsItself, Cond.instanceMethod yX0_neverMeetsItself, Cond.selects RX0 yX0_neverMeetsItself yX0_neverMeetsItself, Cond.code yX0_neverMeetsItself cX0_neverMeetsItself 3 (some .boolean), Cond.methodLink RX0 68 yX0_samePlace, Cond.instanceMethod yX0_samePlace, Cond.selects RX0 yX0_samePlace yX0_samePlace, Cond.code yX0_samePlace cX0_samePlace 4 (some .boolean), Cond.methodLink RX0 72 yX0_foldsBack, Cond.instanceMethod yX0_foldsBack, Cond.selects RX0 yX0_foldsBack yX0_foldsBack, Cond.code yX0_foldsBack cX0_foldsBack 5 (some .boolean), Cond.methodLink RX0 56 yX0_leftOf, Cond.instanceMethod yX0_leftOf, Cond.selects RX0 yX0_leftOf yX0_leftOf, Cond.code yX0_leftOf cX0_leftOf 7 (some .long), Cond.methodLink RX0 76 yX0_sidesMeet, Cond.instanceMethod yX0_sidesMeet, Cond.selects RX0 yX0_sidesMeet yX0_sidesMeet, Cond.code yX0_sidesMeet cX0_sidesMeet 3 (some .boolean), Cond.methodLink RX0 64 yX0_sideCarries, Cond.instanceMethod yX0_sideCarries, Cond.selects RX0 yX0_sideCarries yX0_sideCarries, Cond.code yX0_sideCarries cX0_sideCarries 5 (some .boolean)]
def wsL_law_r10 : List Cond := [Cond.methodLink RX0 60 yX0_between, Cond.static yX0_between, Cond.code yX0_between cX0_between 4 (some .boolean), Cond.methodLink RX0 49 Lib.Math.min.name, Cond.static Lib.Math.min.name, Cond.initialized "java/lang/Math", Cond.code Lib.Math.min.name Lib.Math.min.code 2 (some .int), Cond.methodLink RX0 53 Lib.Math.max.name, Cond.static Lib.Math.max.name, Cond.code Lib.Math.max.name Lib.Math.max.code 2 (some .int), Cond.methodLink RX0 80 yX0_parts, Cond.instanceMethod yX0_parts, Cond.selects RX0 yX0_parts yX0_parts, Cond.code yX0_parts cX0_parts 7 (some .boolean), Cond.methodLink RX1 93 yX1_oneIf, Cond.static yX1_oneIf, Cond.code yX1_oneIf cX1_oneIf 1 (some .int), Cond.methodLink RL 45 yX2_simple, Cond.instanceMethod yX2_simple, Cond.selects RX2 yX2_simple yX2_simple, Cond.code yX2_simple cX2_simple 6 (some .int), Cond.methodLink RX2 94 yX2_turnsBack, Cond.instanceMethod yX2_turnsBack, Cond.selects RX2 yX2_turnsBack yX2_turnsBack]
def wsL_law_r11 : List Cond := [Cond.code yX2_turnsBack cX2_turnsBack 12 (some .boolean), Cond.methodLink RX2 97 yX2_meet, Cond.instanceMethod yX2_meet, Cond.selects RX2 yX2_meet yX2_meet, Cond.code yX2_meet cX2_meet 8 (some .boolean), Cond.methodLink RX2 86 yX2_isOn, Cond.instanceMethod yX2_isOn, Cond.selects RX2 yX2_isOn yX2_isOn, Cond.code yX2_isOn cX2_isOn 10 (some .boolean), Cond.methodLink RX2 82 yX2_side, Cond.static yX2_side, Cond.code yX2_side cX2_side 6 (some .long), Cond.methodLink RX2 90 yX2_sign, Cond.static yX2_sign, Cond.code yX2_sign cX2_sign 2 (some .int), Cond.methodLink RL 46 yX1_winds, Cond.instanceMethod yX1_winds, Cond.selects RX1 yX1_winds yX1_winds, Cond.code yX1_winds cX1_winds 5 (some .int), Cond.methodLink RX1 97 yX0_carries, Cond.instanceMethod yX0_carries, Cond.selects RX0 yX0_carries yX0_carries, Cond.code yX0_carries cX0_carries 4 (some .boolean), Cond.methodLink RX1 100 yX0_turnsRound]
def wsL_law_r12 : List Cond := [Cond.instanceMethod yX0_turnsRound, Cond.selects RX0 yX0_turnsRound yX0_turnsRound, Cond.code yX0_turnsRound cX0_turnsRound 9 (some .int), Cond.methodLink RL 49 yX2_winds, Cond.instanceMethod yX2_winds, Cond.selects RX2 yX2_winds yX2_winds, Cond.code yX2_winds cX2_winds 4 (some .int), Cond.methodLink RX2 100 yX2_windsOf, Cond.instanceMethod yX2_windsOf, Cond.selects RX2 yX2_windsOf yX2_windsOf, Cond.code yX2_windsOf cX2_windsOf 10 (some .int), Cond.methodLink RL 50 yX1_rod, Cond.instanceMethod yX1_rod, Cond.selects RX1 yX1_rod yX1_rod, Cond.code yX1_rod cX1_rod 3 (some .int), Cond.methodLink RX1 104 yX1_from1To, Cond.static yX1_from1To, Cond.code yX1_from1To cX1_from1To 2 (some .boolean), Cond.methodLink RL 53 yX2_rod, Cond.instanceMethod yX2_rod, Cond.selects RX2 yX2_rod yX2_rod, Cond.code yX2_rod cX2_rod 3 (some .int), Cond.methodLink RL 54 yX1_told, Cond.instanceMethod yX1_told]
def wsL_law_r13 : List Cond := [Cond.selects RX1 yX1_told yX1_told, Cond.code yX1_told cX1_told 5 (some .long), Cond.constantLong RX1 110 (-1000000000000000002), Cond.constantLong RX1 120 (2), Cond.methodLink RX1 107 yX1_from0To, Cond.static yX1_from0To, Cond.code yX1_from0To cX1_from0To 2 (some .boolean), Cond.methodLink RX1 112 yX1_goesRound, Cond.instanceMethod yX1_goesRound, Cond.selects RX1 yX1_goesRound yX1_goesRound, Cond.code yX1_goesRound cX1_goesRound 2 (some .boolean), Cond.methodLink RX1 200 yX0_staysNearer, Cond.instanceMethod yX0_staysNearer, Cond.selects RX0 yX0_staysNearer yX0_staysNearer, Cond.code yX0_staysNearer cX0_staysNearer 3 (some .boolean), Cond.methodLink RX0 44 Lib.Math.abs.name, Cond.static Lib.Math.abs.name, Cond.code Lib.Math.abs.name Lib.Math.abs.code 1 (some .int), Cond.methodLink RX1 116 yX0_alongX, Cond.instanceMethod yX0_alongX, Cond.selects RX0 yX0_alongX yX0_alongX, Cond.code yX0_alongX cX0_alongX 7 (some .long), Cond.methodLink RX0 40 yX0_mixedPowers, Cond.static yX0_mixedPowers]
def wsL_law_r14 : List Cond := [Cond.code yX0_mixedPowers cX0_mixedPowers 10 (some .long), Cond.methodLink RX1 122 yX1_fraction, Cond.static yX1_fraction, Cond.code yX1_fraction cX1_fraction 7 (some .long), Cond.methodLink RX1 155 Lib.MathLoose.abs_long.x, Cond.static Lib.MathLoose.abs_long.x, Cond.code Lib.MathLoose.abs_long.x Lib.MathLoose.abs_long.code 2 (some .long), Cond.methodLink RX1 197 yX1_commonDivisor, Cond.static yX1_commonDivisor, Cond.code yX1_commonDivisor cX1_commonDivisor 11 (some .long), Cond.methodLink RX1 161 yX1_cut, Cond.static yX1_cut, Cond.code yX1_cut cX1_cut 4 (some .long), Cond.methodLink RL 58 yX2_told, Cond.instanceMethod yX2_told, Cond.selects RX2 yX2_told yX2_told, Cond.code yX2_told cX2_told 4 (some .long), Cond.constantLong RX2 111 (-1000000000000000002), Cond.constantLong RX2 120 (2), Cond.methodLink RX2 108 yX2_isPart, Cond.static yX2_isPart, Cond.code yX2_isPart cX2_isPart 1 (some .boolean), Cond.methodLink RX2 113 yX2_canGo, Cond.instanceMethod yX2_canGo]
def wsL_law_r15 : List Cond := [Cond.selects RX2 yX2_canGo yX2_canGo, Cond.code yX2_canGo cX2_canGo 4 (some .boolean), Cond.methodLink RX2 116 yX2_along, Cond.instanceMethod yX2_along, Cond.selects RX2 yX2_along yX2_along, Cond.code yX2_along cX2_along 15 (some .long), Cond.methodLink RX2 122 yX2_term, Cond.static yX2_term, Cond.code yX2_term cX2_term 7 (some .long), Cond.methodLink RX2 104 yX2_common, Cond.static yX2_common, Cond.code yX2_common cX2_common 10 (some .long), Cond.methodLink RL 59 yX1_can, Cond.instanceMethod yX1_can, Cond.selects RX1 yX1_can yX1_can, Cond.code yX1_can cX1_can 3 (some .int), Cond.methodLink RL 62 yX2_can, Cond.instanceMethod yX2_can, Cond.selects RX2 yX2_can yX2_can, Cond.code yX2_can cX2_can 2 (some .int), Cond.methodLink RL 63 yX1_rail, Cond.instanceMethod yX1_rail, Cond.selects RX1 yX1_rail yX1_rail, Cond.code yX1_rail cX1_rail 5 (some .int)]
def wsL_law_r16 : List Cond := [Cond.methodLink RX1 126 yX1_neverLeftOf, Cond.instanceMethod yX1_neverLeftOf, Cond.selects RX1 yX1_neverLeftOf yX1_neverLeftOf, Cond.code yX1_neverLeftOf cX1_neverLeftOf 6 (some .boolean), Cond.methodLink RX1 203 yX0_nearestAgainst, Cond.instanceMethod yX0_nearestAgainst, Cond.selects RX0 yX0_nearestAgainst yX0_nearestAgainst, Cond.code yX0_nearestAgainst cX0_nearestAgainst 17 (some .int), Cond.methodLink RX0 83 yX0_squareTo, Cond.instanceMethod yX0_squareTo, Cond.selects RX0 yX0_squareTo yX0_squareTo, Cond.code yX0_squareTo cX0_squareTo 10 (some .long), Cond.methodLink RX0 86 yJ13_compare_74951, Cond.static yJ13_compare_74951, Cond.initialized RJ13, Cond.code yJ13_compare_74951 cJ13_compare_74951 4 (some .int), Cond.methodLink RX1 130 yX1_neverRightOf, Cond.instanceMethod yX1_neverRightOf, Cond.selects RX1 yX1_neverRightOf yX1_neverRightOf, Cond.code yX1_neverRightOf cX1_neverRightOf 6 (some .boolean), Cond.methodLink RX1 207 yX0_squareTo, Cond.methodLink RL 66 yX2_rail, Cond.instanceMethod yX2_rail, Cond.selects RX2 yX2_rail yX2_rail]
def wsL_law_r17 : List Cond := [Cond.code yX2_rail cX2_rail 6 (some .int), Cond.methodLink RX2 126 yX2_standsWell, Cond.instanceMethod yX2_standsWell, Cond.selects RX2 yX2_standsWell yX2_standsWell, Cond.code yX2_standsWell cX2_standsWell 11 (some .boolean), Cond.methodLink RX2 129 yX2_dips, Cond.instanceMethod yX2_dips, Cond.selects RX2 yX2_dips yX2_dips, Cond.code yX2_dips cX2_dips 21 (some .boolean), Cond.methodLink RL 67 yX1_shut, Cond.instanceMethod yX1_shut, Cond.selects RX1 yX1_shut yX1_shut, Cond.code yX1_shut cX1_shut 3 (some .long), Cond.methodLink RX1 133 yX1_shutLow, Cond.instanceMethod yX1_shutLow, Cond.selects RX1 yX1_shutLow yX1_shutLow, Cond.code yX1_shutLow cX1_shutLow 5 (some .long), Cond.constantLong RX1 211 (1000000000), Cond.methodLink RX1 213 yX1_heightRoot, Cond.instanceMethod yX1_heightRoot, Cond.selects RX1 yX1_heightRoot yX1_heightRoot, Cond.code yX1_heightRoot cX1_heightRoot 2 (some .long), Cond.constantLong RX1 216 (1000000), Cond.methodLink RX1 218 yX1_rootOf]
def wsL_law_r18 : List Cond := [Cond.static yX1_rootOf, Cond.code yX1_rootOf cX1_rootOf 7 (some .long), Cond.methodLink RX1 137 yX1_shutHigh, Cond.instanceMethod yX1_shutHigh, Cond.selects RX1 yX1_shutHigh yX1_shutHigh, Cond.code yX1_shutHigh cX1_shutHigh 5 (some .long), Cond.methodLink RL 71 yX2_shut, Cond.instanceMethod yX2_shut, Cond.selects RX2 yX2_shut yX2_shut, Cond.code yX2_shut cX2_shut 8 (some .long), Cond.constantLong RX2 139 (1000000000), Cond.methodLink RX2 141 yX2_slope, Cond.instanceMethod yX2_slope, Cond.selects RX2 yX2_slope yX2_slope, Cond.code yX2_slope cX2_slope 2 (some .long), Cond.constantLong RX2 133 (1000000), Cond.methodLink RX2 135 yX2_root, Cond.static yX2_root, Cond.code yX2_root cX2_root 8 (some .long), Cond.methodLink RL 72 yX1_geared, Cond.instanceMethod yX1_geared, Cond.selects RX1 yX1_geared yX1_geared, Cond.code yX1_geared cX1_geared 5 (some .long), Cond.methodLink RX1 140 yX1_gearedRound]
def wsL_law_r19 : List Cond := [Cond.instanceMethod yX1_gearedRound, Cond.selects RX1 yX1_gearedRound yX1_gearedRound, Cond.code yX1_gearedRound cX1_gearedRound 10 (some .long), Cond.constantLong RX1 221 (-2), Cond.constantLong RX1 223 (3), Cond.methodLink RL 75 yX2_geared, Cond.instanceMethod yX2_geared, Cond.selects RX2 yX2_geared yX2_geared, Cond.code yX2_geared cX2_geared 8 (some .long), Cond.constantLong RX2 144 (-2), Cond.constantLong RX2 146 (3), Cond.methodLink RL 76 yX1_moment, Cond.instanceMethod yX1_moment, Cond.selects RX1 yX1_moment yX1_moment, Cond.code yX1_moment cX1_moment 5 (some .long), Cond.methodLink RL 79 yX2_moment, Cond.instanceMethod yX2_moment, Cond.selects RX2 yX2_moment yX2_moment, Cond.code yX2_moment cX2_moment 4 (some .long), Cond.methodLink RL 80 yX1_arm, Cond.instanceMethod yX1_arm, Cond.selects RX1 yX1_arm yX1_arm, Cond.code yX1_arm cX1_arm 5 (some .int), Cond.methodLink RL 83 yX2_arm]
def wsL_law_r20 : List Cond := [Cond.instanceMethod yX2_arm, Cond.selects RX2 yX2_arm yX2_arm, Cond.code yX2_arm cX2_arm 5 (some .int), Cond.fieldLink RX2 148 "DrawnAreasModel" "footX" "I", Cond.fieldLink RX2 151 "DrawnAreasModel" "footY" "I", Cond.fieldLink RX2 154 "DrawnAreasModel" "beyond" "I", Cond.methodLink RL 84 yX1_ring, Cond.instanceMethod yX1_ring, Cond.selects RX1 yX1_ring yX1_ring, Cond.code yX1_ring cX1_ring 4 (some .long), Cond.constantLong RX1 144 (-1000000000000000005), Cond.methodLink RX1 146 yX1_withPi, Cond.instanceMethod yX1_withPi, Cond.selects RX1 yX1_withPi yX1_withPi, Cond.code yX1_withPi cX1_withPi 1 (some .long), Cond.methodLink RL 87 yX2_ring, Cond.instanceMethod yX2_ring, Cond.selects RX2 yX2_ring yX2_ring, Cond.code yX2_ring cX2_ring 4 (some .long), Cond.constantLong RX2 157 (-1000000000000000005), Cond.methodLink RL 88 yX1_reaches, Cond.instanceMethod yX1_reaches, Cond.selects RX1 yX1_reaches yX1_reaches, Cond.code yX1_reaches cX1_reaches 3 (some .int)]
def wsL_law_r21 : List Cond := [Cond.methodLink RX1 149 yX1_beyondFolded, Cond.instanceMethod yX1_beyondFolded, Cond.selects RX1 yX1_beyondFolded yX1_beyondFolded, Cond.code yX1_beyondFolded cX1_beyondFolded 5 (some .boolean), Cond.methodLink RX1 152 yX1_withinStretched, Cond.instanceMethod yX1_withinStretched, Cond.selects RX1 yX1_withinStretched yX1_withinStretched, Cond.code yX1_withinStretched cX1_withinStretched 5 (some .boolean), Cond.methodLink RL 91 yX2_reaches, Cond.instanceMethod yX2_reaches, Cond.selects RX2 yX2_reaches yX2_reaches, Cond.code yX2_reaches cX2_reaches 14 (some .int), Cond.methodLink RX2 159 yX2_touches, Cond.instanceMethod yX2_touches, Cond.selects RX2 yX2_touches yX2_touches, Cond.code yX2_touches cX2_touches 19 (some .boolean), Cond.methodLink RL 92 yX1_teeth, Cond.instanceMethod yX1_teeth, Cond.selects RX1 yX1_teeth yX1_teeth, Cond.code yX1_teeth cX1_teeth 3 (some .int), Cond.methodLink RL 96 yX2_teeth, Cond.instanceMethod yX2_teeth, Cond.selects RX2 yX2_teeth yX2_teeth, Cond.code yX2_teeth cX2_teeth 3 (some .int)]
def wsL_law_r22 : List Cond := [Cond.methodLink RL 97 yX1_count, Cond.instanceMethod yX1_count, Cond.selects RX1 yX1_count yX1_count, Cond.code yX1_count cX1_count 3 (some .long), Cond.methodLink RL 100 yX2_count, Cond.instanceMethod yX2_count, Cond.selects RX2 yX2_count yX2_count, Cond.code yX2_count cX2_count 4 (some .long), Cond.methodLink RL 101 yX1_may, Cond.instanceMethod yX1_may, Cond.selects RX1 yX1_may yX1_may, Cond.code yX1_may cX1_may 8 (some .long), Cond.methodLink RX1 165 yX1_readable, Cond.static yX1_readable, Cond.code yX1_readable cX1_readable 3 (some .boolean), Cond.constant RX1 225 (1000000), Cond.methodLink RX1 169 yX1_leastTeeth, Cond.static yX1_leastTeeth, Cond.code yX1_leastTeeth cX1_leastTeeth 3 (some .long), Cond.methodLink RX1 226 Lib.Math.max.name, Cond.methodLink RX1 173 yX1_belowTeeth, Cond.static yX1_belowTeeth, Cond.code yX1_belowTeeth cX1_belowTeeth 3 (some .long), Cond.methodLink RL 105 yX2_may]
def wsL_law_r23 : List Cond := [Cond.instanceMethod yX2_may, Cond.selects RX2 yX2_may yX2_may, Cond.code yX2_may cX2_may 6 (some .long), Cond.methodLink RX2 164 yX2_isCount, Cond.static yX2_isCount, Cond.code yX2_isCount cX2_isCount 3 (some .boolean), Cond.constant RX2 163 (1000000), Cond.methodLink RX2 167 yX2_bound, Cond.static yX2_bound, Cond.code yX2_bound cX2_bound 6 (some .long), Cond.methodLink RL 106 yX1_fits, Cond.instanceMethod yX1_fits, Cond.selects RX1 yX1_fits yX1_fits, Cond.code yX1_fits cX1_fits 10 (some .int), Cond.methodLink RL 109 yX2_fits, Cond.instanceMethod yX2_fits, Cond.selects RX2 yX2_fits yX2_fits, Cond.code yX2_fits cX2_fits 11 (some .int), Cond.methodLink RL 110 yX1_join, Cond.instanceMethod yX1_join, Cond.selects RX1 yX1_join yX1_join, Cond.code yX1_join cX1_join 7 (some .int), Cond.methodLink RX1 176 yX0_next, Cond.methodLink RX1 179 yX0_samePlace]
def wsL_law_r24 : List Cond := [Cond.methodLink RX1 183 yX0_takeIn, Cond.instanceMethod yX0_takeIn, Cond.selects RX0 yX0_takeIn yX0_takeIn, Cond.code yX0_takeIn cX0_takeIn 7 none, Cond.methodLink RL 113 yX2_join, Cond.instanceMethod yX2_join, Cond.selects RX2 yX2_join yX2_join, Cond.code yX2_join cX2_join 7 (some .int), Cond.methodLink RL 114 yX1_part, Cond.instanceMethod yX1_part, Cond.selects RX1 yX1_part yX1_part, Cond.code yX1_part cX1_part 6 (some .int), Cond.methodLink RX1 187 yX0_placesFrom, Cond.instanceMethod yX0_placesFrom, Cond.selects RX0 yX0_placesFrom yX0_placesFrom, Cond.code yX0_placesFrom cX0_placesFrom 4 (some .int), Cond.methodLink RX0 92 yX0_crosses, Cond.instanceMethod yX0_crosses, Cond.selects RX0 yX0_crosses yX0_crosses, Cond.code yX0_crosses cX0_crosses 5 (some .boolean), Cond.methodLink RX1 190 yX0_crossesWhole, Cond.instanceMethod yX0_crossesWhole, Cond.selects RX0 yX0_crossesWhole yX0_crossesWhole, Cond.code yX0_crossesWhole cX0_crossesWhole 4 (some .boolean)]
def wsL_law_r25 : List Cond := [Cond.methodLink RX0 95 yX0_crossingLower, Cond.instanceMethod yX0_crossingLower, Cond.selects RX0 yX0_crossingLower yX0_crossingLower, Cond.code yX0_crossingLower cX0_crossingLower 2 (some .int), Cond.methodLink RX0 98 yX0_crossingUpper, Cond.instanceMethod yX0_crossingUpper, Cond.selects RX0 yX0_crossingUpper yX0_crossingUpper, Cond.code yX0_crossingUpper cX0_crossingUpper 3 (some .int), Cond.methodLink RX1 193 yX0_becomeUpper, Cond.instanceMethod yX0_becomeUpper, Cond.selects RX0 yX0_becomeUpper yX0_becomeUpper, Cond.code yX0_becomeUpper cX0_becomeUpper 5 none, Cond.methodLink RL 117 yX2_part, Cond.instanceMethod yX2_part, Cond.selects RX2 yX2_part yX2_part, Cond.code yX2_part cX2_part 8 (some .int)]
def wsL_law : List Cond := (wsL_law_r1 ++ (wsL_law_r2 ++ (wsL_law_r3 ++ (wsL_law_r4 ++ (wsL_law_r5 ++ (wsL_law_r6 ++ (wsL_law_r7 ++ (wsL_law_r8 ++ (wsL_law_r9 ++ (wsL_law_r10 ++ (wsL_law_r11 ++ (wsL_law_r12 ++ (wsL_law_r13 ++ (wsL_law_r14 ++ (wsL_law_r15 ++ (wsL_law_r16 ++ (wsL_law_r17 ++ (wsL_law_r18 ++ (wsL_law_r19 ++ (wsL_law_r20 ++ (wsL_law_r21 ++ (wsL_law_r22 ++ (wsL_law_r23 ++ (wsL_law_r24 ++ wsL_law_r25)))))))))))))))))))))))) ++ wsX10 ++ wsX20 ++ wsX00 ++ ([] : List Cond)
theorem inlX0 : ∀ w ∈ wsX00, w ∈ wsL_law := fun _ h => List.mem_append_left _ (List.mem_append_right _ h)
theorem inlX1 : ∀ w ∈ wsX10, w ∈ wsL_law := fun _ h => List.mem_append_left _ (List.mem_append_left _ (List.mem_append_left _ (List.mem_append_right _ h)))
theorem inlX2 : ∀ w ∈ wsX20, w ∈ wsL_law := fun _ h => List.mem_append_left _ (List.mem_append_left _ (List.mem_append_right _ h))
theorem inJ13 : ∀ w ∈ wsJ130, w ∈ lw_tbl := by decide +kernel
theorem inJ9 : ∀ w ∈ wsJ90, w ∈ lw_tbl := by decide +kernel
theorem dX0_init_0 : decode cX0_init 0 = .ok (.aload_n 0, 1) := by decide +kernel
theorem dX0_init_1 : decode cX0_init 1 = .ok (.invokespecial 3, 3) := by decide +kernel
theorem dX0_init_4 : decode cX0_init 4 = .ok (.aload_n 0, 1) := by decide +kernel
theorem dX0_init_5 : decode cX0_init 5 = .ok (.bipush 24, 2) := by decide +kernel
theorem dX0_init_7 : decode cX0_init 7 = .ok (.newarray .int, 2) := by decide +kernel
theorem dX0_init_9 : decode cX0_init 9 = .ok (.putfield 9, 3) := by decide +kernel
theorem dX0_init_12 : decode cX0_init 12 = .ok (.aload_n 0, 1) := by decide +kernel
theorem dX0_init_13 : decode cX0_init 13 = .ok (.bipush 24, 2) := by decide +kernel
theorem dX0_init_15 : decode cX0_init 15 = .ok (.newarray .int, 2) := by decide +kernel
theorem dX0_init_17 : decode cX0_init 17 = .ok (.putfield 15, 3) := by decide +kernel
theorem dX0_init_20 : decode cX0_init 20 = .ok (.aload_n 0, 1) := by decide +kernel
theorem dX0_init_21 : decode cX0_init 21 = .ok (.iconst 0, 1) := by decide +kernel
theorem dX0_init_22 : decode cX0_init 22 = .ok (.putfield 18, 3) := by decide +kernel
theorem dX0_init_25 : decode cX0_init 25 = .ok (.return_, 1) := by decide +kernel
theorem dX0_has_0 : decode cX0_has 0 = .ok (.iload_n 1, 1) := by decide +kernel
theorem dX0_has_1 : decode cX0_has 1 = .ok (.ifCond .lt 15, 3) := by decide +kernel
theorem dX0_has_4 : decode cX0_has 4 = .ok (.iload_n 1, 1) := by decide +kernel
theorem dX0_has_5 : decode cX0_has 5 = .ok (.aload_n 0, 1) := by decide +kernel
theorem dX0_has_6 : decode cX0_has 6 = .ok (.getfield 18, 3) := by decide +kernel
theorem dX0_has_9 : decode cX0_has 9 = .ok (.if_icmp .ge 7, 3) := by decide +kernel
theorem dX0_has_12 : decode cX0_has 12 = .ok (.iconst 1, 1) := by decide +kernel
theorem dX0_has_13 : decode cX0_has 13 = .ok (.goto 4, 3) := by decide +kernel
theorem dX0_has_16 : decode cX0_has 16 = .ok (.iconst 0, 1) := by decide +kernel
theorem dX0_has_17 : decode cX0_has 17 = .ok (.ireturn, 1) := by decide +kernel
theorem dX0_closed_0 : decode cX0_closed 0 = .ok (.aload_n 0, 1) := by decide +kernel
theorem dX0_closed_1 : decode cX0_closed 1 = .ok (.getfield 18, 3) := by decide +kernel
theorem dX0_closed_4 : decode cX0_closed 4 = .ok (.iconst 3, 1) := by decide +kernel
theorem dX0_closed_5 : decode cX0_closed 5 = .ok (.if_icmp .lt 7, 3) := by decide +kernel
theorem dX0_closed_8 : decode cX0_closed 8 = .ok (.iconst 1, 1) := by decide +kernel
theorem dX0_closed_9 : decode cX0_closed 9 = .ok (.goto 4, 3) := by decide +kernel
theorem dX0_closed_12 : decode cX0_closed 12 = .ok (.iconst 0, 1) := by decide +kernel
theorem dX0_closed_13 : decode cX0_closed 13 = .ok (.ireturn, 1) := by decide +kernel
theorem dX0_x_0 : decode cX0_x 0 = .ok (.iload_n 1, 1) := by decide +kernel
theorem dX0_x_1 : decode cX0_x 1 = .ok (.ifCond .lt 21, 3) := by decide +kernel
theorem dX0_x_4 : decode cX0_x 4 = .ok (.iload_n 1, 1) := by decide +kernel
theorem dX0_x_5 : decode cX0_x 5 = .ok (.aload_n 0, 1) := by decide +kernel
theorem dX0_x_6 : decode cX0_x 6 = .ok (.getfield 9, 3) := by decide +kernel
theorem dX0_x_9 : decode cX0_x 9 = .ok (.arraylength, 1) := by decide +kernel
theorem dX0_x_10 : decode cX0_x 10 = .ok (.if_icmp .ge 12, 3) := by decide +kernel
theorem dX0_x_13 : decode cX0_x 13 = .ok (.aload_n 0, 1) := by decide +kernel
theorem dX0_x_14 : decode cX0_x 14 = .ok (.getfield 9, 3) := by decide +kernel
theorem dX0_x_17 : decode cX0_x 17 = .ok (.iload_n 1, 1) := by decide +kernel
theorem dX0_x_18 : decode cX0_x 18 = .ok (.iaload, 1) := by decide +kernel
theorem dX0_x_19 : decode cX0_x 19 = .ok (.goto 4, 3) := by decide +kernel
theorem dX0_x_22 : decode cX0_x 22 = .ok (.iconst 0, 1) := by decide +kernel
theorem dX0_x_23 : decode cX0_x 23 = .ok (.ireturn, 1) := by decide +kernel
theorem dX0_y_0 : decode cX0_y 0 = .ok (.iload_n 1, 1) := by decide +kernel
theorem dX0_y_1 : decode cX0_y 1 = .ok (.ifCond .lt 21, 3) := by decide +kernel
theorem dX0_y_4 : decode cX0_y 4 = .ok (.iload_n 1, 1) := by decide +kernel
theorem dX0_y_5 : decode cX0_y 5 = .ok (.aload_n 0, 1) := by decide +kernel
theorem dX0_y_6 : decode cX0_y 6 = .ok (.getfield 15, 3) := by decide +kernel
theorem dX0_y_9 : decode cX0_y 9 = .ok (.arraylength, 1) := by decide +kernel
theorem dX0_y_10 : decode cX0_y 10 = .ok (.if_icmp .ge 12, 3) := by decide +kernel
theorem dX0_y_13 : decode cX0_y 13 = .ok (.aload_n 0, 1) := by decide +kernel
theorem dX0_y_14 : decode cX0_y 14 = .ok (.getfield 15, 3) := by decide +kernel
theorem dX0_y_17 : decode cX0_y 17 = .ok (.iload_n 1, 1) := by decide +kernel
theorem dX0_y_18 : decode cX0_y 18 = .ok (.iaload, 1) := by decide +kernel
theorem dX0_y_19 : decode cX0_y 19 = .ok (.goto 4, 3) := by decide +kernel
theorem dX0_y_22 : decode cX0_y 22 = .ok (.iconst 0, 1) := by decide +kernel
theorem dX0_y_23 : decode cX0_y 23 = .ok (.ireturn, 1) := by decide +kernel
theorem dX0_next_0 : decode cX0_next 0 = .ok (.iload_n 1, 1) := by decide +kernel
theorem dX0_next_1 : decode cX0_next 1 = .ok (.iconst 1, 1) := by decide +kernel
theorem dX0_next_2 : decode cX0_next 2 = .ok (.iadd, 1) := by decide +kernel
theorem dX0_next_3 : decode cX0_next 3 = .ok (.aload_n 0, 1) := by decide +kernel
theorem dX0_next_4 : decode cX0_next 4 = .ok (.getfield 18, 3) := by decide +kernel
theorem dX0_next_7 : decode cX0_next 7 = .ok (.if_icmp .ge 9, 3) := by decide +kernel
theorem dX0_next_10 : decode cX0_next 10 = .ok (.iload_n 1, 1) := by decide +kernel
theorem dX0_next_11 : decode cX0_next 11 = .ok (.iconst 1, 1) := by decide +kernel
theorem dX0_next_12 : decode cX0_next 12 = .ok (.iadd, 1) := by decide +kernel
theorem dX0_next_13 : decode cX0_next 13 = .ok (.goto 4, 3) := by decide +kernel
theorem dX0_next_16 : decode cX0_next 16 = .ok (.iconst 0, 1) := by decide +kernel
theorem dX0_next_17 : decode cX0_next 17 = .ok (.ireturn, 1) := by decide +kernel
theorem dX0_put_0 : decode cX0_put 0 = .ok (.iload_n 1, 1) := by decide +kernel
theorem dX0_put_1 : decode cX0_put 1 = .ok (.ifCond .lt 35, 3) := by decide +kernel
theorem dX0_put_4 : decode cX0_put 4 = .ok (.iload_n 1, 1) := by decide +kernel
theorem dX0_put_5 : decode cX0_put 5 = .ok (.aload_n 0, 1) := by decide +kernel
theorem dX0_put_6 : decode cX0_put 6 = .ok (.getfield 9, 3) := by decide +kernel
theorem dX0_put_9 : decode cX0_put 9 = .ok (.arraylength, 1) := by decide +kernel
theorem dX0_put_10 : decode cX0_put 10 = .ok (.if_icmp .ge 26, 3) := by decide +kernel
theorem dX0_put_13 : decode cX0_put 13 = .ok (.iload_n 1, 1) := by decide +kernel
theorem dX0_put_14 : decode cX0_put 14 = .ok (.aload_n 0, 1) := by decide +kernel
theorem dX0_put_15 : decode cX0_put 15 = .ok (.getfield 15, 3) := by decide +kernel
theorem dX0_put_18 : decode cX0_put 18 = .ok (.arraylength, 1) := by decide +kernel
theorem dX0_put_19 : decode cX0_put 19 = .ok (.if_icmp .ge 17, 3) := by decide +kernel
theorem dX0_put_22 : decode cX0_put 22 = .ok (.aload_n 0, 1) := by decide +kernel
theorem dX0_put_23 : decode cX0_put 23 = .ok (.getfield 9, 3) := by decide +kernel
theorem dX0_put_26 : decode cX0_put 26 = .ok (.iload_n 1, 1) := by decide +kernel
theorem dX0_put_27 : decode cX0_put 27 = .ok (.iload_n 2, 1) := by decide +kernel
theorem dX0_put_28 : decode cX0_put 28 = .ok (.iastore, 1) := by decide +kernel
theorem dX0_put_29 : decode cX0_put 29 = .ok (.aload_n 0, 1) := by decide +kernel
theorem dX0_put_30 : decode cX0_put 30 = .ok (.getfield 15, 3) := by decide +kernel
theorem dX0_put_33 : decode cX0_put 33 = .ok (.iload_n 1, 1) := by decide +kernel
theorem dX0_put_34 : decode cX0_put 34 = .ok (.iload_n 3, 1) := by decide +kernel
theorem dX0_put_35 : decode cX0_put 35 = .ok (.iastore, 1) := by decide +kernel
theorem dX0_put_36 : decode cX0_put 36 = .ok (.return_, 1) := by decide +kernel
set_option maxRecDepth 20000 in
theorem ggX0_add_X0_put : GoodIn wsX0_add wsX0_put := goodIn_r _ [6, 7, 8, 9, 10, 11] (by decide +kernel) (by decide +kernel)
set_option maxRecDepth 20000 in
theorem gX0_add_X0_put : GoodIn wsX0_add (wsV RX0 22 RX0 yX0_put wsX0_put) := goodIn_app (goodIn_of _ (by decide +kernel)) ggX0_add_X0_put
theorem dX0_add_0 : decode cX0_add 0 = .ok (.aload_n 0, 1) := by decide +kernel
theorem dX0_add_1 : decode cX0_add 1 = .ok (.getfield 18, 3) := by decide +kernel
theorem dX0_add_4 : decode cX0_add 4 = .ok (.bipush 24, 2) := by decide +kernel
theorem dX0_add_6 : decode cX0_add 6 = .ok (.if_icmp .ge 23, 3) := by decide +kernel
theorem dX0_add_9 : decode cX0_add 9 = .ok (.aload_n 0, 1) := by decide +kernel
theorem dX0_add_10 : decode cX0_add 10 = .ok (.aload_n 0, 1) := by decide +kernel
theorem dX0_add_11 : decode cX0_add 11 = .ok (.getfield 18, 3) := by decide +kernel
theorem dX0_add_14 : decode cX0_add 14 = .ok (.iload_n 1, 1) := by decide +kernel
theorem dX0_add_15 : decode cX0_add 15 = .ok (.iload_n 2, 1) := by decide +kernel
theorem dX0_add_16 : decode cX0_add 16 = .ok (.invokevirtual 22, 3) := by decide +kernel
theorem dX0_add_19 : decode cX0_add 19 = .ok (.aload_n 0, 1) := by decide +kernel
theorem dX0_add_20 : decode cX0_add 20 = .ok (.dup, 1) := by decide +kernel
theorem dX0_add_21 : decode cX0_add 21 = .ok (.getfield 18, 3) := by decide +kernel
theorem dX0_add_24 : decode cX0_add 24 = .ok (.iconst 1, 1) := by decide +kernel
theorem dX0_add_25 : decode cX0_add 25 = .ok (.iadd, 1) := by decide +kernel
theorem dX0_add_26 : decode cX0_add 26 = .ok (.putfield 18, 3) := by decide +kernel
theorem dX0_add_29 : decode cX0_add 29 = .ok (.return_, 1) := by decide +kernel
set_option maxRecDepth 20000 in
theorem ggX0_become_X0_x : GoodIn wsX0_become wsX0_x := goodIn_r _ [6, 7, 21, 22, 23] (by decide +kernel) (by decide +kernel)
set_option maxRecDepth 20000 in
theorem gX0_become_X0_x : GoodIn wsX0_become (wsV RX0 26 RX0 yX0_x wsX0_x) := goodIn_app (goodIn_of _ (by decide +kernel)) ggX0_become_X0_x
set_option maxRecDepth 20000 in
theorem ggX0_become_X0_y : GoodIn wsX0_become wsX0_y := goodIn_r _ [11, 12, 21, 22, 23] (by decide +kernel) (by decide +kernel)
set_option maxRecDepth 20000 in
theorem gX0_become_X0_y : GoodIn wsX0_become (wsV RX0 30 RX0 yX0_y wsX0_y) := goodIn_app (goodIn_of _ (by decide +kernel)) ggX0_become_X0_y
set_option maxRecDepth 20000 in
theorem ggX0_become_X0_add : GoodIn wsX0_become wsX0_add := goodIn_r _ [16, 1, 17, 18, 19, 5, 20, 7, 12, 21, 22, 23] (by decide +kernel) (by decide +kernel)
set_option maxRecDepth 20000 in
theorem gX0_become_X0_add : GoodIn wsX0_become (wsV RX0 33 RX0 yX0_add wsX0_add) := goodIn_app (goodIn_of _ (by decide +kernel)) ggX0_become_X0_add
theorem dX0_become_0 : decode cX0_become 0 = .ok (.aload_n 0, 1) := by decide +kernel
theorem dX0_become_1 : decode cX0_become 1 = .ok (.iconst 0, 1) := by decide +kernel
theorem dX0_become_2 : decode cX0_become 2 = .ok (.putfield 18, 3) := by decide +kernel
theorem dX0_become_5 : decode cX0_become 5 = .ok (.iconst 0, 1) := by decide +kernel
theorem dX0_become_6 : decode cX0_become 6 = .ok (.istore_n 2, 1) := by decide +kernel
theorem dX0_become_7 : decode cX0_become 7 = .ok (.iload_n 2, 1) := by decide +kernel
theorem dX0_become_8 : decode cX0_become 8 = .ok (.aload_n 1, 1) := by decide +kernel
theorem dX0_become_9 : decode cX0_become 9 = .ok (.getfield 18, 3) := by decide +kernel
theorem dX0_become_12 : decode cX0_become 12 = .ok (.if_icmp .ge 23, 3) := by decide +kernel
theorem dX0_become_15 : decode cX0_become 15 = .ok (.aload_n 0, 1) := by decide +kernel
theorem dX0_become_16 : decode cX0_become 16 = .ok (.aload_n 1, 1) := by decide +kernel
theorem dX0_become_17 : decode cX0_become 17 = .ok (.iload_n 2, 1) := by decide +kernel
theorem dX0_become_18 : decode cX0_become 18 = .ok (.invokevirtual 26, 3) := by decide +kernel
theorem dX0_become_21 : decode cX0_become 21 = .ok (.aload_n 1, 1) := by decide +kernel
theorem dX0_become_22 : decode cX0_become 22 = .ok (.iload_n 2, 1) := by decide +kernel
theorem dX0_become_23 : decode cX0_become 23 = .ok (.invokevirtual 30, 3) := by decide +kernel
theorem dX0_become_26 : decode cX0_become 26 = .ok (.invokevirtual 33, 3) := by decide +kernel
theorem dX0_become_29 : decode cX0_become 29 = .ok (.iinc 2 1, 3) := by decide +kernel
theorem dX0_become_32 : decode cX0_become 32 = .ok (.goto (-25), 3) := by decide +kernel
theorem dX0_become_35 : decode cX0_become 35 = .ok (.return_, 1) := by decide +kernel
set_option maxRecDepth 20000 in
theorem ggX0_turn_X0_x : GoodIn wsX0_turn wsX0_x := goodIn_r _ [6, 7, 17, 18, 19] (by decide +kernel) (by decide +kernel)
set_option maxRecDepth 20000 in
theorem gX0_turn_X0_x : GoodIn wsX0_turn (wsV RX0 26 RX0 yX0_x wsX0_x) := goodIn_app (goodIn_of _ (by decide +kernel)) ggX0_turn_X0_x
set_option maxRecDepth 20000 in
theorem ggX0_turn_X0_y : GoodIn wsX0_turn wsX0_y := goodIn_r _ [11, 12, 17, 18, 19] (by decide +kernel) (by decide +kernel)
set_option maxRecDepth 20000 in
theorem gX0_turn_X0_y : GoodIn wsX0_turn (wsV RX0 30 RX0 yX0_y wsX0_y) := goodIn_app (goodIn_of _ (by decide +kernel)) ggX0_turn_X0_y
set_option maxRecDepth 20000 in
theorem ggX0_turn_X0_put : GoodIn wsX0_turn wsX0_put := goodIn_r _ [16, 7, 12, 17, 18, 19] (by decide +kernel) (by decide +kernel)
set_option maxRecDepth 20000 in
theorem gX0_turn_X0_put : GoodIn wsX0_turn (wsV RX0 22 RX0 yX0_put wsX0_put) := goodIn_app (goodIn_of _ (by decide +kernel)) ggX0_turn_X0_put
theorem dX0_turn_0 : decode cX0_turn 0 = .ok (.iconst 1, 1) := by decide +kernel
theorem dX0_turn_1 : decode cX0_turn 1 = .ok (.istore_n 1, 1) := by decide +kernel
theorem dX0_turn_2 : decode cX0_turn 2 = .ok (.iload_n 1, 1) := by decide +kernel
theorem dX0_turn_3 : decode cX0_turn 3 = .ok (.aload_n 0, 1) := by decide +kernel
theorem dX0_turn_4 : decode cX0_turn 4 = .ok (.getfield 18, 3) := by decide +kernel
theorem dX0_turn_7 : decode cX0_turn 7 = .ok (.iload_n 1, 1) := by decide +kernel
theorem dX0_turn_8 : decode cX0_turn 8 = .ok (.isub, 1) := by decide +kernel
theorem dX0_turn_9 : decode cX0_turn 9 = .ok (.if_icmp .ge 52, 3) := by decide +kernel
theorem dX0_turn_12 : decode cX0_turn 12 = .ok (.aload_n 0, 1) := by decide +kernel
theorem dX0_turn_13 : decode cX0_turn 13 = .ok (.getfield 18, 3) := by decide +kernel
theorem dX0_turn_16 : decode cX0_turn 16 = .ok (.iload_n 1, 1) := by decide +kernel
theorem dX0_turn_17 : decode cX0_turn 17 = .ok (.isub, 1) := by decide +kernel
theorem dX0_turn_18 : decode cX0_turn 18 = .ok (.istore_n 2, 1) := by decide +kernel
theorem dX0_turn_19 : decode cX0_turn 19 = .ok (.aload_n 0, 1) := by decide +kernel
theorem dX0_turn_20 : decode cX0_turn 20 = .ok (.iload_n 1, 1) := by decide +kernel
theorem dX0_turn_21 : decode cX0_turn 21 = .ok (.invokevirtual 26, 3) := by decide +kernel
theorem dX0_turn_24 : decode cX0_turn 24 = .ok (.istore_n 3, 1) := by decide +kernel
theorem dX0_turn_25 : decode cX0_turn 25 = .ok (.aload_n 0, 1) := by decide +kernel
theorem dX0_turn_26 : decode cX0_turn 26 = .ok (.iload_n 1, 1) := by decide +kernel
theorem dX0_turn_27 : decode cX0_turn 27 = .ok (.invokevirtual 30, 3) := by decide +kernel
theorem dX0_turn_30 : decode cX0_turn 30 = .ok (.istore 4, 2) := by decide +kernel
theorem dX0_turn_32 : decode cX0_turn 32 = .ok (.aload_n 0, 1) := by decide +kernel
theorem dX0_turn_33 : decode cX0_turn 33 = .ok (.iload_n 1, 1) := by decide +kernel
theorem dX0_turn_34 : decode cX0_turn 34 = .ok (.aload_n 0, 1) := by decide +kernel
theorem dX0_turn_35 : decode cX0_turn 35 = .ok (.iload_n 2, 1) := by decide +kernel
theorem dX0_turn_36 : decode cX0_turn 36 = .ok (.invokevirtual 26, 3) := by decide +kernel
theorem dX0_turn_39 : decode cX0_turn 39 = .ok (.aload_n 0, 1) := by decide +kernel
theorem dX0_turn_40 : decode cX0_turn 40 = .ok (.iload_n 2, 1) := by decide +kernel
theorem dX0_turn_41 : decode cX0_turn 41 = .ok (.invokevirtual 30, 3) := by decide +kernel
theorem dX0_turn_44 : decode cX0_turn 44 = .ok (.invokevirtual 22, 3) := by decide +kernel
theorem dX0_turn_47 : decode cX0_turn 47 = .ok (.aload_n 0, 1) := by decide +kernel
theorem dX0_turn_48 : decode cX0_turn 48 = .ok (.iload_n 2, 1) := by decide +kernel
theorem dX0_turn_49 : decode cX0_turn 49 = .ok (.iload_n 3, 1) := by decide +kernel
theorem dX0_turn_50 : decode cX0_turn 50 = .ok (.iload 4, 2) := by decide +kernel
theorem dX0_turn_52 : decode cX0_turn 52 = .ok (.invokevirtual 22, 3) := by decide +kernel
theorem dX0_turn_55 : decode cX0_turn 55 = .ok (.iinc 1 1, 3) := by decide +kernel
theorem dX0_turn_58 : decode cX0_turn 58 = .ok (.goto (-56), 3) := by decide +kernel
theorem dX0_turn_61 : decode cX0_turn 61 = .ok (.return_, 1) := by decide +kernel
set_option maxRecDepth 20000 in
theorem ggX0_doubleArea_X0_next : GoodIn wsX0_doubleArea wsX0_next := goodIn_r _ [6, 1, 17, 18, 19] (by decide +kernel) (by decide +kernel)
set_option maxRecDepth 20000 in
theorem gX0_doubleArea_X0_next : GoodIn wsX0_doubleArea (wsV RX0 37 RX0 yX0_next wsX0_next) := goodIn_app (goodIn_of _ (by decide +kernel)) ggX0_doubleArea_X0_next
set_option maxRecDepth 20000 in
theorem ggX0_doubleArea_X0_x : GoodIn wsX0_doubleArea wsX0_x := goodIn_r _ [10, 11, 17, 18, 19] (by decide +kernel) (by decide +kernel)
set_option maxRecDepth 20000 in
theorem gX0_doubleArea_X0_x : GoodIn wsX0_doubleArea (wsV RX0 26 RX0 yX0_x wsX0_x) := goodIn_app (goodIn_of _ (by decide +kernel)) ggX0_doubleArea_X0_x
set_option maxRecDepth 20000 in
theorem ggX0_doubleArea_X0_y : GoodIn wsX0_doubleArea wsX0_y := goodIn_r _ [15, 16, 17, 18, 19] (by decide +kernel) (by decide +kernel)
set_option maxRecDepth 20000 in
theorem gX0_doubleArea_X0_y : GoodIn wsX0_doubleArea (wsV RX0 30 RX0 yX0_y wsX0_y) := goodIn_app (goodIn_of _ (by decide +kernel)) ggX0_doubleArea_X0_y
theorem dX0_doubleArea_0 : decode cX0_doubleArea 0 = .ok (.lconst 0, 1) := by decide +kernel
theorem dX0_doubleArea_1 : decode cX0_doubleArea 1 = .ok (.lstore_n 1, 1) := by decide +kernel
theorem dX0_doubleArea_2 : decode cX0_doubleArea 2 = .ok (.iconst 0, 1) := by decide +kernel
theorem dX0_doubleArea_3 : decode cX0_doubleArea 3 = .ok (.istore_n 3, 1) := by decide +kernel
theorem dX0_doubleArea_4 : decode cX0_doubleArea 4 = .ok (.iload_n 3, 1) := by decide +kernel
theorem dX0_doubleArea_5 : decode cX0_doubleArea 5 = .ok (.aload_n 0, 1) := by decide +kernel
theorem dX0_doubleArea_6 : decode cX0_doubleArea 6 = .ok (.getfield 18, 3) := by decide +kernel
theorem dX0_doubleArea_9 : decode cX0_doubleArea 9 = .ok (.if_icmp .ge 45, 3) := by decide +kernel
theorem dX0_doubleArea_12 : decode cX0_doubleArea 12 = .ok (.aload_n 0, 1) := by decide +kernel
theorem dX0_doubleArea_13 : decode cX0_doubleArea 13 = .ok (.iload_n 3, 1) := by decide +kernel
theorem dX0_doubleArea_14 : decode cX0_doubleArea 14 = .ok (.invokevirtual 37, 3) := by decide +kernel
theorem dX0_doubleArea_17 : decode cX0_doubleArea 17 = .ok (.istore 4, 2) := by decide +kernel
theorem dX0_doubleArea_19 : decode cX0_doubleArea 19 = .ok (.lload_n 1, 1) := by decide +kernel
theorem dX0_doubleArea_20 : decode cX0_doubleArea 20 = .ok (.aload_n 0, 1) := by decide +kernel
theorem dX0_doubleArea_21 : decode cX0_doubleArea 21 = .ok (.iload_n 3, 1) := by decide +kernel
theorem dX0_doubleArea_22 : decode cX0_doubleArea 22 = .ok (.invokevirtual 26, 3) := by decide +kernel
theorem dX0_doubleArea_25 : decode cX0_doubleArea 25 = .ok (.aload_n 0, 1) := by decide +kernel
theorem dX0_doubleArea_26 : decode cX0_doubleArea 26 = .ok (.iload 4, 2) := by decide +kernel
theorem dX0_doubleArea_28 : decode cX0_doubleArea 28 = .ok (.invokevirtual 30, 3) := by decide +kernel
theorem dX0_doubleArea_31 : decode cX0_doubleArea 31 = .ok (.imul, 1) := by decide +kernel
theorem dX0_doubleArea_32 : decode cX0_doubleArea 32 = .ok (.aload_n 0, 1) := by decide +kernel
theorem dX0_doubleArea_33 : decode cX0_doubleArea 33 = .ok (.iload 4, 2) := by decide +kernel
theorem dX0_doubleArea_35 : decode cX0_doubleArea 35 = .ok (.invokevirtual 26, 3) := by decide +kernel
theorem dX0_doubleArea_38 : decode cX0_doubleArea 38 = .ok (.aload_n 0, 1) := by decide +kernel
theorem dX0_doubleArea_39 : decode cX0_doubleArea 39 = .ok (.iload_n 3, 1) := by decide +kernel
theorem dX0_doubleArea_40 : decode cX0_doubleArea 40 = .ok (.invokevirtual 30, 3) := by decide +kernel
theorem dX0_doubleArea_43 : decode cX0_doubleArea 43 = .ok (.imul, 1) := by decide +kernel
theorem dX0_doubleArea_44 : decode cX0_doubleArea 44 = .ok (.isub, 1) := by decide +kernel
theorem dX0_doubleArea_45 : decode cX0_doubleArea 45 = .ok (.i2l, 1) := by decide +kernel
theorem dX0_doubleArea_46 : decode cX0_doubleArea 46 = .ok (.ladd, 1) := by decide +kernel
theorem dX0_doubleArea_47 : decode cX0_doubleArea 47 = .ok (.lstore_n 1, 1) := by decide +kernel
theorem dX0_doubleArea_48 : decode cX0_doubleArea 48 = .ok (.iinc 3 1, 3) := by decide +kernel
theorem dX0_doubleArea_51 : decode cX0_doubleArea 51 = .ok (.goto (-47), 3) := by decide +kernel
theorem dX0_doubleArea_54 : decode cX0_doubleArea 54 = .ok (.lload_n 1, 1) := by decide +kernel
theorem dX0_doubleArea_55 : decode cX0_doubleArea 55 = .ok (.lreturn, 1) := by decide +kernel
set_option maxRecDepth 20000 in
theorem ggX0_alongX_X0_next : GoodIn wsX0_alongX wsX0_next := goodIn_r _ [5, 6, 20, 21, 22] (by decide +kernel) (by decide +kernel)
set_option maxRecDepth 20000 in
theorem gX0_alongX_X0_next : GoodIn wsX0_alongX (wsV RX0 37 RX0 yX0_next wsX0_next) := goodIn_app (goodIn_of _ (by decide +kernel)) ggX0_alongX_X0_next
set_option maxRecDepth 20000 in
theorem ggX0_alongX_X0_x : GoodIn wsX0_alongX wsX0_x := goodIn_r _ [10, 11, 20, 21, 22] (by decide +kernel) (by decide +kernel)
set_option maxRecDepth 20000 in
theorem gX0_alongX_X0_x : GoodIn wsX0_alongX (wsV RX0 26 RX0 yX0_x wsX0_x) := goodIn_app (goodIn_of _ (by decide +kernel)) ggX0_alongX_X0_x
set_option maxRecDepth 20000 in
theorem ggX0_alongX_X0_y : GoodIn wsX0_alongX wsX0_y := goodIn_r _ [15, 16, 20, 21, 22] (by decide +kernel) (by decide +kernel)
set_option maxRecDepth 20000 in
theorem gX0_alongX_X0_y : GoodIn wsX0_alongX (wsV RX0 30 RX0 yX0_y wsX0_y) := goodIn_app (goodIn_of _ (by decide +kernel)) ggX0_alongX_X0_y
set_option maxRecDepth 20000 in
theorem ggX0_alongX_X0_mixedPowers : GoodIn wsX0_alongX wsX0_mixedPowers := goodIn_r _ [19] (by decide +kernel) (by decide +kernel)
set_option maxRecDepth 20000 in
theorem gX0_alongX_X0_mixedPowers : GoodIn wsX0_alongX (va_wsS RX0 40 yX0_mixedPowers wsX0_mixedPowers) := goodIn_app (goodIn_of _ (by decide +kernel)) ggX0_alongX_X0_mixedPowers
theorem dX0_alongX_0 : decode cX0_alongX 0 = .ok (.lconst 0, 1) := by decide +kernel
theorem dX0_alongX_1 : decode cX0_alongX 1 = .ok (.lstore_n 3, 1) := by decide +kernel
theorem dX0_alongX_2 : decode cX0_alongX 2 = .ok (.iconst 0, 1) := by decide +kernel
theorem dX0_alongX_3 : decode cX0_alongX 3 = .ok (.istore 5, 2) := by decide +kernel
theorem dX0_alongX_5 : decode cX0_alongX 5 = .ok (.iload 5, 2) := by decide +kernel
theorem dX0_alongX_7 : decode cX0_alongX 7 = .ok (.iload_n 2, 1) := by decide +kernel
theorem dX0_alongX_8 : decode cX0_alongX 8 = .ok (.if_icmp .ge 53, 3) := by decide +kernel
theorem dX0_alongX_11 : decode cX0_alongX 11 = .ok (.aload_n 0, 1) := by decide +kernel
theorem dX0_alongX_12 : decode cX0_alongX 12 = .ok (.iload 5, 2) := by decide +kernel
theorem dX0_alongX_14 : decode cX0_alongX 14 = .ok (.invokevirtual 37, 3) := by decide +kernel
theorem dX0_alongX_17 : decode cX0_alongX 17 = .ok (.istore 6, 2) := by decide +kernel
theorem dX0_alongX_19 : decode cX0_alongX 19 = .ok (.lload_n 3, 1) := by decide +kernel
theorem dX0_alongX_20 : decode cX0_alongX 20 = .ok (.aload_n 0, 1) := by decide +kernel
theorem dX0_alongX_21 : decode cX0_alongX 21 = .ok (.iload 6, 2) := by decide +kernel
theorem dX0_alongX_23 : decode cX0_alongX 23 = .ok (.invokevirtual 26, 3) := by decide +kernel
theorem dX0_alongX_26 : decode cX0_alongX 26 = .ok (.aload_n 0, 1) := by decide +kernel
theorem dX0_alongX_27 : decode cX0_alongX 27 = .ok (.iload 5, 2) := by decide +kernel
theorem dX0_alongX_29 : decode cX0_alongX 29 = .ok (.invokevirtual 26, 3) := by decide +kernel
theorem dX0_alongX_32 : decode cX0_alongX 32 = .ok (.isub, 1) := by decide +kernel
theorem dX0_alongX_33 : decode cX0_alongX 33 = .ok (.i2l, 1) := by decide +kernel
theorem dX0_alongX_34 : decode cX0_alongX 34 = .ok (.aload_n 0, 1) := by decide +kernel
theorem dX0_alongX_35 : decode cX0_alongX 35 = .ok (.iload 5, 2) := by decide +kernel
theorem dX0_alongX_37 : decode cX0_alongX 37 = .ok (.invokevirtual 30, 3) := by decide +kernel
theorem dX0_alongX_40 : decode cX0_alongX 40 = .ok (.i2l, 1) := by decide +kernel
theorem dX0_alongX_41 : decode cX0_alongX 41 = .ok (.aload_n 0, 1) := by decide +kernel
theorem dX0_alongX_42 : decode cX0_alongX 42 = .ok (.iload 6, 2) := by decide +kernel
theorem dX0_alongX_44 : decode cX0_alongX 44 = .ok (.invokevirtual 30, 3) := by decide +kernel
theorem dX0_alongX_47 : decode cX0_alongX 47 = .ok (.i2l, 1) := by decide +kernel
theorem dX0_alongX_48 : decode cX0_alongX 48 = .ok (.iload_n 1, 1) := by decide +kernel
theorem dX0_alongX_49 : decode cX0_alongX 49 = .ok (.invokestatic 40, 3) := by decide +kernel
theorem dX0_alongX_52 : decode cX0_alongX 52 = .ok (.lmul, 1) := by decide +kernel
theorem dX0_alongX_53 : decode cX0_alongX 53 = .ok (.ladd, 1) := by decide +kernel
theorem dX0_alongX_54 : decode cX0_alongX 54 = .ok (.lstore_n 3, 1) := by decide +kernel
theorem dX0_alongX_55 : decode cX0_alongX 55 = .ok (.iinc 5 1, 3) := by decide +kernel
theorem dX0_alongX_58 : decode cX0_alongX 58 = .ok (.goto (-53), 3) := by decide +kernel
theorem dX0_alongX_61 : decode cX0_alongX 61 = .ok (.lload_n 3, 1) := by decide +kernel
theorem dX0_alongX_62 : decode cX0_alongX 62 = .ok (.lreturn, 1) := by decide +kernel
theorem dX0_mixedPowers_0 : decode cX0_mixedPowers 0 = .ok (.lconst 1, 1) := by decide +kernel
theorem dX0_mixedPowers_1 : decode cX0_mixedPowers 1 = .ok (.lstore 5, 2) := by decide +kernel
theorem dX0_mixedPowers_3 : decode cX0_mixedPowers 3 = .ok (.lconst 1, 1) := by decide +kernel
theorem dX0_mixedPowers_4 : decode cX0_mixedPowers 4 = .ok (.lstore 7, 2) := by decide +kernel
theorem dX0_mixedPowers_6 : decode cX0_mixedPowers 6 = .ok (.iconst 0, 1) := by decide +kernel
theorem dX0_mixedPowers_7 : decode cX0_mixedPowers 7 = .ok (.istore 9, 2) := by decide +kernel
theorem dX0_mixedPowers_9 : decode cX0_mixedPowers 9 = .ok (.iload 9, 2) := by decide +kernel
theorem dX0_mixedPowers_11 : decode cX0_mixedPowers 11 = .ok (.iload 4, 2) := by decide +kernel
theorem dX0_mixedPowers_13 : decode cX0_mixedPowers 13 = .ok (.if_icmp .ge 24, 3) := by decide +kernel
theorem dX0_mixedPowers_16 : decode cX0_mixedPowers 16 = .ok (.lload 7, 2) := by decide +kernel
theorem dX0_mixedPowers_18 : decode cX0_mixedPowers 18 = .ok (.lload_n 2, 1) := by decide +kernel
theorem dX0_mixedPowers_19 : decode cX0_mixedPowers 19 = .ok (.lmul, 1) := by decide +kernel
theorem dX0_mixedPowers_20 : decode cX0_mixedPowers 20 = .ok (.lstore 7, 2) := by decide +kernel
theorem dX0_mixedPowers_22 : decode cX0_mixedPowers 22 = .ok (.lload 5, 2) := by decide +kernel
theorem dX0_mixedPowers_24 : decode cX0_mixedPowers 24 = .ok (.lload_n 0, 1) := by decide +kernel
theorem dX0_mixedPowers_25 : decode cX0_mixedPowers 25 = .ok (.lmul, 1) := by decide +kernel
theorem dX0_mixedPowers_26 : decode cX0_mixedPowers 26 = .ok (.lload 7, 2) := by decide +kernel
theorem dX0_mixedPowers_28 : decode cX0_mixedPowers 28 = .ok (.ladd, 1) := by decide +kernel
theorem dX0_mixedPowers_29 : decode cX0_mixedPowers 29 = .ok (.lstore 5, 2) := by decide +kernel
theorem dX0_mixedPowers_31 : decode cX0_mixedPowers 31 = .ok (.iinc 9 1, 3) := by decide +kernel
theorem dX0_mixedPowers_34 : decode cX0_mixedPowers 34 = .ok (.goto (-25), 3) := by decide +kernel
theorem dX0_mixedPowers_37 : decode cX0_mixedPowers 37 = .ok (.lload 5, 2) := by decide +kernel
theorem dX0_mixedPowers_39 : decode cX0_mixedPowers 39 = .ok (.lreturn, 1) := by decide +kernel
set_option maxRecDepth 20000 in
theorem ggX0_staysNearer_X0_y : GoodIn wsX0_staysNearer wsX0_y := goodIn_r _ [10, 11, 12, 13, 14] (by decide +kernel) (by decide +kernel)
set_option maxRecDepth 20000 in
theorem gX0_staysNearer_X0_y : GoodIn wsX0_staysNearer (wsV RX0 30 RX0 yX0_y wsX0_y) := goodIn_app (goodIn_of _ (by decide +kernel)) ggX0_staysNearer_X0_y
theorem dX0_staysNearer_0 : decode cX0_staysNearer 0 = .ok (.iconst 0, 1) := by decide +kernel
theorem dX0_staysNearer_1 : decode cX0_staysNearer 1 = .ok (.istore_n 2, 1) := by decide +kernel
theorem dX0_staysNearer_2 : decode cX0_staysNearer 2 = .ok (.iload_n 2, 1) := by decide +kernel
theorem dX0_staysNearer_3 : decode cX0_staysNearer 3 = .ok (.aload_n 0, 1) := by decide +kernel
theorem dX0_staysNearer_4 : decode cX0_staysNearer 4 = .ok (.getfield 18, 3) := by decide +kernel
theorem dX0_staysNearer_7 : decode cX0_staysNearer 7 = .ok (.if_icmp .ge 23, 3) := by decide +kernel
theorem dX0_staysNearer_10 : decode cX0_staysNearer 10 = .ok (.aload_n 0, 1) := by decide +kernel
theorem dX0_staysNearer_11 : decode cX0_staysNearer 11 = .ok (.iload_n 2, 1) := by decide +kernel
theorem dX0_staysNearer_12 : decode cX0_staysNearer 12 = .ok (.invokevirtual 30, 3) := by decide +kernel
theorem dX0_staysNearer_15 : decode cX0_staysNearer 15 = .ok (.invokestatic 44, 3) := by decide +kernel
theorem dX0_staysNearer_18 : decode cX0_staysNearer 18 = .ok (.iload_n 1, 1) := by decide +kernel
theorem dX0_staysNearer_19 : decode cX0_staysNearer 19 = .ok (.if_icmp .lt 5, 3) := by decide +kernel
theorem dX0_staysNearer_22 : decode cX0_staysNearer 22 = .ok (.iconst 0, 1) := by decide +kernel
theorem dX0_staysNearer_23 : decode cX0_staysNearer 23 = .ok (.ireturn, 1) := by decide +kernel
theorem dX0_staysNearer_24 : decode cX0_staysNearer 24 = .ok (.iinc 2 1, 3) := by decide +kernel
theorem dX0_staysNearer_27 : decode cX0_staysNearer 27 = .ok (.goto (-25), 3) := by decide +kernel
theorem dX0_staysNearer_30 : decode cX0_staysNearer 30 = .ok (.iconst 1, 1) := by decide +kernel
theorem dX0_staysNearer_31 : decode cX0_staysNearer 31 = .ok (.ireturn, 1) := by decide +kernel
set_option maxRecDepth 20000 in
theorem ggX0_leftOf_X0_next : GoodIn wsX0_leftOf wsX0_next := goodIn_r _ [5, 6, 17, 18, 19] (by decide +kernel) (by decide +kernel)
set_option maxRecDepth 20000 in
theorem gX0_leftOf_X0_next : GoodIn wsX0_leftOf (wsV RX0 37 RX0 yX0_next wsX0_next) := goodIn_app (goodIn_of _ (by decide +kernel)) ggX0_leftOf_X0_next
set_option maxRecDepth 20000 in
theorem ggX0_leftOf_X0_x : GoodIn wsX0_leftOf wsX0_x := goodIn_r _ [10, 11, 17, 18, 19] (by decide +kernel) (by decide +kernel)
set_option maxRecDepth 20000 in
theorem gX0_leftOf_X0_x : GoodIn wsX0_leftOf (wsV RX0 26 RX0 yX0_x wsX0_x) := goodIn_app (goodIn_of _ (by decide +kernel)) ggX0_leftOf_X0_x
set_option maxRecDepth 20000 in
theorem ggX0_leftOf_X0_y : GoodIn wsX0_leftOf wsX0_y := goodIn_r _ [15, 16, 17, 18, 19] (by decide +kernel) (by decide +kernel)
set_option maxRecDepth 20000 in
theorem gX0_leftOf_X0_y : GoodIn wsX0_leftOf (wsV RX0 30 RX0 yX0_y wsX0_y) := goodIn_app (goodIn_of _ (by decide +kernel)) ggX0_leftOf_X0_y
theorem dX0_leftOf_0 : decode cX0_leftOf 0 = .ok (.aload_n 0, 1) := by decide +kernel
theorem dX0_leftOf_1 : decode cX0_leftOf 1 = .ok (.iload_n 1, 1) := by decide +kernel
theorem dX0_leftOf_2 : decode cX0_leftOf 2 = .ok (.invokevirtual 37, 3) := by decide +kernel
theorem dX0_leftOf_5 : decode cX0_leftOf 5 = .ok (.istore 6, 2) := by decide +kernel
theorem dX0_leftOf_7 : decode cX0_leftOf 7 = .ok (.aload_n 0, 1) := by decide +kernel
theorem dX0_leftOf_8 : decode cX0_leftOf 8 = .ok (.iload 6, 2) := by decide +kernel
theorem dX0_leftOf_10 : decode cX0_leftOf 10 = .ok (.invokevirtual 26, 3) := by decide +kernel
theorem dX0_leftOf_13 : decode cX0_leftOf 13 = .ok (.aload_n 0, 1) := by decide +kernel
theorem dX0_leftOf_14 : decode cX0_leftOf 14 = .ok (.iload_n 1, 1) := by decide +kernel
theorem dX0_leftOf_15 : decode cX0_leftOf 15 = .ok (.invokevirtual 26, 3) := by decide +kernel
theorem dX0_leftOf_18 : decode cX0_leftOf 18 = .ok (.isub, 1) := by decide +kernel
theorem dX0_leftOf_19 : decode cX0_leftOf 19 = .ok (.i2l, 1) := by decide +kernel
theorem dX0_leftOf_20 : decode cX0_leftOf 20 = .ok (.lload 4, 2) := by decide +kernel
theorem dX0_leftOf_22 : decode cX0_leftOf 22 = .ok (.aload_n 0, 1) := by decide +kernel
theorem dX0_leftOf_23 : decode cX0_leftOf 23 = .ok (.iload_n 1, 1) := by decide +kernel
theorem dX0_leftOf_24 : decode cX0_leftOf 24 = .ok (.invokevirtual 30, 3) := by decide +kernel
theorem dX0_leftOf_27 : decode cX0_leftOf 27 = .ok (.i2l, 1) := by decide +kernel
theorem dX0_leftOf_28 : decode cX0_leftOf 28 = .ok (.lsub, 1) := by decide +kernel
theorem dX0_leftOf_29 : decode cX0_leftOf 29 = .ok (.lmul, 1) := by decide +kernel
theorem dX0_leftOf_30 : decode cX0_leftOf 30 = .ok (.lload_n 2, 1) := by decide +kernel
theorem dX0_leftOf_31 : decode cX0_leftOf 31 = .ok (.aload_n 0, 1) := by decide +kernel
theorem dX0_leftOf_32 : decode cX0_leftOf 32 = .ok (.iload_n 1, 1) := by decide +kernel
theorem dX0_leftOf_33 : decode cX0_leftOf 33 = .ok (.invokevirtual 26, 3) := by decide +kernel
theorem dX0_leftOf_36 : decode cX0_leftOf 36 = .ok (.i2l, 1) := by decide +kernel
theorem dX0_leftOf_37 : decode cX0_leftOf 37 = .ok (.lsub, 1) := by decide +kernel
theorem dX0_leftOf_38 : decode cX0_leftOf 38 = .ok (.aload_n 0, 1) := by decide +kernel
theorem dX0_leftOf_39 : decode cX0_leftOf 39 = .ok (.iload 6, 2) := by decide +kernel
theorem dX0_leftOf_41 : decode cX0_leftOf 41 = .ok (.invokevirtual 30, 3) := by decide +kernel
theorem dX0_leftOf_44 : decode cX0_leftOf 44 = .ok (.aload_n 0, 1) := by decide +kernel
theorem dX0_leftOf_45 : decode cX0_leftOf 45 = .ok (.iload_n 1, 1) := by decide +kernel
theorem dX0_leftOf_46 : decode cX0_leftOf 46 = .ok (.invokevirtual 30, 3) := by decide +kernel
theorem dX0_leftOf_49 : decode cX0_leftOf 49 = .ok (.isub, 1) := by decide +kernel
theorem dX0_leftOf_50 : decode cX0_leftOf 50 = .ok (.i2l, 1) := by decide +kernel
theorem dX0_leftOf_51 : decode cX0_leftOf 51 = .ok (.lmul, 1) := by decide +kernel
theorem dX0_leftOf_52 : decode cX0_leftOf 52 = .ok (.lsub, 1) := by decide +kernel
theorem dX0_leftOf_53 : decode cX0_leftOf 53 = .ok (.lreturn, 1) := by decide +kernel
theorem dX0_between_0 : decode cX0_between 0 = .ok (.lload_n 0, 1) := by decide +kernel
theorem dX0_between_1 : decode cX0_between 1 = .ok (.iload_n 2, 1) := by decide +kernel
theorem dX0_between_2 : decode cX0_between 2 = .ok (.iload_n 3, 1) := by decide +kernel
theorem dX0_between_3 : decode cX0_between 3 = .ok (.invokestatic 49, 3) := by decide +kernel
theorem dX0_between_6 : decode cX0_between 6 = .ok (.i2l, 1) := by decide +kernel
theorem dX0_between_7 : decode cX0_between 7 = .ok (.lcmp, 1) := by decide +kernel
theorem dX0_between_8 : decode cX0_between 8 = .ok (.ifCond .lt 18, 3) := by decide +kernel
theorem dX0_between_11 : decode cX0_between 11 = .ok (.lload_n 0, 1) := by decide +kernel
theorem dX0_between_12 : decode cX0_between 12 = .ok (.iload_n 2, 1) := by decide +kernel
theorem dX0_between_13 : decode cX0_between 13 = .ok (.iload_n 3, 1) := by decide +kernel
theorem dX0_between_14 : decode cX0_between 14 = .ok (.invokestatic 53, 3) := by decide +kernel
theorem dX0_between_17 : decode cX0_between 17 = .ok (.i2l, 1) := by decide +kernel
theorem dX0_between_18 : decode cX0_between 18 = .ok (.lcmp, 1) := by decide +kernel
theorem dX0_between_19 : decode cX0_between 19 = .ok (.ifCond .gt 7, 3) := by decide +kernel
theorem dX0_between_22 : decode cX0_between 22 = .ok (.iconst 1, 1) := by decide +kernel
theorem dX0_between_23 : decode cX0_between 23 = .ok (.goto 4, 3) := by decide +kernel
theorem dX0_between_26 : decode cX0_between 26 = .ok (.iconst 0, 1) := by decide +kernel
theorem dX0_between_27 : decode cX0_between 27 = .ok (.ireturn, 1) := by decide +kernel
set_option maxRecDepth 20000 in
theorem ggX0_sideCarries_X0_next : GoodIn wsX0_sideCarries wsX0_next := goodIn_r _ [5, 6, 31, 32, 33] (by decide +kernel) (by decide +kernel)
set_option maxRecDepth 20000 in
theorem gX0_sideCarries_X0_next : GoodIn wsX0_sideCarries (wsV RX0 37 RX0 yX0_next wsX0_next) := goodIn_app (goodIn_of _ (by decide +kernel)) ggX0_sideCarries_X0_next
set_option maxRecDepth 20000 in
theorem ggX0_sideCarries_X0_leftOf : GoodIn wsX0_sideCarries wsX0_leftOf := goodIn_r _ [10, 1, 2, 3, 4, 5, 6, 11, 12, 13, 14, 15, 16, 17, 18, 19, 20, 31, 32, 33] (by decide +kernel) (by decide +kernel)
set_option maxRecDepth 20000 in
theorem gX0_sideCarries_X0_leftOf : GoodIn wsX0_sideCarries (wsV RX0 56 RX0 yX0_leftOf wsX0_leftOf) := goodIn_app (goodIn_of _ (by decide +kernel)) ggX0_sideCarries_X0_leftOf
set_option maxRecDepth 20000 in
theorem ggX0_sideCarries_X0_x : GoodIn wsX0_sideCarries wsX0_x := goodIn_r _ [14, 15, 31, 32, 33] (by decide +kernel) (by decide +kernel)
set_option maxRecDepth 20000 in
theorem gX0_sideCarries_X0_x : GoodIn wsX0_sideCarries (wsV RX0 26 RX0 yX0_x wsX0_x) := goodIn_app (goodIn_of _ (by decide +kernel)) ggX0_sideCarries_X0_x
set_option maxRecDepth 20000 in
theorem ggX0_sideCarries_X0_between : GoodIn wsX0_sideCarries wsX0_between := goodIn_r _ [23, 24, 25, 26, 27, 28, 29, 30] (by decide +kernel) (by decide +kernel)
set_option maxRecDepth 20000 in
theorem gX0_sideCarries_X0_between : GoodIn wsX0_sideCarries (va_wsS RX0 60 yX0_between wsX0_between) := goodIn_app (goodIn_of _ (by decide +kernel)) ggX0_sideCarries_X0_between
set_option maxRecDepth 20000 in
theorem ggX0_sideCarries_X0_y : GoodIn wsX0_sideCarries wsX0_y := goodIn_r _ [19, 20, 31, 32, 33] (by decide +kernel) (by decide +kernel)
set_option maxRecDepth 20000 in
theorem gX0_sideCarries_X0_y : GoodIn wsX0_sideCarries (wsV RX0 30 RX0 yX0_y wsX0_y) := goodIn_app (goodIn_of _ (by decide +kernel)) ggX0_sideCarries_X0_y
theorem dX0_sideCarries_0 : decode cX0_sideCarries 0 = .ok (.aload_n 0, 1) := by decide +kernel
theorem dX0_sideCarries_1 : decode cX0_sideCarries 1 = .ok (.iload_n 1, 1) := by decide +kernel
theorem dX0_sideCarries_2 : decode cX0_sideCarries 2 = .ok (.invokevirtual 37, 3) := by decide +kernel
theorem dX0_sideCarries_5 : decode cX0_sideCarries 5 = .ok (.istore 4, 2) := by decide +kernel
theorem dX0_sideCarries_7 : decode cX0_sideCarries 7 = .ok (.aload_n 0, 1) := by decide +kernel
theorem dX0_sideCarries_8 : decode cX0_sideCarries 8 = .ok (.iload_n 1, 1) := by decide +kernel
theorem dX0_sideCarries_9 : decode cX0_sideCarries 9 = .ok (.iload_n 2, 1) := by decide +kernel
theorem dX0_sideCarries_10 : decode cX0_sideCarries 10 = .ok (.i2l, 1) := by decide +kernel
theorem dX0_sideCarries_11 : decode cX0_sideCarries 11 = .ok (.iload_n 3, 1) := by decide +kernel
theorem dX0_sideCarries_12 : decode cX0_sideCarries 12 = .ok (.i2l, 1) := by decide +kernel
theorem dX0_sideCarries_13 : decode cX0_sideCarries 13 = .ok (.invokevirtual 56, 3) := by decide +kernel
theorem dX0_sideCarries_16 : decode cX0_sideCarries 16 = .ok (.lconst 0, 1) := by decide +kernel
theorem dX0_sideCarries_17 : decode cX0_sideCarries 17 = .ok (.lcmp, 1) := by decide +kernel
theorem dX0_sideCarries_18 : decode cX0_sideCarries 18 = .ok (.ifCond .ne 45, 3) := by decide +kernel
theorem dX0_sideCarries_21 : decode cX0_sideCarries 21 = .ok (.iload_n 2, 1) := by decide +kernel
theorem dX0_sideCarries_22 : decode cX0_sideCarries 22 = .ok (.i2l, 1) := by decide +kernel
theorem dX0_sideCarries_23 : decode cX0_sideCarries 23 = .ok (.aload_n 0, 1) := by decide +kernel
theorem dX0_sideCarries_24 : decode cX0_sideCarries 24 = .ok (.iload_n 1, 1) := by decide +kernel
theorem dX0_sideCarries_25 : decode cX0_sideCarries 25 = .ok (.invokevirtual 26, 3) := by decide +kernel
theorem dX0_sideCarries_28 : decode cX0_sideCarries 28 = .ok (.aload_n 0, 1) := by decide +kernel
theorem dX0_sideCarries_29 : decode cX0_sideCarries 29 = .ok (.iload 4, 2) := by decide +kernel
theorem dX0_sideCarries_31 : decode cX0_sideCarries 31 = .ok (.invokevirtual 26, 3) := by decide +kernel
theorem dX0_sideCarries_34 : decode cX0_sideCarries 34 = .ok (.invokestatic 60, 3) := by decide +kernel
theorem dX0_sideCarries_37 : decode cX0_sideCarries 37 = .ok (.ifCond .eq 26, 3) := by decide +kernel
theorem dX0_sideCarries_40 : decode cX0_sideCarries 40 = .ok (.iload_n 3, 1) := by decide +kernel
theorem dX0_sideCarries_41 : decode cX0_sideCarries 41 = .ok (.i2l, 1) := by decide +kernel
theorem dX0_sideCarries_42 : decode cX0_sideCarries 42 = .ok (.aload_n 0, 1) := by decide +kernel
theorem dX0_sideCarries_43 : decode cX0_sideCarries 43 = .ok (.iload_n 1, 1) := by decide +kernel
theorem dX0_sideCarries_44 : decode cX0_sideCarries 44 = .ok (.invokevirtual 30, 3) := by decide +kernel
theorem dX0_sideCarries_47 : decode cX0_sideCarries 47 = .ok (.aload_n 0, 1) := by decide +kernel
theorem dX0_sideCarries_48 : decode cX0_sideCarries 48 = .ok (.iload 4, 2) := by decide +kernel
theorem dX0_sideCarries_50 : decode cX0_sideCarries 50 = .ok (.invokevirtual 30, 3) := by decide +kernel
theorem dX0_sideCarries_53 : decode cX0_sideCarries 53 = .ok (.invokestatic 60, 3) := by decide +kernel
theorem dX0_sideCarries_56 : decode cX0_sideCarries 56 = .ok (.ifCond .eq 7, 3) := by decide +kernel
theorem dX0_sideCarries_59 : decode cX0_sideCarries 59 = .ok (.iconst 1, 1) := by decide +kernel
theorem dX0_sideCarries_60 : decode cX0_sideCarries 60 = .ok (.goto 4, 3) := by decide +kernel
theorem dX0_sideCarries_63 : decode cX0_sideCarries 63 = .ok (.iconst 0, 1) := by decide +kernel
theorem dX0_sideCarries_64 : decode cX0_sideCarries 64 = .ok (.ireturn, 1) := by decide +kernel
set_option maxRecDepth 20000 in
theorem ggX0_carries_X0_sideCarries : GoodIn wsX0_carries wsX0_sideCarries := goodIn_r _ [6, 7, 8, 9, 5, 10, 1, 11, 12, 13, 14, 15, 16, 17, 18, 19, 20, 21, 22, 23, 24, 25, 26, 27, 28, 29, 30, 31, 32, 33, 34, 35, 36, 37] (by decide +kernel) (by decide +kernel)
set_option maxRecDepth 20000 in
theorem gX0_carries_X0_sideCarries : GoodIn wsX0_carries (wsV RX0 64 RX0 yX0_sideCarries wsX0_sideCarries) := goodIn_app (goodIn_of _ (by decide +kernel)) ggX0_carries_X0_sideCarries
theorem dX0_carries_0 : decode cX0_carries 0 = .ok (.iconst 0, 1) := by decide +kernel
theorem dX0_carries_1 : decode cX0_carries 1 = .ok (.istore_n 3, 1) := by decide +kernel
theorem dX0_carries_2 : decode cX0_carries 2 = .ok (.iload_n 3, 1) := by decide +kernel
theorem dX0_carries_3 : decode cX0_carries 3 = .ok (.aload_n 0, 1) := by decide +kernel
theorem dX0_carries_4 : decode cX0_carries 4 = .ok (.getfield 18, 3) := by decide +kernel
theorem dX0_carries_7 : decode cX0_carries 7 = .ok (.if_icmp .ge 21, 3) := by decide +kernel
theorem dX0_carries_10 : decode cX0_carries 10 = .ok (.aload_n 0, 1) := by decide +kernel
theorem dX0_carries_11 : decode cX0_carries 11 = .ok (.iload_n 3, 1) := by decide +kernel
theorem dX0_carries_12 : decode cX0_carries 12 = .ok (.iload_n 1, 1) := by decide +kernel
theorem dX0_carries_13 : decode cX0_carries 13 = .ok (.iload_n 2, 1) := by decide +kernel
theorem dX0_carries_14 : decode cX0_carries 14 = .ok (.invokevirtual 64, 3) := by decide +kernel
theorem dX0_carries_17 : decode cX0_carries 17 = .ok (.ifCond .eq 5, 3) := by decide +kernel
theorem dX0_carries_20 : decode cX0_carries 20 = .ok (.iconst 1, 1) := by decide +kernel
theorem dX0_carries_21 : decode cX0_carries 21 = .ok (.ireturn, 1) := by decide +kernel
theorem dX0_carries_22 : decode cX0_carries 22 = .ok (.iinc 3 1, 3) := by decide +kernel
theorem dX0_carries_25 : decode cX0_carries 25 = .ok (.goto (-23), 3) := by decide +kernel
theorem dX0_carries_28 : decode cX0_carries 28 = .ok (.iconst 0, 1) := by decide +kernel
theorem dX0_carries_29 : decode cX0_carries 29 = .ok (.ireturn, 1) := by decide +kernel
set_option maxRecDepth 20000 in
theorem ggX0_turnsRound_X0_y : GoodIn wsX0_turnsRound wsX0_y := goodIn_r _ [6, 7, 21, 22, 23] (by decide +kernel) (by decide +kernel)
set_option maxRecDepth 20000 in
theorem gX0_turnsRound_X0_y : GoodIn wsX0_turnsRound (wsV RX0 30 RX0 yX0_y wsX0_y) := goodIn_app (goodIn_of _ (by decide +kernel)) ggX0_turnsRound_X0_y
set_option maxRecDepth 20000 in
theorem ggX0_turnsRound_X0_next : GoodIn wsX0_turnsRound wsX0_next := goodIn_r _ [11, 1, 21, 22, 23] (by decide +kernel) (by decide +kernel)
set_option maxRecDepth 20000 in
theorem gX0_turnsRound_X0_next : GoodIn wsX0_turnsRound (wsV RX0 37 RX0 yX0_next wsX0_next) := goodIn_app (goodIn_of _ (by decide +kernel)) ggX0_turnsRound_X0_next
set_option maxRecDepth 20000 in
theorem ggX0_turnsRound_X0_leftOf : GoodIn wsX0_turnsRound wsX0_leftOf := goodIn_r _ [15, 8, 9, 10, 5, 11, 1, 16, 17, 18, 19, 20, 2, 3, 4, 6, 7, 21, 22, 23] (by decide +kernel) (by decide +kernel)
set_option maxRecDepth 20000 in
theorem gX0_turnsRound_X0_leftOf : GoodIn wsX0_turnsRound (wsV RX0 56 RX0 yX0_leftOf wsX0_leftOf) := goodIn_app (goodIn_of _ (by decide +kernel)) ggX0_turnsRound_X0_leftOf
theorem dX0_turnsRound_0 : decode cX0_turnsRound 0 = .ok (.iconst 0, 1) := by decide +kernel
theorem dX0_turnsRound_1 : decode cX0_turnsRound 1 = .ok (.istore_n 3, 1) := by decide +kernel
theorem dX0_turnsRound_2 : decode cX0_turnsRound 2 = .ok (.iconst 0, 1) := by decide +kernel
theorem dX0_turnsRound_3 : decode cX0_turnsRound 3 = .ok (.istore 4, 2) := by decide +kernel
theorem dX0_turnsRound_5 : decode cX0_turnsRound 5 = .ok (.iload 4, 2) := by decide +kernel
theorem dX0_turnsRound_7 : decode cX0_turnsRound 7 = .ok (.aload_n 0, 1) := by decide +kernel
theorem dX0_turnsRound_8 : decode cX0_turnsRound 8 = .ok (.getfield 18, 3) := by decide +kernel
theorem dX0_turnsRound_11 : decode cX0_turnsRound 11 = .ok (.if_icmp .ge 99, 3) := by decide +kernel
theorem dX0_turnsRound_14 : decode cX0_turnsRound 14 = .ok (.aload_n 0, 1) := by decide +kernel
theorem dX0_turnsRound_15 : decode cX0_turnsRound 15 = .ok (.iload 4, 2) := by decide +kernel
theorem dX0_turnsRound_17 : decode cX0_turnsRound 17 = .ok (.invokevirtual 30, 3) := by decide +kernel
theorem dX0_turnsRound_20 : decode cX0_turnsRound 20 = .ok (.iload_n 2, 1) := by decide +kernel
theorem dX0_turnsRound_21 : decode cX0_turnsRound 21 = .ok (.if_icmp .le 7, 3) := by decide +kernel
theorem dX0_turnsRound_24 : decode cX0_turnsRound 24 = .ok (.iconst 1, 1) := by decide +kernel
theorem dX0_turnsRound_25 : decode cX0_turnsRound 25 = .ok (.goto 4, 3) := by decide +kernel
theorem dX0_turnsRound_28 : decode cX0_turnsRound 28 = .ok (.iconst 0, 1) := by decide +kernel
theorem dX0_turnsRound_29 : decode cX0_turnsRound 29 = .ok (.istore 5, 2) := by decide +kernel
theorem dX0_turnsRound_31 : decode cX0_turnsRound 31 = .ok (.aload_n 0, 1) := by decide +kernel
theorem dX0_turnsRound_32 : decode cX0_turnsRound 32 = .ok (.aload_n 0, 1) := by decide +kernel
theorem dX0_turnsRound_33 : decode cX0_turnsRound 33 = .ok (.iload 4, 2) := by decide +kernel
theorem dX0_turnsRound_35 : decode cX0_turnsRound 35 = .ok (.invokevirtual 37, 3) := by decide +kernel
theorem dX0_turnsRound_38 : decode cX0_turnsRound 38 = .ok (.invokevirtual 30, 3) := by decide +kernel
theorem dX0_turnsRound_41 : decode cX0_turnsRound 41 = .ok (.iload_n 2, 1) := by decide +kernel
theorem dX0_turnsRound_42 : decode cX0_turnsRound 42 = .ok (.if_icmp .le 7, 3) := by decide +kernel
theorem dX0_turnsRound_45 : decode cX0_turnsRound 45 = .ok (.iconst 1, 1) := by decide +kernel
theorem dX0_turnsRound_46 : decode cX0_turnsRound 46 = .ok (.goto 4, 3) := by decide +kernel
theorem dX0_turnsRound_49 : decode cX0_turnsRound 49 = .ok (.iconst 0, 1) := by decide +kernel
theorem dX0_turnsRound_50 : decode cX0_turnsRound 50 = .ok (.istore 6, 2) := by decide +kernel
theorem dX0_turnsRound_52 : decode cX0_turnsRound 52 = .ok (.aload_n 0, 1) := by decide +kernel
theorem dX0_turnsRound_53 : decode cX0_turnsRound 53 = .ok (.iload 4, 2) := by decide +kernel
theorem dX0_turnsRound_55 : decode cX0_turnsRound 55 = .ok (.iload_n 1, 1) := by decide +kernel
theorem dX0_turnsRound_56 : decode cX0_turnsRound 56 = .ok (.i2l, 1) := by decide +kernel
theorem dX0_turnsRound_57 : decode cX0_turnsRound 57 = .ok (.iload_n 2, 1) := by decide +kernel
theorem dX0_turnsRound_58 : decode cX0_turnsRound 58 = .ok (.i2l, 1) := by decide +kernel
theorem dX0_turnsRound_59 : decode cX0_turnsRound 59 = .ok (.invokevirtual 56, 3) := by decide +kernel
theorem dX0_turnsRound_62 : decode cX0_turnsRound 62 = .ok (.lstore 7, 2) := by decide +kernel
theorem dX0_turnsRound_64 : decode cX0_turnsRound 64 = .ok (.iload 5, 2) := by decide +kernel
theorem dX0_turnsRound_66 : decode cX0_turnsRound 66 = .ok (.ifCond .ne 18, 3) := by decide +kernel
theorem dX0_turnsRound_69 : decode cX0_turnsRound 69 = .ok (.iload 6, 2) := by decide +kernel
theorem dX0_turnsRound_71 : decode cX0_turnsRound 71 = .ok (.ifCond .eq 13, 3) := by decide +kernel
theorem dX0_turnsRound_74 : decode cX0_turnsRound 74 = .ok (.lload 7, 2) := by decide +kernel
theorem dX0_turnsRound_76 : decode cX0_turnsRound 76 = .ok (.lconst 0, 1) := by decide +kernel
theorem dX0_turnsRound_77 : decode cX0_turnsRound 77 = .ok (.lcmp, 1) := by decide +kernel
theorem dX0_turnsRound_78 : decode cX0_turnsRound 78 = .ok (.ifCond .le 6, 3) := by decide +kernel
theorem dX0_turnsRound_81 : decode cX0_turnsRound 81 = .ok (.iinc 3 1, 3) := by decide +kernel
theorem dX0_turnsRound_84 : decode cX0_turnsRound 84 = .ok (.iload 5, 2) := by decide +kernel
theorem dX0_turnsRound_86 : decode cX0_turnsRound 86 = .ok (.ifCond .eq 18, 3) := by decide +kernel
theorem dX0_turnsRound_89 : decode cX0_turnsRound 89 = .ok (.iload 6, 2) := by decide +kernel
theorem dX0_turnsRound_91 : decode cX0_turnsRound 91 = .ok (.ifCond .ne 13, 3) := by decide +kernel
theorem dX0_turnsRound_94 : decode cX0_turnsRound 94 = .ok (.lload 7, 2) := by decide +kernel
theorem dX0_turnsRound_96 : decode cX0_turnsRound 96 = .ok (.lconst 0, 1) := by decide +kernel
theorem dX0_turnsRound_97 : decode cX0_turnsRound 97 = .ok (.lcmp, 1) := by decide +kernel
theorem dX0_turnsRound_98 : decode cX0_turnsRound 98 = .ok (.ifCond .ge 6, 3) := by decide +kernel
theorem dX0_turnsRound_101 : decode cX0_turnsRound 101 = .ok (.iinc 3 (-1), 3) := by decide +kernel
theorem dX0_turnsRound_104 : decode cX0_turnsRound 104 = .ok (.iinc 4 1, 3) := by decide +kernel
theorem dX0_turnsRound_107 : decode cX0_turnsRound 107 = .ok (.goto (-102), 3) := by decide +kernel
theorem dX0_turnsRound_110 : decode cX0_turnsRound 110 = .ok (.iload_n 3, 1) := by decide +kernel
theorem dX0_turnsRound_111 : decode cX0_turnsRound 111 = .ok (.ireturn, 1) := by decide +kernel
set_option maxRecDepth 20000 in
theorem ggX0_neverMeetsItself_X0_next : GoodIn wsX0_neverMeetsItself wsX0_next := goodIn_r _ [6, 1, 51, 52, 53] (by decide +kernel) (by decide +kernel)
set_option maxRecDepth 20000 in
theorem gX0_neverMeetsItself_X0_next : GoodIn wsX0_neverMeetsItself (wsV RX0 37 RX0 yX0_next wsX0_next) := goodIn_app (goodIn_of _ (by decide +kernel)) ggX0_neverMeetsItself_X0_next
set_option maxRecDepth 20000 in
theorem ggX0_neverMeetsItself_X0_samePlace : GoodIn wsX0_neverMeetsItself wsX0_samePlace := goodIn_r _ [10, 11, 12, 13, 5, 14, 15, 16, 17, 18, 19, 20, 51, 52, 53] (by decide +kernel) (by decide +kernel)
set_option maxRecDepth 20000 in
theorem gX0_neverMeetsItself_X0_samePlace : GoodIn wsX0_neverMeetsItself (wsV RX0 68 RX0 yX0_samePlace wsX0_samePlace) := goodIn_app (goodIn_of _ (by decide +kernel)) ggX0_neverMeetsItself_X0_samePlace
set_option maxRecDepth 20000 in
theorem ggX0_neverMeetsItself_X0_foldsBack : GoodIn wsX0_neverMeetsItself wsX0_foldsBack := goodIn_r _ [24, 2, 3, 4, 5, 6, 1, 11, 12, 13, 14, 15, 16, 17, 18, 19, 20, 25, 26, 27, 28, 51, 52, 53] (by decide +kernel) (by decide +kernel)
set_option maxRecDepth 20000 in
theorem gX0_neverMeetsItself_X0_foldsBack : GoodIn wsX0_neverMeetsItself (wsV RX0 72 RX0 yX0_foldsBack wsX0_foldsBack) := goodIn_app (goodIn_of _ (by decide +kernel)) ggX0_neverMeetsItself_X0_foldsBack
set_option maxRecDepth 20000 in
theorem ggX0_neverMeetsItself_X0_sidesMeet : GoodIn wsX0_neverMeetsItself wsX0_sidesMeet := goodIn_r _ [32, 11, 12, 13, 5, 14, 15, 16, 17, 18, 19, 20, 33, 34, 35, 36, 2, 3, 4, 6, 1, 25, 26, 27, 28, 37, 38, 39, 40, 41, 42, 43, 44, 45, 46, 47, 48, 49, 50, 51, 52, 53] (by decide +kernel) (by decide +kernel)
set_option maxRecDepth 20000 in
theorem gX0_neverMeetsItself_X0_sidesMeet : GoodIn wsX0_neverMeetsItself (wsV RX0 76 RX0 yX0_sidesMeet wsX0_sidesMeet) := goodIn_app (goodIn_of _ (by decide +kernel)) ggX0_neverMeetsItself_X0_sidesMeet
theorem dX0_neverMeetsItself_0 : decode cX0_neverMeetsItself 0 = .ok (.iconst 0, 1) := by decide +kernel
theorem dX0_neverMeetsItself_1 : decode cX0_neverMeetsItself 1 = .ok (.istore_n 1, 1) := by decide +kernel
theorem dX0_neverMeetsItself_2 : decode cX0_neverMeetsItself 2 = .ok (.iload_n 1, 1) := by decide +kernel
theorem dX0_neverMeetsItself_3 : decode cX0_neverMeetsItself 3 = .ok (.aload_n 0, 1) := by decide +kernel
theorem dX0_neverMeetsItself_4 : decode cX0_neverMeetsItself 4 = .ok (.getfield 18, 3) := by decide +kernel
theorem dX0_neverMeetsItself_7 : decode cX0_neverMeetsItself 7 = .ok (.if_icmp .ge 71, 3) := by decide +kernel
theorem dX0_neverMeetsItself_10 : decode cX0_neverMeetsItself 10 = .ok (.aload_n 0, 1) := by decide +kernel
theorem dX0_neverMeetsItself_11 : decode cX0_neverMeetsItself 11 = .ok (.iload_n 1, 1) := by decide +kernel
theorem dX0_neverMeetsItself_12 : decode cX0_neverMeetsItself 12 = .ok (.aload_n 0, 1) := by decide +kernel
theorem dX0_neverMeetsItself_13 : decode cX0_neverMeetsItself 13 = .ok (.aload_n 0, 1) := by decide +kernel
theorem dX0_neverMeetsItself_14 : decode cX0_neverMeetsItself 14 = .ok (.iload_n 1, 1) := by decide +kernel
theorem dX0_neverMeetsItself_15 : decode cX0_neverMeetsItself 15 = .ok (.invokevirtual 37, 3) := by decide +kernel
theorem dX0_neverMeetsItself_18 : decode cX0_neverMeetsItself 18 = .ok (.invokevirtual 68, 3) := by decide +kernel
theorem dX0_neverMeetsItself_21 : decode cX0_neverMeetsItself 21 = .ok (.ifCond .ne 11, 3) := by decide +kernel
theorem dX0_neverMeetsItself_24 : decode cX0_neverMeetsItself 24 = .ok (.aload_n 0, 1) := by decide +kernel
theorem dX0_neverMeetsItself_25 : decode cX0_neverMeetsItself 25 = .ok (.iload_n 1, 1) := by decide +kernel
theorem dX0_neverMeetsItself_26 : decode cX0_neverMeetsItself 26 = .ok (.invokevirtual 72, 3) := by decide +kernel
theorem dX0_neverMeetsItself_29 : decode cX0_neverMeetsItself 29 = .ok (.ifCond .eq 5, 3) := by decide +kernel
theorem dX0_neverMeetsItself_32 : decode cX0_neverMeetsItself 32 = .ok (.iconst 0, 1) := by decide +kernel
theorem dX0_neverMeetsItself_33 : decode cX0_neverMeetsItself 33 = .ok (.ireturn, 1) := by decide +kernel
theorem dX0_neverMeetsItself_34 : decode cX0_neverMeetsItself 34 = .ok (.iload_n 1, 1) := by decide +kernel
theorem dX0_neverMeetsItself_35 : decode cX0_neverMeetsItself 35 = .ok (.iconst 2, 1) := by decide +kernel
theorem dX0_neverMeetsItself_36 : decode cX0_neverMeetsItself 36 = .ok (.iadd, 1) := by decide +kernel
theorem dX0_neverMeetsItself_37 : decode cX0_neverMeetsItself 37 = .ok (.istore_n 2, 1) := by decide +kernel
theorem dX0_neverMeetsItself_38 : decode cX0_neverMeetsItself 38 = .ok (.iload_n 2, 1) := by decide +kernel
theorem dX0_neverMeetsItself_39 : decode cX0_neverMeetsItself 39 = .ok (.aload_n 0, 1) := by decide +kernel
theorem dX0_neverMeetsItself_40 : decode cX0_neverMeetsItself 40 = .ok (.getfield 18, 3) := by decide +kernel
theorem dX0_neverMeetsItself_43 : decode cX0_neverMeetsItself 43 = .ok (.if_icmp .ge 29, 3) := by decide +kernel
theorem dX0_neverMeetsItself_46 : decode cX0_neverMeetsItself 46 = .ok (.aload_n 0, 1) := by decide +kernel
theorem dX0_neverMeetsItself_47 : decode cX0_neverMeetsItself 47 = .ok (.iload_n 2, 1) := by decide +kernel
theorem dX0_neverMeetsItself_48 : decode cX0_neverMeetsItself 48 = .ok (.invokevirtual 37, 3) := by decide +kernel
theorem dX0_neverMeetsItself_51 : decode cX0_neverMeetsItself 51 = .ok (.iload_n 1, 1) := by decide +kernel
theorem dX0_neverMeetsItself_52 : decode cX0_neverMeetsItself 52 = .ok (.if_icmp .eq 14, 3) := by decide +kernel
theorem dX0_neverMeetsItself_55 : decode cX0_neverMeetsItself 55 = .ok (.aload_n 0, 1) := by decide +kernel
theorem dX0_neverMeetsItself_56 : decode cX0_neverMeetsItself 56 = .ok (.iload_n 1, 1) := by decide +kernel
theorem dX0_neverMeetsItself_57 : decode cX0_neverMeetsItself 57 = .ok (.iload_n 2, 1) := by decide +kernel
theorem dX0_neverMeetsItself_58 : decode cX0_neverMeetsItself 58 = .ok (.invokevirtual 76, 3) := by decide +kernel
theorem dX0_neverMeetsItself_61 : decode cX0_neverMeetsItself 61 = .ok (.ifCond .eq 5, 3) := by decide +kernel
theorem dX0_neverMeetsItself_64 : decode cX0_neverMeetsItself 64 = .ok (.iconst 0, 1) := by decide +kernel
theorem dX0_neverMeetsItself_65 : decode cX0_neverMeetsItself 65 = .ok (.ireturn, 1) := by decide +kernel
theorem dX0_neverMeetsItself_66 : decode cX0_neverMeetsItself 66 = .ok (.iinc 2 1, 3) := by decide +kernel
theorem dX0_neverMeetsItself_69 : decode cX0_neverMeetsItself 69 = .ok (.goto (-31), 3) := by decide +kernel
theorem dX0_neverMeetsItself_72 : decode cX0_neverMeetsItself 72 = .ok (.iinc 1 1, 3) := by decide +kernel
theorem dX0_neverMeetsItself_75 : decode cX0_neverMeetsItself 75 = .ok (.goto (-73), 3) := by decide +kernel
theorem dX0_neverMeetsItself_78 : decode cX0_neverMeetsItself 78 = .ok (.iconst 1, 1) := by decide +kernel
theorem dX0_neverMeetsItself_79 : decode cX0_neverMeetsItself 79 = .ok (.ireturn, 1) := by decide +kernel
set_option maxRecDepth 20000 in
theorem ggX0_foldsBack_X0_next : GoodIn wsX0_foldsBack wsX0_next := goodIn_r _ [5, 6, 21, 22, 23] (by decide +kernel) (by decide +kernel)
set_option maxRecDepth 20000 in
theorem gX0_foldsBack_X0_next : GoodIn wsX0_foldsBack (wsV RX0 37 RX0 yX0_next wsX0_next) := goodIn_app (goodIn_of _ (by decide +kernel)) ggX0_foldsBack_X0_next
set_option maxRecDepth 20000 in
theorem ggX0_foldsBack_X0_x : GoodIn wsX0_foldsBack wsX0_x := goodIn_r _ [10, 11, 21, 22, 23] (by decide +kernel) (by decide +kernel)
set_option maxRecDepth 20000 in
theorem gX0_foldsBack_X0_x : GoodIn wsX0_foldsBack (wsV RX0 26 RX0 yX0_x wsX0_x) := goodIn_app (goodIn_of _ (by decide +kernel)) ggX0_foldsBack_X0_x
set_option maxRecDepth 20000 in
theorem ggX0_foldsBack_X0_y : GoodIn wsX0_foldsBack wsX0_y := goodIn_r _ [15, 16, 21, 22, 23] (by decide +kernel) (by decide +kernel)
set_option maxRecDepth 20000 in
theorem gX0_foldsBack_X0_y : GoodIn wsX0_foldsBack (wsV RX0 30 RX0 yX0_y wsX0_y) := goodIn_app (goodIn_of _ (by decide +kernel)) ggX0_foldsBack_X0_y
set_option maxRecDepth 20000 in
theorem ggX0_foldsBack_X0_leftOf : GoodIn wsX0_foldsBack wsX0_leftOf := goodIn_r _ [20, 1, 2, 3, 4, 5, 6, 7, 8, 9, 10, 11, 12, 13, 14, 15, 16, 21, 22, 23] (by decide +kernel) (by decide +kernel)
set_option maxRecDepth 20000 in
theorem gX0_foldsBack_X0_leftOf : GoodIn wsX0_foldsBack (wsV RX0 56 RX0 yX0_leftOf wsX0_leftOf) := goodIn_app (goodIn_of _ (by decide +kernel)) ggX0_foldsBack_X0_leftOf
theorem dX0_foldsBack_0 : decode cX0_foldsBack 0 = .ok (.aload_n 0, 1) := by decide +kernel
theorem dX0_foldsBack_1 : decode cX0_foldsBack 1 = .ok (.iload_n 1, 1) := by decide +kernel
theorem dX0_foldsBack_2 : decode cX0_foldsBack 2 = .ok (.invokevirtual 37, 3) := by decide +kernel
theorem dX0_foldsBack_5 : decode cX0_foldsBack 5 = .ok (.istore_n 2, 1) := by decide +kernel
theorem dX0_foldsBack_6 : decode cX0_foldsBack 6 = .ok (.aload_n 0, 1) := by decide +kernel
theorem dX0_foldsBack_7 : decode cX0_foldsBack 7 = .ok (.iload_n 2, 1) := by decide +kernel
theorem dX0_foldsBack_8 : decode cX0_foldsBack 8 = .ok (.invokevirtual 37, 3) := by decide +kernel
theorem dX0_foldsBack_11 : decode cX0_foldsBack 11 = .ok (.istore_n 3, 1) := by decide +kernel
theorem dX0_foldsBack_12 : decode cX0_foldsBack 12 = .ok (.aload_n 0, 1) := by decide +kernel
theorem dX0_foldsBack_13 : decode cX0_foldsBack 13 = .ok (.iload_n 2, 1) := by decide +kernel
theorem dX0_foldsBack_14 : decode cX0_foldsBack 14 = .ok (.invokevirtual 26, 3) := by decide +kernel
theorem dX0_foldsBack_17 : decode cX0_foldsBack 17 = .ok (.aload_n 0, 1) := by decide +kernel
theorem dX0_foldsBack_18 : decode cX0_foldsBack 18 = .ok (.iload_n 1, 1) := by decide +kernel
theorem dX0_foldsBack_19 : decode cX0_foldsBack 19 = .ok (.invokevirtual 26, 3) := by decide +kernel
theorem dX0_foldsBack_22 : decode cX0_foldsBack 22 = .ok (.isub, 1) := by decide +kernel
theorem dX0_foldsBack_23 : decode cX0_foldsBack 23 = .ok (.aload_n 0, 1) := by decide +kernel
theorem dX0_foldsBack_24 : decode cX0_foldsBack 24 = .ok (.iload_n 3, 1) := by decide +kernel
theorem dX0_foldsBack_25 : decode cX0_foldsBack 25 = .ok (.invokevirtual 26, 3) := by decide +kernel
theorem dX0_foldsBack_28 : decode cX0_foldsBack 28 = .ok (.aload_n 0, 1) := by decide +kernel
theorem dX0_foldsBack_29 : decode cX0_foldsBack 29 = .ok (.iload_n 2, 1) := by decide +kernel
theorem dX0_foldsBack_30 : decode cX0_foldsBack 30 = .ok (.invokevirtual 26, 3) := by decide +kernel
theorem dX0_foldsBack_33 : decode cX0_foldsBack 33 = .ok (.isub, 1) := by decide +kernel
theorem dX0_foldsBack_34 : decode cX0_foldsBack 34 = .ok (.imul, 1) := by decide +kernel
theorem dX0_foldsBack_35 : decode cX0_foldsBack 35 = .ok (.aload_n 0, 1) := by decide +kernel
theorem dX0_foldsBack_36 : decode cX0_foldsBack 36 = .ok (.iload_n 2, 1) := by decide +kernel
theorem dX0_foldsBack_37 : decode cX0_foldsBack 37 = .ok (.invokevirtual 30, 3) := by decide +kernel
theorem dX0_foldsBack_40 : decode cX0_foldsBack 40 = .ok (.aload_n 0, 1) := by decide +kernel
theorem dX0_foldsBack_41 : decode cX0_foldsBack 41 = .ok (.iload_n 1, 1) := by decide +kernel
theorem dX0_foldsBack_42 : decode cX0_foldsBack 42 = .ok (.invokevirtual 30, 3) := by decide +kernel
theorem dX0_foldsBack_45 : decode cX0_foldsBack 45 = .ok (.isub, 1) := by decide +kernel
theorem dX0_foldsBack_46 : decode cX0_foldsBack 46 = .ok (.aload_n 0, 1) := by decide +kernel
theorem dX0_foldsBack_47 : decode cX0_foldsBack 47 = .ok (.iload_n 3, 1) := by decide +kernel
theorem dX0_foldsBack_48 : decode cX0_foldsBack 48 = .ok (.invokevirtual 30, 3) := by decide +kernel
theorem dX0_foldsBack_51 : decode cX0_foldsBack 51 = .ok (.aload_n 0, 1) := by decide +kernel
theorem dX0_foldsBack_52 : decode cX0_foldsBack 52 = .ok (.iload_n 2, 1) := by decide +kernel
theorem dX0_foldsBack_53 : decode cX0_foldsBack 53 = .ok (.invokevirtual 30, 3) := by decide +kernel
theorem dX0_foldsBack_56 : decode cX0_foldsBack 56 = .ok (.isub, 1) := by decide +kernel
theorem dX0_foldsBack_57 : decode cX0_foldsBack 57 = .ok (.imul, 1) := by decide +kernel
theorem dX0_foldsBack_58 : decode cX0_foldsBack 58 = .ok (.iadd, 1) := by decide +kernel
theorem dX0_foldsBack_59 : decode cX0_foldsBack 59 = .ok (.istore 4, 2) := by decide +kernel
theorem dX0_foldsBack_61 : decode cX0_foldsBack 61 = .ok (.iload 4, 2) := by decide +kernel
theorem dX0_foldsBack_63 : decode cX0_foldsBack 63 = .ok (.ifCond .ge 29, 3) := by decide +kernel
theorem dX0_foldsBack_66 : decode cX0_foldsBack 66 = .ok (.aload_n 0, 1) := by decide +kernel
theorem dX0_foldsBack_67 : decode cX0_foldsBack 67 = .ok (.iload_n 1, 1) := by decide +kernel
theorem dX0_foldsBack_68 : decode cX0_foldsBack 68 = .ok (.aload_n 0, 1) := by decide +kernel
theorem dX0_foldsBack_69 : decode cX0_foldsBack 69 = .ok (.iload_n 3, 1) := by decide +kernel
theorem dX0_foldsBack_70 : decode cX0_foldsBack 70 = .ok (.invokevirtual 26, 3) := by decide +kernel
theorem dX0_foldsBack_73 : decode cX0_foldsBack 73 = .ok (.i2l, 1) := by decide +kernel
theorem dX0_foldsBack_74 : decode cX0_foldsBack 74 = .ok (.aload_n 0, 1) := by decide +kernel
theorem dX0_foldsBack_75 : decode cX0_foldsBack 75 = .ok (.iload_n 3, 1) := by decide +kernel
theorem dX0_foldsBack_76 : decode cX0_foldsBack 76 = .ok (.invokevirtual 30, 3) := by decide +kernel
theorem dX0_foldsBack_79 : decode cX0_foldsBack 79 = .ok (.i2l, 1) := by decide +kernel
theorem dX0_foldsBack_80 : decode cX0_foldsBack 80 = .ok (.invokevirtual 56, 3) := by decide +kernel
theorem dX0_foldsBack_83 : decode cX0_foldsBack 83 = .ok (.lconst 0, 1) := by decide +kernel
theorem dX0_foldsBack_84 : decode cX0_foldsBack 84 = .ok (.lcmp, 1) := by decide +kernel
theorem dX0_foldsBack_85 : decode cX0_foldsBack 85 = .ok (.ifCond .ne 7, 3) := by decide +kernel
theorem dX0_foldsBack_88 : decode cX0_foldsBack 88 = .ok (.iconst 1, 1) := by decide +kernel
theorem dX0_foldsBack_89 : decode cX0_foldsBack 89 = .ok (.goto 4, 3) := by decide +kernel
theorem dX0_foldsBack_92 : decode cX0_foldsBack 92 = .ok (.iconst 0, 1) := by decide +kernel
theorem dX0_foldsBack_93 : decode cX0_foldsBack 93 = .ok (.ireturn, 1) := by decide +kernel
set_option maxRecDepth 20000 in
theorem ggX0_sidesMeet_X0_x : GoodIn wsX0_sidesMeet wsX0_x := goodIn_r _ [5, 6, 39, 40, 41] (by decide +kernel) (by decide +kernel)
set_option maxRecDepth 20000 in
theorem gX0_sidesMeet_X0_x : GoodIn wsX0_sidesMeet (wsV RX0 26 RX0 yX0_x wsX0_x) := goodIn_app (goodIn_of _ (by decide +kernel)) ggX0_sidesMeet_X0_x
set_option maxRecDepth 20000 in
theorem ggX0_sidesMeet_X0_y : GoodIn wsX0_sidesMeet wsX0_y := goodIn_r _ [10, 11, 39, 40, 41] (by decide +kernel) (by decide +kernel)
set_option maxRecDepth 20000 in
theorem gX0_sidesMeet_X0_y : GoodIn wsX0_sidesMeet (wsV RX0 30 RX0 yX0_y wsX0_y) := goodIn_app (goodIn_of _ (by decide +kernel)) ggX0_sidesMeet_X0_y
set_option maxRecDepth 20000 in
theorem ggX0_sidesMeet_X0_sideCarries : GoodIn wsX0_sidesMeet wsX0_sideCarries := goodIn_r _ [15, 16, 17, 18, 4, 19, 20, 21, 22, 23, 24, 1, 2, 3, 5, 6, 7, 8, 9, 10, 11, 25, 26, 27, 28, 29, 30, 31, 32, 33, 34, 39, 40, 41] (by decide +kernel) (by decide +kernel)
set_option maxRecDepth 20000 in
theorem gX0_sidesMeet_X0_sideCarries : GoodIn wsX0_sidesMeet (wsV RX0 64 RX0 yX0_sideCarries wsX0_sideCarries) := goodIn_app (goodIn_of _ (by decide +kernel)) ggX0_sidesMeet_X0_sideCarries
set_option maxRecDepth 20000 in
theorem ggX0_sidesMeet_X0_next : GoodIn wsX0_sidesMeet wsX0_next := goodIn_r _ [19, 20, 39, 40, 41] (by decide +kernel) (by decide +kernel)
set_option maxRecDepth 20000 in
theorem gX0_sidesMeet_X0_next : GoodIn wsX0_sidesMeet (wsV RX0 37 RX0 yX0_next wsX0_next) := goodIn_app (goodIn_of _ (by decide +kernel)) ggX0_sidesMeet_X0_next
set_option maxRecDepth 20000 in
theorem ggX0_sidesMeet_X0_parts : GoodIn wsX0_sidesMeet wsX0_parts := goodIn_r _ [38, 1, 2, 3, 4, 5, 6, 7, 8, 9, 10, 11, 21, 22, 23, 24, 16, 17, 18, 19, 20, 39, 40, 41] (by decide +kernel) (by decide +kernel)
set_option maxRecDepth 20000 in
theorem gX0_sidesMeet_X0_parts : GoodIn wsX0_sidesMeet (wsV RX0 80 RX0 yX0_parts wsX0_parts) := goodIn_app (goodIn_of _ (by decide +kernel)) ggX0_sidesMeet_X0_parts
theorem dX0_sidesMeet_0 : decode cX0_sidesMeet 0 = .ok (.aload_n 0, 1) := by decide +kernel
theorem dX0_sidesMeet_1 : decode cX0_sidesMeet 1 = .ok (.iload_n 1, 1) := by decide +kernel
theorem dX0_sidesMeet_2 : decode cX0_sidesMeet 2 = .ok (.aload_n 0, 1) := by decide +kernel
theorem dX0_sidesMeet_3 : decode cX0_sidesMeet 3 = .ok (.iload_n 2, 1) := by decide +kernel
theorem dX0_sidesMeet_4 : decode cX0_sidesMeet 4 = .ok (.invokevirtual 26, 3) := by decide +kernel
theorem dX0_sidesMeet_7 : decode cX0_sidesMeet 7 = .ok (.aload_n 0, 1) := by decide +kernel
theorem dX0_sidesMeet_8 : decode cX0_sidesMeet 8 = .ok (.iload_n 2, 1) := by decide +kernel
theorem dX0_sidesMeet_9 : decode cX0_sidesMeet 9 = .ok (.invokevirtual 30, 3) := by decide +kernel
theorem dX0_sidesMeet_12 : decode cX0_sidesMeet 12 = .ok (.invokevirtual 64, 3) := by decide +kernel
theorem dX0_sidesMeet_15 : decode cX0_sidesMeet 15 = .ok (.ifCond .ne 29, 3) := by decide +kernel
theorem dX0_sidesMeet_18 : decode cX0_sidesMeet 18 = .ok (.aload_n 0, 1) := by decide +kernel
theorem dX0_sidesMeet_19 : decode cX0_sidesMeet 19 = .ok (.iload_n 1, 1) := by decide +kernel
theorem dX0_sidesMeet_20 : decode cX0_sidesMeet 20 = .ok (.aload_n 0, 1) := by decide +kernel
theorem dX0_sidesMeet_21 : decode cX0_sidesMeet 21 = .ok (.aload_n 0, 1) := by decide +kernel
theorem dX0_sidesMeet_22 : decode cX0_sidesMeet 22 = .ok (.iload_n 2, 1) := by decide +kernel
theorem dX0_sidesMeet_23 : decode cX0_sidesMeet 23 = .ok (.invokevirtual 37, 3) := by decide +kernel
theorem dX0_sidesMeet_26 : decode cX0_sidesMeet 26 = .ok (.invokevirtual 26, 3) := by decide +kernel
theorem dX0_sidesMeet_29 : decode cX0_sidesMeet 29 = .ok (.aload_n 0, 1) := by decide +kernel
theorem dX0_sidesMeet_30 : decode cX0_sidesMeet 30 = .ok (.aload_n 0, 1) := by decide +kernel
theorem dX0_sidesMeet_31 : decode cX0_sidesMeet 31 = .ok (.iload_n 2, 1) := by decide +kernel
theorem dX0_sidesMeet_32 : decode cX0_sidesMeet 32 = .ok (.invokevirtual 37, 3) := by decide +kernel
theorem dX0_sidesMeet_35 : decode cX0_sidesMeet 35 = .ok (.invokevirtual 30, 3) := by decide +kernel
theorem dX0_sidesMeet_38 : decode cX0_sidesMeet 38 = .ok (.invokevirtual 64, 3) := by decide +kernel
theorem dX0_sidesMeet_41 : decode cX0_sidesMeet 41 = .ok (.ifCond .eq 5, 3) := by decide +kernel
theorem dX0_sidesMeet_44 : decode cX0_sidesMeet 44 = .ok (.iconst 1, 1) := by decide +kernel
theorem dX0_sidesMeet_45 : decode cX0_sidesMeet 45 = .ok (.ireturn, 1) := by decide +kernel
theorem dX0_sidesMeet_46 : decode cX0_sidesMeet 46 = .ok (.aload_n 0, 1) := by decide +kernel
theorem dX0_sidesMeet_47 : decode cX0_sidesMeet 47 = .ok (.iload_n 2, 1) := by decide +kernel
theorem dX0_sidesMeet_48 : decode cX0_sidesMeet 48 = .ok (.aload_n 0, 1) := by decide +kernel
theorem dX0_sidesMeet_49 : decode cX0_sidesMeet 49 = .ok (.iload_n 1, 1) := by decide +kernel
theorem dX0_sidesMeet_50 : decode cX0_sidesMeet 50 = .ok (.invokevirtual 26, 3) := by decide +kernel
theorem dX0_sidesMeet_53 : decode cX0_sidesMeet 53 = .ok (.aload_n 0, 1) := by decide +kernel
theorem dX0_sidesMeet_54 : decode cX0_sidesMeet 54 = .ok (.iload_n 1, 1) := by decide +kernel
theorem dX0_sidesMeet_55 : decode cX0_sidesMeet 55 = .ok (.invokevirtual 30, 3) := by decide +kernel
theorem dX0_sidesMeet_58 : decode cX0_sidesMeet 58 = .ok (.invokevirtual 64, 3) := by decide +kernel
theorem dX0_sidesMeet_61 : decode cX0_sidesMeet 61 = .ok (.ifCond .ne 29, 3) := by decide +kernel
theorem dX0_sidesMeet_64 : decode cX0_sidesMeet 64 = .ok (.aload_n 0, 1) := by decide +kernel
theorem dX0_sidesMeet_65 : decode cX0_sidesMeet 65 = .ok (.iload_n 2, 1) := by decide +kernel
theorem dX0_sidesMeet_66 : decode cX0_sidesMeet 66 = .ok (.aload_n 0, 1) := by decide +kernel
theorem dX0_sidesMeet_67 : decode cX0_sidesMeet 67 = .ok (.aload_n 0, 1) := by decide +kernel
theorem dX0_sidesMeet_68 : decode cX0_sidesMeet 68 = .ok (.iload_n 1, 1) := by decide +kernel
theorem dX0_sidesMeet_69 : decode cX0_sidesMeet 69 = .ok (.invokevirtual 37, 3) := by decide +kernel
theorem dX0_sidesMeet_72 : decode cX0_sidesMeet 72 = .ok (.invokevirtual 26, 3) := by decide +kernel
theorem dX0_sidesMeet_75 : decode cX0_sidesMeet 75 = .ok (.aload_n 0, 1) := by decide +kernel
theorem dX0_sidesMeet_76 : decode cX0_sidesMeet 76 = .ok (.aload_n 0, 1) := by decide +kernel
theorem dX0_sidesMeet_77 : decode cX0_sidesMeet 77 = .ok (.iload_n 1, 1) := by decide +kernel
theorem dX0_sidesMeet_78 : decode cX0_sidesMeet 78 = .ok (.invokevirtual 37, 3) := by decide +kernel
theorem dX0_sidesMeet_81 : decode cX0_sidesMeet 81 = .ok (.invokevirtual 30, 3) := by decide +kernel
theorem dX0_sidesMeet_84 : decode cX0_sidesMeet 84 = .ok (.invokevirtual 64, 3) := by decide +kernel
theorem dX0_sidesMeet_87 : decode cX0_sidesMeet 87 = .ok (.ifCond .eq 5, 3) := by decide +kernel
theorem dX0_sidesMeet_90 : decode cX0_sidesMeet 90 = .ok (.iconst 1, 1) := by decide +kernel
theorem dX0_sidesMeet_91 : decode cX0_sidesMeet 91 = .ok (.ireturn, 1) := by decide +kernel
theorem dX0_sidesMeet_92 : decode cX0_sidesMeet 92 = .ok (.aload_n 0, 1) := by decide +kernel
theorem dX0_sidesMeet_93 : decode cX0_sidesMeet 93 = .ok (.iload_n 1, 1) := by decide +kernel
theorem dX0_sidesMeet_94 : decode cX0_sidesMeet 94 = .ok (.iload_n 2, 1) := by decide +kernel
theorem dX0_sidesMeet_95 : decode cX0_sidesMeet 95 = .ok (.invokevirtual 80, 3) := by decide +kernel
theorem dX0_sidesMeet_98 : decode cX0_sidesMeet 98 = .ok (.ifCond .eq 16, 3) := by decide +kernel
theorem dX0_sidesMeet_101 : decode cX0_sidesMeet 101 = .ok (.aload_n 0, 1) := by decide +kernel
theorem dX0_sidesMeet_102 : decode cX0_sidesMeet 102 = .ok (.iload_n 2, 1) := by decide +kernel
theorem dX0_sidesMeet_103 : decode cX0_sidesMeet 103 = .ok (.iload_n 1, 1) := by decide +kernel
theorem dX0_sidesMeet_104 : decode cX0_sidesMeet 104 = .ok (.invokevirtual 80, 3) := by decide +kernel
theorem dX0_sidesMeet_107 : decode cX0_sidesMeet 107 = .ok (.ifCond .eq 7, 3) := by decide +kernel
theorem dX0_sidesMeet_110 : decode cX0_sidesMeet 110 = .ok (.iconst 1, 1) := by decide +kernel
theorem dX0_sidesMeet_111 : decode cX0_sidesMeet 111 = .ok (.goto 4, 3) := by decide +kernel
theorem dX0_sidesMeet_114 : decode cX0_sidesMeet 114 = .ok (.iconst 0, 1) := by decide +kernel
theorem dX0_sidesMeet_115 : decode cX0_sidesMeet 115 = .ok (.ireturn, 1) := by decide +kernel
set_option maxRecDepth 20000 in
theorem ggX0_parts_X0_x : GoodIn wsX0_parts wsX0_x := goodIn_r _ [5, 6, 21, 22, 23] (by decide +kernel) (by decide +kernel)
set_option maxRecDepth 20000 in
theorem gX0_parts_X0_x : GoodIn wsX0_parts (wsV RX0 26 RX0 yX0_x wsX0_x) := goodIn_app (goodIn_of _ (by decide +kernel)) ggX0_parts_X0_x
set_option maxRecDepth 20000 in
theorem ggX0_parts_X0_y : GoodIn wsX0_parts wsX0_y := goodIn_r _ [10, 11, 21, 22, 23] (by decide +kernel) (by decide +kernel)
set_option maxRecDepth 20000 in
theorem gX0_parts_X0_y : GoodIn wsX0_parts (wsV RX0 30 RX0 yX0_y wsX0_y) := goodIn_app (goodIn_of _ (by decide +kernel)) ggX0_parts_X0_y
set_option maxRecDepth 20000 in
theorem ggX0_parts_X0_leftOf : GoodIn wsX0_parts wsX0_leftOf := goodIn_r _ [15, 16, 17, 18, 4, 19, 20, 1, 2, 3, 5, 6, 7, 8, 9, 10, 11, 21, 22, 23] (by decide +kernel) (by decide +kernel)
set_option maxRecDepth 20000 in
theorem gX0_parts_X0_leftOf : GoodIn wsX0_parts (wsV RX0 56 RX0 yX0_leftOf wsX0_leftOf) := goodIn_app (goodIn_of _ (by decide +kernel)) ggX0_parts_X0_leftOf
set_option maxRecDepth 20000 in
theorem ggX0_parts_X0_next : GoodIn wsX0_parts wsX0_next := goodIn_r _ [19, 20, 21, 22, 23] (by decide +kernel) (by decide +kernel)
set_option maxRecDepth 20000 in
theorem gX0_parts_X0_next : GoodIn wsX0_parts (wsV RX0 37 RX0 yX0_next wsX0_next) := goodIn_app (goodIn_of _ (by decide +kernel)) ggX0_parts_X0_next
theorem dX0_parts_0 : decode cX0_parts 0 = .ok (.aload_n 0, 1) := by decide +kernel
theorem dX0_parts_1 : decode cX0_parts 1 = .ok (.iload_n 1, 1) := by decide +kernel
theorem dX0_parts_2 : decode cX0_parts 2 = .ok (.aload_n 0, 1) := by decide +kernel
theorem dX0_parts_3 : decode cX0_parts 3 = .ok (.iload_n 2, 1) := by decide +kernel
theorem dX0_parts_4 : decode cX0_parts 4 = .ok (.invokevirtual 26, 3) := by decide +kernel
theorem dX0_parts_7 : decode cX0_parts 7 = .ok (.i2l, 1) := by decide +kernel
theorem dX0_parts_8 : decode cX0_parts 8 = .ok (.aload_n 0, 1) := by decide +kernel
theorem dX0_parts_9 : decode cX0_parts 9 = .ok (.iload_n 2, 1) := by decide +kernel
theorem dX0_parts_10 : decode cX0_parts 10 = .ok (.invokevirtual 30, 3) := by decide +kernel
theorem dX0_parts_13 : decode cX0_parts 13 = .ok (.i2l, 1) := by decide +kernel
theorem dX0_parts_14 : decode cX0_parts 14 = .ok (.invokevirtual 56, 3) := by decide +kernel
theorem dX0_parts_17 : decode cX0_parts 17 = .ok (.lstore_n 3, 1) := by decide +kernel
theorem dX0_parts_18 : decode cX0_parts 18 = .ok (.aload_n 0, 1) := by decide +kernel
theorem dX0_parts_19 : decode cX0_parts 19 = .ok (.iload_n 1, 1) := by decide +kernel
theorem dX0_parts_20 : decode cX0_parts 20 = .ok (.aload_n 0, 1) := by decide +kernel
theorem dX0_parts_21 : decode cX0_parts 21 = .ok (.aload_n 0, 1) := by decide +kernel
theorem dX0_parts_22 : decode cX0_parts 22 = .ok (.iload_n 2, 1) := by decide +kernel
theorem dX0_parts_23 : decode cX0_parts 23 = .ok (.invokevirtual 37, 3) := by decide +kernel
theorem dX0_parts_26 : decode cX0_parts 26 = .ok (.invokevirtual 26, 3) := by decide +kernel
theorem dX0_parts_29 : decode cX0_parts 29 = .ok (.i2l, 1) := by decide +kernel
theorem dX0_parts_30 : decode cX0_parts 30 = .ok (.aload_n 0, 1) := by decide +kernel
theorem dX0_parts_31 : decode cX0_parts 31 = .ok (.aload_n 0, 1) := by decide +kernel
theorem dX0_parts_32 : decode cX0_parts 32 = .ok (.iload_n 2, 1) := by decide +kernel
theorem dX0_parts_33 : decode cX0_parts 33 = .ok (.invokevirtual 37, 3) := by decide +kernel
theorem dX0_parts_36 : decode cX0_parts 36 = .ok (.invokevirtual 30, 3) := by decide +kernel
theorem dX0_parts_39 : decode cX0_parts 39 = .ok (.i2l, 1) := by decide +kernel
theorem dX0_parts_40 : decode cX0_parts 40 = .ok (.invokevirtual 56, 3) := by decide +kernel
theorem dX0_parts_43 : decode cX0_parts 43 = .ok (.lstore 5, 2) := by decide +kernel
theorem dX0_parts_45 : decode cX0_parts 45 = .ok (.lload_n 3, 1) := by decide +kernel
theorem dX0_parts_46 : decode cX0_parts 46 = .ok (.lconst 0, 1) := by decide +kernel
theorem dX0_parts_47 : decode cX0_parts 47 = .ok (.lcmp, 1) := by decide +kernel
theorem dX0_parts_48 : decode cX0_parts 48 = .ok (.ifCond .ge 10, 3) := by decide +kernel
theorem dX0_parts_51 : decode cX0_parts 51 = .ok (.lload 5, 2) := by decide +kernel
theorem dX0_parts_53 : decode cX0_parts 53 = .ok (.lconst 0, 1) := by decide +kernel
theorem dX0_parts_54 : decode cX0_parts 54 = .ok (.lcmp, 1) := by decide +kernel
theorem dX0_parts_55 : decode cX0_parts 55 = .ok (.ifCond .gt 16, 3) := by decide +kernel
theorem dX0_parts_58 : decode cX0_parts 58 = .ok (.lload_n 3, 1) := by decide +kernel
theorem dX0_parts_59 : decode cX0_parts 59 = .ok (.lconst 0, 1) := by decide +kernel
theorem dX0_parts_60 : decode cX0_parts 60 = .ok (.lcmp, 1) := by decide +kernel
theorem dX0_parts_61 : decode cX0_parts 61 = .ok (.ifCond .le 14, 3) := by decide +kernel
theorem dX0_parts_64 : decode cX0_parts 64 = .ok (.lload 5, 2) := by decide +kernel
theorem dX0_parts_66 : decode cX0_parts 66 = .ok (.lconst 0, 1) := by decide +kernel
theorem dX0_parts_67 : decode cX0_parts 67 = .ok (.lcmp, 1) := by decide +kernel
theorem dX0_parts_68 : decode cX0_parts 68 = .ok (.ifCond .ge 7, 3) := by decide +kernel
theorem dX0_parts_71 : decode cX0_parts 71 = .ok (.iconst 1, 1) := by decide +kernel
theorem dX0_parts_72 : decode cX0_parts 72 = .ok (.goto 4, 3) := by decide +kernel
theorem dX0_parts_75 : decode cX0_parts 75 = .ok (.iconst 0, 1) := by decide +kernel
theorem dX0_parts_76 : decode cX0_parts 76 = .ok (.ireturn, 1) := by decide +kernel
set_option maxRecDepth 20000 in
theorem ggX0_squareTo_X0_x : GoodIn wsX0_squareTo wsX0_x := goodIn_r _ [5, 6, 12, 13, 14] (by decide +kernel) (by decide +kernel)
set_option maxRecDepth 20000 in
theorem gX0_squareTo_X0_x : GoodIn wsX0_squareTo (wsV RX0 26 RX0 yX0_x wsX0_x) := goodIn_app (goodIn_of _ (by decide +kernel)) ggX0_squareTo_X0_x
set_option maxRecDepth 20000 in
theorem ggX0_squareTo_X0_y : GoodIn wsX0_squareTo wsX0_y := goodIn_r _ [10, 11, 12, 13, 14] (by decide +kernel) (by decide +kernel)
set_option maxRecDepth 20000 in
theorem gX0_squareTo_X0_y : GoodIn wsX0_squareTo (wsV RX0 30 RX0 yX0_y wsX0_y) := goodIn_app (goodIn_of _ (by decide +kernel)) ggX0_squareTo_X0_y
theorem dX0_squareTo_0 : decode cX0_squareTo 0 = .ok (.lload_n 2, 1) := by decide +kernel
theorem dX0_squareTo_1 : decode cX0_squareTo 1 = .ok (.aload_n 0, 1) := by decide +kernel
theorem dX0_squareTo_2 : decode cX0_squareTo 2 = .ok (.iload_n 1, 1) := by decide +kernel
theorem dX0_squareTo_3 : decode cX0_squareTo 3 = .ok (.invokevirtual 26, 3) := by decide +kernel
theorem dX0_squareTo_6 : decode cX0_squareTo 6 = .ok (.i2l, 1) := by decide +kernel
theorem dX0_squareTo_7 : decode cX0_squareTo 7 = .ok (.lsub, 1) := by decide +kernel
theorem dX0_squareTo_8 : decode cX0_squareTo 8 = .ok (.lstore 6, 2) := by decide +kernel
theorem dX0_squareTo_10 : decode cX0_squareTo 10 = .ok (.lload 4, 2) := by decide +kernel
theorem dX0_squareTo_12 : decode cX0_squareTo 12 = .ok (.aload_n 0, 1) := by decide +kernel
theorem dX0_squareTo_13 : decode cX0_squareTo 13 = .ok (.iload_n 1, 1) := by decide +kernel
theorem dX0_squareTo_14 : decode cX0_squareTo 14 = .ok (.invokevirtual 30, 3) := by decide +kernel
theorem dX0_squareTo_17 : decode cX0_squareTo 17 = .ok (.i2l, 1) := by decide +kernel
theorem dX0_squareTo_18 : decode cX0_squareTo 18 = .ok (.lsub, 1) := by decide +kernel
theorem dX0_squareTo_19 : decode cX0_squareTo 19 = .ok (.lstore 8, 2) := by decide +kernel
theorem dX0_squareTo_21 : decode cX0_squareTo 21 = .ok (.lload 6, 2) := by decide +kernel
theorem dX0_squareTo_23 : decode cX0_squareTo 23 = .ok (.lload 6, 2) := by decide +kernel
theorem dX0_squareTo_25 : decode cX0_squareTo 25 = .ok (.lmul, 1) := by decide +kernel
theorem dX0_squareTo_26 : decode cX0_squareTo 26 = .ok (.lload 8, 2) := by decide +kernel
theorem dX0_squareTo_28 : decode cX0_squareTo 28 = .ok (.lload 8, 2) := by decide +kernel
theorem dX0_squareTo_30 : decode cX0_squareTo 30 = .ok (.lmul, 1) := by decide +kernel
theorem dX0_squareTo_31 : decode cX0_squareTo 31 = .ok (.ladd, 1) := by decide +kernel
theorem dX0_squareTo_32 : decode cX0_squareTo 32 = .ok (.lreturn, 1) := by decide +kernel
set_option maxRecDepth 20000 in
theorem ggX0_nearestAgainst_X0_next : GoodIn wsX0_nearestAgainst wsX0_next := goodIn_r _ [5, 6, 29, 30, 31] (by decide +kernel) (by decide +kernel)
set_option maxRecDepth 20000 in
theorem gX0_nearestAgainst_X0_next : GoodIn wsX0_nearestAgainst (wsV RX0 37 RX0 yX0_next wsX0_next) := goodIn_app (goodIn_of _ (by decide +kernel)) ggX0_nearestAgainst_X0_next
set_option maxRecDepth 20000 in
theorem ggX0_nearestAgainst_X0_x : GoodIn wsX0_nearestAgainst wsX0_x := goodIn_r _ [10, 11, 29, 30, 31] (by decide +kernel) (by decide +kernel)
set_option maxRecDepth 20000 in
theorem gX0_nearestAgainst_X0_x : GoodIn wsX0_nearestAgainst (wsV RX0 26 RX0 yX0_x wsX0_x) := goodIn_app (goodIn_of _ (by decide +kernel)) ggX0_nearestAgainst_X0_x
set_option maxRecDepth 20000 in
theorem ggX0_nearestAgainst_X0_y : GoodIn wsX0_nearestAgainst wsX0_y := goodIn_r _ [15, 16, 29, 30, 31] (by decide +kernel) (by decide +kernel)
set_option maxRecDepth 20000 in
theorem gX0_nearestAgainst_X0_y : GoodIn wsX0_nearestAgainst (wsV RX0 30 RX0 yX0_y wsX0_y) := goodIn_app (goodIn_of _ (by decide +kernel)) ggX0_nearestAgainst_X0_y
set_option maxRecDepth 20000 in
theorem ggX0_nearestAgainst_X0_squareTo : GoodIn wsX0_nearestAgainst wsX0_squareTo := goodIn_r _ [20, 7, 8, 9, 4, 10, 11, 12, 13, 14, 15, 16, 29, 30, 31] (by decide +kernel) (by decide +kernel)
set_option maxRecDepth 20000 in
theorem gX0_nearestAgainst_X0_squareTo : GoodIn wsX0_nearestAgainst (wsV RX0 83 RX0 yX0_squareTo wsX0_squareTo) := goodIn_app (goodIn_of _ (by decide +kernel)) ggX0_nearestAgainst_X0_squareTo
set_option maxRecDepth 20000 in
theorem ggX0_nearestAgainst_J13_compare_74951 : GoodIn wsX0_nearestAgainst wsJ13_compare_74951 := goodIn_r _ [24] (by decide +kernel) (by decide +kernel)
set_option maxRecDepth 20000 in
theorem gX0_nearestAgainst_J13_compare_74951 : GoodIn wsX0_nearestAgainst (va_wsS RX0 86 yJ13_compare_74951 wsJ13_compare_74951) := goodIn_app (goodIn_of _ (by decide +kernel)) ggX0_nearestAgainst_J13_compare_74951
set_option maxRecDepth 20000 in
theorem ggX0_nearestAgainst_X0_leftOf : GoodIn wsX0_nearestAgainst wsX0_leftOf := goodIn_r _ [28, 1, 2, 3, 4, 5, 6, 7, 8, 9, 10, 11, 12, 13, 14, 15, 16, 29, 30, 31] (by decide +kernel) (by decide +kernel)
set_option maxRecDepth 20000 in
theorem gX0_nearestAgainst_X0_leftOf : GoodIn wsX0_nearestAgainst (wsV RX0 56 RX0 yX0_leftOf wsX0_leftOf) := goodIn_app (goodIn_of _ (by decide +kernel)) ggX0_nearestAgainst_X0_leftOf
theorem dX0_nearestAgainst_0 : decode cX0_nearestAgainst 0 = .ok (.aload_n 0, 1) := by decide +kernel
theorem dX0_nearestAgainst_1 : decode cX0_nearestAgainst 1 = .ok (.iload_n 1, 1) := by decide +kernel
theorem dX0_nearestAgainst_2 : decode cX0_nearestAgainst 2 = .ok (.invokevirtual 37, 3) := by decide +kernel
theorem dX0_nearestAgainst_5 : decode cX0_nearestAgainst 5 = .ok (.istore 6, 2) := by decide +kernel
theorem dX0_nearestAgainst_7 : decode cX0_nearestAgainst 7 = .ok (.aload_n 0, 1) := by decide +kernel
theorem dX0_nearestAgainst_8 : decode cX0_nearestAgainst 8 = .ok (.iload 6, 2) := by decide +kernel
theorem dX0_nearestAgainst_10 : decode cX0_nearestAgainst 10 = .ok (.invokevirtual 26, 3) := by decide +kernel
theorem dX0_nearestAgainst_13 : decode cX0_nearestAgainst 13 = .ok (.aload_n 0, 1) := by decide +kernel
theorem dX0_nearestAgainst_14 : decode cX0_nearestAgainst 14 = .ok (.iload_n 1, 1) := by decide +kernel
theorem dX0_nearestAgainst_15 : decode cX0_nearestAgainst 15 = .ok (.invokevirtual 26, 3) := by decide +kernel
theorem dX0_nearestAgainst_18 : decode cX0_nearestAgainst 18 = .ok (.isub, 1) := by decide +kernel
theorem dX0_nearestAgainst_19 : decode cX0_nearestAgainst 19 = .ok (.i2l, 1) := by decide +kernel
theorem dX0_nearestAgainst_20 : decode cX0_nearestAgainst 20 = .ok (.lstore 7, 2) := by decide +kernel
theorem dX0_nearestAgainst_22 : decode cX0_nearestAgainst 22 = .ok (.aload_n 0, 1) := by decide +kernel
theorem dX0_nearestAgainst_23 : decode cX0_nearestAgainst 23 = .ok (.iload 6, 2) := by decide +kernel
theorem dX0_nearestAgainst_25 : decode cX0_nearestAgainst 25 = .ok (.invokevirtual 30, 3) := by decide +kernel
theorem dX0_nearestAgainst_28 : decode cX0_nearestAgainst 28 = .ok (.aload_n 0, 1) := by decide +kernel
theorem dX0_nearestAgainst_29 : decode cX0_nearestAgainst 29 = .ok (.iload_n 1, 1) := by decide +kernel
theorem dX0_nearestAgainst_30 : decode cX0_nearestAgainst 30 = .ok (.invokevirtual 30, 3) := by decide +kernel
theorem dX0_nearestAgainst_33 : decode cX0_nearestAgainst 33 = .ok (.isub, 1) := by decide +kernel
theorem dX0_nearestAgainst_34 : decode cX0_nearestAgainst 34 = .ok (.i2l, 1) := by decide +kernel
theorem dX0_nearestAgainst_35 : decode cX0_nearestAgainst 35 = .ok (.lstore 9, 2) := by decide +kernel
theorem dX0_nearestAgainst_37 : decode cX0_nearestAgainst 37 = .ok (.lload 7, 2) := by decide +kernel
theorem dX0_nearestAgainst_39 : decode cX0_nearestAgainst 39 = .ok (.lload 7, 2) := by decide +kernel
theorem dX0_nearestAgainst_41 : decode cX0_nearestAgainst 41 = .ok (.lmul, 1) := by decide +kernel
theorem dX0_nearestAgainst_42 : decode cX0_nearestAgainst 42 = .ok (.lload 9, 2) := by decide +kernel
theorem dX0_nearestAgainst_44 : decode cX0_nearestAgainst 44 = .ok (.lload 9, 2) := by decide +kernel
theorem dX0_nearestAgainst_46 : decode cX0_nearestAgainst 46 = .ok (.lmul, 1) := by decide +kernel
theorem dX0_nearestAgainst_47 : decode cX0_nearestAgainst 47 = .ok (.ladd, 1) := by decide +kernel
theorem dX0_nearestAgainst_48 : decode cX0_nearestAgainst 48 = .ok (.lstore 11, 2) := by decide +kernel
theorem dX0_nearestAgainst_50 : decode cX0_nearestAgainst 50 = .ok (.lload 7, 2) := by decide +kernel
theorem dX0_nearestAgainst_52 : decode cX0_nearestAgainst 52 = .ok (.iload_n 2, 1) := by decide +kernel
theorem dX0_nearestAgainst_53 : decode cX0_nearestAgainst 53 = .ok (.aload_n 0, 1) := by decide +kernel
theorem dX0_nearestAgainst_54 : decode cX0_nearestAgainst 54 = .ok (.iload_n 1, 1) := by decide +kernel
theorem dX0_nearestAgainst_55 : decode cX0_nearestAgainst 55 = .ok (.invokevirtual 26, 3) := by decide +kernel
theorem dX0_nearestAgainst_58 : decode cX0_nearestAgainst 58 = .ok (.isub, 1) := by decide +kernel
theorem dX0_nearestAgainst_59 : decode cX0_nearestAgainst 59 = .ok (.i2l, 1) := by decide +kernel
theorem dX0_nearestAgainst_60 : decode cX0_nearestAgainst 60 = .ok (.lmul, 1) := by decide +kernel
theorem dX0_nearestAgainst_61 : decode cX0_nearestAgainst 61 = .ok (.lload 9, 2) := by decide +kernel
theorem dX0_nearestAgainst_63 : decode cX0_nearestAgainst 63 = .ok (.iload_n 3, 1) := by decide +kernel
theorem dX0_nearestAgainst_64 : decode cX0_nearestAgainst 64 = .ok (.aload_n 0, 1) := by decide +kernel
theorem dX0_nearestAgainst_65 : decode cX0_nearestAgainst 65 = .ok (.iload_n 1, 1) := by decide +kernel
theorem dX0_nearestAgainst_66 : decode cX0_nearestAgainst 66 = .ok (.invokevirtual 30, 3) := by decide +kernel
theorem dX0_nearestAgainst_69 : decode cX0_nearestAgainst 69 = .ok (.isub, 1) := by decide +kernel
theorem dX0_nearestAgainst_70 : decode cX0_nearestAgainst 70 = .ok (.i2l, 1) := by decide +kernel
theorem dX0_nearestAgainst_71 : decode cX0_nearestAgainst 71 = .ok (.lmul, 1) := by decide +kernel
theorem dX0_nearestAgainst_72 : decode cX0_nearestAgainst 72 = .ok (.ladd, 1) := by decide +kernel
theorem dX0_nearestAgainst_73 : decode cX0_nearestAgainst 73 = .ok (.lstore 13, 2) := by decide +kernel
theorem dX0_nearestAgainst_75 : decode cX0_nearestAgainst 75 = .ok (.lload 13, 2) := by decide +kernel
theorem dX0_nearestAgainst_77 : decode cX0_nearestAgainst 77 = .ok (.lconst 0, 1) := by decide +kernel
theorem dX0_nearestAgainst_78 : decode cX0_nearestAgainst 78 = .ok (.lcmp, 1) := by decide +kernel
theorem dX0_nearestAgainst_79 : decode cX0_nearestAgainst 79 = .ok (.ifCond .gt 18, 3) := by decide +kernel
theorem dX0_nearestAgainst_82 : decode cX0_nearestAgainst 82 = .ok (.aload_n 0, 1) := by decide +kernel
theorem dX0_nearestAgainst_83 : decode cX0_nearestAgainst 83 = .ok (.iload_n 1, 1) := by decide +kernel
theorem dX0_nearestAgainst_84 : decode cX0_nearestAgainst 84 = .ok (.iload_n 2, 1) := by decide +kernel
theorem dX0_nearestAgainst_85 : decode cX0_nearestAgainst 85 = .ok (.i2l, 1) := by decide +kernel
theorem dX0_nearestAgainst_86 : decode cX0_nearestAgainst 86 = .ok (.iload_n 3, 1) := by decide +kernel
theorem dX0_nearestAgainst_87 : decode cX0_nearestAgainst 87 = .ok (.i2l, 1) := by decide +kernel
theorem dX0_nearestAgainst_88 : decode cX0_nearestAgainst 88 = .ok (.invokevirtual 83, 3) := by decide +kernel
theorem dX0_nearestAgainst_91 : decode cX0_nearestAgainst 91 = .ok (.lload 4, 2) := by decide +kernel
theorem dX0_nearestAgainst_93 : decode cX0_nearestAgainst 93 = .ok (.invokestatic 86, 3) := by decide +kernel
theorem dX0_nearestAgainst_96 : decode cX0_nearestAgainst 96 = .ok (.ireturn, 1) := by decide +kernel
theorem dX0_nearestAgainst_97 : decode cX0_nearestAgainst 97 = .ok (.lload 13, 2) := by decide +kernel
theorem dX0_nearestAgainst_99 : decode cX0_nearestAgainst 99 = .ok (.lload 11, 2) := by decide +kernel
theorem dX0_nearestAgainst_101 : decode cX0_nearestAgainst 101 = .ok (.lcmp, 1) := by decide +kernel
theorem dX0_nearestAgainst_102 : decode cX0_nearestAgainst 102 = .ok (.ifCond .lt 19, 3) := by decide +kernel
theorem dX0_nearestAgainst_105 : decode cX0_nearestAgainst 105 = .ok (.aload_n 0, 1) := by decide +kernel
theorem dX0_nearestAgainst_106 : decode cX0_nearestAgainst 106 = .ok (.iload 6, 2) := by decide +kernel
theorem dX0_nearestAgainst_108 : decode cX0_nearestAgainst 108 = .ok (.iload_n 2, 1) := by decide +kernel
theorem dX0_nearestAgainst_109 : decode cX0_nearestAgainst 109 = .ok (.i2l, 1) := by decide +kernel
theorem dX0_nearestAgainst_110 : decode cX0_nearestAgainst 110 = .ok (.iload_n 3, 1) := by decide +kernel
theorem dX0_nearestAgainst_111 : decode cX0_nearestAgainst 111 = .ok (.i2l, 1) := by decide +kernel
theorem dX0_nearestAgainst_112 : decode cX0_nearestAgainst 112 = .ok (.invokevirtual 83, 3) := by decide +kernel
theorem dX0_nearestAgainst_115 : decode cX0_nearestAgainst 115 = .ok (.lload 4, 2) := by decide +kernel
theorem dX0_nearestAgainst_117 : decode cX0_nearestAgainst 117 = .ok (.invokestatic 86, 3) := by decide +kernel
theorem dX0_nearestAgainst_120 : decode cX0_nearestAgainst 120 = .ok (.ireturn, 1) := by decide +kernel
theorem dX0_nearestAgainst_121 : decode cX0_nearestAgainst 121 = .ok (.aload_n 0, 1) := by decide +kernel
theorem dX0_nearestAgainst_122 : decode cX0_nearestAgainst 122 = .ok (.iload_n 1, 1) := by decide +kernel
theorem dX0_nearestAgainst_123 : decode cX0_nearestAgainst 123 = .ok (.iload_n 2, 1) := by decide +kernel
theorem dX0_nearestAgainst_124 : decode cX0_nearestAgainst 124 = .ok (.i2l, 1) := by decide +kernel
theorem dX0_nearestAgainst_125 : decode cX0_nearestAgainst 125 = .ok (.iload_n 3, 1) := by decide +kernel
theorem dX0_nearestAgainst_126 : decode cX0_nearestAgainst 126 = .ok (.i2l, 1) := by decide +kernel
theorem dX0_nearestAgainst_127 : decode cX0_nearestAgainst 127 = .ok (.invokevirtual 56, 3) := by decide +kernel
theorem dX0_nearestAgainst_130 : decode cX0_nearestAgainst 130 = .ok (.lstore 15, 2) := by decide +kernel
theorem dX0_nearestAgainst_132 : decode cX0_nearestAgainst 132 = .ok (.lload 15, 2) := by decide +kernel
theorem dX0_nearestAgainst_134 : decode cX0_nearestAgainst 134 = .ok (.lload 15, 2) := by decide +kernel
theorem dX0_nearestAgainst_136 : decode cX0_nearestAgainst 136 = .ok (.lmul, 1) := by decide +kernel
theorem dX0_nearestAgainst_137 : decode cX0_nearestAgainst 137 = .ok (.lload 4, 2) := by decide +kernel
theorem dX0_nearestAgainst_139 : decode cX0_nearestAgainst 139 = .ok (.lload 11, 2) := by decide +kernel
theorem dX0_nearestAgainst_141 : decode cX0_nearestAgainst 141 = .ok (.lmul, 1) := by decide +kernel
theorem dX0_nearestAgainst_142 : decode cX0_nearestAgainst 142 = .ok (.invokestatic 86, 3) := by decide +kernel
theorem dX0_nearestAgainst_145 : decode cX0_nearestAgainst 145 = .ok (.ireturn, 1) := by decide +kernel
set_option maxRecDepth 20000 in
theorem ggX0_samePlace_X0_x : GoodIn wsX0_samePlace wsX0_x := goodIn_r _ [5, 6, 12, 13, 14] (by decide +kernel) (by decide +kernel)
set_option maxRecDepth 20000 in
theorem gX0_samePlace_X0_x : GoodIn wsX0_samePlace (wsV RX0 26 RX0 yX0_x wsX0_x) := goodIn_app (goodIn_of _ (by decide +kernel)) ggX0_samePlace_X0_x
set_option maxRecDepth 20000 in
theorem ggX0_samePlace_X0_y : GoodIn wsX0_samePlace wsX0_y := goodIn_r _ [10, 11, 12, 13, 14] (by decide +kernel) (by decide +kernel)
set_option maxRecDepth 20000 in
theorem gX0_samePlace_X0_y : GoodIn wsX0_samePlace (wsV RX0 30 RX0 yX0_y wsX0_y) := goodIn_app (goodIn_of _ (by decide +kernel)) ggX0_samePlace_X0_y
theorem dX0_samePlace_0 : decode cX0_samePlace 0 = .ok (.aload_n 0, 1) := by decide +kernel
theorem dX0_samePlace_1 : decode cX0_samePlace 1 = .ok (.iload_n 1, 1) := by decide +kernel
theorem dX0_samePlace_2 : decode cX0_samePlace 2 = .ok (.invokevirtual 26, 3) := by decide +kernel
theorem dX0_samePlace_5 : decode cX0_samePlace 5 = .ok (.aload_n 2, 1) := by decide +kernel
theorem dX0_samePlace_6 : decode cX0_samePlace 6 = .ok (.iload_n 3, 1) := by decide +kernel
theorem dX0_samePlace_7 : decode cX0_samePlace 7 = .ok (.invokevirtual 26, 3) := by decide +kernel
theorem dX0_samePlace_10 : decode cX0_samePlace 10 = .ok (.if_icmp .ne 20, 3) := by decide +kernel
theorem dX0_samePlace_13 : decode cX0_samePlace 13 = .ok (.aload_n 0, 1) := by decide +kernel
theorem dX0_samePlace_14 : decode cX0_samePlace 14 = .ok (.iload_n 1, 1) := by decide +kernel
theorem dX0_samePlace_15 : decode cX0_samePlace 15 = .ok (.invokevirtual 30, 3) := by decide +kernel
theorem dX0_samePlace_18 : decode cX0_samePlace 18 = .ok (.aload_n 2, 1) := by decide +kernel
theorem dX0_samePlace_19 : decode cX0_samePlace 19 = .ok (.iload_n 3, 1) := by decide +kernel
theorem dX0_samePlace_20 : decode cX0_samePlace 20 = .ok (.invokevirtual 30, 3) := by decide +kernel
theorem dX0_samePlace_23 : decode cX0_samePlace 23 = .ok (.if_icmp .ne 7, 3) := by decide +kernel
theorem dX0_samePlace_26 : decode cX0_samePlace 26 = .ok (.iconst 1, 1) := by decide +kernel
theorem dX0_samePlace_27 : decode cX0_samePlace 27 = .ok (.goto 4, 3) := by decide +kernel
theorem dX0_samePlace_30 : decode cX0_samePlace 30 = .ok (.iconst 0, 1) := by decide +kernel
theorem dX0_samePlace_31 : decode cX0_samePlace 31 = .ok (.ireturn, 1) := by decide +kernel
set_option maxRecDepth 20000 in
theorem ggX0_takeIn_X0_x : GoodIn wsX0_takeIn wsX0_x := goodIn_r _ [6, 7, 21, 22, 23] (by decide +kernel) (by decide +kernel)
set_option maxRecDepth 20000 in
theorem gX0_takeIn_X0_x : GoodIn wsX0_takeIn (wsV RX0 26 RX0 yX0_x wsX0_x) := goodIn_app (goodIn_of _ (by decide +kernel)) ggX0_takeIn_X0_x
set_option maxRecDepth 20000 in
theorem ggX0_takeIn_X0_y : GoodIn wsX0_takeIn wsX0_y := goodIn_r _ [11, 12, 21, 22, 23] (by decide +kernel) (by decide +kernel)
set_option maxRecDepth 20000 in
theorem gX0_takeIn_X0_y : GoodIn wsX0_takeIn (wsV RX0 30 RX0 yX0_y wsX0_y) := goodIn_app (goodIn_of _ (by decide +kernel)) ggX0_takeIn_X0_y
set_option maxRecDepth 20000 in
theorem ggX0_takeIn_X0_put : GoodIn wsX0_takeIn wsX0_put := goodIn_r _ [16, 7, 12, 21, 22, 23] (by decide +kernel) (by decide +kernel)
set_option maxRecDepth 20000 in
theorem gX0_takeIn_X0_put : GoodIn wsX0_takeIn (wsV RX0 22 RX0 yX0_put wsX0_put) := goodIn_app (goodIn_of _ (by decide +kernel)) ggX0_takeIn_X0_put
set_option maxRecDepth 20000 in
theorem ggX0_takeIn_X0_next : GoodIn wsX0_takeIn wsX0_next := goodIn_r _ [20, 1, 21, 22, 23] (by decide +kernel) (by decide +kernel)
set_option maxRecDepth 20000 in
theorem gX0_takeIn_X0_next : GoodIn wsX0_takeIn (wsV RX0 37 RX0 yX0_next wsX0_next) := goodIn_app (goodIn_of _ (by decide +kernel)) ggX0_takeIn_X0_next
theorem dX0_takeIn_0 : decode cX0_takeIn 0 = .ok (.aload_n 2, 1) := by decide +kernel
theorem dX0_takeIn_1 : decode cX0_takeIn 1 = .ok (.getfield 18, 3) := by decide +kernel
theorem dX0_takeIn_4 : decode cX0_takeIn 4 = .ok (.iconst 2, 1) := by decide +kernel
theorem dX0_takeIn_5 : decode cX0_takeIn 5 = .ok (.isub, 1) := by decide +kernel
theorem dX0_takeIn_6 : decode cX0_takeIn 6 = .ok (.istore 4, 2) := by decide +kernel
theorem dX0_takeIn_8 : decode cX0_takeIn 8 = .ok (.aload_n 0, 1) := by decide +kernel
theorem dX0_takeIn_9 : decode cX0_takeIn 9 = .ok (.getfield 18, 3) := by decide +kernel
theorem dX0_takeIn_12 : decode cX0_takeIn 12 = .ok (.iconst 1, 1) := by decide +kernel
theorem dX0_takeIn_13 : decode cX0_takeIn 13 = .ok (.isub, 1) := by decide +kernel
theorem dX0_takeIn_14 : decode cX0_takeIn 14 = .ok (.istore 5, 2) := by decide +kernel
theorem dX0_takeIn_16 : decode cX0_takeIn 16 = .ok (.iload 5, 2) := by decide +kernel
theorem dX0_takeIn_18 : decode cX0_takeIn 18 = .ok (.iload_n 1, 1) := by decide +kernel
theorem dX0_takeIn_19 : decode cX0_takeIn 19 = .ok (.if_icmp .le 30, 3) := by decide +kernel
theorem dX0_takeIn_22 : decode cX0_takeIn 22 = .ok (.aload_n 0, 1) := by decide +kernel
theorem dX0_takeIn_23 : decode cX0_takeIn 23 = .ok (.iload 5, 2) := by decide +kernel
theorem dX0_takeIn_25 : decode cX0_takeIn 25 = .ok (.iload 4, 2) := by decide +kernel
theorem dX0_takeIn_27 : decode cX0_takeIn 27 = .ok (.iadd, 1) := by decide +kernel
theorem dX0_takeIn_28 : decode cX0_takeIn 28 = .ok (.aload_n 0, 1) := by decide +kernel
theorem dX0_takeIn_29 : decode cX0_takeIn 29 = .ok (.iload 5, 2) := by decide +kernel
theorem dX0_takeIn_31 : decode cX0_takeIn 31 = .ok (.invokevirtual 26, 3) := by decide +kernel
theorem dX0_takeIn_34 : decode cX0_takeIn 34 = .ok (.aload_n 0, 1) := by decide +kernel
theorem dX0_takeIn_35 : decode cX0_takeIn 35 = .ok (.iload 5, 2) := by decide +kernel
theorem dX0_takeIn_37 : decode cX0_takeIn 37 = .ok (.invokevirtual 30, 3) := by decide +kernel
theorem dX0_takeIn_40 : decode cX0_takeIn 40 = .ok (.invokevirtual 22, 3) := by decide +kernel
theorem dX0_takeIn_43 : decode cX0_takeIn 43 = .ok (.iinc 5 (-1), 3) := by decide +kernel
theorem dX0_takeIn_46 : decode cX0_takeIn 46 = .ok (.goto (-30), 3) := by decide +kernel
theorem dX0_takeIn_49 : decode cX0_takeIn 49 = .ok (.aload_n 2, 1) := by decide +kernel
theorem dX0_takeIn_50 : decode cX0_takeIn 50 = .ok (.aload_n 2, 1) := by decide +kernel
theorem dX0_takeIn_51 : decode cX0_takeIn 51 = .ok (.iload_n 3, 1) := by decide +kernel
theorem dX0_takeIn_52 : decode cX0_takeIn 52 = .ok (.invokevirtual 37, 3) := by decide +kernel
theorem dX0_takeIn_55 : decode cX0_takeIn 55 = .ok (.invokevirtual 37, 3) := by decide +kernel
theorem dX0_takeIn_58 : decode cX0_takeIn 58 = .ok (.istore 5, 2) := by decide +kernel
theorem dX0_takeIn_60 : decode cX0_takeIn 60 = .ok (.iconst 1, 1) := by decide +kernel
theorem dX0_takeIn_61 : decode cX0_takeIn 61 = .ok (.istore 6, 2) := by decide +kernel
theorem dX0_takeIn_63 : decode cX0_takeIn 63 = .ok (.iload 6, 2) := by decide +kernel
theorem dX0_takeIn_65 : decode cX0_takeIn 65 = .ok (.iload 4, 2) := by decide +kernel
theorem dX0_takeIn_67 : decode cX0_takeIn 67 = .ok (.if_icmp .gt 37, 3) := by decide +kernel
theorem dX0_takeIn_70 : decode cX0_takeIn 70 = .ok (.aload_n 0, 1) := by decide +kernel
theorem dX0_takeIn_71 : decode cX0_takeIn 71 = .ok (.iload_n 1, 1) := by decide +kernel
theorem dX0_takeIn_72 : decode cX0_takeIn 72 = .ok (.iload 6, 2) := by decide +kernel
theorem dX0_takeIn_74 : decode cX0_takeIn 74 = .ok (.iadd, 1) := by decide +kernel
theorem dX0_takeIn_75 : decode cX0_takeIn 75 = .ok (.aload_n 2, 1) := by decide +kernel
theorem dX0_takeIn_76 : decode cX0_takeIn 76 = .ok (.iload 5, 2) := by decide +kernel
theorem dX0_takeIn_78 : decode cX0_takeIn 78 = .ok (.invokevirtual 26, 3) := by decide +kernel
theorem dX0_takeIn_81 : decode cX0_takeIn 81 = .ok (.aload_n 2, 1) := by decide +kernel
theorem dX0_takeIn_82 : decode cX0_takeIn 82 = .ok (.iload 5, 2) := by decide +kernel
theorem dX0_takeIn_84 : decode cX0_takeIn 84 = .ok (.invokevirtual 30, 3) := by decide +kernel
theorem dX0_takeIn_87 : decode cX0_takeIn 87 = .ok (.invokevirtual 22, 3) := by decide +kernel
theorem dX0_takeIn_90 : decode cX0_takeIn 90 = .ok (.aload_n 2, 1) := by decide +kernel
theorem dX0_takeIn_91 : decode cX0_takeIn 91 = .ok (.iload 5, 2) := by decide +kernel
theorem dX0_takeIn_93 : decode cX0_takeIn 93 = .ok (.invokevirtual 37, 3) := by decide +kernel
theorem dX0_takeIn_96 : decode cX0_takeIn 96 = .ok (.istore 5, 2) := by decide +kernel
theorem dX0_takeIn_98 : decode cX0_takeIn 98 = .ok (.iinc 6 1, 3) := by decide +kernel
theorem dX0_takeIn_101 : decode cX0_takeIn 101 = .ok (.goto (-38), 3) := by decide +kernel
theorem dX0_takeIn_104 : decode cX0_takeIn 104 = .ok (.aload_n 0, 1) := by decide +kernel
theorem dX0_takeIn_105 : decode cX0_takeIn 105 = .ok (.dup, 1) := by decide +kernel
theorem dX0_takeIn_106 : decode cX0_takeIn 106 = .ok (.getfield 18, 3) := by decide +kernel
theorem dX0_takeIn_109 : decode cX0_takeIn 109 = .ok (.iload 4, 2) := by decide +kernel
theorem dX0_takeIn_111 : decode cX0_takeIn 111 = .ok (.iadd, 1) := by decide +kernel
theorem dX0_takeIn_112 : decode cX0_takeIn 112 = .ok (.putfield 18, 3) := by decide +kernel
theorem dX0_takeIn_115 : decode cX0_takeIn 115 = .ok (.return_, 1) := by decide +kernel
set_option maxRecDepth 20000 in
theorem ggX0_crosses_X0_y : GoodIn wsX0_crosses wsX0_y := goodIn_r _ [5, 6, 12, 13, 14] (by decide +kernel) (by decide +kernel)
set_option maxRecDepth 20000 in
theorem gX0_crosses_X0_y : GoodIn wsX0_crosses (wsV RX0 30 RX0 yX0_y wsX0_y) := goodIn_app (goodIn_of _ (by decide +kernel)) ggX0_crosses_X0_y
set_option maxRecDepth 20000 in
theorem ggX0_crosses_X0_next : GoodIn wsX0_crosses wsX0_next := goodIn_r _ [10, 11, 12, 13, 14] (by decide +kernel) (by decide +kernel)
set_option maxRecDepth 20000 in
theorem gX0_crosses_X0_next : GoodIn wsX0_crosses (wsV RX0 37 RX0 yX0_next wsX0_next) := goodIn_app (goodIn_of _ (by decide +kernel)) ggX0_crosses_X0_next
theorem dX0_crosses_0 : decode cX0_crosses 0 = .ok (.aload_n 0, 1) := by decide +kernel
theorem dX0_crosses_1 : decode cX0_crosses 1 = .ok (.iload_n 1, 1) := by decide +kernel
theorem dX0_crosses_2 : decode cX0_crosses 2 = .ok (.invokevirtual 30, 3) := by decide +kernel
theorem dX0_crosses_5 : decode cX0_crosses 5 = .ok (.istore_n 3, 1) := by decide +kernel
theorem dX0_crosses_6 : decode cX0_crosses 6 = .ok (.aload_n 0, 1) := by decide +kernel
theorem dX0_crosses_7 : decode cX0_crosses 7 = .ok (.aload_n 0, 1) := by decide +kernel
theorem dX0_crosses_8 : decode cX0_crosses 8 = .ok (.iload_n 1, 1) := by decide +kernel
theorem dX0_crosses_9 : decode cX0_crosses 9 = .ok (.invokevirtual 37, 3) := by decide +kernel
theorem dX0_crosses_12 : decode cX0_crosses 12 = .ok (.invokevirtual 30, 3) := by decide +kernel
theorem dX0_crosses_15 : decode cX0_crosses 15 = .ok (.istore 4, 2) := by decide +kernel
theorem dX0_crosses_17 : decode cX0_crosses 17 = .ok (.iload_n 3, 1) := by decide +kernel
theorem dX0_crosses_18 : decode cX0_crosses 18 = .ok (.iload_n 2, 1) := by decide +kernel
theorem dX0_crosses_19 : decode cX0_crosses 19 = .ok (.if_icmp .ge 9, 3) := by decide +kernel
theorem dX0_crosses_22 : decode cX0_crosses 22 = .ok (.iload 4, 2) := by decide +kernel
theorem dX0_crosses_24 : decode cX0_crosses 24 = .ok (.iload_n 2, 1) := by decide +kernel
theorem dX0_crosses_25 : decode cX0_crosses 25 = .ok (.if_icmp .gt 14, 3) := by decide +kernel
theorem dX0_crosses_28 : decode cX0_crosses 28 = .ok (.iload_n 3, 1) := by decide +kernel
theorem dX0_crosses_29 : decode cX0_crosses 29 = .ok (.iload_n 2, 1) := by decide +kernel
theorem dX0_crosses_30 : decode cX0_crosses 30 = .ok (.if_icmp .le 13, 3) := by decide +kernel
theorem dX0_crosses_33 : decode cX0_crosses 33 = .ok (.iload 4, 2) := by decide +kernel
theorem dX0_crosses_35 : decode cX0_crosses 35 = .ok (.iload_n 2, 1) := by decide +kernel
theorem dX0_crosses_36 : decode cX0_crosses 36 = .ok (.if_icmp .ge 7, 3) := by decide +kernel
theorem dX0_crosses_39 : decode cX0_crosses 39 = .ok (.iconst 1, 1) := by decide +kernel
theorem dX0_crosses_40 : decode cX0_crosses 40 = .ok (.goto 4, 3) := by decide +kernel
theorem dX0_crosses_43 : decode cX0_crosses 43 = .ok (.iconst 0, 1) := by decide +kernel
theorem dX0_crosses_44 : decode cX0_crosses 44 = .ok (.ireturn, 1) := by decide +kernel
set_option maxRecDepth 20000 in
theorem ggX0_crossingUpper_X0_next : GoodIn wsX0_crossingUpper wsX0_next := goodIn_r _ [5, 6, 17, 18, 19] (by decide +kernel) (by decide +kernel)
set_option maxRecDepth 20000 in
theorem gX0_crossingUpper_X0_next : GoodIn wsX0_crossingUpper (wsV RX0 37 RX0 yX0_next wsX0_next) := goodIn_app (goodIn_of _ (by decide +kernel)) ggX0_crossingUpper_X0_next
set_option maxRecDepth 20000 in
theorem ggX0_crossingUpper_X0_x : GoodIn wsX0_crossingUpper wsX0_x := goodIn_r _ [10, 11, 17, 18, 19] (by decide +kernel) (by decide +kernel)
set_option maxRecDepth 20000 in
theorem gX0_crossingUpper_X0_x : GoodIn wsX0_crossingUpper (wsV RX0 26 RX0 yX0_x wsX0_x) := goodIn_app (goodIn_of _ (by decide +kernel)) ggX0_crossingUpper_X0_x
set_option maxRecDepth 20000 in
theorem ggX0_crossingUpper_X0_y : GoodIn wsX0_crossingUpper wsX0_y := goodIn_r _ [15, 16, 17, 18, 19] (by decide +kernel) (by decide +kernel)
set_option maxRecDepth 20000 in
theorem gX0_crossingUpper_X0_y : GoodIn wsX0_crossingUpper (wsV RX0 30 RX0 yX0_y wsX0_y) := goodIn_app (goodIn_of _ (by decide +kernel)) ggX0_crossingUpper_X0_y
theorem dX0_crossingUpper_0 : decode cX0_crossingUpper 0 = .ok (.aload_n 0, 1) := by decide +kernel
theorem dX0_crossingUpper_1 : decode cX0_crossingUpper 1 = .ok (.aload_n 0, 1) := by decide +kernel
theorem dX0_crossingUpper_2 : decode cX0_crossingUpper 2 = .ok (.iload_n 1, 1) := by decide +kernel
theorem dX0_crossingUpper_3 : decode cX0_crossingUpper 3 = .ok (.invokevirtual 37, 3) := by decide +kernel
theorem dX0_crossingUpper_6 : decode cX0_crossingUpper 6 = .ok (.invokevirtual 26, 3) := by decide +kernel
theorem dX0_crossingUpper_9 : decode cX0_crossingUpper 9 = .ok (.aload_n 0, 1) := by decide +kernel
theorem dX0_crossingUpper_10 : decode cX0_crossingUpper 10 = .ok (.iload_n 1, 1) := by decide +kernel
theorem dX0_crossingUpper_11 : decode cX0_crossingUpper 11 = .ok (.invokevirtual 26, 3) := by decide +kernel
theorem dX0_crossingUpper_14 : decode cX0_crossingUpper 14 = .ok (.isub, 1) := by decide +kernel
theorem dX0_crossingUpper_15 : decode cX0_crossingUpper 15 = .ok (.iload_n 2, 1) := by decide +kernel
theorem dX0_crossingUpper_16 : decode cX0_crossingUpper 16 = .ok (.aload_n 0, 1) := by decide +kernel
theorem dX0_crossingUpper_17 : decode cX0_crossingUpper 17 = .ok (.iload_n 1, 1) := by decide +kernel
theorem dX0_crossingUpper_18 : decode cX0_crossingUpper 18 = .ok (.invokevirtual 30, 3) := by decide +kernel
theorem dX0_crossingUpper_21 : decode cX0_crossingUpper 21 = .ok (.isub, 1) := by decide +kernel
theorem dX0_crossingUpper_22 : decode cX0_crossingUpper 22 = .ok (.imul, 1) := by decide +kernel
theorem dX0_crossingUpper_23 : decode cX0_crossingUpper 23 = .ok (.ireturn, 1) := by decide +kernel
set_option maxRecDepth 20000 in
theorem ggX0_crossingLower_X0_next : GoodIn wsX0_crossingLower wsX0_next := goodIn_r _ [5, 6, 12, 13, 14] (by decide +kernel) (by decide +kernel)
set_option maxRecDepth 20000 in
theorem gX0_crossingLower_X0_next : GoodIn wsX0_crossingLower (wsV RX0 37 RX0 yX0_next wsX0_next) := goodIn_app (goodIn_of _ (by decide +kernel)) ggX0_crossingLower_X0_next
set_option maxRecDepth 20000 in
theorem ggX0_crossingLower_X0_y : GoodIn wsX0_crossingLower wsX0_y := goodIn_r _ [10, 11, 12, 13, 14] (by decide +kernel) (by decide +kernel)
set_option maxRecDepth 20000 in
theorem gX0_crossingLower_X0_y : GoodIn wsX0_crossingLower (wsV RX0 30 RX0 yX0_y wsX0_y) := goodIn_app (goodIn_of _ (by decide +kernel)) ggX0_crossingLower_X0_y
theorem dX0_crossingLower_0 : decode cX0_crossingLower 0 = .ok (.aload_n 0, 1) := by decide +kernel
theorem dX0_crossingLower_1 : decode cX0_crossingLower 1 = .ok (.aload_n 0, 1) := by decide +kernel
theorem dX0_crossingLower_2 : decode cX0_crossingLower 2 = .ok (.iload_n 1, 1) := by decide +kernel
theorem dX0_crossingLower_3 : decode cX0_crossingLower 3 = .ok (.invokevirtual 37, 3) := by decide +kernel
theorem dX0_crossingLower_6 : decode cX0_crossingLower 6 = .ok (.invokevirtual 30, 3) := by decide +kernel
theorem dX0_crossingLower_9 : decode cX0_crossingLower 9 = .ok (.aload_n 0, 1) := by decide +kernel
theorem dX0_crossingLower_10 : decode cX0_crossingLower 10 = .ok (.iload_n 1, 1) := by decide +kernel
theorem dX0_crossingLower_11 : decode cX0_crossingLower 11 = .ok (.invokevirtual 30, 3) := by decide +kernel
theorem dX0_crossingLower_14 : decode cX0_crossingLower 14 = .ok (.isub, 1) := by decide +kernel
theorem dX0_crossingLower_15 : decode cX0_crossingLower 15 = .ok (.ireturn, 1) := by decide +kernel
set_option maxRecDepth 20000 in
theorem ggX0_placesFrom_X0_y : GoodIn wsX0_placesFrom wsX0_y := goodIn_r _ [6, 7, 16, 17, 18] (by decide +kernel) (by decide +kernel)
set_option maxRecDepth 20000 in
theorem gX0_placesFrom_X0_y : GoodIn wsX0_placesFrom (wsV RX0 30 RX0 yX0_y wsX0_y) := goodIn_app (goodIn_of _ (by decide +kernel)) ggX0_placesFrom_X0_y
set_option maxRecDepth 20000 in
theorem ggX0_placesFrom_X0_crosses : GoodIn wsX0_placesFrom wsX0_crosses := goodIn_r _ [11, 2, 3, 4, 5, 6, 7, 12, 13, 14, 15, 1, 16, 17, 18] (by decide +kernel) (by decide +kernel)
set_option maxRecDepth 20000 in
theorem gX0_placesFrom_X0_crosses : GoodIn wsX0_placesFrom (wsV RX0 92 RX0 yX0_crosses wsX0_crosses) := goodIn_app (goodIn_of _ (by decide +kernel)) ggX0_placesFrom_X0_crosses
theorem dX0_placesFrom_0 : decode cX0_placesFrom 0 = .ok (.iconst 0, 1) := by decide +kernel
theorem dX0_placesFrom_1 : decode cX0_placesFrom 1 = .ok (.istore_n 2, 1) := by decide +kernel
theorem dX0_placesFrom_2 : decode cX0_placesFrom 2 = .ok (.iconst 0, 1) := by decide +kernel
theorem dX0_placesFrom_3 : decode cX0_placesFrom 3 = .ok (.istore_n 3, 1) := by decide +kernel
theorem dX0_placesFrom_4 : decode cX0_placesFrom 4 = .ok (.iload_n 3, 1) := by decide +kernel
theorem dX0_placesFrom_5 : decode cX0_placesFrom 5 = .ok (.aload_n 0, 1) := by decide +kernel
theorem dX0_placesFrom_6 : decode cX0_placesFrom 6 = .ok (.getfield 18, 3) := by decide +kernel
theorem dX0_placesFrom_9 : decode cX0_placesFrom 9 = .ok (.if_icmp .ge 33, 3) := by decide +kernel
theorem dX0_placesFrom_12 : decode cX0_placesFrom 12 = .ok (.aload_n 0, 1) := by decide +kernel
theorem dX0_placesFrom_13 : decode cX0_placesFrom 13 = .ok (.iload_n 3, 1) := by decide +kernel
theorem dX0_placesFrom_14 : decode cX0_placesFrom 14 = .ok (.invokevirtual 30, 3) := by decide +kernel
theorem dX0_placesFrom_17 : decode cX0_placesFrom 17 = .ok (.iload_n 1, 1) := by decide +kernel
theorem dX0_placesFrom_18 : decode cX0_placesFrom 18 = .ok (.if_icmp .lt 6, 3) := by decide +kernel
theorem dX0_placesFrom_21 : decode cX0_placesFrom 21 = .ok (.iinc 2 1, 3) := by decide +kernel
theorem dX0_placesFrom_24 : decode cX0_placesFrom 24 = .ok (.aload_n 0, 1) := by decide +kernel
theorem dX0_placesFrom_25 : decode cX0_placesFrom 25 = .ok (.iload_n 3, 1) := by decide +kernel
theorem dX0_placesFrom_26 : decode cX0_placesFrom 26 = .ok (.iload_n 1, 1) := by decide +kernel
theorem dX0_placesFrom_27 : decode cX0_placesFrom 27 = .ok (.invokevirtual 92, 3) := by decide +kernel
theorem dX0_placesFrom_30 : decode cX0_placesFrom 30 = .ok (.ifCond .eq 6, 3) := by decide +kernel
theorem dX0_placesFrom_33 : decode cX0_placesFrom 33 = .ok (.iinc 2 1, 3) := by decide +kernel
theorem dX0_placesFrom_36 : decode cX0_placesFrom 36 = .ok (.iinc 3 1, 3) := by decide +kernel
theorem dX0_placesFrom_39 : decode cX0_placesFrom 39 = .ok (.goto (-35), 3) := by decide +kernel
theorem dX0_placesFrom_42 : decode cX0_placesFrom 42 = .ok (.iload_n 2, 1) := by decide +kernel
theorem dX0_placesFrom_43 : decode cX0_placesFrom 43 = .ok (.ireturn, 1) := by decide +kernel
set_option maxRecDepth 20000 in
theorem ggX0_crossesWhole_X0_crossingLower : GoodIn wsX0_crossesWhole wsX0_crossingLower := goodIn_r _ [6, 7, 8, 9, 5, 10, 1, 11, 12, 13, 14, 15, 29, 30, 31] (by decide +kernel) (by decide +kernel)
set_option maxRecDepth 20000 in
theorem gX0_crossesWhole_X0_crossingLower : GoodIn wsX0_crossesWhole (wsV RX0 95 RX0 yX0_crossingLower wsX0_crossingLower) := goodIn_app (goodIn_of _ (by decide +kernel)) ggX0_crossesWhole_X0_crossingLower
set_option maxRecDepth 20000 in
theorem ggX0_crossesWhole_X0_crosses : GoodIn wsX0_crossesWhole wsX0_crosses := goodIn_r _ [19, 11, 12, 13, 5, 14, 15, 7, 8, 9, 10, 1, 29, 30, 31] (by decide +kernel) (by decide +kernel)
set_option maxRecDepth 20000 in
theorem gX0_crossesWhole_X0_crosses : GoodIn wsX0_crossesWhole (wsV RX0 92 RX0 yX0_crosses wsX0_crosses) := goodIn_app (goodIn_of _ (by decide +kernel)) ggX0_crossesWhole_X0_crosses
set_option maxRecDepth 20000 in
theorem ggX0_crossesWhole_X0_crossingUpper : GoodIn wsX0_crossesWhole wsX0_crossingUpper := goodIn_r _ [23, 7, 8, 9, 5, 10, 1, 24, 25, 26, 27, 28, 11, 12, 13, 14, 15, 29, 30, 31] (by decide +kernel) (by decide +kernel)
set_option maxRecDepth 20000 in
theorem gX0_crossesWhole_X0_crossingUpper : GoodIn wsX0_crossesWhole (wsV RX0 98 RX0 yX0_crossingUpper wsX0_crossingUpper) := goodIn_app (goodIn_of _ (by decide +kernel)) ggX0_crossesWhole_X0_crossingUpper
theorem dX0_crossesWhole_0 : decode cX0_crossesWhole 0 = .ok (.iconst 0, 1) := by decide +kernel
theorem dX0_crossesWhole_1 : decode cX0_crossesWhole 1 = .ok (.istore_n 2, 1) := by decide +kernel
theorem dX0_crossesWhole_2 : decode cX0_crossesWhole 2 = .ok (.iload_n 2, 1) := by decide +kernel
theorem dX0_crossesWhole_3 : decode cX0_crossesWhole 3 = .ok (.aload_n 0, 1) := by decide +kernel
theorem dX0_crossesWhole_4 : decode cX0_crossesWhole 4 = .ok (.getfield 18, 3) := by decide +kernel
theorem dX0_crossesWhole_7 : decode cX0_crossesWhole 7 = .ok (.if_icmp .ge 41, 3) := by decide +kernel
theorem dX0_crossesWhole_10 : decode cX0_crossesWhole 10 = .ok (.aload_n 0, 1) := by decide +kernel
theorem dX0_crossesWhole_11 : decode cX0_crossesWhole 11 = .ok (.iload_n 2, 1) := by decide +kernel
theorem dX0_crossesWhole_12 : decode cX0_crossesWhole 12 = .ok (.invokevirtual 95, 3) := by decide +kernel
theorem dX0_crossesWhole_15 : decode cX0_crossesWhole 15 = .ok (.istore_n 3, 1) := by decide +kernel
theorem dX0_crossesWhole_16 : decode cX0_crossesWhole 16 = .ok (.iload_n 3, 1) := by decide +kernel
theorem dX0_crossesWhole_17 : decode cX0_crossesWhole 17 = .ok (.ifCond .eq 25, 3) := by decide +kernel
theorem dX0_crossesWhole_20 : decode cX0_crossesWhole 20 = .ok (.aload_n 0, 1) := by decide +kernel
theorem dX0_crossesWhole_21 : decode cX0_crossesWhole 21 = .ok (.iload_n 2, 1) := by decide +kernel
theorem dX0_crossesWhole_22 : decode cX0_crossesWhole 22 = .ok (.iload_n 1, 1) := by decide +kernel
theorem dX0_crossesWhole_23 : decode cX0_crossesWhole 23 = .ok (.invokevirtual 92, 3) := by decide +kernel
theorem dX0_crossesWhole_26 : decode cX0_crossesWhole 26 = .ok (.ifCond .eq 16, 3) := by decide +kernel
theorem dX0_crossesWhole_29 : decode cX0_crossesWhole 29 = .ok (.aload_n 0, 1) := by decide +kernel
theorem dX0_crossesWhole_30 : decode cX0_crossesWhole 30 = .ok (.iload_n 2, 1) := by decide +kernel
theorem dX0_crossesWhole_31 : decode cX0_crossesWhole 31 = .ok (.iload_n 1, 1) := by decide +kernel
theorem dX0_crossesWhole_32 : decode cX0_crossesWhole 32 = .ok (.invokevirtual 98, 3) := by decide +kernel
theorem dX0_crossesWhole_35 : decode cX0_crossesWhole 35 = .ok (.iload_n 3, 1) := by decide +kernel
theorem dX0_crossesWhole_36 : decode cX0_crossesWhole 36 = .ok (.irem, 1) := by decide +kernel
theorem dX0_crossesWhole_37 : decode cX0_crossesWhole 37 = .ok (.ifCond .eq 5, 3) := by decide +kernel
theorem dX0_crossesWhole_40 : decode cX0_crossesWhole 40 = .ok (.iconst 0, 1) := by decide +kernel
theorem dX0_crossesWhole_41 : decode cX0_crossesWhole 41 = .ok (.ireturn, 1) := by decide +kernel
theorem dX0_crossesWhole_42 : decode cX0_crossesWhole 42 = .ok (.iinc 2 1, 3) := by decide +kernel
theorem dX0_crossesWhole_45 : decode cX0_crossesWhole 45 = .ok (.goto (-43), 3) := by decide +kernel
theorem dX0_crossesWhole_48 : decode cX0_crossesWhole 48 = .ok (.iconst 1, 1) := by decide +kernel
theorem dX0_crossesWhole_49 : decode cX0_crossesWhole 49 = .ok (.ireturn, 1) := by decide +kernel
set_option maxRecDepth 20000 in
theorem ggX0_becomeUpper_X0_y : GoodIn wsX0_becomeUpper wsX0_y := goodIn_r _ [6, 7, 37, 38, 39] (by decide +kernel) (by decide +kernel)
set_option maxRecDepth 20000 in
theorem gX0_becomeUpper_X0_y : GoodIn wsX0_becomeUpper (wsV RX0 30 RX0 yX0_y wsX0_y) := goodIn_app (goodIn_of _ (by decide +kernel)) ggX0_becomeUpper_X0_y
set_option maxRecDepth 20000 in
theorem ggX0_becomeUpper_X0_x : GoodIn wsX0_becomeUpper wsX0_x := goodIn_r _ [11, 12, 37, 38, 39] (by decide +kernel) (by decide +kernel)
set_option maxRecDepth 20000 in
theorem gX0_becomeUpper_X0_x : GoodIn wsX0_becomeUpper (wsV RX0 26 RX0 yX0_x wsX0_x) := goodIn_app (goodIn_of _ (by decide +kernel)) ggX0_becomeUpper_X0_x
set_option maxRecDepth 20000 in
theorem ggX0_becomeUpper_X0_add : GoodIn wsX0_becomeUpper wsX0_add := goodIn_r _ [16, 1, 17, 18, 19, 5, 20, 12, 7, 37, 38, 39] (by decide +kernel) (by decide +kernel)
set_option maxRecDepth 20000 in
theorem gX0_becomeUpper_X0_add : GoodIn wsX0_becomeUpper (wsV RX0 33 RX0 yX0_add wsX0_add) := goodIn_app (goodIn_of _ (by decide +kernel)) ggX0_becomeUpper_X0_add
set_option maxRecDepth 20000 in
theorem ggX0_becomeUpper_X0_crossingLower : GoodIn wsX0_becomeUpper wsX0_crossingLower := goodIn_r _ [24, 25, 26, 27, 5, 28, 1, 2, 3, 4, 6, 7, 37, 38, 39] (by decide +kernel) (by decide +kernel)
set_option maxRecDepth 20000 in
theorem gX0_becomeUpper_X0_crossingLower : GoodIn wsX0_becomeUpper (wsV RX0 95 RX0 yX0_crossingLower wsX0_crossingLower) := goodIn_app (goodIn_of _ (by decide +kernel)) ggX0_becomeUpper_X0_crossingLower
set_option maxRecDepth 20000 in
theorem ggX0_becomeUpper_X0_crosses : GoodIn wsX0_becomeUpper wsX0_crosses := goodIn_r _ [32, 2, 3, 4, 5, 6, 7, 25, 26, 27, 28, 1, 37, 38, 39] (by decide +kernel) (by decide +kernel)
set_option maxRecDepth 20000 in
theorem gX0_becomeUpper_X0_crosses : GoodIn wsX0_becomeUpper (wsV RX0 92 RX0 yX0_crosses wsX0_crosses) := goodIn_app (goodIn_of _ (by decide +kernel)) ggX0_becomeUpper_X0_crosses
set_option maxRecDepth 20000 in
theorem ggX0_becomeUpper_X0_crossingUpper : GoodIn wsX0_becomeUpper wsX0_crossingUpper := goodIn_r _ [36, 25, 26, 27, 5, 28, 1, 8, 9, 10, 11, 12, 2, 3, 4, 6, 7, 37, 38, 39] (by decide +kernel) (by decide +kernel)
set_option maxRecDepth 20000 in
theorem gX0_becomeUpper_X0_crossingUpper : GoodIn wsX0_becomeUpper (wsV RX0 98 RX0 yX0_crossingUpper wsX0_crossingUpper) := goodIn_app (goodIn_of _ (by decide +kernel)) ggX0_becomeUpper_X0_crossingUpper
theorem dX0_becomeUpper_0 : decode cX0_becomeUpper 0 = .ok (.aload_n 0, 1) := by decide +kernel
theorem dX0_becomeUpper_1 : decode cX0_becomeUpper 1 = .ok (.iconst 0, 1) := by decide +kernel
theorem dX0_becomeUpper_2 : decode cX0_becomeUpper 2 = .ok (.putfield 18, 3) := by decide +kernel
theorem dX0_becomeUpper_5 : decode cX0_becomeUpper 5 = .ok (.iconst 0, 1) := by decide +kernel
theorem dX0_becomeUpper_6 : decode cX0_becomeUpper 6 = .ok (.istore_n 3, 1) := by decide +kernel
theorem dX0_becomeUpper_7 : decode cX0_becomeUpper 7 = .ok (.iload_n 3, 1) := by decide +kernel
theorem dX0_becomeUpper_8 : decode cX0_becomeUpper 8 = .ok (.aload_n 1, 1) := by decide +kernel
theorem dX0_becomeUpper_9 : decode cX0_becomeUpper 9 = .ok (.getfield 18, 3) := by decide +kernel
theorem dX0_becomeUpper_12 : decode cX0_becomeUpper 12 = .ok (.if_icmp .ge 73, 3) := by decide +kernel
theorem dX0_becomeUpper_15 : decode cX0_becomeUpper 15 = .ok (.aload_n 1, 1) := by decide +kernel
theorem dX0_becomeUpper_16 : decode cX0_becomeUpper 16 = .ok (.iload_n 3, 1) := by decide +kernel
theorem dX0_becomeUpper_17 : decode cX0_becomeUpper 17 = .ok (.invokevirtual 30, 3) := by decide +kernel
theorem dX0_becomeUpper_20 : decode cX0_becomeUpper 20 = .ok (.iload_n 2, 1) := by decide +kernel
theorem dX0_becomeUpper_21 : decode cX0_becomeUpper 21 = .ok (.if_icmp .lt 17, 3) := by decide +kernel
theorem dX0_becomeUpper_24 : decode cX0_becomeUpper 24 = .ok (.aload_n 0, 1) := by decide +kernel
theorem dX0_becomeUpper_25 : decode cX0_becomeUpper 25 = .ok (.aload_n 1, 1) := by decide +kernel
theorem dX0_becomeUpper_26 : decode cX0_becomeUpper 26 = .ok (.iload_n 3, 1) := by decide +kernel
theorem dX0_becomeUpper_27 : decode cX0_becomeUpper 27 = .ok (.invokevirtual 26, 3) := by decide +kernel
theorem dX0_becomeUpper_30 : decode cX0_becomeUpper 30 = .ok (.aload_n 1, 1) := by decide +kernel
theorem dX0_becomeUpper_31 : decode cX0_becomeUpper 31 = .ok (.iload_n 3, 1) := by decide +kernel
theorem dX0_becomeUpper_32 : decode cX0_becomeUpper 32 = .ok (.invokevirtual 30, 3) := by decide +kernel
theorem dX0_becomeUpper_35 : decode cX0_becomeUpper 35 = .ok (.invokevirtual 33, 3) := by decide +kernel
theorem dX0_becomeUpper_38 : decode cX0_becomeUpper 38 = .ok (.aload_n 1, 1) := by decide +kernel
theorem dX0_becomeUpper_39 : decode cX0_becomeUpper 39 = .ok (.iload_n 3, 1) := by decide +kernel
theorem dX0_becomeUpper_40 : decode cX0_becomeUpper 40 = .ok (.invokevirtual 95, 3) := by decide +kernel
theorem dX0_becomeUpper_43 : decode cX0_becomeUpper 43 = .ok (.istore 4, 2) := by decide +kernel
theorem dX0_becomeUpper_45 : decode cX0_becomeUpper 45 = .ok (.iload 4, 2) := by decide +kernel
theorem dX0_becomeUpper_47 : decode cX0_becomeUpper 47 = .ok (.ifCond .eq 32, 3) := by decide +kernel
theorem dX0_becomeUpper_50 : decode cX0_becomeUpper 50 = .ok (.aload_n 1, 1) := by decide +kernel
theorem dX0_becomeUpper_51 : decode cX0_becomeUpper 51 = .ok (.iload_n 3, 1) := by decide +kernel
theorem dX0_becomeUpper_52 : decode cX0_becomeUpper 52 = .ok (.iload_n 2, 1) := by decide +kernel
theorem dX0_becomeUpper_53 : decode cX0_becomeUpper 53 = .ok (.invokevirtual 92, 3) := by decide +kernel
theorem dX0_becomeUpper_56 : decode cX0_becomeUpper 56 = .ok (.ifCond .eq 23, 3) := by decide +kernel
theorem dX0_becomeUpper_59 : decode cX0_becomeUpper 59 = .ok (.aload_n 0, 1) := by decide +kernel
theorem dX0_becomeUpper_60 : decode cX0_becomeUpper 60 = .ok (.aload_n 1, 1) := by decide +kernel
theorem dX0_becomeUpper_61 : decode cX0_becomeUpper 61 = .ok (.iload_n 3, 1) := by decide +kernel
theorem dX0_becomeUpper_62 : decode cX0_becomeUpper 62 = .ok (.invokevirtual 26, 3) := by decide +kernel
theorem dX0_becomeUpper_65 : decode cX0_becomeUpper 65 = .ok (.aload_n 1, 1) := by decide +kernel
theorem dX0_becomeUpper_66 : decode cX0_becomeUpper 66 = .ok (.iload_n 3, 1) := by decide +kernel
theorem dX0_becomeUpper_67 : decode cX0_becomeUpper 67 = .ok (.iload_n 2, 1) := by decide +kernel
theorem dX0_becomeUpper_68 : decode cX0_becomeUpper 68 = .ok (.invokevirtual 98, 3) := by decide +kernel
theorem dX0_becomeUpper_71 : decode cX0_becomeUpper 71 = .ok (.iload 4, 2) := by decide +kernel
theorem dX0_becomeUpper_73 : decode cX0_becomeUpper 73 = .ok (.idiv, 1) := by decide +kernel
theorem dX0_becomeUpper_74 : decode cX0_becomeUpper 74 = .ok (.iadd, 1) := by decide +kernel
theorem dX0_becomeUpper_75 : decode cX0_becomeUpper 75 = .ok (.iload_n 2, 1) := by decide +kernel
theorem dX0_becomeUpper_76 : decode cX0_becomeUpper 76 = .ok (.invokevirtual 33, 3) := by decide +kernel
theorem dX0_becomeUpper_79 : decode cX0_becomeUpper 79 = .ok (.iinc 3 1, 3) := by decide +kernel
theorem dX0_becomeUpper_82 : decode cX0_becomeUpper 82 = .ok (.goto (-75), 3) := by decide +kernel
theorem dX0_becomeUpper_85 : decode cX0_becomeUpper 85 = .ok (.return_, 1) := by decide +kernel
set_option maxRecDepth 20000 in
theorem ggX1_init_X0_init : GoodIn wsX1_init wsX0_init := goodIn_r _ [17, 18, 2, 3, 19, 20, 21, 22, 31, 32, 33] (by decide +kernel) (by decide +kernel)
set_option maxRecDepth 20000 in
theorem gX1_init_X0_init : GoodIn wsX1_init (wsX0_init) := ggX1_init_X0_init
theorem dX1_init_0 : decode cX1_init 0 = .ok (.aload_n 0, 1) := by decide +kernel
theorem dX1_init_1 : decode cX1_init 1 = .ok (.invokespecial 1, 3) := by decide +kernel
theorem dX1_init_4 : decode cX1_init 4 = .ok (.aload_n 0, 1) := by decide +kernel
theorem dX1_init_5 : decode cX1_init 5 = .ok (.bipush 6, 2) := by decide +kernel
theorem dX1_init_7 : decode cX1_init 7 = .ok (.anewarray 9, 3) := by decide +kernel
theorem dX1_init_10 : decode cX1_init 10 = .ok (.putfield 11, 3) := by decide +kernel
theorem dX1_init_13 : decode cX1_init 13 = .ok (.iconst 0, 1) := by decide +kernel
theorem dX1_init_14 : decode cX1_init 14 = .ok (.istore_n 1, 1) := by decide +kernel
theorem dX1_init_15 : decode cX1_init 15 = .ok (.iload_n 1, 1) := by decide +kernel
theorem dX1_init_16 : decode cX1_init 16 = .ok (.aload_n 0, 1) := by decide +kernel
theorem dX1_init_17 : decode cX1_init 17 = .ok (.getfield 11, 3) := by decide +kernel
theorem dX1_init_20 : decode cX1_init 20 = .ok (.arraylength, 1) := by decide +kernel
theorem dX1_init_21 : decode cX1_init 21 = .ok (.if_icmp .ge 22, 3) := by decide +kernel
theorem dX1_init_24 : decode cX1_init 24 = .ok (.aload_n 0, 1) := by decide +kernel
theorem dX1_init_25 : decode cX1_init 25 = .ok (.getfield 11, 3) := by decide +kernel
theorem dX1_init_28 : decode cX1_init 28 = .ok (.iload_n 1, 1) := by decide +kernel
theorem dX1_init_29 : decode cX1_init 29 = .ok (.new 9, 3) := by decide +kernel
theorem dX1_init_32 : decode cX1_init 32 = .ok (.dup, 1) := by decide +kernel
theorem dX1_init_33 : decode cX1_init 33 = .ok (.invokespecial 15, 3) := by decide +kernel
theorem dX1_init_36 : decode cX1_init 36 = .ok (.aastore, 1) := by decide +kernel
theorem dX1_init_37 : decode cX1_init 37 = .ok (.iinc 1 1, 3) := by decide +kernel
theorem dX1_init_40 : decode cX1_init 40 = .ok (.goto (-25), 3) := by decide +kernel
theorem dX1_init_43 : decode cX1_init 43 = .ok (.aload_n 0, 1) := by decide +kernel
theorem dX1_init_44 : decode cX1_init 44 = .ok (.sipush 150, 3) := by decide +kernel
theorem dX1_init_47 : decode cX1_init 47 = .ok (.putfield 16, 3) := by decide +kernel
theorem dX1_init_50 : decode cX1_init 50 = .ok (.aload_n 0, 1) := by decide +kernel
theorem dX1_init_51 : decode cX1_init 51 = .ok (.bipush 60, 2) := by decide +kernel
theorem dX1_init_53 : decode cX1_init 53 = .ok (.putfield 20, 3) := by decide +kernel
theorem dX1_init_56 : decode cX1_init 56 = .ok (.aload_n 0, 1) := by decide +kernel
theorem dX1_init_57 : decode cX1_init 57 = .ok (.sipush 1000, 3) := by decide +kernel
theorem dX1_init_60 : decode cX1_init 60 = .ok (.putfield 23, 3) := by decide +kernel
theorem dX1_init_63 : decode cX1_init 63 = .ok (.aload_n 0, 1) := by decide +kernel
theorem dX1_init_64 : decode cX1_init 64 = .ok (.iconst 0, 1) := by decide +kernel
theorem dX1_init_65 : decode cX1_init 65 = .ok (.putfield 26, 3) := by decide +kernel
theorem dX1_init_68 : decode cX1_init 68 = .ok (.aload_n 0, 1) := by decide +kernel
theorem dX1_init_69 : decode cX1_init 69 = .ok (.iconst 0, 1) := by decide +kernel
theorem dX1_init_70 : decode cX1_init 70 = .ok (.putfield 29, 3) := by decide +kernel
theorem dX1_init_73 : decode cX1_init 73 = .ok (.aload_n 0, 1) := by decide +kernel
theorem dX1_init_74 : decode cX1_init 74 = .ok (.bipush 100, 2) := by decide +kernel
theorem dX1_init_76 : decode cX1_init 76 = .ok (.putfield 32, 3) := by decide +kernel
theorem dX1_init_79 : decode cX1_init 79 = .ok (.aload_n 0, 1) := by decide +kernel
theorem dX1_init_80 : decode cX1_init 80 = .ok (.iconst 0, 1) := by decide +kernel
theorem dX1_init_81 : decode cX1_init 81 = .ok (.putfield 35, 3) := by decide +kernel
theorem dX1_init_84 : decode cX1_init 84 = .ok (.return_, 1) := by decide +kernel
set_option maxRecDepth 20000 in
theorem ggX1_point_X1_find : GoodIn wsX1_point wsX1_find := goodIn_r _ [5, 6, 25, 26, 27, 28, 29, 30, 31, 32] (by decide +kernel) (by decide +kernel)
set_option maxRecDepth 20000 in
theorem gX1_point_X1_find : GoodIn wsX1_point (wsV RX1 38 RX1 yX1_find wsX1_find) := goodIn_app (goodIn_of _ (by decide +kernel)) ggX1_point_X1_find
set_option maxRecDepth 20000 in
theorem ggX1_point_X1_within : GoodIn wsX1_point wsX1_within := goodIn_r _ [9] (by decide +kernel) (by decide +kernel)
set_option maxRecDepth 20000 in
theorem gX1_point_X1_within : GoodIn wsX1_point (va_wsS RX1 42 yX1_within wsX1_within) := goodIn_app (goodIn_of _ (by decide +kernel)) ggX1_point_X1_within
set_option maxRecDepth 20000 in
theorem ggX1_point_X0_add : GoodIn wsX1_point wsX0_add := goodIn_r _ [14, 15, 16, 17, 18, 13, 19, 20, 21, 22, 23, 24] (by decide +kernel) (by decide +kernel)
set_option maxRecDepth 20000 in
theorem gX1_point_X0_add : GoodIn wsX1_point (wsV RX1 49 RX0 yX0_add wsX0_add) := goodIn_app (goodIn_of _ (by decide +kernel)) ggX1_point_X0_add
theorem dX1_point_0 : decode cX1_point 0 = .ok (.aload_n 0, 1) := by decide +kernel
theorem dX1_point_1 : decode cX1_point 1 = .ok (.iload_n 1, 1) := by decide +kernel
theorem dX1_point_2 : decode cX1_point 2 = .ok (.invokevirtual 38, 3) := by decide +kernel
theorem dX1_point_5 : decode cX1_point 5 = .ok (.astore 4, 2) := by decide +kernel
theorem dX1_point_7 : decode cX1_point 7 = .ok (.aload 4, 2) := by decide +kernel
theorem dX1_point_9 : decode cX1_point 9 = .ok (.ifnonnull 5, 3) := by decide +kernel
theorem dX1_point_12 : decode cX1_point 12 = .ok (.iconst (-1), 1) := by decide +kernel
theorem dX1_point_13 : decode cX1_point 13 = .ok (.ireturn, 1) := by decide +kernel
theorem dX1_point_14 : decode cX1_point 14 = .ok (.iload_n 2, 1) := by decide +kernel
theorem dX1_point_15 : decode cX1_point 15 = .ok (.bipush 100, 2) := by decide +kernel
theorem dX1_point_17 : decode cX1_point 17 = .ok (.invokestatic 42, 3) := by decide +kernel
theorem dX1_point_20 : decode cX1_point 20 = .ok (.ifCond .eq 12, 3) := by decide +kernel
theorem dX1_point_23 : decode cX1_point 23 = .ok (.iload_n 3, 1) := by decide +kernel
theorem dX1_point_24 : decode cX1_point 24 = .ok (.bipush 100, 2) := by decide +kernel
theorem dX1_point_26 : decode cX1_point 26 = .ok (.invokestatic 42, 3) := by decide +kernel
theorem dX1_point_29 : decode cX1_point 29 = .ok (.ifCond .ne 6, 3) := by decide +kernel
theorem dX1_point_32 : decode cX1_point 32 = .ok (.bipush (-2), 2) := by decide +kernel
theorem dX1_point_34 : decode cX1_point 34 = .ok (.ireturn, 1) := by decide +kernel
theorem dX1_point_35 : decode cX1_point 35 = .ok (.aload 4, 2) := by decide +kernel
theorem dX1_point_37 : decode cX1_point 37 = .ok (.getfield 46, 3) := by decide +kernel
theorem dX1_point_40 : decode cX1_point 40 = .ok (.bipush 24, 2) := by decide +kernel
theorem dX1_point_42 : decode cX1_point 42 = .ok (.if_icmp .lt 6, 3) := by decide +kernel
theorem dX1_point_45 : decode cX1_point 45 = .ok (.bipush (-4), 2) := by decide +kernel
theorem dX1_point_47 : decode cX1_point 47 = .ok (.ireturn, 1) := by decide +kernel
theorem dX1_point_48 : decode cX1_point 48 = .ok (.aload 4, 2) := by decide +kernel
theorem dX1_point_50 : decode cX1_point 50 = .ok (.iload_n 2, 1) := by decide +kernel
theorem dX1_point_51 : decode cX1_point 51 = .ok (.iload_n 3, 1) := by decide +kernel
theorem dX1_point_52 : decode cX1_point 52 = .ok (.invokevirtual 49, 3) := by decide +kernel
theorem dX1_point_55 : decode cX1_point 55 = .ok (.aload 4, 2) := by decide +kernel
theorem dX1_point_57 : decode cX1_point 57 = .ok (.getfield 46, 3) := by decide +kernel
theorem dX1_point_60 : decode cX1_point 60 = .ok (.iconst 1, 1) := by decide +kernel
theorem dX1_point_61 : decode cX1_point 61 = .ok (.isub, 1) := by decide +kernel
theorem dX1_point_62 : decode cX1_point 62 = .ok (.ireturn, 1) := by decide +kernel
set_option maxRecDepth 20000 in
theorem ggX1_move_X1_find : GoodIn wsX1_move wsX1_find := goodIn_r _ [5, 6, 22, 23, 24, 25, 26, 27, 28, 29] (by decide +kernel) (by decide +kernel)
set_option maxRecDepth 20000 in
theorem gX1_move_X1_find : GoodIn wsX1_move (wsV RX1 38 RX1 yX1_find wsX1_find) := goodIn_app (goodIn_of _ (by decide +kernel)) ggX1_move_X1_find
set_option maxRecDepth 20000 in
theorem ggX1_move_X0_has : GoodIn wsX1_move wsX0_has := goodIn_r _ [11, 12, 30, 31, 32] (by decide +kernel) (by decide +kernel)
set_option maxRecDepth 20000 in
theorem gX1_move_X0_has : GoodIn wsX1_move (wsV RX1 53 RX0 yX0_has wsX0_has) := goodIn_app (goodIn_of _ (by decide +kernel)) ggX1_move_X0_has
set_option maxRecDepth 20000 in
theorem ggX1_move_X1_within : GoodIn wsX1_move wsX1_within := goodIn_r _ [15] (by decide +kernel) (by decide +kernel)
set_option maxRecDepth 20000 in
theorem gX1_move_X1_within : GoodIn wsX1_move (va_wsS RX1 42 yX1_within wsX1_within) := goodIn_app (goodIn_of _ (by decide +kernel)) ggX1_move_X1_within
set_option maxRecDepth 20000 in
theorem ggX1_move_X0_put : GoodIn wsX1_move wsX0_put := goodIn_r _ [19, 20, 21, 30, 31, 32] (by decide +kernel) (by decide +kernel)
set_option maxRecDepth 20000 in
theorem gX1_move_X0_put : GoodIn wsX1_move (wsV RX1 57 RX0 yX0_put wsX0_put) := goodIn_app (goodIn_of _ (by decide +kernel)) ggX1_move_X0_put
theorem dX1_move_0 : decode cX1_move 0 = .ok (.aload_n 0, 1) := by decide +kernel
theorem dX1_move_1 : decode cX1_move 1 = .ok (.iload_n 1, 1) := by decide +kernel
theorem dX1_move_2 : decode cX1_move 2 = .ok (.invokevirtual 38, 3) := by decide +kernel
theorem dX1_move_5 : decode cX1_move 5 = .ok (.astore 5, 2) := by decide +kernel
theorem dX1_move_7 : decode cX1_move 7 = .ok (.aload 5, 2) := by decide +kernel
theorem dX1_move_9 : decode cX1_move 9 = .ok (.ifnull 12, 3) := by decide +kernel
theorem dX1_move_12 : decode cX1_move 12 = .ok (.aload 5, 2) := by decide +kernel
theorem dX1_move_14 : decode cX1_move 14 = .ok (.iload_n 2, 1) := by decide +kernel
theorem dX1_move_15 : decode cX1_move 15 = .ok (.invokevirtual 53, 3) := by decide +kernel
theorem dX1_move_18 : decode cX1_move 18 = .ok (.ifCond .ne 5, 3) := by decide +kernel
theorem dX1_move_21 : decode cX1_move 21 = .ok (.iconst (-1), 1) := by decide +kernel
theorem dX1_move_22 : decode cX1_move 22 = .ok (.ireturn, 1) := by decide +kernel
theorem dX1_move_23 : decode cX1_move 23 = .ok (.iload_n 3, 1) := by decide +kernel
theorem dX1_move_24 : decode cX1_move 24 = .ok (.bipush 100, 2) := by decide +kernel
theorem dX1_move_26 : decode cX1_move 26 = .ok (.invokestatic 42, 3) := by decide +kernel
theorem dX1_move_29 : decode cX1_move 29 = .ok (.ifCond .eq 13, 3) := by decide +kernel
theorem dX1_move_32 : decode cX1_move 32 = .ok (.iload 4, 2) := by decide +kernel
theorem dX1_move_34 : decode cX1_move 34 = .ok (.bipush 100, 2) := by decide +kernel
theorem dX1_move_36 : decode cX1_move 36 = .ok (.invokestatic 42, 3) := by decide +kernel
theorem dX1_move_39 : decode cX1_move 39 = .ok (.ifCond .ne 6, 3) := by decide +kernel
theorem dX1_move_42 : decode cX1_move 42 = .ok (.bipush (-2), 2) := by decide +kernel
theorem dX1_move_44 : decode cX1_move 44 = .ok (.ireturn, 1) := by decide +kernel
theorem dX1_move_45 : decode cX1_move 45 = .ok (.aload 5, 2) := by decide +kernel
theorem dX1_move_47 : decode cX1_move 47 = .ok (.iload_n 2, 1) := by decide +kernel
theorem dX1_move_48 : decode cX1_move 48 = .ok (.iload_n 3, 1) := by decide +kernel
theorem dX1_move_49 : decode cX1_move 49 = .ok (.iload 4, 2) := by decide +kernel
theorem dX1_move_51 : decode cX1_move 51 = .ok (.invokevirtual 57, 3) := by decide +kernel
theorem dX1_move_54 : decode cX1_move 54 = .ok (.iconst 1, 1) := by decide +kernel
theorem dX1_move_55 : decode cX1_move 55 = .ok (.ireturn, 1) := by decide +kernel
set_option maxRecDepth 20000 in
theorem ggX1_clear_X1_find : GoodIn wsX1_clear wsX1_find := goodIn_r _ [5, 6, 10, 11, 12, 13, 14, 15, 16, 17] (by decide +kernel) (by decide +kernel)
set_option maxRecDepth 20000 in
theorem gX1_clear_X1_find : GoodIn wsX1_clear (wsV RX1 38 RX1 yX1_find wsX1_find) := goodIn_app (goodIn_of _ (by decide +kernel)) ggX1_clear_X1_find
theorem dX1_clear_0 : decode cX1_clear 0 = .ok (.aload_n 0, 1) := by decide +kernel
theorem dX1_clear_1 : decode cX1_clear 1 = .ok (.iload_n 1, 1) := by decide +kernel
theorem dX1_clear_2 : decode cX1_clear 2 = .ok (.invokevirtual 38, 3) := by decide +kernel
theorem dX1_clear_5 : decode cX1_clear 5 = .ok (.astore_n 2, 1) := by decide +kernel
theorem dX1_clear_6 : decode cX1_clear 6 = .ok (.aload_n 2, 1) := by decide +kernel
theorem dX1_clear_7 : decode cX1_clear 7 = .ok (.ifnonnull 5, 3) := by decide +kernel
theorem dX1_clear_10 : decode cX1_clear 10 = .ok (.iconst (-1), 1) := by decide +kernel
theorem dX1_clear_11 : decode cX1_clear 11 = .ok (.ireturn, 1) := by decide +kernel
theorem dX1_clear_12 : decode cX1_clear 12 = .ok (.aload_n 2, 1) := by decide +kernel
theorem dX1_clear_13 : decode cX1_clear 13 = .ok (.getfield 46, 3) := by decide +kernel
theorem dX1_clear_16 : decode cX1_clear 16 = .ok (.istore_n 3, 1) := by decide +kernel
theorem dX1_clear_17 : decode cX1_clear 17 = .ok (.aload_n 2, 1) := by decide +kernel
theorem dX1_clear_18 : decode cX1_clear 18 = .ok (.iconst 0, 1) := by decide +kernel
theorem dX1_clear_19 : decode cX1_clear 19 = .ok (.putfield 46, 3) := by decide +kernel
theorem dX1_clear_22 : decode cX1_clear 22 = .ok (.iload_n 3, 1) := by decide +kernel
theorem dX1_clear_23 : decode cX1_clear 23 = .ok (.ireturn, 1) := by decide +kernel
set_option maxRecDepth 20000 in
theorem ggX1_at_X1_find : GoodIn wsX1_at wsX1_find := goodIn_r _ [5, 6, 29, 30, 31, 32, 33, 34, 35, 36] (by decide +kernel) (by decide +kernel)
set_option maxRecDepth 20000 in
theorem gX1_at_X1_find : GoodIn wsX1_at (wsV RX1 38 RX1 yX1_find wsX1_find) := goodIn_app (goodIn_of _ (by decide +kernel)) ggX1_at_X1_find
set_option maxRecDepth 20000 in
theorem ggX1_at_X0_has : GoodIn wsX1_at wsX0_has := goodIn_r _ [11, 12, 26, 27, 28] (by decide +kernel) (by decide +kernel)
set_option maxRecDepth 20000 in
theorem gX1_at_X0_has : GoodIn wsX1_at (wsV RX1 53 RX0 yX0_has wsX0_has) := goodIn_app (goodIn_of _ (by decide +kernel)) ggX1_at_X0_has
set_option maxRecDepth 20000 in
theorem ggX1_at_X1_zeroOrOne : GoodIn wsX1_at wsX1_zeroOrOne := goodIn_r _ [15] (by decide +kernel) (by decide +kernel)
set_option maxRecDepth 20000 in
theorem gX1_at_X1_zeroOrOne : GoodIn wsX1_at (va_wsS RX1 61 yX1_zeroOrOne wsX1_zeroOrOne) := goodIn_app (goodIn_of _ (by decide +kernel)) ggX1_at_X1_zeroOrOne
set_option maxRecDepth 20000 in
theorem ggX1_at_X0_x : GoodIn wsX1_at wsX0_x := goodIn_r _ [19, 20, 26, 27, 28] (by decide +kernel) (by decide +kernel)
set_option maxRecDepth 20000 in
theorem gX1_at_X0_x : GoodIn wsX1_at (wsV RX1 64 RX0 yX0_x wsX0_x) := goodIn_app (goodIn_of _ (by decide +kernel)) ggX1_at_X0_x
set_option maxRecDepth 20000 in
theorem ggX1_at_X0_y : GoodIn wsX1_at wsX0_y := goodIn_r _ [24, 25, 26, 27, 28] (by decide +kernel) (by decide +kernel)
set_option maxRecDepth 20000 in
theorem gX1_at_X0_y : GoodIn wsX1_at (wsV RX1 68 RX0 yX0_y wsX0_y) := goodIn_app (goodIn_of _ (by decide +kernel)) ggX1_at_X0_y
theorem dX1_at_0 : decode cX1_at 0 = .ok (.aload_n 0, 1) := by decide +kernel
theorem dX1_at_1 : decode cX1_at 1 = .ok (.iload_n 1, 1) := by decide +kernel
theorem dX1_at_2 : decode cX1_at 2 = .ok (.invokevirtual 38, 3) := by decide +kernel
theorem dX1_at_5 : decode cX1_at 5 = .ok (.astore 4, 2) := by decide +kernel
theorem dX1_at_7 : decode cX1_at 7 = .ok (.aload 4, 2) := by decide +kernel
theorem dX1_at_9 : decode cX1_at 9 = .ok (.ifnonnull 7, 3) := by decide +kernel
theorem dX1_at_12 : decode cX1_at 12 = .ok (.sipush (-1001), 3) := by decide +kernel
theorem dX1_at_15 : decode cX1_at 15 = .ok (.ireturn, 1) := by decide +kernel
theorem dX1_at_16 : decode cX1_at 16 = .ok (.iload_n 2, 1) := by decide +kernel
theorem dX1_at_17 : decode cX1_at 17 = .ok (.iconst (-1), 1) := by decide +kernel
theorem dX1_at_18 : decode cX1_at 18 = .ok (.if_icmp .ne 9, 3) := by decide +kernel
theorem dX1_at_21 : decode cX1_at 21 = .ok (.aload 4, 2) := by decide +kernel
theorem dX1_at_23 : decode cX1_at 23 = .ok (.getfield 46, 3) := by decide +kernel
theorem dX1_at_26 : decode cX1_at 26 = .ok (.ireturn, 1) := by decide +kernel
theorem dX1_at_27 : decode cX1_at 27 = .ok (.aload 4, 2) := by decide +kernel
theorem dX1_at_29 : decode cX1_at 29 = .ok (.iload_n 2, 1) := by decide +kernel
theorem dX1_at_30 : decode cX1_at 30 = .ok (.invokevirtual 53, 3) := by decide +kernel
theorem dX1_at_33 : decode cX1_at 33 = .ok (.ifCond .ne 7, 3) := by decide +kernel
theorem dX1_at_36 : decode cX1_at 36 = .ok (.sipush (-1001), 3) := by decide +kernel
theorem dX1_at_39 : decode cX1_at 39 = .ok (.ireturn, 1) := by decide +kernel
theorem dX1_at_40 : decode cX1_at 40 = .ok (.iload_n 3, 1) := by decide +kernel
theorem dX1_at_41 : decode cX1_at 41 = .ok (.invokestatic 61, 3) := by decide +kernel
theorem dX1_at_44 : decode cX1_at 44 = .ok (.ifCond .ne 7, 3) := by decide +kernel
theorem dX1_at_47 : decode cX1_at 47 = .ok (.sipush (-1002), 3) := by decide +kernel
theorem dX1_at_50 : decode cX1_at 50 = .ok (.ireturn, 1) := by decide +kernel
theorem dX1_at_51 : decode cX1_at 51 = .ok (.iload_n 3, 1) := by decide +kernel
theorem dX1_at_52 : decode cX1_at 52 = .ok (.ifCond .ne 12, 3) := by decide +kernel
theorem dX1_at_55 : decode cX1_at 55 = .ok (.aload 4, 2) := by decide +kernel
theorem dX1_at_57 : decode cX1_at 57 = .ok (.iload_n 2, 1) := by decide +kernel
theorem dX1_at_58 : decode cX1_at 58 = .ok (.invokevirtual 64, 3) := by decide +kernel
theorem dX1_at_61 : decode cX1_at 61 = .ok (.goto 9, 3) := by decide +kernel
theorem dX1_at_64 : decode cX1_at 64 = .ok (.aload 4, 2) := by decide +kernel
theorem dX1_at_66 : decode cX1_at 66 = .ok (.iload_n 2, 1) := by decide +kernel
theorem dX1_at_67 : decode cX1_at 67 = .ok (.invokevirtual 68, 3) := by decide +kernel
theorem dX1_at_70 : decode cX1_at 70 = .ok (.ireturn, 1) := by decide +kernel
set_option maxRecDepth 20000 in
theorem ggX1_copy_X1_find : GoodIn wsX1_copy wsX1_find := goodIn_r _ [5, 6, 38, 39, 40, 41, 42, 43, 44, 45] (by decide +kernel) (by decide +kernel)
set_option maxRecDepth 20000 in
theorem gX1_copy_X1_find : GoodIn wsX1_copy (wsV RX1 38 RX1 yX1_find wsX1_find) := goodIn_app (goodIn_of _ (by decide +kernel)) ggX1_copy_X1_find
set_option maxRecDepth 20000 in
theorem ggX1_copy_X0_become : GoodIn wsX1_copy wsX0_become := goodIn_r _ [11, 12, 13, 14, 15, 10, 16, 17, 18, 19, 20, 21, 22, 23, 24, 25, 26, 27, 28, 29, 30, 35, 36, 37] (by decide +kernel) (by decide +kernel)
set_option maxRecDepth 20000 in
theorem gX1_copy_X0_become : GoodIn wsX1_copy (wsV RX1 71 RX0 yX0_become wsX0_become) := goodIn_app (goodIn_of _ (by decide +kernel)) ggX1_copy_X0_become
set_option maxRecDepth 20000 in
theorem ggX1_copy_X0_turn : GoodIn wsX1_copy wsX0_turn := goodIn_r _ [34, 12, 13, 14, 15, 10, 16, 17, 18, 19, 20, 21, 22, 27, 28, 29, 30, 35, 36, 37] (by decide +kernel) (by decide +kernel)
set_option maxRecDepth 20000 in
theorem gX1_copy_X0_turn : GoodIn wsX1_copy (wsV RX1 75 RX0 yX0_turn wsX0_turn) := goodIn_app (goodIn_of _ (by decide +kernel)) ggX1_copy_X0_turn
theorem dX1_copy_0 : decode cX1_copy 0 = .ok (.aload_n 0, 1) := by decide +kernel
theorem dX1_copy_1 : decode cX1_copy 1 = .ok (.iload_n 1, 1) := by decide +kernel
theorem dX1_copy_2 : decode cX1_copy 2 = .ok (.invokevirtual 38, 3) := by decide +kernel
theorem dX1_copy_5 : decode cX1_copy 5 = .ok (.astore 4, 2) := by decide +kernel
theorem dX1_copy_7 : decode cX1_copy 7 = .ok (.aload_n 0, 1) := by decide +kernel
theorem dX1_copy_8 : decode cX1_copy 8 = .ok (.iload_n 2, 1) := by decide +kernel
theorem dX1_copy_9 : decode cX1_copy 9 = .ok (.invokevirtual 38, 3) := by decide +kernel
theorem dX1_copy_12 : decode cX1_copy 12 = .ok (.astore 5, 2) := by decide +kernel
theorem dX1_copy_14 : decode cX1_copy 14 = .ok (.aload 4, 2) := by decide +kernel
theorem dX1_copy_16 : decode cX1_copy 16 = .ok (.ifnull 8, 3) := by decide +kernel
theorem dX1_copy_19 : decode cX1_copy 19 = .ok (.aload 5, 2) := by decide +kernel
theorem dX1_copy_21 : decode cX1_copy 21 = .ok (.ifnonnull 5, 3) := by decide +kernel
theorem dX1_copy_24 : decode cX1_copy 24 = .ok (.iconst (-1), 1) := by decide +kernel
theorem dX1_copy_25 : decode cX1_copy 25 = .ok (.ireturn, 1) := by decide +kernel
theorem dX1_copy_26 : decode cX1_copy 26 = .ok (.iload_n 1, 1) := by decide +kernel
theorem dX1_copy_27 : decode cX1_copy 27 = .ok (.iload_n 2, 1) := by decide +kernel
theorem dX1_copy_28 : decode cX1_copy 28 = .ok (.if_icmp .eq 10, 3) := by decide +kernel
theorem dX1_copy_31 : decode cX1_copy 31 = .ok (.aload 5, 2) := by decide +kernel
theorem dX1_copy_33 : decode cX1_copy 33 = .ok (.aload 4, 2) := by decide +kernel
theorem dX1_copy_35 : decode cX1_copy 35 = .ok (.invokevirtual 71, 3) := by decide +kernel
theorem dX1_copy_38 : decode cX1_copy 38 = .ok (.iload_n 3, 1) := by decide +kernel
theorem dX1_copy_39 : decode cX1_copy 39 = .ok (.ifCond .eq 8, 3) := by decide +kernel
theorem dX1_copy_42 : decode cX1_copy 42 = .ok (.aload 5, 2) := by decide +kernel
theorem dX1_copy_44 : decode cX1_copy 44 = .ok (.invokevirtual 75, 3) := by decide +kernel
theorem dX1_copy_47 : decode cX1_copy 47 = .ok (.aload 5, 2) := by decide +kernel
theorem dX1_copy_49 : decode cX1_copy 49 = .ok (.getfield 46, 3) := by decide +kernel
theorem dX1_copy_52 : decode cX1_copy 52 = .ok (.ireturn, 1) := by decide +kernel
set_option maxRecDepth 20000 in
theorem ggX1_twice_X1_find : GoodIn wsX1_twice wsX1_find := goodIn_r _ [7, 8, 33, 34, 35, 36, 37, 38, 39, 40] (by decide +kernel) (by decide +kernel)
set_option maxRecDepth 20000 in
theorem gX1_twice_X1_find : GoodIn wsX1_twice (wsV RX1 38 RX1 yX1_find wsX1_find) := goodIn_app (goodIn_of _ (by decide +kernel)) ggX1_twice_X1_find
set_option maxRecDepth 20000 in
theorem ggX1_twice_X0_closed : GoodIn wsX1_twice wsX0_closed := goodIn_r _ [13, 14, 41, 42, 43] (by decide +kernel) (by decide +kernel)
set_option maxRecDepth 20000 in
theorem gX1_twice_X0_closed : GoodIn wsX1_twice (wsV RX1 80 RX0 yX0_closed wsX0_closed) := goodIn_app (goodIn_of _ (by decide +kernel)) ggX1_twice_X0_closed
set_option maxRecDepth 20000 in
theorem ggX1_twice_X0_doubleArea : GoodIn wsX1_twice wsX0_doubleArea := goodIn_r _ [18, 14, 19, 20, 21, 12, 22, 23, 24, 25, 26, 27, 28, 29, 30, 31, 32, 41, 42, 43] (by decide +kernel) (by decide +kernel)
set_option maxRecDepth 20000 in
theorem gX1_twice_X0_doubleArea : GoodIn wsX1_twice (wsV RX1 86 RX0 yX0_doubleArea wsX0_doubleArea) := goodIn_app (goodIn_of _ (by decide +kernel)) ggX1_twice_X0_doubleArea
theorem dX1_twice_0 : decode cX1_twice 0 = .ok (.aload_n 0, 1) := by decide +kernel
theorem dX1_twice_1 : decode cX1_twice 1 = .ok (.iload_n 1, 1) := by decide +kernel
theorem dX1_twice_2 : decode cX1_twice 2 = .ok (.invokevirtual 38, 3) := by decide +kernel
theorem dX1_twice_5 : decode cX1_twice 5 = .ok (.astore_n 2, 1) := by decide +kernel
theorem dX1_twice_6 : decode cX1_twice 6 = .ok (.aload_n 2, 1) := by decide +kernel
theorem dX1_twice_7 : decode cX1_twice 7 = .ok (.ifnonnull 7, 3) := by decide +kernel
theorem dX1_twice_10 : decode cX1_twice 10 = .ok (.ldc2_w 78, 3) := by decide +kernel
theorem dX1_twice_13 : decode cX1_twice 13 = .ok (.lreturn, 1) := by decide +kernel
theorem dX1_twice_14 : decode cX1_twice 14 = .ok (.aload_n 2, 1) := by decide +kernel
theorem dX1_twice_15 : decode cX1_twice 15 = .ok (.invokevirtual 80, 3) := by decide +kernel
theorem dX1_twice_18 : decode cX1_twice 18 = .ok (.ifCond .ne 7, 3) := by decide +kernel
theorem dX1_twice_21 : decode cX1_twice 21 = .ok (.ldc2_w 84, 3) := by decide +kernel
theorem dX1_twice_24 : decode cX1_twice 24 = .ok (.lreturn, 1) := by decide +kernel
theorem dX1_twice_25 : decode cX1_twice 25 = .ok (.aload_n 2, 1) := by decide +kernel
theorem dX1_twice_26 : decode cX1_twice 26 = .ok (.invokevirtual 86, 3) := by decide +kernel
theorem dX1_twice_29 : decode cX1_twice 29 = .ok (.lreturn, 1) := by decide +kernel
set_option maxRecDepth 20000 in
theorem ggX1_simple_X1_find : GoodIn wsX1_simple wsX1_find := goodIn_r _ [5, 6, 68, 69, 70, 71, 72, 73, 74, 75] (by decide +kernel) (by decide +kernel)
set_option maxRecDepth 20000 in
theorem gX1_simple_X1_find : GoodIn wsX1_simple (wsV RX1 38 RX1 yX1_find wsX1_find) := goodIn_app (goodIn_of _ (by decide +kernel)) ggX1_simple_X1_find
set_option maxRecDepth 20000 in
theorem ggX1_simple_X0_closed : GoodIn wsX1_simple wsX0_closed := goodIn_r _ [11, 12, 76, 77, 78] (by decide +kernel) (by decide +kernel)
set_option maxRecDepth 20000 in
theorem gX1_simple_X0_closed : GoodIn wsX1_simple (wsV RX1 80 RX0 yX0_closed wsX0_closed) := goodIn_app (goodIn_of _ (by decide +kernel)) ggX1_simple_X0_closed
set_option maxRecDepth 20000 in
theorem ggX1_simple_X0_neverMeetsItself : GoodIn wsX1_simple wsX0_neverMeetsItself := goodIn_r _ [16, 12, 17, 18, 19, 10, 20, 21, 22, 23, 24, 25, 26, 27, 28, 29, 30, 31, 32, 33, 34, 35, 36, 37, 38, 39, 40, 41, 42, 43, 44, 45, 46, 47, 48, 49, 50, 51, 52, 53, 54, 55, 56, 57, 58, 59, 60, 61, 62, 63, 64, 76, 77, 78] (by decide +kernel) (by decide +kernel)
set_option maxRecDepth 20000 in
theorem gX1_simple_X0_neverMeetsItself : GoodIn wsX1_simple (wsV RX1 90 RX0 yX0_neverMeetsItself wsX0_neverMeetsItself) := goodIn_app (goodIn_of _ (by decide +kernel)) ggX1_simple_X0_neverMeetsItself
set_option maxRecDepth 20000 in
theorem ggX1_simple_X1_oneIf : GoodIn wsX1_simple wsX1_oneIf := goodIn_r _ [67] (by decide +kernel) (by decide +kernel)
set_option maxRecDepth 20000 in
theorem gX1_simple_X1_oneIf : GoodIn wsX1_simple (va_wsS RX1 93 yX1_oneIf wsX1_oneIf) := goodIn_app (goodIn_of _ (by decide +kernel)) ggX1_simple_X1_oneIf
theorem dX1_simple_0 : decode cX1_simple 0 = .ok (.aload_n 0, 1) := by decide +kernel
theorem dX1_simple_1 : decode cX1_simple 1 = .ok (.iload_n 1, 1) := by decide +kernel
theorem dX1_simple_2 : decode cX1_simple 2 = .ok (.invokevirtual 38, 3) := by decide +kernel
theorem dX1_simple_5 : decode cX1_simple 5 = .ok (.astore_n 2, 1) := by decide +kernel
theorem dX1_simple_6 : decode cX1_simple 6 = .ok (.aload_n 2, 1) := by decide +kernel
theorem dX1_simple_7 : decode cX1_simple 7 = .ok (.ifnonnull 5, 3) := by decide +kernel
theorem dX1_simple_10 : decode cX1_simple 10 = .ok (.iconst (-1), 1) := by decide +kernel
theorem dX1_simple_11 : decode cX1_simple 11 = .ok (.ireturn, 1) := by decide +kernel
theorem dX1_simple_12 : decode cX1_simple 12 = .ok (.aload_n 2, 1) := by decide +kernel
theorem dX1_simple_13 : decode cX1_simple 13 = .ok (.invokevirtual 80, 3) := by decide +kernel
theorem dX1_simple_16 : decode cX1_simple 16 = .ok (.ifCond .eq 14, 3) := by decide +kernel
theorem dX1_simple_19 : decode cX1_simple 19 = .ok (.aload_n 2, 1) := by decide +kernel
theorem dX1_simple_20 : decode cX1_simple 20 = .ok (.invokevirtual 90, 3) := by decide +kernel
theorem dX1_simple_23 : decode cX1_simple 23 = .ok (.ifCond .eq 7, 3) := by decide +kernel
theorem dX1_simple_26 : decode cX1_simple 26 = .ok (.iconst 1, 1) := by decide +kernel
theorem dX1_simple_27 : decode cX1_simple 27 = .ok (.goto 4, 3) := by decide +kernel
theorem dX1_simple_30 : decode cX1_simple 30 = .ok (.iconst 0, 1) := by decide +kernel
theorem dX1_simple_31 : decode cX1_simple 31 = .ok (.invokestatic 93, 3) := by decide +kernel
theorem dX1_simple_34 : decode cX1_simple 34 = .ok (.ireturn, 1) := by decide +kernel
set_option maxRecDepth 20000 in
theorem ggX1_winds_X1_find : GoodIn wsX1_winds wsX1_find := goodIn_r _ [5, 6, 56, 57, 58, 59, 60, 61, 62, 63] (by decide +kernel) (by decide +kernel)
set_option maxRecDepth 20000 in
theorem gX1_winds_X1_find : GoodIn wsX1_winds (wsV RX1 38 RX1 yX1_find wsX1_find) := goodIn_app (goodIn_of _ (by decide +kernel)) ggX1_winds_X1_find
set_option maxRecDepth 20000 in
theorem ggX1_winds_X1_within : GoodIn wsX1_winds wsX1_within := goodIn_r _ [9] (by decide +kernel) (by decide +kernel)
set_option maxRecDepth 20000 in
theorem gX1_winds_X1_within : GoodIn wsX1_winds (va_wsS RX1 42 yX1_within wsX1_within) := goodIn_app (goodIn_of _ (by decide +kernel)) ggX1_winds_X1_within
set_option maxRecDepth 20000 in
theorem ggX1_winds_X0_closed : GoodIn wsX1_winds wsX0_closed := goodIn_r _ [14, 15, 64, 65, 66] (by decide +kernel) (by decide +kernel)
set_option maxRecDepth 20000 in
theorem gX1_winds_X0_closed : GoodIn wsX1_winds (wsV RX1 80 RX0 yX0_closed wsX0_closed) := goodIn_app (goodIn_of _ (by decide +kernel)) ggX1_winds_X0_closed
set_option maxRecDepth 20000 in
theorem ggX1_winds_X0_carries : GoodIn wsX1_winds wsX0_carries := goodIn_r _ [19, 15, 20, 21, 22, 13, 23, 24, 25, 26, 27, 28, 29, 30, 31, 32, 33, 34, 35, 36, 37, 38, 39, 40, 41, 42, 43, 44, 45, 46, 47, 48, 49, 50, 51, 64, 65, 66] (by decide +kernel) (by decide +kernel)
set_option maxRecDepth 20000 in
theorem gX1_winds_X0_carries : GoodIn wsX1_winds (wsV RX1 97 RX0 yX0_carries wsX0_carries) := goodIn_app (goodIn_of _ (by decide +kernel)) ggX1_winds_X0_carries
set_option maxRecDepth 20000 in
theorem ggX1_winds_X0_turnsRound : GoodIn wsX1_winds wsX0_turnsRound := goodIn_r _ [55, 15, 37, 38, 39, 13, 40, 41, 24, 25, 26, 27, 28, 29, 30, 31, 32, 33, 34, 35, 36, 64, 65, 66] (by decide +kernel) (by decide +kernel)
set_option maxRecDepth 20000 in
theorem gX1_winds_X0_turnsRound : GoodIn wsX1_winds (wsV RX1 100 RX0 yX0_turnsRound wsX0_turnsRound) := goodIn_app (goodIn_of _ (by decide +kernel)) ggX1_winds_X0_turnsRound
theorem dX1_winds_0 : decode cX1_winds 0 = .ok (.aload_n 0, 1) := by decide +kernel
theorem dX1_winds_1 : decode cX1_winds 1 = .ok (.iload_n 1, 1) := by decide +kernel
theorem dX1_winds_2 : decode cX1_winds 2 = .ok (.invokevirtual 38, 3) := by decide +kernel
theorem dX1_winds_5 : decode cX1_winds 5 = .ok (.astore 4, 2) := by decide +kernel
theorem dX1_winds_7 : decode cX1_winds 7 = .ok (.aload 4, 2) := by decide +kernel
theorem dX1_winds_9 : decode cX1_winds 9 = .ok (.ifnonnull 7, 3) := by decide +kernel
theorem dX1_winds_12 : decode cX1_winds 12 = .ok (.sipush (-1001), 3) := by decide +kernel
theorem dX1_winds_15 : decode cX1_winds 15 = .ok (.ireturn, 1) := by decide +kernel
theorem dX1_winds_16 : decode cX1_winds 16 = .ok (.iload_n 2, 1) := by decide +kernel
theorem dX1_winds_17 : decode cX1_winds 17 = .ok (.sipush 300, 3) := by decide +kernel
theorem dX1_winds_20 : decode cX1_winds 20 = .ok (.invokestatic 42, 3) := by decide +kernel
theorem dX1_winds_23 : decode cX1_winds 23 = .ok (.ifCond .eq 13, 3) := by decide +kernel
theorem dX1_winds_26 : decode cX1_winds 26 = .ok (.iload_n 3, 1) := by decide +kernel
theorem dX1_winds_27 : decode cX1_winds 27 = .ok (.sipush 300, 3) := by decide +kernel
theorem dX1_winds_30 : decode cX1_winds 30 = .ok (.invokestatic 42, 3) := by decide +kernel
theorem dX1_winds_33 : decode cX1_winds 33 = .ok (.ifCond .ne 7, 3) := by decide +kernel
theorem dX1_winds_36 : decode cX1_winds 36 = .ok (.sipush (-1002), 3) := by decide +kernel
theorem dX1_winds_39 : decode cX1_winds 39 = .ok (.ireturn, 1) := by decide +kernel
theorem dX1_winds_40 : decode cX1_winds 40 = .ok (.aload 4, 2) := by decide +kernel
theorem dX1_winds_42 : decode cX1_winds 42 = .ok (.invokevirtual 80, 3) := by decide +kernel
theorem dX1_winds_45 : decode cX1_winds 45 = .ok (.ifCond .ne 7, 3) := by decide +kernel
theorem dX1_winds_48 : decode cX1_winds 48 = .ok (.sipush (-1003), 3) := by decide +kernel
theorem dX1_winds_51 : decode cX1_winds 51 = .ok (.ireturn, 1) := by decide +kernel
theorem dX1_winds_52 : decode cX1_winds 52 = .ok (.aload 4, 2) := by decide +kernel
theorem dX1_winds_54 : decode cX1_winds 54 = .ok (.iload_n 2, 1) := by decide +kernel
theorem dX1_winds_55 : decode cX1_winds 55 = .ok (.iload_n 3, 1) := by decide +kernel
theorem dX1_winds_56 : decode cX1_winds 56 = .ok (.invokevirtual 97, 3) := by decide +kernel
theorem dX1_winds_59 : decode cX1_winds 59 = .ok (.ifCond .eq 9, 3) := by decide +kernel
theorem dX1_winds_62 : decode cX1_winds 62 = .ok (.sipush (-1006), 3) := by decide +kernel
theorem dX1_winds_65 : decode cX1_winds 65 = .ok (.goto 10, 3) := by decide +kernel
theorem dX1_winds_68 : decode cX1_winds 68 = .ok (.aload 4, 2) := by decide +kernel
theorem dX1_winds_70 : decode cX1_winds 70 = .ok (.iload_n 2, 1) := by decide +kernel
theorem dX1_winds_71 : decode cX1_winds 71 = .ok (.iload_n 3, 1) := by decide +kernel
theorem dX1_winds_72 : decode cX1_winds 72 = .ok (.invokevirtual 100, 3) := by decide +kernel
theorem dX1_winds_75 : decode cX1_winds 75 = .ok (.ireturn, 1) := by decide +kernel
set_option maxRecDepth 20000 in
theorem ggX1_rod_X1_from1To : GoodIn wsX1_rod wsX1_from1To := goodIn_r _ [5] (by decide +kernel) (by decide +kernel)
set_option maxRecDepth 20000 in
theorem gX1_rod_X1_from1To : GoodIn wsX1_rod (va_wsS RX1 104 yX1_from1To wsX1_from1To) := goodIn_app (goodIn_of _ (by decide +kernel)) ggX1_rod_X1_from1To
theorem dX1_rod_0 : decode cX1_rod 0 = .ok (.iload_n 1, 1) := by decide +kernel
theorem dX1_rod_1 : decode cX1_rod 1 = .ok (.sipush 400, 3) := by decide +kernel
theorem dX1_rod_4 : decode cX1_rod 4 = .ok (.invokestatic 104, 3) := by decide +kernel
theorem dX1_rod_7 : decode cX1_rod 7 = .ok (.ifCond .ne 6, 3) := by decide +kernel
theorem dX1_rod_10 : decode cX1_rod 10 = .ok (.bipush (-2), 2) := by decide +kernel
theorem dX1_rod_12 : decode cX1_rod 12 = .ok (.ireturn, 1) := by decide +kernel
theorem dX1_rod_13 : decode cX1_rod 13 = .ok (.aload_n 0, 1) := by decide +kernel
theorem dX1_rod_14 : decode cX1_rod 14 = .ok (.getfield 16, 3) := by decide +kernel
theorem dX1_rod_17 : decode cX1_rod 17 = .ok (.istore_n 2, 1) := by decide +kernel
theorem dX1_rod_18 : decode cX1_rod 18 = .ok (.aload_n 0, 1) := by decide +kernel
theorem dX1_rod_19 : decode cX1_rod 19 = .ok (.iload_n 1, 1) := by decide +kernel
theorem dX1_rod_20 : decode cX1_rod 20 = .ok (.putfield 16, 3) := by decide +kernel
theorem dX1_rod_23 : decode cX1_rod 23 = .ok (.iload_n 2, 1) := by decide +kernel
theorem dX1_rod_24 : decode cX1_rod 24 = .ok (.ireturn, 1) := by decide +kernel
set_option maxRecDepth 20000 in
theorem ggX1_told_X1_find : GoodIn wsX1_told wsX1_find := goodIn_r _ [10, 11, 72, 73, 74, 75, 76, 77, 78, 79] (by decide +kernel) (by decide +kernel)
set_option maxRecDepth 20000 in
theorem gX1_told_X1_find : GoodIn wsX1_told (wsV RX1 38 RX1 yX1_find wsX1_find) := goodIn_app (goodIn_of _ (by decide +kernel)) ggX1_told_X1_find
set_option maxRecDepth 20000 in
theorem ggX1_told_X1_from0To : GoodIn wsX1_told wsX1_from0To := goodIn_r _ [14] (by decide +kernel) (by decide +kernel)
set_option maxRecDepth 20000 in
theorem gX1_told_X1_from0To : GoodIn wsX1_told (va_wsS RX1 107 yX1_from0To wsX1_from0To) := goodIn_app (goodIn_of _ (by decide +kernel)) ggX1_told_X1_from0To
set_option maxRecDepth 20000 in
theorem ggX1_told_X1_zeroOrOne : GoodIn wsX1_told wsX1_zeroOrOne := goodIn_r _ [17] (by decide +kernel) (by decide +kernel)
set_option maxRecDepth 20000 in
theorem gX1_told_X1_zeroOrOne : GoodIn wsX1_told (va_wsS RX1 61 yX1_zeroOrOne wsX1_zeroOrOne) := goodIn_app (goodIn_of _ (by decide +kernel)) ggX1_told_X1_zeroOrOne
set_option maxRecDepth 20000 in
theorem ggX1_told_X1_goesRound : GoodIn wsX1_told wsX1_goesRound := goodIn_r _ [21, 5, 22, 23, 24, 25, 26, 27, 28, 29, 30, 31, 32, 33, 34, 35, 36, 37, 38, 39, 40, 72, 73, 74, 75, 76, 77, 78, 79, 69, 70, 71] (by decide +kernel) (by decide +kernel)
set_option maxRecDepth 20000 in
theorem gX1_told_X1_goesRound : GoodIn wsX1_told (wsV RX1 112 RX1 yX1_goesRound wsX1_goesRound) := goodIn_app (goodIn_of _ (by decide +kernel)) ggX1_told_X1_goesRound
set_option maxRecDepth 20000 in
theorem ggX1_told_X0_alongX : GoodIn wsX1_told wsX0_alongX := goodIn_r _ [44, 45, 46, 47, 25, 48, 27, 49, 50, 51, 52, 53, 36, 37, 38, 39, 40, 54, 55, 56, 69, 70, 71] (by decide +kernel) (by decide +kernel)
set_option maxRecDepth 20000 in
theorem gX1_told_X0_alongX : GoodIn wsX1_told (wsV RX1 116 RX0 yX0_alongX wsX0_alongX) := goodIn_app (goodIn_of _ (by decide +kernel)) ggX1_told_X0_alongX
set_option maxRecDepth 20000 in
theorem ggX1_told_X1_fraction : GoodIn wsX1_told wsX1_fraction := goodIn_r _ [59, 60, 61, 34, 62, 63, 64, 9, 65, 66, 67, 68] (by decide +kernel) (by decide +kernel)
set_option maxRecDepth 20000 in
theorem gX1_told_X1_fraction : GoodIn wsX1_told (va_wsS RX1 122 yX1_fraction wsX1_fraction) := goodIn_app (goodIn_of _ (by decide +kernel)) ggX1_told_X1_fraction
theorem dX1_told_0 : decode cX1_told 0 = .ok (.aload_n 0, 1) := by decide +kernel
theorem dX1_told_1 : decode cX1_told 1 = .ok (.iload_n 1, 1) := by decide +kernel
theorem dX1_told_2 : decode cX1_told 2 = .ok (.invokevirtual 38, 3) := by decide +kernel
theorem dX1_told_5 : decode cX1_told 5 = .ok (.astore 4, 2) := by decide +kernel
theorem dX1_told_7 : decode cX1_told 7 = .ok (.aload 4, 2) := by decide +kernel
theorem dX1_told_9 : decode cX1_told 9 = .ok (.ifnonnull 7, 3) := by decide +kernel
theorem dX1_told_12 : decode cX1_told 12 = .ok (.ldc2_w 78, 3) := by decide +kernel
theorem dX1_told_15 : decode cX1_told 15 = .ok (.lreturn, 1) := by decide +kernel
theorem dX1_told_16 : decode cX1_told 16 = .ok (.iload_n 2, 1) := by decide +kernel
theorem dX1_told_17 : decode cX1_told 17 = .ok (.aload 4, 2) := by decide +kernel
theorem dX1_told_19 : decode cX1_told 19 = .ok (.getfield 46, 3) := by decide +kernel
theorem dX1_told_22 : decode cX1_told 22 = .ok (.invokestatic 107, 3) := by decide +kernel
theorem dX1_told_25 : decode cX1_told 25 = .ok (.ifCond .eq 10, 3) := by decide +kernel
theorem dX1_told_28 : decode cX1_told 28 = .ok (.iload_n 3, 1) := by decide +kernel
theorem dX1_told_29 : decode cX1_told 29 = .ok (.invokestatic 61, 3) := by decide +kernel
theorem dX1_told_32 : decode cX1_told 32 = .ok (.ifCond .ne 7, 3) := by decide +kernel
theorem dX1_told_35 : decode cX1_told 35 = .ok (.ldc2_w 110, 3) := by decide +kernel
theorem dX1_told_38 : decode cX1_told 38 = .ok (.lreturn, 1) := by decide +kernel
theorem dX1_told_39 : decode cX1_told 39 = .ok (.aload_n 0, 1) := by decide +kernel
theorem dX1_told_40 : decode cX1_told 40 = .ok (.aload 4, 2) := by decide +kernel
theorem dX1_told_42 : decode cX1_told 42 = .ok (.invokevirtual 112, 3) := by decide +kernel
theorem dX1_told_45 : decode cX1_told 45 = .ok (.ifCond .ne 7, 3) := by decide +kernel
theorem dX1_told_48 : decode cX1_told 48 = .ok (.ldc2_w 84, 3) := by decide +kernel
theorem dX1_told_51 : decode cX1_told 51 = .ok (.lreturn, 1) := by decide +kernel
theorem dX1_told_52 : decode cX1_told 52 = .ok (.aload 4, 2) := by decide +kernel
theorem dX1_told_54 : decode cX1_told 54 = .ok (.iconst 1, 1) := by decide +kernel
theorem dX1_told_55 : decode cX1_told 55 = .ok (.iload_n 2, 1) := by decide +kernel
theorem dX1_told_56 : decode cX1_told 56 = .ok (.invokevirtual 116, 3) := by decide +kernel
theorem dX1_told_59 : decode cX1_told 59 = .ok (.ldc2_w 120, 3) := by decide +kernel
theorem dX1_told_62 : decode cX1_told 62 = .ok (.aload_n 0, 1) := by decide +kernel
theorem dX1_told_63 : decode cX1_told 63 = .ok (.getfield 16, 3) := by decide +kernel
theorem dX1_told_66 : decode cX1_told 66 = .ok (.i2l, 1) := by decide +kernel
theorem dX1_told_67 : decode cX1_told 67 = .ok (.lmul, 1) := by decide +kernel
theorem dX1_told_68 : decode cX1_told 68 = .ok (.iload_n 3, 1) := by decide +kernel
theorem dX1_told_69 : decode cX1_told 69 = .ok (.invokestatic 122, 3) := by decide +kernel
theorem dX1_told_72 : decode cX1_told 72 = .ok (.lreturn, 1) := by decide +kernel
set_option maxRecDepth 20000 in
theorem ggX1_can_X1_find : GoodIn wsX1_can wsX1_find := goodIn_r _ [5, 6, 34, 35, 36, 37, 38, 39, 40, 41] (by decide +kernel) (by decide +kernel)
set_option maxRecDepth 20000 in
theorem gX1_can_X1_find : GoodIn wsX1_can (wsV RX1 38 RX1 yX1_find wsX1_find) := goodIn_app (goodIn_of _ (by decide +kernel)) ggX1_can_X1_find
set_option maxRecDepth 20000 in
theorem ggX1_can_X0_closed : GoodIn wsX1_can wsX0_closed := goodIn_r _ [11, 12, 42, 43, 44] (by decide +kernel) (by decide +kernel)
set_option maxRecDepth 20000 in
theorem gX1_can_X0_closed : GoodIn wsX1_can (wsV RX1 80 RX0 yX0_closed wsX0_closed) := goodIn_app (goodIn_of _ (by decide +kernel)) ggX1_can_X0_closed
set_option maxRecDepth 20000 in
theorem ggX1_can_X1_goesRound : GoodIn wsX1_can wsX1_goesRound := goodIn_r _ [16, 17, 7, 8, 9, 10, 11, 12, 18, 19, 20, 21, 22, 23, 24, 25, 26, 27, 28, 29, 30, 34, 35, 36, 37, 38, 39, 40, 41, 42, 43, 44] (by decide +kernel) (by decide +kernel)
set_option maxRecDepth 20000 in
theorem gX1_can_X1_goesRound : GoodIn wsX1_can (wsV RX1 112 RX1 yX1_goesRound wsX1_goesRound) := goodIn_app (goodIn_of _ (by decide +kernel)) ggX1_can_X1_goesRound
set_option maxRecDepth 20000 in
theorem ggX1_can_X1_oneIf : GoodIn wsX1_can wsX1_oneIf := goodIn_r _ [33] (by decide +kernel) (by decide +kernel)
set_option maxRecDepth 20000 in
theorem gX1_can_X1_oneIf : GoodIn wsX1_can (va_wsS RX1 93 yX1_oneIf wsX1_oneIf) := goodIn_app (goodIn_of _ (by decide +kernel)) ggX1_can_X1_oneIf
theorem dX1_can_0 : decode cX1_can 0 = .ok (.aload_n 0, 1) := by decide +kernel
theorem dX1_can_1 : decode cX1_can 1 = .ok (.iload_n 1, 1) := by decide +kernel
theorem dX1_can_2 : decode cX1_can 2 = .ok (.invokevirtual 38, 3) := by decide +kernel
theorem dX1_can_5 : decode cX1_can 5 = .ok (.astore_n 2, 1) := by decide +kernel
theorem dX1_can_6 : decode cX1_can 6 = .ok (.aload_n 2, 1) := by decide +kernel
theorem dX1_can_7 : decode cX1_can 7 = .ok (.ifnonnull 5, 3) := by decide +kernel
theorem dX1_can_10 : decode cX1_can 10 = .ok (.iconst (-1), 1) := by decide +kernel
theorem dX1_can_11 : decode cX1_can 11 = .ok (.ireturn, 1) := by decide +kernel
theorem dX1_can_12 : decode cX1_can 12 = .ok (.aload_n 2, 1) := by decide +kernel
theorem dX1_can_13 : decode cX1_can 13 = .ok (.invokevirtual 80, 3) := by decide +kernel
theorem dX1_can_16 : decode cX1_can 16 = .ok (.ifCond .ne 6, 3) := by decide +kernel
theorem dX1_can_19 : decode cX1_can 19 = .ok (.bipush (-3), 2) := by decide +kernel
theorem dX1_can_21 : decode cX1_can 21 = .ok (.ireturn, 1) := by decide +kernel
theorem dX1_can_22 : decode cX1_can 22 = .ok (.aload_n 0, 1) := by decide +kernel
theorem dX1_can_23 : decode cX1_can 23 = .ok (.aload_n 2, 1) := by decide +kernel
theorem dX1_can_24 : decode cX1_can 24 = .ok (.invokevirtual 112, 3) := by decide +kernel
theorem dX1_can_27 : decode cX1_can 27 = .ok (.invokestatic 93, 3) := by decide +kernel
theorem dX1_can_30 : decode cX1_can 30 = .ok (.ireturn, 1) := by decide +kernel
set_option maxRecDepth 20000 in
theorem ggX1_rail_X1_find : GoodIn wsX1_rail wsX1_find := goodIn_r _ [5, 6, 72, 73, 74, 75, 76, 77, 78, 79] (by decide +kernel) (by decide +kernel)
set_option maxRecDepth 20000 in
theorem gX1_rail_X1_find : GoodIn wsX1_rail (wsV RX1 38 RX1 yX1_find wsX1_find) := goodIn_app (goodIn_of _ (by decide +kernel)) ggX1_rail_X1_find
set_option maxRecDepth 20000 in
theorem ggX1_rail_X1_within : GoodIn wsX1_rail wsX1_within := goodIn_r _ [9] (by decide +kernel) (by decide +kernel)
set_option maxRecDepth 20000 in
theorem gX1_rail_X1_within : GoodIn wsX1_rail (va_wsS RX1 42 yX1_within wsX1_within) := goodIn_app (goodIn_of _ (by decide +kernel)) ggX1_rail_X1_within
set_option maxRecDepth 20000 in
theorem ggX1_rail_X0_closed : GoodIn wsX1_rail wsX0_closed := goodIn_r _ [14, 15, 80, 81, 82] (by decide +kernel) (by decide +kernel)
set_option maxRecDepth 20000 in
theorem gX1_rail_X0_closed : GoodIn wsX1_rail (wsV RX1 80 RX0 yX0_closed wsX0_closed) := goodIn_app (goodIn_of _ (by decide +kernel)) ggX1_rail_X0_closed
set_option maxRecDepth 20000 in
theorem ggX1_rail_X1_goesRound : GoodIn wsX1_rail wsX1_goesRound := goodIn_r _ [19, 20, 10, 11, 12, 13, 14, 15, 21, 22, 23, 24, 25, 26, 27, 28, 29, 30, 31, 32, 33, 72, 73, 74, 75, 76, 77, 78, 79, 80, 81, 82] (by decide +kernel) (by decide +kernel)
set_option maxRecDepth 20000 in
theorem gX1_rail_X1_goesRound : GoodIn wsX1_rail (wsV RX1 112 RX1 yX1_goesRound wsX1_goesRound) := goodIn_app (goodIn_of _ (by decide +kernel)) ggX1_rail_X1_goesRound
set_option maxRecDepth 20000 in
theorem ggX1_rail_X1_neverLeftOf : GoodIn wsX1_rail wsX1_neverLeftOf := goodIn_r _ [37, 20, 38, 39, 40, 13, 41, 42, 43, 44, 45, 46, 47, 48, 49, 50, 15, 51, 29, 30, 31, 32, 33, 52, 53, 54, 55, 56, 57, 58, 59, 60, 61, 62, 63, 72, 73, 74, 75, 76, 77, 78, 79, 80, 81, 82] (by decide +kernel) (by decide +kernel)
set_option maxRecDepth 20000 in
theorem gX1_rail_X1_neverLeftOf : GoodIn wsX1_rail (wsV RX1 126 RX1 yX1_neverLeftOf wsX1_neverLeftOf) := goodIn_app (goodIn_of _ (by decide +kernel)) ggX1_rail_X1_neverLeftOf
set_option maxRecDepth 20000 in
theorem ggX1_rail_X1_neverRightOf : GoodIn wsX1_rail wsX1_neverRightOf := goodIn_r _ [67, 20, 38, 39, 40, 13, 41, 42, 68, 53, 54, 55, 51, 29, 30, 31, 32, 33, 72, 73, 74, 75, 76, 77, 78, 79, 80, 81, 82] (by decide +kernel) (by decide +kernel)
set_option maxRecDepth 20000 in
theorem gX1_rail_X1_neverRightOf : GoodIn wsX1_rail (wsV RX1 130 RX1 yX1_neverRightOf wsX1_neverRightOf) := goodIn_app (goodIn_of _ (by decide +kernel)) ggX1_rail_X1_neverRightOf
set_option maxRecDepth 20000 in
theorem ggX1_rail_X1_oneIf : GoodIn wsX1_rail wsX1_oneIf := goodIn_r _ [71] (by decide +kernel) (by decide +kernel)
set_option maxRecDepth 20000 in
theorem gX1_rail_X1_oneIf : GoodIn wsX1_rail (va_wsS RX1 93 yX1_oneIf wsX1_oneIf) := goodIn_app (goodIn_of _ (by decide +kernel)) ggX1_rail_X1_oneIf
theorem dX1_rail_0 : decode cX1_rail 0 = .ok (.aload_n 0, 1) := by decide +kernel
theorem dX1_rail_1 : decode cX1_rail 1 = .ok (.iload_n 1, 1) := by decide +kernel
theorem dX1_rail_2 : decode cX1_rail 2 = .ok (.invokevirtual 38, 3) := by decide +kernel
theorem dX1_rail_5 : decode cX1_rail 5 = .ok (.astore 4, 2) := by decide +kernel
theorem dX1_rail_7 : decode cX1_rail 7 = .ok (.aload 4, 2) := by decide +kernel
theorem dX1_rail_9 : decode cX1_rail 9 = .ok (.ifnonnull 5, 3) := by decide +kernel
theorem dX1_rail_12 : decode cX1_rail 12 = .ok (.iconst (-1), 1) := by decide +kernel
theorem dX1_rail_13 : decode cX1_rail 13 = .ok (.ireturn, 1) := by decide +kernel
theorem dX1_rail_14 : decode cX1_rail 14 = .ok (.iload_n 2, 1) := by decide +kernel
theorem dX1_rail_15 : decode cX1_rail 15 = .ok (.sipush 1000, 3) := by decide +kernel
theorem dX1_rail_18 : decode cX1_rail 18 = .ok (.invokestatic 42, 3) := by decide +kernel
theorem dX1_rail_21 : decode cX1_rail 21 = .ok (.ifCond .eq 18, 3) := by decide +kernel
theorem dX1_rail_24 : decode cX1_rail 24 = .ok (.iload_n 3, 1) := by decide +kernel
theorem dX1_rail_25 : decode cX1_rail 25 = .ok (.sipush 1000, 3) := by decide +kernel
theorem dX1_rail_28 : decode cX1_rail 28 = .ok (.invokestatic 42, 3) := by decide +kernel
theorem dX1_rail_31 : decode cX1_rail 31 = .ok (.ifCond .eq 8, 3) := by decide +kernel
theorem dX1_rail_34 : decode cX1_rail 34 = .ok (.iload_n 2, 1) := by decide +kernel
theorem dX1_rail_35 : decode cX1_rail 35 = .ok (.iload_n 3, 1) := by decide +kernel
theorem dX1_rail_36 : decode cX1_rail 36 = .ok (.if_icmp .le 6, 3) := by decide +kernel
theorem dX1_rail_39 : decode cX1_rail 39 = .ok (.bipush (-2), 2) := by decide +kernel
theorem dX1_rail_41 : decode cX1_rail 41 = .ok (.ireturn, 1) := by decide +kernel
theorem dX1_rail_42 : decode cX1_rail 42 = .ok (.aload 4, 2) := by decide +kernel
theorem dX1_rail_44 : decode cX1_rail 44 = .ok (.invokevirtual 80, 3) := by decide +kernel
theorem dX1_rail_47 : decode cX1_rail 47 = .ok (.ifCond .ne 6, 3) := by decide +kernel
theorem dX1_rail_50 : decode cX1_rail 50 = .ok (.bipush (-3), 2) := by decide +kernel
theorem dX1_rail_52 : decode cX1_rail 52 = .ok (.ireturn, 1) := by decide +kernel
theorem dX1_rail_53 : decode cX1_rail 53 = .ok (.aload_n 0, 1) := by decide +kernel
theorem dX1_rail_54 : decode cX1_rail 54 = .ok (.aload 4, 2) := by decide +kernel
theorem dX1_rail_56 : decode cX1_rail 56 = .ok (.invokevirtual 112, 3) := by decide +kernel
theorem dX1_rail_59 : decode cX1_rail 59 = .ok (.ifCond .eq 27, 3) := by decide +kernel
theorem dX1_rail_62 : decode cX1_rail 62 = .ok (.aload_n 0, 1) := by decide +kernel
theorem dX1_rail_63 : decode cX1_rail 63 = .ok (.aload 4, 2) := by decide +kernel
theorem dX1_rail_65 : decode cX1_rail 65 = .ok (.iload_n 2, 1) := by decide +kernel
theorem dX1_rail_66 : decode cX1_rail 66 = .ok (.invokevirtual 126, 3) := by decide +kernel
theorem dX1_rail_69 : decode cX1_rail 69 = .ok (.ifCond .eq 17, 3) := by decide +kernel
theorem dX1_rail_72 : decode cX1_rail 72 = .ok (.aload_n 0, 1) := by decide +kernel
theorem dX1_rail_73 : decode cX1_rail 73 = .ok (.aload 4, 2) := by decide +kernel
theorem dX1_rail_75 : decode cX1_rail 75 = .ok (.iload_n 3, 1) := by decide +kernel
theorem dX1_rail_76 : decode cX1_rail 76 = .ok (.invokevirtual 130, 3) := by decide +kernel
theorem dX1_rail_79 : decode cX1_rail 79 = .ok (.ifCond .eq 7, 3) := by decide +kernel
theorem dX1_rail_82 : decode cX1_rail 82 = .ok (.iconst 1, 1) := by decide +kernel
theorem dX1_rail_83 : decode cX1_rail 83 = .ok (.goto 4, 3) := by decide +kernel
theorem dX1_rail_86 : decode cX1_rail 86 = .ok (.iconst 0, 1) := by decide +kernel
theorem dX1_rail_87 : decode cX1_rail 87 = .ok (.invokestatic 93, 3) := by decide +kernel
theorem dX1_rail_90 : decode cX1_rail 90 = .ok (.ireturn, 1) := by decide +kernel
set_option maxRecDepth 20000 in
theorem ggX1_shut_X1_from0To : GoodIn wsX1_shut wsX1_from0To := goodIn_r _ [6] (by decide +kernel) (by decide +kernel)
set_option maxRecDepth 20000 in
theorem gX1_shut_X1_from0To : GoodIn wsX1_shut (va_wsS RX1 107 yX1_from0To wsX1_from0To) := goodIn_app (goodIn_of _ (by decide +kernel)) ggX1_shut_X1_from0To
set_option maxRecDepth 20000 in
theorem ggX1_shut_X1_zeroOrOne : GoodIn wsX1_shut wsX1_zeroOrOne := goodIn_r _ [9] (by decide +kernel) (by decide +kernel)
set_option maxRecDepth 20000 in
theorem gX1_shut_X1_zeroOrOne : GoodIn wsX1_shut (va_wsS RX1 61 yX1_zeroOrOne wsX1_zeroOrOne) := goodIn_app (goodIn_of _ (by decide +kernel)) ggX1_shut_X1_zeroOrOne
set_option maxRecDepth 20000 in
theorem ggX1_shut_X1_shutLow : GoodIn wsX1_shut wsX1_shutLow := goodIn_r _ [13, 14, 1, 15, 16, 17, 5, 18, 19, 20, 21, 22, 23, 24, 25, 30, 31, 32, 33, 34, 35, 36, 37] (by decide +kernel) (by decide +kernel)
set_option maxRecDepth 20000 in
theorem gX1_shut_X1_shutLow : GoodIn wsX1_shut (wsV RX1 133 RX1 yX1_shutLow wsX1_shutLow) := goodIn_app (goodIn_of _ (by decide +kernel)) ggX1_shut_X1_shutLow
set_option maxRecDepth 20000 in
theorem ggX1_shut_X1_shutHigh : GoodIn wsX1_shut wsX1_shutHigh := goodIn_r _ [29, 14, 1, 15, 16, 17, 5, 18, 19, 20, 21, 22, 23, 24, 25, 30, 31, 32, 33, 34, 35, 36, 37] (by decide +kernel) (by decide +kernel)
set_option maxRecDepth 20000 in
theorem gX1_shut_X1_shutHigh : GoodIn wsX1_shut (wsV RX1 137 RX1 yX1_shutHigh wsX1_shutHigh) := goodIn_app (goodIn_of _ (by decide +kernel)) ggX1_shut_X1_shutHigh
theorem dX1_shut_0 : decode cX1_shut 0 = .ok (.iload_n 1, 1) := by decide +kernel
theorem dX1_shut_1 : decode cX1_shut 1 = .ok (.aload_n 0, 1) := by decide +kernel
theorem dX1_shut_2 : decode cX1_shut 2 = .ok (.getfield 16, 3) := by decide +kernel
theorem dX1_shut_5 : decode cX1_shut 5 = .ok (.iconst 1, 1) := by decide +kernel
theorem dX1_shut_6 : decode cX1_shut 6 = .ok (.isub, 1) := by decide +kernel
theorem dX1_shut_7 : decode cX1_shut 7 = .ok (.invokestatic 107, 3) := by decide +kernel
theorem dX1_shut_10 : decode cX1_shut 10 = .ok (.ifCond .eq 10, 3) := by decide +kernel
theorem dX1_shut_13 : decode cX1_shut 13 = .ok (.iload_n 2, 1) := by decide +kernel
theorem dX1_shut_14 : decode cX1_shut 14 = .ok (.invokestatic 61, 3) := by decide +kernel
theorem dX1_shut_17 : decode cX1_shut 17 = .ok (.ifCond .ne 7, 3) := by decide +kernel
theorem dX1_shut_20 : decode cX1_shut 20 = .ok (.ldc2_w 110, 3) := by decide +kernel
theorem dX1_shut_23 : decode cX1_shut 23 = .ok (.lreturn, 1) := by decide +kernel
theorem dX1_shut_24 : decode cX1_shut 24 = .ok (.iload_n 2, 1) := by decide +kernel
theorem dX1_shut_25 : decode cX1_shut 25 = .ok (.ifCond .ne 11, 3) := by decide +kernel
theorem dX1_shut_28 : decode cX1_shut 28 = .ok (.aload_n 0, 1) := by decide +kernel
theorem dX1_shut_29 : decode cX1_shut 29 = .ok (.iload_n 1, 1) := by decide +kernel
theorem dX1_shut_30 : decode cX1_shut 30 = .ok (.invokevirtual 133, 3) := by decide +kernel
theorem dX1_shut_33 : decode cX1_shut 33 = .ok (.goto 8, 3) := by decide +kernel
theorem dX1_shut_36 : decode cX1_shut 36 = .ok (.aload_n 0, 1) := by decide +kernel
theorem dX1_shut_37 : decode cX1_shut 37 = .ok (.iload_n 1, 1) := by decide +kernel
theorem dX1_shut_38 : decode cX1_shut 38 = .ok (.invokevirtual 137, 3) := by decide +kernel
theorem dX1_shut_41 : decode cX1_shut 41 = .ok (.lreturn, 1) := by decide +kernel
set_option maxRecDepth 20000 in
theorem ggX1_geared_X1_find : GoodIn wsX1_geared wsX1_find := goodIn_r _ [8, 9, 75, 76, 77, 78, 79, 80, 81, 82] (by decide +kernel) (by decide +kernel)
set_option maxRecDepth 20000 in
theorem gX1_geared_X1_find : GoodIn wsX1_geared (wsV RX1 38 RX1 yX1_find wsX1_find) := goodIn_app (goodIn_of _ (by decide +kernel)) ggX1_geared_X1_find
set_option maxRecDepth 20000 in
theorem ggX1_geared_X1_from1To : GoodIn wsX1_geared wsX1_from1To := goodIn_r _ [12] (by decide +kernel) (by decide +kernel)
set_option maxRecDepth 20000 in
theorem gX1_geared_X1_from1To : GoodIn wsX1_geared (va_wsS RX1 104 yX1_from1To wsX1_from1To) := goodIn_app (goodIn_of _ (by decide +kernel)) ggX1_geared_X1_from1To
set_option maxRecDepth 20000 in
theorem ggX1_geared_X1_zeroOrOne : GoodIn wsX1_geared wsX1_zeroOrOne := goodIn_r _ [15] (by decide +kernel) (by decide +kernel)
set_option maxRecDepth 20000 in
theorem gX1_geared_X1_zeroOrOne : GoodIn wsX1_geared (va_wsS RX1 61 yX1_zeroOrOne wsX1_zeroOrOne) := goodIn_app (goodIn_of _ (by decide +kernel)) ggX1_geared_X1_zeroOrOne
set_option maxRecDepth 20000 in
theorem ggX1_geared_X1_goesRound : GoodIn wsX1_geared wsX1_goesRound := goodIn_r _ [19, 20, 21, 22, 23, 24, 25, 26, 27, 28, 29, 30, 31, 32, 33, 34, 35, 36, 37, 38, 39, 75, 76, 77, 78, 79, 80, 81, 82, 83, 84, 85] (by decide +kernel) (by decide +kernel)
set_option maxRecDepth 20000 in
theorem gX1_geared_X1_goesRound : GoodIn wsX1_geared (wsV RX1 112 RX1 yX1_goesRound wsX1_goesRound) := goodIn_app (goodIn_of _ (by decide +kernel)) ggX1_geared_X1_goesRound
set_option maxRecDepth 20000 in
theorem ggX1_geared_X1_gearedRound : GoodIn wsX1_geared wsX1_gearedRound := goodIn_r _ [43, 20, 44, 45, 46, 47, 48, 49, 24, 50, 51, 52, 53, 54, 26, 55, 56, 57, 58, 59, 35, 36, 37, 38, 39, 60, 61, 62, 63, 64, 7, 65, 66, 67, 33, 68, 69, 70, 71, 72, 73, 74, 75, 76, 77, 78, 79, 80, 81, 82, 83, 84, 85] (by decide +kernel) (by decide +kernel)
set_option maxRecDepth 20000 in
theorem gX1_geared_X1_gearedRound : GoodIn wsX1_geared (wsV RX1 140 RX1 yX1_gearedRound wsX1_gearedRound) := goodIn_app (goodIn_of _ (by decide +kernel)) ggX1_geared_X1_gearedRound
theorem dX1_geared_0 : decode cX1_geared 0 = .ok (.aload_n 0, 1) := by decide +kernel
theorem dX1_geared_1 : decode cX1_geared 1 = .ok (.iload_n 1, 1) := by decide +kernel
theorem dX1_geared_2 : decode cX1_geared 2 = .ok (.invokevirtual 38, 3) := by decide +kernel
theorem dX1_geared_5 : decode cX1_geared 5 = .ok (.astore 4, 2) := by decide +kernel
theorem dX1_geared_7 : decode cX1_geared 7 = .ok (.aload 4, 2) := by decide +kernel
theorem dX1_geared_9 : decode cX1_geared 9 = .ok (.ifnonnull 7, 3) := by decide +kernel
theorem dX1_geared_12 : decode cX1_geared 12 = .ok (.ldc2_w 78, 3) := by decide +kernel
theorem dX1_geared_15 : decode cX1_geared 15 = .ok (.lreturn, 1) := by decide +kernel
theorem dX1_geared_16 : decode cX1_geared 16 = .ok (.iload_n 2, 1) := by decide +kernel
theorem dX1_geared_17 : decode cX1_geared 17 = .ok (.iconst 3, 1) := by decide +kernel
theorem dX1_geared_18 : decode cX1_geared 18 = .ok (.invokestatic 104, 3) := by decide +kernel
theorem dX1_geared_21 : decode cX1_geared 21 = .ok (.ifCond .eq 10, 3) := by decide +kernel
theorem dX1_geared_24 : decode cX1_geared 24 = .ok (.iload_n 3, 1) := by decide +kernel
theorem dX1_geared_25 : decode cX1_geared 25 = .ok (.invokestatic 61, 3) := by decide +kernel
theorem dX1_geared_28 : decode cX1_geared 28 = .ok (.ifCond .ne 7, 3) := by decide +kernel
theorem dX1_geared_31 : decode cX1_geared 31 = .ok (.ldc2_w 110, 3) := by decide +kernel
theorem dX1_geared_34 : decode cX1_geared 34 = .ok (.lreturn, 1) := by decide +kernel
theorem dX1_geared_35 : decode cX1_geared 35 = .ok (.aload_n 0, 1) := by decide +kernel
theorem dX1_geared_36 : decode cX1_geared 36 = .ok (.aload 4, 2) := by decide +kernel
theorem dX1_geared_38 : decode cX1_geared 38 = .ok (.invokevirtual 112, 3) := by decide +kernel
theorem dX1_geared_41 : decode cX1_geared 41 = .ok (.ifCond .ne 7, 3) := by decide +kernel
theorem dX1_geared_44 : decode cX1_geared 44 = .ok (.ldc2_w 84, 3) := by decide +kernel
theorem dX1_geared_47 : decode cX1_geared 47 = .ok (.lreturn, 1) := by decide +kernel
theorem dX1_geared_48 : decode cX1_geared 48 = .ok (.aload_n 0, 1) := by decide +kernel
theorem dX1_geared_49 : decode cX1_geared 49 = .ok (.aload 4, 2) := by decide +kernel
theorem dX1_geared_51 : decode cX1_geared 51 = .ok (.iload_n 2, 1) := by decide +kernel
theorem dX1_geared_52 : decode cX1_geared 52 = .ok (.iload_n 3, 1) := by decide +kernel
theorem dX1_geared_53 : decode cX1_geared 53 = .ok (.invokevirtual 140, 3) := by decide +kernel
theorem dX1_geared_56 : decode cX1_geared 56 = .ok (.lreturn, 1) := by decide +kernel
set_option maxRecDepth 20000 in
theorem ggX1_moment_X1_find : GoodIn wsX1_moment wsX1_find := goodIn_r _ [9, 10, 60, 61, 62, 63, 64, 65, 66, 67] (by decide +kernel) (by decide +kernel)
set_option maxRecDepth 20000 in
theorem gX1_moment_X1_find : GoodIn wsX1_moment (wsV RX1 38 RX1 yX1_find wsX1_find) := goodIn_app (goodIn_of _ (by decide +kernel)) ggX1_moment_X1_find
set_option maxRecDepth 20000 in
theorem ggX1_moment_X1_from0To : GoodIn wsX1_moment wsX1_from0To := goodIn_r _ [13] (by decide +kernel) (by decide +kernel)
set_option maxRecDepth 20000 in
theorem gX1_moment_X1_from0To : GoodIn wsX1_moment (va_wsS RX1 107 yX1_from0To wsX1_from0To) := goodIn_app (goodIn_of _ (by decide +kernel)) ggX1_moment_X1_from0To
set_option maxRecDepth 20000 in
theorem ggX1_moment_X1_zeroOrOne : GoodIn wsX1_moment wsX1_zeroOrOne := goodIn_r _ [16] (by decide +kernel) (by decide +kernel)
set_option maxRecDepth 20000 in
theorem gX1_moment_X1_zeroOrOne : GoodIn wsX1_moment (va_wsS RX1 61 yX1_zeroOrOne wsX1_zeroOrOne) := goodIn_app (goodIn_of _ (by decide +kernel)) ggX1_moment_X1_zeroOrOne
set_option maxRecDepth 20000 in
theorem ggX1_moment_X0_closed : GoodIn wsX1_moment wsX0_closed := goodIn_r _ [21, 22, 57, 58, 59] (by decide +kernel) (by decide +kernel)
set_option maxRecDepth 20000 in
theorem gX1_moment_X0_closed : GoodIn wsX1_moment (wsV RX1 80 RX0 yX0_closed wsX0_closed) := goodIn_app (goodIn_of _ (by decide +kernel)) ggX1_moment_X0_closed
set_option maxRecDepth 20000 in
theorem ggX1_moment_X0_alongX : GoodIn wsX1_moment wsX0_alongX := goodIn_r _ [26, 27, 28, 29, 20, 30, 22, 31, 32, 33, 34, 35, 36, 37, 38, 39, 40, 41, 42, 43, 57, 58, 59] (by decide +kernel) (by decide +kernel)
set_option maxRecDepth 20000 in
theorem gX1_moment_X0_alongX : GoodIn wsX1_moment (wsV RX1 116 RX0 yX0_alongX wsX0_alongX) := goodIn_app (goodIn_of _ (by decide +kernel)) ggX1_moment_X0_alongX
set_option maxRecDepth 20000 in
theorem ggX1_moment_X1_fraction : GoodIn wsX1_moment wsX1_fraction := goodIn_r _ [46, 47, 48, 49, 50, 51, 52, 8, 53, 54, 55, 56] (by decide +kernel) (by decide +kernel)
set_option maxRecDepth 20000 in
theorem gX1_moment_X1_fraction : GoodIn wsX1_moment (va_wsS RX1 122 yX1_fraction wsX1_fraction) := goodIn_app (goodIn_of _ (by decide +kernel)) ggX1_moment_X1_fraction
theorem dX1_moment_0 : decode cX1_moment 0 = .ok (.aload_n 0, 1) := by decide +kernel
theorem dX1_moment_1 : decode cX1_moment 1 = .ok (.iload_n 1, 1) := by decide +kernel
theorem dX1_moment_2 : decode cX1_moment 2 = .ok (.invokevirtual 38, 3) := by decide +kernel
theorem dX1_moment_5 : decode cX1_moment 5 = .ok (.astore 4, 2) := by decide +kernel
theorem dX1_moment_7 : decode cX1_moment 7 = .ok (.aload 4, 2) := by decide +kernel
theorem dX1_moment_9 : decode cX1_moment 9 = .ok (.ifnonnull 7, 3) := by decide +kernel
theorem dX1_moment_12 : decode cX1_moment 12 = .ok (.ldc2_w 78, 3) := by decide +kernel
theorem dX1_moment_15 : decode cX1_moment 15 = .ok (.lreturn, 1) := by decide +kernel
theorem dX1_moment_16 : decode cX1_moment 16 = .ok (.iload_n 2, 1) := by decide +kernel
theorem dX1_moment_17 : decode cX1_moment 17 = .ok (.iconst 2, 1) := by decide +kernel
theorem dX1_moment_18 : decode cX1_moment 18 = .ok (.invokestatic 107, 3) := by decide +kernel
theorem dX1_moment_21 : decode cX1_moment 21 = .ok (.ifCond .eq 10, 3) := by decide +kernel
theorem dX1_moment_24 : decode cX1_moment 24 = .ok (.iload_n 3, 1) := by decide +kernel
theorem dX1_moment_25 : decode cX1_moment 25 = .ok (.invokestatic 61, 3) := by decide +kernel
theorem dX1_moment_28 : decode cX1_moment 28 = .ok (.ifCond .ne 7, 3) := by decide +kernel
theorem dX1_moment_31 : decode cX1_moment 31 = .ok (.ldc2_w 110, 3) := by decide +kernel
theorem dX1_moment_34 : decode cX1_moment 34 = .ok (.lreturn, 1) := by decide +kernel
theorem dX1_moment_35 : decode cX1_moment 35 = .ok (.aload 4, 2) := by decide +kernel
theorem dX1_moment_37 : decode cX1_moment 37 = .ok (.invokevirtual 80, 3) := by decide +kernel
theorem dX1_moment_40 : decode cX1_moment 40 = .ok (.ifCond .ne 7, 3) := by decide +kernel
theorem dX1_moment_43 : decode cX1_moment 43 = .ok (.ldc2_w 84, 3) := by decide +kernel
theorem dX1_moment_46 : decode cX1_moment 46 = .ok (.lreturn, 1) := by decide +kernel
theorem dX1_moment_47 : decode cX1_moment 47 = .ok (.aload 4, 2) := by decide +kernel
theorem dX1_moment_49 : decode cX1_moment 49 = .ok (.iload_n 2, 1) := by decide +kernel
theorem dX1_moment_50 : decode cX1_moment 50 = .ok (.iconst 1, 1) := by decide +kernel
theorem dX1_moment_51 : decode cX1_moment 51 = .ok (.iadd, 1) := by decide +kernel
theorem dX1_moment_52 : decode cX1_moment 52 = .ok (.aload 4, 2) := by decide +kernel
theorem dX1_moment_54 : decode cX1_moment 54 = .ok (.getfield 46, 3) := by decide +kernel
theorem dX1_moment_57 : decode cX1_moment 57 = .ok (.invokevirtual 116, 3) := by decide +kernel
theorem dX1_moment_60 : decode cX1_moment 60 = .ok (.lneg, 1) := by decide +kernel
theorem dX1_moment_61 : decode cX1_moment 61 = .ok (.iload_n 2, 1) := by decide +kernel
theorem dX1_moment_62 : decode cX1_moment 62 = .ok (.i2l, 1) := by decide +kernel
theorem dX1_moment_63 : decode cX1_moment 63 = .ok (.ldc2_w 120, 3) := by decide +kernel
theorem dX1_moment_66 : decode cX1_moment 66 = .ok (.ladd, 1) := by decide +kernel
theorem dX1_moment_67 : decode cX1_moment 67 = .ok (.iload_n 2, 1) := by decide +kernel
theorem dX1_moment_68 : decode cX1_moment 68 = .ok (.i2l, 1) := by decide +kernel
theorem dX1_moment_69 : decode cX1_moment 69 = .ok (.lconst 1, 1) := by decide +kernel
theorem dX1_moment_70 : decode cX1_moment 70 = .ok (.ladd, 1) := by decide +kernel
theorem dX1_moment_71 : decode cX1_moment 71 = .ok (.lmul, 1) := by decide +kernel
theorem dX1_moment_72 : decode cX1_moment 72 = .ok (.iload_n 3, 1) := by decide +kernel
theorem dX1_moment_73 : decode cX1_moment 73 = .ok (.invokestatic 122, 3) := by decide +kernel
theorem dX1_moment_76 : decode cX1_moment 76 = .ok (.lreturn, 1) := by decide +kernel
set_option maxRecDepth 20000 in
theorem ggX1_arm_X1_within : GoodIn wsX1_arm wsX1_within := goodIn_r _ [8] (by decide +kernel) (by decide +kernel)
set_option maxRecDepth 20000 in
theorem gX1_arm_X1_within : GoodIn wsX1_arm (va_wsS RX1 42 yX1_within wsX1_within) := goodIn_app (goodIn_of _ (by decide +kernel)) ggX1_arm_X1_within
set_option maxRecDepth 20000 in
theorem ggX1_arm_X1_from1To : GoodIn wsX1_arm wsX1_from1To := goodIn_r _ [11] (by decide +kernel) (by decide +kernel)
set_option maxRecDepth 20000 in
theorem gX1_arm_X1_from1To : GoodIn wsX1_arm (va_wsS RX1 104 yX1_from1To wsX1_from1To) := goodIn_app (goodIn_of _ (by decide +kernel)) ggX1_arm_X1_from1To
theorem dX1_arm_0 : decode cX1_arm 0 = .ok (.iload_n 1, 1) := by decide +kernel
theorem dX1_arm_1 : decode cX1_arm 1 = .ok (.sipush 200, 3) := by decide +kernel
theorem dX1_arm_4 : decode cX1_arm 4 = .ok (.invokestatic 42, 3) := by decide +kernel
theorem dX1_arm_7 : decode cX1_arm 7 = .ok (.ifCond .eq 13, 3) := by decide +kernel
theorem dX1_arm_10 : decode cX1_arm 10 = .ok (.iload_n 2, 1) := by decide +kernel
theorem dX1_arm_11 : decode cX1_arm 11 = .ok (.sipush 200, 3) := by decide +kernel
theorem dX1_arm_14 : decode cX1_arm 14 = .ok (.invokestatic 42, 3) := by decide +kernel
theorem dX1_arm_17 : decode cX1_arm 17 = .ok (.ifCond .ne 6, 3) := by decide +kernel
theorem dX1_arm_20 : decode cX1_arm 20 = .ok (.bipush (-2), 2) := by decide +kernel
theorem dX1_arm_22 : decode cX1_arm 22 = .ok (.ireturn, 1) := by decide +kernel
theorem dX1_arm_23 : decode cX1_arm 23 = .ok (.iload_n 3, 1) := by decide +kernel
theorem dX1_arm_24 : decode cX1_arm 24 = .ok (.sipush 400, 3) := by decide +kernel
theorem dX1_arm_27 : decode cX1_arm 27 = .ok (.invokestatic 104, 3) := by decide +kernel
theorem dX1_arm_30 : decode cX1_arm 30 = .ok (.ifCond .eq 13, 3) := by decide +kernel
theorem dX1_arm_33 : decode cX1_arm 33 = .ok (.iload 4, 2) := by decide +kernel
theorem dX1_arm_35 : decode cX1_arm 35 = .ok (.bipush 100, 2) := by decide +kernel
theorem dX1_arm_37 : decode cX1_arm 37 = .ok (.invokestatic 42, 3) := by decide +kernel
theorem dX1_arm_40 : decode cX1_arm 40 = .ok (.ifCond .ne 6, 3) := by decide +kernel
theorem dX1_arm_43 : decode cX1_arm 43 = .ok (.bipush (-2), 2) := by decide +kernel
theorem dX1_arm_45 : decode cX1_arm 45 = .ok (.ireturn, 1) := by decide +kernel
theorem dX1_arm_46 : decode cX1_arm 46 = .ok (.aload_n 0, 1) := by decide +kernel
theorem dX1_arm_47 : decode cX1_arm 47 = .ok (.iload_n 1, 1) := by decide +kernel
theorem dX1_arm_48 : decode cX1_arm 48 = .ok (.putfield 26, 3) := by decide +kernel
theorem dX1_arm_51 : decode cX1_arm 51 = .ok (.aload_n 0, 1) := by decide +kernel
theorem dX1_arm_52 : decode cX1_arm 52 = .ok (.iload_n 2, 1) := by decide +kernel
theorem dX1_arm_53 : decode cX1_arm 53 = .ok (.putfield 29, 3) := by decide +kernel
theorem dX1_arm_56 : decode cX1_arm 56 = .ok (.aload_n 0, 1) := by decide +kernel
theorem dX1_arm_57 : decode cX1_arm 57 = .ok (.iload_n 3, 1) := by decide +kernel
theorem dX1_arm_58 : decode cX1_arm 58 = .ok (.putfield 32, 3) := by decide +kernel
theorem dX1_arm_61 : decode cX1_arm 61 = .ok (.aload_n 0, 1) := by decide +kernel
theorem dX1_arm_62 : decode cX1_arm 62 = .ok (.iload 4, 2) := by decide +kernel
theorem dX1_arm_64 : decode cX1_arm 64 = .ok (.putfield 35, 3) := by decide +kernel
theorem dX1_arm_67 : decode cX1_arm 67 = .ok (.iconst 1, 1) := by decide +kernel
theorem dX1_arm_68 : decode cX1_arm 68 = .ok (.ireturn, 1) := by decide +kernel
set_option maxRecDepth 20000 in
theorem ggX1_ring_X1_find : GoodIn wsX1_ring wsX1_find := goodIn_r _ [11, 12, 69, 70, 71, 72, 73, 74, 75, 76] (by decide +kernel) (by decide +kernel)
set_option maxRecDepth 20000 in
theorem gX1_ring_X1_find : GoodIn wsX1_ring (wsV RX1 38 RX1 yX1_find wsX1_find) := goodIn_app (goodIn_of _ (by decide +kernel)) ggX1_ring_X1_find
set_option maxRecDepth 20000 in
theorem ggX1_ring_X1_zeroOrOne : GoodIn wsX1_ring wsX1_zeroOrOne := goodIn_r _ [15] (by decide +kernel) (by decide +kernel)
set_option maxRecDepth 20000 in
theorem gX1_ring_X1_zeroOrOne : GoodIn wsX1_ring (va_wsS RX1 61 yX1_zeroOrOne wsX1_zeroOrOne) := goodIn_app (goodIn_of _ (by decide +kernel)) ggX1_ring_X1_zeroOrOne
set_option maxRecDepth 20000 in
theorem ggX1_ring_X0_closed : GoodIn wsX1_ring wsX0_closed := goodIn_r _ [20, 21, 77, 78, 79] (by decide +kernel) (by decide +kernel)
set_option maxRecDepth 20000 in
theorem gX1_ring_X0_closed : GoodIn wsX1_ring (wsV RX1 80 RX0 yX0_closed wsX0_closed) := goodIn_app (goodIn_of _ (by decide +kernel)) ggX1_ring_X0_closed
set_option maxRecDepth 20000 in
theorem ggX1_ring_X0_carries : GoodIn wsX1_ring wsX0_carries := goodIn_r _ [25, 21, 26, 27, 28, 19, 29, 30, 31, 32, 33, 34, 35, 36, 37, 38, 39, 40, 41, 42, 43, 44, 45, 46, 47, 48, 49, 50, 51, 52, 53, 54, 55, 56, 57, 77, 78, 79] (by decide +kernel) (by decide +kernel)
set_option maxRecDepth 20000 in
theorem gX1_ring_X0_carries : GoodIn wsX1_ring (wsV RX1 97 RX0 yX0_carries wsX0_carries) := goodIn_app (goodIn_of _ (by decide +kernel)) ggX1_ring_X0_carries
set_option maxRecDepth 20000 in
theorem ggX1_ring_X1_withPi : GoodIn wsX1_ring wsX1_withPi := goodIn_r _ [61, 62, 63, 64, 69, 70, 71, 72, 73, 74, 75, 76] (by decide +kernel) (by decide +kernel)
set_option maxRecDepth 20000 in
theorem gX1_ring_X1_withPi : GoodIn wsX1_ring (wsV RX1 146 RX1 yX1_withPi wsX1_withPi) := goodIn_app (goodIn_of _ (by decide +kernel)) ggX1_ring_X1_withPi
set_option maxRecDepth 20000 in
theorem ggX1_ring_X0_turnsRound : GoodIn wsX1_ring wsX0_turnsRound := goodIn_r _ [68, 21, 43, 44, 45, 19, 46, 47, 30, 31, 32, 33, 34, 35, 36, 37, 38, 39, 40, 41, 42, 77, 78, 79] (by decide +kernel) (by decide +kernel)
set_option maxRecDepth 20000 in
theorem gX1_ring_X0_turnsRound : GoodIn wsX1_ring (wsV RX1 100 RX0 yX0_turnsRound wsX0_turnsRound) := goodIn_app (goodIn_of _ (by decide +kernel)) ggX1_ring_X0_turnsRound
theorem dX1_ring_0 : decode cX1_ring 0 = .ok (.aload_n 0, 1) := by decide +kernel
theorem dX1_ring_1 : decode cX1_ring 1 = .ok (.iload_n 1, 1) := by decide +kernel
theorem dX1_ring_2 : decode cX1_ring 2 = .ok (.invokevirtual 38, 3) := by decide +kernel
theorem dX1_ring_5 : decode cX1_ring 5 = .ok (.astore_n 3, 1) := by decide +kernel
theorem dX1_ring_6 : decode cX1_ring 6 = .ok (.aload_n 3, 1) := by decide +kernel
theorem dX1_ring_7 : decode cX1_ring 7 = .ok (.ifnonnull 7, 3) := by decide +kernel
theorem dX1_ring_10 : decode cX1_ring 10 = .ok (.ldc2_w 78, 3) := by decide +kernel
theorem dX1_ring_13 : decode cX1_ring 13 = .ok (.lreturn, 1) := by decide +kernel
theorem dX1_ring_14 : decode cX1_ring 14 = .ok (.iload_n 2, 1) := by decide +kernel
theorem dX1_ring_15 : decode cX1_ring 15 = .ok (.invokestatic 61, 3) := by decide +kernel
theorem dX1_ring_18 : decode cX1_ring 18 = .ok (.ifCond .ne 7, 3) := by decide +kernel
theorem dX1_ring_21 : decode cX1_ring 21 = .ok (.ldc2_w 110, 3) := by decide +kernel
theorem dX1_ring_24 : decode cX1_ring 24 = .ok (.lreturn, 1) := by decide +kernel
theorem dX1_ring_25 : decode cX1_ring 25 = .ok (.aload_n 3, 1) := by decide +kernel
theorem dX1_ring_26 : decode cX1_ring 26 = .ok (.invokevirtual 80, 3) := by decide +kernel
theorem dX1_ring_29 : decode cX1_ring 29 = .ok (.ifCond .ne 7, 3) := by decide +kernel
theorem dX1_ring_32 : decode cX1_ring 32 = .ok (.ldc2_w 84, 3) := by decide +kernel
theorem dX1_ring_35 : decode cX1_ring 35 = .ok (.lreturn, 1) := by decide +kernel
theorem dX1_ring_36 : decode cX1_ring 36 = .ok (.aload_n 3, 1) := by decide +kernel
theorem dX1_ring_37 : decode cX1_ring 37 = .ok (.aload_n 0, 1) := by decide +kernel
theorem dX1_ring_38 : decode cX1_ring 38 = .ok (.getfield 26, 3) := by decide +kernel
theorem dX1_ring_41 : decode cX1_ring 41 = .ok (.aload_n 0, 1) := by decide +kernel
theorem dX1_ring_42 : decode cX1_ring 42 = .ok (.getfield 29, 3) := by decide +kernel
theorem dX1_ring_45 : decode cX1_ring 45 = .ok (.invokevirtual 97, 3) := by decide +kernel
theorem dX1_ring_48 : decode cX1_ring 48 = .ok (.ifCond .eq 7, 3) := by decide +kernel
theorem dX1_ring_51 : decode cX1_ring 51 = .ok (.ldc2_w 144, 3) := by decide +kernel
theorem dX1_ring_54 : decode cX1_ring 54 = .ok (.lreturn, 1) := by decide +kernel
theorem dX1_ring_55 : decode cX1_ring 55 = .ok (.iload_n 2, 1) := by decide +kernel
theorem dX1_ring_56 : decode cX1_ring 56 = .ok (.ifCond .ne 10, 3) := by decide +kernel
theorem dX1_ring_59 : decode cX1_ring 59 = .ok (.aload_n 0, 1) := by decide +kernel
theorem dX1_ring_60 : decode cX1_ring 60 = .ok (.invokevirtual 146, 3) := by decide +kernel
theorem dX1_ring_63 : decode cX1_ring 63 = .ok (.goto 16, 3) := by decide +kernel
theorem dX1_ring_66 : decode cX1_ring 66 = .ok (.aload_n 3, 1) := by decide +kernel
theorem dX1_ring_67 : decode cX1_ring 67 = .ok (.aload_n 0, 1) := by decide +kernel
theorem dX1_ring_68 : decode cX1_ring 68 = .ok (.getfield 26, 3) := by decide +kernel
theorem dX1_ring_71 : decode cX1_ring 71 = .ok (.aload_n 0, 1) := by decide +kernel
theorem dX1_ring_72 : decode cX1_ring 72 = .ok (.getfield 29, 3) := by decide +kernel
theorem dX1_ring_75 : decode cX1_ring 75 = .ok (.invokevirtual 100, 3) := by decide +kernel
theorem dX1_ring_78 : decode cX1_ring 78 = .ok (.i2l, 1) := by decide +kernel
theorem dX1_ring_79 : decode cX1_ring 79 = .ok (.lreturn, 1) := by decide +kernel
set_option maxRecDepth 20000 in
theorem ggX1_reaches_X1_find : GoodIn wsX1_reaches wsX1_find := goodIn_r _ [5, 6, 59, 60, 61, 62, 63, 64, 65, 66] (by decide +kernel) (by decide +kernel)
set_option maxRecDepth 20000 in
theorem gX1_reaches_X1_find : GoodIn wsX1_reaches (wsV RX1 38 RX1 yX1_find wsX1_find) := goodIn_app (goodIn_of _ (by decide +kernel)) ggX1_reaches_X1_find
set_option maxRecDepth 20000 in
theorem ggX1_reaches_X0_closed : GoodIn wsX1_reaches wsX0_closed := goodIn_r _ [11, 12, 67, 68, 69] (by decide +kernel) (by decide +kernel)
set_option maxRecDepth 20000 in
theorem gX1_reaches_X0_closed : GoodIn wsX1_reaches (wsV RX1 80 RX0 yX0_closed wsX0_closed) := goodIn_app (goodIn_of _ (by decide +kernel)) ggX1_reaches_X0_closed
set_option maxRecDepth 20000 in
theorem ggX1_reaches_X1_beyondFolded : GoodIn wsX1_reaches wsX1_beyondFolded := goodIn_r _ [16, 17, 18, 19, 20, 21, 22, 23, 10, 24, 25, 26, 27, 28, 12, 29, 30, 31, 32, 33, 34, 35, 36, 37, 38, 39, 40, 41, 42, 43, 44, 45, 46, 47, 48, 49, 50, 59, 60, 61, 62, 63, 64, 65, 66, 67, 68, 69] (by decide +kernel) (by decide +kernel)
set_option maxRecDepth 20000 in
theorem gX1_reaches_X1_beyondFolded : GoodIn wsX1_reaches (wsV RX1 149 RX1 yX1_beyondFolded wsX1_beyondFolded) := goodIn_app (goodIn_of _ (by decide +kernel)) ggX1_reaches_X1_beyondFolded
set_option maxRecDepth 20000 in
theorem ggX1_reaches_X1_withinStretched : GoodIn wsX1_reaches wsX1_withinStretched := goodIn_r _ [54, 17, 18, 19, 20, 55, 40, 41, 10, 42, 29, 30, 31, 32, 33, 34, 35, 36, 37, 38, 59, 60, 61, 62, 63, 64, 65, 66, 67, 68, 69] (by decide +kernel) (by decide +kernel)
set_option maxRecDepth 20000 in
theorem gX1_reaches_X1_withinStretched : GoodIn wsX1_reaches (wsV RX1 152 RX1 yX1_withinStretched wsX1_withinStretched) := goodIn_app (goodIn_of _ (by decide +kernel)) ggX1_reaches_X1_withinStretched
set_option maxRecDepth 20000 in
theorem ggX1_reaches_X1_oneIf : GoodIn wsX1_reaches wsX1_oneIf := goodIn_r _ [58] (by decide +kernel) (by decide +kernel)
set_option maxRecDepth 20000 in
theorem gX1_reaches_X1_oneIf : GoodIn wsX1_reaches (va_wsS RX1 93 yX1_oneIf wsX1_oneIf) := goodIn_app (goodIn_of _ (by decide +kernel)) ggX1_reaches_X1_oneIf
theorem dX1_reaches_0 : decode cX1_reaches 0 = .ok (.aload_n 0, 1) := by decide +kernel
theorem dX1_reaches_1 : decode cX1_reaches 1 = .ok (.iload_n 1, 1) := by decide +kernel
theorem dX1_reaches_2 : decode cX1_reaches 2 = .ok (.invokevirtual 38, 3) := by decide +kernel
theorem dX1_reaches_5 : decode cX1_reaches 5 = .ok (.astore_n 2, 1) := by decide +kernel
theorem dX1_reaches_6 : decode cX1_reaches 6 = .ok (.aload_n 2, 1) := by decide +kernel
theorem dX1_reaches_7 : decode cX1_reaches 7 = .ok (.ifnonnull 5, 3) := by decide +kernel
theorem dX1_reaches_10 : decode cX1_reaches 10 = .ok (.iconst (-1), 1) := by decide +kernel
theorem dX1_reaches_11 : decode cX1_reaches 11 = .ok (.ireturn, 1) := by decide +kernel
theorem dX1_reaches_12 : decode cX1_reaches 12 = .ok (.aload_n 2, 1) := by decide +kernel
theorem dX1_reaches_13 : decode cX1_reaches 13 = .ok (.invokevirtual 80, 3) := by decide +kernel
theorem dX1_reaches_16 : decode cX1_reaches 16 = .ok (.ifCond .ne 6, 3) := by decide +kernel
theorem dX1_reaches_19 : decode cX1_reaches 19 = .ok (.bipush (-3), 2) := by decide +kernel
theorem dX1_reaches_21 : decode cX1_reaches 21 = .ok (.ireturn, 1) := by decide +kernel
theorem dX1_reaches_22 : decode cX1_reaches 22 = .ok (.aload_n 0, 1) := by decide +kernel
theorem dX1_reaches_23 : decode cX1_reaches 23 = .ok (.aload_n 2, 1) := by decide +kernel
theorem dX1_reaches_24 : decode cX1_reaches 24 = .ok (.invokevirtual 149, 3) := by decide +kernel
theorem dX1_reaches_27 : decode cX1_reaches 27 = .ok (.ifCond .eq 15, 3) := by decide +kernel
theorem dX1_reaches_30 : decode cX1_reaches 30 = .ok (.aload_n 0, 1) := by decide +kernel
theorem dX1_reaches_31 : decode cX1_reaches 31 = .ok (.aload_n 2, 1) := by decide +kernel
theorem dX1_reaches_32 : decode cX1_reaches 32 = .ok (.invokevirtual 152, 3) := by decide +kernel
theorem dX1_reaches_35 : decode cX1_reaches 35 = .ok (.ifCond .eq 7, 3) := by decide +kernel
theorem dX1_reaches_38 : decode cX1_reaches 38 = .ok (.iconst 1, 1) := by decide +kernel
theorem dX1_reaches_39 : decode cX1_reaches 39 = .ok (.goto 4, 3) := by decide +kernel
theorem dX1_reaches_42 : decode cX1_reaches 42 = .ok (.iconst 0, 1) := by decide +kernel
theorem dX1_reaches_43 : decode cX1_reaches 43 = .ok (.invokestatic 93, 3) := by decide +kernel
theorem dX1_reaches_46 : decode cX1_reaches 46 = .ok (.ireturn, 1) := by decide +kernel
set_option maxRecDepth 20000 in
theorem ggX1_teeth_X1_from1To : GoodIn wsX1_teeth wsX1_from1To := goodIn_r _ [6] (by decide +kernel) (by decide +kernel)
set_option maxRecDepth 20000 in
theorem gX1_teeth_X1_from1To : GoodIn wsX1_teeth (va_wsS RX1 104 yX1_from1To wsX1_from1To) := goodIn_app (goodIn_of _ (by decide +kernel)) ggX1_teeth_X1_from1To
theorem dX1_teeth_0 : decode cX1_teeth 0 = .ok (.iload_n 1, 1) := by decide +kernel
theorem dX1_teeth_1 : decode cX1_teeth 1 = .ok (.sipush 1000, 3) := by decide +kernel
theorem dX1_teeth_4 : decode cX1_teeth 4 = .ok (.invokestatic 104, 3) := by decide +kernel
theorem dX1_teeth_7 : decode cX1_teeth 7 = .ok (.ifCond .eq 13, 3) := by decide +kernel
theorem dX1_teeth_10 : decode cX1_teeth 10 = .ok (.iload_n 2, 1) := by decide +kernel
theorem dX1_teeth_11 : decode cX1_teeth 11 = .ok (.sipush 10000, 3) := by decide +kernel
theorem dX1_teeth_14 : decode cX1_teeth 14 = .ok (.invokestatic 104, 3) := by decide +kernel
theorem dX1_teeth_17 : decode cX1_teeth 17 = .ok (.ifCond .ne 6, 3) := by decide +kernel
theorem dX1_teeth_20 : decode cX1_teeth 20 = .ok (.bipush (-2), 2) := by decide +kernel
theorem dX1_teeth_22 : decode cX1_teeth 22 = .ok (.ireturn, 1) := by decide +kernel
theorem dX1_teeth_23 : decode cX1_teeth 23 = .ok (.aload_n 0, 1) := by decide +kernel
theorem dX1_teeth_24 : decode cX1_teeth 24 = .ok (.iload_n 1, 1) := by decide +kernel
theorem dX1_teeth_25 : decode cX1_teeth 25 = .ok (.putfield 20, 3) := by decide +kernel
theorem dX1_teeth_28 : decode cX1_teeth 28 = .ok (.aload_n 0, 1) := by decide +kernel
theorem dX1_teeth_29 : decode cX1_teeth 29 = .ok (.iload_n 2, 1) := by decide +kernel
theorem dX1_teeth_30 : decode cX1_teeth 30 = .ok (.putfield 23, 3) := by decide +kernel
theorem dX1_teeth_33 : decode cX1_teeth 33 = .ok (.iconst 1, 1) := by decide +kernel
theorem dX1_teeth_34 : decode cX1_teeth 34 = .ok (.ireturn, 1) := by decide +kernel
set_option maxRecDepth 20000 in
theorem ggX1_count_X1_find : GoodIn wsX1_count wsX1_find := goodIn_r _ [15, 16, 61, 62, 63, 64, 65, 66, 67, 68] (by decide +kernel) (by decide +kernel)
set_option maxRecDepth 20000 in
theorem gX1_count_X1_find : GoodIn wsX1_count (wsV RX1 38 RX1 yX1_find wsX1_find) := goodIn_app (goodIn_of _ (by decide +kernel)) ggX1_count_X1_find
set_option maxRecDepth 20000 in
theorem ggX1_count_X1_goesRound : GoodIn wsX1_count wsX1_goesRound := goodIn_r _ [20, 9, 21, 22, 23, 24, 25, 26, 27, 28, 29, 30, 31, 32, 5, 33, 34, 35, 36, 37, 38, 61, 62, 63, 64, 65, 66, 67, 68, 58, 59, 60] (by decide +kernel) (by decide +kernel)
set_option maxRecDepth 20000 in
theorem gX1_count_X1_goesRound : GoodIn wsX1_count (wsV RX1 112 RX1 yX1_goesRound wsX1_goesRound) := goodIn_app (goodIn_of _ (by decide +kernel)) ggX1_count_X1_goesRound
set_option maxRecDepth 20000 in
theorem ggX1_count_X0_alongX : GoodIn wsX1_count wsX0_alongX := goodIn_r _ [42, 43, 44, 45, 24, 46, 26, 47, 48, 49, 50, 51, 34, 35, 36, 37, 38, 52, 53, 54, 58, 59, 60] (by decide +kernel) (by decide +kernel)
set_option maxRecDepth 20000 in
theorem gX1_count_X0_alongX : GoodIn wsX1_count (wsV RX1 116 RX0 yX0_alongX wsX0_alongX) := goodIn_app (goodIn_of _ (by decide +kernel)) ggX1_count_X0_alongX
set_option maxRecDepth 20000 in
theorem ggX1_count_X1_cut : GoodIn wsX1_count wsX1_cut := goodIn_r _ [57] (by decide +kernel) (by decide +kernel)
set_option maxRecDepth 20000 in
theorem gX1_count_X1_cut : GoodIn wsX1_count (va_wsS RX1 161 yX1_cut wsX1_cut) := goodIn_app (goodIn_of _ (by decide +kernel)) ggX1_count_X1_cut
theorem dX1_count_0 : decode cX1_count 0 = .ok (.aload_n 0, 1) := by decide +kernel
theorem dX1_count_1 : decode cX1_count 1 = .ok (.iload_n 1, 1) := by decide +kernel
theorem dX1_count_2 : decode cX1_count 2 = .ok (.invokevirtual 38, 3) := by decide +kernel
theorem dX1_count_5 : decode cX1_count 5 = .ok (.astore_n 2, 1) := by decide +kernel
theorem dX1_count_6 : decode cX1_count 6 = .ok (.aload_n 2, 1) := by decide +kernel
theorem dX1_count_7 : decode cX1_count 7 = .ok (.ifnonnull 7, 3) := by decide +kernel
theorem dX1_count_10 : decode cX1_count 10 = .ok (.ldc2_w 78, 3) := by decide +kernel
theorem dX1_count_13 : decode cX1_count 13 = .ok (.lreturn, 1) := by decide +kernel
theorem dX1_count_14 : decode cX1_count 14 = .ok (.aload_n 0, 1) := by decide +kernel
theorem dX1_count_15 : decode cX1_count 15 = .ok (.aload_n 2, 1) := by decide +kernel
theorem dX1_count_16 : decode cX1_count 16 = .ok (.invokevirtual 112, 3) := by decide +kernel
theorem dX1_count_19 : decode cX1_count 19 = .ok (.ifCond .ne 7, 3) := by decide +kernel
theorem dX1_count_22 : decode cX1_count 22 = .ok (.ldc2_w 84, 3) := by decide +kernel
theorem dX1_count_25 : decode cX1_count 25 = .ok (.lreturn, 1) := by decide +kernel
theorem dX1_count_26 : decode cX1_count 26 = .ok (.aload_n 2, 1) := by decide +kernel
theorem dX1_count_27 : decode cX1_count 27 = .ok (.iconst 1, 1) := by decide +kernel
theorem dX1_count_28 : decode cX1_count 28 = .ok (.aload_n 2, 1) := by decide +kernel
theorem dX1_count_29 : decode cX1_count 29 = .ok (.getfield 46, 3) := by decide +kernel
theorem dX1_count_32 : decode cX1_count 32 = .ok (.invokevirtual 116, 3) := by decide +kernel
theorem dX1_count_35 : decode cX1_count 35 = .ok (.invokestatic 155, 3) := by decide +kernel
theorem dX1_count_38 : decode cX1_count 38 = .ok (.aload_n 0, 1) := by decide +kernel
theorem dX1_count_39 : decode cX1_count 39 = .ok (.getfield 23, 3) := by decide +kernel
theorem dX1_count_42 : decode cX1_count 42 = .ok (.i2l, 1) := by decide +kernel
theorem dX1_count_43 : decode cX1_count 43 = .ok (.lmul, 1) := by decide +kernel
theorem dX1_count_44 : decode cX1_count 44 = .ok (.ldc2_w 120, 3) := by decide +kernel
theorem dX1_count_47 : decode cX1_count 47 = .ok (.aload_n 0, 1) := by decide +kernel
theorem dX1_count_48 : decode cX1_count 48 = .ok (.getfield 16, 3) := by decide +kernel
theorem dX1_count_51 : decode cX1_count 51 = .ok (.i2l, 1) := by decide +kernel
theorem dX1_count_52 : decode cX1_count 52 = .ok (.lmul, 1) := by decide +kernel
theorem dX1_count_53 : decode cX1_count 53 = .ok (.aload_n 0, 1) := by decide +kernel
theorem dX1_count_54 : decode cX1_count 54 = .ok (.getfield 20, 3) := by decide +kernel
theorem dX1_count_57 : decode cX1_count 57 = .ok (.i2l, 1) := by decide +kernel
theorem dX1_count_58 : decode cX1_count 58 = .ok (.lmul, 1) := by decide +kernel
theorem dX1_count_59 : decode cX1_count 59 = .ok (.invokestatic 161, 3) := by decide +kernel
theorem dX1_count_62 : decode cX1_count 62 = .ok (.lreturn, 1) := by decide +kernel
set_option maxRecDepth 20000 in
theorem ggX1_may_X1_readable : GoodIn wsX1_may wsX1_readable := goodIn_r _ [8, 9, 10, 11, 7, 12] (by decide +kernel) (by decide +kernel)
set_option maxRecDepth 20000 in
theorem gX1_may_X1_readable : GoodIn wsX1_may (va_wsS RX1 165 yX1_readable wsX1_readable) := goodIn_app (goodIn_of _ (by decide +kernel)) ggX1_may_X1_readable
set_option maxRecDepth 20000 in
theorem ggX1_may_X1_zeroOrOne : GoodIn wsX1_may wsX1_zeroOrOne := goodIn_r _ [15] (by decide +kernel) (by decide +kernel)
set_option maxRecDepth 20000 in
theorem gX1_may_X1_zeroOrOne : GoodIn wsX1_may (va_wsS RX1 61 yX1_zeroOrOne wsX1_zeroOrOne) := goodIn_app (goodIn_of _ (by decide +kernel)) ggX1_may_X1_zeroOrOne
set_option maxRecDepth 20000 in
theorem ggX1_may_X1_leastTeeth : GoodIn wsX1_may wsX1_leastTeeth := goodIn_r _ [18, 19, 20, 21, 22] (by decide +kernel) (by decide +kernel)
set_option maxRecDepth 20000 in
theorem gX1_may_X1_leastTeeth : GoodIn wsX1_may (va_wsS RX1 169 yX1_leastTeeth wsX1_leastTeeth) := goodIn_app (goodIn_of _ (by decide +kernel)) ggX1_may_X1_leastTeeth
set_option maxRecDepth 20000 in
theorem ggX1_may_X1_belowTeeth : GoodIn wsX1_may wsX1_belowTeeth := goodIn_r _ [25] (by decide +kernel) (by decide +kernel)
set_option maxRecDepth 20000 in
theorem gX1_may_X1_belowTeeth : GoodIn wsX1_may (va_wsS RX1 173 yX1_belowTeeth wsX1_belowTeeth) := goodIn_app (goodIn_of _ (by decide +kernel)) ggX1_may_X1_belowTeeth
set_option maxRecDepth 20000 in
theorem ggX1_may_X1_fraction : GoodIn wsX1_may wsX1_fraction := goodIn_r _ [28, 29, 30, 21, 31, 32, 33, 7, 34, 35, 36, 37] (by decide +kernel) (by decide +kernel)
set_option maxRecDepth 20000 in
theorem gX1_may_X1_fraction : GoodIn wsX1_may (va_wsS RX1 122 yX1_fraction wsX1_fraction) := goodIn_app (goodIn_of _ (by decide +kernel)) ggX1_may_X1_fraction
theorem dX1_may_0 : decode cX1_may 0 = .ok (.iload_n 1, 1) := by decide +kernel
theorem dX1_may_1 : decode cX1_may 1 = .ok (.iload_n 2, 1) := by decide +kernel
theorem dX1_may_2 : decode cX1_may 2 = .ok (.iload_n 3, 1) := by decide +kernel
theorem dX1_may_3 : decode cX1_may 3 = .ok (.invokestatic 165, 3) := by decide +kernel
theorem dX1_may_6 : decode cX1_may 6 = .ok (.ifCond .eq 19, 3) := by decide +kernel
theorem dX1_may_9 : decode cX1_may 9 = .ok (.iload 4, 2) := by decide +kernel
theorem dX1_may_11 : decode cX1_may 11 = .ok (.invokestatic 61, 3) := by decide +kernel
theorem dX1_may_14 : decode cX1_may 14 = .ok (.ifCond .eq 11, 3) := by decide +kernel
theorem dX1_may_17 : decode cX1_may 17 = .ok (.iload 5, 2) := by decide +kernel
theorem dX1_may_19 : decode cX1_may 19 = .ok (.invokestatic 61, 3) := by decide +kernel
theorem dX1_may_22 : decode cX1_may 22 = .ok (.ifCond .ne 7, 3) := by decide +kernel
theorem dX1_may_25 : decode cX1_may 25 = .ok (.ldc2_w 110, 3) := by decide +kernel
theorem dX1_may_28 : decode cX1_may 28 = .ok (.lreturn, 1) := by decide +kernel
theorem dX1_may_29 : decode cX1_may 29 = .ok (.iload 4, 2) := by decide +kernel
theorem dX1_may_31 : decode cX1_may 31 = .ok (.ifCond .ne 12, 3) := by decide +kernel
theorem dX1_may_34 : decode cX1_may 34 = .ok (.iload_n 1, 1) := by decide +kernel
theorem dX1_may_35 : decode cX1_may 35 = .ok (.iload_n 2, 1) := by decide +kernel
theorem dX1_may_36 : decode cX1_may 36 = .ok (.iload_n 3, 1) := by decide +kernel
theorem dX1_may_37 : decode cX1_may 37 = .ok (.invokestatic 169, 3) := by decide +kernel
theorem dX1_may_40 : decode cX1_may 40 = .ok (.goto 9, 3) := by decide +kernel
theorem dX1_may_43 : decode cX1_may 43 = .ok (.iload_n 1, 1) := by decide +kernel
theorem dX1_may_44 : decode cX1_may 44 = .ok (.iload_n 2, 1) := by decide +kernel
theorem dX1_may_45 : decode cX1_may 45 = .ok (.iload_n 3, 1) := by decide +kernel
theorem dX1_may_46 : decode cX1_may 46 = .ok (.invokestatic 173, 3) := by decide +kernel
theorem dX1_may_49 : decode cX1_may 49 = .ok (.lstore 6, 2) := by decide +kernel
theorem dX1_may_51 : decode cX1_may 51 = .ok (.lload 6, 2) := by decide +kernel
theorem dX1_may_53 : decode cX1_may 53 = .ok (.aload_n 0, 1) := by decide +kernel
theorem dX1_may_54 : decode cX1_may 54 = .ok (.getfield 20, 3) := by decide +kernel
theorem dX1_may_57 : decode cX1_may 57 = .ok (.i2l, 1) := by decide +kernel
theorem dX1_may_58 : decode cX1_may 58 = .ok (.lmul, 1) := by decide +kernel
theorem dX1_may_59 : decode cX1_may 59 = .ok (.aload_n 0, 1) := by decide +kernel
theorem dX1_may_60 : decode cX1_may 60 = .ok (.getfield 16, 3) := by decide +kernel
theorem dX1_may_63 : decode cX1_may 63 = .ok (.i2l, 1) := by decide +kernel
theorem dX1_may_64 : decode cX1_may 64 = .ok (.lmul, 1) := by decide +kernel
theorem dX1_may_65 : decode cX1_may 65 = .ok (.aload_n 0, 1) := by decide +kernel
theorem dX1_may_66 : decode cX1_may 66 = .ok (.getfield 23, 3) := by decide +kernel
theorem dX1_may_69 : decode cX1_may 69 = .ok (.i2l, 1) := by decide +kernel
theorem dX1_may_70 : decode cX1_may 70 = .ok (.iload 5, 2) := by decide +kernel
theorem dX1_may_72 : decode cX1_may 72 = .ok (.invokestatic 122, 3) := by decide +kernel
theorem dX1_may_75 : decode cX1_may 75 = .ok (.lreturn, 1) := by decide +kernel
set_option maxRecDepth 20000 in
theorem ggX1_fits_X1_find : GoodIn wsX1_fits wsX1_find := goodIn_r _ [13, 14, 58, 59, 60, 61, 62, 63, 64, 65] (by decide +kernel) (by decide +kernel)
set_option maxRecDepth 20000 in
theorem gX1_fits_X1_find : GoodIn wsX1_fits (wsV RX1 38 RX1 yX1_find wsX1_find) := goodIn_app (goodIn_of _ (by decide +kernel)) ggX1_fits_X1_find
set_option maxRecDepth 20000 in
theorem ggX1_fits_X1_readable : GoodIn wsX1_fits wsX1_readable := goodIn_r _ [17, 18, 19, 20, 12, 21] (by decide +kernel) (by decide +kernel)
set_option maxRecDepth 20000 in
theorem gX1_fits_X1_readable : GoodIn wsX1_fits (va_wsS RX1 165 yX1_readable wsX1_readable) := goodIn_app (goodIn_of _ (by decide +kernel)) ggX1_fits_X1_readable
set_option maxRecDepth 20000 in
theorem ggX1_fits_X0_closed : GoodIn wsX1_fits wsX0_closed := goodIn_r _ [26, 27, 66, 67, 68] (by decide +kernel) (by decide +kernel)
set_option maxRecDepth 20000 in
theorem gX1_fits_X0_closed : GoodIn wsX1_fits (wsV RX1 80 RX0 yX0_closed wsX0_closed) := goodIn_app (goodIn_of _ (by decide +kernel)) ggX1_fits_X0_closed
set_option maxRecDepth 20000 in
theorem ggX1_fits_X0_doubleArea : GoodIn wsX1_fits wsX0_doubleArea := goodIn_r _ [31, 27, 32, 33, 34, 25, 35, 36, 37, 38, 39, 40, 41, 42, 43, 44, 45, 66, 67, 68] (by decide +kernel) (by decide +kernel)
set_option maxRecDepth 20000 in
theorem gX1_fits_X0_doubleArea : GoodIn wsX1_fits (wsV RX1 86 RX0 yX0_doubleArea wsX0_doubleArea) := goodIn_app (goodIn_of _ (by decide +kernel)) ggX1_fits_X0_doubleArea
set_option maxRecDepth 20000 in
theorem ggX1_fits_X1_leastTeeth : GoodIn wsX1_fits wsX1_leastTeeth := goodIn_r _ [48, 49, 50, 3, 51] (by decide +kernel) (by decide +kernel)
set_option maxRecDepth 20000 in
theorem gX1_fits_X1_leastTeeth : GoodIn wsX1_fits (va_wsS RX1 169 yX1_leastTeeth wsX1_leastTeeth) := goodIn_app (goodIn_of _ (by decide +kernel)) ggX1_fits_X1_leastTeeth
set_option maxRecDepth 20000 in
theorem ggX1_fits_X1_belowTeeth : GoodIn wsX1_fits wsX1_belowTeeth := goodIn_r _ [54] (by decide +kernel) (by decide +kernel)
set_option maxRecDepth 20000 in
theorem gX1_fits_X1_belowTeeth : GoodIn wsX1_fits (va_wsS RX1 173 yX1_belowTeeth wsX1_belowTeeth) := goodIn_app (goodIn_of _ (by decide +kernel)) ggX1_fits_X1_belowTeeth
set_option maxRecDepth 20000 in
theorem ggX1_fits_X1_oneIf : GoodIn wsX1_fits wsX1_oneIf := goodIn_r _ [57] (by decide +kernel) (by decide +kernel)
set_option maxRecDepth 20000 in
theorem gX1_fits_X1_oneIf : GoodIn wsX1_fits (va_wsS RX1 93 yX1_oneIf wsX1_oneIf) := goodIn_app (goodIn_of _ (by decide +kernel)) ggX1_fits_X1_oneIf
theorem dX1_fits_0 : decode cX1_fits 0 = .ok (.aload_n 0, 1) := by decide +kernel
theorem dX1_fits_1 : decode cX1_fits 1 = .ok (.iload_n 1, 1) := by decide +kernel
theorem dX1_fits_2 : decode cX1_fits 2 = .ok (.invokevirtual 38, 3) := by decide +kernel
theorem dX1_fits_5 : decode cX1_fits 5 = .ok (.astore 5, 2) := by decide +kernel
theorem dX1_fits_7 : decode cX1_fits 7 = .ok (.aload 5, 2) := by decide +kernel
theorem dX1_fits_9 : decode cX1_fits 9 = .ok (.ifnonnull 5, 3) := by decide +kernel
theorem dX1_fits_12 : decode cX1_fits 12 = .ok (.iconst (-1), 1) := by decide +kernel
theorem dX1_fits_13 : decode cX1_fits 13 = .ok (.ireturn, 1) := by decide +kernel
theorem dX1_fits_14 : decode cX1_fits 14 = .ok (.iload_n 2, 1) := by decide +kernel
theorem dX1_fits_15 : decode cX1_fits 15 = .ok (.iload_n 3, 1) := by decide +kernel
theorem dX1_fits_16 : decode cX1_fits 16 = .ok (.iload 4, 2) := by decide +kernel
theorem dX1_fits_18 : decode cX1_fits 18 = .ok (.invokestatic 165, 3) := by decide +kernel
theorem dX1_fits_21 : decode cX1_fits 21 = .ok (.ifCond .ne 6, 3) := by decide +kernel
theorem dX1_fits_24 : decode cX1_fits 24 = .ok (.bipush (-2), 2) := by decide +kernel
theorem dX1_fits_26 : decode cX1_fits 26 = .ok (.ireturn, 1) := by decide +kernel
theorem dX1_fits_27 : decode cX1_fits 27 = .ok (.aload 5, 2) := by decide +kernel
theorem dX1_fits_29 : decode cX1_fits 29 = .ok (.invokevirtual 80, 3) := by decide +kernel
theorem dX1_fits_32 : decode cX1_fits 32 = .ok (.ifCond .ne 6, 3) := by decide +kernel
theorem dX1_fits_35 : decode cX1_fits 35 = .ok (.bipush (-3), 2) := by decide +kernel
theorem dX1_fits_37 : decode cX1_fits 37 = .ok (.ireturn, 1) := by decide +kernel
theorem dX1_fits_38 : decode cX1_fits 38 = .ok (.aload 5, 2) := by decide +kernel
theorem dX1_fits_40 : decode cX1_fits 40 = .ok (.invokevirtual 86, 3) := by decide +kernel
theorem dX1_fits_43 : decode cX1_fits 43 = .ok (.invokestatic 155, 3) := by decide +kernel
theorem dX1_fits_46 : decode cX1_fits 46 = .ok (.aload_n 0, 1) := by decide +kernel
theorem dX1_fits_47 : decode cX1_fits 47 = .ok (.getfield 23, 3) := by decide +kernel
theorem dX1_fits_50 : decode cX1_fits 50 = .ok (.i2l, 1) := by decide +kernel
theorem dX1_fits_51 : decode cX1_fits 51 = .ok (.lmul, 1) := by decide +kernel
theorem dX1_fits_52 : decode cX1_fits 52 = .ok (.lstore 6, 2) := by decide +kernel
theorem dX1_fits_54 : decode cX1_fits 54 = .ok (.ldc2_w 120, 3) := by decide +kernel
theorem dX1_fits_57 : decode cX1_fits 57 = .ok (.aload_n 0, 1) := by decide +kernel
theorem dX1_fits_58 : decode cX1_fits 58 = .ok (.getfield 20, 3) := by decide +kernel
theorem dX1_fits_61 : decode cX1_fits 61 = .ok (.i2l, 1) := by decide +kernel
theorem dX1_fits_62 : decode cX1_fits 62 = .ok (.lmul, 1) := by decide +kernel
theorem dX1_fits_63 : decode cX1_fits 63 = .ok (.aload_n 0, 1) := by decide +kernel
theorem dX1_fits_64 : decode cX1_fits 64 = .ok (.getfield 16, 3) := by decide +kernel
theorem dX1_fits_67 : decode cX1_fits 67 = .ok (.i2l, 1) := by decide +kernel
theorem dX1_fits_68 : decode cX1_fits 68 = .ok (.lmul, 1) := by decide +kernel
theorem dX1_fits_69 : decode cX1_fits 69 = .ok (.lstore 8, 2) := by decide +kernel
theorem dX1_fits_71 : decode cX1_fits 71 = .ok (.lload 6, 2) := by decide +kernel
theorem dX1_fits_73 : decode cX1_fits 73 = .ok (.iload_n 2, 1) := by decide +kernel
theorem dX1_fits_74 : decode cX1_fits 74 = .ok (.iload_n 3, 1) := by decide +kernel
theorem dX1_fits_75 : decode cX1_fits 75 = .ok (.iload 4, 2) := by decide +kernel
theorem dX1_fits_77 : decode cX1_fits 77 = .ok (.invokestatic 169, 3) := by decide +kernel
theorem dX1_fits_80 : decode cX1_fits 80 = .ok (.lload 8, 2) := by decide +kernel
theorem dX1_fits_82 : decode cX1_fits 82 = .ok (.lmul, 1) := by decide +kernel
theorem dX1_fits_83 : decode cX1_fits 83 = .ok (.lcmp, 1) := by decide +kernel
theorem dX1_fits_84 : decode cX1_fits 84 = .ok (.ifCond .lt 23, 3) := by decide +kernel
theorem dX1_fits_87 : decode cX1_fits 87 = .ok (.lload 6, 2) := by decide +kernel
theorem dX1_fits_89 : decode cX1_fits 89 = .ok (.iload_n 2, 1) := by decide +kernel
theorem dX1_fits_90 : decode cX1_fits 90 = .ok (.iload_n 3, 1) := by decide +kernel
theorem dX1_fits_91 : decode cX1_fits 91 = .ok (.iload 4, 2) := by decide +kernel
theorem dX1_fits_93 : decode cX1_fits 93 = .ok (.invokestatic 173, 3) := by decide +kernel
theorem dX1_fits_96 : decode cX1_fits 96 = .ok (.lload 8, 2) := by decide +kernel
theorem dX1_fits_98 : decode cX1_fits 98 = .ok (.lmul, 1) := by decide +kernel
theorem dX1_fits_99 : decode cX1_fits 99 = .ok (.lcmp, 1) := by decide +kernel
theorem dX1_fits_100 : decode cX1_fits 100 = .ok (.ifCond .ge 7, 3) := by decide +kernel
theorem dX1_fits_103 : decode cX1_fits 103 = .ok (.iconst 1, 1) := by decide +kernel
theorem dX1_fits_104 : decode cX1_fits 104 = .ok (.goto 4, 3) := by decide +kernel
theorem dX1_fits_107 : decode cX1_fits 107 = .ok (.iconst 0, 1) := by decide +kernel
theorem dX1_fits_108 : decode cX1_fits 108 = .ok (.invokestatic 93, 3) := by decide +kernel
theorem dX1_fits_111 : decode cX1_fits 111 = .ok (.ireturn, 1) := by decide +kernel
set_option maxRecDepth 20000 in
theorem ggX1_join_X1_find : GoodIn wsX1_join wsX1_find := goodIn_r _ [5, 6, 47, 48, 49, 50, 51, 52, 53, 54] (by decide +kernel) (by decide +kernel)
set_option maxRecDepth 20000 in
theorem gX1_join_X1_find : GoodIn wsX1_join (wsV RX1 38 RX1 yX1_find wsX1_find) := goodIn_app (goodIn_of _ (by decide +kernel)) ggX1_join_X1_find
set_option maxRecDepth 20000 in
theorem ggX1_join_X0_has : GoodIn wsX1_join wsX0_has := goodIn_r _ [11, 12, 44, 45, 46] (by decide +kernel) (by decide +kernel)
set_option maxRecDepth 20000 in
theorem gX1_join_X0_has : GoodIn wsX1_join (wsV RX1 53 RX0 yX0_has wsX0_has) := goodIn_app (goodIn_of _ (by decide +kernel)) ggX1_join_X0_has
set_option maxRecDepth 20000 in
theorem ggX1_join_X0_closed : GoodIn wsX1_join wsX0_closed := goodIn_r _ [16, 12, 44, 45, 46] (by decide +kernel) (by decide +kernel)
set_option maxRecDepth 20000 in
theorem gX1_join_X0_closed : GoodIn wsX1_join (wsV RX1 80 RX0 yX0_closed wsX0_closed) := goodIn_app (goodIn_of _ (by decide +kernel)) ggX1_join_X0_closed
set_option maxRecDepth 20000 in
theorem ggX1_join_X0_next : GoodIn wsX1_join wsX0_next := goodIn_r _ [20, 12, 44, 45, 46] (by decide +kernel) (by decide +kernel)
set_option maxRecDepth 20000 in
theorem gX1_join_X0_next : GoodIn wsX1_join (wsV RX1 176 RX0 yX0_next wsX0_next) := goodIn_app (goodIn_of _ (by decide +kernel)) ggX1_join_X0_next
set_option maxRecDepth 20000 in
theorem ggX1_join_X0_samePlace : GoodIn wsX1_join wsX0_samePlace := goodIn_r _ [24, 25, 26, 27, 10, 28, 29, 30, 31, 32, 33, 34, 44, 45, 46] (by decide +kernel) (by decide +kernel)
set_option maxRecDepth 20000 in
theorem gX1_join_X0_samePlace : GoodIn wsX1_join (wsV RX1 179 RX0 yX0_samePlace wsX0_samePlace) := goodIn_app (goodIn_of _ (by decide +kernel)) ggX1_join_X0_samePlace
set_option maxRecDepth 20000 in
theorem ggX1_join_X0_takeIn : GoodIn wsX1_join wsX0_takeIn := goodIn_r _ [38, 12, 25, 26, 27, 10, 28, 29, 30, 31, 32, 33, 34, 39, 40, 41, 42, 43, 18, 19, 20, 44, 45, 46] (by decide +kernel) (by decide +kernel)
set_option maxRecDepth 20000 in
theorem gX1_join_X0_takeIn : GoodIn wsX1_join (wsV RX1 183 RX0 yX0_takeIn wsX0_takeIn) := goodIn_app (goodIn_of _ (by decide +kernel)) ggX1_join_X0_takeIn
theorem dX1_join_0 : decode cX1_join 0 = .ok (.aload_n 0, 1) := by decide +kernel
theorem dX1_join_1 : decode cX1_join 1 = .ok (.iload_n 1, 1) := by decide +kernel
theorem dX1_join_2 : decode cX1_join 2 = .ok (.invokevirtual 38, 3) := by decide +kernel
theorem dX1_join_5 : decode cX1_join 5 = .ok (.astore 5, 2) := by decide +kernel
theorem dX1_join_7 : decode cX1_join 7 = .ok (.aload_n 0, 1) := by decide +kernel
theorem dX1_join_8 : decode cX1_join 8 = .ok (.iload_n 3, 1) := by decide +kernel
theorem dX1_join_9 : decode cX1_join 9 = .ok (.invokevirtual 38, 3) := by decide +kernel
theorem dX1_join_12 : decode cX1_join 12 = .ok (.astore 6, 2) := by decide +kernel
theorem dX1_join_14 : decode cX1_join 14 = .ok (.aload 5, 2) := by decide +kernel
theorem dX1_join_16 : decode cX1_join 16 = .ok (.ifnull 32, 3) := by decide +kernel
theorem dX1_join_19 : decode cX1_join 19 = .ok (.aload 6, 2) := by decide +kernel
theorem dX1_join_21 : decode cX1_join 21 = .ok (.ifnull 27, 3) := by decide +kernel
theorem dX1_join_24 : decode cX1_join 24 = .ok (.iload_n 1, 1) := by decide +kernel
theorem dX1_join_25 : decode cX1_join 25 = .ok (.iload_n 3, 1) := by decide +kernel
theorem dX1_join_26 : decode cX1_join 26 = .ok (.if_icmp .eq 22, 3) := by decide +kernel
theorem dX1_join_29 : decode cX1_join 29 = .ok (.aload 5, 2) := by decide +kernel
theorem dX1_join_31 : decode cX1_join 31 = .ok (.iload_n 2, 1) := by decide +kernel
theorem dX1_join_32 : decode cX1_join 32 = .ok (.invokevirtual 53, 3) := by decide +kernel
theorem dX1_join_35 : decode cX1_join 35 = .ok (.ifCond .eq 13, 3) := by decide +kernel
theorem dX1_join_38 : decode cX1_join 38 = .ok (.aload 6, 2) := by decide +kernel
theorem dX1_join_40 : decode cX1_join 40 = .ok (.iload 4, 2) := by decide +kernel
theorem dX1_join_42 : decode cX1_join 42 = .ok (.invokevirtual 53, 3) := by decide +kernel
theorem dX1_join_45 : decode cX1_join 45 = .ok (.ifCond .ne 5, 3) := by decide +kernel
theorem dX1_join_48 : decode cX1_join 48 = .ok (.iconst (-1), 1) := by decide +kernel
theorem dX1_join_49 : decode cX1_join 49 = .ok (.ireturn, 1) := by decide +kernel
theorem dX1_join_50 : decode cX1_join 50 = .ok (.aload 5, 2) := by decide +kernel
theorem dX1_join_52 : decode cX1_join 52 = .ok (.invokevirtual 80, 3) := by decide +kernel
theorem dX1_join_55 : decode cX1_join 55 = .ok (.ifCond .eq 11, 3) := by decide +kernel
theorem dX1_join_58 : decode cX1_join 58 = .ok (.aload 6, 2) := by decide +kernel
theorem dX1_join_60 : decode cX1_join 60 = .ok (.invokevirtual 80, 3) := by decide +kernel
theorem dX1_join_63 : decode cX1_join 63 = .ok (.ifCond .ne 6, 3) := by decide +kernel
theorem dX1_join_66 : decode cX1_join 66 = .ok (.bipush (-3), 2) := by decide +kernel
theorem dX1_join_68 : decode cX1_join 68 = .ok (.ireturn, 1) := by decide +kernel
theorem dX1_join_69 : decode cX1_join 69 = .ok (.aload 5, 2) := by decide +kernel
theorem dX1_join_71 : decode cX1_join 71 = .ok (.getfield 46, 3) := by decide +kernel
theorem dX1_join_74 : decode cX1_join 74 = .ok (.aload 6, 2) := by decide +kernel
theorem dX1_join_76 : decode cX1_join 76 = .ok (.getfield 46, 3) := by decide +kernel
theorem dX1_join_79 : decode cX1_join 79 = .ok (.iadd, 1) := by decide +kernel
theorem dX1_join_80 : decode cX1_join 80 = .ok (.iconst 2, 1) := by decide +kernel
theorem dX1_join_81 : decode cX1_join 81 = .ok (.isub, 1) := by decide +kernel
theorem dX1_join_82 : decode cX1_join 82 = .ok (.bipush 24, 2) := by decide +kernel
theorem dX1_join_84 : decode cX1_join 84 = .ok (.if_icmp .le 6, 3) := by decide +kernel
theorem dX1_join_87 : decode cX1_join 87 = .ok (.bipush (-4), 2) := by decide +kernel
theorem dX1_join_89 : decode cX1_join 89 = .ok (.ireturn, 1) := by decide +kernel
theorem dX1_join_90 : decode cX1_join 90 = .ok (.aload 5, 2) := by decide +kernel
theorem dX1_join_92 : decode cX1_join 92 = .ok (.iload_n 2, 1) := by decide +kernel
theorem dX1_join_93 : decode cX1_join 93 = .ok (.aload 6, 2) := by decide +kernel
theorem dX1_join_95 : decode cX1_join 95 = .ok (.aload 6, 2) := by decide +kernel
theorem dX1_join_97 : decode cX1_join 97 = .ok (.iload 4, 2) := by decide +kernel
theorem dX1_join_99 : decode cX1_join 99 = .ok (.invokevirtual 176, 3) := by decide +kernel
theorem dX1_join_102 : decode cX1_join 102 = .ok (.invokevirtual 179, 3) := by decide +kernel
theorem dX1_join_105 : decode cX1_join 105 = .ok (.ifCond .eq 21, 3) := by decide +kernel
theorem dX1_join_108 : decode cX1_join 108 = .ok (.aload 5, 2) := by decide +kernel
theorem dX1_join_110 : decode cX1_join 110 = .ok (.aload 5, 2) := by decide +kernel
theorem dX1_join_112 : decode cX1_join 112 = .ok (.iload_n 2, 1) := by decide +kernel
theorem dX1_join_113 : decode cX1_join 113 = .ok (.invokevirtual 176, 3) := by decide +kernel
theorem dX1_join_116 : decode cX1_join 116 = .ok (.aload 6, 2) := by decide +kernel
theorem dX1_join_118 : decode cX1_join 118 = .ok (.iload 4, 2) := by decide +kernel
theorem dX1_join_120 : decode cX1_join 120 = .ok (.invokevirtual 179, 3) := by decide +kernel
theorem dX1_join_123 : decode cX1_join 123 = .ok (.ifCond .ne 6, 3) := by decide +kernel
theorem dX1_join_126 : decode cX1_join 126 = .ok (.bipush (-5), 2) := by decide +kernel
theorem dX1_join_128 : decode cX1_join 128 = .ok (.ireturn, 1) := by decide +kernel
theorem dX1_join_129 : decode cX1_join 129 = .ok (.aload 5, 2) := by decide +kernel
theorem dX1_join_131 : decode cX1_join 131 = .ok (.iload_n 2, 1) := by decide +kernel
theorem dX1_join_132 : decode cX1_join 132 = .ok (.aload 6, 2) := by decide +kernel
theorem dX1_join_134 : decode cX1_join 134 = .ok (.iload 4, 2) := by decide +kernel
theorem dX1_join_136 : decode cX1_join 136 = .ok (.invokevirtual 183, 3) := by decide +kernel
theorem dX1_join_139 : decode cX1_join 139 = .ok (.aload 5, 2) := by decide +kernel
theorem dX1_join_141 : decode cX1_join 141 = .ok (.getfield 46, 3) := by decide +kernel
theorem dX1_join_144 : decode cX1_join 144 = .ok (.ireturn, 1) := by decide +kernel
set_option maxRecDepth 20000 in
theorem ggX1_part_X1_find : GoodIn wsX1_part wsX1_find := goodIn_r _ [5, 6, 65, 66, 67, 68, 69, 70, 71, 72] (by decide +kernel) (by decide +kernel)
set_option maxRecDepth 20000 in
theorem gX1_part_X1_find : GoodIn wsX1_part (wsV RX1 38 RX1 yX1_find wsX1_find) := goodIn_app (goodIn_of _ (by decide +kernel)) ggX1_part_X1_find
set_option maxRecDepth 20000 in
theorem ggX1_part_X1_within : GoodIn wsX1_part wsX1_within := goodIn_r _ [9] (by decide +kernel) (by decide +kernel)
set_option maxRecDepth 20000 in
theorem gX1_part_X1_within : GoodIn wsX1_part (va_wsS RX1 42 yX1_within wsX1_within) := goodIn_app (goodIn_of _ (by decide +kernel)) ggX1_part_X1_within
set_option maxRecDepth 20000 in
theorem ggX1_part_X0_closed : GoodIn wsX1_part wsX0_closed := goodIn_r _ [14, 15, 62, 63, 64] (by decide +kernel) (by decide +kernel)
set_option maxRecDepth 20000 in
theorem gX1_part_X0_closed : GoodIn wsX1_part (wsV RX1 80 RX0 yX0_closed wsX0_closed) := goodIn_app (goodIn_of _ (by decide +kernel)) ggX1_part_X0_closed
set_option maxRecDepth 20000 in
theorem ggX1_part_X0_placesFrom : GoodIn wsX1_part wsX0_placesFrom := goodIn_r _ [19, 15, 20, 21, 22, 13, 23, 24, 25, 26, 27, 28, 29, 30, 31, 32, 62, 63, 64] (by decide +kernel) (by decide +kernel)
set_option maxRecDepth 20000 in
theorem gX1_part_X0_placesFrom : GoodIn wsX1_part (wsV RX1 187 RX0 yX0_placesFrom wsX0_placesFrom) := goodIn_app (goodIn_of _ (by decide +kernel)) ggX1_part_X0_placesFrom
set_option maxRecDepth 20000 in
theorem ggX1_part_X0_crossesWhole : GoodIn wsX1_part wsX0_crossesWhole := goodIn_r _ [36, 15, 37, 38, 39, 13, 40, 29, 30, 31, 32, 20, 21, 22, 23, 24, 25, 26, 27, 28, 41, 42, 43, 44, 45, 46, 47, 48, 49, 62, 63, 64] (by decide +kernel) (by decide +kernel)
set_option maxRecDepth 20000 in
theorem gX1_part_X0_crossesWhole : GoodIn wsX1_part (wsV RX1 190 RX0 yX0_crossesWhole wsX0_crossesWhole) := goodIn_app (goodIn_of _ (by decide +kernel)) ggX1_part_X0_crossesWhole
set_option maxRecDepth 20000 in
theorem ggX1_part_X0_becomeUpper : GoodIn wsX1_part wsX0_becomeUpper := goodIn_r _ [53, 15, 20, 21, 22, 13, 23, 24, 45, 46, 47, 48, 49, 54, 55, 56, 57, 58, 59, 60, 61, 37, 38, 39, 40, 29, 30, 31, 32, 25, 26, 27, 28, 41, 42, 43, 44, 62, 63, 64] (by decide +kernel) (by decide +kernel)
set_option maxRecDepth 20000 in
theorem gX1_part_X0_becomeUpper : GoodIn wsX1_part (wsV RX1 193 RX0 yX0_becomeUpper wsX0_becomeUpper) := goodIn_app (goodIn_of _ (by decide +kernel)) ggX1_part_X0_becomeUpper
theorem dX1_part_0 : decode cX1_part 0 = .ok (.aload_n 0, 1) := by decide +kernel
theorem dX1_part_1 : decode cX1_part 1 = .ok (.iload_n 1, 1) := by decide +kernel
theorem dX1_part_2 : decode cX1_part 2 = .ok (.invokevirtual 38, 3) := by decide +kernel
theorem dX1_part_5 : decode cX1_part 5 = .ok (.astore 4, 2) := by decide +kernel
theorem dX1_part_7 : decode cX1_part 7 = .ok (.aload_n 0, 1) := by decide +kernel
theorem dX1_part_8 : decode cX1_part 8 = .ok (.iload_n 2, 1) := by decide +kernel
theorem dX1_part_9 : decode cX1_part 9 = .ok (.invokevirtual 38, 3) := by decide +kernel
theorem dX1_part_12 : decode cX1_part 12 = .ok (.astore 5, 2) := by decide +kernel
theorem dX1_part_14 : decode cX1_part 14 = .ok (.aload 4, 2) := by decide +kernel
theorem dX1_part_16 : decode cX1_part 16 = .ok (.ifnull 13, 3) := by decide +kernel
theorem dX1_part_19 : decode cX1_part 19 = .ok (.aload 5, 2) := by decide +kernel
theorem dX1_part_21 : decode cX1_part 21 = .ok (.ifnull 8, 3) := by decide +kernel
theorem dX1_part_24 : decode cX1_part 24 = .ok (.iload_n 1, 1) := by decide +kernel
theorem dX1_part_25 : decode cX1_part 25 = .ok (.iload_n 2, 1) := by decide +kernel
theorem dX1_part_26 : decode cX1_part 26 = .ok (.if_icmp .ne 5, 3) := by decide +kernel
theorem dX1_part_29 : decode cX1_part 29 = .ok (.iconst (-1), 1) := by decide +kernel
theorem dX1_part_30 : decode cX1_part 30 = .ok (.ireturn, 1) := by decide +kernel
theorem dX1_part_31 : decode cX1_part 31 = .ok (.iload_n 3, 1) := by decide +kernel
theorem dX1_part_32 : decode cX1_part 32 = .ok (.bipush 100, 2) := by decide +kernel
theorem dX1_part_34 : decode cX1_part 34 = .ok (.invokestatic 42, 3) := by decide +kernel
theorem dX1_part_37 : decode cX1_part 37 = .ok (.ifCond .ne 6, 3) := by decide +kernel
theorem dX1_part_40 : decode cX1_part 40 = .ok (.bipush (-2), 2) := by decide +kernel
theorem dX1_part_42 : decode cX1_part 42 = .ok (.ireturn, 1) := by decide +kernel
theorem dX1_part_43 : decode cX1_part 43 = .ok (.aload 4, 2) := by decide +kernel
theorem dX1_part_45 : decode cX1_part 45 = .ok (.invokevirtual 80, 3) := by decide +kernel
theorem dX1_part_48 : decode cX1_part 48 = .ok (.ifCond .ne 6, 3) := by decide +kernel
theorem dX1_part_51 : decode cX1_part 51 = .ok (.bipush (-3), 2) := by decide +kernel
theorem dX1_part_53 : decode cX1_part 53 = .ok (.ireturn, 1) := by decide +kernel
theorem dX1_part_54 : decode cX1_part 54 = .ok (.aload 4, 2) := by decide +kernel
theorem dX1_part_56 : decode cX1_part 56 = .ok (.iload_n 3, 1) := by decide +kernel
theorem dX1_part_57 : decode cX1_part 57 = .ok (.invokevirtual 187, 3) := by decide +kernel
theorem dX1_part_60 : decode cX1_part 60 = .ok (.bipush 24, 2) := by decide +kernel
theorem dX1_part_62 : decode cX1_part 62 = .ok (.if_icmp .le 6, 3) := by decide +kernel
theorem dX1_part_65 : decode cX1_part 65 = .ok (.bipush (-4), 2) := by decide +kernel
theorem dX1_part_67 : decode cX1_part 67 = .ok (.ireturn, 1) := by decide +kernel
theorem dX1_part_68 : decode cX1_part 68 = .ok (.aload 4, 2) := by decide +kernel
theorem dX1_part_70 : decode cX1_part 70 = .ok (.iload_n 3, 1) := by decide +kernel
theorem dX1_part_71 : decode cX1_part 71 = .ok (.invokevirtual 190, 3) := by decide +kernel
theorem dX1_part_74 : decode cX1_part 74 = .ok (.ifCond .ne 6, 3) := by decide +kernel
theorem dX1_part_77 : decode cX1_part 77 = .ok (.bipush (-5), 2) := by decide +kernel
theorem dX1_part_79 : decode cX1_part 79 = .ok (.ireturn, 1) := by decide +kernel
theorem dX1_part_80 : decode cX1_part 80 = .ok (.aload 5, 2) := by decide +kernel
theorem dX1_part_82 : decode cX1_part 82 = .ok (.aload 4, 2) := by decide +kernel
theorem dX1_part_84 : decode cX1_part 84 = .ok (.iload_n 3, 1) := by decide +kernel
theorem dX1_part_85 : decode cX1_part 85 = .ok (.invokevirtual 193, 3) := by decide +kernel
theorem dX1_part_88 : decode cX1_part 88 = .ok (.aload 5, 2) := by decide +kernel
theorem dX1_part_90 : decode cX1_part 90 = .ok (.getfield 46, 3) := by decide +kernel
theorem dX1_part_93 : decode cX1_part 93 = .ok (.ireturn, 1) := by decide +kernel
theorem dX1_find_0 : decode cX1_find 0 = .ok (.iload_n 1, 1) := by decide +kernel
theorem dX1_find_1 : decode cX1_find 1 = .ok (.ifCond .lt 21, 3) := by decide +kernel
theorem dX1_find_4 : decode cX1_find 4 = .ok (.iload_n 1, 1) := by decide +kernel
theorem dX1_find_5 : decode cX1_find 5 = .ok (.aload_n 0, 1) := by decide +kernel
theorem dX1_find_6 : decode cX1_find 6 = .ok (.getfield 11, 3) := by decide +kernel
theorem dX1_find_9 : decode cX1_find 9 = .ok (.arraylength, 1) := by decide +kernel
theorem dX1_find_10 : decode cX1_find 10 = .ok (.if_icmp .ge 12, 3) := by decide +kernel
theorem dX1_find_13 : decode cX1_find 13 = .ok (.aload_n 0, 1) := by decide +kernel
theorem dX1_find_14 : decode cX1_find 14 = .ok (.getfield 11, 3) := by decide +kernel
theorem dX1_find_17 : decode cX1_find 17 = .ok (.iload_n 1, 1) := by decide +kernel
theorem dX1_find_18 : decode cX1_find 18 = .ok (.aaload, 1) := by decide +kernel
theorem dX1_find_19 : decode cX1_find 19 = .ok (.goto 4, 3) := by decide +kernel
theorem dX1_find_22 : decode cX1_find 22 = .ok (.aconst_null, 1) := by decide +kernel
theorem dX1_find_23 : decode cX1_find 23 = .ok (.areturn, 1) := by decide +kernel
theorem dX1_within_0 : decode cX1_within 0 = .ok (.iload_n 0, 1) := by decide +kernel
theorem dX1_within_1 : decode cX1_within 1 = .ok (.iload_n 1, 1) := by decide +kernel
theorem dX1_within_2 : decode cX1_within 2 = .ok (.ineg, 1) := by decide +kernel
theorem dX1_within_3 : decode cX1_within 3 = .ok (.if_icmp .lt 12, 3) := by decide +kernel
theorem dX1_within_6 : decode cX1_within 6 = .ok (.iload_n 0, 1) := by decide +kernel
theorem dX1_within_7 : decode cX1_within 7 = .ok (.iload_n 1, 1) := by decide +kernel
theorem dX1_within_8 : decode cX1_within 8 = .ok (.if_icmp .gt 7, 3) := by decide +kernel
theorem dX1_within_11 : decode cX1_within 11 = .ok (.iconst 1, 1) := by decide +kernel
theorem dX1_within_12 : decode cX1_within 12 = .ok (.goto 4, 3) := by decide +kernel
theorem dX1_within_15 : decode cX1_within 15 = .ok (.iconst 0, 1) := by decide +kernel
theorem dX1_within_16 : decode cX1_within 16 = .ok (.ireturn, 1) := by decide +kernel
theorem dX1_from0To_0 : decode cX1_from0To 0 = .ok (.iload_n 0, 1) := by decide +kernel
theorem dX1_from0To_1 : decode cX1_from0To 1 = .ok (.ifCond .lt 12, 3) := by decide +kernel
theorem dX1_from0To_4 : decode cX1_from0To 4 = .ok (.iload_n 0, 1) := by decide +kernel
theorem dX1_from0To_5 : decode cX1_from0To 5 = .ok (.iload_n 1, 1) := by decide +kernel
theorem dX1_from0To_6 : decode cX1_from0To 6 = .ok (.if_icmp .gt 7, 3) := by decide +kernel
theorem dX1_from0To_9 : decode cX1_from0To 9 = .ok (.iconst 1, 1) := by decide +kernel
theorem dX1_from0To_10 : decode cX1_from0To 10 = .ok (.goto 4, 3) := by decide +kernel
theorem dX1_from0To_13 : decode cX1_from0To 13 = .ok (.iconst 0, 1) := by decide +kernel
theorem dX1_from0To_14 : decode cX1_from0To 14 = .ok (.ireturn, 1) := by decide +kernel
theorem dX1_from1To_0 : decode cX1_from1To 0 = .ok (.iload_n 0, 1) := by decide +kernel
theorem dX1_from1To_1 : decode cX1_from1To 1 = .ok (.iconst 1, 1) := by decide +kernel
theorem dX1_from1To_2 : decode cX1_from1To 2 = .ok (.if_icmp .lt 12, 3) := by decide +kernel
theorem dX1_from1To_5 : decode cX1_from1To 5 = .ok (.iload_n 0, 1) := by decide +kernel
theorem dX1_from1To_6 : decode cX1_from1To 6 = .ok (.iload_n 1, 1) := by decide +kernel
theorem dX1_from1To_7 : decode cX1_from1To 7 = .ok (.if_icmp .gt 7, 3) := by decide +kernel
theorem dX1_from1To_10 : decode cX1_from1To 10 = .ok (.iconst 1, 1) := by decide +kernel
theorem dX1_from1To_11 : decode cX1_from1To 11 = .ok (.goto 4, 3) := by decide +kernel
theorem dX1_from1To_14 : decode cX1_from1To 14 = .ok (.iconst 0, 1) := by decide +kernel
theorem dX1_from1To_15 : decode cX1_from1To 15 = .ok (.ireturn, 1) := by decide +kernel
theorem dX1_zeroOrOne_0 : decode cX1_zeroOrOne 0 = .ok (.iload_n 0, 1) := by decide +kernel
theorem dX1_zeroOrOne_1 : decode cX1_zeroOrOne 1 = .ok (.ifCond .eq 8, 3) := by decide +kernel
theorem dX1_zeroOrOne_4 : decode cX1_zeroOrOne 4 = .ok (.iload_n 0, 1) := by decide +kernel
theorem dX1_zeroOrOne_5 : decode cX1_zeroOrOne 5 = .ok (.iconst 1, 1) := by decide +kernel
theorem dX1_zeroOrOne_6 : decode cX1_zeroOrOne 6 = .ok (.if_icmp .ne 7, 3) := by decide +kernel
theorem dX1_zeroOrOne_9 : decode cX1_zeroOrOne 9 = .ok (.iconst 1, 1) := by decide +kernel
theorem dX1_zeroOrOne_10 : decode cX1_zeroOrOne 10 = .ok (.goto 4, 3) := by decide +kernel
theorem dX1_zeroOrOne_13 : decode cX1_zeroOrOne 13 = .ok (.iconst 0, 1) := by decide +kernel
theorem dX1_zeroOrOne_14 : decode cX1_zeroOrOne 14 = .ok (.ireturn, 1) := by decide +kernel
theorem dX1_oneIf_0 : decode cX1_oneIf 0 = .ok (.iload_n 0, 1) := by decide +kernel
theorem dX1_oneIf_1 : decode cX1_oneIf 1 = .ok (.ifCond .eq 7, 3) := by decide +kernel
theorem dX1_oneIf_4 : decode cX1_oneIf 4 = .ok (.iconst 1, 1) := by decide +kernel
theorem dX1_oneIf_5 : decode cX1_oneIf 5 = .ok (.goto 4, 3) := by decide +kernel
theorem dX1_oneIf_8 : decode cX1_oneIf 8 = .ok (.iconst 0, 1) := by decide +kernel
theorem dX1_oneIf_9 : decode cX1_oneIf 9 = .ok (.ireturn, 1) := by decide +kernel
theorem dX1_cut_0 : decode cX1_cut 0 = .ok (.lload_n 2, 1) := by decide +kernel
theorem dX1_cut_1 : decode cX1_cut 1 = .ok (.lconst 0, 1) := by decide +kernel
theorem dX1_cut_2 : decode cX1_cut 2 = .ok (.lcmp, 1) := by decide +kernel
theorem dX1_cut_3 : decode cX1_cut 3 = .ok (.ifCond .le 9, 3) := by decide +kernel
theorem dX1_cut_6 : decode cX1_cut 6 = .ok (.lload_n 0, 1) := by decide +kernel
theorem dX1_cut_7 : decode cX1_cut 7 = .ok (.lload_n 2, 1) := by decide +kernel
theorem dX1_cut_8 : decode cX1_cut 8 = .ok (.ldiv, 1) := by decide +kernel
theorem dX1_cut_9 : decode cX1_cut 9 = .ok (.goto 4, 3) := by decide +kernel
theorem dX1_cut_12 : decode cX1_cut 12 = .ok (.lconst 0, 1) := by decide +kernel
theorem dX1_cut_13 : decode cX1_cut 13 = .ok (.lreturn, 1) := by decide +kernel
set_option maxRecDepth 20000 in
theorem ggX1_fraction_X1_commonDivisor : GoodIn wsX1_fraction wsX1_commonDivisor := goodIn_r _ [8] (by decide +kernel) (by decide +kernel)
set_option maxRecDepth 20000 in
theorem gX1_fraction_X1_commonDivisor : GoodIn wsX1_fraction (va_wsS RX1 197 yX1_commonDivisor wsX1_commonDivisor) := goodIn_app (goodIn_of _ (by decide +kernel)) ggX1_fraction_X1_commonDivisor
set_option maxRecDepth 20000 in
theorem ggX1_fraction_X1_cut : GoodIn wsX1_fraction wsX1_cut := goodIn_r _ [11] (by decide +kernel) (by decide +kernel)
set_option maxRecDepth 20000 in
theorem gX1_fraction_X1_cut : GoodIn wsX1_fraction (va_wsS RX1 161 yX1_cut wsX1_cut) := goodIn_app (goodIn_of _ (by decide +kernel)) ggX1_fraction_X1_cut
theorem dX1_fraction_0 : decode cX1_fraction 0 = .ok (.lload_n 0, 1) := by decide +kernel
theorem dX1_fraction_1 : decode cX1_fraction 1 = .ok (.invokestatic 155, 3) := by decide +kernel
theorem dX1_fraction_4 : decode cX1_fraction 4 = .ok (.lload_n 2, 1) := by decide +kernel
theorem dX1_fraction_5 : decode cX1_fraction 5 = .ok (.invokestatic 197, 3) := by decide +kernel
theorem dX1_fraction_8 : decode cX1_fraction 8 = .ok (.lstore 5, 2) := by decide +kernel
theorem dX1_fraction_10 : decode cX1_fraction 10 = .ok (.iload 4, 2) := by decide +kernel
theorem dX1_fraction_12 : decode cX1_fraction 12 = .ok (.ifCond .ne 7, 3) := by decide +kernel
theorem dX1_fraction_15 : decode cX1_fraction 15 = .ok (.lload_n 0, 1) := by decide +kernel
theorem dX1_fraction_16 : decode cX1_fraction 16 = .ok (.goto 4, 3) := by decide +kernel
theorem dX1_fraction_19 : decode cX1_fraction 19 = .ok (.lload_n 2, 1) := by decide +kernel
theorem dX1_fraction_20 : decode cX1_fraction 20 = .ok (.lload 5, 2) := by decide +kernel
theorem dX1_fraction_22 : decode cX1_fraction 22 = .ok (.invokestatic 161, 3) := by decide +kernel
theorem dX1_fraction_25 : decode cX1_fraction 25 = .ok (.lreturn, 1) := by decide +kernel
theorem dX1_commonDivisor_0 : decode cX1_commonDivisor 0 = .ok (.lload_n 0, 1) := by decide +kernel
theorem dX1_commonDivisor_1 : decode cX1_commonDivisor 1 = .ok (.lstore 4, 2) := by decide +kernel
theorem dX1_commonDivisor_3 : decode cX1_commonDivisor 3 = .ok (.lload_n 2, 1) := by decide +kernel
theorem dX1_commonDivisor_4 : decode cX1_commonDivisor 4 = .ok (.lstore 6, 2) := by decide +kernel
theorem dX1_commonDivisor_6 : decode cX1_commonDivisor 6 = .ok (.iconst 0, 1) := by decide +kernel
theorem dX1_commonDivisor_7 : decode cX1_commonDivisor 7 = .ok (.istore 8, 2) := by decide +kernel
theorem dX1_commonDivisor_9 : decode cX1_commonDivisor 9 = .ok (.iload 8, 2) := by decide +kernel
theorem dX1_commonDivisor_11 : decode cX1_commonDivisor 11 = .ok (.bipush 100, 2) := by decide +kernel
theorem dX1_commonDivisor_13 : decode cX1_commonDivisor 13 = .ok (.if_icmp .ge 31, 3) := by decide +kernel
theorem dX1_commonDivisor_16 : decode cX1_commonDivisor 16 = .ok (.lload 6, 2) := by decide +kernel
theorem dX1_commonDivisor_18 : decode cX1_commonDivisor 18 = .ok (.lconst 0, 1) := by decide +kernel
theorem dX1_commonDivisor_19 : decode cX1_commonDivisor 19 = .ok (.lcmp, 1) := by decide +kernel
theorem dX1_commonDivisor_20 : decode cX1_commonDivisor 20 = .ok (.ifCond .eq 24, 3) := by decide +kernel
theorem dX1_commonDivisor_23 : decode cX1_commonDivisor 23 = .ok (.lload 4, 2) := by decide +kernel
theorem dX1_commonDivisor_25 : decode cX1_commonDivisor 25 = .ok (.lload 6, 2) := by decide +kernel
theorem dX1_commonDivisor_27 : decode cX1_commonDivisor 27 = .ok (.lrem, 1) := by decide +kernel
theorem dX1_commonDivisor_28 : decode cX1_commonDivisor 28 = .ok (.lstore 9, 2) := by decide +kernel
theorem dX1_commonDivisor_30 : decode cX1_commonDivisor 30 = .ok (.lload 6, 2) := by decide +kernel
theorem dX1_commonDivisor_32 : decode cX1_commonDivisor 32 = .ok (.lstore 4, 2) := by decide +kernel
theorem dX1_commonDivisor_34 : decode cX1_commonDivisor 34 = .ok (.lload 9, 2) := by decide +kernel
theorem dX1_commonDivisor_36 : decode cX1_commonDivisor 36 = .ok (.lstore 6, 2) := by decide +kernel
theorem dX1_commonDivisor_38 : decode cX1_commonDivisor 38 = .ok (.iinc 8 1, 3) := by decide +kernel
theorem dX1_commonDivisor_41 : decode cX1_commonDivisor 41 = .ok (.goto (-32), 3) := by decide +kernel
theorem dX1_commonDivisor_44 : decode cX1_commonDivisor 44 = .ok (.lload 4, 2) := by decide +kernel
theorem dX1_commonDivisor_46 : decode cX1_commonDivisor 46 = .ok (.lreturn, 1) := by decide +kernel
theorem dX1_rootOf_0 : decode cX1_rootOf 0 = .ok (.lconst 0, 1) := by decide +kernel
theorem dX1_rootOf_1 : decode cX1_rootOf 1 = .ok (.lstore_n 2, 1) := by decide +kernel
theorem dX1_rootOf_2 : decode cX1_rootOf 2 = .ok (.bipush 18, 2) := by decide +kernel
theorem dX1_rootOf_4 : decode cX1_rootOf 4 = .ok (.istore 4, 2) := by decide +kernel
theorem dX1_rootOf_6 : decode cX1_rootOf 6 = .ok (.iload 4, 2) := by decide +kernel
theorem dX1_rootOf_8 : decode cX1_rootOf 8 = .ok (.ifCond .lt 30, 3) := by decide +kernel
theorem dX1_rootOf_11 : decode cX1_rootOf 11 = .ok (.lload_n 2, 1) := by decide +kernel
theorem dX1_rootOf_12 : decode cX1_rootOf 12 = .ok (.lconst 1, 1) := by decide +kernel
theorem dX1_rootOf_13 : decode cX1_rootOf 13 = .ok (.iload 4, 2) := by decide +kernel
theorem dX1_rootOf_15 : decode cX1_rootOf 15 = .ok (.lshl, 1) := by decide +kernel
theorem dX1_rootOf_16 : decode cX1_rootOf 16 = .ok (.ladd, 1) := by decide +kernel
theorem dX1_rootOf_17 : decode cX1_rootOf 17 = .ok (.lstore 5, 2) := by decide +kernel
theorem dX1_rootOf_19 : decode cX1_rootOf 19 = .ok (.lload 5, 2) := by decide +kernel
theorem dX1_rootOf_21 : decode cX1_rootOf 21 = .ok (.lload 5, 2) := by decide +kernel
theorem dX1_rootOf_23 : decode cX1_rootOf 23 = .ok (.lmul, 1) := by decide +kernel
theorem dX1_rootOf_24 : decode cX1_rootOf 24 = .ok (.lload_n 0, 1) := by decide +kernel
theorem dX1_rootOf_25 : decode cX1_rootOf 25 = .ok (.lcmp, 1) := by decide +kernel
theorem dX1_rootOf_26 : decode cX1_rootOf 26 = .ok (.ifCond .gt 6, 3) := by decide +kernel
theorem dX1_rootOf_29 : decode cX1_rootOf 29 = .ok (.lload 5, 2) := by decide +kernel
theorem dX1_rootOf_31 : decode cX1_rootOf 31 = .ok (.lstore_n 2, 1) := by decide +kernel
theorem dX1_rootOf_32 : decode cX1_rootOf 32 = .ok (.iinc 4 (-1), 3) := by decide +kernel
theorem dX1_rootOf_35 : decode cX1_rootOf 35 = .ok (.goto (-29), 3) := by decide +kernel
theorem dX1_rootOf_38 : decode cX1_rootOf 38 = .ok (.lload_n 2, 1) := by decide +kernel
theorem dX1_rootOf_39 : decode cX1_rootOf 39 = .ok (.lreturn, 1) := by decide +kernel
set_option maxRecDepth 20000 in
theorem ggX1_goesRound_X0_closed : GoodIn wsX1_goesRound wsX0_closed := goodIn_r _ [6, 7, 29, 30, 31] (by decide +kernel) (by decide +kernel)
set_option maxRecDepth 20000 in
theorem gX1_goesRound_X0_closed : GoodIn wsX1_goesRound (wsV RX1 80 RX0 yX0_closed wsX0_closed) := goodIn_app (goodIn_of _ (by decide +kernel)) ggX1_goesRound_X0_closed
set_option maxRecDepth 20000 in
theorem ggX1_goesRound_X0_staysNearer : GoodIn wsX1_goesRound wsX0_staysNearer := goodIn_r _ [11, 7, 12, 13, 14, 15, 16, 17, 18, 5, 19, 20, 29, 30, 31] (by decide +kernel) (by decide +kernel)
set_option maxRecDepth 20000 in
theorem gX1_goesRound_X0_staysNearer : GoodIn wsX1_goesRound (wsV RX1 200 RX0 yX0_staysNearer wsX0_staysNearer) := goodIn_app (goodIn_of _ (by decide +kernel)) ggX1_goesRound_X0_staysNearer
theorem dX1_goesRound_0 : decode cX1_goesRound 0 = .ok (.aload_n 1, 1) := by decide +kernel
theorem dX1_goesRound_1 : decode cX1_goesRound 1 = .ok (.invokevirtual 80, 3) := by decide +kernel
theorem dX1_goesRound_4 : decode cX1_goesRound 4 = .ok (.ifCond .eq 18, 3) := by decide +kernel
theorem dX1_goesRound_7 : decode cX1_goesRound 7 = .ok (.aload_n 1, 1) := by decide +kernel
theorem dX1_goesRound_8 : decode cX1_goesRound 8 = .ok (.aload_n 0, 1) := by decide +kernel
theorem dX1_goesRound_9 : decode cX1_goesRound 9 = .ok (.getfield 16, 3) := by decide +kernel
theorem dX1_goesRound_12 : decode cX1_goesRound 12 = .ok (.invokevirtual 200, 3) := by decide +kernel
theorem dX1_goesRound_15 : decode cX1_goesRound 15 = .ok (.ifCond .eq 7, 3) := by decide +kernel
theorem dX1_goesRound_18 : decode cX1_goesRound 18 = .ok (.iconst 1, 1) := by decide +kernel
theorem dX1_goesRound_19 : decode cX1_goesRound 19 = .ok (.goto 4, 3) := by decide +kernel
theorem dX1_goesRound_22 : decode cX1_goesRound 22 = .ok (.iconst 0, 1) := by decide +kernel
theorem dX1_goesRound_23 : decode cX1_goesRound 23 = .ok (.ireturn, 1) := by decide +kernel
set_option maxRecDepth 20000 in
theorem ggX1_neverLeftOf_X0_x : GoodIn wsX1_neverLeftOf wsX0_x := goodIn_r _ [6, 7, 43, 44, 45] (by decide +kernel) (by decide +kernel)
set_option maxRecDepth 20000 in
theorem gX1_neverLeftOf_X0_x : GoodIn wsX1_neverLeftOf (wsV RX1 64 RX0 yX0_x wsX0_x) := goodIn_app (goodIn_of _ (by decide +kernel)) ggX1_neverLeftOf_X0_x
set_option maxRecDepth 20000 in
theorem ggX1_neverLeftOf_X0_nearestAgainst : GoodIn wsX1_neverLeftOf wsX0_nearestAgainst := goodIn_r _ [11, 12, 13, 14, 5, 15, 16, 17, 3, 4, 6, 7, 18, 19, 20, 21, 22, 23, 24, 25, 26, 27, 28, 29, 30, 31, 32, 33, 34, 43, 44, 45] (by decide +kernel) (by decide +kernel)
set_option maxRecDepth 20000 in
theorem gX1_neverLeftOf_X0_nearestAgainst : GoodIn wsX1_neverLeftOf (wsV RX1 203 RX0 yX0_nearestAgainst wsX0_nearestAgainst) := goodIn_app (goodIn_of _ (by decide +kernel)) ggX1_neverLeftOf_X0_nearestAgainst
theorem dX1_neverLeftOf_0 : decode cX1_neverLeftOf 0 = .ok (.aload_n 0, 1) := by decide +kernel
theorem dX1_neverLeftOf_1 : decode cX1_neverLeftOf 1 = .ok (.getfield 16, 3) := by decide +kernel
theorem dX1_neverLeftOf_4 : decode cX1_neverLeftOf 4 = .ok (.i2l, 1) := by decide +kernel
theorem dX1_neverLeftOf_5 : decode cX1_neverLeftOf 5 = .ok (.aload_n 0, 1) := by decide +kernel
theorem dX1_neverLeftOf_6 : decode cX1_neverLeftOf 6 = .ok (.getfield 16, 3) := by decide +kernel
theorem dX1_neverLeftOf_9 : decode cX1_neverLeftOf 9 = .ok (.i2l, 1) := by decide +kernel
theorem dX1_neverLeftOf_10 : decode cX1_neverLeftOf 10 = .ok (.lmul, 1) := by decide +kernel
theorem dX1_neverLeftOf_11 : decode cX1_neverLeftOf 11 = .ok (.lstore_n 3, 1) := by decide +kernel
theorem dX1_neverLeftOf_12 : decode cX1_neverLeftOf 12 = .ok (.iconst 0, 1) := by decide +kernel
theorem dX1_neverLeftOf_13 : decode cX1_neverLeftOf 13 = .ok (.istore 5, 2) := by decide +kernel
theorem dX1_neverLeftOf_15 : decode cX1_neverLeftOf 15 = .ok (.iload 5, 2) := by decide +kernel
theorem dX1_neverLeftOf_17 : decode cX1_neverLeftOf 17 = .ok (.aload_n 1, 1) := by decide +kernel
theorem dX1_neverLeftOf_18 : decode cX1_neverLeftOf 18 = .ok (.getfield 46, 3) := by decide +kernel
theorem dX1_neverLeftOf_21 : decode cX1_neverLeftOf 21 = .ok (.if_icmp .ge 33, 3) := by decide +kernel
theorem dX1_neverLeftOf_24 : decode cX1_neverLeftOf 24 = .ok (.aload_n 1, 1) := by decide +kernel
theorem dX1_neverLeftOf_25 : decode cX1_neverLeftOf 25 = .ok (.iload 5, 2) := by decide +kernel
theorem dX1_neverLeftOf_27 : decode cX1_neverLeftOf 27 = .ok (.invokevirtual 64, 3) := by decide +kernel
theorem dX1_neverLeftOf_30 : decode cX1_neverLeftOf 30 = .ok (.iload_n 2, 1) := by decide +kernel
theorem dX1_neverLeftOf_31 : decode cX1_neverLeftOf 31 = .ok (.if_icmp .lt 15, 3) := by decide +kernel
theorem dX1_neverLeftOf_34 : decode cX1_neverLeftOf 34 = .ok (.aload_n 1, 1) := by decide +kernel
theorem dX1_neverLeftOf_35 : decode cX1_neverLeftOf 35 = .ok (.iload 5, 2) := by decide +kernel
theorem dX1_neverLeftOf_37 : decode cX1_neverLeftOf 37 = .ok (.iload_n 2, 1) := by decide +kernel
theorem dX1_neverLeftOf_38 : decode cX1_neverLeftOf 38 = .ok (.iconst 0, 1) := by decide +kernel
theorem dX1_neverLeftOf_39 : decode cX1_neverLeftOf 39 = .ok (.lload_n 3, 1) := by decide +kernel
theorem dX1_neverLeftOf_40 : decode cX1_neverLeftOf 40 = .ok (.invokevirtual 203, 3) := by decide +kernel
theorem dX1_neverLeftOf_43 : decode cX1_neverLeftOf 43 = .ok (.ifCond .ge 5, 3) := by decide +kernel
theorem dX1_neverLeftOf_46 : decode cX1_neverLeftOf 46 = .ok (.iconst 0, 1) := by decide +kernel
theorem dX1_neverLeftOf_47 : decode cX1_neverLeftOf 47 = .ok (.ireturn, 1) := by decide +kernel
theorem dX1_neverLeftOf_48 : decode cX1_neverLeftOf 48 = .ok (.iinc 5 1, 3) := by decide +kernel
theorem dX1_neverLeftOf_51 : decode cX1_neverLeftOf 51 = .ok (.goto (-36), 3) := by decide +kernel
theorem dX1_neverLeftOf_54 : decode cX1_neverLeftOf 54 = .ok (.iconst 1, 1) := by decide +kernel
theorem dX1_neverLeftOf_55 : decode cX1_neverLeftOf 55 = .ok (.ireturn, 1) := by decide +kernel
set_option maxRecDepth 20000 in
theorem ggX1_neverRightOf_X0_x : GoodIn wsX1_neverRightOf wsX0_x := goodIn_r _ [6, 7, 26, 27, 28] (by decide +kernel) (by decide +kernel)
set_option maxRecDepth 20000 in
theorem gX1_neverRightOf_X0_x : GoodIn wsX1_neverRightOf (wsV RX1 64 RX0 yX0_x wsX0_x) := goodIn_app (goodIn_of _ (by decide +kernel)) ggX1_neverRightOf_X0_x
set_option maxRecDepth 20000 in
theorem ggX1_neverRightOf_X0_squareTo : GoodIn wsX1_neverRightOf wsX0_squareTo := goodIn_r _ [11, 12, 3, 4, 5, 6, 7, 13, 14, 15, 16, 17, 26, 27, 28] (by decide +kernel) (by decide +kernel)
set_option maxRecDepth 20000 in
theorem gX1_neverRightOf_X0_squareTo : GoodIn wsX1_neverRightOf (wsV RX1 207 RX0 yX0_squareTo wsX0_squareTo) := goodIn_app (goodIn_of _ (by decide +kernel)) ggX1_neverRightOf_X0_squareTo
theorem dX1_neverRightOf_0 : decode cX1_neverRightOf 0 = .ok (.aload_n 0, 1) := by decide +kernel
theorem dX1_neverRightOf_1 : decode cX1_neverRightOf 1 = .ok (.getfield 16, 3) := by decide +kernel
theorem dX1_neverRightOf_4 : decode cX1_neverRightOf 4 = .ok (.i2l, 1) := by decide +kernel
theorem dX1_neverRightOf_5 : decode cX1_neverRightOf 5 = .ok (.aload_n 0, 1) := by decide +kernel
theorem dX1_neverRightOf_6 : decode cX1_neverRightOf 6 = .ok (.getfield 16, 3) := by decide +kernel
theorem dX1_neverRightOf_9 : decode cX1_neverRightOf 9 = .ok (.i2l, 1) := by decide +kernel
theorem dX1_neverRightOf_10 : decode cX1_neverRightOf 10 = .ok (.lmul, 1) := by decide +kernel
theorem dX1_neverRightOf_11 : decode cX1_neverRightOf 11 = .ok (.lstore_n 3, 1) := by decide +kernel
theorem dX1_neverRightOf_12 : decode cX1_neverRightOf 12 = .ok (.iconst 0, 1) := by decide +kernel
theorem dX1_neverRightOf_13 : decode cX1_neverRightOf 13 = .ok (.istore 5, 2) := by decide +kernel
theorem dX1_neverRightOf_15 : decode cX1_neverRightOf 15 = .ok (.iload 5, 2) := by decide +kernel
theorem dX1_neverRightOf_17 : decode cX1_neverRightOf 17 = .ok (.aload_n 1, 1) := by decide +kernel
theorem dX1_neverRightOf_18 : decode cX1_neverRightOf 18 = .ok (.getfield 46, 3) := by decide +kernel
theorem dX1_neverRightOf_21 : decode cX1_neverRightOf 21 = .ok (.if_icmp .ge 35, 3) := by decide +kernel
theorem dX1_neverRightOf_24 : decode cX1_neverRightOf 24 = .ok (.aload_n 1, 1) := by decide +kernel
theorem dX1_neverRightOf_25 : decode cX1_neverRightOf 25 = .ok (.iload 5, 2) := by decide +kernel
theorem dX1_neverRightOf_27 : decode cX1_neverRightOf 27 = .ok (.invokevirtual 64, 3) := by decide +kernel
theorem dX1_neverRightOf_30 : decode cX1_neverRightOf 30 = .ok (.iload_n 2, 1) := by decide +kernel
theorem dX1_neverRightOf_31 : decode cX1_neverRightOf 31 = .ok (.if_icmp .le 19, 3) := by decide +kernel
theorem dX1_neverRightOf_34 : decode cX1_neverRightOf 34 = .ok (.aload_n 1, 1) := by decide +kernel
theorem dX1_neverRightOf_35 : decode cX1_neverRightOf 35 = .ok (.iload 5, 2) := by decide +kernel
theorem dX1_neverRightOf_37 : decode cX1_neverRightOf 37 = .ok (.iload_n 2, 1) := by decide +kernel
theorem dX1_neverRightOf_38 : decode cX1_neverRightOf 38 = .ok (.i2l, 1) := by decide +kernel
theorem dX1_neverRightOf_39 : decode cX1_neverRightOf 39 = .ok (.lconst 0, 1) := by decide +kernel
theorem dX1_neverRightOf_40 : decode cX1_neverRightOf 40 = .ok (.invokevirtual 207, 3) := by decide +kernel
theorem dX1_neverRightOf_43 : decode cX1_neverRightOf 43 = .ok (.lload_n 3, 1) := by decide +kernel
theorem dX1_neverRightOf_44 : decode cX1_neverRightOf 44 = .ok (.lcmp, 1) := by decide +kernel
theorem dX1_neverRightOf_45 : decode cX1_neverRightOf 45 = .ok (.ifCond .le 5, 3) := by decide +kernel
theorem dX1_neverRightOf_48 : decode cX1_neverRightOf 48 = .ok (.iconst 0, 1) := by decide +kernel
theorem dX1_neverRightOf_49 : decode cX1_neverRightOf 49 = .ok (.ireturn, 1) := by decide +kernel
theorem dX1_neverRightOf_50 : decode cX1_neverRightOf 50 = .ok (.iinc 5 1, 3) := by decide +kernel
theorem dX1_neverRightOf_53 : decode cX1_neverRightOf 53 = .ok (.goto (-38), 3) := by decide +kernel
theorem dX1_neverRightOf_56 : decode cX1_neverRightOf 56 = .ok (.iconst 1, 1) := by decide +kernel
theorem dX1_neverRightOf_57 : decode cX1_neverRightOf 57 = .ok (.ireturn, 1) := by decide +kernel
set_option maxRecDepth 20000 in
theorem ggX1_shutLow_X1_heightRoot : GoodIn wsX1_shutLow wsX1_heightRoot := goodIn_r _ [7, 8, 2, 9, 10, 6, 11, 15, 16, 17, 18, 19, 20, 21, 22] (by decide +kernel) (by decide +kernel)
set_option maxRecDepth 20000 in
theorem gX1_shutLow_X1_heightRoot : GoodIn wsX1_shutLow (wsV RX1 213 RX1 yX1_heightRoot wsX1_heightRoot) := goodIn_app (goodIn_of _ (by decide +kernel)) ggX1_shutLow_X1_heightRoot
set_option maxRecDepth 20000 in
theorem ggX1_shutLow_X1_cut : GoodIn wsX1_shutLow wsX1_cut := goodIn_r _ [14] (by decide +kernel) (by decide +kernel)
set_option maxRecDepth 20000 in
theorem gX1_shutLow_X1_cut : GoodIn wsX1_shutLow (va_wsS RX1 161 yX1_cut wsX1_cut) := goodIn_app (goodIn_of _ (by decide +kernel)) ggX1_shutLow_X1_cut
theorem dX1_shutLow_0 : decode cX1_shutLow 0 = .ok (.lconst 0, 1) := by decide +kernel
theorem dX1_shutLow_1 : decode cX1_shutLow 1 = .ok (.lstore_n 2, 1) := by decide +kernel
theorem dX1_shutLow_2 : decode cX1_shutLow 2 = .ok (.iconst 0, 1) := by decide +kernel
theorem dX1_shutLow_3 : decode cX1_shutLow 3 = .ok (.istore 4, 2) := by decide +kernel
theorem dX1_shutLow_5 : decode cX1_shutLow 5 = .ok (.iload 4, 2) := by decide +kernel
theorem dX1_shutLow_7 : decode cX1_shutLow 7 = .ok (.iload_n 1, 1) := by decide +kernel
theorem dX1_shutLow_8 : decode cX1_shutLow 8 = .ok (.if_icmp .ge 40, 3) := by decide +kernel
theorem dX1_shutLow_11 : decode cX1_shutLow 11 = .ok (.lload_n 2, 1) := by decide +kernel
theorem dX1_shutLow_12 : decode cX1_shutLow 12 = .ok (.iload 4, 2) := by decide +kernel
theorem dX1_shutLow_14 : decode cX1_shutLow 14 = .ok (.i2l, 1) := by decide +kernel
theorem dX1_shutLow_15 : decode cX1_shutLow 15 = .ok (.iload 4, 2) := by decide +kernel
theorem dX1_shutLow_17 : decode cX1_shutLow 17 = .ok (.i2l, 1) := by decide +kernel
theorem dX1_shutLow_18 : decode cX1_shutLow 18 = .ok (.ldc2_w 211, 3) := by decide +kernel
theorem dX1_shutLow_21 : decode cX1_shutLow 21 = .ok (.lmul, 1) := by decide +kernel
theorem dX1_shutLow_22 : decode cX1_shutLow 22 = .ok (.lmul, 1) := by decide +kernel
theorem dX1_shutLow_23 : decode cX1_shutLow 23 = .ok (.aload_n 0, 1) := by decide +kernel
theorem dX1_shutLow_24 : decode cX1_shutLow 24 = .ok (.getfield 16, 3) := by decide +kernel
theorem dX1_shutLow_27 : decode cX1_shutLow 27 = .ok (.i2l, 1) := by decide +kernel
theorem dX1_shutLow_28 : decode cX1_shutLow 28 = .ok (.aload_n 0, 1) := by decide +kernel
theorem dX1_shutLow_29 : decode cX1_shutLow 29 = .ok (.iload 4, 2) := by decide +kernel
theorem dX1_shutLow_31 : decode cX1_shutLow 31 = .ok (.invokevirtual 213, 3) := by decide +kernel
theorem dX1_shutLow_34 : decode cX1_shutLow 34 = .ok (.lconst 1, 1) := by decide +kernel
theorem dX1_shutLow_35 : decode cX1_shutLow 35 = .ok (.ladd, 1) := by decide +kernel
theorem dX1_shutLow_36 : decode cX1_shutLow 36 = .ok (.lmul, 1) := by decide +kernel
theorem dX1_shutLow_37 : decode cX1_shutLow 37 = .ok (.invokestatic 161, 3) := by decide +kernel
theorem dX1_shutLow_40 : decode cX1_shutLow 40 = .ok (.ladd, 1) := by decide +kernel
theorem dX1_shutLow_41 : decode cX1_shutLow 41 = .ok (.lstore_n 2, 1) := by decide +kernel
theorem dX1_shutLow_42 : decode cX1_shutLow 42 = .ok (.iinc 4 1, 3) := by decide +kernel
theorem dX1_shutLow_45 : decode cX1_shutLow 45 = .ok (.goto (-40), 3) := by decide +kernel
theorem dX1_shutLow_48 : decode cX1_shutLow 48 = .ok (.lload_n 2, 1) := by decide +kernel
theorem dX1_shutLow_49 : decode cX1_shutLow 49 = .ok (.lreturn, 1) := by decide +kernel
set_option maxRecDepth 20000 in
theorem ggX1_shutHigh_X1_heightRoot : GoodIn wsX1_shutHigh wsX1_heightRoot := goodIn_r _ [7, 8, 2, 9, 10, 6, 11, 15, 16, 17, 18, 19, 20, 21, 22] (by decide +kernel) (by decide +kernel)
set_option maxRecDepth 20000 in
theorem gX1_shutHigh_X1_heightRoot : GoodIn wsX1_shutHigh (wsV RX1 213 RX1 yX1_heightRoot wsX1_heightRoot) := goodIn_app (goodIn_of _ (by decide +kernel)) ggX1_shutHigh_X1_heightRoot
set_option maxRecDepth 20000 in
theorem ggX1_shutHigh_X1_cut : GoodIn wsX1_shutHigh wsX1_cut := goodIn_r _ [14] (by decide +kernel) (by decide +kernel)
set_option maxRecDepth 20000 in
theorem gX1_shutHigh_X1_cut : GoodIn wsX1_shutHigh (va_wsS RX1 161 yX1_cut wsX1_cut) := goodIn_app (goodIn_of _ (by decide +kernel)) ggX1_shutHigh_X1_cut
theorem dX1_shutHigh_0 : decode cX1_shutHigh 0 = .ok (.lconst 0, 1) := by decide +kernel
theorem dX1_shutHigh_1 : decode cX1_shutHigh 1 = .ok (.lstore_n 2, 1) := by decide +kernel
theorem dX1_shutHigh_2 : decode cX1_shutHigh 2 = .ok (.iconst 1, 1) := by decide +kernel
theorem dX1_shutHigh_3 : decode cX1_shutHigh 3 = .ok (.istore 4, 2) := by decide +kernel
theorem dX1_shutHigh_5 : decode cX1_shutHigh 5 = .ok (.iload 4, 2) := by decide +kernel
theorem dX1_shutHigh_7 : decode cX1_shutHigh 7 = .ok (.iload_n 1, 1) := by decide +kernel
theorem dX1_shutHigh_8 : decode cX1_shutHigh 8 = .ok (.if_icmp .gt 40, 3) := by decide +kernel
theorem dX1_shutHigh_11 : decode cX1_shutHigh 11 = .ok (.lload_n 2, 1) := by decide +kernel
theorem dX1_shutHigh_12 : decode cX1_shutHigh 12 = .ok (.lconst 1, 1) := by decide +kernel
theorem dX1_shutHigh_13 : decode cX1_shutHigh 13 = .ok (.iload 4, 2) := by decide +kernel
theorem dX1_shutHigh_15 : decode cX1_shutHigh 15 = .ok (.i2l, 1) := by decide +kernel
theorem dX1_shutHigh_16 : decode cX1_shutHigh 16 = .ok (.iload 4, 2) := by decide +kernel
theorem dX1_shutHigh_18 : decode cX1_shutHigh 18 = .ok (.i2l, 1) := by decide +kernel
theorem dX1_shutHigh_19 : decode cX1_shutHigh 19 = .ok (.ldc2_w 211, 3) := by decide +kernel
theorem dX1_shutHigh_22 : decode cX1_shutHigh 22 = .ok (.lmul, 1) := by decide +kernel
theorem dX1_shutHigh_23 : decode cX1_shutHigh 23 = .ok (.lmul, 1) := by decide +kernel
theorem dX1_shutHigh_24 : decode cX1_shutHigh 24 = .ok (.aload_n 0, 1) := by decide +kernel
theorem dX1_shutHigh_25 : decode cX1_shutHigh 25 = .ok (.getfield 16, 3) := by decide +kernel
theorem dX1_shutHigh_28 : decode cX1_shutHigh 28 = .ok (.i2l, 1) := by decide +kernel
theorem dX1_shutHigh_29 : decode cX1_shutHigh 29 = .ok (.aload_n 0, 1) := by decide +kernel
theorem dX1_shutHigh_30 : decode cX1_shutHigh 30 = .ok (.iload 4, 2) := by decide +kernel
theorem dX1_shutHigh_32 : decode cX1_shutHigh 32 = .ok (.invokevirtual 213, 3) := by decide +kernel
theorem dX1_shutHigh_35 : decode cX1_shutHigh 35 = .ok (.lmul, 1) := by decide +kernel
theorem dX1_shutHigh_36 : decode cX1_shutHigh 36 = .ok (.invokestatic 161, 3) := by decide +kernel
theorem dX1_shutHigh_39 : decode cX1_shutHigh 39 = .ok (.ladd, 1) := by decide +kernel
theorem dX1_shutHigh_40 : decode cX1_shutHigh 40 = .ok (.ladd, 1) := by decide +kernel
theorem dX1_shutHigh_41 : decode cX1_shutHigh 41 = .ok (.lstore_n 2, 1) := by decide +kernel
theorem dX1_shutHigh_42 : decode cX1_shutHigh 42 = .ok (.iinc 4 1, 3) := by decide +kernel
theorem dX1_shutHigh_45 : decode cX1_shutHigh 45 = .ok (.goto (-40), 3) := by decide +kernel
theorem dX1_shutHigh_48 : decode cX1_shutHigh 48 = .ok (.lload_n 2, 1) := by decide +kernel
theorem dX1_shutHigh_49 : decode cX1_shutHigh 49 = .ok (.lreturn, 1) := by decide +kernel
set_option maxRecDepth 20000 in
theorem ggX1_heightRoot_X1_rootOf : GoodIn wsX1_heightRoot wsX1_rootOf := goodIn_r _ [6] (by decide +kernel) (by decide +kernel)
set_option maxRecDepth 20000 in
theorem gX1_heightRoot_X1_rootOf : GoodIn wsX1_heightRoot (va_wsS RX1 218 yX1_rootOf wsX1_rootOf) := goodIn_app (goodIn_of _ (by decide +kernel)) ggX1_heightRoot_X1_rootOf
theorem dX1_heightRoot_0 : decode cX1_heightRoot 0 = .ok (.ldc2_w 216, 3) := by decide +kernel
theorem dX1_heightRoot_3 : decode cX1_heightRoot 3 = .ok (.aload_n 0, 1) := by decide +kernel
theorem dX1_heightRoot_4 : decode cX1_heightRoot 4 = .ok (.getfield 16, 3) := by decide +kernel
theorem dX1_heightRoot_7 : decode cX1_heightRoot 7 = .ok (.aload_n 0, 1) := by decide +kernel
theorem dX1_heightRoot_8 : decode cX1_heightRoot 8 = .ok (.getfield 16, 3) := by decide +kernel
theorem dX1_heightRoot_11 : decode cX1_heightRoot 11 = .ok (.imul, 1) := by decide +kernel
theorem dX1_heightRoot_12 : decode cX1_heightRoot 12 = .ok (.iload_n 1, 1) := by decide +kernel
theorem dX1_heightRoot_13 : decode cX1_heightRoot 13 = .ok (.iload_n 1, 1) := by decide +kernel
theorem dX1_heightRoot_14 : decode cX1_heightRoot 14 = .ok (.imul, 1) := by decide +kernel
theorem dX1_heightRoot_15 : decode cX1_heightRoot 15 = .ok (.isub, 1) := by decide +kernel
theorem dX1_heightRoot_16 : decode cX1_heightRoot 16 = .ok (.i2l, 1) := by decide +kernel
theorem dX1_heightRoot_17 : decode cX1_heightRoot 17 = .ok (.lmul, 1) := by decide +kernel
theorem dX1_heightRoot_18 : decode cX1_heightRoot 18 = .ok (.invokestatic 218, 3) := by decide +kernel
theorem dX1_heightRoot_21 : decode cX1_heightRoot 21 = .ok (.lreturn, 1) := by decide +kernel
set_option maxRecDepth 20000 in
theorem ggX1_gearedRound_X0_alongX : GoodIn wsX1_gearedRound wsX0_alongX := goodIn_r _ [9, 10, 11, 12, 8, 13, 14, 15, 16, 17, 18, 19, 20, 21, 22, 23, 24, 25, 26, 27, 50, 51, 52] (by decide +kernel) (by decide +kernel)
set_option maxRecDepth 20000 in
theorem gX1_gearedRound_X0_alongX : GoodIn wsX1_gearedRound (wsV RX1 116 RX0 yX0_alongX wsX0_alongX) := goodIn_app (goodIn_of _ (by decide +kernel)) ggX1_gearedRound_X0_alongX
set_option maxRecDepth 20000 in
theorem ggX1_gearedRound_X1_fraction : GoodIn wsX1_gearedRound wsX1_fraction := goodIn_r _ [31, 32, 33, 34, 35, 36, 37, 30, 38, 39, 40, 41] (by decide +kernel) (by decide +kernel)
set_option maxRecDepth 20000 in
theorem gX1_gearedRound_X1_fraction : GoodIn wsX1_gearedRound (va_wsS RX1 122 yX1_fraction wsX1_fraction) := goodIn_app (goodIn_of _ (by decide +kernel)) ggX1_gearedRound_X1_fraction
theorem dX1_gearedRound_0 : decode cX1_gearedRound 0 = .ok (.aload_n 0, 1) := by decide +kernel
theorem dX1_gearedRound_1 : decode cX1_gearedRound 1 = .ok (.getfield 16, 3) := by decide +kernel
theorem dX1_gearedRound_4 : decode cX1_gearedRound 4 = .ok (.i2l, 1) := by decide +kernel
theorem dX1_gearedRound_5 : decode cX1_gearedRound 5 = .ok (.aload_n 0, 1) := by decide +kernel
theorem dX1_gearedRound_6 : decode cX1_gearedRound 6 = .ok (.getfield 16, 3) := by decide +kernel
theorem dX1_gearedRound_9 : decode cX1_gearedRound 9 = .ok (.i2l, 1) := by decide +kernel
theorem dX1_gearedRound_10 : decode cX1_gearedRound 10 = .ok (.lmul, 1) := by decide +kernel
theorem dX1_gearedRound_11 : decode cX1_gearedRound 11 = .ok (.lstore 4, 2) := by decide +kernel
theorem dX1_gearedRound_13 : decode cX1_gearedRound 13 = .ok (.aload_n 1, 1) := by decide +kernel
theorem dX1_gearedRound_14 : decode cX1_gearedRound 14 = .ok (.iconst 1, 1) := by decide +kernel
theorem dX1_gearedRound_15 : decode cX1_gearedRound 15 = .ok (.aload_n 1, 1) := by decide +kernel
theorem dX1_gearedRound_16 : decode cX1_gearedRound 16 = .ok (.getfield 46, 3) := by decide +kernel
theorem dX1_gearedRound_19 : decode cX1_gearedRound 19 = .ok (.invokevirtual 116, 3) := by decide +kernel
theorem dX1_gearedRound_22 : decode cX1_gearedRound 22 = .ok (.lstore 6, 2) := by decide +kernel
theorem dX1_gearedRound_24 : decode cX1_gearedRound 24 = .ok (.iload_n 2, 1) := by decide +kernel
theorem dX1_gearedRound_25 : decode cX1_gearedRound 25 = .ok (.iconst 1, 1) := by decide +kernel
theorem dX1_gearedRound_26 : decode cX1_gearedRound 26 = .ok (.if_icmp .ne 19, 3) := by decide +kernel
theorem dX1_gearedRound_29 : decode cX1_gearedRound 29 = .ok (.lload 6, 2) := by decide +kernel
theorem dX1_gearedRound_31 : decode cX1_gearedRound 31 = .ok (.ldc2_w 120, 3) := by decide +kernel
theorem dX1_gearedRound_34 : decode cX1_gearedRound 34 = .ok (.aload_n 0, 1) := by decide +kernel
theorem dX1_gearedRound_35 : decode cX1_gearedRound 35 = .ok (.getfield 16, 3) := by decide +kernel
theorem dX1_gearedRound_38 : decode cX1_gearedRound 38 = .ok (.i2l, 1) := by decide +kernel
theorem dX1_gearedRound_39 : decode cX1_gearedRound 39 = .ok (.lmul, 1) := by decide +kernel
theorem dX1_gearedRound_40 : decode cX1_gearedRound 40 = .ok (.iload_n 3, 1) := by decide +kernel
theorem dX1_gearedRound_41 : decode cX1_gearedRound 41 = .ok (.invokestatic 122, 3) := by decide +kernel
theorem dX1_gearedRound_44 : decode cX1_gearedRound 44 = .ok (.lreturn, 1) := by decide +kernel
theorem dX1_gearedRound_45 : decode cX1_gearedRound 45 = .ok (.iload_n 2, 1) := by decide +kernel
theorem dX1_gearedRound_46 : decode cX1_gearedRound 46 = .ok (.iconst 2, 1) := by decide +kernel
theorem dX1_gearedRound_47 : decode cX1_gearedRound 47 = .ok (.if_icmp .ne 27, 3) := by decide +kernel
theorem dX1_gearedRound_50 : decode cX1_gearedRound 50 = .ok (.ldc2_w 221, 3) := by decide +kernel
theorem dX1_gearedRound_53 : decode cX1_gearedRound 53 = .ok (.aload_n 1, 1) := by decide +kernel
theorem dX1_gearedRound_54 : decode cX1_gearedRound 54 = .ok (.iconst 2, 1) := by decide +kernel
theorem dX1_gearedRound_55 : decode cX1_gearedRound 55 = .ok (.aload_n 1, 1) := by decide +kernel
theorem dX1_gearedRound_56 : decode cX1_gearedRound 56 = .ok (.getfield 46, 3) := by decide +kernel
theorem dX1_gearedRound_59 : decode cX1_gearedRound 59 = .ok (.invokevirtual 116, 3) := by decide +kernel
theorem dX1_gearedRound_62 : decode cX1_gearedRound 62 = .ok (.lmul, 1) := by decide +kernel
theorem dX1_gearedRound_63 : decode cX1_gearedRound 63 = .ok (.ldc2_w 223, 3) := by decide +kernel
theorem dX1_gearedRound_66 : decode cX1_gearedRound 66 = .ok (.lload 4, 2) := by decide +kernel
theorem dX1_gearedRound_68 : decode cX1_gearedRound 68 = .ok (.lmul, 1) := by decide +kernel
theorem dX1_gearedRound_69 : decode cX1_gearedRound 69 = .ok (.iload_n 3, 1) := by decide +kernel
theorem dX1_gearedRound_70 : decode cX1_gearedRound 70 = .ok (.invokestatic 122, 3) := by decide +kernel
theorem dX1_gearedRound_73 : decode cX1_gearedRound 73 = .ok (.lreturn, 1) := by decide +kernel
theorem dX1_gearedRound_74 : decode cX1_gearedRound 74 = .ok (.aload_n 1, 1) := by decide +kernel
theorem dX1_gearedRound_75 : decode cX1_gearedRound 75 = .ok (.iconst 3, 1) := by decide +kernel
theorem dX1_gearedRound_76 : decode cX1_gearedRound 76 = .ok (.aload_n 1, 1) := by decide +kernel
theorem dX1_gearedRound_77 : decode cX1_gearedRound 77 = .ok (.getfield 46, 3) := by decide +kernel
theorem dX1_gearedRound_80 : decode cX1_gearedRound 80 = .ok (.invokevirtual 116, 3) := by decide +kernel
theorem dX1_gearedRound_83 : decode cX1_gearedRound 83 = .ok (.lstore 8, 2) := by decide +kernel
theorem dX1_gearedRound_85 : decode cX1_gearedRound 85 = .ok (.ldc2_w 223, 3) := by decide +kernel
theorem dX1_gearedRound_88 : decode cX1_gearedRound 88 = .ok (.lload 4, 2) := by decide +kernel
theorem dX1_gearedRound_90 : decode cX1_gearedRound 90 = .ok (.lmul, 1) := by decide +kernel
theorem dX1_gearedRound_91 : decode cX1_gearedRound 91 = .ok (.lload 6, 2) := by decide +kernel
theorem dX1_gearedRound_93 : decode cX1_gearedRound 93 = .ok (.lmul, 1) := by decide +kernel
theorem dX1_gearedRound_94 : decode cX1_gearedRound 94 = .ok (.ldc2_w 120, 3) := by decide +kernel
theorem dX1_gearedRound_97 : decode cX1_gearedRound 97 = .ok (.lload 8, 2) := by decide +kernel
theorem dX1_gearedRound_99 : decode cX1_gearedRound 99 = .ok (.lmul, 1) := by decide +kernel
theorem dX1_gearedRound_100 : decode cX1_gearedRound 100 = .ok (.lsub, 1) := by decide +kernel
theorem dX1_gearedRound_101 : decode cX1_gearedRound 101 = .ok (.ldc2_w 120, 3) := by decide +kernel
theorem dX1_gearedRound_104 : decode cX1_gearedRound 104 = .ok (.lload 4, 2) := by decide +kernel
theorem dX1_gearedRound_106 : decode cX1_gearedRound 106 = .ok (.lmul, 1) := by decide +kernel
theorem dX1_gearedRound_107 : decode cX1_gearedRound 107 = .ok (.aload_n 0, 1) := by decide +kernel
theorem dX1_gearedRound_108 : decode cX1_gearedRound 108 = .ok (.getfield 16, 3) := by decide +kernel
theorem dX1_gearedRound_111 : decode cX1_gearedRound 111 = .ok (.i2l, 1) := by decide +kernel
theorem dX1_gearedRound_112 : decode cX1_gearedRound 112 = .ok (.lmul, 1) := by decide +kernel
theorem dX1_gearedRound_113 : decode cX1_gearedRound 113 = .ok (.iload_n 3, 1) := by decide +kernel
theorem dX1_gearedRound_114 : decode cX1_gearedRound 114 = .ok (.invokestatic 122, 3) := by decide +kernel
theorem dX1_gearedRound_117 : decode cX1_gearedRound 117 = .ok (.lreturn, 1) := by decide +kernel
theorem dX1_withPi_0 : decode cX1_withPi 0 = .ok (.aload_n 0, 1) := by decide +kernel
theorem dX1_withPi_1 : decode cX1_withPi 1 = .ok (.getfield 32, 3) := by decide +kernel
theorem dX1_withPi_4 : decode cX1_withPi 4 = .ok (.aload_n 0, 1) := by decide +kernel
theorem dX1_withPi_5 : decode cX1_withPi 5 = .ok (.getfield 32, 3) := by decide +kernel
theorem dX1_withPi_8 : decode cX1_withPi 8 = .ok (.imul, 1) := by decide +kernel
theorem dX1_withPi_9 : decode cX1_withPi 9 = .ok (.aload_n 0, 1) := by decide +kernel
theorem dX1_withPi_10 : decode cX1_withPi 10 = .ok (.getfield 16, 3) := by decide +kernel
theorem dX1_withPi_13 : decode cX1_withPi 13 = .ok (.aload_n 0, 1) := by decide +kernel
theorem dX1_withPi_14 : decode cX1_withPi 14 = .ok (.getfield 16, 3) := by decide +kernel
theorem dX1_withPi_17 : decode cX1_withPi 17 = .ok (.imul, 1) := by decide +kernel
theorem dX1_withPi_18 : decode cX1_withPi 18 = .ok (.iadd, 1) := by decide +kernel
theorem dX1_withPi_19 : decode cX1_withPi 19 = .ok (.iconst 2, 1) := by decide +kernel
theorem dX1_withPi_20 : decode cX1_withPi 20 = .ok (.aload_n 0, 1) := by decide +kernel
theorem dX1_withPi_21 : decode cX1_withPi 21 = .ok (.getfield 35, 3) := by decide +kernel
theorem dX1_withPi_24 : decode cX1_withPi 24 = .ok (.imul, 1) := by decide +kernel
theorem dX1_withPi_25 : decode cX1_withPi 25 = .ok (.aload_n 0, 1) := by decide +kernel
theorem dX1_withPi_26 : decode cX1_withPi 26 = .ok (.getfield 16, 3) := by decide +kernel
theorem dX1_withPi_29 : decode cX1_withPi 29 = .ok (.imul, 1) := by decide +kernel
theorem dX1_withPi_30 : decode cX1_withPi 30 = .ok (.iadd, 1) := by decide +kernel
theorem dX1_withPi_31 : decode cX1_withPi 31 = .ok (.i2l, 1) := by decide +kernel
theorem dX1_withPi_32 : decode cX1_withPi 32 = .ok (.lreturn, 1) := by decide +kernel
set_option maxRecDepth 20000 in
theorem ggX1_beyondFolded_X0_nearestAgainst : GoodIn wsX1_beyondFolded wsX0_nearestAgainst := goodIn_r _ [9, 10, 11, 12, 8, 13, 14, 15, 16, 17, 18, 19, 20, 21, 22, 23, 24, 25, 26, 27, 28, 29, 30, 31, 32, 33, 34, 35, 36, 45, 46, 47] (by decide +kernel) (by decide +kernel)
set_option maxRecDepth 20000 in
theorem gX1_beyondFolded_X0_nearestAgainst : GoodIn wsX1_beyondFolded (wsV RX1 203 RX0 yX0_nearestAgainst wsX0_nearestAgainst) := goodIn_app (goodIn_of _ (by decide +kernel)) ggX1_beyondFolded_X0_nearestAgainst
theorem dX1_beyondFolded_0 : decode cX1_beyondFolded 0 = .ok (.aload_n 0, 1) := by decide +kernel
theorem dX1_beyondFolded_1 : decode cX1_beyondFolded 1 = .ok (.getfield 32, 3) := by decide +kernel
theorem dX1_beyondFolded_4 : decode cX1_beyondFolded 4 = .ok (.aload_n 0, 1) := by decide +kernel
theorem dX1_beyondFolded_5 : decode cX1_beyondFolded 5 = .ok (.getfield 16, 3) := by decide +kernel
theorem dX1_beyondFolded_8 : decode cX1_beyondFolded 8 = .ok (.isub, 1) := by decide +kernel
theorem dX1_beyondFolded_9 : decode cX1_beyondFolded 9 = .ok (.i2l, 1) := by decide +kernel
theorem dX1_beyondFolded_10 : decode cX1_beyondFolded 10 = .ok (.lstore_n 2, 1) := by decide +kernel
theorem dX1_beyondFolded_11 : decode cX1_beyondFolded 11 = .ok (.iconst 0, 1) := by decide +kernel
theorem dX1_beyondFolded_12 : decode cX1_beyondFolded 12 = .ok (.istore 4, 2) := by decide +kernel
theorem dX1_beyondFolded_14 : decode cX1_beyondFolded 14 = .ok (.iload 4, 2) := by decide +kernel
theorem dX1_beyondFolded_16 : decode cX1_beyondFolded 16 = .ok (.aload_n 1, 1) := by decide +kernel
theorem dX1_beyondFolded_17 : decode cX1_beyondFolded 17 = .ok (.getfield 46, 3) := by decide +kernel
theorem dX1_beyondFolded_20 : decode cX1_beyondFolded 20 = .ok (.if_icmp .ge 31, 3) := by decide +kernel
theorem dX1_beyondFolded_23 : decode cX1_beyondFolded 23 = .ok (.aload_n 1, 1) := by decide +kernel
theorem dX1_beyondFolded_24 : decode cX1_beyondFolded 24 = .ok (.iload 4, 2) := by decide +kernel
theorem dX1_beyondFolded_26 : decode cX1_beyondFolded 26 = .ok (.aload_n 0, 1) := by decide +kernel
theorem dX1_beyondFolded_27 : decode cX1_beyondFolded 27 = .ok (.getfield 26, 3) := by decide +kernel
theorem dX1_beyondFolded_30 : decode cX1_beyondFolded 30 = .ok (.aload_n 0, 1) := by decide +kernel
theorem dX1_beyondFolded_31 : decode cX1_beyondFolded 31 = .ok (.getfield 29, 3) := by decide +kernel
theorem dX1_beyondFolded_34 : decode cX1_beyondFolded 34 = .ok (.lload_n 2, 1) := by decide +kernel
theorem dX1_beyondFolded_35 : decode cX1_beyondFolded 35 = .ok (.lload_n 2, 1) := by decide +kernel
theorem dX1_beyondFolded_36 : decode cX1_beyondFolded 36 = .ok (.lmul, 1) := by decide +kernel
theorem dX1_beyondFolded_37 : decode cX1_beyondFolded 37 = .ok (.invokevirtual 203, 3) := by decide +kernel
theorem dX1_beyondFolded_40 : decode cX1_beyondFolded 40 = .ok (.ifCond .gt 5, 3) := by decide +kernel
theorem dX1_beyondFolded_43 : decode cX1_beyondFolded 43 = .ok (.iconst 0, 1) := by decide +kernel
theorem dX1_beyondFolded_44 : decode cX1_beyondFolded 44 = .ok (.ireturn, 1) := by decide +kernel
theorem dX1_beyondFolded_45 : decode cX1_beyondFolded 45 = .ok (.iinc 4 1, 3) := by decide +kernel
theorem dX1_beyondFolded_48 : decode cX1_beyondFolded 48 = .ok (.goto (-34), 3) := by decide +kernel
theorem dX1_beyondFolded_51 : decode cX1_beyondFolded 51 = .ok (.iconst 1, 1) := by decide +kernel
theorem dX1_beyondFolded_52 : decode cX1_beyondFolded 52 = .ok (.ireturn, 1) := by decide +kernel
set_option maxRecDepth 20000 in
theorem ggX1_withinStretched_X0_squareTo : GoodIn wsX1_withinStretched wsX0_squareTo := goodIn_r _ [9, 10, 11, 12, 8, 13, 14, 15, 16, 17, 18, 19, 28, 29, 30] (by decide +kernel) (by decide +kernel)
set_option maxRecDepth 20000 in
theorem gX1_withinStretched_X0_squareTo : GoodIn wsX1_withinStretched (wsV RX1 207 RX0 yX0_squareTo wsX0_squareTo) := goodIn_app (goodIn_of _ (by decide +kernel)) ggX1_withinStretched_X0_squareTo
theorem dX1_withinStretched_0 : decode cX1_withinStretched 0 = .ok (.aload_n 0, 1) := by decide +kernel
theorem dX1_withinStretched_1 : decode cX1_withinStretched 1 = .ok (.getfield 32, 3) := by decide +kernel
theorem dX1_withinStretched_4 : decode cX1_withinStretched 4 = .ok (.aload_n 0, 1) := by decide +kernel
theorem dX1_withinStretched_5 : decode cX1_withinStretched 5 = .ok (.getfield 16, 3) := by decide +kernel
theorem dX1_withinStretched_8 : decode cX1_withinStretched 8 = .ok (.iadd, 1) := by decide +kernel
theorem dX1_withinStretched_9 : decode cX1_withinStretched 9 = .ok (.i2l, 1) := by decide +kernel
theorem dX1_withinStretched_10 : decode cX1_withinStretched 10 = .ok (.lstore_n 2, 1) := by decide +kernel
theorem dX1_withinStretched_11 : decode cX1_withinStretched 11 = .ok (.iconst 0, 1) := by decide +kernel
theorem dX1_withinStretched_12 : decode cX1_withinStretched 12 = .ok (.istore 4, 2) := by decide +kernel
theorem dX1_withinStretched_14 : decode cX1_withinStretched 14 = .ok (.iload 4, 2) := by decide +kernel
theorem dX1_withinStretched_16 : decode cX1_withinStretched 16 = .ok (.aload_n 1, 1) := by decide +kernel
theorem dX1_withinStretched_17 : decode cX1_withinStretched 17 = .ok (.getfield 46, 3) := by decide +kernel
theorem dX1_withinStretched_20 : decode cX1_withinStretched 20 = .ok (.if_icmp .ge 34, 3) := by decide +kernel
theorem dX1_withinStretched_23 : decode cX1_withinStretched 23 = .ok (.aload_n 1, 1) := by decide +kernel
theorem dX1_withinStretched_24 : decode cX1_withinStretched 24 = .ok (.iload 4, 2) := by decide +kernel
theorem dX1_withinStretched_26 : decode cX1_withinStretched 26 = .ok (.aload_n 0, 1) := by decide +kernel
theorem dX1_withinStretched_27 : decode cX1_withinStretched 27 = .ok (.getfield 26, 3) := by decide +kernel
theorem dX1_withinStretched_30 : decode cX1_withinStretched 30 = .ok (.i2l, 1) := by decide +kernel
theorem dX1_withinStretched_31 : decode cX1_withinStretched 31 = .ok (.aload_n 0, 1) := by decide +kernel
theorem dX1_withinStretched_32 : decode cX1_withinStretched 32 = .ok (.getfield 29, 3) := by decide +kernel
theorem dX1_withinStretched_35 : decode cX1_withinStretched 35 = .ok (.i2l, 1) := by decide +kernel
theorem dX1_withinStretched_36 : decode cX1_withinStretched 36 = .ok (.invokevirtual 207, 3) := by decide +kernel
theorem dX1_withinStretched_39 : decode cX1_withinStretched 39 = .ok (.lload_n 2, 1) := by decide +kernel
theorem dX1_withinStretched_40 : decode cX1_withinStretched 40 = .ok (.lload_n 2, 1) := by decide +kernel
theorem dX1_withinStretched_41 : decode cX1_withinStretched 41 = .ok (.lmul, 1) := by decide +kernel
theorem dX1_withinStretched_42 : decode cX1_withinStretched 42 = .ok (.lcmp, 1) := by decide +kernel
theorem dX1_withinStretched_43 : decode cX1_withinStretched 43 = .ok (.ifCond .lt 5, 3) := by decide +kernel
theorem dX1_withinStretched_46 : decode cX1_withinStretched 46 = .ok (.iconst 0, 1) := by decide +kernel
theorem dX1_withinStretched_47 : decode cX1_withinStretched 47 = .ok (.ireturn, 1) := by decide +kernel
theorem dX1_withinStretched_48 : decode cX1_withinStretched 48 = .ok (.iinc 4 1, 3) := by decide +kernel
theorem dX1_withinStretched_51 : decode cX1_withinStretched 51 = .ok (.goto (-37), 3) := by decide +kernel
theorem dX1_withinStretched_54 : decode cX1_withinStretched 54 = .ok (.iconst 1, 1) := by decide +kernel
theorem dX1_withinStretched_55 : decode cX1_withinStretched 55 = .ok (.ireturn, 1) := by decide +kernel
set_option maxRecDepth 20000 in
theorem ggX1_readable_X1_from0To : GoodIn wsX1_readable wsX1_from0To := goodIn_r _ [5] (by decide +kernel) (by decide +kernel)
set_option maxRecDepth 20000 in
theorem gX1_readable_X1_from0To : GoodIn wsX1_readable (va_wsS RX1 107 yX1_from0To wsX1_from0To) := goodIn_app (goodIn_of _ (by decide +kernel)) ggX1_readable_X1_from0To
theorem dX1_readable_0 : decode cX1_readable 0 = .ok (.iload_n 0, 1) := by decide +kernel
theorem dX1_readable_1 : decode cX1_readable 1 = .ok (.ldc 225, 2) := by decide +kernel
theorem dX1_readable_3 : decode cX1_readable 3 = .ok (.invokestatic 107, 3) := by decide +kernel
theorem dX1_readable_6 : decode cX1_readable 6 = .ok (.ifCond .eq 25, 3) := by decide +kernel
theorem dX1_readable_9 : decode cX1_readable 9 = .ok (.iload_n 1, 1) := by decide +kernel
theorem dX1_readable_10 : decode cX1_readable 10 = .ok (.bipush 100, 2) := by decide +kernel
theorem dX1_readable_12 : decode cX1_readable 12 = .ok (.invokestatic 107, 3) := by decide +kernel
theorem dX1_readable_15 : decode cX1_readable 15 = .ok (.ifCond .eq 16, 3) := by decide +kernel
theorem dX1_readable_18 : decode cX1_readable 18 = .ok (.iload_n 2, 1) := by decide +kernel
theorem dX1_readable_19 : decode cX1_readable 19 = .ok (.bipush 100, 2) := by decide +kernel
theorem dX1_readable_21 : decode cX1_readable 21 = .ok (.invokestatic 107, 3) := by decide +kernel
theorem dX1_readable_24 : decode cX1_readable 24 = .ok (.ifCond .eq 7, 3) := by decide +kernel
theorem dX1_readable_27 : decode cX1_readable 27 = .ok (.iconst 1, 1) := by decide +kernel
theorem dX1_readable_28 : decode cX1_readable 28 = .ok (.goto 4, 3) := by decide +kernel
theorem dX1_readable_31 : decode cX1_readable 31 = .ok (.iconst 0, 1) := by decide +kernel
theorem dX1_readable_32 : decode cX1_readable 32 = .ok (.ireturn, 1) := by decide +kernel
theorem dX1_leastTeeth_0 : decode cX1_leastTeeth 0 = .ok (.iconst 0, 1) := by decide +kernel
theorem dX1_leastTeeth_1 : decode cX1_leastTeeth 1 = .ok (.iload_n 0, 1) := by decide +kernel
theorem dX1_leastTeeth_2 : decode cX1_leastTeeth 2 = .ok (.iload_n 1, 1) := by decide +kernel
theorem dX1_leastTeeth_3 : decode cX1_leastTeeth 3 = .ok (.iload_n 2, 1) := by decide +kernel
theorem dX1_leastTeeth_4 : decode cX1_leastTeeth 4 = .ok (.imul, 1) := by decide +kernel
theorem dX1_leastTeeth_5 : decode cX1_leastTeeth 5 = .ok (.isub, 1) := by decide +kernel
theorem dX1_leastTeeth_6 : decode cX1_leastTeeth 6 = .ok (.invokestatic 226, 3) := by decide +kernel
theorem dX1_leastTeeth_9 : decode cX1_leastTeeth 9 = .ok (.i2l, 1) := by decide +kernel
theorem dX1_leastTeeth_10 : decode cX1_leastTeeth 10 = .ok (.lreturn, 1) := by decide +kernel
theorem dX1_belowTeeth_0 : decode cX1_belowTeeth 0 = .ok (.iload_n 0, 1) := by decide +kernel
theorem dX1_belowTeeth_1 : decode cX1_belowTeeth 1 = .ok (.iconst 1, 1) := by decide +kernel
theorem dX1_belowTeeth_2 : decode cX1_belowTeeth 2 = .ok (.iadd, 1) := by decide +kernel
theorem dX1_belowTeeth_3 : decode cX1_belowTeeth 3 = .ok (.iload_n 1, 1) := by decide +kernel
theorem dX1_belowTeeth_4 : decode cX1_belowTeeth 4 = .ok (.iload_n 2, 1) := by decide +kernel
theorem dX1_belowTeeth_5 : decode cX1_belowTeeth 5 = .ok (.imul, 1) := by decide +kernel
theorem dX1_belowTeeth_6 : decode cX1_belowTeeth 6 = .ok (.iadd, 1) := by decide +kernel
theorem dX1_belowTeeth_7 : decode cX1_belowTeeth 7 = .ok (.i2l, 1) := by decide +kernel
theorem dX1_belowTeeth_8 : decode cX1_belowTeeth 8 = .ok (.lreturn, 1) := by decide +kernel
theorem dX2_init_0 : decode cX2_init 0 = .ok (.aload_n 0, 1) := by decide +kernel
theorem dX2_init_1 : decode cX2_init 1 = .ok (.invokespecial 1, 3) := by decide +kernel
theorem dX2_init_4 : decode cX2_init 4 = .ok (.aload_n 0, 1) := by decide +kernel
theorem dX2_init_5 : decode cX2_init 5 = .ok (.bipush 6, 2) := by decide +kernel
theorem dX2_init_7 : decode cX2_init 7 = .ok (.newarray .int, 2) := by decide +kernel
theorem dX2_init_9 : decode cX2_init 9 = .ok (.putfield 7, 3) := by decide +kernel
theorem dX2_init_12 : decode cX2_init 12 = .ok (.aload_n 0, 1) := by decide +kernel
theorem dX2_init_13 : decode cX2_init 13 = .ok (.sipush 144, 3) := by decide +kernel
theorem dX2_init_16 : decode cX2_init 16 = .ok (.newarray .int, 2) := by decide +kernel
theorem dX2_init_18 : decode cX2_init 18 = .ok (.putfield 13, 3) := by decide +kernel
theorem dX2_init_21 : decode cX2_init 21 = .ok (.aload_n 0, 1) := by decide +kernel
theorem dX2_init_22 : decode cX2_init 22 = .ok (.sipush 144, 3) := by decide +kernel
theorem dX2_init_25 : decode cX2_init 25 = .ok (.newarray .int, 2) := by decide +kernel
theorem dX2_init_27 : decode cX2_init 27 = .ok (.putfield 16, 3) := by decide +kernel
theorem dX2_init_30 : decode cX2_init 30 = .ok (.aload_n 0, 1) := by decide +kernel
theorem dX2_init_31 : decode cX2_init 31 = .ok (.sipush 150, 3) := by decide +kernel
theorem dX2_init_34 : decode cX2_init 34 = .ok (.putfield 19, 3) := by decide +kernel
theorem dX2_init_37 : decode cX2_init 37 = .ok (.aload_n 0, 1) := by decide +kernel
theorem dX2_init_38 : decode cX2_init 38 = .ok (.bipush 60, 2) := by decide +kernel
theorem dX2_init_40 : decode cX2_init 40 = .ok (.putfield 23, 3) := by decide +kernel
theorem dX2_init_43 : decode cX2_init 43 = .ok (.aload_n 0, 1) := by decide +kernel
theorem dX2_init_44 : decode cX2_init 44 = .ok (.sipush 1000, 3) := by decide +kernel
theorem dX2_init_47 : decode cX2_init 47 = .ok (.putfield 26, 3) := by decide +kernel
theorem dX2_init_50 : decode cX2_init 50 = .ok (.aload_n 0, 1) := by decide +kernel
theorem dX2_init_51 : decode cX2_init 51 = .ok (.bipush 100, 2) := by decide +kernel
theorem dX2_init_53 : decode cX2_init 53 = .ok (.putfield 29, 3) := by decide +kernel
theorem dX2_init_56 : decode cX2_init 56 = .ok (.aload_n 0, 1) := by decide +kernel
theorem dX2_init_57 : decode cX2_init 57 = .ok (.bipush 48, 2) := by decide +kernel
theorem dX2_init_59 : decode cX2_init 59 = .ok (.newarray .int, 2) := by decide +kernel
theorem dX2_init_61 : decode cX2_init 61 = .ok (.putfield 32, 3) := by decide +kernel
theorem dX2_init_64 : decode cX2_init 64 = .ok (.aload_n 0, 1) := by decide +kernel
theorem dX2_init_65 : decode cX2_init 65 = .ok (.bipush 48, 2) := by decide +kernel
theorem dX2_init_67 : decode cX2_init 67 = .ok (.newarray .int, 2) := by decide +kernel
theorem dX2_init_69 : decode cX2_init 69 = .ok (.putfield 35, 3) := by decide +kernel
theorem dX2_init_72 : decode cX2_init 72 = .ok (.return_, 1) := by decide +kernel
theorem dX2_in_0 : decode cX2_in 0 = .ok (.iload_n 0, 1) := by decide +kernel
theorem dX2_in_1 : decode cX2_in 1 = .ok (.iload_n 1, 1) := by decide +kernel
theorem dX2_in_2 : decode cX2_in 2 = .ok (.if_icmp .lt 12, 3) := by decide +kernel
theorem dX2_in_5 : decode cX2_in 5 = .ok (.iload_n 0, 1) := by decide +kernel
theorem dX2_in_6 : decode cX2_in 6 = .ok (.iload_n 2, 1) := by decide +kernel
theorem dX2_in_7 : decode cX2_in 7 = .ok (.if_icmp .gt 7, 3) := by decide +kernel
theorem dX2_in_10 : decode cX2_in 10 = .ok (.iconst 1, 1) := by decide +kernel
theorem dX2_in_11 : decode cX2_in 11 = .ok (.goto 4, 3) := by decide +kernel
theorem dX2_in_14 : decode cX2_in 14 = .ok (.iconst 0, 1) := by decide +kernel
theorem dX2_in_15 : decode cX2_in 15 = .ok (.ireturn, 1) := by decide +kernel
set_option maxRecDepth 20000 in
theorem ggX2_isFigure_X2_in : GoodIn wsX2_isFigure wsX2_in := goodIn_r _ [4] (by decide +kernel) (by decide +kernel)
set_option maxRecDepth 20000 in
theorem gX2_isFigure_X2_in : GoodIn wsX2_isFigure (va_wsS RX2 38 yX2_in wsX2_in) := goodIn_app (goodIn_of _ (by decide +kernel)) ggX2_isFigure_X2_in
theorem dX2_isFigure_0 : decode cX2_isFigure 0 = .ok (.iload_n 0, 1) := by decide +kernel
theorem dX2_isFigure_1 : decode cX2_isFigure 1 = .ok (.iconst 0, 1) := by decide +kernel
theorem dX2_isFigure_2 : decode cX2_isFigure 2 = .ok (.iconst 5, 1) := by decide +kernel
theorem dX2_isFigure_3 : decode cX2_isFigure 3 = .ok (.invokestatic 38, 3) := by decide +kernel
theorem dX2_isFigure_6 : decode cX2_isFigure 6 = .ok (.ireturn, 1) := by decide +kernel
set_option maxRecDepth 20000 in
theorem ggX2_isPoint_X2_isFigure : GoodIn wsX2_isPoint wsX2_isFigure := goodIn_r _ [5, 6, 7, 4, 8] (by decide +kernel) (by decide +kernel)
set_option maxRecDepth 20000 in
theorem gX2_isPoint_X2_isFigure : GoodIn wsX2_isPoint (va_wsS RX2 42 yX2_isFigure wsX2_isFigure) := goodIn_app (goodIn_of _ (by decide +kernel)) ggX2_isPoint_X2_isFigure
set_option maxRecDepth 20000 in
theorem ggX2_isPoint_X2_in : GoodIn wsX2_isPoint wsX2_in := goodIn_r _ [8] (by decide +kernel) (by decide +kernel)
set_option maxRecDepth 20000 in
theorem gX2_isPoint_X2_in : GoodIn wsX2_isPoint (va_wsS RX2 38 yX2_in wsX2_in) := goodIn_app (goodIn_of _ (by decide +kernel)) ggX2_isPoint_X2_in
theorem dX2_isPoint_0 : decode cX2_isPoint 0 = .ok (.iload_n 1, 1) := by decide +kernel
theorem dX2_isPoint_1 : decode cX2_isPoint 1 = .ok (.invokestatic 42, 3) := by decide +kernel
theorem dX2_isPoint_4 : decode cX2_isPoint 4 = .ok (.ifCond .eq 23, 3) := by decide +kernel
theorem dX2_isPoint_7 : decode cX2_isPoint 7 = .ok (.iload_n 2, 1) := by decide +kernel
theorem dX2_isPoint_8 : decode cX2_isPoint 8 = .ok (.iconst 0, 1) := by decide +kernel
theorem dX2_isPoint_9 : decode cX2_isPoint 9 = .ok (.aload_n 0, 1) := by decide +kernel
theorem dX2_isPoint_10 : decode cX2_isPoint 10 = .ok (.getfield 7, 3) := by decide +kernel
theorem dX2_isPoint_13 : decode cX2_isPoint 13 = .ok (.iload_n 1, 1) := by decide +kernel
theorem dX2_isPoint_14 : decode cX2_isPoint 14 = .ok (.iaload, 1) := by decide +kernel
theorem dX2_isPoint_15 : decode cX2_isPoint 15 = .ok (.iconst 1, 1) := by decide +kernel
theorem dX2_isPoint_16 : decode cX2_isPoint 16 = .ok (.isub, 1) := by decide +kernel
theorem dX2_isPoint_17 : decode cX2_isPoint 17 = .ok (.invokestatic 38, 3) := by decide +kernel
theorem dX2_isPoint_20 : decode cX2_isPoint 20 = .ok (.ifCond .eq 7, 3) := by decide +kernel
theorem dX2_isPoint_23 : decode cX2_isPoint 23 = .ok (.iconst 1, 1) := by decide +kernel
theorem dX2_isPoint_24 : decode cX2_isPoint 24 = .ok (.goto 4, 3) := by decide +kernel
theorem dX2_isPoint_27 : decode cX2_isPoint 27 = .ok (.iconst 0, 1) := by decide +kernel
theorem dX2_isPoint_28 : decode cX2_isPoint 28 = .ok (.ireturn, 1) := by decide +kernel
theorem dX2_isClosed_0 : decode cX2_isClosed 0 = .ok (.aload_n 0, 1) := by decide +kernel
theorem dX2_isClosed_1 : decode cX2_isClosed 1 = .ok (.getfield 7, 3) := by decide +kernel
theorem dX2_isClosed_4 : decode cX2_isClosed 4 = .ok (.iload_n 1, 1) := by decide +kernel
theorem dX2_isClosed_5 : decode cX2_isClosed 5 = .ok (.iaload, 1) := by decide +kernel
theorem dX2_isClosed_6 : decode cX2_isClosed 6 = .ok (.iconst 3, 1) := by decide +kernel
theorem dX2_isClosed_7 : decode cX2_isClosed 7 = .ok (.if_icmp .lt 7, 3) := by decide +kernel
theorem dX2_isClosed_10 : decode cX2_isClosed 10 = .ok (.iconst 1, 1) := by decide +kernel
theorem dX2_isClosed_11 : decode cX2_isClosed 11 = .ok (.goto 4, 3) := by decide +kernel
theorem dX2_isClosed_14 : decode cX2_isClosed 14 = .ok (.iconst 0, 1) := by decide +kernel
theorem dX2_isClosed_15 : decode cX2_isClosed 15 = .ok (.ireturn, 1) := by decide +kernel
theorem dX2_x_0 : decode cX2_x 0 = .ok (.aload_n 0, 1) := by decide +kernel
theorem dX2_x_1 : decode cX2_x 1 = .ok (.getfield 13, 3) := by decide +kernel
theorem dX2_x_4 : decode cX2_x 4 = .ok (.bipush 24, 2) := by decide +kernel
theorem dX2_x_6 : decode cX2_x 6 = .ok (.iload_n 1, 1) := by decide +kernel
theorem dX2_x_7 : decode cX2_x 7 = .ok (.imul, 1) := by decide +kernel
theorem dX2_x_8 : decode cX2_x 8 = .ok (.iload_n 2, 1) := by decide +kernel
theorem dX2_x_9 : decode cX2_x 9 = .ok (.aload_n 0, 1) := by decide +kernel
theorem dX2_x_10 : decode cX2_x 10 = .ok (.getfield 7, 3) := by decide +kernel
theorem dX2_x_13 : decode cX2_x 13 = .ok (.iload_n 1, 1) := by decide +kernel
theorem dX2_x_14 : decode cX2_x 14 = .ok (.iaload, 1) := by decide +kernel
theorem dX2_x_15 : decode cX2_x 15 = .ok (.irem, 1) := by decide +kernel
theorem dX2_x_16 : decode cX2_x 16 = .ok (.iadd, 1) := by decide +kernel
theorem dX2_x_17 : decode cX2_x 17 = .ok (.iaload, 1) := by decide +kernel
theorem dX2_x_18 : decode cX2_x 18 = .ok (.ireturn, 1) := by decide +kernel
theorem dX2_y_0 : decode cX2_y 0 = .ok (.aload_n 0, 1) := by decide +kernel
theorem dX2_y_1 : decode cX2_y 1 = .ok (.getfield 16, 3) := by decide +kernel
theorem dX2_y_4 : decode cX2_y 4 = .ok (.bipush 24, 2) := by decide +kernel
theorem dX2_y_6 : decode cX2_y 6 = .ok (.iload_n 1, 1) := by decide +kernel
theorem dX2_y_7 : decode cX2_y 7 = .ok (.imul, 1) := by decide +kernel
theorem dX2_y_8 : decode cX2_y 8 = .ok (.iload_n 2, 1) := by decide +kernel
theorem dX2_y_9 : decode cX2_y 9 = .ok (.aload_n 0, 1) := by decide +kernel
theorem dX2_y_10 : decode cX2_y 10 = .ok (.getfield 7, 3) := by decide +kernel
theorem dX2_y_13 : decode cX2_y 13 = .ok (.iload_n 1, 1) := by decide +kernel
theorem dX2_y_14 : decode cX2_y 14 = .ok (.iaload, 1) := by decide +kernel
theorem dX2_y_15 : decode cX2_y 15 = .ok (.irem, 1) := by decide +kernel
theorem dX2_y_16 : decode cX2_y 16 = .ok (.iadd, 1) := by decide +kernel
theorem dX2_y_17 : decode cX2_y 17 = .ok (.iaload, 1) := by decide +kernel
theorem dX2_y_18 : decode cX2_y 18 = .ok (.ireturn, 1) := by decide +kernel
set_option maxRecDepth 20000 in
theorem ggX2_isPlace_X2_in : GoodIn wsX2_isPlace wsX2_in := goodIn_r _ [4] (by decide +kernel) (by decide +kernel)
set_option maxRecDepth 20000 in
theorem gX2_isPlace_X2_in : GoodIn wsX2_isPlace (va_wsS RX2 38 yX2_in wsX2_in) := goodIn_app (goodIn_of _ (by decide +kernel)) ggX2_isPlace_X2_in
theorem dX2_isPlace_0 : decode cX2_isPlace 0 = .ok (.iload_n 0, 1) := by decide +kernel
theorem dX2_isPlace_1 : decode cX2_isPlace 1 = .ok (.bipush (-100), 2) := by decide +kernel
theorem dX2_isPlace_3 : decode cX2_isPlace 3 = .ok (.bipush 100, 2) := by decide +kernel
theorem dX2_isPlace_5 : decode cX2_isPlace 5 = .ok (.invokestatic 38, 3) := by decide +kernel
theorem dX2_isPlace_8 : decode cX2_isPlace 8 = .ok (.ireturn, 1) := by decide +kernel
set_option maxRecDepth 20000 in
theorem ggX2_point_X2_isFigure : GoodIn wsX2_point wsX2_isFigure := goodIn_r _ [7, 8, 9, 6, 10] (by decide +kernel) (by decide +kernel)
set_option maxRecDepth 20000 in
theorem gX2_point_X2_isFigure : GoodIn wsX2_point (va_wsS RX2 42 yX2_isFigure wsX2_isFigure) := goodIn_app (goodIn_of _ (by decide +kernel)) ggX2_point_X2_isFigure
set_option maxRecDepth 20000 in
theorem ggX2_point_X2_isPlace : GoodIn wsX2_point wsX2_isPlace := goodIn_r _ [13, 8, 9, 6, 10] (by decide +kernel) (by decide +kernel)
set_option maxRecDepth 20000 in
theorem gX2_point_X2_isPlace : GoodIn wsX2_point (va_wsS RX2 46 yX2_isPlace wsX2_isPlace) := goodIn_app (goodIn_of _ (by decide +kernel)) ggX2_point_X2_isPlace
theorem dX2_point_0 : decode cX2_point 0 = .ok (.iload_n 1, 1) := by decide +kernel
theorem dX2_point_1 : decode cX2_point 1 = .ok (.invokestatic 42, 3) := by decide +kernel
theorem dX2_point_4 : decode cX2_point 4 = .ok (.ifCond .ne 5, 3) := by decide +kernel
theorem dX2_point_7 : decode cX2_point 7 = .ok (.iconst (-1), 1) := by decide +kernel
theorem dX2_point_8 : decode cX2_point 8 = .ok (.ireturn, 1) := by decide +kernel
theorem dX2_point_9 : decode cX2_point 9 = .ok (.iload_n 2, 1) := by decide +kernel
theorem dX2_point_10 : decode cX2_point 10 = .ok (.invokestatic 46, 3) := by decide +kernel
theorem dX2_point_13 : decode cX2_point 13 = .ok (.ifCond .eq 10, 3) := by decide +kernel
theorem dX2_point_16 : decode cX2_point 16 = .ok (.iload_n 3, 1) := by decide +kernel
theorem dX2_point_17 : decode cX2_point 17 = .ok (.invokestatic 46, 3) := by decide +kernel
theorem dX2_point_20 : decode cX2_point 20 = .ok (.ifCond .ne 6, 3) := by decide +kernel
theorem dX2_point_23 : decode cX2_point 23 = .ok (.bipush (-2), 2) := by decide +kernel
theorem dX2_point_25 : decode cX2_point 25 = .ok (.ireturn, 1) := by decide +kernel
theorem dX2_point_26 : decode cX2_point 26 = .ok (.aload_n 0, 1) := by decide +kernel
theorem dX2_point_27 : decode cX2_point 27 = .ok (.getfield 7, 3) := by decide +kernel
theorem dX2_point_30 : decode cX2_point 30 = .ok (.iload_n 1, 1) := by decide +kernel
theorem dX2_point_31 : decode cX2_point 31 = .ok (.iaload, 1) := by decide +kernel
theorem dX2_point_32 : decode cX2_point 32 = .ok (.bipush 24, 2) := by decide +kernel
theorem dX2_point_34 : decode cX2_point 34 = .ok (.if_icmp .ne 6, 3) := by decide +kernel
theorem dX2_point_37 : decode cX2_point 37 = .ok (.bipush (-4), 2) := by decide +kernel
theorem dX2_point_39 : decode cX2_point 39 = .ok (.ireturn, 1) := by decide +kernel
theorem dX2_point_40 : decode cX2_point 40 = .ok (.aload_n 0, 1) := by decide +kernel
theorem dX2_point_41 : decode cX2_point 41 = .ok (.getfield 13, 3) := by decide +kernel
theorem dX2_point_44 : decode cX2_point 44 = .ok (.bipush 24, 2) := by decide +kernel
theorem dX2_point_46 : decode cX2_point 46 = .ok (.iload_n 1, 1) := by decide +kernel
theorem dX2_point_47 : decode cX2_point 47 = .ok (.imul, 1) := by decide +kernel
theorem dX2_point_48 : decode cX2_point 48 = .ok (.aload_n 0, 1) := by decide +kernel
theorem dX2_point_49 : decode cX2_point 49 = .ok (.getfield 7, 3) := by decide +kernel
theorem dX2_point_52 : decode cX2_point 52 = .ok (.iload_n 1, 1) := by decide +kernel
theorem dX2_point_53 : decode cX2_point 53 = .ok (.iaload, 1) := by decide +kernel
theorem dX2_point_54 : decode cX2_point 54 = .ok (.iadd, 1) := by decide +kernel
theorem dX2_point_55 : decode cX2_point 55 = .ok (.iload_n 2, 1) := by decide +kernel
theorem dX2_point_56 : decode cX2_point 56 = .ok (.iastore, 1) := by decide +kernel
theorem dX2_point_57 : decode cX2_point 57 = .ok (.aload_n 0, 1) := by decide +kernel
theorem dX2_point_58 : decode cX2_point 58 = .ok (.getfield 16, 3) := by decide +kernel
theorem dX2_point_61 : decode cX2_point 61 = .ok (.bipush 24, 2) := by decide +kernel
theorem dX2_point_63 : decode cX2_point 63 = .ok (.iload_n 1, 1) := by decide +kernel
theorem dX2_point_64 : decode cX2_point 64 = .ok (.imul, 1) := by decide +kernel
theorem dX2_point_65 : decode cX2_point 65 = .ok (.aload_n 0, 1) := by decide +kernel
theorem dX2_point_66 : decode cX2_point 66 = .ok (.getfield 7, 3) := by decide +kernel
theorem dX2_point_69 : decode cX2_point 69 = .ok (.iload_n 1, 1) := by decide +kernel
theorem dX2_point_70 : decode cX2_point 70 = .ok (.iaload, 1) := by decide +kernel
theorem dX2_point_71 : decode cX2_point 71 = .ok (.iadd, 1) := by decide +kernel
theorem dX2_point_72 : decode cX2_point 72 = .ok (.iload_n 3, 1) := by decide +kernel
theorem dX2_point_73 : decode cX2_point 73 = .ok (.iastore, 1) := by decide +kernel
theorem dX2_point_74 : decode cX2_point 74 = .ok (.aload_n 0, 1) := by decide +kernel
theorem dX2_point_75 : decode cX2_point 75 = .ok (.getfield 7, 3) := by decide +kernel
theorem dX2_point_78 : decode cX2_point 78 = .ok (.iload_n 1, 1) := by decide +kernel
theorem dX2_point_79 : decode cX2_point 79 = .ok (.dup2, 1) := by decide +kernel
theorem dX2_point_80 : decode cX2_point 80 = .ok (.iaload, 1) := by decide +kernel
theorem dX2_point_81 : decode cX2_point 81 = .ok (.iconst 1, 1) := by decide +kernel
theorem dX2_point_82 : decode cX2_point 82 = .ok (.iadd, 1) := by decide +kernel
theorem dX2_point_83 : decode cX2_point 83 = .ok (.iastore, 1) := by decide +kernel
theorem dX2_point_84 : decode cX2_point 84 = .ok (.aload_n 0, 1) := by decide +kernel
theorem dX2_point_85 : decode cX2_point 85 = .ok (.getfield 7, 3) := by decide +kernel
theorem dX2_point_88 : decode cX2_point 88 = .ok (.iload_n 1, 1) := by decide +kernel
theorem dX2_point_89 : decode cX2_point 89 = .ok (.iaload, 1) := by decide +kernel
theorem dX2_point_90 : decode cX2_point 90 = .ok (.iconst 1, 1) := by decide +kernel
theorem dX2_point_91 : decode cX2_point 91 = .ok (.isub, 1) := by decide +kernel
theorem dX2_point_92 : decode cX2_point 92 = .ok (.ireturn, 1) := by decide +kernel
set_option maxRecDepth 20000 in
theorem ggX2_move_X2_isPoint : GoodIn wsX2_move wsX2_isPoint := goodIn_r _ [7, 8, 9, 10, 6, 11, 12, 13, 14, 18, 19, 20, 21, 22, 23, 24, 25, 26, 27, 28, 29, 30] (by decide +kernel) (by decide +kernel)
set_option maxRecDepth 20000 in
theorem gX2_move_X2_isPoint : GoodIn wsX2_move (wsV RX2 49 RX2 yX2_isPoint wsX2_isPoint) := goodIn_app (goodIn_of _ (by decide +kernel)) ggX2_move_X2_isPoint
set_option maxRecDepth 20000 in
theorem ggX2_move_X2_isPlace : GoodIn wsX2_move wsX2_isPlace := goodIn_r _ [17, 12, 13, 6, 14] (by decide +kernel) (by decide +kernel)
set_option maxRecDepth 20000 in
theorem gX2_move_X2_isPlace : GoodIn wsX2_move (va_wsS RX2 46 yX2_isPlace wsX2_isPlace) := goodIn_app (goodIn_of _ (by decide +kernel)) ggX2_move_X2_isPlace
theorem dX2_move_0 : decode cX2_move 0 = .ok (.aload_n 0, 1) := by decide +kernel
theorem dX2_move_1 : decode cX2_move 1 = .ok (.iload_n 1, 1) := by decide +kernel
theorem dX2_move_2 : decode cX2_move 2 = .ok (.iload_n 2, 1) := by decide +kernel
theorem dX2_move_3 : decode cX2_move 3 = .ok (.invokevirtual 49, 3) := by decide +kernel
theorem dX2_move_6 : decode cX2_move 6 = .ok (.ifCond .ne 5, 3) := by decide +kernel
theorem dX2_move_9 : decode cX2_move 9 = .ok (.iconst (-1), 1) := by decide +kernel
theorem dX2_move_10 : decode cX2_move 10 = .ok (.ireturn, 1) := by decide +kernel
theorem dX2_move_11 : decode cX2_move 11 = .ok (.iload_n 3, 1) := by decide +kernel
theorem dX2_move_12 : decode cX2_move 12 = .ok (.invokestatic 46, 3) := by decide +kernel
theorem dX2_move_15 : decode cX2_move 15 = .ok (.ifCond .eq 11, 3) := by decide +kernel
theorem dX2_move_18 : decode cX2_move 18 = .ok (.iload 4, 2) := by decide +kernel
theorem dX2_move_20 : decode cX2_move 20 = .ok (.invokestatic 46, 3) := by decide +kernel
theorem dX2_move_23 : decode cX2_move 23 = .ok (.ifCond .ne 6, 3) := by decide +kernel
theorem dX2_move_26 : decode cX2_move 26 = .ok (.bipush (-2), 2) := by decide +kernel
theorem dX2_move_28 : decode cX2_move 28 = .ok (.ireturn, 1) := by decide +kernel
theorem dX2_move_29 : decode cX2_move 29 = .ok (.aload_n 0, 1) := by decide +kernel
theorem dX2_move_30 : decode cX2_move 30 = .ok (.getfield 13, 3) := by decide +kernel
theorem dX2_move_33 : decode cX2_move 33 = .ok (.bipush 24, 2) := by decide +kernel
theorem dX2_move_35 : decode cX2_move 35 = .ok (.iload_n 1, 1) := by decide +kernel
theorem dX2_move_36 : decode cX2_move 36 = .ok (.imul, 1) := by decide +kernel
theorem dX2_move_37 : decode cX2_move 37 = .ok (.iload_n 2, 1) := by decide +kernel
theorem dX2_move_38 : decode cX2_move 38 = .ok (.iadd, 1) := by decide +kernel
theorem dX2_move_39 : decode cX2_move 39 = .ok (.iload_n 3, 1) := by decide +kernel
theorem dX2_move_40 : decode cX2_move 40 = .ok (.iastore, 1) := by decide +kernel
theorem dX2_move_41 : decode cX2_move 41 = .ok (.aload_n 0, 1) := by decide +kernel
theorem dX2_move_42 : decode cX2_move 42 = .ok (.getfield 16, 3) := by decide +kernel
theorem dX2_move_45 : decode cX2_move 45 = .ok (.bipush 24, 2) := by decide +kernel
theorem dX2_move_47 : decode cX2_move 47 = .ok (.iload_n 1, 1) := by decide +kernel
theorem dX2_move_48 : decode cX2_move 48 = .ok (.imul, 1) := by decide +kernel
theorem dX2_move_49 : decode cX2_move 49 = .ok (.iload_n 2, 1) := by decide +kernel
theorem dX2_move_50 : decode cX2_move 50 = .ok (.iadd, 1) := by decide +kernel
theorem dX2_move_51 : decode cX2_move 51 = .ok (.iload 4, 2) := by decide +kernel
theorem dX2_move_53 : decode cX2_move 53 = .ok (.iastore, 1) := by decide +kernel
theorem dX2_move_54 : decode cX2_move 54 = .ok (.iconst 1, 1) := by decide +kernel
theorem dX2_move_55 : decode cX2_move 55 = .ok (.ireturn, 1) := by decide +kernel
set_option maxRecDepth 20000 in
theorem ggX2_clear_X2_isFigure : GoodIn wsX2_clear wsX2_isFigure := goodIn_r _ [5, 6, 7, 4, 8] (by decide +kernel) (by decide +kernel)
set_option maxRecDepth 20000 in
theorem gX2_clear_X2_isFigure : GoodIn wsX2_clear (va_wsS RX2 42 yX2_isFigure wsX2_isFigure) := goodIn_app (goodIn_of _ (by decide +kernel)) ggX2_clear_X2_isFigure
theorem dX2_clear_0 : decode cX2_clear 0 = .ok (.iload_n 1, 1) := by decide +kernel
theorem dX2_clear_1 : decode cX2_clear 1 = .ok (.invokestatic 42, 3) := by decide +kernel
theorem dX2_clear_4 : decode cX2_clear 4 = .ok (.ifCond .ne 5, 3) := by decide +kernel
theorem dX2_clear_7 : decode cX2_clear 7 = .ok (.iconst (-1), 1) := by decide +kernel
theorem dX2_clear_8 : decode cX2_clear 8 = .ok (.ireturn, 1) := by decide +kernel
theorem dX2_clear_9 : decode cX2_clear 9 = .ok (.aload_n 0, 1) := by decide +kernel
theorem dX2_clear_10 : decode cX2_clear 10 = .ok (.getfield 7, 3) := by decide +kernel
theorem dX2_clear_13 : decode cX2_clear 13 = .ok (.iload_n 1, 1) := by decide +kernel
theorem dX2_clear_14 : decode cX2_clear 14 = .ok (.iaload, 1) := by decide +kernel
theorem dX2_clear_15 : decode cX2_clear 15 = .ok (.istore_n 2, 1) := by decide +kernel
theorem dX2_clear_16 : decode cX2_clear 16 = .ok (.aload_n 0, 1) := by decide +kernel
theorem dX2_clear_17 : decode cX2_clear 17 = .ok (.getfield 7, 3) := by decide +kernel
theorem dX2_clear_20 : decode cX2_clear 20 = .ok (.iload_n 1, 1) := by decide +kernel
theorem dX2_clear_21 : decode cX2_clear 21 = .ok (.iconst 0, 1) := by decide +kernel
theorem dX2_clear_22 : decode cX2_clear 22 = .ok (.iastore, 1) := by decide +kernel
theorem dX2_clear_23 : decode cX2_clear 23 = .ok (.iload_n 2, 1) := by decide +kernel
theorem dX2_clear_24 : decode cX2_clear 24 = .ok (.ireturn, 1) := by decide +kernel
set_option maxRecDepth 20000 in
theorem ggX2_at_X2_isFigure : GoodIn wsX2_at wsX2_isFigure := goodIn_r _ [5, 6, 7, 4, 8] (by decide +kernel) (by decide +kernel)
set_option maxRecDepth 20000 in
theorem gX2_at_X2_isFigure : GoodIn wsX2_at (va_wsS RX2 42 yX2_isFigure wsX2_isFigure) := goodIn_app (goodIn_of _ (by decide +kernel)) ggX2_at_X2_isFigure
set_option maxRecDepth 20000 in
theorem ggX2_at_X2_isPoint : GoodIn wsX2_at wsX2_isPoint := goodIn_r _ [12, 1, 2, 3, 4, 5, 6, 7, 8, 23, 24, 25, 26, 27, 28, 29, 30, 31, 32, 33, 34, 35] (by decide +kernel) (by decide +kernel)
set_option maxRecDepth 20000 in
theorem gX2_at_X2_isPoint : GoodIn wsX2_at (wsV RX2 49 RX2 yX2_isPoint wsX2_isPoint) := goodIn_app (goodIn_of _ (by decide +kernel)) ggX2_at_X2_isPoint
set_option maxRecDepth 20000 in
theorem ggX2_at_X2_x : GoodIn wsX2_at wsX2_x := goodIn_r _ [16, 17, 1, 23, 24, 25, 26, 27, 28, 29, 30, 31, 32, 33, 34, 35] (by decide +kernel) (by decide +kernel)
set_option maxRecDepth 20000 in
theorem gX2_at_X2_x : GoodIn wsX2_at (wsV RX2 53 RX2 yX2_x wsX2_x) := goodIn_app (goodIn_of _ (by decide +kernel)) ggX2_at_X2_x
set_option maxRecDepth 20000 in
theorem ggX2_at_X2_y : GoodIn wsX2_at wsX2_y := goodIn_r _ [21, 22, 1, 23, 24, 25, 26, 27, 28, 29, 30, 31, 32, 33, 34, 35] (by decide +kernel) (by decide +kernel)
set_option maxRecDepth 20000 in
theorem gX2_at_X2_y : GoodIn wsX2_at (wsV RX2 57 RX2 yX2_y wsX2_y) := goodIn_app (goodIn_of _ (by decide +kernel)) ggX2_at_X2_y
theorem dX2_at_0 : decode cX2_at 0 = .ok (.iload_n 1, 1) := by decide +kernel
theorem dX2_at_1 : decode cX2_at 1 = .ok (.invokestatic 42, 3) := by decide +kernel
theorem dX2_at_4 : decode cX2_at 4 = .ok (.ifCond .ne 7, 3) := by decide +kernel
theorem dX2_at_7 : decode cX2_at 7 = .ok (.sipush (-1001), 3) := by decide +kernel
theorem dX2_at_10 : decode cX2_at 10 = .ok (.ireturn, 1) := by decide +kernel
theorem dX2_at_11 : decode cX2_at 11 = .ok (.iload_n 2, 1) := by decide +kernel
theorem dX2_at_12 : decode cX2_at 12 = .ok (.iconst (-1), 1) := by decide +kernel
theorem dX2_at_13 : decode cX2_at 13 = .ok (.if_icmp .ne 10, 3) := by decide +kernel
theorem dX2_at_16 : decode cX2_at 16 = .ok (.aload_n 0, 1) := by decide +kernel
theorem dX2_at_17 : decode cX2_at 17 = .ok (.getfield 7, 3) := by decide +kernel
theorem dX2_at_20 : decode cX2_at 20 = .ok (.iload_n 1, 1) := by decide +kernel
theorem dX2_at_21 : decode cX2_at 21 = .ok (.iaload, 1) := by decide +kernel
theorem dX2_at_22 : decode cX2_at 22 = .ok (.ireturn, 1) := by decide +kernel
theorem dX2_at_23 : decode cX2_at 23 = .ok (.aload_n 0, 1) := by decide +kernel
theorem dX2_at_24 : decode cX2_at 24 = .ok (.iload_n 1, 1) := by decide +kernel
theorem dX2_at_25 : decode cX2_at 25 = .ok (.iload_n 2, 1) := by decide +kernel
theorem dX2_at_26 : decode cX2_at 26 = .ok (.invokevirtual 49, 3) := by decide +kernel
theorem dX2_at_29 : decode cX2_at 29 = .ok (.ifCond .ne 7, 3) := by decide +kernel
theorem dX2_at_32 : decode cX2_at 32 = .ok (.sipush (-1001), 3) := by decide +kernel
theorem dX2_at_35 : decode cX2_at 35 = .ok (.ireturn, 1) := by decide +kernel
theorem dX2_at_36 : decode cX2_at 36 = .ok (.iload_n 3, 1) := by decide +kernel
theorem dX2_at_37 : decode cX2_at 37 = .ok (.ifCond .ne 12, 3) := by decide +kernel
theorem dX2_at_40 : decode cX2_at 40 = .ok (.aload_n 0, 1) := by decide +kernel
theorem dX2_at_41 : decode cX2_at 41 = .ok (.iload_n 1, 1) := by decide +kernel
theorem dX2_at_42 : decode cX2_at 42 = .ok (.iload_n 2, 1) := by decide +kernel
theorem dX2_at_43 : decode cX2_at 43 = .ok (.invokevirtual 53, 3) := by decide +kernel
theorem dX2_at_46 : decode cX2_at 46 = .ok (.goto 20, 3) := by decide +kernel
theorem dX2_at_49 : decode cX2_at 49 = .ok (.iload_n 3, 1) := by decide +kernel
theorem dX2_at_50 : decode cX2_at 50 = .ok (.iconst 1, 1) := by decide +kernel
theorem dX2_at_51 : decode cX2_at 51 = .ok (.if_icmp .ne 12, 3) := by decide +kernel
theorem dX2_at_54 : decode cX2_at 54 = .ok (.aload_n 0, 1) := by decide +kernel
theorem dX2_at_55 : decode cX2_at 55 = .ok (.iload_n 1, 1) := by decide +kernel
theorem dX2_at_56 : decode cX2_at 56 = .ok (.iload_n 2, 1) := by decide +kernel
theorem dX2_at_57 : decode cX2_at 57 = .ok (.invokevirtual 57, 3) := by decide +kernel
theorem dX2_at_60 : decode cX2_at 60 = .ok (.goto 6, 3) := by decide +kernel
theorem dX2_at_63 : decode cX2_at 63 = .ok (.sipush (-1002), 3) := by decide +kernel
theorem dX2_at_66 : decode cX2_at 66 = .ok (.ireturn, 1) := by decide +kernel
theorem dX2_lay_0 : decode cX2_lay 0 = .ok (.aload_n 0, 1) := by decide +kernel
theorem dX2_lay_1 : decode cX2_lay 1 = .ok (.getfield 32, 3) := by decide +kernel
theorem dX2_lay_4 : decode cX2_lay 4 = .ok (.aload_n 0, 1) := by decide +kernel
theorem dX2_lay_5 : decode cX2_lay 5 = .ok (.getfield 60, 3) := by decide +kernel
theorem dX2_lay_8 : decode cX2_lay 8 = .ok (.iload_n 1, 1) := by decide +kernel
theorem dX2_lay_9 : decode cX2_lay 9 = .ok (.iastore, 1) := by decide +kernel
theorem dX2_lay_10 : decode cX2_lay 10 = .ok (.aload_n 0, 1) := by decide +kernel
theorem dX2_lay_11 : decode cX2_lay 11 = .ok (.getfield 35, 3) := by decide +kernel
theorem dX2_lay_14 : decode cX2_lay 14 = .ok (.aload_n 0, 1) := by decide +kernel
theorem dX2_lay_15 : decode cX2_lay 15 = .ok (.getfield 60, 3) := by decide +kernel
theorem dX2_lay_18 : decode cX2_lay 18 = .ok (.iload_n 2, 1) := by decide +kernel
theorem dX2_lay_19 : decode cX2_lay 19 = .ok (.iastore, 1) := by decide +kernel
theorem dX2_lay_20 : decode cX2_lay 20 = .ok (.aload_n 0, 1) := by decide +kernel
theorem dX2_lay_21 : decode cX2_lay 21 = .ok (.dup, 1) := by decide +kernel
theorem dX2_lay_22 : decode cX2_lay 22 = .ok (.getfield 60, 3) := by decide +kernel
theorem dX2_lay_25 : decode cX2_lay 25 = .ok (.iconst 1, 1) := by decide +kernel
theorem dX2_lay_26 : decode cX2_lay 26 = .ok (.iadd, 1) := by decide +kernel
theorem dX2_lay_27 : decode cX2_lay 27 = .ok (.putfield 60, 3) := by decide +kernel
theorem dX2_lay_30 : decode cX2_lay 30 = .ok (.return_, 1) := by decide +kernel
theorem dX2_take_0 : decode cX2_take 0 = .ok (.aload_n 0, 1) := by decide +kernel
theorem dX2_take_1 : decode cX2_take 1 = .ok (.getfield 7, 3) := by decide +kernel
theorem dX2_take_4 : decode cX2_take 4 = .ok (.iload_n 1, 1) := by decide +kernel
theorem dX2_take_5 : decode cX2_take 5 = .ok (.aload_n 0, 1) := by decide +kernel
theorem dX2_take_6 : decode cX2_take 6 = .ok (.getfield 60, 3) := by decide +kernel
theorem dX2_take_9 : decode cX2_take 9 = .ok (.iastore, 1) := by decide +kernel
theorem dX2_take_10 : decode cX2_take 10 = .ok (.iconst 0, 1) := by decide +kernel
theorem dX2_take_11 : decode cX2_take 11 = .ok (.istore_n 2, 1) := by decide +kernel
theorem dX2_take_12 : decode cX2_take 12 = .ok (.iload_n 2, 1) := by decide +kernel
theorem dX2_take_13 : decode cX2_take 13 = .ok (.aload_n 0, 1) := by decide +kernel
theorem dX2_take_14 : decode cX2_take 14 = .ok (.getfield 60, 3) := by decide +kernel
theorem dX2_take_17 : decode cX2_take 17 = .ok (.if_icmp .ge 43, 3) := by decide +kernel
theorem dX2_take_20 : decode cX2_take 20 = .ok (.aload_n 0, 1) := by decide +kernel
theorem dX2_take_21 : decode cX2_take 21 = .ok (.getfield 13, 3) := by decide +kernel
theorem dX2_take_24 : decode cX2_take 24 = .ok (.bipush 24, 2) := by decide +kernel
theorem dX2_take_26 : decode cX2_take 26 = .ok (.iload_n 1, 1) := by decide +kernel
theorem dX2_take_27 : decode cX2_take 27 = .ok (.imul, 1) := by decide +kernel
theorem dX2_take_28 : decode cX2_take 28 = .ok (.iload_n 2, 1) := by decide +kernel
theorem dX2_take_29 : decode cX2_take 29 = .ok (.iadd, 1) := by decide +kernel
theorem dX2_take_30 : decode cX2_take 30 = .ok (.aload_n 0, 1) := by decide +kernel
theorem dX2_take_31 : decode cX2_take 31 = .ok (.getfield 32, 3) := by decide +kernel
theorem dX2_take_34 : decode cX2_take 34 = .ok (.iload_n 2, 1) := by decide +kernel
theorem dX2_take_35 : decode cX2_take 35 = .ok (.iaload, 1) := by decide +kernel
theorem dX2_take_36 : decode cX2_take 36 = .ok (.iastore, 1) := by decide +kernel
theorem dX2_take_37 : decode cX2_take 37 = .ok (.aload_n 0, 1) := by decide +kernel
theorem dX2_take_38 : decode cX2_take 38 = .ok (.getfield 16, 3) := by decide +kernel
theorem dX2_take_41 : decode cX2_take 41 = .ok (.bipush 24, 2) := by decide +kernel
theorem dX2_take_43 : decode cX2_take 43 = .ok (.iload_n 1, 1) := by decide +kernel
theorem dX2_take_44 : decode cX2_take 44 = .ok (.imul, 1) := by decide +kernel
theorem dX2_take_45 : decode cX2_take 45 = .ok (.iload_n 2, 1) := by decide +kernel
theorem dX2_take_46 : decode cX2_take 46 = .ok (.iadd, 1) := by decide +kernel
theorem dX2_take_47 : decode cX2_take 47 = .ok (.aload_n 0, 1) := by decide +kernel
theorem dX2_take_48 : decode cX2_take 48 = .ok (.getfield 35, 3) := by decide +kernel
theorem dX2_take_51 : decode cX2_take 51 = .ok (.iload_n 2, 1) := by decide +kernel
theorem dX2_take_52 : decode cX2_take 52 = .ok (.iaload, 1) := by decide +kernel
theorem dX2_take_53 : decode cX2_take 53 = .ok (.iastore, 1) := by decide +kernel
theorem dX2_take_54 : decode cX2_take 54 = .ok (.iinc 2 1, 3) := by decide +kernel
theorem dX2_take_57 : decode cX2_take 57 = .ok (.goto (-45), 3) := by decide +kernel
theorem dX2_take_60 : decode cX2_take 60 = .ok (.aload_n 0, 1) := by decide +kernel
theorem dX2_take_61 : decode cX2_take 61 = .ok (.getfield 60, 3) := by decide +kernel
theorem dX2_take_64 : decode cX2_take 64 = .ok (.ireturn, 1) := by decide +kernel
set_option maxRecDepth 20000 in
theorem ggX2_copy_X2_isFigure : GoodIn wsX2_copy wsX2_isFigure := goodIn_r _ [6, 7, 8, 5, 9] (by decide +kernel) (by decide +kernel)
set_option maxRecDepth 20000 in
theorem gX2_copy_X2_isFigure : GoodIn wsX2_copy (va_wsS RX2 42 yX2_isFigure wsX2_isFigure) := goodIn_app (goodIn_of _ (by decide +kernel)) ggX2_copy_X2_isFigure
set_option maxRecDepth 20000 in
theorem ggX2_copy_X2_x : GoodIn wsX2_copy wsX2_x := goodIn_r _ [13, 14, 2, 30, 31, 32, 33, 34, 35, 36, 37, 38, 39, 40, 41, 42] (by decide +kernel) (by decide +kernel)
set_option maxRecDepth 20000 in
theorem gX2_copy_X2_x : GoodIn wsX2_copy (wsV RX2 53 RX2 yX2_x wsX2_x) := goodIn_app (goodIn_of _ (by decide +kernel)) ggX2_copy_X2_x
set_option maxRecDepth 20000 in
theorem ggX2_copy_X2_y : GoodIn wsX2_copy wsX2_y := goodIn_r _ [18, 19, 2, 30, 31, 32, 33, 34, 35, 36, 37, 38, 39, 40, 41, 42] (by decide +kernel) (by decide +kernel)
set_option maxRecDepth 20000 in
theorem gX2_copy_X2_y : GoodIn wsX2_copy (wsV RX2 57 RX2 yX2_y wsX2_y) := goodIn_app (goodIn_of _ (by decide +kernel)) ggX2_copy_X2_y
set_option maxRecDepth 20000 in
theorem ggX2_copy_X2_lay : GoodIn wsX2_copy wsX2_lay := goodIn_r _ [23, 24, 1, 25, 30, 31, 32, 33, 34, 35, 36, 37, 38, 39, 40, 41, 42] (by decide +kernel) (by decide +kernel)
set_option maxRecDepth 20000 in
theorem gX2_copy_X2_lay : GoodIn wsX2_copy (wsV RX2 63 RX2 yX2_lay wsX2_lay) := goodIn_app (goodIn_of _ (by decide +kernel)) ggX2_copy_X2_lay
set_option maxRecDepth 20000 in
theorem ggX2_copy_X2_take : GoodIn wsX2_copy wsX2_take := goodIn_r _ [29, 2, 1, 14, 24, 19, 25, 30, 31, 32, 33, 34, 35, 36, 37, 38, 39, 40, 41, 42] (by decide +kernel) (by decide +kernel)
set_option maxRecDepth 20000 in
theorem gX2_copy_X2_take : GoodIn wsX2_copy (wsV RX2 67 RX2 yX2_take wsX2_take) := goodIn_app (goodIn_of _ (by decide +kernel)) ggX2_copy_X2_take
theorem dX2_copy_0 : decode cX2_copy 0 = .ok (.iload_n 1, 1) := by decide +kernel
theorem dX2_copy_1 : decode cX2_copy 1 = .ok (.invokestatic 42, 3) := by decide +kernel
theorem dX2_copy_4 : decode cX2_copy 4 = .ok (.ifCond .eq 10, 3) := by decide +kernel
theorem dX2_copy_7 : decode cX2_copy 7 = .ok (.iload_n 2, 1) := by decide +kernel
theorem dX2_copy_8 : decode cX2_copy 8 = .ok (.invokestatic 42, 3) := by decide +kernel
theorem dX2_copy_11 : decode cX2_copy 11 = .ok (.ifCond .ne 5, 3) := by decide +kernel
theorem dX2_copy_14 : decode cX2_copy 14 = .ok (.iconst (-1), 1) := by decide +kernel
theorem dX2_copy_15 : decode cX2_copy 15 = .ok (.ireturn, 1) := by decide +kernel
theorem dX2_copy_16 : decode cX2_copy 16 = .ok (.aload_n 0, 1) := by decide +kernel
theorem dX2_copy_17 : decode cX2_copy 17 = .ok (.iconst 0, 1) := by decide +kernel
theorem dX2_copy_18 : decode cX2_copy 18 = .ok (.putfield 60, 3) := by decide +kernel
theorem dX2_copy_21 : decode cX2_copy 21 = .ok (.iconst 0, 1) := by decide +kernel
theorem dX2_copy_22 : decode cX2_copy 22 = .ok (.istore 4, 2) := by decide +kernel
theorem dX2_copy_24 : decode cX2_copy 24 = .ok (.iload 4, 2) := by decide +kernel
theorem dX2_copy_26 : decode cX2_copy 26 = .ok (.aload_n 0, 1) := by decide +kernel
theorem dX2_copy_27 : decode cX2_copy 27 = .ok (.getfield 7, 3) := by decide +kernel
theorem dX2_copy_30 : decode cX2_copy 30 = .ok (.iload_n 1, 1) := by decide +kernel
theorem dX2_copy_31 : decode cX2_copy 31 = .ok (.iaload, 1) := by decide +kernel
theorem dX2_copy_32 : decode cX2_copy 32 = .ok (.if_icmp .ge 47, 3) := by decide +kernel
theorem dX2_copy_35 : decode cX2_copy 35 = .ok (.iload_n 3, 1) := by decide +kernel
theorem dX2_copy_36 : decode cX2_copy 36 = .ok (.ifCond .eq 15, 3) := by decide +kernel
theorem dX2_copy_39 : decode cX2_copy 39 = .ok (.aload_n 0, 1) := by decide +kernel
theorem dX2_copy_40 : decode cX2_copy 40 = .ok (.getfield 7, 3) := by decide +kernel
theorem dX2_copy_43 : decode cX2_copy 43 = .ok (.iload_n 1, 1) := by decide +kernel
theorem dX2_copy_44 : decode cX2_copy 44 = .ok (.iaload, 1) := by decide +kernel
theorem dX2_copy_45 : decode cX2_copy 45 = .ok (.iload 4, 2) := by decide +kernel
theorem dX2_copy_47 : decode cX2_copy 47 = .ok (.isub, 1) := by decide +kernel
theorem dX2_copy_48 : decode cX2_copy 48 = .ok (.goto 5, 3) := by decide +kernel
theorem dX2_copy_51 : decode cX2_copy 51 = .ok (.iload 4, 2) := by decide +kernel
theorem dX2_copy_53 : decode cX2_copy 53 = .ok (.istore 5, 2) := by decide +kernel
theorem dX2_copy_55 : decode cX2_copy 55 = .ok (.aload_n 0, 1) := by decide +kernel
theorem dX2_copy_56 : decode cX2_copy 56 = .ok (.aload_n 0, 1) := by decide +kernel
theorem dX2_copy_57 : decode cX2_copy 57 = .ok (.iload_n 1, 1) := by decide +kernel
theorem dX2_copy_58 : decode cX2_copy 58 = .ok (.iload 5, 2) := by decide +kernel
theorem dX2_copy_60 : decode cX2_copy 60 = .ok (.invokevirtual 53, 3) := by decide +kernel
theorem dX2_copy_63 : decode cX2_copy 63 = .ok (.aload_n 0, 1) := by decide +kernel
theorem dX2_copy_64 : decode cX2_copy 64 = .ok (.iload_n 1, 1) := by decide +kernel
theorem dX2_copy_65 : decode cX2_copy 65 = .ok (.iload 5, 2) := by decide +kernel
theorem dX2_copy_67 : decode cX2_copy 67 = .ok (.invokevirtual 57, 3) := by decide +kernel
theorem dX2_copy_70 : decode cX2_copy 70 = .ok (.invokevirtual 63, 3) := by decide +kernel
theorem dX2_copy_73 : decode cX2_copy 73 = .ok (.iinc 4 1, 3) := by decide +kernel
theorem dX2_copy_76 : decode cX2_copy 76 = .ok (.goto (-52), 3) := by decide +kernel
theorem dX2_copy_79 : decode cX2_copy 79 = .ok (.aload_n 0, 1) := by decide +kernel
theorem dX2_copy_80 : decode cX2_copy 80 = .ok (.iload_n 2, 1) := by decide +kernel
theorem dX2_copy_81 : decode cX2_copy 81 = .ok (.invokevirtual 67, 3) := by decide +kernel
theorem dX2_copy_84 : decode cX2_copy 84 = .ok (.ireturn, 1) := by decide +kernel
set_option maxRecDepth 20000 in
theorem ggX2_twiceOf_X2_x : GoodIn wsX2_twiceOf wsX2_x := goodIn_r _ [6, 7, 1, 13, 14, 15, 16, 17, 18, 19, 20, 21, 22, 23, 24, 25] (by decide +kernel) (by decide +kernel)
set_option maxRecDepth 20000 in
theorem gX2_twiceOf_X2_x : GoodIn wsX2_twiceOf (wsV RX2 53 RX2 yX2_x wsX2_x) := goodIn_app (goodIn_of _ (by decide +kernel)) ggX2_twiceOf_X2_x
set_option maxRecDepth 20000 in
theorem ggX2_twiceOf_X2_y : GoodIn wsX2_twiceOf wsX2_y := goodIn_r _ [11, 12, 1, 13, 14, 15, 16, 17, 18, 19, 20, 21, 22, 23, 24, 25] (by decide +kernel) (by decide +kernel)
set_option maxRecDepth 20000 in
theorem gX2_twiceOf_X2_y : GoodIn wsX2_twiceOf (wsV RX2 57 RX2 yX2_y wsX2_y) := goodIn_app (goodIn_of _ (by decide +kernel)) ggX2_twiceOf_X2_y
theorem dX2_twiceOf_0 : decode cX2_twiceOf 0 = .ok (.lconst 0, 1) := by decide +kernel
theorem dX2_twiceOf_1 : decode cX2_twiceOf 1 = .ok (.lstore_n 2, 1) := by decide +kernel
theorem dX2_twiceOf_2 : decode cX2_twiceOf 2 = .ok (.iconst 0, 1) := by decide +kernel
theorem dX2_twiceOf_3 : decode cX2_twiceOf 3 = .ok (.istore 4, 2) := by decide +kernel
theorem dX2_twiceOf_5 : decode cX2_twiceOf 5 = .ok (.iload 4, 2) := by decide +kernel
theorem dX2_twiceOf_7 : decode cX2_twiceOf 7 = .ok (.aload_n 0, 1) := by decide +kernel
theorem dX2_twiceOf_8 : decode cX2_twiceOf 8 = .ok (.getfield 7, 3) := by decide +kernel
theorem dX2_twiceOf_11 : decode cX2_twiceOf 11 = .ok (.iload_n 1, 1) := by decide +kernel
theorem dX2_twiceOf_12 : decode cX2_twiceOf 12 = .ok (.iaload, 1) := by decide +kernel
theorem dX2_twiceOf_13 : decode cX2_twiceOf 13 = .ok (.if_icmp .ge 51, 3) := by decide +kernel
theorem dX2_twiceOf_16 : decode cX2_twiceOf 16 = .ok (.lload_n 2, 1) := by decide +kernel
theorem dX2_twiceOf_17 : decode cX2_twiceOf 17 = .ok (.aload_n 0, 1) := by decide +kernel
theorem dX2_twiceOf_18 : decode cX2_twiceOf 18 = .ok (.iload_n 1, 1) := by decide +kernel
theorem dX2_twiceOf_19 : decode cX2_twiceOf 19 = .ok (.iload 4, 2) := by decide +kernel
theorem dX2_twiceOf_21 : decode cX2_twiceOf 21 = .ok (.invokevirtual 53, 3) := by decide +kernel
theorem dX2_twiceOf_24 : decode cX2_twiceOf 24 = .ok (.i2l, 1) := by decide +kernel
theorem dX2_twiceOf_25 : decode cX2_twiceOf 25 = .ok (.aload_n 0, 1) := by decide +kernel
theorem dX2_twiceOf_26 : decode cX2_twiceOf 26 = .ok (.iload_n 1, 1) := by decide +kernel
theorem dX2_twiceOf_27 : decode cX2_twiceOf 27 = .ok (.iload 4, 2) := by decide +kernel
theorem dX2_twiceOf_29 : decode cX2_twiceOf 29 = .ok (.iconst 1, 1) := by decide +kernel
theorem dX2_twiceOf_30 : decode cX2_twiceOf 30 = .ok (.iadd, 1) := by decide +kernel
theorem dX2_twiceOf_31 : decode cX2_twiceOf 31 = .ok (.invokevirtual 57, 3) := by decide +kernel
theorem dX2_twiceOf_34 : decode cX2_twiceOf 34 = .ok (.i2l, 1) := by decide +kernel
theorem dX2_twiceOf_35 : decode cX2_twiceOf 35 = .ok (.lmul, 1) := by decide +kernel
theorem dX2_twiceOf_36 : decode cX2_twiceOf 36 = .ok (.aload_n 0, 1) := by decide +kernel
theorem dX2_twiceOf_37 : decode cX2_twiceOf 37 = .ok (.iload_n 1, 1) := by decide +kernel
theorem dX2_twiceOf_38 : decode cX2_twiceOf 38 = .ok (.iload 4, 2) := by decide +kernel
theorem dX2_twiceOf_40 : decode cX2_twiceOf 40 = .ok (.iconst 1, 1) := by decide +kernel
theorem dX2_twiceOf_41 : decode cX2_twiceOf 41 = .ok (.iadd, 1) := by decide +kernel
theorem dX2_twiceOf_42 : decode cX2_twiceOf 42 = .ok (.invokevirtual 53, 3) := by decide +kernel
theorem dX2_twiceOf_45 : decode cX2_twiceOf 45 = .ok (.i2l, 1) := by decide +kernel
theorem dX2_twiceOf_46 : decode cX2_twiceOf 46 = .ok (.aload_n 0, 1) := by decide +kernel
theorem dX2_twiceOf_47 : decode cX2_twiceOf 47 = .ok (.iload_n 1, 1) := by decide +kernel
theorem dX2_twiceOf_48 : decode cX2_twiceOf 48 = .ok (.iload 4, 2) := by decide +kernel
theorem dX2_twiceOf_50 : decode cX2_twiceOf 50 = .ok (.invokevirtual 57, 3) := by decide +kernel
theorem dX2_twiceOf_53 : decode cX2_twiceOf 53 = .ok (.i2l, 1) := by decide +kernel
theorem dX2_twiceOf_54 : decode cX2_twiceOf 54 = .ok (.lmul, 1) := by decide +kernel
theorem dX2_twiceOf_55 : decode cX2_twiceOf 55 = .ok (.lsub, 1) := by decide +kernel
theorem dX2_twiceOf_56 : decode cX2_twiceOf 56 = .ok (.ladd, 1) := by decide +kernel
theorem dX2_twiceOf_57 : decode cX2_twiceOf 57 = .ok (.lstore_n 2, 1) := by decide +kernel
theorem dX2_twiceOf_58 : decode cX2_twiceOf 58 = .ok (.iinc 4 1, 3) := by decide +kernel
theorem dX2_twiceOf_61 : decode cX2_twiceOf 61 = .ok (.goto (-56), 3) := by decide +kernel
theorem dX2_twiceOf_64 : decode cX2_twiceOf 64 = .ok (.lload_n 2, 1) := by decide +kernel
theorem dX2_twiceOf_65 : decode cX2_twiceOf 65 = .ok (.lreturn, 1) := by decide +kernel
set_option maxRecDepth 20000 in
theorem ggX2_twice_X2_isFigure : GoodIn wsX2_twice wsX2_isFigure := goodIn_r _ [6, 7, 8, 5, 9] (by decide +kernel) (by decide +kernel)
set_option maxRecDepth 20000 in
theorem gX2_twice_X2_isFigure : GoodIn wsX2_twice (va_wsS RX2 42 yX2_isFigure wsX2_isFigure) := goodIn_app (goodIn_of _ (by decide +kernel)) ggX2_twice_X2_isFigure
set_option maxRecDepth 20000 in
theorem ggX2_twice_X2_isClosed : GoodIn wsX2_twice wsX2_isClosed := goodIn_r _ [13, 14, 29, 30, 31, 32, 33, 34, 35, 36, 37, 38, 39, 40, 41] (by decide +kernel) (by decide +kernel)
set_option maxRecDepth 20000 in
theorem gX2_twice_X2_isClosed : GoodIn wsX2_twice (wsV RX2 73 RX2 yX2_isClosed wsX2_isClosed) := goodIn_app (goodIn_of _ (by decide +kernel)) ggX2_twice_X2_isClosed
set_option maxRecDepth 20000 in
theorem ggX2_twice_X2_twiceOf : GoodIn wsX2_twice wsX2_twiceOf := goodIn_r _ [18, 14, 19, 20, 21, 5, 22, 23, 24, 25, 26, 27, 28, 29, 30, 31, 32, 33, 34, 35, 36, 37, 38, 39, 40, 41] (by decide +kernel) (by decide +kernel)
set_option maxRecDepth 20000 in
theorem gX2_twice_X2_twiceOf : GoodIn wsX2_twice (wsV RX2 76 RX2 yX2_twiceOf wsX2_twiceOf) := goodIn_app (goodIn_of _ (by decide +kernel)) ggX2_twice_X2_twiceOf
theorem dX2_twice_0 : decode cX2_twice 0 = .ok (.iload_n 1, 1) := by decide +kernel
theorem dX2_twice_1 : decode cX2_twice 1 = .ok (.invokestatic 42, 3) := by decide +kernel
theorem dX2_twice_4 : decode cX2_twice 4 = .ok (.ifCond .ne 9, 3) := by decide +kernel
theorem dX2_twice_7 : decode cX2_twice 7 = .ok (.ldc2_w 71, 3) := by decide +kernel
theorem dX2_twice_10 : decode cX2_twice 10 = .ok (.goto 22, 3) := by decide +kernel
theorem dX2_twice_13 : decode cX2_twice 13 = .ok (.aload_n 0, 1) := by decide +kernel
theorem dX2_twice_14 : decode cX2_twice 14 = .ok (.iload_n 1, 1) := by decide +kernel
theorem dX2_twice_15 : decode cX2_twice 15 = .ok (.invokevirtual 73, 3) := by decide +kernel
theorem dX2_twice_18 : decode cX2_twice 18 = .ok (.ifCond .eq 11, 3) := by decide +kernel
theorem dX2_twice_21 : decode cX2_twice 21 = .ok (.aload_n 0, 1) := by decide +kernel
theorem dX2_twice_22 : decode cX2_twice 22 = .ok (.iload_n 1, 1) := by decide +kernel
theorem dX2_twice_23 : decode cX2_twice 23 = .ok (.invokevirtual 76, 3) := by decide +kernel
theorem dX2_twice_26 : decode cX2_twice 26 = .ok (.goto 6, 3) := by decide +kernel
theorem dX2_twice_29 : decode cX2_twice 29 = .ok (.ldc2_w 80, 3) := by decide +kernel
theorem dX2_twice_32 : decode cX2_twice 32 = .ok (.lreturn, 1) := by decide +kernel
theorem dX2_side_0 : decode cX2_side 0 = .ok (.iload_n 2, 1) := by decide +kernel
theorem dX2_side_1 : decode cX2_side 1 = .ok (.iload_n 0, 1) := by decide +kernel
theorem dX2_side_2 : decode cX2_side 2 = .ok (.isub, 1) := by decide +kernel
theorem dX2_side_3 : decode cX2_side 3 = .ok (.i2l, 1) := by decide +kernel
theorem dX2_side_4 : decode cX2_side 4 = .ok (.iload 5, 2) := by decide +kernel
theorem dX2_side_6 : decode cX2_side 6 = .ok (.iload_n 1, 1) := by decide +kernel
theorem dX2_side_7 : decode cX2_side 7 = .ok (.isub, 1) := by decide +kernel
theorem dX2_side_8 : decode cX2_side 8 = .ok (.i2l, 1) := by decide +kernel
theorem dX2_side_9 : decode cX2_side 9 = .ok (.lmul, 1) := by decide +kernel
theorem dX2_side_10 : decode cX2_side 10 = .ok (.iload_n 3, 1) := by decide +kernel
theorem dX2_side_11 : decode cX2_side 11 = .ok (.iload_n 1, 1) := by decide +kernel
theorem dX2_side_12 : decode cX2_side 12 = .ok (.isub, 1) := by decide +kernel
theorem dX2_side_13 : decode cX2_side 13 = .ok (.i2l, 1) := by decide +kernel
theorem dX2_side_14 : decode cX2_side 14 = .ok (.iload 4, 2) := by decide +kernel
theorem dX2_side_16 : decode cX2_side 16 = .ok (.iload_n 0, 1) := by decide +kernel
theorem dX2_side_17 : decode cX2_side 17 = .ok (.isub, 1) := by decide +kernel
theorem dX2_side_18 : decode cX2_side 18 = .ok (.i2l, 1) := by decide +kernel
theorem dX2_side_19 : decode cX2_side 19 = .ok (.lmul, 1) := by decide +kernel
theorem dX2_side_20 : decode cX2_side 20 = .ok (.lsub, 1) := by decide +kernel
theorem dX2_side_21 : decode cX2_side 21 = .ok (.lreturn, 1) := by decide +kernel
set_option maxRecDepth 20000 in
theorem ggX2_isOn_X2_x : GoodIn wsX2_isOn wsX2_x := goodIn_r _ [5, 6, 7, 16, 17, 18, 19, 20, 21, 22, 23, 24, 25, 26, 27, 28] (by decide +kernel) (by decide +kernel)
set_option maxRecDepth 20000 in
theorem gX2_isOn_X2_x : GoodIn wsX2_isOn (wsV RX2 53 RX2 yX2_x wsX2_x) := goodIn_app (goodIn_of _ (by decide +kernel)) ggX2_isOn_X2_x
set_option maxRecDepth 20000 in
theorem ggX2_isOn_X2_y : GoodIn wsX2_isOn wsX2_y := goodIn_r _ [11, 12, 7, 16, 17, 18, 19, 20, 21, 22, 23, 24, 25, 26, 27, 28] (by decide +kernel) (by decide +kernel)
set_option maxRecDepth 20000 in
theorem gX2_isOn_X2_y : GoodIn wsX2_isOn (wsV RX2 57 RX2 yX2_y wsX2_y) := goodIn_app (goodIn_of _ (by decide +kernel)) ggX2_isOn_X2_y
set_option maxRecDepth 20000 in
theorem ggX2_isOn_X2_side : GoodIn wsX2_isOn wsX2_side := goodIn_r _ [15] (by decide +kernel) (by decide +kernel)
set_option maxRecDepth 20000 in
theorem gX2_isOn_X2_side : GoodIn wsX2_isOn (va_wsS RX2 82 yX2_side wsX2_side) := goodIn_app (goodIn_of _ (by decide +kernel)) ggX2_isOn_X2_side
theorem dX2_isOn_0 : decode cX2_isOn 0 = .ok (.aload_n 0, 1) := by decide +kernel
theorem dX2_isOn_1 : decode cX2_isOn 1 = .ok (.iload_n 1, 1) := by decide +kernel
theorem dX2_isOn_2 : decode cX2_isOn 2 = .ok (.iload_n 2, 1) := by decide +kernel
theorem dX2_isOn_3 : decode cX2_isOn 3 = .ok (.invokevirtual 53, 3) := by decide +kernel
theorem dX2_isOn_6 : decode cX2_isOn 6 = .ok (.istore 5, 2) := by decide +kernel
theorem dX2_isOn_8 : decode cX2_isOn 8 = .ok (.aload_n 0, 1) := by decide +kernel
theorem dX2_isOn_9 : decode cX2_isOn 9 = .ok (.iload_n 1, 1) := by decide +kernel
theorem dX2_isOn_10 : decode cX2_isOn 10 = .ok (.iload_n 2, 1) := by decide +kernel
theorem dX2_isOn_11 : decode cX2_isOn 11 = .ok (.invokevirtual 57, 3) := by decide +kernel
theorem dX2_isOn_14 : decode cX2_isOn 14 = .ok (.istore 6, 2) := by decide +kernel
theorem dX2_isOn_16 : decode cX2_isOn 16 = .ok (.aload_n 0, 1) := by decide +kernel
theorem dX2_isOn_17 : decode cX2_isOn 17 = .ok (.iload_n 1, 1) := by decide +kernel
theorem dX2_isOn_18 : decode cX2_isOn 18 = .ok (.iload_n 2, 1) := by decide +kernel
theorem dX2_isOn_19 : decode cX2_isOn 19 = .ok (.iconst 1, 1) := by decide +kernel
theorem dX2_isOn_20 : decode cX2_isOn 20 = .ok (.iadd, 1) := by decide +kernel
theorem dX2_isOn_21 : decode cX2_isOn 21 = .ok (.invokevirtual 53, 3) := by decide +kernel
theorem dX2_isOn_24 : decode cX2_isOn 24 = .ok (.istore 7, 2) := by decide +kernel
theorem dX2_isOn_26 : decode cX2_isOn 26 = .ok (.aload_n 0, 1) := by decide +kernel
theorem dX2_isOn_27 : decode cX2_isOn 27 = .ok (.iload_n 1, 1) := by decide +kernel
theorem dX2_isOn_28 : decode cX2_isOn 28 = .ok (.iload_n 2, 1) := by decide +kernel
theorem dX2_isOn_29 : decode cX2_isOn 29 = .ok (.iconst 1, 1) := by decide +kernel
theorem dX2_isOn_30 : decode cX2_isOn 30 = .ok (.iadd, 1) := by decide +kernel
theorem dX2_isOn_31 : decode cX2_isOn 31 = .ok (.invokevirtual 57, 3) := by decide +kernel
theorem dX2_isOn_34 : decode cX2_isOn 34 = .ok (.istore 8, 2) := by decide +kernel
theorem dX2_isOn_36 : decode cX2_isOn 36 = .ok (.iload_n 3, 1) := by decide +kernel
theorem dX2_isOn_37 : decode cX2_isOn 37 = .ok (.iload 5, 2) := by decide +kernel
theorem dX2_isOn_39 : decode cX2_isOn 39 = .ok (.iload 7, 2) := by decide +kernel
theorem dX2_isOn_41 : decode cX2_isOn 41 = .ok (.if_icmp .ge 8, 3) := by decide +kernel
theorem dX2_isOn_44 : decode cX2_isOn 44 = .ok (.iload 5, 2) := by decide +kernel
theorem dX2_isOn_46 : decode cX2_isOn 46 = .ok (.goto 5, 3) := by decide +kernel
theorem dX2_isOn_49 : decode cX2_isOn 49 = .ok (.iload 7, 2) := by decide +kernel
theorem dX2_isOn_51 : decode cX2_isOn 51 = .ok (.if_icmp .lt 25, 3) := by decide +kernel
theorem dX2_isOn_54 : decode cX2_isOn 54 = .ok (.iload_n 3, 1) := by decide +kernel
theorem dX2_isOn_55 : decode cX2_isOn 55 = .ok (.iload 5, 2) := by decide +kernel
theorem dX2_isOn_57 : decode cX2_isOn 57 = .ok (.iload 7, 2) := by decide +kernel
theorem dX2_isOn_59 : decode cX2_isOn 59 = .ok (.if_icmp .le 8, 3) := by decide +kernel
theorem dX2_isOn_62 : decode cX2_isOn 62 = .ok (.iload 5, 2) := by decide +kernel
theorem dX2_isOn_64 : decode cX2_isOn 64 = .ok (.goto 5, 3) := by decide +kernel
theorem dX2_isOn_67 : decode cX2_isOn 67 = .ok (.iload 7, 2) := by decide +kernel
theorem dX2_isOn_69 : decode cX2_isOn 69 = .ok (.if_icmp .gt 7, 3) := by decide +kernel
theorem dX2_isOn_72 : decode cX2_isOn 72 = .ok (.iconst 1, 1) := by decide +kernel
theorem dX2_isOn_73 : decode cX2_isOn 73 = .ok (.goto 4, 3) := by decide +kernel
theorem dX2_isOn_76 : decode cX2_isOn 76 = .ok (.iconst 0, 1) := by decide +kernel
theorem dX2_isOn_77 : decode cX2_isOn 77 = .ok (.istore 9, 2) := by decide +kernel
theorem dX2_isOn_79 : decode cX2_isOn 79 = .ok (.iload 9, 2) := by decide +kernel
theorem dX2_isOn_81 : decode cX2_isOn 81 = .ok (.ifCond .eq 45, 3) := by decide +kernel
theorem dX2_isOn_84 : decode cX2_isOn 84 = .ok (.iload 4, 2) := by decide +kernel
theorem dX2_isOn_86 : decode cX2_isOn 86 = .ok (.iload 6, 2) := by decide +kernel
theorem dX2_isOn_88 : decode cX2_isOn 88 = .ok (.iload 8, 2) := by decide +kernel
theorem dX2_isOn_90 : decode cX2_isOn 90 = .ok (.if_icmp .ge 8, 3) := by decide +kernel
theorem dX2_isOn_93 : decode cX2_isOn 93 = .ok (.iload 6, 2) := by decide +kernel
theorem dX2_isOn_95 : decode cX2_isOn 95 = .ok (.goto 5, 3) := by decide +kernel
theorem dX2_isOn_98 : decode cX2_isOn 98 = .ok (.iload 8, 2) := by decide +kernel
theorem dX2_isOn_100 : decode cX2_isOn 100 = .ok (.if_icmp .lt 26, 3) := by decide +kernel
theorem dX2_isOn_103 : decode cX2_isOn 103 = .ok (.iload 4, 2) := by decide +kernel
theorem dX2_isOn_105 : decode cX2_isOn 105 = .ok (.iload 6, 2) := by decide +kernel
theorem dX2_isOn_107 : decode cX2_isOn 107 = .ok (.iload 8, 2) := by decide +kernel
theorem dX2_isOn_109 : decode cX2_isOn 109 = .ok (.if_icmp .le 8, 3) := by decide +kernel
theorem dX2_isOn_112 : decode cX2_isOn 112 = .ok (.iload 6, 2) := by decide +kernel
theorem dX2_isOn_114 : decode cX2_isOn 114 = .ok (.goto 5, 3) := by decide +kernel
theorem dX2_isOn_117 : decode cX2_isOn 117 = .ok (.iload 8, 2) := by decide +kernel
theorem dX2_isOn_119 : decode cX2_isOn 119 = .ok (.if_icmp .gt 7, 3) := by decide +kernel
theorem dX2_isOn_122 : decode cX2_isOn 122 = .ok (.iconst 1, 1) := by decide +kernel
theorem dX2_isOn_123 : decode cX2_isOn 123 = .ok (.goto 4, 3) := by decide +kernel
theorem dX2_isOn_126 : decode cX2_isOn 126 = .ok (.iconst 0, 1) := by decide +kernel
theorem dX2_isOn_127 : decode cX2_isOn 127 = .ok (.istore 9, 2) := by decide +kernel
theorem dX2_isOn_129 : decode cX2_isOn 129 = .ok (.iload 9, 2) := by decide +kernel
theorem dX2_isOn_131 : decode cX2_isOn 131 = .ok (.ifCond .eq 26, 3) := by decide +kernel
theorem dX2_isOn_134 : decode cX2_isOn 134 = .ok (.iload 5, 2) := by decide +kernel
theorem dX2_isOn_136 : decode cX2_isOn 136 = .ok (.iload 6, 2) := by decide +kernel
theorem dX2_isOn_138 : decode cX2_isOn 138 = .ok (.iload 7, 2) := by decide +kernel
theorem dX2_isOn_140 : decode cX2_isOn 140 = .ok (.iload 8, 2) := by decide +kernel
theorem dX2_isOn_142 : decode cX2_isOn 142 = .ok (.iload_n 3, 1) := by decide +kernel
theorem dX2_isOn_143 : decode cX2_isOn 143 = .ok (.iload 4, 2) := by decide +kernel
theorem dX2_isOn_145 : decode cX2_isOn 145 = .ok (.invokestatic 82, 3) := by decide +kernel
theorem dX2_isOn_148 : decode cX2_isOn 148 = .ok (.lconst 0, 1) := by decide +kernel
theorem dX2_isOn_149 : decode cX2_isOn 149 = .ok (.lcmp, 1) := by decide +kernel
theorem dX2_isOn_150 : decode cX2_isOn 150 = .ok (.ifCond .ne 7, 3) := by decide +kernel
theorem dX2_isOn_153 : decode cX2_isOn 153 = .ok (.iconst 1, 1) := by decide +kernel
theorem dX2_isOn_154 : decode cX2_isOn 154 = .ok (.goto 4, 3) := by decide +kernel
theorem dX2_isOn_157 : decode cX2_isOn 157 = .ok (.iconst 0, 1) := by decide +kernel
theorem dX2_isOn_158 : decode cX2_isOn 158 = .ok (.ireturn, 1) := by decide +kernel
theorem dX2_sign_0 : decode cX2_sign 0 = .ok (.lload_n 0, 1) := by decide +kernel
theorem dX2_sign_1 : decode cX2_sign 1 = .ok (.lconst 0, 1) := by decide +kernel
theorem dX2_sign_2 : decode cX2_sign 2 = .ok (.lcmp, 1) := by decide +kernel
theorem dX2_sign_3 : decode cX2_sign 3 = .ok (.ifCond .ge 7, 3) := by decide +kernel
theorem dX2_sign_6 : decode cX2_sign 6 = .ok (.iconst (-1), 1) := by decide +kernel
theorem dX2_sign_7 : decode cX2_sign 7 = .ok (.goto 14, 3) := by decide +kernel
theorem dX2_sign_10 : decode cX2_sign 10 = .ok (.lload_n 0, 1) := by decide +kernel
theorem dX2_sign_11 : decode cX2_sign 11 = .ok (.lconst 0, 1) := by decide +kernel
theorem dX2_sign_12 : decode cX2_sign 12 = .ok (.lcmp, 1) := by decide +kernel
theorem dX2_sign_13 : decode cX2_sign 13 = .ok (.ifCond .le 7, 3) := by decide +kernel
theorem dX2_sign_16 : decode cX2_sign 16 = .ok (.iconst 1, 1) := by decide +kernel
theorem dX2_sign_17 : decode cX2_sign 17 = .ok (.goto 4, 3) := by decide +kernel
theorem dX2_sign_20 : decode cX2_sign 20 = .ok (.iconst 0, 1) := by decide +kernel
theorem dX2_sign_21 : decode cX2_sign 21 = .ok (.ireturn, 1) := by decide +kernel
set_option maxRecDepth 20000 in
theorem ggX2_meet_X2_x : GoodIn wsX2_meet wsX2_x := goodIn_r _ [5, 6, 7, 23, 24, 25, 26, 27, 28, 29, 30, 31, 32, 33, 34, 35] (by decide +kernel) (by decide +kernel)
set_option maxRecDepth 20000 in
theorem gX2_meet_X2_x : GoodIn wsX2_meet (wsV RX2 53 RX2 yX2_x wsX2_x) := goodIn_app (goodIn_of _ (by decide +kernel)) ggX2_meet_X2_x
set_option maxRecDepth 20000 in
theorem ggX2_meet_X2_y : GoodIn wsX2_meet wsX2_y := goodIn_r _ [11, 12, 7, 23, 24, 25, 26, 27, 28, 29, 30, 31, 32, 33, 34, 35] (by decide +kernel) (by decide +kernel)
set_option maxRecDepth 20000 in
theorem gX2_meet_X2_y : GoodIn wsX2_meet (wsV RX2 57 RX2 yX2_y wsX2_y) := goodIn_app (goodIn_of _ (by decide +kernel)) ggX2_meet_X2_y
set_option maxRecDepth 20000 in
theorem ggX2_meet_X2_isOn : GoodIn wsX2_meet wsX2_isOn := goodIn_r _ [16, 1, 2, 3, 4, 5, 6, 7, 8, 9, 10, 11, 12, 17, 18, 19, 23, 24, 25, 26, 27, 28, 29, 30, 31, 32, 33, 34, 35] (by decide +kernel) (by decide +kernel)
set_option maxRecDepth 20000 in
theorem gX2_meet_X2_isOn : GoodIn wsX2_meet (wsV RX2 86 RX2 yX2_isOn wsX2_isOn) := goodIn_app (goodIn_of _ (by decide +kernel)) ggX2_meet_X2_isOn
set_option maxRecDepth 20000 in
theorem ggX2_meet_X2_side : GoodIn wsX2_meet wsX2_side := goodIn_r _ [19] (by decide +kernel) (by decide +kernel)
set_option maxRecDepth 20000 in
theorem gX2_meet_X2_side : GoodIn wsX2_meet (va_wsS RX2 82 yX2_side wsX2_side) := goodIn_app (goodIn_of _ (by decide +kernel)) ggX2_meet_X2_side
set_option maxRecDepth 20000 in
theorem ggX2_meet_X2_sign : GoodIn wsX2_meet wsX2_sign := goodIn_r _ [22] (by decide +kernel) (by decide +kernel)
set_option maxRecDepth 20000 in
theorem gX2_meet_X2_sign : GoodIn wsX2_meet (va_wsS RX2 90 yX2_sign wsX2_sign) := goodIn_app (goodIn_of _ (by decide +kernel)) ggX2_meet_X2_sign
theorem dX2_meet_0 : decode cX2_meet 0 = .ok (.aload_n 0, 1) := by decide +kernel
theorem dX2_meet_1 : decode cX2_meet 1 = .ok (.iload_n 1, 1) := by decide +kernel
theorem dX2_meet_2 : decode cX2_meet 2 = .ok (.iload_n 2, 1) := by decide +kernel
theorem dX2_meet_3 : decode cX2_meet 3 = .ok (.aload_n 0, 1) := by decide +kernel
theorem dX2_meet_4 : decode cX2_meet 4 = .ok (.iload_n 1, 1) := by decide +kernel
theorem dX2_meet_5 : decode cX2_meet 5 = .ok (.iload_n 3, 1) := by decide +kernel
theorem dX2_meet_6 : decode cX2_meet 6 = .ok (.invokevirtual 53, 3) := by decide +kernel
theorem dX2_meet_9 : decode cX2_meet 9 = .ok (.aload_n 0, 1) := by decide +kernel
theorem dX2_meet_10 : decode cX2_meet 10 = .ok (.iload_n 1, 1) := by decide +kernel
theorem dX2_meet_11 : decode cX2_meet 11 = .ok (.iload_n 3, 1) := by decide +kernel
theorem dX2_meet_12 : decode cX2_meet 12 = .ok (.invokevirtual 57, 3) := by decide +kernel
theorem dX2_meet_15 : decode cX2_meet 15 = .ok (.invokevirtual 86, 3) := by decide +kernel
theorem dX2_meet_18 : decode cX2_meet 18 = .ok (.ifCond .ne 74, 3) := by decide +kernel
theorem dX2_meet_21 : decode cX2_meet 21 = .ok (.aload_n 0, 1) := by decide +kernel
theorem dX2_meet_22 : decode cX2_meet 22 = .ok (.iload_n 1, 1) := by decide +kernel
theorem dX2_meet_23 : decode cX2_meet 23 = .ok (.iload_n 2, 1) := by decide +kernel
theorem dX2_meet_24 : decode cX2_meet 24 = .ok (.aload_n 0, 1) := by decide +kernel
theorem dX2_meet_25 : decode cX2_meet 25 = .ok (.iload_n 1, 1) := by decide +kernel
theorem dX2_meet_26 : decode cX2_meet 26 = .ok (.iload_n 3, 1) := by decide +kernel
theorem dX2_meet_27 : decode cX2_meet 27 = .ok (.iconst 1, 1) := by decide +kernel
theorem dX2_meet_28 : decode cX2_meet 28 = .ok (.iadd, 1) := by decide +kernel
theorem dX2_meet_29 : decode cX2_meet 29 = .ok (.invokevirtual 53, 3) := by decide +kernel
theorem dX2_meet_32 : decode cX2_meet 32 = .ok (.aload_n 0, 1) := by decide +kernel
theorem dX2_meet_33 : decode cX2_meet 33 = .ok (.iload_n 1, 1) := by decide +kernel
theorem dX2_meet_34 : decode cX2_meet 34 = .ok (.iload_n 3, 1) := by decide +kernel
theorem dX2_meet_35 : decode cX2_meet 35 = .ok (.iconst 1, 1) := by decide +kernel
theorem dX2_meet_36 : decode cX2_meet 36 = .ok (.iadd, 1) := by decide +kernel
theorem dX2_meet_37 : decode cX2_meet 37 = .ok (.invokevirtual 57, 3) := by decide +kernel
theorem dX2_meet_40 : decode cX2_meet 40 = .ok (.invokevirtual 86, 3) := by decide +kernel
theorem dX2_meet_43 : decode cX2_meet 43 = .ok (.ifCond .ne 49, 3) := by decide +kernel
theorem dX2_meet_46 : decode cX2_meet 46 = .ok (.aload_n 0, 1) := by decide +kernel
theorem dX2_meet_47 : decode cX2_meet 47 = .ok (.iload_n 1, 1) := by decide +kernel
theorem dX2_meet_48 : decode cX2_meet 48 = .ok (.iload_n 3, 1) := by decide +kernel
theorem dX2_meet_49 : decode cX2_meet 49 = .ok (.aload_n 0, 1) := by decide +kernel
theorem dX2_meet_50 : decode cX2_meet 50 = .ok (.iload_n 1, 1) := by decide +kernel
theorem dX2_meet_51 : decode cX2_meet 51 = .ok (.iload_n 2, 1) := by decide +kernel
theorem dX2_meet_52 : decode cX2_meet 52 = .ok (.invokevirtual 53, 3) := by decide +kernel
theorem dX2_meet_55 : decode cX2_meet 55 = .ok (.aload_n 0, 1) := by decide +kernel
theorem dX2_meet_56 : decode cX2_meet 56 = .ok (.iload_n 1, 1) := by decide +kernel
theorem dX2_meet_57 : decode cX2_meet 57 = .ok (.iload_n 2, 1) := by decide +kernel
theorem dX2_meet_58 : decode cX2_meet 58 = .ok (.invokevirtual 57, 3) := by decide +kernel
theorem dX2_meet_61 : decode cX2_meet 61 = .ok (.invokevirtual 86, 3) := by decide +kernel
theorem dX2_meet_64 : decode cX2_meet 64 = .ok (.ifCond .ne 28, 3) := by decide +kernel
theorem dX2_meet_67 : decode cX2_meet 67 = .ok (.aload_n 0, 1) := by decide +kernel
theorem dX2_meet_68 : decode cX2_meet 68 = .ok (.iload_n 1, 1) := by decide +kernel
theorem dX2_meet_69 : decode cX2_meet 69 = .ok (.iload_n 3, 1) := by decide +kernel
theorem dX2_meet_70 : decode cX2_meet 70 = .ok (.aload_n 0, 1) := by decide +kernel
theorem dX2_meet_71 : decode cX2_meet 71 = .ok (.iload_n 1, 1) := by decide +kernel
theorem dX2_meet_72 : decode cX2_meet 72 = .ok (.iload_n 2, 1) := by decide +kernel
theorem dX2_meet_73 : decode cX2_meet 73 = .ok (.iconst 1, 1) := by decide +kernel
theorem dX2_meet_74 : decode cX2_meet 74 = .ok (.iadd, 1) := by decide +kernel
theorem dX2_meet_75 : decode cX2_meet 75 = .ok (.invokevirtual 53, 3) := by decide +kernel
theorem dX2_meet_78 : decode cX2_meet 78 = .ok (.aload_n 0, 1) := by decide +kernel
theorem dX2_meet_79 : decode cX2_meet 79 = .ok (.iload_n 1, 1) := by decide +kernel
theorem dX2_meet_80 : decode cX2_meet 80 = .ok (.iload_n 2, 1) := by decide +kernel
theorem dX2_meet_81 : decode cX2_meet 81 = .ok (.iconst 1, 1) := by decide +kernel
theorem dX2_meet_82 : decode cX2_meet 82 = .ok (.iadd, 1) := by decide +kernel
theorem dX2_meet_83 : decode cX2_meet 83 = .ok (.invokevirtual 57, 3) := by decide +kernel
theorem dX2_meet_86 : decode cX2_meet 86 = .ok (.invokevirtual 86, 3) := by decide +kernel
theorem dX2_meet_89 : decode cX2_meet 89 = .ok (.ifCond .eq 5, 3) := by decide +kernel
theorem dX2_meet_92 : decode cX2_meet 92 = .ok (.iconst 1, 1) := by decide +kernel
theorem dX2_meet_93 : decode cX2_meet 93 = .ok (.ireturn, 1) := by decide +kernel
theorem dX2_meet_94 : decode cX2_meet 94 = .ok (.aload_n 0, 1) := by decide +kernel
theorem dX2_meet_95 : decode cX2_meet 95 = .ok (.iload_n 1, 1) := by decide +kernel
theorem dX2_meet_96 : decode cX2_meet 96 = .ok (.iload_n 2, 1) := by decide +kernel
theorem dX2_meet_97 : decode cX2_meet 97 = .ok (.invokevirtual 53, 3) := by decide +kernel
theorem dX2_meet_100 : decode cX2_meet 100 = .ok (.aload_n 0, 1) := by decide +kernel
theorem dX2_meet_101 : decode cX2_meet 101 = .ok (.iload_n 1, 1) := by decide +kernel
theorem dX2_meet_102 : decode cX2_meet 102 = .ok (.iload_n 2, 1) := by decide +kernel
theorem dX2_meet_103 : decode cX2_meet 103 = .ok (.invokevirtual 57, 3) := by decide +kernel
theorem dX2_meet_106 : decode cX2_meet 106 = .ok (.aload_n 0, 1) := by decide +kernel
theorem dX2_meet_107 : decode cX2_meet 107 = .ok (.iload_n 1, 1) := by decide +kernel
theorem dX2_meet_108 : decode cX2_meet 108 = .ok (.iload_n 2, 1) := by decide +kernel
theorem dX2_meet_109 : decode cX2_meet 109 = .ok (.iconst 1, 1) := by decide +kernel
theorem dX2_meet_110 : decode cX2_meet 110 = .ok (.iadd, 1) := by decide +kernel
theorem dX2_meet_111 : decode cX2_meet 111 = .ok (.invokevirtual 53, 3) := by decide +kernel
theorem dX2_meet_114 : decode cX2_meet 114 = .ok (.aload_n 0, 1) := by decide +kernel
theorem dX2_meet_115 : decode cX2_meet 115 = .ok (.iload_n 1, 1) := by decide +kernel
theorem dX2_meet_116 : decode cX2_meet 116 = .ok (.iload_n 2, 1) := by decide +kernel
theorem dX2_meet_117 : decode cX2_meet 117 = .ok (.iconst 1, 1) := by decide +kernel
theorem dX2_meet_118 : decode cX2_meet 118 = .ok (.iadd, 1) := by decide +kernel
theorem dX2_meet_119 : decode cX2_meet 119 = .ok (.invokevirtual 57, 3) := by decide +kernel
theorem dX2_meet_122 : decode cX2_meet 122 = .ok (.aload_n 0, 1) := by decide +kernel
theorem dX2_meet_123 : decode cX2_meet 123 = .ok (.iload_n 1, 1) := by decide +kernel
theorem dX2_meet_124 : decode cX2_meet 124 = .ok (.iload_n 3, 1) := by decide +kernel
theorem dX2_meet_125 : decode cX2_meet 125 = .ok (.invokevirtual 53, 3) := by decide +kernel
theorem dX2_meet_128 : decode cX2_meet 128 = .ok (.aload_n 0, 1) := by decide +kernel
theorem dX2_meet_129 : decode cX2_meet 129 = .ok (.iload_n 1, 1) := by decide +kernel
theorem dX2_meet_130 : decode cX2_meet 130 = .ok (.iload_n 3, 1) := by decide +kernel
theorem dX2_meet_131 : decode cX2_meet 131 = .ok (.invokevirtual 57, 3) := by decide +kernel
theorem dX2_meet_134 : decode cX2_meet 134 = .ok (.invokestatic 82, 3) := by decide +kernel
theorem dX2_meet_137 : decode cX2_meet 137 = .ok (.invokestatic 90, 3) := by decide +kernel
theorem dX2_meet_140 : decode cX2_meet 140 = .ok (.istore 4, 2) := by decide +kernel
theorem dX2_meet_142 : decode cX2_meet 142 = .ok (.aload_n 0, 1) := by decide +kernel
theorem dX2_meet_143 : decode cX2_meet 143 = .ok (.iload_n 1, 1) := by decide +kernel
theorem dX2_meet_144 : decode cX2_meet 144 = .ok (.iload_n 2, 1) := by decide +kernel
theorem dX2_meet_145 : decode cX2_meet 145 = .ok (.invokevirtual 53, 3) := by decide +kernel
theorem dX2_meet_148 : decode cX2_meet 148 = .ok (.aload_n 0, 1) := by decide +kernel
theorem dX2_meet_149 : decode cX2_meet 149 = .ok (.iload_n 1, 1) := by decide +kernel
theorem dX2_meet_150 : decode cX2_meet 150 = .ok (.iload_n 2, 1) := by decide +kernel
theorem dX2_meet_151 : decode cX2_meet 151 = .ok (.invokevirtual 57, 3) := by decide +kernel
theorem dX2_meet_154 : decode cX2_meet 154 = .ok (.aload_n 0, 1) := by decide +kernel
theorem dX2_meet_155 : decode cX2_meet 155 = .ok (.iload_n 1, 1) := by decide +kernel
theorem dX2_meet_156 : decode cX2_meet 156 = .ok (.iload_n 2, 1) := by decide +kernel
theorem dX2_meet_157 : decode cX2_meet 157 = .ok (.iconst 1, 1) := by decide +kernel
theorem dX2_meet_158 : decode cX2_meet 158 = .ok (.iadd, 1) := by decide +kernel
theorem dX2_meet_159 : decode cX2_meet 159 = .ok (.invokevirtual 53, 3) := by decide +kernel
theorem dX2_meet_162 : decode cX2_meet 162 = .ok (.aload_n 0, 1) := by decide +kernel
theorem dX2_meet_163 : decode cX2_meet 163 = .ok (.iload_n 1, 1) := by decide +kernel
theorem dX2_meet_164 : decode cX2_meet 164 = .ok (.iload_n 2, 1) := by decide +kernel
theorem dX2_meet_165 : decode cX2_meet 165 = .ok (.iconst 1, 1) := by decide +kernel
theorem dX2_meet_166 : decode cX2_meet 166 = .ok (.iadd, 1) := by decide +kernel
theorem dX2_meet_167 : decode cX2_meet 167 = .ok (.invokevirtual 57, 3) := by decide +kernel
theorem dX2_meet_170 : decode cX2_meet 170 = .ok (.aload_n 0, 1) := by decide +kernel
theorem dX2_meet_171 : decode cX2_meet 171 = .ok (.iload_n 1, 1) := by decide +kernel
theorem dX2_meet_172 : decode cX2_meet 172 = .ok (.iload_n 3, 1) := by decide +kernel
theorem dX2_meet_173 : decode cX2_meet 173 = .ok (.iconst 1, 1) := by decide +kernel
theorem dX2_meet_174 : decode cX2_meet 174 = .ok (.iadd, 1) := by decide +kernel
theorem dX2_meet_175 : decode cX2_meet 175 = .ok (.invokevirtual 53, 3) := by decide +kernel
theorem dX2_meet_178 : decode cX2_meet 178 = .ok (.aload_n 0, 1) := by decide +kernel
theorem dX2_meet_179 : decode cX2_meet 179 = .ok (.iload_n 1, 1) := by decide +kernel
theorem dX2_meet_180 : decode cX2_meet 180 = .ok (.iload_n 3, 1) := by decide +kernel
theorem dX2_meet_181 : decode cX2_meet 181 = .ok (.iconst 1, 1) := by decide +kernel
theorem dX2_meet_182 : decode cX2_meet 182 = .ok (.iadd, 1) := by decide +kernel
theorem dX2_meet_183 : decode cX2_meet 183 = .ok (.invokevirtual 57, 3) := by decide +kernel
theorem dX2_meet_186 : decode cX2_meet 186 = .ok (.invokestatic 82, 3) := by decide +kernel
theorem dX2_meet_189 : decode cX2_meet 189 = .ok (.invokestatic 90, 3) := by decide +kernel
theorem dX2_meet_192 : decode cX2_meet 192 = .ok (.istore 5, 2) := by decide +kernel
theorem dX2_meet_194 : decode cX2_meet 194 = .ok (.aload_n 0, 1) := by decide +kernel
theorem dX2_meet_195 : decode cX2_meet 195 = .ok (.iload_n 1, 1) := by decide +kernel
theorem dX2_meet_196 : decode cX2_meet 196 = .ok (.iload_n 3, 1) := by decide +kernel
theorem dX2_meet_197 : decode cX2_meet 197 = .ok (.invokevirtual 53, 3) := by decide +kernel
theorem dX2_meet_200 : decode cX2_meet 200 = .ok (.aload_n 0, 1) := by decide +kernel
theorem dX2_meet_201 : decode cX2_meet 201 = .ok (.iload_n 1, 1) := by decide +kernel
theorem dX2_meet_202 : decode cX2_meet 202 = .ok (.iload_n 3, 1) := by decide +kernel
theorem dX2_meet_203 : decode cX2_meet 203 = .ok (.invokevirtual 57, 3) := by decide +kernel
theorem dX2_meet_206 : decode cX2_meet 206 = .ok (.aload_n 0, 1) := by decide +kernel
theorem dX2_meet_207 : decode cX2_meet 207 = .ok (.iload_n 1, 1) := by decide +kernel
theorem dX2_meet_208 : decode cX2_meet 208 = .ok (.iload_n 3, 1) := by decide +kernel
theorem dX2_meet_209 : decode cX2_meet 209 = .ok (.iconst 1, 1) := by decide +kernel
theorem dX2_meet_210 : decode cX2_meet 210 = .ok (.iadd, 1) := by decide +kernel
theorem dX2_meet_211 : decode cX2_meet 211 = .ok (.invokevirtual 53, 3) := by decide +kernel
theorem dX2_meet_214 : decode cX2_meet 214 = .ok (.aload_n 0, 1) := by decide +kernel
theorem dX2_meet_215 : decode cX2_meet 215 = .ok (.iload_n 1, 1) := by decide +kernel
theorem dX2_meet_216 : decode cX2_meet 216 = .ok (.iload_n 3, 1) := by decide +kernel
theorem dX2_meet_217 : decode cX2_meet 217 = .ok (.iconst 1, 1) := by decide +kernel
theorem dX2_meet_218 : decode cX2_meet 218 = .ok (.iadd, 1) := by decide +kernel
theorem dX2_meet_219 : decode cX2_meet 219 = .ok (.invokevirtual 57, 3) := by decide +kernel
theorem dX2_meet_222 : decode cX2_meet 222 = .ok (.aload_n 0, 1) := by decide +kernel
theorem dX2_meet_223 : decode cX2_meet 223 = .ok (.iload_n 1, 1) := by decide +kernel
theorem dX2_meet_224 : decode cX2_meet 224 = .ok (.iload_n 2, 1) := by decide +kernel
theorem dX2_meet_225 : decode cX2_meet 225 = .ok (.invokevirtual 53, 3) := by decide +kernel
theorem dX2_meet_228 : decode cX2_meet 228 = .ok (.aload_n 0, 1) := by decide +kernel
theorem dX2_meet_229 : decode cX2_meet 229 = .ok (.iload_n 1, 1) := by decide +kernel
theorem dX2_meet_230 : decode cX2_meet 230 = .ok (.iload_n 2, 1) := by decide +kernel
theorem dX2_meet_231 : decode cX2_meet 231 = .ok (.invokevirtual 57, 3) := by decide +kernel
theorem dX2_meet_234 : decode cX2_meet 234 = .ok (.invokestatic 82, 3) := by decide +kernel
theorem dX2_meet_237 : decode cX2_meet 237 = .ok (.invokestatic 90, 3) := by decide +kernel
theorem dX2_meet_240 : decode cX2_meet 240 = .ok (.istore 6, 2) := by decide +kernel
theorem dX2_meet_242 : decode cX2_meet 242 = .ok (.aload_n 0, 1) := by decide +kernel
theorem dX2_meet_243 : decode cX2_meet 243 = .ok (.iload_n 1, 1) := by decide +kernel
theorem dX2_meet_244 : decode cX2_meet 244 = .ok (.iload_n 3, 1) := by decide +kernel
theorem dX2_meet_245 : decode cX2_meet 245 = .ok (.invokevirtual 53, 3) := by decide +kernel
theorem dX2_meet_248 : decode cX2_meet 248 = .ok (.aload_n 0, 1) := by decide +kernel
theorem dX2_meet_249 : decode cX2_meet 249 = .ok (.iload_n 1, 1) := by decide +kernel
theorem dX2_meet_250 : decode cX2_meet 250 = .ok (.iload_n 3, 1) := by decide +kernel
theorem dX2_meet_251 : decode cX2_meet 251 = .ok (.invokevirtual 57, 3) := by decide +kernel
theorem dX2_meet_254 : decode cX2_meet 254 = .ok (.aload_n 0, 1) := by decide +kernel
theorem dX2_meet_255 : decode cX2_meet 255 = .ok (.iload_n 1, 1) := by decide +kernel
theorem dX2_meet_256 : decode cX2_meet 256 = .ok (.iload_n 3, 1) := by decide +kernel
theorem dX2_meet_257 : decode cX2_meet 257 = .ok (.iconst 1, 1) := by decide +kernel
theorem dX2_meet_258 : decode cX2_meet 258 = .ok (.iadd, 1) := by decide +kernel
theorem dX2_meet_259 : decode cX2_meet 259 = .ok (.invokevirtual 53, 3) := by decide +kernel
theorem dX2_meet_262 : decode cX2_meet 262 = .ok (.aload_n 0, 1) := by decide +kernel
theorem dX2_meet_263 : decode cX2_meet 263 = .ok (.iload_n 1, 1) := by decide +kernel
theorem dX2_meet_264 : decode cX2_meet 264 = .ok (.iload_n 3, 1) := by decide +kernel
theorem dX2_meet_265 : decode cX2_meet 265 = .ok (.iconst 1, 1) := by decide +kernel
theorem dX2_meet_266 : decode cX2_meet 266 = .ok (.iadd, 1) := by decide +kernel
theorem dX2_meet_267 : decode cX2_meet 267 = .ok (.invokevirtual 57, 3) := by decide +kernel
theorem dX2_meet_270 : decode cX2_meet 270 = .ok (.aload_n 0, 1) := by decide +kernel
theorem dX2_meet_271 : decode cX2_meet 271 = .ok (.iload_n 1, 1) := by decide +kernel
theorem dX2_meet_272 : decode cX2_meet 272 = .ok (.iload_n 2, 1) := by decide +kernel
theorem dX2_meet_273 : decode cX2_meet 273 = .ok (.iconst 1, 1) := by decide +kernel
theorem dX2_meet_274 : decode cX2_meet 274 = .ok (.iadd, 1) := by decide +kernel
theorem dX2_meet_275 : decode cX2_meet 275 = .ok (.invokevirtual 53, 3) := by decide +kernel
theorem dX2_meet_278 : decode cX2_meet 278 = .ok (.aload_n 0, 1) := by decide +kernel
theorem dX2_meet_279 : decode cX2_meet 279 = .ok (.iload_n 1, 1) := by decide +kernel
theorem dX2_meet_280 : decode cX2_meet 280 = .ok (.iload_n 2, 1) := by decide +kernel
theorem dX2_meet_281 : decode cX2_meet 281 = .ok (.iconst 1, 1) := by decide +kernel
theorem dX2_meet_282 : decode cX2_meet 282 = .ok (.iadd, 1) := by decide +kernel
theorem dX2_meet_283 : decode cX2_meet 283 = .ok (.invokevirtual 57, 3) := by decide +kernel
theorem dX2_meet_286 : decode cX2_meet 286 = .ok (.invokestatic 82, 3) := by decide +kernel
theorem dX2_meet_289 : decode cX2_meet 289 = .ok (.invokestatic 90, 3) := by decide +kernel
theorem dX2_meet_292 : decode cX2_meet 292 = .ok (.istore 7, 2) := by decide +kernel
theorem dX2_meet_294 : decode cX2_meet 294 = .ok (.iload 4, 2) := by decide +kernel
theorem dX2_meet_296 : decode cX2_meet 296 = .ok (.iload 5, 2) := by decide +kernel
theorem dX2_meet_298 : decode cX2_meet 298 = .ok (.imul, 1) := by decide +kernel
theorem dX2_meet_299 : decode cX2_meet 299 = .ok (.ifCond .ge 15, 3) := by decide +kernel
theorem dX2_meet_302 : decode cX2_meet 302 = .ok (.iload 6, 2) := by decide +kernel
theorem dX2_meet_304 : decode cX2_meet 304 = .ok (.iload 7, 2) := by decide +kernel
theorem dX2_meet_306 : decode cX2_meet 306 = .ok (.imul, 1) := by decide +kernel
theorem dX2_meet_307 : decode cX2_meet 307 = .ok (.ifCond .ge 7, 3) := by decide +kernel
theorem dX2_meet_310 : decode cX2_meet 310 = .ok (.iconst 1, 1) := by decide +kernel
theorem dX2_meet_311 : decode cX2_meet 311 = .ok (.goto 4, 3) := by decide +kernel
theorem dX2_meet_314 : decode cX2_meet 314 = .ok (.iconst 0, 1) := by decide +kernel
theorem dX2_meet_315 : decode cX2_meet 315 = .ok (.ireturn, 1) := by decide +kernel
set_option maxRecDepth 20000 in
theorem ggX2_turnsBack_X2_x : GoodIn wsX2_turnsBack wsX2_x := goodIn_r _ [6, 7, 1, 13, 14, 15, 16, 17, 18, 19, 20, 21, 22, 23, 24, 25] (by decide +kernel) (by decide +kernel)
set_option maxRecDepth 20000 in
theorem gX2_turnsBack_X2_x : GoodIn wsX2_turnsBack (wsV RX2 53 RX2 yX2_x wsX2_x) := goodIn_app (goodIn_of _ (by decide +kernel)) ggX2_turnsBack_X2_x
set_option maxRecDepth 20000 in
theorem ggX2_turnsBack_X2_y : GoodIn wsX2_turnsBack wsX2_y := goodIn_r _ [11, 12, 1, 13, 14, 15, 16, 17, 18, 19, 20, 21, 22, 23, 24, 25] (by decide +kernel) (by decide +kernel)
set_option maxRecDepth 20000 in
theorem gX2_turnsBack_X2_y : GoodIn wsX2_turnsBack (wsV RX2 57 RX2 yX2_y wsX2_y) := goodIn_app (goodIn_of _ (by decide +kernel)) ggX2_turnsBack_X2_y
theorem dX2_turnsBack_0 : decode cX2_turnsBack 0 = .ok (.iload_n 2, 1) := by decide +kernel
theorem dX2_turnsBack_1 : decode cX2_turnsBack 1 = .ok (.aload_n 0, 1) := by decide +kernel
theorem dX2_turnsBack_2 : decode cX2_turnsBack 2 = .ok (.getfield 7, 3) := by decide +kernel
theorem dX2_turnsBack_5 : decode cX2_turnsBack 5 = .ok (.iload_n 1, 1) := by decide +kernel
theorem dX2_turnsBack_6 : decode cX2_turnsBack 6 = .ok (.iaload, 1) := by decide +kernel
theorem dX2_turnsBack_7 : decode cX2_turnsBack 7 = .ok (.iadd, 1) := by decide +kernel
theorem dX2_turnsBack_8 : decode cX2_turnsBack 8 = .ok (.iconst 1, 1) := by decide +kernel
theorem dX2_turnsBack_9 : decode cX2_turnsBack 9 = .ok (.isub, 1) := by decide +kernel
theorem dX2_turnsBack_10 : decode cX2_turnsBack 10 = .ok (.istore_n 3, 1) := by decide +kernel
theorem dX2_turnsBack_11 : decode cX2_turnsBack 11 = .ok (.aload_n 0, 1) := by decide +kernel
theorem dX2_turnsBack_12 : decode cX2_turnsBack 12 = .ok (.iload_n 1, 1) := by decide +kernel
theorem dX2_turnsBack_13 : decode cX2_turnsBack 13 = .ok (.iload_n 3, 1) := by decide +kernel
theorem dX2_turnsBack_14 : decode cX2_turnsBack 14 = .ok (.invokevirtual 53, 3) := by decide +kernel
theorem dX2_turnsBack_17 : decode cX2_turnsBack 17 = .ok (.aload_n 0, 1) := by decide +kernel
theorem dX2_turnsBack_18 : decode cX2_turnsBack 18 = .ok (.iload_n 1, 1) := by decide +kernel
theorem dX2_turnsBack_19 : decode cX2_turnsBack 19 = .ok (.iload_n 2, 1) := by decide +kernel
theorem dX2_turnsBack_20 : decode cX2_turnsBack 20 = .ok (.invokevirtual 53, 3) := by decide +kernel
theorem dX2_turnsBack_23 : decode cX2_turnsBack 23 = .ok (.isub, 1) := by decide +kernel
theorem dX2_turnsBack_24 : decode cX2_turnsBack 24 = .ok (.i2l, 1) := by decide +kernel
theorem dX2_turnsBack_25 : decode cX2_turnsBack 25 = .ok (.lstore 4, 2) := by decide +kernel
theorem dX2_turnsBack_27 : decode cX2_turnsBack 27 = .ok (.aload_n 0, 1) := by decide +kernel
theorem dX2_turnsBack_28 : decode cX2_turnsBack 28 = .ok (.iload_n 1, 1) := by decide +kernel
theorem dX2_turnsBack_29 : decode cX2_turnsBack 29 = .ok (.iload_n 3, 1) := by decide +kernel
theorem dX2_turnsBack_30 : decode cX2_turnsBack 30 = .ok (.invokevirtual 57, 3) := by decide +kernel
theorem dX2_turnsBack_33 : decode cX2_turnsBack 33 = .ok (.aload_n 0, 1) := by decide +kernel
theorem dX2_turnsBack_34 : decode cX2_turnsBack 34 = .ok (.iload_n 1, 1) := by decide +kernel
theorem dX2_turnsBack_35 : decode cX2_turnsBack 35 = .ok (.iload_n 2, 1) := by decide +kernel
theorem dX2_turnsBack_36 : decode cX2_turnsBack 36 = .ok (.invokevirtual 57, 3) := by decide +kernel
theorem dX2_turnsBack_39 : decode cX2_turnsBack 39 = .ok (.isub, 1) := by decide +kernel
theorem dX2_turnsBack_40 : decode cX2_turnsBack 40 = .ok (.i2l, 1) := by decide +kernel
theorem dX2_turnsBack_41 : decode cX2_turnsBack 41 = .ok (.lstore 6, 2) := by decide +kernel
theorem dX2_turnsBack_43 : decode cX2_turnsBack 43 = .ok (.aload_n 0, 1) := by decide +kernel
theorem dX2_turnsBack_44 : decode cX2_turnsBack 44 = .ok (.iload_n 1, 1) := by decide +kernel
theorem dX2_turnsBack_45 : decode cX2_turnsBack 45 = .ok (.iload_n 2, 1) := by decide +kernel
theorem dX2_turnsBack_46 : decode cX2_turnsBack 46 = .ok (.iconst 1, 1) := by decide +kernel
theorem dX2_turnsBack_47 : decode cX2_turnsBack 47 = .ok (.iadd, 1) := by decide +kernel
theorem dX2_turnsBack_48 : decode cX2_turnsBack 48 = .ok (.invokevirtual 53, 3) := by decide +kernel
theorem dX2_turnsBack_51 : decode cX2_turnsBack 51 = .ok (.aload_n 0, 1) := by decide +kernel
theorem dX2_turnsBack_52 : decode cX2_turnsBack 52 = .ok (.iload_n 1, 1) := by decide +kernel
theorem dX2_turnsBack_53 : decode cX2_turnsBack 53 = .ok (.iload_n 2, 1) := by decide +kernel
theorem dX2_turnsBack_54 : decode cX2_turnsBack 54 = .ok (.invokevirtual 53, 3) := by decide +kernel
theorem dX2_turnsBack_57 : decode cX2_turnsBack 57 = .ok (.isub, 1) := by decide +kernel
theorem dX2_turnsBack_58 : decode cX2_turnsBack 58 = .ok (.i2l, 1) := by decide +kernel
theorem dX2_turnsBack_59 : decode cX2_turnsBack 59 = .ok (.lstore 8, 2) := by decide +kernel
theorem dX2_turnsBack_61 : decode cX2_turnsBack 61 = .ok (.aload_n 0, 1) := by decide +kernel
theorem dX2_turnsBack_62 : decode cX2_turnsBack 62 = .ok (.iload_n 1, 1) := by decide +kernel
theorem dX2_turnsBack_63 : decode cX2_turnsBack 63 = .ok (.iload_n 2, 1) := by decide +kernel
theorem dX2_turnsBack_64 : decode cX2_turnsBack 64 = .ok (.iconst 1, 1) := by decide +kernel
theorem dX2_turnsBack_65 : decode cX2_turnsBack 65 = .ok (.iadd, 1) := by decide +kernel
theorem dX2_turnsBack_66 : decode cX2_turnsBack 66 = .ok (.invokevirtual 57, 3) := by decide +kernel
theorem dX2_turnsBack_69 : decode cX2_turnsBack 69 = .ok (.aload_n 0, 1) := by decide +kernel
theorem dX2_turnsBack_70 : decode cX2_turnsBack 70 = .ok (.iload_n 1, 1) := by decide +kernel
theorem dX2_turnsBack_71 : decode cX2_turnsBack 71 = .ok (.iload_n 2, 1) := by decide +kernel
theorem dX2_turnsBack_72 : decode cX2_turnsBack 72 = .ok (.invokevirtual 57, 3) := by decide +kernel
theorem dX2_turnsBack_75 : decode cX2_turnsBack 75 = .ok (.isub, 1) := by decide +kernel
theorem dX2_turnsBack_76 : decode cX2_turnsBack 76 = .ok (.i2l, 1) := by decide +kernel
theorem dX2_turnsBack_77 : decode cX2_turnsBack 77 = .ok (.lstore 10, 2) := by decide +kernel
theorem dX2_turnsBack_79 : decode cX2_turnsBack 79 = .ok (.lload 4, 2) := by decide +kernel
theorem dX2_turnsBack_81 : decode cX2_turnsBack 81 = .ok (.lload 10, 2) := by decide +kernel
theorem dX2_turnsBack_83 : decode cX2_turnsBack 83 = .ok (.lmul, 1) := by decide +kernel
theorem dX2_turnsBack_84 : decode cX2_turnsBack 84 = .ok (.lload 6, 2) := by decide +kernel
theorem dX2_turnsBack_86 : decode cX2_turnsBack 86 = .ok (.lload 8, 2) := by decide +kernel
theorem dX2_turnsBack_88 : decode cX2_turnsBack 88 = .ok (.lmul, 1) := by decide +kernel
theorem dX2_turnsBack_89 : decode cX2_turnsBack 89 = .ok (.lsub, 1) := by decide +kernel
theorem dX2_turnsBack_90 : decode cX2_turnsBack 90 = .ok (.lconst 0, 1) := by decide +kernel
theorem dX2_turnsBack_91 : decode cX2_turnsBack 91 = .ok (.lcmp, 1) := by decide +kernel
theorem dX2_turnsBack_92 : decode cX2_turnsBack 92 = .ok (.ifCond .ne 23, 3) := by decide +kernel
theorem dX2_turnsBack_95 : decode cX2_turnsBack 95 = .ok (.lload 4, 2) := by decide +kernel
theorem dX2_turnsBack_97 : decode cX2_turnsBack 97 = .ok (.lload 8, 2) := by decide +kernel
theorem dX2_turnsBack_99 : decode cX2_turnsBack 99 = .ok (.lmul, 1) := by decide +kernel
theorem dX2_turnsBack_100 : decode cX2_turnsBack 100 = .ok (.lload 6, 2) := by decide +kernel
theorem dX2_turnsBack_102 : decode cX2_turnsBack 102 = .ok (.lload 10, 2) := by decide +kernel
theorem dX2_turnsBack_104 : decode cX2_turnsBack 104 = .ok (.lmul, 1) := by decide +kernel
theorem dX2_turnsBack_105 : decode cX2_turnsBack 105 = .ok (.ladd, 1) := by decide +kernel
theorem dX2_turnsBack_106 : decode cX2_turnsBack 106 = .ok (.lconst 0, 1) := by decide +kernel
theorem dX2_turnsBack_107 : decode cX2_turnsBack 107 = .ok (.lcmp, 1) := by decide +kernel
theorem dX2_turnsBack_108 : decode cX2_turnsBack 108 = .ok (.ifCond .le 7, 3) := by decide +kernel
theorem dX2_turnsBack_111 : decode cX2_turnsBack 111 = .ok (.iconst 1, 1) := by decide +kernel
theorem dX2_turnsBack_112 : decode cX2_turnsBack 112 = .ok (.goto 4, 3) := by decide +kernel
theorem dX2_turnsBack_115 : decode cX2_turnsBack 115 = .ok (.iconst 0, 1) := by decide +kernel
theorem dX2_turnsBack_116 : decode cX2_turnsBack 116 = .ok (.ireturn, 1) := by decide +kernel
set_option maxRecDepth 20000 in
theorem ggX2_simple_X2_isFigure : GoodIn wsX2_simple wsX2_isFigure := goodIn_r _ [5, 6, 7, 4, 8] (by decide +kernel) (by decide +kernel)
set_option maxRecDepth 20000 in
theorem gX2_simple_X2_isFigure : GoodIn wsX2_simple (va_wsS RX2 42 yX2_isFigure wsX2_isFigure) := goodIn_app (goodIn_of _ (by decide +kernel)) ggX2_simple_X2_isFigure
set_option maxRecDepth 20000 in
theorem ggX2_simple_X2_isClosed : GoodIn wsX2_simple wsX2_isClosed := goodIn_r _ [12, 1, 41, 42, 43, 44, 45, 46, 47, 48, 49, 50, 51, 52, 53] (by decide +kernel) (by decide +kernel)
set_option maxRecDepth 20000 in
theorem gX2_simple_X2_isClosed : GoodIn wsX2_simple (wsV RX2 73 RX2 yX2_isClosed wsX2_isClosed) := goodIn_app (goodIn_of _ (by decide +kernel)) ggX2_simple_X2_isClosed
set_option maxRecDepth 20000 in
theorem ggX2_simple_X2_x : GoodIn wsX2_simple wsX2_x := goodIn_r _ [16, 17, 1, 41, 42, 43, 44, 45, 46, 47, 48, 49, 50, 51, 52, 53] (by decide +kernel) (by decide +kernel)
set_option maxRecDepth 20000 in
theorem gX2_simple_X2_x : GoodIn wsX2_simple (wsV RX2 53 RX2 yX2_x wsX2_x) := goodIn_app (goodIn_of _ (by decide +kernel)) ggX2_simple_X2_x
set_option maxRecDepth 20000 in
theorem ggX2_simple_X2_y : GoodIn wsX2_simple wsX2_y := goodIn_r _ [21, 22, 1, 41, 42, 43, 44, 45, 46, 47, 48, 49, 50, 51, 52, 53] (by decide +kernel) (by decide +kernel)
set_option maxRecDepth 20000 in
theorem gX2_simple_X2_y : GoodIn wsX2_simple (wsV RX2 57 RX2 yX2_y wsX2_y) := goodIn_app (goodIn_of _ (by decide +kernel)) ggX2_simple_X2_y
set_option maxRecDepth 20000 in
theorem ggX2_simple_X2_turnsBack : GoodIn wsX2_simple wsX2_turnsBack := goodIn_r _ [26, 1, 13, 14, 15, 4, 16, 17, 18, 19, 20, 21, 22, 41, 42, 43, 44, 45, 46, 47, 48, 49, 50, 51, 52, 53] (by decide +kernel) (by decide +kernel)
set_option maxRecDepth 20000 in
theorem gX2_simple_X2_turnsBack : GoodIn wsX2_simple (wsV RX2 94 RX2 yX2_turnsBack wsX2_turnsBack) := goodIn_app (goodIn_of _ (by decide +kernel)) ggX2_simple_X2_turnsBack
set_option maxRecDepth 20000 in
theorem ggX2_simple_X2_meet : GoodIn wsX2_simple wsX2_meet := goodIn_r _ [30, 13, 14, 15, 4, 16, 17, 1, 18, 19, 20, 21, 22, 31, 32, 33, 34, 35, 36, 37, 38, 39, 40, 41, 42, 43, 44, 45, 46, 47, 48, 49, 50, 51, 52, 53] (by decide +kernel) (by decide +kernel)
set_option maxRecDepth 20000 in
theorem gX2_simple_X2_meet : GoodIn wsX2_simple (wsV RX2 97 RX2 yX2_meet wsX2_meet) := goodIn_app (goodIn_of _ (by decide +kernel)) ggX2_simple_X2_meet
theorem dX2_simple_0 : decode cX2_simple 0 = .ok (.iload_n 1, 1) := by decide +kernel
theorem dX2_simple_1 : decode cX2_simple 1 = .ok (.invokestatic 42, 3) := by decide +kernel
theorem dX2_simple_4 : decode cX2_simple 4 = .ok (.ifCond .ne 5, 3) := by decide +kernel
theorem dX2_simple_7 : decode cX2_simple 7 = .ok (.iconst (-1), 1) := by decide +kernel
theorem dX2_simple_8 : decode cX2_simple 8 = .ok (.ireturn, 1) := by decide +kernel
theorem dX2_simple_9 : decode cX2_simple 9 = .ok (.aload_n 0, 1) := by decide +kernel
theorem dX2_simple_10 : decode cX2_simple 10 = .ok (.iload_n 1, 1) := by decide +kernel
theorem dX2_simple_11 : decode cX2_simple 11 = .ok (.invokevirtual 73, 3) := by decide +kernel
theorem dX2_simple_14 : decode cX2_simple 14 = .ok (.istore_n 2, 1) := by decide +kernel
theorem dX2_simple_15 : decode cX2_simple 15 = .ok (.aload_n 0, 1) := by decide +kernel
theorem dX2_simple_16 : decode cX2_simple 16 = .ok (.getfield 7, 3) := by decide +kernel
theorem dX2_simple_19 : decode cX2_simple 19 = .ok (.iload_n 1, 1) := by decide +kernel
theorem dX2_simple_20 : decode cX2_simple 20 = .ok (.iaload, 1) := by decide +kernel
theorem dX2_simple_21 : decode cX2_simple 21 = .ok (.istore_n 3, 1) := by decide +kernel
theorem dX2_simple_22 : decode cX2_simple 22 = .ok (.iconst 0, 1) := by decide +kernel
theorem dX2_simple_23 : decode cX2_simple 23 = .ok (.istore 4, 2) := by decide +kernel
theorem dX2_simple_25 : decode cX2_simple 25 = .ok (.iload 4, 2) := by decide +kernel
theorem dX2_simple_27 : decode cX2_simple 27 = .ok (.iload_n 3, 1) := by decide +kernel
theorem dX2_simple_28 : decode cX2_simple 28 = .ok (.if_icmp .ge 120, 3) := by decide +kernel
theorem dX2_simple_31 : decode cX2_simple 31 = .ok (.iload_n 2, 1) := by decide +kernel
theorem dX2_simple_32 : decode cX2_simple 32 = .ok (.ifCond .eq 116, 3) := by decide +kernel
theorem dX2_simple_35 : decode cX2_simple 35 = .ok (.aload_n 0, 1) := by decide +kernel
theorem dX2_simple_36 : decode cX2_simple 36 = .ok (.iload_n 1, 1) := by decide +kernel
theorem dX2_simple_37 : decode cX2_simple 37 = .ok (.iload 4, 2) := by decide +kernel
theorem dX2_simple_39 : decode cX2_simple 39 = .ok (.invokevirtual 53, 3) := by decide +kernel
theorem dX2_simple_42 : decode cX2_simple 42 = .ok (.aload_n 0, 1) := by decide +kernel
theorem dX2_simple_43 : decode cX2_simple 43 = .ok (.iload_n 1, 1) := by decide +kernel
theorem dX2_simple_44 : decode cX2_simple 44 = .ok (.iload 4, 2) := by decide +kernel
theorem dX2_simple_46 : decode cX2_simple 46 = .ok (.iconst 1, 1) := by decide +kernel
theorem dX2_simple_47 : decode cX2_simple 47 = .ok (.iadd, 1) := by decide +kernel
theorem dX2_simple_48 : decode cX2_simple 48 = .ok (.invokevirtual 53, 3) := by decide +kernel
theorem dX2_simple_51 : decode cX2_simple 51 = .ok (.if_icmp .ne 22, 3) := by decide +kernel
theorem dX2_simple_54 : decode cX2_simple 54 = .ok (.aload_n 0, 1) := by decide +kernel
theorem dX2_simple_55 : decode cX2_simple 55 = .ok (.iload_n 1, 1) := by decide +kernel
theorem dX2_simple_56 : decode cX2_simple 56 = .ok (.iload 4, 2) := by decide +kernel
theorem dX2_simple_58 : decode cX2_simple 58 = .ok (.invokevirtual 57, 3) := by decide +kernel
theorem dX2_simple_61 : decode cX2_simple 61 = .ok (.aload_n 0, 1) := by decide +kernel
theorem dX2_simple_62 : decode cX2_simple 62 = .ok (.iload_n 1, 1) := by decide +kernel
theorem dX2_simple_63 : decode cX2_simple 63 = .ok (.iload 4, 2) := by decide +kernel
theorem dX2_simple_65 : decode cX2_simple 65 = .ok (.iconst 1, 1) := by decide +kernel
theorem dX2_simple_66 : decode cX2_simple 66 = .ok (.iadd, 1) := by decide +kernel
theorem dX2_simple_67 : decode cX2_simple 67 = .ok (.invokevirtual 57, 3) := by decide +kernel
theorem dX2_simple_70 : decode cX2_simple 70 = .ok (.if_icmp .eq 17, 3) := by decide +kernel
theorem dX2_simple_73 : decode cX2_simple 73 = .ok (.aload_n 0, 1) := by decide +kernel
theorem dX2_simple_74 : decode cX2_simple 74 = .ok (.iload_n 1, 1) := by decide +kernel
theorem dX2_simple_75 : decode cX2_simple 75 = .ok (.iload 4, 2) := by decide +kernel
theorem dX2_simple_77 : decode cX2_simple 77 = .ok (.invokevirtual 94, 3) := by decide +kernel
theorem dX2_simple_80 : decode cX2_simple 80 = .ok (.ifCond .ne 7, 3) := by decide +kernel
theorem dX2_simple_83 : decode cX2_simple 83 = .ok (.iconst 1, 1) := by decide +kernel
theorem dX2_simple_84 : decode cX2_simple 84 = .ok (.goto 4, 3) := by decide +kernel
theorem dX2_simple_87 : decode cX2_simple 87 = .ok (.iconst 0, 1) := by decide +kernel
theorem dX2_simple_88 : decode cX2_simple 88 = .ok (.istore_n 2, 1) := by decide +kernel
theorem dX2_simple_89 : decode cX2_simple 89 = .ok (.iload 4, 2) := by decide +kernel
theorem dX2_simple_91 : decode cX2_simple 91 = .ok (.iconst 2, 1) := by decide +kernel
theorem dX2_simple_92 : decode cX2_simple 92 = .ok (.iadd, 1) := by decide +kernel
theorem dX2_simple_93 : decode cX2_simple 93 = .ok (.istore 5, 2) := by decide +kernel
theorem dX2_simple_95 : decode cX2_simple 95 = .ok (.iload 5, 2) := by decide +kernel
theorem dX2_simple_97 : decode cX2_simple 97 = .ok (.iload_n 3, 1) := by decide +kernel
theorem dX2_simple_98 : decode cX2_simple 98 = .ok (.if_icmp .ge 44, 3) := by decide +kernel
theorem dX2_simple_101 : decode cX2_simple 101 = .ok (.iload_n 2, 1) := by decide +kernel
theorem dX2_simple_102 : decode cX2_simple 102 = .ok (.ifCond .eq 40, 3) := by decide +kernel
theorem dX2_simple_105 : decode cX2_simple 105 = .ok (.iload 4, 2) := by decide +kernel
theorem dX2_simple_107 : decode cX2_simple 107 = .ok (.ifCond .ne 11, 3) := by decide +kernel
theorem dX2_simple_110 : decode cX2_simple 110 = .ok (.iload 5, 2) := by decide +kernel
theorem dX2_simple_112 : decode cX2_simple 112 = .ok (.iload_n 3, 1) := by decide +kernel
theorem dX2_simple_113 : decode cX2_simple 113 = .ok (.iconst 1, 1) := by decide +kernel
theorem dX2_simple_114 : decode cX2_simple 114 = .ok (.isub, 1) := by decide +kernel
theorem dX2_simple_115 : decode cX2_simple 115 = .ok (.if_icmp .eq 15, 3) := by decide +kernel
theorem dX2_simple_118 : decode cX2_simple 118 = .ok (.aload_n 0, 1) := by decide +kernel
theorem dX2_simple_119 : decode cX2_simple 119 = .ok (.iload_n 1, 1) := by decide +kernel
theorem dX2_simple_120 : decode cX2_simple 120 = .ok (.iload 4, 2) := by decide +kernel
theorem dX2_simple_122 : decode cX2_simple 122 = .ok (.iload 5, 2) := by decide +kernel
theorem dX2_simple_124 : decode cX2_simple 124 = .ok (.invokevirtual 97, 3) := by decide +kernel
theorem dX2_simple_127 : decode cX2_simple 127 = .ok (.ifCond .ne 7, 3) := by decide +kernel
theorem dX2_simple_130 : decode cX2_simple 130 = .ok (.iconst 1, 1) := by decide +kernel
theorem dX2_simple_131 : decode cX2_simple 131 = .ok (.goto 4, 3) := by decide +kernel
theorem dX2_simple_134 : decode cX2_simple 134 = .ok (.iconst 0, 1) := by decide +kernel
theorem dX2_simple_135 : decode cX2_simple 135 = .ok (.istore_n 2, 1) := by decide +kernel
theorem dX2_simple_136 : decode cX2_simple 136 = .ok (.iinc 5 1, 3) := by decide +kernel
theorem dX2_simple_139 : decode cX2_simple 139 = .ok (.goto (-44), 3) := by decide +kernel
theorem dX2_simple_142 : decode cX2_simple 142 = .ok (.iinc 4 1, 3) := by decide +kernel
theorem dX2_simple_145 : decode cX2_simple 145 = .ok (.goto (-120), 3) := by decide +kernel
theorem dX2_simple_148 : decode cX2_simple 148 = .ok (.iload_n 2, 1) := by decide +kernel
theorem dX2_simple_149 : decode cX2_simple 149 = .ok (.ifCond .eq 7, 3) := by decide +kernel
theorem dX2_simple_152 : decode cX2_simple 152 = .ok (.iconst 1, 1) := by decide +kernel
theorem dX2_simple_153 : decode cX2_simple 153 = .ok (.goto 4, 3) := by decide +kernel
theorem dX2_simple_156 : decode cX2_simple 156 = .ok (.iconst 0, 1) := by decide +kernel
theorem dX2_simple_157 : decode cX2_simple 157 = .ok (.ireturn, 1) := by decide +kernel
set_option maxRecDepth 20000 in
theorem ggX2_windsOf_X2_isOn : GoodIn wsX2_windsOf wsX2_isOn := goodIn_r _ [6, 7, 8, 9, 5, 10, 11, 1, 12, 13, 14, 15, 16, 17, 18, 19, 20, 21, 22, 23, 24, 25, 26, 27, 28, 29, 30, 31, 32] (by decide +kernel) (by decide +kernel)
set_option maxRecDepth 20000 in
theorem gX2_windsOf_X2_isOn : GoodIn wsX2_windsOf (wsV RX2 86 RX2 yX2_isOn wsX2_isOn) := goodIn_app (goodIn_of _ (by decide +kernel)) ggX2_windsOf_X2_isOn
set_option maxRecDepth 20000 in
theorem ggX2_windsOf_X2_x : GoodIn wsX2_windsOf wsX2_x := goodIn_r _ [10, 11, 1, 20, 21, 22, 23, 24, 25, 26, 27, 28, 29, 30, 31, 32] (by decide +kernel) (by decide +kernel)
set_option maxRecDepth 20000 in
theorem gX2_windsOf_X2_x : GoodIn wsX2_windsOf (wsV RX2 53 RX2 yX2_x wsX2_x) := goodIn_app (goodIn_of _ (by decide +kernel)) ggX2_windsOf_X2_x
set_option maxRecDepth 20000 in
theorem ggX2_windsOf_X2_y : GoodIn wsX2_windsOf wsX2_y := goodIn_r _ [15, 16, 1, 20, 21, 22, 23, 24, 25, 26, 27, 28, 29, 30, 31, 32] (by decide +kernel) (by decide +kernel)
set_option maxRecDepth 20000 in
theorem gX2_windsOf_X2_y : GoodIn wsX2_windsOf (wsV RX2 57 RX2 yX2_y wsX2_y) := goodIn_app (goodIn_of _ (by decide +kernel)) ggX2_windsOf_X2_y
set_option maxRecDepth 20000 in
theorem ggX2_windsOf_X2_side : GoodIn wsX2_windsOf wsX2_side := goodIn_r _ [19] (by decide +kernel) (by decide +kernel)
set_option maxRecDepth 20000 in
theorem gX2_windsOf_X2_side : GoodIn wsX2_windsOf (va_wsS RX2 82 yX2_side wsX2_side) := goodIn_app (goodIn_of _ (by decide +kernel)) ggX2_windsOf_X2_side
theorem dX2_windsOf_0 : decode cX2_windsOf 0 = .ok (.iconst 0, 1) := by decide +kernel
theorem dX2_windsOf_1 : decode cX2_windsOf 1 = .ok (.istore 4, 2) := by decide +kernel
theorem dX2_windsOf_3 : decode cX2_windsOf 3 = .ok (.iconst 0, 1) := by decide +kernel
theorem dX2_windsOf_4 : decode cX2_windsOf 4 = .ok (.istore 5, 2) := by decide +kernel
theorem dX2_windsOf_6 : decode cX2_windsOf 6 = .ok (.iload 5, 2) := by decide +kernel
theorem dX2_windsOf_8 : decode cX2_windsOf 8 = .ok (.aload_n 0, 1) := by decide +kernel
theorem dX2_windsOf_9 : decode cX2_windsOf 9 = .ok (.getfield 7, 3) := by decide +kernel
theorem dX2_windsOf_12 : decode cX2_windsOf 12 = .ok (.iload_n 1, 1) := by decide +kernel
theorem dX2_windsOf_13 : decode cX2_windsOf 13 = .ok (.iaload, 1) := by decide +kernel
theorem dX2_windsOf_14 : decode cX2_windsOf 14 = .ok (.if_icmp .ge 164, 3) := by decide +kernel
theorem dX2_windsOf_17 : decode cX2_windsOf 17 = .ok (.aload_n 0, 1) := by decide +kernel
theorem dX2_windsOf_18 : decode cX2_windsOf 18 = .ok (.iload_n 1, 1) := by decide +kernel
theorem dX2_windsOf_19 : decode cX2_windsOf 19 = .ok (.iload 5, 2) := by decide +kernel
theorem dX2_windsOf_21 : decode cX2_windsOf 21 = .ok (.iload_n 2, 1) := by decide +kernel
theorem dX2_windsOf_22 : decode cX2_windsOf 22 = .ok (.iload_n 3, 1) := by decide +kernel
theorem dX2_windsOf_23 : decode cX2_windsOf 23 = .ok (.invokevirtual 86, 3) := by decide +kernel
theorem dX2_windsOf_26 : decode cX2_windsOf 26 = .ok (.ifCond .eq 7, 3) := by decide +kernel
theorem dX2_windsOf_29 : decode cX2_windsOf 29 = .ok (.sipush (-1006), 3) := by decide +kernel
theorem dX2_windsOf_32 : decode cX2_windsOf 32 = .ok (.ireturn, 1) := by decide +kernel
theorem dX2_windsOf_33 : decode cX2_windsOf 33 = .ok (.aload_n 0, 1) := by decide +kernel
theorem dX2_windsOf_34 : decode cX2_windsOf 34 = .ok (.iload_n 1, 1) := by decide +kernel
theorem dX2_windsOf_35 : decode cX2_windsOf 35 = .ok (.iload 5, 2) := by decide +kernel
theorem dX2_windsOf_37 : decode cX2_windsOf 37 = .ok (.invokevirtual 53, 3) := by decide +kernel
theorem dX2_windsOf_40 : decode cX2_windsOf 40 = .ok (.aload_n 0, 1) := by decide +kernel
theorem dX2_windsOf_41 : decode cX2_windsOf 41 = .ok (.iload_n 1, 1) := by decide +kernel
theorem dX2_windsOf_42 : decode cX2_windsOf 42 = .ok (.iload 5, 2) := by decide +kernel
theorem dX2_windsOf_44 : decode cX2_windsOf 44 = .ok (.invokevirtual 57, 3) := by decide +kernel
theorem dX2_windsOf_47 : decode cX2_windsOf 47 = .ok (.aload_n 0, 1) := by decide +kernel
theorem dX2_windsOf_48 : decode cX2_windsOf 48 = .ok (.iload_n 1, 1) := by decide +kernel
theorem dX2_windsOf_49 : decode cX2_windsOf 49 = .ok (.iload 5, 2) := by decide +kernel
theorem dX2_windsOf_51 : decode cX2_windsOf 51 = .ok (.iconst 1, 1) := by decide +kernel
theorem dX2_windsOf_52 : decode cX2_windsOf 52 = .ok (.iadd, 1) := by decide +kernel
theorem dX2_windsOf_53 : decode cX2_windsOf 53 = .ok (.invokevirtual 53, 3) := by decide +kernel
theorem dX2_windsOf_56 : decode cX2_windsOf 56 = .ok (.aload_n 0, 1) := by decide +kernel
theorem dX2_windsOf_57 : decode cX2_windsOf 57 = .ok (.iload_n 1, 1) := by decide +kernel
theorem dX2_windsOf_58 : decode cX2_windsOf 58 = .ok (.iload 5, 2) := by decide +kernel
theorem dX2_windsOf_60 : decode cX2_windsOf 60 = .ok (.iconst 1, 1) := by decide +kernel
theorem dX2_windsOf_61 : decode cX2_windsOf 61 = .ok (.iadd, 1) := by decide +kernel
theorem dX2_windsOf_62 : decode cX2_windsOf 62 = .ok (.invokevirtual 57, 3) := by decide +kernel
theorem dX2_windsOf_65 : decode cX2_windsOf 65 = .ok (.iload_n 2, 1) := by decide +kernel
theorem dX2_windsOf_66 : decode cX2_windsOf 66 = .ok (.iload_n 3, 1) := by decide +kernel
theorem dX2_windsOf_67 : decode cX2_windsOf 67 = .ok (.invokestatic 82, 3) := by decide +kernel
theorem dX2_windsOf_70 : decode cX2_windsOf 70 = .ok (.lstore 6, 2) := by decide +kernel
theorem dX2_windsOf_72 : decode cX2_windsOf 72 = .ok (.aload_n 0, 1) := by decide +kernel
theorem dX2_windsOf_73 : decode cX2_windsOf 73 = .ok (.iload_n 1, 1) := by decide +kernel
theorem dX2_windsOf_74 : decode cX2_windsOf 74 = .ok (.iload 5, 2) := by decide +kernel
theorem dX2_windsOf_76 : decode cX2_windsOf 76 = .ok (.invokevirtual 57, 3) := by decide +kernel
theorem dX2_windsOf_79 : decode cX2_windsOf 79 = .ok (.iload_n 3, 1) := by decide +kernel
theorem dX2_windsOf_80 : decode cX2_windsOf 80 = .ok (.if_icmp .gt 20, 3) := by decide +kernel
theorem dX2_windsOf_83 : decode cX2_windsOf 83 = .ok (.aload_n 0, 1) := by decide +kernel
theorem dX2_windsOf_84 : decode cX2_windsOf 84 = .ok (.iload_n 1, 1) := by decide +kernel
theorem dX2_windsOf_85 : decode cX2_windsOf 85 = .ok (.iload 5, 2) := by decide +kernel
theorem dX2_windsOf_87 : decode cX2_windsOf 87 = .ok (.iconst 1, 1) := by decide +kernel
theorem dX2_windsOf_88 : decode cX2_windsOf 88 = .ok (.iadd, 1) := by decide +kernel
theorem dX2_windsOf_89 : decode cX2_windsOf 89 = .ok (.invokevirtual 57, 3) := by decide +kernel
theorem dX2_windsOf_92 : decode cX2_windsOf 92 = .ok (.iload_n 3, 1) := by decide +kernel
theorem dX2_windsOf_93 : decode cX2_windsOf 93 = .ok (.if_icmp .le 7, 3) := by decide +kernel
theorem dX2_windsOf_96 : decode cX2_windsOf 96 = .ok (.iconst 1, 1) := by decide +kernel
theorem dX2_windsOf_97 : decode cX2_windsOf 97 = .ok (.goto 4, 3) := by decide +kernel
theorem dX2_windsOf_100 : decode cX2_windsOf 100 = .ok (.iconst 0, 1) := by decide +kernel
theorem dX2_windsOf_101 : decode cX2_windsOf 101 = .ok (.istore 8, 2) := by decide +kernel
theorem dX2_windsOf_103 : decode cX2_windsOf 103 = .ok (.aload_n 0, 1) := by decide +kernel
theorem dX2_windsOf_104 : decode cX2_windsOf 104 = .ok (.iload_n 1, 1) := by decide +kernel
theorem dX2_windsOf_105 : decode cX2_windsOf 105 = .ok (.iload 5, 2) := by decide +kernel
theorem dX2_windsOf_107 : decode cX2_windsOf 107 = .ok (.invokevirtual 57, 3) := by decide +kernel
theorem dX2_windsOf_110 : decode cX2_windsOf 110 = .ok (.iload_n 3, 1) := by decide +kernel
theorem dX2_windsOf_111 : decode cX2_windsOf 111 = .ok (.if_icmp .le 20, 3) := by decide +kernel
theorem dX2_windsOf_114 : decode cX2_windsOf 114 = .ok (.aload_n 0, 1) := by decide +kernel
theorem dX2_windsOf_115 : decode cX2_windsOf 115 = .ok (.iload_n 1, 1) := by decide +kernel
theorem dX2_windsOf_116 : decode cX2_windsOf 116 = .ok (.iload 5, 2) := by decide +kernel
theorem dX2_windsOf_118 : decode cX2_windsOf 118 = .ok (.iconst 1, 1) := by decide +kernel
theorem dX2_windsOf_119 : decode cX2_windsOf 119 = .ok (.iadd, 1) := by decide +kernel
theorem dX2_windsOf_120 : decode cX2_windsOf 120 = .ok (.invokevirtual 57, 3) := by decide +kernel
theorem dX2_windsOf_123 : decode cX2_windsOf 123 = .ok (.iload_n 3, 1) := by decide +kernel
theorem dX2_windsOf_124 : decode cX2_windsOf 124 = .ok (.if_icmp .gt 7, 3) := by decide +kernel
theorem dX2_windsOf_127 : decode cX2_windsOf 127 = .ok (.iconst 1, 1) := by decide +kernel
theorem dX2_windsOf_128 : decode cX2_windsOf 128 = .ok (.goto 4, 3) := by decide +kernel
theorem dX2_windsOf_131 : decode cX2_windsOf 131 = .ok (.iconst 0, 1) := by decide +kernel
theorem dX2_windsOf_132 : decode cX2_windsOf 132 = .ok (.istore 9, 2) := by decide +kernel
theorem dX2_windsOf_134 : decode cX2_windsOf 134 = .ok (.iload 4, 2) := by decide +kernel
theorem dX2_windsOf_136 : decode cX2_windsOf 136 = .ok (.iload 8, 2) := by decide +kernel
theorem dX2_windsOf_138 : decode cX2_windsOf 138 = .ok (.ifCond .eq 14, 3) := by decide +kernel
theorem dX2_windsOf_141 : decode cX2_windsOf 141 = .ok (.lload 6, 2) := by decide +kernel
theorem dX2_windsOf_143 : decode cX2_windsOf 143 = .ok (.lconst 0, 1) := by decide +kernel
theorem dX2_windsOf_144 : decode cX2_windsOf 144 = .ok (.lcmp, 1) := by decide +kernel
theorem dX2_windsOf_145 : decode cX2_windsOf 145 = .ok (.ifCond .le 7, 3) := by decide +kernel
theorem dX2_windsOf_148 : decode cX2_windsOf 148 = .ok (.iconst 1, 1) := by decide +kernel
theorem dX2_windsOf_149 : decode cX2_windsOf 149 = .ok (.goto 20, 3) := by decide +kernel
theorem dX2_windsOf_152 : decode cX2_windsOf 152 = .ok (.iload 9, 2) := by decide +kernel
theorem dX2_windsOf_154 : decode cX2_windsOf 154 = .ok (.ifCond .eq 14, 3) := by decide +kernel
theorem dX2_windsOf_157 : decode cX2_windsOf 157 = .ok (.lload 6, 2) := by decide +kernel
theorem dX2_windsOf_159 : decode cX2_windsOf 159 = .ok (.lconst 0, 1) := by decide +kernel
theorem dX2_windsOf_160 : decode cX2_windsOf 160 = .ok (.lcmp, 1) := by decide +kernel
theorem dX2_windsOf_161 : decode cX2_windsOf 161 = .ok (.ifCond .ge 7, 3) := by decide +kernel
theorem dX2_windsOf_164 : decode cX2_windsOf 164 = .ok (.iconst (-1), 1) := by decide +kernel
theorem dX2_windsOf_165 : decode cX2_windsOf 165 = .ok (.goto 4, 3) := by decide +kernel
theorem dX2_windsOf_168 : decode cX2_windsOf 168 = .ok (.iconst 0, 1) := by decide +kernel
theorem dX2_windsOf_169 : decode cX2_windsOf 169 = .ok (.iadd, 1) := by decide +kernel
theorem dX2_windsOf_170 : decode cX2_windsOf 170 = .ok (.istore 4, 2) := by decide +kernel
theorem dX2_windsOf_172 : decode cX2_windsOf 172 = .ok (.iinc 5 1, 3) := by decide +kernel
theorem dX2_windsOf_175 : decode cX2_windsOf 175 = .ok (.goto (-169), 3) := by decide +kernel
theorem dX2_windsOf_178 : decode cX2_windsOf 178 = .ok (.iload 4, 2) := by decide +kernel
theorem dX2_windsOf_180 : decode cX2_windsOf 180 = .ok (.ireturn, 1) := by decide +kernel
set_option maxRecDepth 20000 in
theorem ggX2_winds_X2_isFigure : GoodIn wsX2_winds wsX2_isFigure := goodIn_r _ [4, 5, 6, 3, 7] (by decide +kernel) (by decide +kernel)
set_option maxRecDepth 20000 in
theorem gX2_winds_X2_isFigure : GoodIn wsX2_winds (va_wsS RX2 42 yX2_isFigure wsX2_isFigure) := goodIn_app (goodIn_of _ (by decide +kernel)) ggX2_winds_X2_isFigure
set_option maxRecDepth 20000 in
theorem ggX2_winds_X2_in : GoodIn wsX2_winds wsX2_in := goodIn_r _ [7] (by decide +kernel) (by decide +kernel)
set_option maxRecDepth 20000 in
theorem gX2_winds_X2_in : GoodIn wsX2_winds (va_wsS RX2 38 yX2_in wsX2_in) := goodIn_app (goodIn_of _ (by decide +kernel)) ggX2_winds_X2_in
set_option maxRecDepth 20000 in
theorem ggX2_winds_X2_isClosed : GoodIn wsX2_winds wsX2_isClosed := goodIn_r _ [11, 12, 34, 35, 36, 37, 38, 39, 40, 41, 42, 43, 44, 45, 46] (by decide +kernel) (by decide +kernel)
set_option maxRecDepth 20000 in
theorem gX2_winds_X2_isClosed : GoodIn wsX2_winds (wsV RX2 73 RX2 yX2_isClosed wsX2_isClosed) := goodIn_app (goodIn_of _ (by decide +kernel)) ggX2_winds_X2_isClosed
set_option maxRecDepth 20000 in
theorem ggX2_winds_X2_windsOf : GoodIn wsX2_winds wsX2_windsOf := goodIn_r _ [16, 12, 17, 18, 19, 3, 20, 21, 22, 23, 24, 25, 26, 27, 28, 29, 30, 31, 32, 33, 34, 35, 36, 37, 38, 39, 40, 41, 42, 43, 44, 45, 46] (by decide +kernel) (by decide +kernel)
set_option maxRecDepth 20000 in
theorem gX2_winds_X2_windsOf : GoodIn wsX2_winds (wsV RX2 100 RX2 yX2_windsOf wsX2_windsOf) := goodIn_app (goodIn_of _ (by decide +kernel)) ggX2_winds_X2_windsOf
theorem dX2_winds_0 : decode cX2_winds 0 = .ok (.iload_n 1, 1) := by decide +kernel
theorem dX2_winds_1 : decode cX2_winds 1 = .ok (.invokestatic 42, 3) := by decide +kernel
theorem dX2_winds_4 : decode cX2_winds 4 = .ok (.ifCond .ne 7, 3) := by decide +kernel
theorem dX2_winds_7 : decode cX2_winds 7 = .ok (.sipush (-1001), 3) := by decide +kernel
theorem dX2_winds_10 : decode cX2_winds 10 = .ok (.ireturn, 1) := by decide +kernel
theorem dX2_winds_11 : decode cX2_winds 11 = .ok (.iload_n 2, 1) := by decide +kernel
theorem dX2_winds_12 : decode cX2_winds 12 = .ok (.sipush (-300), 3) := by decide +kernel
theorem dX2_winds_15 : decode cX2_winds 15 = .ok (.sipush 300, 3) := by decide +kernel
theorem dX2_winds_18 : decode cX2_winds 18 = .ok (.invokestatic 38, 3) := by decide +kernel
theorem dX2_winds_21 : decode cX2_winds 21 = .ok (.ifCond .eq 16, 3) := by decide +kernel
theorem dX2_winds_24 : decode cX2_winds 24 = .ok (.iload_n 3, 1) := by decide +kernel
theorem dX2_winds_25 : decode cX2_winds 25 = .ok (.sipush (-300), 3) := by decide +kernel
theorem dX2_winds_28 : decode cX2_winds 28 = .ok (.sipush 300, 3) := by decide +kernel
theorem dX2_winds_31 : decode cX2_winds 31 = .ok (.invokestatic 38, 3) := by decide +kernel
theorem dX2_winds_34 : decode cX2_winds 34 = .ok (.ifCond .ne 7, 3) := by decide +kernel
theorem dX2_winds_37 : decode cX2_winds 37 = .ok (.sipush (-1002), 3) := by decide +kernel
theorem dX2_winds_40 : decode cX2_winds 40 = .ok (.ireturn, 1) := by decide +kernel
theorem dX2_winds_41 : decode cX2_winds 41 = .ok (.aload_n 0, 1) := by decide +kernel
theorem dX2_winds_42 : decode cX2_winds 42 = .ok (.iload_n 1, 1) := by decide +kernel
theorem dX2_winds_43 : decode cX2_winds 43 = .ok (.invokevirtual 73, 3) := by decide +kernel
theorem dX2_winds_46 : decode cX2_winds 46 = .ok (.ifCond .eq 13, 3) := by decide +kernel
theorem dX2_winds_49 : decode cX2_winds 49 = .ok (.aload_n 0, 1) := by decide +kernel
theorem dX2_winds_50 : decode cX2_winds 50 = .ok (.iload_n 1, 1) := by decide +kernel
theorem dX2_winds_51 : decode cX2_winds 51 = .ok (.iload_n 2, 1) := by decide +kernel
theorem dX2_winds_52 : decode cX2_winds 52 = .ok (.iload_n 3, 1) := by decide +kernel
theorem dX2_winds_53 : decode cX2_winds 53 = .ok (.invokevirtual 100, 3) := by decide +kernel
theorem dX2_winds_56 : decode cX2_winds 56 = .ok (.goto 6, 3) := by decide +kernel
theorem dX2_winds_59 : decode cX2_winds 59 = .ok (.sipush (-1003), 3) := by decide +kernel
theorem dX2_winds_62 : decode cX2_winds 62 = .ok (.ireturn, 1) := by decide +kernel
set_option maxRecDepth 20000 in
theorem ggX2_rod_X2_in : GoodIn wsX2_rod wsX2_in := goodIn_r _ [5] (by decide +kernel) (by decide +kernel)
set_option maxRecDepth 20000 in
theorem gX2_rod_X2_in : GoodIn wsX2_rod (va_wsS RX2 38 yX2_in wsX2_in) := goodIn_app (goodIn_of _ (by decide +kernel)) ggX2_rod_X2_in
theorem dX2_rod_0 : decode cX2_rod 0 = .ok (.iload_n 1, 1) := by decide +kernel
theorem dX2_rod_1 : decode cX2_rod 1 = .ok (.iconst 1, 1) := by decide +kernel
theorem dX2_rod_2 : decode cX2_rod 2 = .ok (.sipush 400, 3) := by decide +kernel
theorem dX2_rod_5 : decode cX2_rod 5 = .ok (.invokestatic 38, 3) := by decide +kernel
theorem dX2_rod_8 : decode cX2_rod 8 = .ok (.ifCond .ne 6, 3) := by decide +kernel
theorem dX2_rod_11 : decode cX2_rod 11 = .ok (.bipush (-2), 2) := by decide +kernel
theorem dX2_rod_13 : decode cX2_rod 13 = .ok (.ireturn, 1) := by decide +kernel
theorem dX2_rod_14 : decode cX2_rod 14 = .ok (.aload_n 0, 1) := by decide +kernel
theorem dX2_rod_15 : decode cX2_rod 15 = .ok (.getfield 19, 3) := by decide +kernel
theorem dX2_rod_18 : decode cX2_rod 18 = .ok (.istore_n 2, 1) := by decide +kernel
theorem dX2_rod_19 : decode cX2_rod 19 = .ok (.aload_n 0, 1) := by decide +kernel
theorem dX2_rod_20 : decode cX2_rod 20 = .ok (.iload_n 1, 1) := by decide +kernel
theorem dX2_rod_21 : decode cX2_rod 21 = .ok (.putfield 19, 3) := by decide +kernel
theorem dX2_rod_24 : decode cX2_rod 24 = .ok (.iload_n 2, 1) := by decide +kernel
theorem dX2_rod_25 : decode cX2_rod 25 = .ok (.ireturn, 1) := by decide +kernel
theorem dX2_common_0 : decode cX2_common 0 = .ok (.lload_n 0, 1) := by decide +kernel
theorem dX2_common_1 : decode cX2_common 1 = .ok (.lconst 0, 1) := by decide +kernel
theorem dX2_common_2 : decode cX2_common 2 = .ok (.lcmp, 1) := by decide +kernel
theorem dX2_common_3 : decode cX2_common 3 = .ok (.ifCond .ge 8, 3) := by decide +kernel
theorem dX2_common_6 : decode cX2_common 6 = .ok (.lload_n 0, 1) := by decide +kernel
theorem dX2_common_7 : decode cX2_common 7 = .ok (.lneg, 1) := by decide +kernel
theorem dX2_common_8 : decode cX2_common 8 = .ok (.goto 4, 3) := by decide +kernel
theorem dX2_common_11 : decode cX2_common 11 = .ok (.lload_n 0, 1) := by decide +kernel
theorem dX2_common_12 : decode cX2_common 12 = .ok (.lstore 4, 2) := by decide +kernel
theorem dX2_common_14 : decode cX2_common 14 = .ok (.lload_n 2, 1) := by decide +kernel
theorem dX2_common_15 : decode cX2_common 15 = .ok (.lconst 0, 1) := by decide +kernel
theorem dX2_common_16 : decode cX2_common 16 = .ok (.lcmp, 1) := by decide +kernel
theorem dX2_common_17 : decode cX2_common 17 = .ok (.ifCond .ge 8, 3) := by decide +kernel
theorem dX2_common_20 : decode cX2_common 20 = .ok (.lload_n 2, 1) := by decide +kernel
theorem dX2_common_21 : decode cX2_common 21 = .ok (.lneg, 1) := by decide +kernel
theorem dX2_common_22 : decode cX2_common 22 = .ok (.goto 4, 3) := by decide +kernel
theorem dX2_common_25 : decode cX2_common 25 = .ok (.lload_n 2, 1) := by decide +kernel
theorem dX2_common_26 : decode cX2_common 26 = .ok (.lstore 6, 2) := by decide +kernel
theorem dX2_common_28 : decode cX2_common 28 = .ok (.lload 6, 2) := by decide +kernel
theorem dX2_common_30 : decode cX2_common 30 = .ok (.lconst 0, 1) := by decide +kernel
theorem dX2_common_31 : decode cX2_common 31 = .ok (.lcmp, 1) := by decide +kernel
theorem dX2_common_32 : decode cX2_common 32 = .ok (.ifCond .eq 21, 3) := by decide +kernel
theorem dX2_common_35 : decode cX2_common 35 = .ok (.lload 4, 2) := by decide +kernel
theorem dX2_common_37 : decode cX2_common 37 = .ok (.lload 6, 2) := by decide +kernel
theorem dX2_common_39 : decode cX2_common 39 = .ok (.lrem, 1) := by decide +kernel
theorem dX2_common_40 : decode cX2_common 40 = .ok (.lstore 8, 2) := by decide +kernel
theorem dX2_common_42 : decode cX2_common 42 = .ok (.lload 6, 2) := by decide +kernel
theorem dX2_common_44 : decode cX2_common 44 = .ok (.lstore 4, 2) := by decide +kernel
theorem dX2_common_46 : decode cX2_common 46 = .ok (.lload 8, 2) := by decide +kernel
theorem dX2_common_48 : decode cX2_common 48 = .ok (.lstore 6, 2) := by decide +kernel
theorem dX2_common_50 : decode cX2_common 50 = .ok (.goto (-22), 3) := by decide +kernel
theorem dX2_common_53 : decode cX2_common 53 = .ok (.lload 4, 2) := by decide +kernel
theorem dX2_common_55 : decode cX2_common 55 = .ok (.lreturn, 1) := by decide +kernel
set_option maxRecDepth 20000 in
theorem ggX2_term_X2_common : GoodIn wsX2_term wsX2_common := goodIn_r _ [4] (by decide +kernel) (by decide +kernel)
set_option maxRecDepth 20000 in
theorem gX2_term_X2_common : GoodIn wsX2_term (va_wsS RX2 104 yX2_common wsX2_common) := goodIn_app (goodIn_of _ (by decide +kernel)) ggX2_term_X2_common
theorem dX2_term_0 : decode cX2_term 0 = .ok (.lload_n 0, 1) := by decide +kernel
theorem dX2_term_1 : decode cX2_term 1 = .ok (.lload_n 2, 1) := by decide +kernel
theorem dX2_term_2 : decode cX2_term 2 = .ok (.invokestatic 104, 3) := by decide +kernel
theorem dX2_term_5 : decode cX2_term 5 = .ok (.lstore 5, 2) := by decide +kernel
theorem dX2_term_7 : decode cX2_term 7 = .ok (.iload 4, 2) := by decide +kernel
theorem dX2_term_9 : decode cX2_term 9 = .ok (.ifCond .ne 10, 3) := by decide +kernel
theorem dX2_term_12 : decode cX2_term 12 = .ok (.lload_n 0, 1) := by decide +kernel
theorem dX2_term_13 : decode cX2_term 13 = .ok (.lload 5, 2) := by decide +kernel
theorem dX2_term_15 : decode cX2_term 15 = .ok (.ldiv, 1) := by decide +kernel
theorem dX2_term_16 : decode cX2_term 16 = .ok (.goto 7, 3) := by decide +kernel
theorem dX2_term_19 : decode cX2_term 19 = .ok (.lload_n 2, 1) := by decide +kernel
theorem dX2_term_20 : decode cX2_term 20 = .ok (.lload 5, 2) := by decide +kernel
theorem dX2_term_22 : decode cX2_term 22 = .ok (.ldiv, 1) := by decide +kernel
theorem dX2_term_23 : decode cX2_term 23 = .ok (.lreturn, 1) := by decide +kernel
set_option maxRecDepth 20000 in
theorem ggX2_isPart_X2_in : GoodIn wsX2_isPart wsX2_in := goodIn_r _ [4] (by decide +kernel) (by decide +kernel)
set_option maxRecDepth 20000 in
theorem gX2_isPart_X2_in : GoodIn wsX2_isPart (va_wsS RX2 38 yX2_in wsX2_in) := goodIn_app (goodIn_of _ (by decide +kernel)) ggX2_isPart_X2_in
theorem dX2_isPart_0 : decode cX2_isPart 0 = .ok (.iload_n 0, 1) := by decide +kernel
theorem dX2_isPart_1 : decode cX2_isPart 1 = .ok (.iconst 0, 1) := by decide +kernel
theorem dX2_isPart_2 : decode cX2_isPart 2 = .ok (.iconst 1, 1) := by decide +kernel
theorem dX2_isPart_3 : decode cX2_isPart 3 = .ok (.invokestatic 38, 3) := by decide +kernel
theorem dX2_isPart_6 : decode cX2_isPart 6 = .ok (.ireturn, 1) := by decide +kernel
set_option maxRecDepth 20000 in
theorem ggX2_canGo_X2_y : GoodIn wsX2_canGo wsX2_y := goodIn_r _ [7, 8, 1, 9, 10, 11, 12, 13, 14, 15, 16, 17, 18, 19, 20, 21] (by decide +kernel) (by decide +kernel)
set_option maxRecDepth 20000 in
theorem gX2_canGo_X2_y : GoodIn wsX2_canGo (wsV RX2 57 RX2 yX2_y wsX2_y) := goodIn_app (goodIn_of _ (by decide +kernel)) ggX2_canGo_X2_y
theorem dX2_canGo_0 : decode cX2_canGo 0 = .ok (.iconst 1, 1) := by decide +kernel
theorem dX2_canGo_1 : decode cX2_canGo 1 = .ok (.istore_n 2, 1) := by decide +kernel
theorem dX2_canGo_2 : decode cX2_canGo 2 = .ok (.iconst 0, 1) := by decide +kernel
theorem dX2_canGo_3 : decode cX2_canGo 3 = .ok (.istore_n 3, 1) := by decide +kernel
theorem dX2_canGo_4 : decode cX2_canGo 4 = .ok (.iload_n 3, 1) := by decide +kernel
theorem dX2_canGo_5 : decode cX2_canGo 5 = .ok (.aload_n 0, 1) := by decide +kernel
theorem dX2_canGo_6 : decode cX2_canGo 6 = .ok (.getfield 7, 3) := by decide +kernel
theorem dX2_canGo_9 : decode cX2_canGo 9 = .ok (.iload_n 1, 1) := by decide +kernel
theorem dX2_canGo_10 : decode cX2_canGo 10 = .ok (.iaload, 1) := by decide +kernel
theorem dX2_canGo_11 : decode cX2_canGo 11 = .ok (.if_icmp .ge 46, 3) := by decide +kernel
theorem dX2_canGo_14 : decode cX2_canGo 14 = .ok (.iload_n 2, 1) := by decide +kernel
theorem dX2_canGo_15 : decode cX2_canGo 15 = .ok (.ifCond .eq 34, 3) := by decide +kernel
theorem dX2_canGo_18 : decode cX2_canGo 18 = .ok (.aload_n 0, 1) := by decide +kernel
theorem dX2_canGo_19 : decode cX2_canGo 19 = .ok (.iload_n 1, 1) := by decide +kernel
theorem dX2_canGo_20 : decode cX2_canGo 20 = .ok (.iload_n 3, 1) := by decide +kernel
theorem dX2_canGo_21 : decode cX2_canGo 21 = .ok (.invokevirtual 57, 3) := by decide +kernel
theorem dX2_canGo_24 : decode cX2_canGo 24 = .ok (.aload_n 0, 1) := by decide +kernel
theorem dX2_canGo_25 : decode cX2_canGo 25 = .ok (.getfield 19, 3) := by decide +kernel
theorem dX2_canGo_28 : decode cX2_canGo 28 = .ok (.if_icmp .ge 21, 3) := by decide +kernel
theorem dX2_canGo_31 : decode cX2_canGo 31 = .ok (.aload_n 0, 1) := by decide +kernel
theorem dX2_canGo_32 : decode cX2_canGo 32 = .ok (.iload_n 1, 1) := by decide +kernel
theorem dX2_canGo_33 : decode cX2_canGo 33 = .ok (.iload_n 3, 1) := by decide +kernel
theorem dX2_canGo_34 : decode cX2_canGo 34 = .ok (.invokevirtual 57, 3) := by decide +kernel
theorem dX2_canGo_37 : decode cX2_canGo 37 = .ok (.aload_n 0, 1) := by decide +kernel
theorem dX2_canGo_38 : decode cX2_canGo 38 = .ok (.getfield 19, 3) := by decide +kernel
theorem dX2_canGo_41 : decode cX2_canGo 41 = .ok (.ineg, 1) := by decide +kernel
theorem dX2_canGo_42 : decode cX2_canGo 42 = .ok (.if_icmp .le 7, 3) := by decide +kernel
theorem dX2_canGo_45 : decode cX2_canGo 45 = .ok (.iconst 1, 1) := by decide +kernel
theorem dX2_canGo_46 : decode cX2_canGo 46 = .ok (.goto 4, 3) := by decide +kernel
theorem dX2_canGo_49 : decode cX2_canGo 49 = .ok (.iconst 0, 1) := by decide +kernel
theorem dX2_canGo_50 : decode cX2_canGo 50 = .ok (.istore_n 2, 1) := by decide +kernel
theorem dX2_canGo_51 : decode cX2_canGo 51 = .ok (.iinc 3 1, 3) := by decide +kernel
theorem dX2_canGo_54 : decode cX2_canGo 54 = .ok (.goto (-50), 3) := by decide +kernel
theorem dX2_canGo_57 : decode cX2_canGo 57 = .ok (.iload_n 2, 1) := by decide +kernel
theorem dX2_canGo_58 : decode cX2_canGo 58 = .ok (.ireturn, 1) := by decide +kernel
set_option maxRecDepth 20000 in
theorem ggX2_along_X2_x : GoodIn wsX2_along wsX2_x := goodIn_r _ [5, 6, 7, 13, 14, 15, 16, 17, 18, 19, 20, 21, 22, 23, 24, 25] (by decide +kernel) (by decide +kernel)
set_option maxRecDepth 20000 in
theorem gX2_along_X2_x : GoodIn wsX2_along (wsV RX2 53 RX2 yX2_x wsX2_x) := goodIn_app (goodIn_of _ (by decide +kernel)) ggX2_along_X2_x
set_option maxRecDepth 20000 in
theorem ggX2_along_X2_y : GoodIn wsX2_along wsX2_y := goodIn_r _ [11, 12, 7, 13, 14, 15, 16, 17, 18, 19, 20, 21, 22, 23, 24, 25] (by decide +kernel) (by decide +kernel)
set_option maxRecDepth 20000 in
theorem gX2_along_X2_y : GoodIn wsX2_along (wsV RX2 57 RX2 yX2_y wsX2_y) := goodIn_app (goodIn_of _ (by decide +kernel)) ggX2_along_X2_y
theorem dX2_along_0 : decode cX2_along 0 = .ok (.lconst 0, 1) := by decide +kernel
theorem dX2_along_1 : decode cX2_along 1 = .ok (.lstore 4, 2) := by decide +kernel
theorem dX2_along_3 : decode cX2_along 3 = .ok (.iconst 0, 1) := by decide +kernel
theorem dX2_along_4 : decode cX2_along 4 = .ok (.istore 6, 2) := by decide +kernel
theorem dX2_along_6 : decode cX2_along 6 = .ok (.iload 6, 2) := by decide +kernel
theorem dX2_along_8 : decode cX2_along 8 = .ok (.iload_n 2, 1) := by decide +kernel
theorem dX2_along_9 : decode cX2_along 9 = .ok (.if_icmp .ge 136, 3) := by decide +kernel
theorem dX2_along_12 : decode cX2_along 12 = .ok (.aload_n 0, 1) := by decide +kernel
theorem dX2_along_13 : decode cX2_along 13 = .ok (.iload_n 1, 1) := by decide +kernel
theorem dX2_along_14 : decode cX2_along 14 = .ok (.iload 6, 2) := by decide +kernel
theorem dX2_along_16 : decode cX2_along 16 = .ok (.iconst 1, 1) := by decide +kernel
theorem dX2_along_17 : decode cX2_along 17 = .ok (.iadd, 1) := by decide +kernel
theorem dX2_along_18 : decode cX2_along 18 = .ok (.invokevirtual 53, 3) := by decide +kernel
theorem dX2_along_21 : decode cX2_along 21 = .ok (.aload_n 0, 1) := by decide +kernel
theorem dX2_along_22 : decode cX2_along 22 = .ok (.iload_n 1, 1) := by decide +kernel
theorem dX2_along_23 : decode cX2_along 23 = .ok (.iload 6, 2) := by decide +kernel
theorem dX2_along_25 : decode cX2_along 25 = .ok (.invokevirtual 53, 3) := by decide +kernel
theorem dX2_along_28 : decode cX2_along 28 = .ok (.isub, 1) := by decide +kernel
theorem dX2_along_29 : decode cX2_along 29 = .ok (.i2l, 1) := by decide +kernel
theorem dX2_along_30 : decode cX2_along 30 = .ok (.lstore 7, 2) := by decide +kernel
theorem dX2_along_32 : decode cX2_along 32 = .ok (.aload_n 0, 1) := by decide +kernel
theorem dX2_along_33 : decode cX2_along 33 = .ok (.iload_n 1, 1) := by decide +kernel
theorem dX2_along_34 : decode cX2_along 34 = .ok (.iload 6, 2) := by decide +kernel
theorem dX2_along_36 : decode cX2_along 36 = .ok (.invokevirtual 57, 3) := by decide +kernel
theorem dX2_along_39 : decode cX2_along 39 = .ok (.i2l, 1) := by decide +kernel
theorem dX2_along_40 : decode cX2_along 40 = .ok (.lstore 9, 2) := by decide +kernel
theorem dX2_along_42 : decode cX2_along 42 = .ok (.aload_n 0, 1) := by decide +kernel
theorem dX2_along_43 : decode cX2_along 43 = .ok (.iload_n 1, 1) := by decide +kernel
theorem dX2_along_44 : decode cX2_along 44 = .ok (.iload 6, 2) := by decide +kernel
theorem dX2_along_46 : decode cX2_along 46 = .ok (.iconst 1, 1) := by decide +kernel
theorem dX2_along_47 : decode cX2_along 47 = .ok (.iadd, 1) := by decide +kernel
theorem dX2_along_48 : decode cX2_along 48 = .ok (.invokevirtual 57, 3) := by decide +kernel
theorem dX2_along_51 : decode cX2_along 51 = .ok (.i2l, 1) := by decide +kernel
theorem dX2_along_52 : decode cX2_along 52 = .ok (.lstore 11, 2) := by decide +kernel
theorem dX2_along_54 : decode cX2_along 54 = .ok (.iload_n 3, 1) := by decide +kernel
theorem dX2_along_55 : decode cX2_along 55 = .ok (.iconst 1, 1) := by decide +kernel
theorem dX2_along_56 : decode cX2_along 56 = .ok (.if_icmp .ne 11, 3) := by decide +kernel
theorem dX2_along_59 : decode cX2_along 59 = .ok (.lload 9, 2) := by decide +kernel
theorem dX2_along_61 : decode cX2_along 61 = .ok (.lload 11, 2) := by decide +kernel
theorem dX2_along_63 : decode cX2_along 63 = .ok (.ladd, 1) := by decide +kernel
theorem dX2_along_64 : decode cX2_along 64 = .ok (.goto 63, 3) := by decide +kernel
theorem dX2_along_67 : decode cX2_along 67 = .ok (.iload_n 3, 1) := by decide +kernel
theorem dX2_along_68 : decode cX2_along 68 = .ok (.iconst 2, 1) := by decide +kernel
theorem dX2_along_69 : decode cX2_along 69 = .ok (.if_icmp .ne 23, 3) := by decide +kernel
theorem dX2_along_72 : decode cX2_along 72 = .ok (.lload 9, 2) := by decide +kernel
theorem dX2_along_74 : decode cX2_along 74 = .ok (.lload 9, 2) := by decide +kernel
theorem dX2_along_76 : decode cX2_along 76 = .ok (.lmul, 1) := by decide +kernel
theorem dX2_along_77 : decode cX2_along 77 = .ok (.lload 9, 2) := by decide +kernel
theorem dX2_along_79 : decode cX2_along 79 = .ok (.lload 11, 2) := by decide +kernel
theorem dX2_along_81 : decode cX2_along 81 = .ok (.lmul, 1) := by decide +kernel
theorem dX2_along_82 : decode cX2_along 82 = .ok (.ladd, 1) := by decide +kernel
theorem dX2_along_83 : decode cX2_along 83 = .ok (.lload 11, 2) := by decide +kernel
theorem dX2_along_85 : decode cX2_along 85 = .ok (.lload 11, 2) := by decide +kernel
theorem dX2_along_87 : decode cX2_along 87 = .ok (.lmul, 1) := by decide +kernel
theorem dX2_along_88 : decode cX2_along 88 = .ok (.ladd, 1) := by decide +kernel
theorem dX2_along_89 : decode cX2_along 89 = .ok (.goto 38, 3) := by decide +kernel
theorem dX2_along_92 : decode cX2_along 92 = .ok (.lload 9, 2) := by decide +kernel
theorem dX2_along_94 : decode cX2_along 94 = .ok (.lload 9, 2) := by decide +kernel
theorem dX2_along_96 : decode cX2_along 96 = .ok (.lmul, 1) := by decide +kernel
theorem dX2_along_97 : decode cX2_along 97 = .ok (.lload 9, 2) := by decide +kernel
theorem dX2_along_99 : decode cX2_along 99 = .ok (.lmul, 1) := by decide +kernel
theorem dX2_along_100 : decode cX2_along 100 = .ok (.lload 9, 2) := by decide +kernel
theorem dX2_along_102 : decode cX2_along 102 = .ok (.lload 9, 2) := by decide +kernel
theorem dX2_along_104 : decode cX2_along 104 = .ok (.lmul, 1) := by decide +kernel
theorem dX2_along_105 : decode cX2_along 105 = .ok (.lload 11, 2) := by decide +kernel
theorem dX2_along_107 : decode cX2_along 107 = .ok (.lmul, 1) := by decide +kernel
theorem dX2_along_108 : decode cX2_along 108 = .ok (.ladd, 1) := by decide +kernel
theorem dX2_along_109 : decode cX2_along 109 = .ok (.lload 9, 2) := by decide +kernel
theorem dX2_along_111 : decode cX2_along 111 = .ok (.lload 11, 2) := by decide +kernel
theorem dX2_along_113 : decode cX2_along 113 = .ok (.lmul, 1) := by decide +kernel
theorem dX2_along_114 : decode cX2_along 114 = .ok (.lload 11, 2) := by decide +kernel
theorem dX2_along_116 : decode cX2_along 116 = .ok (.lmul, 1) := by decide +kernel
theorem dX2_along_117 : decode cX2_along 117 = .ok (.ladd, 1) := by decide +kernel
theorem dX2_along_118 : decode cX2_along 118 = .ok (.lload 11, 2) := by decide +kernel
theorem dX2_along_120 : decode cX2_along 120 = .ok (.lload 11, 2) := by decide +kernel
theorem dX2_along_122 : decode cX2_along 122 = .ok (.lmul, 1) := by decide +kernel
theorem dX2_along_123 : decode cX2_along 123 = .ok (.lload 11, 2) := by decide +kernel
theorem dX2_along_125 : decode cX2_along 125 = .ok (.lmul, 1) := by decide +kernel
theorem dX2_along_126 : decode cX2_along 126 = .ok (.ladd, 1) := by decide +kernel
theorem dX2_along_127 : decode cX2_along 127 = .ok (.lstore 13, 2) := by decide +kernel
theorem dX2_along_129 : decode cX2_along 129 = .ok (.lload 4, 2) := by decide +kernel
theorem dX2_along_131 : decode cX2_along 131 = .ok (.lload 7, 2) := by decide +kernel
theorem dX2_along_133 : decode cX2_along 133 = .ok (.lload 13, 2) := by decide +kernel
theorem dX2_along_135 : decode cX2_along 135 = .ok (.lmul, 1) := by decide +kernel
theorem dX2_along_136 : decode cX2_along 136 = .ok (.ladd, 1) := by decide +kernel
theorem dX2_along_137 : decode cX2_along 137 = .ok (.lstore 4, 2) := by decide +kernel
theorem dX2_along_139 : decode cX2_along 139 = .ok (.iinc 6 1, 3) := by decide +kernel
theorem dX2_along_142 : decode cX2_along 142 = .ok (.goto (-136), 3) := by decide +kernel
theorem dX2_along_145 : decode cX2_along 145 = .ok (.lload 4, 2) := by decide +kernel
theorem dX2_along_147 : decode cX2_along 147 = .ok (.lreturn, 1) := by decide +kernel
set_option maxRecDepth 20000 in
theorem ggX2_told_X2_isFigure : GoodIn wsX2_told wsX2_isFigure := goodIn_r _ [10, 11, 12, 9, 13] (by decide +kernel) (by decide +kernel)
set_option maxRecDepth 20000 in
theorem gX2_told_X2_isFigure : GoodIn wsX2_told (va_wsS RX2 42 yX2_isFigure wsX2_isFigure) := goodIn_app (goodIn_of _ (by decide +kernel)) ggX2_told_X2_isFigure
set_option maxRecDepth 20000 in
theorem ggX2_told_X2_in : GoodIn wsX2_told wsX2_in := goodIn_r _ [13] (by decide +kernel) (by decide +kernel)
set_option maxRecDepth 20000 in
theorem gX2_told_X2_in : GoodIn wsX2_told (va_wsS RX2 38 yX2_in wsX2_in) := goodIn_app (goodIn_of _ (by decide +kernel)) ggX2_told_X2_in
set_option maxRecDepth 20000 in
theorem ggX2_told_X2_isPart : GoodIn wsX2_told wsX2_isPart := goodIn_r _ [16, 11, 12, 9, 13] (by decide +kernel) (by decide +kernel)
set_option maxRecDepth 20000 in
theorem gX2_told_X2_isPart : GoodIn wsX2_told (va_wsS RX2 108 yX2_isPart wsX2_isPart) := goodIn_app (goodIn_of _ (by decide +kernel)) ggX2_told_X2_isPart
set_option maxRecDepth 20000 in
theorem ggX2_told_X2_isClosed : GoodIn wsX2_told wsX2_isClosed := goodIn_r _ [20, 2, 45, 46, 47, 48, 49, 50, 51, 52, 53, 54, 55, 56, 57] (by decide +kernel) (by decide +kernel)
set_option maxRecDepth 20000 in
theorem gX2_told_X2_isClosed : GoodIn wsX2_told (wsV RX2 73 RX2 yX2_isClosed wsX2_isClosed) := goodIn_app (goodIn_of _ (by decide +kernel)) ggX2_told_X2_isClosed
set_option maxRecDepth 20000 in
theorem ggX2_told_X2_canGo : GoodIn wsX2_told wsX2_canGo := goodIn_r _ [24, 2, 5, 25, 26, 27, 9, 28, 29, 45, 46, 47, 48, 49, 50, 51, 52, 53, 54, 55, 56, 57] (by decide +kernel) (by decide +kernel)
set_option maxRecDepth 20000 in
theorem gX2_told_X2_canGo : GoodIn wsX2_told (wsV RX2 113 RX2 yX2_canGo wsX2_canGo) := goodIn_app (goodIn_of _ (by decide +kernel)) ggX2_told_X2_canGo
set_option maxRecDepth 20000 in
theorem ggX2_told_X2_along : GoodIn wsX2_told wsX2_along := goodIn_r _ [33, 34, 35, 36, 9, 37, 38, 2, 25, 26, 27, 28, 29, 45, 46, 47, 48, 49, 50, 51, 52, 53, 54, 55, 56, 57] (by decide +kernel) (by decide +kernel)
set_option maxRecDepth 20000 in
theorem gX2_told_X2_along : GoodIn wsX2_told (wsV RX2 116 RX2 yX2_along wsX2_along) := goodIn_app (goodIn_of _ (by decide +kernel)) ggX2_told_X2_along
set_option maxRecDepth 20000 in
theorem ggX2_told_X2_term : GoodIn wsX2_told wsX2_term := goodIn_r _ [41, 42, 43, 9, 44] (by decide +kernel) (by decide +kernel)
set_option maxRecDepth 20000 in
theorem gX2_told_X2_term : GoodIn wsX2_told (va_wsS RX2 122 yX2_term wsX2_term) := goodIn_app (goodIn_of _ (by decide +kernel)) ggX2_told_X2_term
theorem dX2_told_0 : decode cX2_told 0 = .ok (.iload_n 1, 1) := by decide +kernel
theorem dX2_told_1 : decode cX2_told 1 = .ok (.invokestatic 42, 3) := by decide +kernel
theorem dX2_told_4 : decode cX2_told 4 = .ok (.ifCond .ne 7, 3) := by decide +kernel
theorem dX2_told_7 : decode cX2_told 7 = .ok (.ldc2_w 71, 3) := by decide +kernel
theorem dX2_told_10 : decode cX2_told 10 = .ok (.lreturn, 1) := by decide +kernel
theorem dX2_told_11 : decode cX2_told 11 = .ok (.iload_n 2, 1) := by decide +kernel
theorem dX2_told_12 : decode cX2_told 12 = .ok (.iconst 0, 1) := by decide +kernel
theorem dX2_told_13 : decode cX2_told 13 = .ok (.aload_n 0, 1) := by decide +kernel
theorem dX2_told_14 : decode cX2_told 14 = .ok (.getfield 7, 3) := by decide +kernel
theorem dX2_told_17 : decode cX2_told 17 = .ok (.iload_n 1, 1) := by decide +kernel
theorem dX2_told_18 : decode cX2_told 18 = .ok (.iaload, 1) := by decide +kernel
theorem dX2_told_19 : decode cX2_told 19 = .ok (.invokestatic 38, 3) := by decide +kernel
theorem dX2_told_22 : decode cX2_told 22 = .ok (.ifCond .eq 10, 3) := by decide +kernel
theorem dX2_told_25 : decode cX2_told 25 = .ok (.iload_n 3, 1) := by decide +kernel
theorem dX2_told_26 : decode cX2_told 26 = .ok (.invokestatic 108, 3) := by decide +kernel
theorem dX2_told_29 : decode cX2_told 29 = .ok (.ifCond .ne 7, 3) := by decide +kernel
theorem dX2_told_32 : decode cX2_told 32 = .ok (.ldc2_w 111, 3) := by decide +kernel
theorem dX2_told_35 : decode cX2_told 35 = .ok (.lreturn, 1) := by decide +kernel
theorem dX2_told_36 : decode cX2_told 36 = .ok (.aload_n 0, 1) := by decide +kernel
theorem dX2_told_37 : decode cX2_told 37 = .ok (.iload_n 1, 1) := by decide +kernel
theorem dX2_told_38 : decode cX2_told 38 = .ok (.invokevirtual 73, 3) := by decide +kernel
theorem dX2_told_41 : decode cX2_told 41 = .ok (.ifCond .eq 34, 3) := by decide +kernel
theorem dX2_told_44 : decode cX2_told 44 = .ok (.aload_n 0, 1) := by decide +kernel
theorem dX2_told_45 : decode cX2_told 45 = .ok (.iload_n 1, 1) := by decide +kernel
theorem dX2_told_46 : decode cX2_told 46 = .ok (.invokevirtual 113, 3) := by decide +kernel
theorem dX2_told_49 : decode cX2_told 49 = .ok (.ifCond .eq 26, 3) := by decide +kernel
theorem dX2_told_52 : decode cX2_told 52 = .ok (.aload_n 0, 1) := by decide +kernel
theorem dX2_told_53 : decode cX2_told 53 = .ok (.iload_n 1, 1) := by decide +kernel
theorem dX2_told_54 : decode cX2_told 54 = .ok (.iload_n 2, 1) := by decide +kernel
theorem dX2_told_55 : decode cX2_told 55 = .ok (.iconst 1, 1) := by decide +kernel
theorem dX2_told_56 : decode cX2_told 56 = .ok (.invokevirtual 116, 3) := by decide +kernel
theorem dX2_told_59 : decode cX2_told 59 = .ok (.ldc2_w 120, 3) := by decide +kernel
theorem dX2_told_62 : decode cX2_told 62 = .ok (.aload_n 0, 1) := by decide +kernel
theorem dX2_told_63 : decode cX2_told 63 = .ok (.getfield 19, 3) := by decide +kernel
theorem dX2_told_66 : decode cX2_told 66 = .ok (.i2l, 1) := by decide +kernel
theorem dX2_told_67 : decode cX2_told 67 = .ok (.lmul, 1) := by decide +kernel
theorem dX2_told_68 : decode cX2_told 68 = .ok (.iload_n 3, 1) := by decide +kernel
theorem dX2_told_69 : decode cX2_told 69 = .ok (.invokestatic 122, 3) := by decide +kernel
theorem dX2_told_72 : decode cX2_told 72 = .ok (.goto 6, 3) := by decide +kernel
theorem dX2_told_75 : decode cX2_told 75 = .ok (.ldc2_w 80, 3) := by decide +kernel
theorem dX2_told_78 : decode cX2_told 78 = .ok (.lreturn, 1) := by decide +kernel
set_option maxRecDepth 20000 in
theorem ggX2_can_X2_isFigure : GoodIn wsX2_can wsX2_isFigure := goodIn_r _ [4, 5, 6, 3, 7] (by decide +kernel) (by decide +kernel)
set_option maxRecDepth 20000 in
theorem gX2_can_X2_isFigure : GoodIn wsX2_can (va_wsS RX2 42 yX2_isFigure wsX2_isFigure) := goodIn_app (goodIn_of _ (by decide +kernel)) ggX2_can_X2_isFigure
set_option maxRecDepth 20000 in
theorem ggX2_can_X2_isClosed : GoodIn wsX2_can wsX2_isClosed := goodIn_r _ [11, 12, 23, 24, 25, 26, 27, 28, 29, 30, 31, 32, 33, 34, 35] (by decide +kernel) (by decide +kernel)
set_option maxRecDepth 20000 in
theorem gX2_can_X2_isClosed : GoodIn wsX2_can (wsV RX2 73 RX2 yX2_isClosed wsX2_isClosed) := goodIn_app (goodIn_of _ (by decide +kernel)) ggX2_can_X2_isClosed
set_option maxRecDepth 20000 in
theorem ggX2_can_X2_canGo : GoodIn wsX2_can wsX2_canGo := goodIn_r _ [16, 12, 17, 18, 19, 20, 3, 21, 22, 23, 24, 25, 26, 27, 28, 29, 30, 31, 32, 33, 34, 35] (by decide +kernel) (by decide +kernel)
set_option maxRecDepth 20000 in
theorem gX2_can_X2_canGo : GoodIn wsX2_can (wsV RX2 113 RX2 yX2_canGo wsX2_canGo) := goodIn_app (goodIn_of _ (by decide +kernel)) ggX2_can_X2_canGo
theorem dX2_can_0 : decode cX2_can 0 = .ok (.iload_n 1, 1) := by decide +kernel
theorem dX2_can_1 : decode cX2_can 1 = .ok (.invokestatic 42, 3) := by decide +kernel
theorem dX2_can_4 : decode cX2_can 4 = .ok (.ifCond .ne 7, 3) := by decide +kernel
theorem dX2_can_7 : decode cX2_can 7 = .ok (.iconst (-1), 1) := by decide +kernel
theorem dX2_can_8 : decode cX2_can 8 = .ok (.goto 29, 3) := by decide +kernel
theorem dX2_can_11 : decode cX2_can 11 = .ok (.aload_n 0, 1) := by decide +kernel
theorem dX2_can_12 : decode cX2_can 12 = .ok (.iload_n 1, 1) := by decide +kernel
theorem dX2_can_13 : decode cX2_can 13 = .ok (.invokevirtual 73, 3) := by decide +kernel
theorem dX2_can_16 : decode cX2_can 16 = .ok (.ifCond .ne 8, 3) := by decide +kernel
theorem dX2_can_19 : decode cX2_can 19 = .ok (.bipush (-3), 2) := by decide +kernel
theorem dX2_can_21 : decode cX2_can 21 = .ok (.goto 16, 3) := by decide +kernel
theorem dX2_can_24 : decode cX2_can 24 = .ok (.aload_n 0, 1) := by decide +kernel
theorem dX2_can_25 : decode cX2_can 25 = .ok (.iload_n 1, 1) := by decide +kernel
theorem dX2_can_26 : decode cX2_can 26 = .ok (.invokevirtual 113, 3) := by decide +kernel
theorem dX2_can_29 : decode cX2_can 29 = .ok (.ifCond .eq 7, 3) := by decide +kernel
theorem dX2_can_32 : decode cX2_can 32 = .ok (.iconst 1, 1) := by decide +kernel
theorem dX2_can_33 : decode cX2_can 33 = .ok (.goto 4, 3) := by decide +kernel
theorem dX2_can_36 : decode cX2_can 36 = .ok (.iconst 0, 1) := by decide +kernel
theorem dX2_can_37 : decode cX2_can 37 = .ok (.ireturn, 1) := by decide +kernel
theorem dX2_standsWell_0 : decode cX2_standsWell 0 = .ok (.aload_n 0, 1) := by decide +kernel
theorem dX2_standsWell_1 : decode cX2_standsWell 1 = .ok (.getfield 19, 3) := by decide +kernel
theorem dX2_standsWell_4 : decode cX2_standsWell 4 = .ok (.i2l, 1) := by decide +kernel
theorem dX2_standsWell_5 : decode cX2_standsWell 5 = .ok (.aload_n 0, 1) := by decide +kernel
theorem dX2_standsWell_6 : decode cX2_standsWell 6 = .ok (.getfield 19, 3) := by decide +kernel
theorem dX2_standsWell_9 : decode cX2_standsWell 9 = .ok (.i2l, 1) := by decide +kernel
theorem dX2_standsWell_10 : decode cX2_standsWell 10 = .ok (.lmul, 1) := by decide +kernel
theorem dX2_standsWell_11 : decode cX2_standsWell 11 = .ok (.iload_n 2, 1) := by decide +kernel
theorem dX2_standsWell_12 : decode cX2_standsWell 12 = .ok (.i2l, 1) := by decide +kernel
theorem dX2_standsWell_13 : decode cX2_standsWell 13 = .ok (.iload_n 2, 1) := by decide +kernel
theorem dX2_standsWell_14 : decode cX2_standsWell 14 = .ok (.i2l, 1) := by decide +kernel
theorem dX2_standsWell_15 : decode cX2_standsWell 15 = .ok (.lmul, 1) := by decide +kernel
theorem dX2_standsWell_16 : decode cX2_standsWell 16 = .ok (.lsub, 1) := by decide +kernel
theorem dX2_standsWell_17 : decode cX2_standsWell 17 = .ok (.lstore 5, 2) := by decide +kernel
theorem dX2_standsWell_19 : decode cX2_standsWell 19 = .ok (.iload_n 1, 1) := by decide +kernel
theorem dX2_standsWell_20 : decode cX2_standsWell 20 = .ok (.iload_n 3, 1) := by decide +kernel
theorem dX2_standsWell_21 : decode cX2_standsWell 21 = .ok (.isub, 1) := by decide +kernel
theorem dX2_standsWell_22 : decode cX2_standsWell 22 = .ok (.i2l, 1) := by decide +kernel
theorem dX2_standsWell_23 : decode cX2_standsWell 23 = .ok (.lstore 7, 2) := by decide +kernel
theorem dX2_standsWell_25 : decode cX2_standsWell 25 = .ok (.iload_n 1, 1) := by decide +kernel
theorem dX2_standsWell_26 : decode cX2_standsWell 26 = .ok (.iload 4, 2) := by decide +kernel
theorem dX2_standsWell_28 : decode cX2_standsWell 28 = .ok (.isub, 1) := by decide +kernel
theorem dX2_standsWell_29 : decode cX2_standsWell 29 = .ok (.i2l, 1) := by decide +kernel
theorem dX2_standsWell_30 : decode cX2_standsWell 30 = .ok (.lstore 9, 2) := by decide +kernel
theorem dX2_standsWell_32 : decode cX2_standsWell 32 = .ok (.lload 7, 2) := by decide +kernel
theorem dX2_standsWell_34 : decode cX2_standsWell 34 = .ok (.lconst 0, 1) := by decide +kernel
theorem dX2_standsWell_35 : decode cX2_standsWell 35 = .ok (.lcmp, 1) := by decide +kernel
theorem dX2_standsWell_36 : decode cX2_standsWell 36 = .ok (.ifCond .lt 36, 3) := by decide +kernel
theorem dX2_standsWell_39 : decode cX2_standsWell 39 = .ok (.lload 7, 2) := by decide +kernel
theorem dX2_standsWell_41 : decode cX2_standsWell 41 = .ok (.lload 7, 2) := by decide +kernel
theorem dX2_standsWell_43 : decode cX2_standsWell 43 = .ok (.lmul, 1) := by decide +kernel
theorem dX2_standsWell_44 : decode cX2_standsWell 44 = .ok (.lload 5, 2) := by decide +kernel
theorem dX2_standsWell_46 : decode cX2_standsWell 46 = .ok (.lcmp, 1) := by decide +kernel
theorem dX2_standsWell_47 : decode cX2_standsWell 47 = .ok (.ifCond .lt 25, 3) := by decide +kernel
theorem dX2_standsWell_50 : decode cX2_standsWell 50 = .ok (.lload 9, 2) := by decide +kernel
theorem dX2_standsWell_52 : decode cX2_standsWell 52 = .ok (.lconst 0, 1) := by decide +kernel
theorem dX2_standsWell_53 : decode cX2_standsWell 53 = .ok (.lcmp, 1) := by decide +kernel
theorem dX2_standsWell_54 : decode cX2_standsWell 54 = .ok (.ifCond .le 14, 3) := by decide +kernel
theorem dX2_standsWell_57 : decode cX2_standsWell 57 = .ok (.lload 9, 2) := by decide +kernel
theorem dX2_standsWell_59 : decode cX2_standsWell 59 = .ok (.lload 9, 2) := by decide +kernel
theorem dX2_standsWell_61 : decode cX2_standsWell 61 = .ok (.lmul, 1) := by decide +kernel
theorem dX2_standsWell_62 : decode cX2_standsWell 62 = .ok (.lload 5, 2) := by decide +kernel
theorem dX2_standsWell_64 : decode cX2_standsWell 64 = .ok (.lcmp, 1) := by decide +kernel
theorem dX2_standsWell_65 : decode cX2_standsWell 65 = .ok (.ifCond .gt 7, 3) := by decide +kernel
theorem dX2_standsWell_68 : decode cX2_standsWell 68 = .ok (.iconst 1, 1) := by decide +kernel
theorem dX2_standsWell_69 : decode cX2_standsWell 69 = .ok (.goto 4, 3) := by decide +kernel
theorem dX2_standsWell_72 : decode cX2_standsWell 72 = .ok (.iconst 0, 1) := by decide +kernel
theorem dX2_standsWell_73 : decode cX2_standsWell 73 = .ok (.ireturn, 1) := by decide +kernel
set_option maxRecDepth 20000 in
theorem ggX2_dips_X2_x : GoodIn wsX2_dips wsX2_x := goodIn_r _ [5, 6, 7, 13, 14, 15, 16, 17, 18, 19, 20, 21, 22, 23, 24, 25] (by decide +kernel) (by decide +kernel)
set_option maxRecDepth 20000 in
theorem gX2_dips_X2_x : GoodIn wsX2_dips (wsV RX2 53 RX2 yX2_x wsX2_x) := goodIn_app (goodIn_of _ (by decide +kernel)) ggX2_dips_X2_x
set_option maxRecDepth 20000 in
theorem ggX2_dips_X2_y : GoodIn wsX2_dips wsX2_y := goodIn_r _ [11, 12, 7, 13, 14, 15, 16, 17, 18, 19, 20, 21, 22, 23, 24, 25] (by decide +kernel) (by decide +kernel)
set_option maxRecDepth 20000 in
theorem gX2_dips_X2_y : GoodIn wsX2_dips (wsV RX2 57 RX2 yX2_y wsX2_y) := goodIn_app (goodIn_of _ (by decide +kernel)) ggX2_dips_X2_y
theorem dX2_dips_0 : decode cX2_dips 0 = .ok (.aload_n 0, 1) := by decide +kernel
theorem dX2_dips_1 : decode cX2_dips 1 = .ok (.iload_n 1, 1) := by decide +kernel
theorem dX2_dips_2 : decode cX2_dips 2 = .ok (.iload_n 2, 1) := by decide +kernel
theorem dX2_dips_3 : decode cX2_dips 3 = .ok (.iconst 1, 1) := by decide +kernel
theorem dX2_dips_4 : decode cX2_dips 4 = .ok (.iadd, 1) := by decide +kernel
theorem dX2_dips_5 : decode cX2_dips 5 = .ok (.invokevirtual 53, 3) := by decide +kernel
theorem dX2_dips_8 : decode cX2_dips 8 = .ok (.aload_n 0, 1) := by decide +kernel
theorem dX2_dips_9 : decode cX2_dips 9 = .ok (.iload_n 1, 1) := by decide +kernel
theorem dX2_dips_10 : decode cX2_dips 10 = .ok (.iload_n 2, 1) := by decide +kernel
theorem dX2_dips_11 : decode cX2_dips 11 = .ok (.invokevirtual 53, 3) := by decide +kernel
theorem dX2_dips_14 : decode cX2_dips 14 = .ok (.isub, 1) := by decide +kernel
theorem dX2_dips_15 : decode cX2_dips 15 = .ok (.i2l, 1) := by decide +kernel
theorem dX2_dips_16 : decode cX2_dips 16 = .ok (.lstore 7, 2) := by decide +kernel
theorem dX2_dips_18 : decode cX2_dips 18 = .ok (.aload_n 0, 1) := by decide +kernel
theorem dX2_dips_19 : decode cX2_dips 19 = .ok (.iload_n 1, 1) := by decide +kernel
theorem dX2_dips_20 : decode cX2_dips 20 = .ok (.iload_n 2, 1) := by decide +kernel
theorem dX2_dips_21 : decode cX2_dips 21 = .ok (.iconst 1, 1) := by decide +kernel
theorem dX2_dips_22 : decode cX2_dips 22 = .ok (.iadd, 1) := by decide +kernel
theorem dX2_dips_23 : decode cX2_dips 23 = .ok (.invokevirtual 57, 3) := by decide +kernel
theorem dX2_dips_26 : decode cX2_dips 26 = .ok (.aload_n 0, 1) := by decide +kernel
theorem dX2_dips_27 : decode cX2_dips 27 = .ok (.iload_n 1, 1) := by decide +kernel
theorem dX2_dips_28 : decode cX2_dips 28 = .ok (.iload_n 2, 1) := by decide +kernel
theorem dX2_dips_29 : decode cX2_dips 29 = .ok (.invokevirtual 57, 3) := by decide +kernel
theorem dX2_dips_32 : decode cX2_dips 32 = .ok (.isub, 1) := by decide +kernel
theorem dX2_dips_33 : decode cX2_dips 33 = .ok (.i2l, 1) := by decide +kernel
theorem dX2_dips_34 : decode cX2_dips 34 = .ok (.lstore 9, 2) := by decide +kernel
theorem dX2_dips_36 : decode cX2_dips 36 = .ok (.iload_n 3, 1) := by decide +kernel
theorem dX2_dips_37 : decode cX2_dips 37 = .ok (.aload_n 0, 1) := by decide +kernel
theorem dX2_dips_38 : decode cX2_dips 38 = .ok (.iload_n 1, 1) := by decide +kernel
theorem dX2_dips_39 : decode cX2_dips 39 = .ok (.iload_n 2, 1) := by decide +kernel
theorem dX2_dips_40 : decode cX2_dips 40 = .ok (.invokevirtual 53, 3) := by decide +kernel
theorem dX2_dips_43 : decode cX2_dips 43 = .ok (.isub, 1) := by decide +kernel
theorem dX2_dips_44 : decode cX2_dips 44 = .ok (.i2l, 1) := by decide +kernel
theorem dX2_dips_45 : decode cX2_dips 45 = .ok (.lstore 11, 2) := by decide +kernel
theorem dX2_dips_47 : decode cX2_dips 47 = .ok (.iload 4, 2) := by decide +kernel
theorem dX2_dips_49 : decode cX2_dips 49 = .ok (.aload_n 0, 1) := by decide +kernel
theorem dX2_dips_50 : decode cX2_dips 50 = .ok (.iload_n 1, 1) := by decide +kernel
theorem dX2_dips_51 : decode cX2_dips 51 = .ok (.iload_n 2, 1) := by decide +kernel
theorem dX2_dips_52 : decode cX2_dips 52 = .ok (.invokevirtual 57, 3) := by decide +kernel
theorem dX2_dips_55 : decode cX2_dips 55 = .ok (.isub, 1) := by decide +kernel
theorem dX2_dips_56 : decode cX2_dips 56 = .ok (.i2l, 1) := by decide +kernel
theorem dX2_dips_57 : decode cX2_dips 57 = .ok (.lstore 13, 2) := by decide +kernel
theorem dX2_dips_59 : decode cX2_dips 59 = .ok (.lload 11, 2) := by decide +kernel
theorem dX2_dips_61 : decode cX2_dips 61 = .ok (.lload 7, 2) := by decide +kernel
theorem dX2_dips_63 : decode cX2_dips 63 = .ok (.lmul, 1) := by decide +kernel
theorem dX2_dips_64 : decode cX2_dips 64 = .ok (.lload 13, 2) := by decide +kernel
theorem dX2_dips_66 : decode cX2_dips 66 = .ok (.lload 9, 2) := by decide +kernel
theorem dX2_dips_68 : decode cX2_dips 68 = .ok (.lmul, 1) := by decide +kernel
theorem dX2_dips_69 : decode cX2_dips 69 = .ok (.ladd, 1) := by decide +kernel
theorem dX2_dips_70 : decode cX2_dips 70 = .ok (.lstore 15, 2) := by decide +kernel
theorem dX2_dips_72 : decode cX2_dips 72 = .ok (.lload 7, 2) := by decide +kernel
theorem dX2_dips_74 : decode cX2_dips 74 = .ok (.lload 7, 2) := by decide +kernel
theorem dX2_dips_76 : decode cX2_dips 76 = .ok (.lmul, 1) := by decide +kernel
theorem dX2_dips_77 : decode cX2_dips 77 = .ok (.lload 9, 2) := by decide +kernel
theorem dX2_dips_79 : decode cX2_dips 79 = .ok (.lload 9, 2) := by decide +kernel
theorem dX2_dips_81 : decode cX2_dips 81 = .ok (.lmul, 1) := by decide +kernel
theorem dX2_dips_82 : decode cX2_dips 82 = .ok (.ladd, 1) := by decide +kernel
theorem dX2_dips_83 : decode cX2_dips 83 = .ok (.lstore 17, 2) := by decide +kernel
theorem dX2_dips_85 : decode cX2_dips 85 = .ok (.lload 11, 2) := by decide +kernel
theorem dX2_dips_87 : decode cX2_dips 87 = .ok (.lload 9, 2) := by decide +kernel
theorem dX2_dips_89 : decode cX2_dips 89 = .ok (.lmul, 1) := by decide +kernel
theorem dX2_dips_90 : decode cX2_dips 90 = .ok (.lload 13, 2) := by decide +kernel
theorem dX2_dips_92 : decode cX2_dips 92 = .ok (.lload 7, 2) := by decide +kernel
theorem dX2_dips_94 : decode cX2_dips 94 = .ok (.lmul, 1) := by decide +kernel
theorem dX2_dips_95 : decode cX2_dips 95 = .ok (.lsub, 1) := by decide +kernel
theorem dX2_dips_96 : decode cX2_dips 96 = .ok (.lstore 19, 2) := by decide +kernel
theorem dX2_dips_98 : decode cX2_dips 98 = .ok (.lload 15, 2) := by decide +kernel
theorem dX2_dips_100 : decode cX2_dips 100 = .ok (.lconst 0, 1) := by decide +kernel
theorem dX2_dips_101 : decode cX2_dips 101 = .ok (.lcmp, 1) := by decide +kernel
theorem dX2_dips_102 : decode cX2_dips 102 = .ok (.ifCond .le 32, 3) := by decide +kernel
theorem dX2_dips_105 : decode cX2_dips 105 = .ok (.lload 15, 2) := by decide +kernel
theorem dX2_dips_107 : decode cX2_dips 107 = .ok (.lload 17, 2) := by decide +kernel
theorem dX2_dips_109 : decode cX2_dips 109 = .ok (.lcmp, 1) := by decide +kernel
theorem dX2_dips_110 : decode cX2_dips 110 = .ok (.ifCond .ge 24, 3) := by decide +kernel
theorem dX2_dips_113 : decode cX2_dips 113 = .ok (.lload 19, 2) := by decide +kernel
theorem dX2_dips_115 : decode cX2_dips 115 = .ok (.lload 19, 2) := by decide +kernel
theorem dX2_dips_117 : decode cX2_dips 117 = .ok (.lmul, 1) := by decide +kernel
theorem dX2_dips_118 : decode cX2_dips 118 = .ok (.lload 5, 2) := by decide +kernel
theorem dX2_dips_120 : decode cX2_dips 120 = .ok (.lload 5, 2) := by decide +kernel
theorem dX2_dips_122 : decode cX2_dips 122 = .ok (.lmul, 1) := by decide +kernel
theorem dX2_dips_123 : decode cX2_dips 123 = .ok (.lload 17, 2) := by decide +kernel
theorem dX2_dips_125 : decode cX2_dips 125 = .ok (.lmul, 1) := by decide +kernel
theorem dX2_dips_126 : decode cX2_dips 126 = .ok (.lcmp, 1) := by decide +kernel
theorem dX2_dips_127 : decode cX2_dips 127 = .ok (.ifCond .ge 7, 3) := by decide +kernel
theorem dX2_dips_130 : decode cX2_dips 130 = .ok (.iconst 1, 1) := by decide +kernel
theorem dX2_dips_131 : decode cX2_dips 131 = .ok (.goto 4, 3) := by decide +kernel
theorem dX2_dips_134 : decode cX2_dips 134 = .ok (.iconst 0, 1) := by decide +kernel
theorem dX2_dips_135 : decode cX2_dips 135 = .ok (.ireturn, 1) := by decide +kernel
set_option maxRecDepth 20000 in
theorem ggX2_rail_X2_isFigure : GoodIn wsX2_rail wsX2_isFigure := goodIn_r _ [6, 7, 8, 5, 9] (by decide +kernel) (by decide +kernel)
set_option maxRecDepth 20000 in
theorem gX2_rail_X2_isFigure : GoodIn wsX2_rail (va_wsS RX2 42 yX2_isFigure wsX2_isFigure) := goodIn_app (goodIn_of _ (by decide +kernel)) ggX2_rail_X2_isFigure
set_option maxRecDepth 20000 in
theorem ggX2_rail_X2_in : GoodIn wsX2_rail wsX2_in := goodIn_r _ [9] (by decide +kernel) (by decide +kernel)
set_option maxRecDepth 20000 in
theorem gX2_rail_X2_in : GoodIn wsX2_rail (va_wsS RX2 38 yX2_in wsX2_in) := goodIn_app (goodIn_of _ (by decide +kernel)) ggX2_rail_X2_in
set_option maxRecDepth 20000 in
theorem ggX2_rail_X2_isClosed : GoodIn wsX2_rail wsX2_isClosed := goodIn_r _ [13, 1, 36, 37, 38, 39, 40, 41, 42, 43, 44, 45, 46, 47, 48] (by decide +kernel) (by decide +kernel)
set_option maxRecDepth 20000 in
theorem gX2_rail_X2_isClosed : GoodIn wsX2_rail (wsV RX2 73 RX2 yX2_isClosed wsX2_isClosed) := goodIn_app (goodIn_of _ (by decide +kernel)) ggX2_rail_X2_isClosed
set_option maxRecDepth 20000 in
theorem ggX2_rail_X2_canGo : GoodIn wsX2_rail wsX2_canGo := goodIn_r _ [17, 1, 2, 18, 19, 20, 5, 21, 22, 36, 37, 38, 39, 40, 41, 42, 43, 44, 45, 46, 47, 48] (by decide +kernel) (by decide +kernel)
set_option maxRecDepth 20000 in
theorem gX2_rail_X2_canGo : GoodIn wsX2_rail (wsV RX2 113 RX2 yX2_canGo wsX2_canGo) := goodIn_app (goodIn_of _ (by decide +kernel)) ggX2_rail_X2_canGo
set_option maxRecDepth 20000 in
theorem ggX2_rail_X2_x : GoodIn wsX2_rail wsX2_x := goodIn_r _ [26, 27, 1, 36, 37, 38, 39, 40, 41, 42, 43, 44, 45, 46, 47, 48] (by decide +kernel) (by decide +kernel)
set_option maxRecDepth 20000 in
theorem gX2_rail_X2_x : GoodIn wsX2_rail (wsV RX2 53 RX2 yX2_x wsX2_x) := goodIn_app (goodIn_of _ (by decide +kernel)) ggX2_rail_X2_x
set_option maxRecDepth 20000 in
theorem ggX2_rail_X2_y : GoodIn wsX2_rail wsX2_y := goodIn_r _ [21, 22, 1, 36, 37, 38, 39, 40, 41, 42, 43, 44, 45, 46, 47, 48] (by decide +kernel) (by decide +kernel)
set_option maxRecDepth 20000 in
theorem gX2_rail_X2_y : GoodIn wsX2_rail (wsV RX2 57 RX2 yX2_y wsX2_y) := goodIn_app (goodIn_of _ (by decide +kernel)) ggX2_rail_X2_y
set_option maxRecDepth 20000 in
theorem ggX2_rail_X2_standsWell : GoodIn wsX2_rail wsX2_standsWell := goodIn_r _ [31, 2, 36, 37, 38, 39, 40, 41, 42, 43, 44, 45, 46, 47, 48] (by decide +kernel) (by decide +kernel)
set_option maxRecDepth 20000 in
theorem gX2_rail_X2_standsWell : GoodIn wsX2_rail (wsV RX2 126 RX2 yX2_standsWell wsX2_standsWell) := goodIn_app (goodIn_of _ (by decide +kernel)) ggX2_rail_X2_standsWell
set_option maxRecDepth 20000 in
theorem ggX2_rail_X2_dips : GoodIn wsX2_rail wsX2_dips := goodIn_r _ [35, 23, 24, 25, 5, 26, 27, 1, 18, 19, 20, 21, 22, 36, 37, 38, 39, 40, 41, 42, 43, 44, 45, 46, 47, 48] (by decide +kernel) (by decide +kernel)
set_option maxRecDepth 20000 in
theorem gX2_rail_X2_dips : GoodIn wsX2_rail (wsV RX2 129 RX2 yX2_dips wsX2_dips) := goodIn_app (goodIn_of _ (by decide +kernel)) ggX2_rail_X2_dips
theorem dX2_rail_0 : decode cX2_rail 0 = .ok (.iload_n 1, 1) := by decide +kernel
theorem dX2_rail_1 : decode cX2_rail 1 = .ok (.invokestatic 42, 3) := by decide +kernel
theorem dX2_rail_4 : decode cX2_rail 4 = .ok (.ifCond .ne 5, 3) := by decide +kernel
theorem dX2_rail_7 : decode cX2_rail 7 = .ok (.iconst (-1), 1) := by decide +kernel
theorem dX2_rail_8 : decode cX2_rail 8 = .ok (.ireturn, 1) := by decide +kernel
theorem dX2_rail_9 : decode cX2_rail 9 = .ok (.iload_n 2, 1) := by decide +kernel
theorem dX2_rail_10 : decode cX2_rail 10 = .ok (.sipush (-1000), 3) := by decide +kernel
theorem dX2_rail_13 : decode cX2_rail 13 = .ok (.sipush 1000, 3) := by decide +kernel
theorem dX2_rail_16 : decode cX2_rail 16 = .ok (.invokestatic 38, 3) := by decide +kernel
theorem dX2_rail_19 : decode cX2_rail 19 = .ok (.ifCond .eq 21, 3) := by decide +kernel
theorem dX2_rail_22 : decode cX2_rail 22 = .ok (.iload_n 3, 1) := by decide +kernel
theorem dX2_rail_23 : decode cX2_rail 23 = .ok (.sipush (-1000), 3) := by decide +kernel
theorem dX2_rail_26 : decode cX2_rail 26 = .ok (.sipush 1000, 3) := by decide +kernel
theorem dX2_rail_29 : decode cX2_rail 29 = .ok (.invokestatic 38, 3) := by decide +kernel
theorem dX2_rail_32 : decode cX2_rail 32 = .ok (.ifCond .eq 8, 3) := by decide +kernel
theorem dX2_rail_35 : decode cX2_rail 35 = .ok (.iload_n 2, 1) := by decide +kernel
theorem dX2_rail_36 : decode cX2_rail 36 = .ok (.iload_n 3, 1) := by decide +kernel
theorem dX2_rail_37 : decode cX2_rail 37 = .ok (.if_icmp .le 6, 3) := by decide +kernel
theorem dX2_rail_40 : decode cX2_rail 40 = .ok (.bipush (-2), 2) := by decide +kernel
theorem dX2_rail_42 : decode cX2_rail 42 = .ok (.ireturn, 1) := by decide +kernel
theorem dX2_rail_43 : decode cX2_rail 43 = .ok (.aload_n 0, 1) := by decide +kernel
theorem dX2_rail_44 : decode cX2_rail 44 = .ok (.iload_n 1, 1) := by decide +kernel
theorem dX2_rail_45 : decode cX2_rail 45 = .ok (.invokevirtual 73, 3) := by decide +kernel
theorem dX2_rail_48 : decode cX2_rail 48 = .ok (.ifCond .ne 6, 3) := by decide +kernel
theorem dX2_rail_51 : decode cX2_rail 51 = .ok (.bipush (-3), 2) := by decide +kernel
theorem dX2_rail_53 : decode cX2_rail 53 = .ok (.ireturn, 1) := by decide +kernel
theorem dX2_rail_54 : decode cX2_rail 54 = .ok (.aload_n 0, 1) := by decide +kernel
theorem dX2_rail_55 : decode cX2_rail 55 = .ok (.iload_n 1, 1) := by decide +kernel
theorem dX2_rail_56 : decode cX2_rail 56 = .ok (.invokevirtual 113, 3) := by decide +kernel
theorem dX2_rail_59 : decode cX2_rail 59 = .ok (.istore 4, 2) := by decide +kernel
theorem dX2_rail_61 : decode cX2_rail 61 = .ok (.iconst 0, 1) := by decide +kernel
theorem dX2_rail_62 : decode cX2_rail 62 = .ok (.istore 5, 2) := by decide +kernel
theorem dX2_rail_64 : decode cX2_rail 64 = .ok (.iload 5, 2) := by decide +kernel
theorem dX2_rail_66 : decode cX2_rail 66 = .ok (.aload_n 0, 1) := by decide +kernel
theorem dX2_rail_67 : decode cX2_rail 67 = .ok (.getfield 7, 3) := by decide +kernel
theorem dX2_rail_70 : decode cX2_rail 70 = .ok (.iload_n 1, 1) := by decide +kernel
theorem dX2_rail_71 : decode cX2_rail 71 = .ok (.iaload, 1) := by decide +kernel
theorem dX2_rail_72 : decode cX2_rail 72 = .ok (.if_icmp .ge 61, 3) := by decide +kernel
theorem dX2_rail_75 : decode cX2_rail 75 = .ok (.iload 4, 2) := by decide +kernel
theorem dX2_rail_77 : decode cX2_rail 77 = .ok (.ifCond .eq 56, 3) := by decide +kernel
theorem dX2_rail_80 : decode cX2_rail 80 = .ok (.aload_n 0, 1) := by decide +kernel
theorem dX2_rail_81 : decode cX2_rail 81 = .ok (.aload_n 0, 1) := by decide +kernel
theorem dX2_rail_82 : decode cX2_rail 82 = .ok (.iload_n 1, 1) := by decide +kernel
theorem dX2_rail_83 : decode cX2_rail 83 = .ok (.iload 5, 2) := by decide +kernel
theorem dX2_rail_85 : decode cX2_rail 85 = .ok (.invokevirtual 53, 3) := by decide +kernel
theorem dX2_rail_88 : decode cX2_rail 88 = .ok (.aload_n 0, 1) := by decide +kernel
theorem dX2_rail_89 : decode cX2_rail 89 = .ok (.iload_n 1, 1) := by decide +kernel
theorem dX2_rail_90 : decode cX2_rail 90 = .ok (.iload 5, 2) := by decide +kernel
theorem dX2_rail_92 : decode cX2_rail 92 = .ok (.invokevirtual 57, 3) := by decide +kernel
theorem dX2_rail_95 : decode cX2_rail 95 = .ok (.iload_n 2, 1) := by decide +kernel
theorem dX2_rail_96 : decode cX2_rail 96 = .ok (.iload_n 3, 1) := by decide +kernel
theorem dX2_rail_97 : decode cX2_rail 97 = .ok (.invokevirtual 126, 3) := by decide +kernel
theorem dX2_rail_100 : decode cX2_rail 100 = .ok (.ifCond .eq 24, 3) := by decide +kernel
theorem dX2_rail_103 : decode cX2_rail 103 = .ok (.aload_n 0, 1) := by decide +kernel
theorem dX2_rail_104 : decode cX2_rail 104 = .ok (.iload_n 1, 1) := by decide +kernel
theorem dX2_rail_105 : decode cX2_rail 105 = .ok (.iload 5, 2) := by decide +kernel
theorem dX2_rail_107 : decode cX2_rail 107 = .ok (.iload_n 2, 1) := by decide +kernel
theorem dX2_rail_108 : decode cX2_rail 108 = .ok (.iconst 0, 1) := by decide +kernel
theorem dX2_rail_109 : decode cX2_rail 109 = .ok (.aload_n 0, 1) := by decide +kernel
theorem dX2_rail_110 : decode cX2_rail 110 = .ok (.getfield 19, 3) := by decide +kernel
theorem dX2_rail_113 : decode cX2_rail 113 = .ok (.i2l, 1) := by decide +kernel
theorem dX2_rail_114 : decode cX2_rail 114 = .ok (.invokevirtual 129, 3) := by decide +kernel
theorem dX2_rail_117 : decode cX2_rail 117 = .ok (.ifCond .ne 7, 3) := by decide +kernel
theorem dX2_rail_120 : decode cX2_rail 120 = .ok (.iconst 1, 1) := by decide +kernel
theorem dX2_rail_121 : decode cX2_rail 121 = .ok (.goto 4, 3) := by decide +kernel
theorem dX2_rail_124 : decode cX2_rail 124 = .ok (.iconst 0, 1) := by decide +kernel
theorem dX2_rail_125 : decode cX2_rail 125 = .ok (.istore 4, 2) := by decide +kernel
theorem dX2_rail_127 : decode cX2_rail 127 = .ok (.iinc 5 1, 3) := by decide +kernel
theorem dX2_rail_130 : decode cX2_rail 130 = .ok (.goto (-66), 3) := by decide +kernel
theorem dX2_rail_133 : decode cX2_rail 133 = .ok (.iload 4, 2) := by decide +kernel
theorem dX2_rail_135 : decode cX2_rail 135 = .ok (.ifCond .eq 7, 3) := by decide +kernel
theorem dX2_rail_138 : decode cX2_rail 138 = .ok (.iconst 1, 1) := by decide +kernel
theorem dX2_rail_139 : decode cX2_rail 139 = .ok (.goto 4, 3) := by decide +kernel
theorem dX2_rail_142 : decode cX2_rail 142 = .ok (.iconst 0, 1) := by decide +kernel
theorem dX2_rail_143 : decode cX2_rail 143 = .ok (.ireturn, 1) := by decide +kernel
theorem dX2_root_0 : decode cX2_root 0 = .ok (.lconst 0, 1) := by decide +kernel
theorem dX2_root_1 : decode cX2_root 1 = .ok (.lstore_n 2, 1) := by decide +kernel
theorem dX2_root_2 : decode cX2_root 2 = .ok (.ldc2_w 133, 3) := by decide +kernel
theorem dX2_root_5 : decode cX2_root 5 = .ok (.lstore 4, 2) := by decide +kernel
theorem dX2_root_7 : decode cX2_root 7 = .ok (.lload 4, 2) := by decide +kernel
theorem dX2_root_9 : decode cX2_root 9 = .ok (.lload_n 2, 1) := by decide +kernel
theorem dX2_root_10 : decode cX2_root 10 = .ok (.lsub, 1) := by decide +kernel
theorem dX2_root_11 : decode cX2_root 11 = .ok (.lconst 1, 1) := by decide +kernel
theorem dX2_root_12 : decode cX2_root 12 = .ok (.lcmp, 1) := by decide +kernel
theorem dX2_root_13 : decode cX2_root 13 = .ok (.ifCond .le 36, 3) := by decide +kernel
theorem dX2_root_16 : decode cX2_root 16 = .ok (.lload_n 2, 1) := by decide +kernel
theorem dX2_root_17 : decode cX2_root 17 = .ok (.lload 4, 2) := by decide +kernel
theorem dX2_root_19 : decode cX2_root 19 = .ok (.ladd, 1) := by decide +kernel
theorem dX2_root_20 : decode cX2_root 20 = .ok (.ldc2_w 120, 3) := by decide +kernel
theorem dX2_root_23 : decode cX2_root 23 = .ok (.ldiv, 1) := by decide +kernel
theorem dX2_root_24 : decode cX2_root 24 = .ok (.lstore 6, 2) := by decide +kernel
theorem dX2_root_26 : decode cX2_root 26 = .ok (.lload 6, 2) := by decide +kernel
theorem dX2_root_28 : decode cX2_root 28 = .ok (.lload 6, 2) := by decide +kernel
theorem dX2_root_30 : decode cX2_root 30 = .ok (.lmul, 1) := by decide +kernel
theorem dX2_root_31 : decode cX2_root 31 = .ok (.lload_n 0, 1) := by decide +kernel
theorem dX2_root_32 : decode cX2_root 32 = .ok (.lcmp, 1) := by decide +kernel
theorem dX2_root_33 : decode cX2_root 33 = .ok (.ifCond .gt 9, 3) := by decide +kernel
theorem dX2_root_36 : decode cX2_root 36 = .ok (.lload 6, 2) := by decide +kernel
theorem dX2_root_38 : decode cX2_root 38 = .ok (.lstore_n 2, 1) := by decide +kernel
theorem dX2_root_39 : decode cX2_root 39 = .ok (.goto 7, 3) := by decide +kernel
theorem dX2_root_42 : decode cX2_root 42 = .ok (.lload 6, 2) := by decide +kernel
theorem dX2_root_44 : decode cX2_root 44 = .ok (.lstore 4, 2) := by decide +kernel
theorem dX2_root_46 : decode cX2_root 46 = .ok (.goto (-39), 3) := by decide +kernel
theorem dX2_root_49 : decode cX2_root 49 = .ok (.lload_n 2, 1) := by decide +kernel
theorem dX2_root_50 : decode cX2_root 50 = .ok (.lreturn, 1) := by decide +kernel
set_option maxRecDepth 20000 in
theorem ggX2_slope_X2_root : GoodIn wsX2_slope wsX2_root := goodIn_r _ [6, 1, 7] (by decide +kernel) (by decide +kernel)
set_option maxRecDepth 20000 in
theorem gX2_slope_X2_root : GoodIn wsX2_slope (va_wsS RX2 135 yX2_root wsX2_root) := goodIn_app (goodIn_of _ (by decide +kernel)) ggX2_slope_X2_root
theorem dX2_slope_0 : decode cX2_slope 0 = .ok (.ldc2_w 133, 3) := by decide +kernel
theorem dX2_slope_3 : decode cX2_slope 3 = .ok (.aload_n 0, 1) := by decide +kernel
theorem dX2_slope_4 : decode cX2_slope 4 = .ok (.getfield 19, 3) := by decide +kernel
theorem dX2_slope_7 : decode cX2_slope 7 = .ok (.i2l, 1) := by decide +kernel
theorem dX2_slope_8 : decode cX2_slope 8 = .ok (.aload_n 0, 1) := by decide +kernel
theorem dX2_slope_9 : decode cX2_slope 9 = .ok (.getfield 19, 3) := by decide +kernel
theorem dX2_slope_12 : decode cX2_slope 12 = .ok (.i2l, 1) := by decide +kernel
theorem dX2_slope_13 : decode cX2_slope 13 = .ok (.lmul, 1) := by decide +kernel
theorem dX2_slope_14 : decode cX2_slope 14 = .ok (.iload_n 1, 1) := by decide +kernel
theorem dX2_slope_15 : decode cX2_slope 15 = .ok (.i2l, 1) := by decide +kernel
theorem dX2_slope_16 : decode cX2_slope 16 = .ok (.iload_n 1, 1) := by decide +kernel
theorem dX2_slope_17 : decode cX2_slope 17 = .ok (.i2l, 1) := by decide +kernel
theorem dX2_slope_18 : decode cX2_slope 18 = .ok (.lmul, 1) := by decide +kernel
theorem dX2_slope_19 : decode cX2_slope 19 = .ok (.lsub, 1) := by decide +kernel
theorem dX2_slope_20 : decode cX2_slope 20 = .ok (.lmul, 1) := by decide +kernel
theorem dX2_slope_21 : decode cX2_slope 21 = .ok (.invokestatic 135, 3) := by decide +kernel
theorem dX2_slope_24 : decode cX2_slope 24 = .ok (.lreturn, 1) := by decide +kernel
set_option maxRecDepth 20000 in
theorem ggX2_shut_X2_in : GoodIn wsX2_shut wsX2_in := goodIn_r _ [7] (by decide +kernel) (by decide +kernel)
set_option maxRecDepth 20000 in
theorem gX2_shut_X2_in : GoodIn wsX2_shut (va_wsS RX2 38 yX2_in wsX2_in) := goodIn_app (goodIn_of _ (by decide +kernel)) ggX2_shut_X2_in
set_option maxRecDepth 20000 in
theorem ggX2_shut_X2_isPart : GoodIn wsX2_shut wsX2_isPart := goodIn_r _ [10, 4, 5, 6, 7] (by decide +kernel) (by decide +kernel)
set_option maxRecDepth 20000 in
theorem gX2_shut_X2_isPart : GoodIn wsX2_shut (va_wsS RX2 108 yX2_isPart wsX2_isPart) := goodIn_app (goodIn_of _ (by decide +kernel)) ggX2_shut_X2_isPart
set_option maxRecDepth 20000 in
theorem ggX2_shut_X2_slope : GoodIn wsX2_shut wsX2_slope := goodIn_r _ [14, 15, 1, 16, 17, 6, 18, 19, 20, 21, 22, 23, 24, 25, 26, 27, 28, 29, 30, 31, 32] (by decide +kernel) (by decide +kernel)
set_option maxRecDepth 20000 in
theorem gX2_shut_X2_slope : GoodIn wsX2_shut (wsV RX2 141 RX2 yX2_slope wsX2_slope) := goodIn_app (goodIn_of _ (by decide +kernel)) ggX2_shut_X2_slope
theorem dX2_shut_0 : decode cX2_shut 0 = .ok (.iload_n 1, 1) := by decide +kernel
theorem dX2_shut_1 : decode cX2_shut 1 = .ok (.iconst 0, 1) := by decide +kernel
theorem dX2_shut_2 : decode cX2_shut 2 = .ok (.aload_n 0, 1) := by decide +kernel
theorem dX2_shut_3 : decode cX2_shut 3 = .ok (.getfield 19, 3) := by decide +kernel
theorem dX2_shut_6 : decode cX2_shut 6 = .ok (.iconst 1, 1) := by decide +kernel
theorem dX2_shut_7 : decode cX2_shut 7 = .ok (.isub, 1) := by decide +kernel
theorem dX2_shut_8 : decode cX2_shut 8 = .ok (.invokestatic 38, 3) := by decide +kernel
theorem dX2_shut_11 : decode cX2_shut 11 = .ok (.ifCond .eq 10, 3) := by decide +kernel
theorem dX2_shut_14 : decode cX2_shut 14 = .ok (.iload_n 2, 1) := by decide +kernel
theorem dX2_shut_15 : decode cX2_shut 15 = .ok (.invokestatic 108, 3) := by decide +kernel
theorem dX2_shut_18 : decode cX2_shut 18 = .ok (.ifCond .ne 7, 3) := by decide +kernel
theorem dX2_shut_21 : decode cX2_shut 21 = .ok (.ldc2_w 111, 3) := by decide +kernel
theorem dX2_shut_24 : decode cX2_shut 24 = .ok (.lreturn, 1) := by decide +kernel
theorem dX2_shut_25 : decode cX2_shut 25 = .ok (.lconst 0, 1) := by decide +kernel
theorem dX2_shut_26 : decode cX2_shut 26 = .ok (.lstore_n 3, 1) := by decide +kernel
theorem dX2_shut_27 : decode cX2_shut 27 = .ok (.iload_n 2, 1) := by decide +kernel
theorem dX2_shut_28 : decode cX2_shut 28 = .ok (.istore 5, 2) := by decide +kernel
theorem dX2_shut_30 : decode cX2_shut 30 = .ok (.iload 5, 2) := by decide +kernel
theorem dX2_shut_32 : decode cX2_shut 32 = .ok (.iload_n 1, 1) := by decide +kernel
theorem dX2_shut_33 : decode cX2_shut 33 = .ok (.iload_n 2, 1) := by decide +kernel
theorem dX2_shut_34 : decode cX2_shut 34 = .ok (.iadd, 1) := by decide +kernel
theorem dX2_shut_35 : decode cX2_shut 35 = .ok (.if_icmp .ge 66, 3) := by decide +kernel
theorem dX2_shut_38 : decode cX2_shut 38 = .ok (.iload 5, 2) := by decide +kernel
theorem dX2_shut_40 : decode cX2_shut 40 = .ok (.i2l, 1) := by decide +kernel
theorem dX2_shut_41 : decode cX2_shut 41 = .ok (.iload 5, 2) := by decide +kernel
theorem dX2_shut_43 : decode cX2_shut 43 = .ok (.i2l, 1) := by decide +kernel
theorem dX2_shut_44 : decode cX2_shut 44 = .ok (.lmul, 1) := by decide +kernel
theorem dX2_shut_45 : decode cX2_shut 45 = .ok (.ldc2_w 139, 3) := by decide +kernel
theorem dX2_shut_48 : decode cX2_shut 48 = .ok (.lmul, 1) := by decide +kernel
theorem dX2_shut_49 : decode cX2_shut 49 = .ok (.lstore 6, 2) := by decide +kernel
theorem dX2_shut_51 : decode cX2_shut 51 = .ok (.lload_n 3, 1) := by decide +kernel
theorem dX2_shut_52 : decode cX2_shut 52 = .ok (.iload_n 2, 1) := by decide +kernel
theorem dX2_shut_53 : decode cX2_shut 53 = .ok (.ifCond .ne 23, 3) := by decide +kernel
theorem dX2_shut_56 : decode cX2_shut 56 = .ok (.lload 6, 2) := by decide +kernel
theorem dX2_shut_58 : decode cX2_shut 58 = .ok (.aload_n 0, 1) := by decide +kernel
theorem dX2_shut_59 : decode cX2_shut 59 = .ok (.getfield 19, 3) := by decide +kernel
theorem dX2_shut_62 : decode cX2_shut 62 = .ok (.i2l, 1) := by decide +kernel
theorem dX2_shut_63 : decode cX2_shut 63 = .ok (.aload_n 0, 1) := by decide +kernel
theorem dX2_shut_64 : decode cX2_shut 64 = .ok (.iload 5, 2) := by decide +kernel
theorem dX2_shut_66 : decode cX2_shut 66 = .ok (.invokevirtual 141, 3) := by decide +kernel
theorem dX2_shut_69 : decode cX2_shut 69 = .ok (.lconst 1, 1) := by decide +kernel
theorem dX2_shut_70 : decode cX2_shut 70 = .ok (.ladd, 1) := by decide +kernel
theorem dX2_shut_71 : decode cX2_shut 71 = .ok (.lmul, 1) := by decide +kernel
theorem dX2_shut_72 : decode cX2_shut 72 = .ok (.ldiv, 1) := by decide +kernel
theorem dX2_shut_73 : decode cX2_shut 73 = .ok (.goto 20, 3) := by decide +kernel
theorem dX2_shut_76 : decode cX2_shut 76 = .ok (.lconst 1, 1) := by decide +kernel
theorem dX2_shut_77 : decode cX2_shut 77 = .ok (.lload 6, 2) := by decide +kernel
theorem dX2_shut_79 : decode cX2_shut 79 = .ok (.aload_n 0, 1) := by decide +kernel
theorem dX2_shut_80 : decode cX2_shut 80 = .ok (.getfield 19, 3) := by decide +kernel
theorem dX2_shut_83 : decode cX2_shut 83 = .ok (.i2l, 1) := by decide +kernel
theorem dX2_shut_84 : decode cX2_shut 84 = .ok (.aload_n 0, 1) := by decide +kernel
theorem dX2_shut_85 : decode cX2_shut 85 = .ok (.iload 5, 2) := by decide +kernel
theorem dX2_shut_87 : decode cX2_shut 87 = .ok (.invokevirtual 141, 3) := by decide +kernel
theorem dX2_shut_90 : decode cX2_shut 90 = .ok (.lmul, 1) := by decide +kernel
theorem dX2_shut_91 : decode cX2_shut 91 = .ok (.ldiv, 1) := by decide +kernel
theorem dX2_shut_92 : decode cX2_shut 92 = .ok (.ladd, 1) := by decide +kernel
theorem dX2_shut_93 : decode cX2_shut 93 = .ok (.ladd, 1) := by decide +kernel
theorem dX2_shut_94 : decode cX2_shut 94 = .ok (.lstore_n 3, 1) := by decide +kernel
theorem dX2_shut_95 : decode cX2_shut 95 = .ok (.iinc 5 1, 3) := by decide +kernel
theorem dX2_shut_98 : decode cX2_shut 98 = .ok (.goto (-68), 3) := by decide +kernel
theorem dX2_shut_101 : decode cX2_shut 101 = .ok (.lload_n 3, 1) := by decide +kernel
theorem dX2_shut_102 : decode cX2_shut 102 = .ok (.lreturn, 1) := by decide +kernel
set_option maxRecDepth 20000 in
theorem ggX2_geared_X2_isFigure : GoodIn wsX2_geared wsX2_isFigure := goodIn_r _ [12, 13, 14, 11, 15] (by decide +kernel) (by decide +kernel)
set_option maxRecDepth 20000 in
theorem gX2_geared_X2_isFigure : GoodIn wsX2_geared (va_wsS RX2 42 yX2_isFigure wsX2_isFigure) := goodIn_app (goodIn_of _ (by decide +kernel)) ggX2_geared_X2_isFigure
set_option maxRecDepth 20000 in
theorem ggX2_geared_X2_in : GoodIn wsX2_geared wsX2_in := goodIn_r _ [15] (by decide +kernel) (by decide +kernel)
set_option maxRecDepth 20000 in
theorem gX2_geared_X2_in : GoodIn wsX2_geared (va_wsS RX2 38 yX2_in wsX2_in) := goodIn_app (goodIn_of _ (by decide +kernel)) ggX2_geared_X2_in
set_option maxRecDepth 20000 in
theorem ggX2_geared_X2_isPart : GoodIn wsX2_geared wsX2_isPart := goodIn_r _ [18, 13, 14, 11, 15] (by decide +kernel) (by decide +kernel)
set_option maxRecDepth 20000 in
theorem gX2_geared_X2_isPart : GoodIn wsX2_geared (va_wsS RX2 108 yX2_isPart wsX2_isPart) := goodIn_app (goodIn_of _ (by decide +kernel)) ggX2_geared_X2_isPart
set_option maxRecDepth 20000 in
theorem ggX2_geared_X2_isClosed : GoodIn wsX2_geared wsX2_isClosed := goodIn_r _ [22, 5, 47, 48, 49, 50, 51, 52, 53, 54, 55, 56, 57, 58, 59] (by decide +kernel) (by decide +kernel)
set_option maxRecDepth 20000 in
theorem gX2_geared_X2_isClosed : GoodIn wsX2_geared (wsV RX2 73 RX2 yX2_isClosed wsX2_isClosed) := goodIn_app (goodIn_of _ (by decide +kernel)) ggX2_geared_X2_isClosed
set_option maxRecDepth 20000 in
theorem ggX2_geared_X2_canGo : GoodIn wsX2_geared wsX2_canGo := goodIn_r _ [26, 5, 4, 27, 28, 29, 11, 30, 31, 47, 48, 49, 50, 51, 52, 53, 54, 55, 56, 57, 58, 59] (by decide +kernel) (by decide +kernel)
set_option maxRecDepth 20000 in
theorem gX2_geared_X2_canGo : GoodIn wsX2_geared (wsV RX2 113 RX2 yX2_canGo wsX2_canGo) := goodIn_app (goodIn_of _ (by decide +kernel)) ggX2_geared_X2_canGo
set_option maxRecDepth 20000 in
theorem ggX2_geared_X2_along : GoodIn wsX2_geared wsX2_along := goodIn_r _ [35, 36, 37, 38, 11, 39, 40, 5, 27, 28, 29, 30, 31, 47, 48, 49, 50, 51, 52, 53, 54, 55, 56, 57, 58, 59] (by decide +kernel) (by decide +kernel)
set_option maxRecDepth 20000 in
theorem gX2_geared_X2_along : GoodIn wsX2_geared (wsV RX2 116 RX2 yX2_along wsX2_along) := goodIn_app (goodIn_of _ (by decide +kernel)) ggX2_geared_X2_along
set_option maxRecDepth 20000 in
theorem ggX2_geared_X2_term : GoodIn wsX2_geared wsX2_term := goodIn_r _ [43, 44, 45, 11, 46] (by decide +kernel) (by decide +kernel)
set_option maxRecDepth 20000 in
theorem gX2_geared_X2_term : GoodIn wsX2_geared (va_wsS RX2 122 yX2_term wsX2_term) := goodIn_app (goodIn_of _ (by decide +kernel)) ggX2_geared_X2_term
theorem dX2_geared_0 : decode cX2_geared 0 = .ok (.iload_n 1, 1) := by decide +kernel
theorem dX2_geared_1 : decode cX2_geared 1 = .ok (.invokestatic 42, 3) := by decide +kernel
theorem dX2_geared_4 : decode cX2_geared 4 = .ok (.ifCond .ne 7, 3) := by decide +kernel
theorem dX2_geared_7 : decode cX2_geared 7 = .ok (.ldc2_w 71, 3) := by decide +kernel
theorem dX2_geared_10 : decode cX2_geared 10 = .ok (.lreturn, 1) := by decide +kernel
theorem dX2_geared_11 : decode cX2_geared 11 = .ok (.iload_n 2, 1) := by decide +kernel
theorem dX2_geared_12 : decode cX2_geared 12 = .ok (.iconst 1, 1) := by decide +kernel
theorem dX2_geared_13 : decode cX2_geared 13 = .ok (.iconst 3, 1) := by decide +kernel
theorem dX2_geared_14 : decode cX2_geared 14 = .ok (.invokestatic 38, 3) := by decide +kernel
theorem dX2_geared_17 : decode cX2_geared 17 = .ok (.ifCond .eq 10, 3) := by decide +kernel
theorem dX2_geared_20 : decode cX2_geared 20 = .ok (.iload_n 3, 1) := by decide +kernel
theorem dX2_geared_21 : decode cX2_geared 21 = .ok (.invokestatic 108, 3) := by decide +kernel
theorem dX2_geared_24 : decode cX2_geared 24 = .ok (.ifCond .ne 7, 3) := by decide +kernel
theorem dX2_geared_27 : decode cX2_geared 27 = .ok (.ldc2_w 111, 3) := by decide +kernel
theorem dX2_geared_30 : decode cX2_geared 30 = .ok (.lreturn, 1) := by decide +kernel
theorem dX2_geared_31 : decode cX2_geared 31 = .ok (.aload_n 0, 1) := by decide +kernel
theorem dX2_geared_32 : decode cX2_geared 32 = .ok (.iload_n 1, 1) := by decide +kernel
theorem dX2_geared_33 : decode cX2_geared 33 = .ok (.invokevirtual 73, 3) := by decide +kernel
theorem dX2_geared_36 : decode cX2_geared 36 = .ok (.ifCond .eq 11, 3) := by decide +kernel
theorem dX2_geared_39 : decode cX2_geared 39 = .ok (.aload_n 0, 1) := by decide +kernel
theorem dX2_geared_40 : decode cX2_geared 40 = .ok (.iload_n 1, 1) := by decide +kernel
theorem dX2_geared_41 : decode cX2_geared 41 = .ok (.invokevirtual 113, 3) := by decide +kernel
theorem dX2_geared_44 : decode cX2_geared 44 = .ok (.ifCond .ne 7, 3) := by decide +kernel
theorem dX2_geared_47 : decode cX2_geared 47 = .ok (.ldc2_w 80, 3) := by decide +kernel
theorem dX2_geared_50 : decode cX2_geared 50 = .ok (.lreturn, 1) := by decide +kernel
theorem dX2_geared_51 : decode cX2_geared 51 = .ok (.aload_n 0, 1) := by decide +kernel
theorem dX2_geared_52 : decode cX2_geared 52 = .ok (.getfield 19, 3) := by decide +kernel
theorem dX2_geared_55 : decode cX2_geared 55 = .ok (.i2l, 1) := by decide +kernel
theorem dX2_geared_56 : decode cX2_geared 56 = .ok (.lstore 4, 2) := by decide +kernel
theorem dX2_geared_58 : decode cX2_geared 58 = .ok (.aload_n 0, 1) := by decide +kernel
theorem dX2_geared_59 : decode cX2_geared 59 = .ok (.iload_n 1, 1) := by decide +kernel
theorem dX2_geared_60 : decode cX2_geared 60 = .ok (.aload_n 0, 1) := by decide +kernel
theorem dX2_geared_61 : decode cX2_geared 61 = .ok (.getfield 7, 3) := by decide +kernel
theorem dX2_geared_64 : decode cX2_geared 64 = .ok (.iload_n 1, 1) := by decide +kernel
theorem dX2_geared_65 : decode cX2_geared 65 = .ok (.iaload, 1) := by decide +kernel
theorem dX2_geared_66 : decode cX2_geared 66 = .ok (.iconst 1, 1) := by decide +kernel
theorem dX2_geared_67 : decode cX2_geared 67 = .ok (.invokevirtual 116, 3) := by decide +kernel
theorem dX2_geared_70 : decode cX2_geared 70 = .ok (.lstore 6, 2) := by decide +kernel
theorem dX2_geared_72 : decode cX2_geared 72 = .ok (.iload_n 2, 1) := by decide +kernel
theorem dX2_geared_73 : decode cX2_geared 73 = .ok (.iconst 1, 1) := by decide +kernel
theorem dX2_geared_74 : decode cX2_geared 74 = .ok (.if_icmp .ne 16, 3) := by decide +kernel
theorem dX2_geared_77 : decode cX2_geared 77 = .ok (.lload 6, 2) := by decide +kernel
theorem dX2_geared_79 : decode cX2_geared 79 = .ok (.ldc2_w 120, 3) := by decide +kernel
theorem dX2_geared_82 : decode cX2_geared 82 = .ok (.lload 4, 2) := by decide +kernel
theorem dX2_geared_84 : decode cX2_geared 84 = .ok (.lmul, 1) := by decide +kernel
theorem dX2_geared_85 : decode cX2_geared 85 = .ok (.iload_n 3, 1) := by decide +kernel
theorem dX2_geared_86 : decode cX2_geared 86 = .ok (.invokestatic 122, 3) := by decide +kernel
theorem dX2_geared_89 : decode cX2_geared 89 = .ok (.lreturn, 1) := by decide +kernel
theorem dX2_geared_90 : decode cX2_geared 90 = .ok (.iload_n 2, 1) := by decide +kernel
theorem dX2_geared_91 : decode cX2_geared 91 = .ok (.iconst 2, 1) := by decide +kernel
theorem dX2_geared_92 : decode cX2_geared 92 = .ok (.if_icmp .ne 33, 3) := by decide +kernel
theorem dX2_geared_95 : decode cX2_geared 95 = .ok (.ldc2_w 144, 3) := by decide +kernel
theorem dX2_geared_98 : decode cX2_geared 98 = .ok (.aload_n 0, 1) := by decide +kernel
theorem dX2_geared_99 : decode cX2_geared 99 = .ok (.iload_n 1, 1) := by decide +kernel
theorem dX2_geared_100 : decode cX2_geared 100 = .ok (.aload_n 0, 1) := by decide +kernel
theorem dX2_geared_101 : decode cX2_geared 101 = .ok (.getfield 7, 3) := by decide +kernel
theorem dX2_geared_104 : decode cX2_geared 104 = .ok (.iload_n 1, 1) := by decide +kernel
theorem dX2_geared_105 : decode cX2_geared 105 = .ok (.iaload, 1) := by decide +kernel
theorem dX2_geared_106 : decode cX2_geared 106 = .ok (.iconst 2, 1) := by decide +kernel
theorem dX2_geared_107 : decode cX2_geared 107 = .ok (.invokevirtual 116, 3) := by decide +kernel
theorem dX2_geared_110 : decode cX2_geared 110 = .ok (.lmul, 1) := by decide +kernel
theorem dX2_geared_111 : decode cX2_geared 111 = .ok (.ldc2_w 146, 3) := by decide +kernel
theorem dX2_geared_114 : decode cX2_geared 114 = .ok (.lload 4, 2) := by decide +kernel
theorem dX2_geared_116 : decode cX2_geared 116 = .ok (.lmul, 1) := by decide +kernel
theorem dX2_geared_117 : decode cX2_geared 117 = .ok (.lload 4, 2) := by decide +kernel
theorem dX2_geared_119 : decode cX2_geared 119 = .ok (.lmul, 1) := by decide +kernel
theorem dX2_geared_120 : decode cX2_geared 120 = .ok (.iload_n 3, 1) := by decide +kernel
theorem dX2_geared_121 : decode cX2_geared 121 = .ok (.invokestatic 122, 3) := by decide +kernel
theorem dX2_geared_124 : decode cX2_geared 124 = .ok (.lreturn, 1) := by decide +kernel
theorem dX2_geared_125 : decode cX2_geared 125 = .ok (.ldc2_w 146, 3) := by decide +kernel
theorem dX2_geared_128 : decode cX2_geared 128 = .ok (.lload 6, 2) := by decide +kernel
theorem dX2_geared_130 : decode cX2_geared 130 = .ok (.lmul, 1) := by decide +kernel
theorem dX2_geared_131 : decode cX2_geared 131 = .ok (.lload 4, 2) := by decide +kernel
theorem dX2_geared_133 : decode cX2_geared 133 = .ok (.lmul, 1) := by decide +kernel
theorem dX2_geared_134 : decode cX2_geared 134 = .ok (.lload 4, 2) := by decide +kernel
theorem dX2_geared_136 : decode cX2_geared 136 = .ok (.lmul, 1) := by decide +kernel
theorem dX2_geared_137 : decode cX2_geared 137 = .ok (.ldc2_w 120, 3) := by decide +kernel
theorem dX2_geared_140 : decode cX2_geared 140 = .ok (.aload_n 0, 1) := by decide +kernel
theorem dX2_geared_141 : decode cX2_geared 141 = .ok (.iload_n 1, 1) := by decide +kernel
theorem dX2_geared_142 : decode cX2_geared 142 = .ok (.aload_n 0, 1) := by decide +kernel
theorem dX2_geared_143 : decode cX2_geared 143 = .ok (.getfield 7, 3) := by decide +kernel
theorem dX2_geared_146 : decode cX2_geared 146 = .ok (.iload_n 1, 1) := by decide +kernel
theorem dX2_geared_147 : decode cX2_geared 147 = .ok (.iaload, 1) := by decide +kernel
theorem dX2_geared_148 : decode cX2_geared 148 = .ok (.iconst 3, 1) := by decide +kernel
theorem dX2_geared_149 : decode cX2_geared 149 = .ok (.invokevirtual 116, 3) := by decide +kernel
theorem dX2_geared_152 : decode cX2_geared 152 = .ok (.lmul, 1) := by decide +kernel
theorem dX2_geared_153 : decode cX2_geared 153 = .ok (.lsub, 1) := by decide +kernel
theorem dX2_geared_154 : decode cX2_geared 154 = .ok (.ldc2_w 120, 3) := by decide +kernel
theorem dX2_geared_157 : decode cX2_geared 157 = .ok (.lload 4, 2) := by decide +kernel
theorem dX2_geared_159 : decode cX2_geared 159 = .ok (.lmul, 1) := by decide +kernel
theorem dX2_geared_160 : decode cX2_geared 160 = .ok (.lload 4, 2) := by decide +kernel
theorem dX2_geared_162 : decode cX2_geared 162 = .ok (.lmul, 1) := by decide +kernel
theorem dX2_geared_163 : decode cX2_geared 163 = .ok (.lload 4, 2) := by decide +kernel
theorem dX2_geared_165 : decode cX2_geared 165 = .ok (.lmul, 1) := by decide +kernel
theorem dX2_geared_166 : decode cX2_geared 166 = .ok (.iload_n 3, 1) := by decide +kernel
theorem dX2_geared_167 : decode cX2_geared 167 = .ok (.invokestatic 122, 3) := by decide +kernel
theorem dX2_geared_170 : decode cX2_geared 170 = .ok (.lreturn, 1) := by decide +kernel
set_option maxRecDepth 20000 in
theorem ggX2_moment_X2_isFigure : GoodIn wsX2_moment wsX2_isFigure := goodIn_r _ [9, 10, 11, 8, 12] (by decide +kernel) (by decide +kernel)
set_option maxRecDepth 20000 in
theorem gX2_moment_X2_isFigure : GoodIn wsX2_moment (va_wsS RX2 42 yX2_isFigure wsX2_isFigure) := goodIn_app (goodIn_of _ (by decide +kernel)) ggX2_moment_X2_isFigure
set_option maxRecDepth 20000 in
theorem ggX2_moment_X2_in : GoodIn wsX2_moment wsX2_in := goodIn_r _ [12] (by decide +kernel) (by decide +kernel)
set_option maxRecDepth 20000 in
theorem gX2_moment_X2_in : GoodIn wsX2_moment (va_wsS RX2 38 yX2_in wsX2_in) := goodIn_app (goodIn_of _ (by decide +kernel)) ggX2_moment_X2_in
set_option maxRecDepth 20000 in
theorem ggX2_moment_X2_isPart : GoodIn wsX2_moment wsX2_isPart := goodIn_r _ [15, 10, 11, 8, 12] (by decide +kernel) (by decide +kernel)
set_option maxRecDepth 20000 in
theorem gX2_moment_X2_isPart : GoodIn wsX2_moment (va_wsS RX2 108 yX2_isPart wsX2_isPart) := goodIn_app (goodIn_of _ (by decide +kernel)) ggX2_moment_X2_isPart
set_option maxRecDepth 20000 in
theorem ggX2_moment_X2_isClosed : GoodIn wsX2_moment wsX2_isClosed := goodIn_r _ [19, 4, 40, 41, 42, 43, 44, 45, 46, 47, 48, 49, 50, 51, 52] (by decide +kernel) (by decide +kernel)
set_option maxRecDepth 20000 in
theorem gX2_moment_X2_isClosed : GoodIn wsX2_moment (wsV RX2 73 RX2 yX2_isClosed wsX2_isClosed) := goodIn_app (goodIn_of _ (by decide +kernel)) ggX2_moment_X2_isClosed
set_option maxRecDepth 20000 in
theorem ggX2_moment_X2_along : GoodIn wsX2_moment wsX2_along := goodIn_r _ [23, 24, 25, 26, 8, 27, 28, 4, 29, 30, 31, 32, 33, 40, 41, 42, 43, 44, 45, 46, 47, 48, 49, 50, 51, 52] (by decide +kernel) (by decide +kernel)
set_option maxRecDepth 20000 in
theorem gX2_moment_X2_along : GoodIn wsX2_moment (wsV RX2 116 RX2 yX2_along wsX2_along) := goodIn_app (goodIn_of _ (by decide +kernel)) ggX2_moment_X2_along
set_option maxRecDepth 20000 in
theorem ggX2_moment_X2_term : GoodIn wsX2_moment wsX2_term := goodIn_r _ [36, 37, 38, 8, 39] (by decide +kernel) (by decide +kernel)
set_option maxRecDepth 20000 in
theorem gX2_moment_X2_term : GoodIn wsX2_moment (va_wsS RX2 122 yX2_term wsX2_term) := goodIn_app (goodIn_of _ (by decide +kernel)) ggX2_moment_X2_term
theorem dX2_moment_0 : decode cX2_moment 0 = .ok (.iload_n 1, 1) := by decide +kernel
theorem dX2_moment_1 : decode cX2_moment 1 = .ok (.invokestatic 42, 3) := by decide +kernel
theorem dX2_moment_4 : decode cX2_moment 4 = .ok (.ifCond .ne 7, 3) := by decide +kernel
theorem dX2_moment_7 : decode cX2_moment 7 = .ok (.ldc2_w 71, 3) := by decide +kernel
theorem dX2_moment_10 : decode cX2_moment 10 = .ok (.lreturn, 1) := by decide +kernel
theorem dX2_moment_11 : decode cX2_moment 11 = .ok (.iload_n 2, 1) := by decide +kernel
theorem dX2_moment_12 : decode cX2_moment 12 = .ok (.iconst 0, 1) := by decide +kernel
theorem dX2_moment_13 : decode cX2_moment 13 = .ok (.iconst 2, 1) := by decide +kernel
theorem dX2_moment_14 : decode cX2_moment 14 = .ok (.invokestatic 38, 3) := by decide +kernel
theorem dX2_moment_17 : decode cX2_moment 17 = .ok (.ifCond .eq 10, 3) := by decide +kernel
theorem dX2_moment_20 : decode cX2_moment 20 = .ok (.iload_n 3, 1) := by decide +kernel
theorem dX2_moment_21 : decode cX2_moment 21 = .ok (.invokestatic 108, 3) := by decide +kernel
theorem dX2_moment_24 : decode cX2_moment 24 = .ok (.ifCond .ne 7, 3) := by decide +kernel
theorem dX2_moment_27 : decode cX2_moment 27 = .ok (.ldc2_w 111, 3) := by decide +kernel
theorem dX2_moment_30 : decode cX2_moment 30 = .ok (.lreturn, 1) := by decide +kernel
theorem dX2_moment_31 : decode cX2_moment 31 = .ok (.aload_n 0, 1) := by decide +kernel
theorem dX2_moment_32 : decode cX2_moment 32 = .ok (.iload_n 1, 1) := by decide +kernel
theorem dX2_moment_33 : decode cX2_moment 33 = .ok (.invokevirtual 73, 3) := by decide +kernel
theorem dX2_moment_36 : decode cX2_moment 36 = .ok (.ifCond .ne 7, 3) := by decide +kernel
theorem dX2_moment_39 : decode cX2_moment 39 = .ok (.ldc2_w 80, 3) := by decide +kernel
theorem dX2_moment_42 : decode cX2_moment 42 = .ok (.lreturn, 1) := by decide +kernel
theorem dX2_moment_43 : decode cX2_moment 43 = .ok (.aload_n 0, 1) := by decide +kernel
theorem dX2_moment_44 : decode cX2_moment 44 = .ok (.iload_n 1, 1) := by decide +kernel
theorem dX2_moment_45 : decode cX2_moment 45 = .ok (.aload_n 0, 1) := by decide +kernel
theorem dX2_moment_46 : decode cX2_moment 46 = .ok (.getfield 7, 3) := by decide +kernel
theorem dX2_moment_49 : decode cX2_moment 49 = .ok (.iload_n 1, 1) := by decide +kernel
theorem dX2_moment_50 : decode cX2_moment 50 = .ok (.iaload, 1) := by decide +kernel
theorem dX2_moment_51 : decode cX2_moment 51 = .ok (.iload_n 2, 1) := by decide +kernel
theorem dX2_moment_52 : decode cX2_moment 52 = .ok (.iconst 1, 1) := by decide +kernel
theorem dX2_moment_53 : decode cX2_moment 53 = .ok (.iadd, 1) := by decide +kernel
theorem dX2_moment_54 : decode cX2_moment 54 = .ok (.invokevirtual 116, 3) := by decide +kernel
theorem dX2_moment_57 : decode cX2_moment 57 = .ok (.lneg, 1) := by decide +kernel
theorem dX2_moment_58 : decode cX2_moment 58 = .ok (.iload_n 2, 1) := by decide +kernel
theorem dX2_moment_59 : decode cX2_moment 59 = .ok (.i2l, 1) := by decide +kernel
theorem dX2_moment_60 : decode cX2_moment 60 = .ok (.lconst 1, 1) := by decide +kernel
theorem dX2_moment_61 : decode cX2_moment 61 = .ok (.ladd, 1) := by decide +kernel
theorem dX2_moment_62 : decode cX2_moment 62 = .ok (.iload_n 2, 1) := by decide +kernel
theorem dX2_moment_63 : decode cX2_moment 63 = .ok (.i2l, 1) := by decide +kernel
theorem dX2_moment_64 : decode cX2_moment 64 = .ok (.ldc2_w 120, 3) := by decide +kernel
theorem dX2_moment_67 : decode cX2_moment 67 = .ok (.ladd, 1) := by decide +kernel
theorem dX2_moment_68 : decode cX2_moment 68 = .ok (.lmul, 1) := by decide +kernel
theorem dX2_moment_69 : decode cX2_moment 69 = .ok (.iload_n 3, 1) := by decide +kernel
theorem dX2_moment_70 : decode cX2_moment 70 = .ok (.invokestatic 122, 3) := by decide +kernel
theorem dX2_moment_73 : decode cX2_moment 73 = .ok (.lreturn, 1) := by decide +kernel
set_option maxRecDepth 20000 in
theorem ggX2_arm_X2_in : GoodIn wsX2_arm wsX2_in := goodIn_r _ [8] (by decide +kernel) (by decide +kernel)
set_option maxRecDepth 20000 in
theorem gX2_arm_X2_in : GoodIn wsX2_arm (va_wsS RX2 38 yX2_in wsX2_in) := goodIn_app (goodIn_of _ (by decide +kernel)) ggX2_arm_X2_in
set_option maxRecDepth 20000 in
theorem ggX2_arm_X2_isPlace : GoodIn wsX2_arm wsX2_isPlace := goodIn_r _ [11, 5, 6, 7, 8] (by decide +kernel) (by decide +kernel)
set_option maxRecDepth 20000 in
theorem gX2_arm_X2_isPlace : GoodIn wsX2_arm (va_wsS RX2 46 yX2_isPlace wsX2_isPlace) := goodIn_app (goodIn_of _ (by decide +kernel)) ggX2_arm_X2_isPlace
theorem dX2_arm_0 : decode cX2_arm 0 = .ok (.iload_n 1, 1) := by decide +kernel
theorem dX2_arm_1 : decode cX2_arm 1 = .ok (.sipush (-200), 3) := by decide +kernel
theorem dX2_arm_4 : decode cX2_arm 4 = .ok (.sipush 200, 3) := by decide +kernel
theorem dX2_arm_7 : decode cX2_arm 7 = .ok (.invokestatic 38, 3) := by decide +kernel
theorem dX2_arm_10 : decode cX2_arm 10 = .ok (.ifCond .eq 35, 3) := by decide +kernel
theorem dX2_arm_13 : decode cX2_arm 13 = .ok (.iload_n 2, 1) := by decide +kernel
theorem dX2_arm_14 : decode cX2_arm 14 = .ok (.sipush (-200), 3) := by decide +kernel
theorem dX2_arm_17 : decode cX2_arm 17 = .ok (.sipush 200, 3) := by decide +kernel
theorem dX2_arm_20 : decode cX2_arm 20 = .ok (.invokestatic 38, 3) := by decide +kernel
theorem dX2_arm_23 : decode cX2_arm 23 = .ok (.ifCond .eq 22, 3) := by decide +kernel
theorem dX2_arm_26 : decode cX2_arm 26 = .ok (.iload_n 3, 1) := by decide +kernel
theorem dX2_arm_27 : decode cX2_arm 27 = .ok (.iconst 1, 1) := by decide +kernel
theorem dX2_arm_28 : decode cX2_arm 28 = .ok (.sipush 400, 3) := by decide +kernel
theorem dX2_arm_31 : decode cX2_arm 31 = .ok (.invokestatic 38, 3) := by decide +kernel
theorem dX2_arm_34 : decode cX2_arm 34 = .ok (.ifCond .eq 11, 3) := by decide +kernel
theorem dX2_arm_37 : decode cX2_arm 37 = .ok (.iload 4, 2) := by decide +kernel
theorem dX2_arm_39 : decode cX2_arm 39 = .ok (.invokestatic 46, 3) := by decide +kernel
theorem dX2_arm_42 : decode cX2_arm 42 = .ok (.ifCond .ne 6, 3) := by decide +kernel
theorem dX2_arm_45 : decode cX2_arm 45 = .ok (.bipush (-2), 2) := by decide +kernel
theorem dX2_arm_47 : decode cX2_arm 47 = .ok (.ireturn, 1) := by decide +kernel
theorem dX2_arm_48 : decode cX2_arm 48 = .ok (.aload_n 0, 1) := by decide +kernel
theorem dX2_arm_49 : decode cX2_arm 49 = .ok (.iload_n 1, 1) := by decide +kernel
theorem dX2_arm_50 : decode cX2_arm 50 = .ok (.putfield 148, 3) := by decide +kernel
theorem dX2_arm_53 : decode cX2_arm 53 = .ok (.aload_n 0, 1) := by decide +kernel
theorem dX2_arm_54 : decode cX2_arm 54 = .ok (.iload_n 2, 1) := by decide +kernel
theorem dX2_arm_55 : decode cX2_arm 55 = .ok (.putfield 151, 3) := by decide +kernel
theorem dX2_arm_58 : decode cX2_arm 58 = .ok (.aload_n 0, 1) := by decide +kernel
theorem dX2_arm_59 : decode cX2_arm 59 = .ok (.iload_n 3, 1) := by decide +kernel
theorem dX2_arm_60 : decode cX2_arm 60 = .ok (.putfield 29, 3) := by decide +kernel
theorem dX2_arm_63 : decode cX2_arm 63 = .ok (.aload_n 0, 1) := by decide +kernel
theorem dX2_arm_64 : decode cX2_arm 64 = .ok (.iload 4, 2) := by decide +kernel
theorem dX2_arm_66 : decode cX2_arm 66 = .ok (.putfield 154, 3) := by decide +kernel
theorem dX2_arm_69 : decode cX2_arm 69 = .ok (.iconst 1, 1) := by decide +kernel
theorem dX2_arm_70 : decode cX2_arm 70 = .ok (.ireturn, 1) := by decide +kernel
set_option maxRecDepth 20000 in
theorem ggX2_ring_X2_isFigure : GoodIn wsX2_ring wsX2_isFigure := goodIn_r _ [14, 15, 16, 13, 17] (by decide +kernel) (by decide +kernel)
set_option maxRecDepth 20000 in
theorem gX2_ring_X2_isFigure : GoodIn wsX2_ring (va_wsS RX2 42 yX2_isFigure wsX2_isFigure) := goodIn_app (goodIn_of _ (by decide +kernel)) ggX2_ring_X2_isFigure
set_option maxRecDepth 20000 in
theorem ggX2_ring_X2_in : GoodIn wsX2_ring wsX2_in := goodIn_r _ [17] (by decide +kernel) (by decide +kernel)
set_option maxRecDepth 20000 in
theorem gX2_ring_X2_in : GoodIn wsX2_ring (va_wsS RX2 38 yX2_in wsX2_in) := goodIn_app (goodIn_of _ (by decide +kernel)) ggX2_ring_X2_in
set_option maxRecDepth 20000 in
theorem ggX2_ring_X2_isClosed : GoodIn wsX2_ring wsX2_isClosed := goodIn_r _ [21, 22, 44, 45, 46, 47, 48, 49, 50, 51, 52, 53, 54, 55, 56] (by decide +kernel) (by decide +kernel)
set_option maxRecDepth 20000 in
theorem gX2_ring_X2_isClosed : GoodIn wsX2_ring (wsV RX2 73 RX2 yX2_isClosed wsX2_isClosed) := goodIn_app (goodIn_of _ (by decide +kernel)) ggX2_ring_X2_isClosed
set_option maxRecDepth 20000 in
theorem ggX2_ring_X2_windsOf : GoodIn wsX2_ring wsX2_windsOf := goodIn_r _ [26, 22, 27, 28, 29, 13, 30, 31, 32, 33, 34, 35, 36, 37, 38, 39, 40, 41, 42, 43, 44, 45, 46, 47, 48, 49, 50, 51, 52, 53, 54, 55, 56] (by decide +kernel) (by decide +kernel)
set_option maxRecDepth 20000 in
theorem gX2_ring_X2_windsOf : GoodIn wsX2_ring (wsV RX2 100 RX2 yX2_windsOf wsX2_windsOf) := goodIn_app (goodIn_of _ (by decide +kernel)) ggX2_ring_X2_windsOf
theorem dX2_ring_0 : decode cX2_ring 0 = .ok (.iload_n 1, 1) := by decide +kernel
theorem dX2_ring_1 : decode cX2_ring 1 = .ok (.invokestatic 42, 3) := by decide +kernel
theorem dX2_ring_4 : decode cX2_ring 4 = .ok (.ifCond .ne 7, 3) := by decide +kernel
theorem dX2_ring_7 : decode cX2_ring 7 = .ok (.ldc2_w 71, 3) := by decide +kernel
theorem dX2_ring_10 : decode cX2_ring 10 = .ok (.lreturn, 1) := by decide +kernel
theorem dX2_ring_11 : decode cX2_ring 11 = .ok (.iload_n 2, 1) := by decide +kernel
theorem dX2_ring_12 : decode cX2_ring 12 = .ok (.iconst 0, 1) := by decide +kernel
theorem dX2_ring_13 : decode cX2_ring 13 = .ok (.iconst 1, 1) := by decide +kernel
theorem dX2_ring_14 : decode cX2_ring 14 = .ok (.invokestatic 38, 3) := by decide +kernel
theorem dX2_ring_17 : decode cX2_ring 17 = .ok (.ifCond .ne 7, 3) := by decide +kernel
theorem dX2_ring_20 : decode cX2_ring 20 = .ok (.ldc2_w 111, 3) := by decide +kernel
theorem dX2_ring_23 : decode cX2_ring 23 = .ok (.lreturn, 1) := by decide +kernel
theorem dX2_ring_24 : decode cX2_ring 24 = .ok (.aload_n 0, 1) := by decide +kernel
theorem dX2_ring_25 : decode cX2_ring 25 = .ok (.iload_n 1, 1) := by decide +kernel
theorem dX2_ring_26 : decode cX2_ring 26 = .ok (.invokevirtual 73, 3) := by decide +kernel
theorem dX2_ring_29 : decode cX2_ring 29 = .ok (.ifCond .ne 7, 3) := by decide +kernel
theorem dX2_ring_32 : decode cX2_ring 32 = .ok (.ldc2_w 80, 3) := by decide +kernel
theorem dX2_ring_35 : decode cX2_ring 35 = .ok (.lreturn, 1) := by decide +kernel
theorem dX2_ring_36 : decode cX2_ring 36 = .ok (.aload_n 0, 1) := by decide +kernel
theorem dX2_ring_37 : decode cX2_ring 37 = .ok (.iload_n 1, 1) := by decide +kernel
theorem dX2_ring_38 : decode cX2_ring 38 = .ok (.aload_n 0, 1) := by decide +kernel
theorem dX2_ring_39 : decode cX2_ring 39 = .ok (.getfield 148, 3) := by decide +kernel
theorem dX2_ring_42 : decode cX2_ring 42 = .ok (.aload_n 0, 1) := by decide +kernel
theorem dX2_ring_43 : decode cX2_ring 43 = .ok (.getfield 151, 3) := by decide +kernel
theorem dX2_ring_46 : decode cX2_ring 46 = .ok (.invokevirtual 100, 3) := by decide +kernel
theorem dX2_ring_49 : decode cX2_ring 49 = .ok (.istore_n 3, 1) := by decide +kernel
theorem dX2_ring_50 : decode cX2_ring 50 = .ok (.iload_n 3, 1) := by decide +kernel
theorem dX2_ring_51 : decode cX2_ring 51 = .ok (.sipush (-1006), 3) := by decide +kernel
theorem dX2_ring_54 : decode cX2_ring 54 = .ok (.if_icmp .ne 7, 3) := by decide +kernel
theorem dX2_ring_57 : decode cX2_ring 57 = .ok (.ldc2_w 157, 3) := by decide +kernel
theorem dX2_ring_60 : decode cX2_ring 60 = .ok (.lreturn, 1) := by decide +kernel
theorem dX2_ring_61 : decode cX2_ring 61 = .ok (.iload_n 2, 1) := by decide +kernel
theorem dX2_ring_62 : decode cX2_ring 62 = .ok (.iconst 1, 1) := by decide +kernel
theorem dX2_ring_63 : decode cX2_ring 63 = .ok (.if_icmp .ne 8, 3) := by decide +kernel
theorem dX2_ring_66 : decode cX2_ring 66 = .ok (.iload_n 3, 1) := by decide +kernel
theorem dX2_ring_67 : decode cX2_ring 67 = .ok (.i2l, 1) := by decide +kernel
theorem dX2_ring_68 : decode cX2_ring 68 = .ok (.goto 42, 3) := by decide +kernel
theorem dX2_ring_71 : decode cX2_ring 71 = .ok (.aload_n 0, 1) := by decide +kernel
theorem dX2_ring_72 : decode cX2_ring 72 = .ok (.getfield 29, 3) := by decide +kernel
theorem dX2_ring_75 : decode cX2_ring 75 = .ok (.i2l, 1) := by decide +kernel
theorem dX2_ring_76 : decode cX2_ring 76 = .ok (.aload_n 0, 1) := by decide +kernel
theorem dX2_ring_77 : decode cX2_ring 77 = .ok (.getfield 29, 3) := by decide +kernel
theorem dX2_ring_80 : decode cX2_ring 80 = .ok (.i2l, 1) := by decide +kernel
theorem dX2_ring_81 : decode cX2_ring 81 = .ok (.lmul, 1) := by decide +kernel
theorem dX2_ring_82 : decode cX2_ring 82 = .ok (.aload_n 0, 1) := by decide +kernel
theorem dX2_ring_83 : decode cX2_ring 83 = .ok (.getfield 19, 3) := by decide +kernel
theorem dX2_ring_86 : decode cX2_ring 86 = .ok (.i2l, 1) := by decide +kernel
theorem dX2_ring_87 : decode cX2_ring 87 = .ok (.aload_n 0, 1) := by decide +kernel
theorem dX2_ring_88 : decode cX2_ring 88 = .ok (.getfield 19, 3) := by decide +kernel
theorem dX2_ring_91 : decode cX2_ring 91 = .ok (.i2l, 1) := by decide +kernel
theorem dX2_ring_92 : decode cX2_ring 92 = .ok (.lmul, 1) := by decide +kernel
theorem dX2_ring_93 : decode cX2_ring 93 = .ok (.ladd, 1) := by decide +kernel
theorem dX2_ring_94 : decode cX2_ring 94 = .ok (.ldc2_w 120, 3) := by decide +kernel
theorem dX2_ring_97 : decode cX2_ring 97 = .ok (.aload_n 0, 1) := by decide +kernel
theorem dX2_ring_98 : decode cX2_ring 98 = .ok (.getfield 154, 3) := by decide +kernel
theorem dX2_ring_101 : decode cX2_ring 101 = .ok (.i2l, 1) := by decide +kernel
theorem dX2_ring_102 : decode cX2_ring 102 = .ok (.lmul, 1) := by decide +kernel
theorem dX2_ring_103 : decode cX2_ring 103 = .ok (.aload_n 0, 1) := by decide +kernel
theorem dX2_ring_104 : decode cX2_ring 104 = .ok (.getfield 19, 3) := by decide +kernel
theorem dX2_ring_107 : decode cX2_ring 107 = .ok (.i2l, 1) := by decide +kernel
theorem dX2_ring_108 : decode cX2_ring 108 = .ok (.lmul, 1) := by decide +kernel
theorem dX2_ring_109 : decode cX2_ring 109 = .ok (.ladd, 1) := by decide +kernel
theorem dX2_ring_110 : decode cX2_ring 110 = .ok (.lreturn, 1) := by decide +kernel
set_option maxRecDepth 20000 in
theorem ggX2_reaches_X2_isFigure : GoodIn wsX2_reaches wsX2_isFigure := goodIn_r _ [9, 10, 11, 8, 12] (by decide +kernel) (by decide +kernel)
set_option maxRecDepth 20000 in
theorem gX2_reaches_X2_isFigure : GoodIn wsX2_reaches (va_wsS RX2 42 yX2_isFigure wsX2_isFigure) := goodIn_app (goodIn_of _ (by decide +kernel)) ggX2_reaches_X2_isFigure
set_option maxRecDepth 20000 in
theorem ggX2_reaches_X2_isClosed : GoodIn wsX2_reaches wsX2_isClosed := goodIn_r _ [16, 3, 31, 32, 33, 34, 35, 36, 37, 38, 39, 40, 41, 42, 43] (by decide +kernel) (by decide +kernel)
set_option maxRecDepth 20000 in
theorem gX2_reaches_X2_isClosed : GoodIn wsX2_reaches (wsV RX2 73 RX2 yX2_isClosed wsX2_isClosed) := goodIn_app (goodIn_of _ (by decide +kernel)) ggX2_reaches_X2_isClosed
set_option maxRecDepth 20000 in
theorem ggX2_reaches_X2_x : GoodIn wsX2_reaches wsX2_x := goodIn_r _ [20, 21, 3, 31, 32, 33, 34, 35, 36, 37, 38, 39, 40, 41, 42, 43] (by decide +kernel) (by decide +kernel)
set_option maxRecDepth 20000 in
theorem gX2_reaches_X2_x : GoodIn wsX2_reaches (wsV RX2 53 RX2 yX2_x wsX2_x) := goodIn_app (goodIn_of _ (by decide +kernel)) ggX2_reaches_X2_x
set_option maxRecDepth 20000 in
theorem ggX2_reaches_X2_y : GoodIn wsX2_reaches wsX2_y := goodIn_r _ [25, 26, 3, 31, 32, 33, 34, 35, 36, 37, 38, 39, 40, 41, 42, 43] (by decide +kernel) (by decide +kernel)
set_option maxRecDepth 20000 in
theorem gX2_reaches_X2_y : GoodIn wsX2_reaches (wsV RX2 57 RX2 yX2_y wsX2_y) := goodIn_app (goodIn_of _ (by decide +kernel)) ggX2_reaches_X2_y
set_option maxRecDepth 20000 in
theorem ggX2_reaches_X2_touches : GoodIn wsX2_reaches wsX2_touches := goodIn_r _ [30, 4, 5, 17, 18, 19, 8, 20, 21, 3, 22, 23, 24, 25, 26, 31, 32, 33, 34, 35, 36, 37, 38, 39, 40, 41, 42, 43] (by decide +kernel) (by decide +kernel)
set_option maxRecDepth 20000 in
theorem gX2_reaches_X2_touches : GoodIn wsX2_reaches (wsV RX2 159 RX2 yX2_touches wsX2_touches) := goodIn_app (goodIn_of _ (by decide +kernel)) ggX2_reaches_X2_touches
theorem dX2_reaches_0 : decode cX2_reaches 0 = .ok (.iload_n 1, 1) := by decide +kernel
theorem dX2_reaches_1 : decode cX2_reaches 1 = .ok (.invokestatic 42, 3) := by decide +kernel
theorem dX2_reaches_4 : decode cX2_reaches 4 = .ok (.ifCond .ne 5, 3) := by decide +kernel
theorem dX2_reaches_7 : decode cX2_reaches 7 = .ok (.iconst (-1), 1) := by decide +kernel
theorem dX2_reaches_8 : decode cX2_reaches 8 = .ok (.ireturn, 1) := by decide +kernel
theorem dX2_reaches_9 : decode cX2_reaches 9 = .ok (.aload_n 0, 1) := by decide +kernel
theorem dX2_reaches_10 : decode cX2_reaches 10 = .ok (.iload_n 1, 1) := by decide +kernel
theorem dX2_reaches_11 : decode cX2_reaches 11 = .ok (.invokevirtual 73, 3) := by decide +kernel
theorem dX2_reaches_14 : decode cX2_reaches 14 = .ok (.ifCond .ne 6, 3) := by decide +kernel
theorem dX2_reaches_17 : decode cX2_reaches 17 = .ok (.bipush (-3), 2) := by decide +kernel
theorem dX2_reaches_19 : decode cX2_reaches 19 = .ok (.ireturn, 1) := by decide +kernel
theorem dX2_reaches_20 : decode cX2_reaches 20 = .ok (.aload_n 0, 1) := by decide +kernel
theorem dX2_reaches_21 : decode cX2_reaches 21 = .ok (.getfield 29, 3) := by decide +kernel
theorem dX2_reaches_24 : decode cX2_reaches 24 = .ok (.aload_n 0, 1) := by decide +kernel
theorem dX2_reaches_25 : decode cX2_reaches 25 = .ok (.getfield 19, 3) := by decide +kernel
theorem dX2_reaches_28 : decode cX2_reaches 28 = .ok (.isub, 1) := by decide +kernel
theorem dX2_reaches_29 : decode cX2_reaches 29 = .ok (.i2l, 1) := by decide +kernel
theorem dX2_reaches_30 : decode cX2_reaches 30 = .ok (.lstore_n 2, 1) := by decide +kernel
theorem dX2_reaches_31 : decode cX2_reaches 31 = .ok (.aload_n 0, 1) := by decide +kernel
theorem dX2_reaches_32 : decode cX2_reaches 32 = .ok (.getfield 29, 3) := by decide +kernel
theorem dX2_reaches_35 : decode cX2_reaches 35 = .ok (.aload_n 0, 1) := by decide +kernel
theorem dX2_reaches_36 : decode cX2_reaches 36 = .ok (.getfield 19, 3) := by decide +kernel
theorem dX2_reaches_39 : decode cX2_reaches 39 = .ok (.iadd, 1) := by decide +kernel
theorem dX2_reaches_40 : decode cX2_reaches 40 = .ok (.i2l, 1) := by decide +kernel
theorem dX2_reaches_41 : decode cX2_reaches 41 = .ok (.lstore 4, 2) := by decide +kernel
theorem dX2_reaches_43 : decode cX2_reaches 43 = .ok (.iconst 1, 1) := by decide +kernel
theorem dX2_reaches_44 : decode cX2_reaches 44 = .ok (.istore 6, 2) := by decide +kernel
theorem dX2_reaches_46 : decode cX2_reaches 46 = .ok (.iconst 0, 1) := by decide +kernel
theorem dX2_reaches_47 : decode cX2_reaches 47 = .ok (.istore 7, 2) := by decide +kernel
theorem dX2_reaches_49 : decode cX2_reaches 49 = .ok (.iload 7, 2) := by decide +kernel
theorem dX2_reaches_51 : decode cX2_reaches 51 = .ok (.aload_n 0, 1) := by decide +kernel
theorem dX2_reaches_52 : decode cX2_reaches 52 = .ok (.getfield 7, 3) := by decide +kernel
theorem dX2_reaches_55 : decode cX2_reaches 55 = .ok (.iload_n 1, 1) := by decide +kernel
theorem dX2_reaches_56 : decode cX2_reaches 56 = .ok (.iaload, 1) := by decide +kernel
theorem dX2_reaches_57 : decode cX2_reaches 57 = .ok (.if_icmp .ge 95, 3) := by decide +kernel
theorem dX2_reaches_60 : decode cX2_reaches 60 = .ok (.aload_n 0, 1) := by decide +kernel
theorem dX2_reaches_61 : decode cX2_reaches 61 = .ok (.iload_n 1, 1) := by decide +kernel
theorem dX2_reaches_62 : decode cX2_reaches 62 = .ok (.iload 7, 2) := by decide +kernel
theorem dX2_reaches_64 : decode cX2_reaches 64 = .ok (.invokevirtual 53, 3) := by decide +kernel
theorem dX2_reaches_67 : decode cX2_reaches 67 = .ok (.aload_n 0, 1) := by decide +kernel
theorem dX2_reaches_68 : decode cX2_reaches 68 = .ok (.getfield 148, 3) := by decide +kernel
theorem dX2_reaches_71 : decode cX2_reaches 71 = .ok (.isub, 1) := by decide +kernel
theorem dX2_reaches_72 : decode cX2_reaches 72 = .ok (.i2l, 1) := by decide +kernel
theorem dX2_reaches_73 : decode cX2_reaches 73 = .ok (.lstore 8, 2) := by decide +kernel
theorem dX2_reaches_75 : decode cX2_reaches 75 = .ok (.aload_n 0, 1) := by decide +kernel
theorem dX2_reaches_76 : decode cX2_reaches 76 = .ok (.iload_n 1, 1) := by decide +kernel
theorem dX2_reaches_77 : decode cX2_reaches 77 = .ok (.iload 7, 2) := by decide +kernel
theorem dX2_reaches_79 : decode cX2_reaches 79 = .ok (.invokevirtual 57, 3) := by decide +kernel
theorem dX2_reaches_82 : decode cX2_reaches 82 = .ok (.aload_n 0, 1) := by decide +kernel
theorem dX2_reaches_83 : decode cX2_reaches 83 = .ok (.getfield 151, 3) := by decide +kernel
theorem dX2_reaches_86 : decode cX2_reaches 86 = .ok (.isub, 1) := by decide +kernel
theorem dX2_reaches_87 : decode cX2_reaches 87 = .ok (.i2l, 1) := by decide +kernel
theorem dX2_reaches_88 : decode cX2_reaches 88 = .ok (.lstore 10, 2) := by decide +kernel
theorem dX2_reaches_90 : decode cX2_reaches 90 = .ok (.lload 8, 2) := by decide +kernel
theorem dX2_reaches_92 : decode cX2_reaches 92 = .ok (.lload 8, 2) := by decide +kernel
theorem dX2_reaches_94 : decode cX2_reaches 94 = .ok (.lmul, 1) := by decide +kernel
theorem dX2_reaches_95 : decode cX2_reaches 95 = .ok (.lload 10, 2) := by decide +kernel
theorem dX2_reaches_97 : decode cX2_reaches 97 = .ok (.lload 10, 2) := by decide +kernel
theorem dX2_reaches_99 : decode cX2_reaches 99 = .ok (.lmul, 1) := by decide +kernel
theorem dX2_reaches_100 : decode cX2_reaches 100 = .ok (.ladd, 1) := by decide +kernel
theorem dX2_reaches_101 : decode cX2_reaches 101 = .ok (.lstore 12, 2) := by decide +kernel
theorem dX2_reaches_103 : decode cX2_reaches 103 = .ok (.iload 6, 2) := by decide +kernel
theorem dX2_reaches_105 : decode cX2_reaches 105 = .ok (.ifCond .eq 38, 3) := by decide +kernel
theorem dX2_reaches_108 : decode cX2_reaches 108 = .ok (.lload 12, 2) := by decide +kernel
theorem dX2_reaches_110 : decode cX2_reaches 110 = .ok (.lload_n 2, 1) := by decide +kernel
theorem dX2_reaches_111 : decode cX2_reaches 111 = .ok (.lload_n 2, 1) := by decide +kernel
theorem dX2_reaches_112 : decode cX2_reaches 112 = .ok (.lmul, 1) := by decide +kernel
theorem dX2_reaches_113 : decode cX2_reaches 113 = .ok (.lcmp, 1) := by decide +kernel
theorem dX2_reaches_114 : decode cX2_reaches 114 = .ok (.ifCond .le 29, 3) := by decide +kernel
theorem dX2_reaches_117 : decode cX2_reaches 117 = .ok (.lload 12, 2) := by decide +kernel
theorem dX2_reaches_119 : decode cX2_reaches 119 = .ok (.lload 4, 2) := by decide +kernel
theorem dX2_reaches_121 : decode cX2_reaches 121 = .ok (.lload 4, 2) := by decide +kernel
theorem dX2_reaches_123 : decode cX2_reaches 123 = .ok (.lmul, 1) := by decide +kernel
theorem dX2_reaches_124 : decode cX2_reaches 124 = .ok (.lcmp, 1) := by decide +kernel
theorem dX2_reaches_125 : decode cX2_reaches 125 = .ok (.ifCond .ge 18, 3) := by decide +kernel
theorem dX2_reaches_128 : decode cX2_reaches 128 = .ok (.aload_n 0, 1) := by decide +kernel
theorem dX2_reaches_129 : decode cX2_reaches 129 = .ok (.iload_n 1, 1) := by decide +kernel
theorem dX2_reaches_130 : decode cX2_reaches 130 = .ok (.iload 7, 2) := by decide +kernel
theorem dX2_reaches_132 : decode cX2_reaches 132 = .ok (.lload_n 2, 1) := by decide +kernel
theorem dX2_reaches_133 : decode cX2_reaches 133 = .ok (.invokevirtual 159, 3) := by decide +kernel
theorem dX2_reaches_136 : decode cX2_reaches 136 = .ok (.ifCond .ne 7, 3) := by decide +kernel
theorem dX2_reaches_139 : decode cX2_reaches 139 = .ok (.iconst 1, 1) := by decide +kernel
theorem dX2_reaches_140 : decode cX2_reaches 140 = .ok (.goto 4, 3) := by decide +kernel
theorem dX2_reaches_143 : decode cX2_reaches 143 = .ok (.iconst 0, 1) := by decide +kernel
theorem dX2_reaches_144 : decode cX2_reaches 144 = .ok (.istore 6, 2) := by decide +kernel
theorem dX2_reaches_146 : decode cX2_reaches 146 = .ok (.iinc 7 1, 3) := by decide +kernel
theorem dX2_reaches_149 : decode cX2_reaches 149 = .ok (.goto (-100), 3) := by decide +kernel
theorem dX2_reaches_152 : decode cX2_reaches 152 = .ok (.iload 6, 2) := by decide +kernel
theorem dX2_reaches_154 : decode cX2_reaches 154 = .ok (.ifCond .eq 7, 3) := by decide +kernel
theorem dX2_reaches_157 : decode cX2_reaches 157 = .ok (.iconst 1, 1) := by decide +kernel
theorem dX2_reaches_158 : decode cX2_reaches 158 = .ok (.goto 4, 3) := by decide +kernel
theorem dX2_reaches_161 : decode cX2_reaches 161 = .ok (.iconst 0, 1) := by decide +kernel
theorem dX2_reaches_162 : decode cX2_reaches 162 = .ok (.ireturn, 1) := by decide +kernel
set_option maxRecDepth 20000 in
theorem ggX2_touches_X2_x : GoodIn wsX2_touches wsX2_x := goodIn_r _ [7, 8, 9, 15, 16, 17, 18, 19, 20, 21, 22, 23, 24, 25, 26, 27] (by decide +kernel) (by decide +kernel)
set_option maxRecDepth 20000 in
theorem gX2_touches_X2_x : GoodIn wsX2_touches (wsV RX2 53 RX2 yX2_x wsX2_x) := goodIn_app (goodIn_of _ (by decide +kernel)) ggX2_touches_X2_x
set_option maxRecDepth 20000 in
theorem ggX2_touches_X2_y : GoodIn wsX2_touches wsX2_y := goodIn_r _ [13, 14, 9, 15, 16, 17, 18, 19, 20, 21, 22, 23, 24, 25, 26, 27] (by decide +kernel) (by decide +kernel)
set_option maxRecDepth 20000 in
theorem gX2_touches_X2_y : GoodIn wsX2_touches (wsV RX2 57 RX2 yX2_y wsX2_y) := goodIn_app (goodIn_of _ (by decide +kernel)) ggX2_touches_X2_y
theorem dX2_touches_0 : decode cX2_touches 0 = .ok (.aload_n 0, 1) := by decide +kernel
theorem dX2_touches_1 : decode cX2_touches 1 = .ok (.iload_n 1, 1) := by decide +kernel
theorem dX2_touches_2 : decode cX2_touches 2 = .ok (.iload_n 2, 1) := by decide +kernel
theorem dX2_touches_3 : decode cX2_touches 3 = .ok (.iconst 1, 1) := by decide +kernel
theorem dX2_touches_4 : decode cX2_touches 4 = .ok (.iadd, 1) := by decide +kernel
theorem dX2_touches_5 : decode cX2_touches 5 = .ok (.invokevirtual 53, 3) := by decide +kernel
theorem dX2_touches_8 : decode cX2_touches 8 = .ok (.aload_n 0, 1) := by decide +kernel
theorem dX2_touches_9 : decode cX2_touches 9 = .ok (.iload_n 1, 1) := by decide +kernel
theorem dX2_touches_10 : decode cX2_touches 10 = .ok (.iload_n 2, 1) := by decide +kernel
theorem dX2_touches_11 : decode cX2_touches 11 = .ok (.invokevirtual 53, 3) := by decide +kernel
theorem dX2_touches_14 : decode cX2_touches 14 = .ok (.isub, 1) := by decide +kernel
theorem dX2_touches_15 : decode cX2_touches 15 = .ok (.i2l, 1) := by decide +kernel
theorem dX2_touches_16 : decode cX2_touches 16 = .ok (.lstore 5, 2) := by decide +kernel
theorem dX2_touches_18 : decode cX2_touches 18 = .ok (.aload_n 0, 1) := by decide +kernel
theorem dX2_touches_19 : decode cX2_touches 19 = .ok (.iload_n 1, 1) := by decide +kernel
theorem dX2_touches_20 : decode cX2_touches 20 = .ok (.iload_n 2, 1) := by decide +kernel
theorem dX2_touches_21 : decode cX2_touches 21 = .ok (.iconst 1, 1) := by decide +kernel
theorem dX2_touches_22 : decode cX2_touches 22 = .ok (.iadd, 1) := by decide +kernel
theorem dX2_touches_23 : decode cX2_touches 23 = .ok (.invokevirtual 57, 3) := by decide +kernel
theorem dX2_touches_26 : decode cX2_touches 26 = .ok (.aload_n 0, 1) := by decide +kernel
theorem dX2_touches_27 : decode cX2_touches 27 = .ok (.iload_n 1, 1) := by decide +kernel
theorem dX2_touches_28 : decode cX2_touches 28 = .ok (.iload_n 2, 1) := by decide +kernel
theorem dX2_touches_29 : decode cX2_touches 29 = .ok (.invokevirtual 57, 3) := by decide +kernel
theorem dX2_touches_32 : decode cX2_touches 32 = .ok (.isub, 1) := by decide +kernel
theorem dX2_touches_33 : decode cX2_touches 33 = .ok (.i2l, 1) := by decide +kernel
theorem dX2_touches_34 : decode cX2_touches 34 = .ok (.lstore 7, 2) := by decide +kernel
theorem dX2_touches_36 : decode cX2_touches 36 = .ok (.aload_n 0, 1) := by decide +kernel
theorem dX2_touches_37 : decode cX2_touches 37 = .ok (.getfield 148, 3) := by decide +kernel
theorem dX2_touches_40 : decode cX2_touches 40 = .ok (.aload_n 0, 1) := by decide +kernel
theorem dX2_touches_41 : decode cX2_touches 41 = .ok (.iload_n 1, 1) := by decide +kernel
theorem dX2_touches_42 : decode cX2_touches 42 = .ok (.iload_n 2, 1) := by decide +kernel
theorem dX2_touches_43 : decode cX2_touches 43 = .ok (.invokevirtual 53, 3) := by decide +kernel
theorem dX2_touches_46 : decode cX2_touches 46 = .ok (.isub, 1) := by decide +kernel
theorem dX2_touches_47 : decode cX2_touches 47 = .ok (.i2l, 1) := by decide +kernel
theorem dX2_touches_48 : decode cX2_touches 48 = .ok (.lstore 9, 2) := by decide +kernel
theorem dX2_touches_50 : decode cX2_touches 50 = .ok (.aload_n 0, 1) := by decide +kernel
theorem dX2_touches_51 : decode cX2_touches 51 = .ok (.getfield 151, 3) := by decide +kernel
theorem dX2_touches_54 : decode cX2_touches 54 = .ok (.aload_n 0, 1) := by decide +kernel
theorem dX2_touches_55 : decode cX2_touches 55 = .ok (.iload_n 1, 1) := by decide +kernel
theorem dX2_touches_56 : decode cX2_touches 56 = .ok (.iload_n 2, 1) := by decide +kernel
theorem dX2_touches_57 : decode cX2_touches 57 = .ok (.invokevirtual 57, 3) := by decide +kernel
theorem dX2_touches_60 : decode cX2_touches 60 = .ok (.isub, 1) := by decide +kernel
theorem dX2_touches_61 : decode cX2_touches 61 = .ok (.i2l, 1) := by decide +kernel
theorem dX2_touches_62 : decode cX2_touches 62 = .ok (.lstore 11, 2) := by decide +kernel
theorem dX2_touches_64 : decode cX2_touches 64 = .ok (.lload 9, 2) := by decide +kernel
theorem dX2_touches_66 : decode cX2_touches 66 = .ok (.lload 5, 2) := by decide +kernel
theorem dX2_touches_68 : decode cX2_touches 68 = .ok (.lmul, 1) := by decide +kernel
theorem dX2_touches_69 : decode cX2_touches 69 = .ok (.lload 11, 2) := by decide +kernel
theorem dX2_touches_71 : decode cX2_touches 71 = .ok (.lload 7, 2) := by decide +kernel
theorem dX2_touches_73 : decode cX2_touches 73 = .ok (.lmul, 1) := by decide +kernel
theorem dX2_touches_74 : decode cX2_touches 74 = .ok (.ladd, 1) := by decide +kernel
theorem dX2_touches_75 : decode cX2_touches 75 = .ok (.lstore 13, 2) := by decide +kernel
theorem dX2_touches_77 : decode cX2_touches 77 = .ok (.lload 5, 2) := by decide +kernel
theorem dX2_touches_79 : decode cX2_touches 79 = .ok (.lload 5, 2) := by decide +kernel
theorem dX2_touches_81 : decode cX2_touches 81 = .ok (.lmul, 1) := by decide +kernel
theorem dX2_touches_82 : decode cX2_touches 82 = .ok (.lload 7, 2) := by decide +kernel
theorem dX2_touches_84 : decode cX2_touches 84 = .ok (.lload 7, 2) := by decide +kernel
theorem dX2_touches_86 : decode cX2_touches 86 = .ok (.lmul, 1) := by decide +kernel
theorem dX2_touches_87 : decode cX2_touches 87 = .ok (.ladd, 1) := by decide +kernel
theorem dX2_touches_88 : decode cX2_touches 88 = .ok (.lstore 15, 2) := by decide +kernel
theorem dX2_touches_90 : decode cX2_touches 90 = .ok (.lload 9, 2) := by decide +kernel
theorem dX2_touches_92 : decode cX2_touches 92 = .ok (.lload 7, 2) := by decide +kernel
theorem dX2_touches_94 : decode cX2_touches 94 = .ok (.lmul, 1) := by decide +kernel
theorem dX2_touches_95 : decode cX2_touches 95 = .ok (.lload 11, 2) := by decide +kernel
theorem dX2_touches_97 : decode cX2_touches 97 = .ok (.lload 5, 2) := by decide +kernel
theorem dX2_touches_99 : decode cX2_touches 99 = .ok (.lmul, 1) := by decide +kernel
theorem dX2_touches_100 : decode cX2_touches 100 = .ok (.lsub, 1) := by decide +kernel
theorem dX2_touches_101 : decode cX2_touches 101 = .ok (.lstore 17, 2) := by decide +kernel
theorem dX2_touches_103 : decode cX2_touches 103 = .ok (.lload 13, 2) := by decide +kernel
theorem dX2_touches_105 : decode cX2_touches 105 = .ok (.lconst 0, 1) := by decide +kernel
theorem dX2_touches_106 : decode cX2_touches 106 = .ok (.lcmp, 1) := by decide +kernel
theorem dX2_touches_107 : decode cX2_touches 107 = .ok (.ifCond .le 30, 3) := by decide +kernel
theorem dX2_touches_110 : decode cX2_touches 110 = .ok (.lload 13, 2) := by decide +kernel
theorem dX2_touches_112 : decode cX2_touches 112 = .ok (.lload 15, 2) := by decide +kernel
theorem dX2_touches_114 : decode cX2_touches 114 = .ok (.lcmp, 1) := by decide +kernel
theorem dX2_touches_115 : decode cX2_touches 115 = .ok (.ifCond .ge 22, 3) := by decide +kernel
theorem dX2_touches_118 : decode cX2_touches 118 = .ok (.lload 17, 2) := by decide +kernel
theorem dX2_touches_120 : decode cX2_touches 120 = .ok (.lload 17, 2) := by decide +kernel
theorem dX2_touches_122 : decode cX2_touches 122 = .ok (.lmul, 1) := by decide +kernel
theorem dX2_touches_123 : decode cX2_touches 123 = .ok (.lload_n 3, 1) := by decide +kernel
theorem dX2_touches_124 : decode cX2_touches 124 = .ok (.lload_n 3, 1) := by decide +kernel
theorem dX2_touches_125 : decode cX2_touches 125 = .ok (.lmul, 1) := by decide +kernel
theorem dX2_touches_126 : decode cX2_touches 126 = .ok (.lload 15, 2) := by decide +kernel
theorem dX2_touches_128 : decode cX2_touches 128 = .ok (.lmul, 1) := by decide +kernel
theorem dX2_touches_129 : decode cX2_touches 129 = .ok (.lcmp, 1) := by decide +kernel
theorem dX2_touches_130 : decode cX2_touches 130 = .ok (.ifCond .gt 7, 3) := by decide +kernel
theorem dX2_touches_133 : decode cX2_touches 133 = .ok (.iconst 1, 1) := by decide +kernel
theorem dX2_touches_134 : decode cX2_touches 134 = .ok (.goto 4, 3) := by decide +kernel
theorem dX2_touches_137 : decode cX2_touches 137 = .ok (.iconst 0, 1) := by decide +kernel
theorem dX2_touches_138 : decode cX2_touches 138 = .ok (.ireturn, 1) := by decide +kernel
set_option maxRecDepth 20000 in
theorem ggX2_teeth_X2_in : GoodIn wsX2_teeth wsX2_in := goodIn_r _ [6] (by decide +kernel) (by decide +kernel)
set_option maxRecDepth 20000 in
theorem gX2_teeth_X2_in : GoodIn wsX2_teeth (va_wsS RX2 38 yX2_in wsX2_in) := goodIn_app (goodIn_of _ (by decide +kernel)) ggX2_teeth_X2_in
theorem dX2_teeth_0 : decode cX2_teeth 0 = .ok (.iload_n 1, 1) := by decide +kernel
theorem dX2_teeth_1 : decode cX2_teeth 1 = .ok (.iconst 1, 1) := by decide +kernel
theorem dX2_teeth_2 : decode cX2_teeth 2 = .ok (.sipush 1000, 3) := by decide +kernel
theorem dX2_teeth_5 : decode cX2_teeth 5 = .ok (.invokestatic 38, 3) := by decide +kernel
theorem dX2_teeth_8 : decode cX2_teeth 8 = .ok (.ifCond .eq 14, 3) := by decide +kernel
theorem dX2_teeth_11 : decode cX2_teeth 11 = .ok (.iload_n 2, 1) := by decide +kernel
theorem dX2_teeth_12 : decode cX2_teeth 12 = .ok (.iconst 1, 1) := by decide +kernel
theorem dX2_teeth_13 : decode cX2_teeth 13 = .ok (.sipush 10000, 3) := by decide +kernel
theorem dX2_teeth_16 : decode cX2_teeth 16 = .ok (.invokestatic 38, 3) := by decide +kernel
theorem dX2_teeth_19 : decode cX2_teeth 19 = .ok (.ifCond .ne 6, 3) := by decide +kernel
theorem dX2_teeth_22 : decode cX2_teeth 22 = .ok (.bipush (-2), 2) := by decide +kernel
theorem dX2_teeth_24 : decode cX2_teeth 24 = .ok (.ireturn, 1) := by decide +kernel
theorem dX2_teeth_25 : decode cX2_teeth 25 = .ok (.aload_n 0, 1) := by decide +kernel
theorem dX2_teeth_26 : decode cX2_teeth 26 = .ok (.iload_n 1, 1) := by decide +kernel
theorem dX2_teeth_27 : decode cX2_teeth 27 = .ok (.putfield 23, 3) := by decide +kernel
theorem dX2_teeth_30 : decode cX2_teeth 30 = .ok (.aload_n 0, 1) := by decide +kernel
theorem dX2_teeth_31 : decode cX2_teeth 31 = .ok (.iload_n 2, 1) := by decide +kernel
theorem dX2_teeth_32 : decode cX2_teeth 32 = .ok (.putfield 26, 3) := by decide +kernel
theorem dX2_teeth_35 : decode cX2_teeth 35 = .ok (.iconst 1, 1) := by decide +kernel
theorem dX2_teeth_36 : decode cX2_teeth 36 = .ok (.ireturn, 1) := by decide +kernel
set_option maxRecDepth 20000 in
theorem ggX2_count_X2_isFigure : GoodIn wsX2_count wsX2_isFigure := goodIn_r _ [11, 12, 13, 10, 14] (by decide +kernel) (by decide +kernel)
set_option maxRecDepth 20000 in
theorem gX2_count_X2_isFigure : GoodIn wsX2_count (va_wsS RX2 42 yX2_isFigure wsX2_isFigure) := goodIn_app (goodIn_of _ (by decide +kernel)) ggX2_count_X2_isFigure
set_option maxRecDepth 20000 in
theorem ggX2_count_X2_isClosed : GoodIn wsX2_count wsX2_isClosed := goodIn_r _ [18, 3, 37, 38, 39, 40, 41, 42, 43, 44, 45, 46, 47, 48, 49] (by decide +kernel) (by decide +kernel)
set_option maxRecDepth 20000 in
theorem gX2_count_X2_isClosed : GoodIn wsX2_count (wsV RX2 73 RX2 yX2_isClosed wsX2_isClosed) := goodIn_app (goodIn_of _ (by decide +kernel)) ggX2_count_X2_isClosed
set_option maxRecDepth 20000 in
theorem ggX2_count_X2_canGo : GoodIn wsX2_count wsX2_canGo := goodIn_r _ [22, 3, 6, 23, 24, 25, 10, 26, 27, 37, 38, 39, 40, 41, 42, 43, 44, 45, 46, 47, 48, 49] (by decide +kernel) (by decide +kernel)
set_option maxRecDepth 20000 in
theorem gX2_count_X2_canGo : GoodIn wsX2_count (wsV RX2 113 RX2 yX2_canGo wsX2_canGo) := goodIn_app (goodIn_of _ (by decide +kernel)) ggX2_count_X2_canGo
set_option maxRecDepth 20000 in
theorem ggX2_count_X2_along : GoodIn wsX2_count wsX2_along := goodIn_r _ [31, 32, 33, 34, 10, 35, 36, 3, 23, 24, 25, 26, 27, 37, 38, 39, 40, 41, 42, 43, 44, 45, 46, 47, 48, 49] (by decide +kernel) (by decide +kernel)
set_option maxRecDepth 20000 in
theorem gX2_count_X2_along : GoodIn wsX2_count (wsV RX2 116 RX2 yX2_along wsX2_along) := goodIn_app (goodIn_of _ (by decide +kernel)) ggX2_count_X2_along
theorem dX2_count_0 : decode cX2_count 0 = .ok (.iload_n 1, 1) := by decide +kernel
theorem dX2_count_1 : decode cX2_count 1 = .ok (.invokestatic 42, 3) := by decide +kernel
theorem dX2_count_4 : decode cX2_count 4 = .ok (.ifCond .ne 7, 3) := by decide +kernel
theorem dX2_count_7 : decode cX2_count 7 = .ok (.ldc2_w 71, 3) := by decide +kernel
theorem dX2_count_10 : decode cX2_count 10 = .ok (.lreturn, 1) := by decide +kernel
theorem dX2_count_11 : decode cX2_count 11 = .ok (.aload_n 0, 1) := by decide +kernel
theorem dX2_count_12 : decode cX2_count 12 = .ok (.iload_n 1, 1) := by decide +kernel
theorem dX2_count_13 : decode cX2_count 13 = .ok (.invokevirtual 73, 3) := by decide +kernel
theorem dX2_count_16 : decode cX2_count 16 = .ok (.ifCond .eq 11, 3) := by decide +kernel
theorem dX2_count_19 : decode cX2_count 19 = .ok (.aload_n 0, 1) := by decide +kernel
theorem dX2_count_20 : decode cX2_count 20 = .ok (.iload_n 1, 1) := by decide +kernel
theorem dX2_count_21 : decode cX2_count 21 = .ok (.invokevirtual 113, 3) := by decide +kernel
theorem dX2_count_24 : decode cX2_count 24 = .ok (.ifCond .ne 7, 3) := by decide +kernel
theorem dX2_count_27 : decode cX2_count 27 = .ok (.ldc2_w 80, 3) := by decide +kernel
theorem dX2_count_30 : decode cX2_count 30 = .ok (.lreturn, 1) := by decide +kernel
theorem dX2_count_31 : decode cX2_count 31 = .ok (.aload_n 0, 1) := by decide +kernel
theorem dX2_count_32 : decode cX2_count 32 = .ok (.iload_n 1, 1) := by decide +kernel
theorem dX2_count_33 : decode cX2_count 33 = .ok (.aload_n 0, 1) := by decide +kernel
theorem dX2_count_34 : decode cX2_count 34 = .ok (.getfield 7, 3) := by decide +kernel
theorem dX2_count_37 : decode cX2_count 37 = .ok (.iload_n 1, 1) := by decide +kernel
theorem dX2_count_38 : decode cX2_count 38 = .ok (.iaload, 1) := by decide +kernel
theorem dX2_count_39 : decode cX2_count 39 = .ok (.iconst 1, 1) := by decide +kernel
theorem dX2_count_40 : decode cX2_count 40 = .ok (.invokevirtual 116, 3) := by decide +kernel
theorem dX2_count_43 : decode cX2_count 43 = .ok (.lstore_n 2, 1) := by decide +kernel
theorem dX2_count_44 : decode cX2_count 44 = .ok (.lload_n 2, 1) := by decide +kernel
theorem dX2_count_45 : decode cX2_count 45 = .ok (.lconst 0, 1) := by decide +kernel
theorem dX2_count_46 : decode cX2_count 46 = .ok (.lcmp, 1) := by decide +kernel
theorem dX2_count_47 : decode cX2_count 47 = .ok (.ifCond .ge 8, 3) := by decide +kernel
theorem dX2_count_50 : decode cX2_count 50 = .ok (.lload_n 2, 1) := by decide +kernel
theorem dX2_count_51 : decode cX2_count 51 = .ok (.lneg, 1) := by decide +kernel
theorem dX2_count_52 : decode cX2_count 52 = .ok (.goto 4, 3) := by decide +kernel
theorem dX2_count_55 : decode cX2_count 55 = .ok (.lload_n 2, 1) := by decide +kernel
theorem dX2_count_56 : decode cX2_count 56 = .ok (.aload_n 0, 1) := by decide +kernel
theorem dX2_count_57 : decode cX2_count 57 = .ok (.getfield 26, 3) := by decide +kernel
theorem dX2_count_60 : decode cX2_count 60 = .ok (.i2l, 1) := by decide +kernel
theorem dX2_count_61 : decode cX2_count 61 = .ok (.lmul, 1) := by decide +kernel
theorem dX2_count_62 : decode cX2_count 62 = .ok (.ldc2_w 120, 3) := by decide +kernel
theorem dX2_count_65 : decode cX2_count 65 = .ok (.aload_n 0, 1) := by decide +kernel
theorem dX2_count_66 : decode cX2_count 66 = .ok (.getfield 19, 3) := by decide +kernel
theorem dX2_count_69 : decode cX2_count 69 = .ok (.i2l, 1) := by decide +kernel
theorem dX2_count_70 : decode cX2_count 70 = .ok (.lmul, 1) := by decide +kernel
theorem dX2_count_71 : decode cX2_count 71 = .ok (.aload_n 0, 1) := by decide +kernel
theorem dX2_count_72 : decode cX2_count 72 = .ok (.getfield 23, 3) := by decide +kernel
theorem dX2_count_75 : decode cX2_count 75 = .ok (.i2l, 1) := by decide +kernel
theorem dX2_count_76 : decode cX2_count 76 = .ok (.lmul, 1) := by decide +kernel
theorem dX2_count_77 : decode cX2_count 77 = .ok (.ldiv, 1) := by decide +kernel
theorem dX2_count_78 : decode cX2_count 78 = .ok (.lreturn, 1) := by decide +kernel
set_option maxRecDepth 20000 in
theorem ggX2_isCount_X2_in : GoodIn wsX2_isCount wsX2_in := goodIn_r _ [5] (by decide +kernel) (by decide +kernel)
set_option maxRecDepth 20000 in
theorem gX2_isCount_X2_in : GoodIn wsX2_isCount (va_wsS RX2 38 yX2_in wsX2_in) := goodIn_app (goodIn_of _ (by decide +kernel)) ggX2_isCount_X2_in
theorem dX2_isCount_0 : decode cX2_isCount 0 = .ok (.iload_n 0, 1) := by decide +kernel
theorem dX2_isCount_1 : decode cX2_isCount 1 = .ok (.iconst 0, 1) := by decide +kernel
theorem dX2_isCount_2 : decode cX2_isCount 2 = .ok (.ldc 163, 2) := by decide +kernel
theorem dX2_isCount_4 : decode cX2_isCount 4 = .ok (.invokestatic 38, 3) := by decide +kernel
theorem dX2_isCount_7 : decode cX2_isCount 7 = .ok (.ifCond .eq 27, 3) := by decide +kernel
theorem dX2_isCount_10 : decode cX2_isCount 10 = .ok (.iload_n 1, 1) := by decide +kernel
theorem dX2_isCount_11 : decode cX2_isCount 11 = .ok (.iconst 0, 1) := by decide +kernel
theorem dX2_isCount_12 : decode cX2_isCount 12 = .ok (.bipush 100, 2) := by decide +kernel
theorem dX2_isCount_14 : decode cX2_isCount 14 = .ok (.invokestatic 38, 3) := by decide +kernel
theorem dX2_isCount_17 : decode cX2_isCount 17 = .ok (.ifCond .eq 17, 3) := by decide +kernel
theorem dX2_isCount_20 : decode cX2_isCount 20 = .ok (.iload_n 2, 1) := by decide +kernel
theorem dX2_isCount_21 : decode cX2_isCount 21 = .ok (.iconst 0, 1) := by decide +kernel
theorem dX2_isCount_22 : decode cX2_isCount 22 = .ok (.bipush 100, 2) := by decide +kernel
theorem dX2_isCount_24 : decode cX2_isCount 24 = .ok (.invokestatic 38, 3) := by decide +kernel
theorem dX2_isCount_27 : decode cX2_isCount 27 = .ok (.ifCond .eq 7, 3) := by decide +kernel
theorem dX2_isCount_30 : decode cX2_isCount 30 = .ok (.iconst 1, 1) := by decide +kernel
theorem dX2_isCount_31 : decode cX2_isCount 31 = .ok (.goto 4, 3) := by decide +kernel
theorem dX2_isCount_34 : decode cX2_isCount 34 = .ok (.iconst 0, 1) := by decide +kernel
theorem dX2_isCount_35 : decode cX2_isCount 35 = .ok (.ireturn, 1) := by decide +kernel
theorem dX2_bound_0 : decode cX2_bound 0 = .ok (.iload_n 3, 1) := by decide +kernel
theorem dX2_bound_1 : decode cX2_bound 1 = .ok (.ifCond .ne 14, 3) := by decide +kernel
theorem dX2_bound_4 : decode cX2_bound 4 = .ok (.iload_n 0, 1) := by decide +kernel
theorem dX2_bound_5 : decode cX2_bound 5 = .ok (.i2l, 1) := by decide +kernel
theorem dX2_bound_6 : decode cX2_bound 6 = .ok (.iload_n 1, 1) := by decide +kernel
theorem dX2_bound_7 : decode cX2_bound 7 = .ok (.i2l, 1) := by decide +kernel
theorem dX2_bound_8 : decode cX2_bound 8 = .ok (.iload_n 2, 1) := by decide +kernel
theorem dX2_bound_9 : decode cX2_bound 9 = .ok (.i2l, 1) := by decide +kernel
theorem dX2_bound_10 : decode cX2_bound 10 = .ok (.lmul, 1) := by decide +kernel
theorem dX2_bound_11 : decode cX2_bound 11 = .ok (.lsub, 1) := by decide +kernel
theorem dX2_bound_12 : decode cX2_bound 12 = .ok (.goto 13, 3) := by decide +kernel
theorem dX2_bound_15 : decode cX2_bound 15 = .ok (.iload_n 0, 1) := by decide +kernel
theorem dX2_bound_16 : decode cX2_bound 16 = .ok (.i2l, 1) := by decide +kernel
theorem dX2_bound_17 : decode cX2_bound 17 = .ok (.lconst 1, 1) := by decide +kernel
theorem dX2_bound_18 : decode cX2_bound 18 = .ok (.ladd, 1) := by decide +kernel
theorem dX2_bound_19 : decode cX2_bound 19 = .ok (.iload_n 1, 1) := by decide +kernel
theorem dX2_bound_20 : decode cX2_bound 20 = .ok (.i2l, 1) := by decide +kernel
theorem dX2_bound_21 : decode cX2_bound 21 = .ok (.iload_n 2, 1) := by decide +kernel
theorem dX2_bound_22 : decode cX2_bound 22 = .ok (.i2l, 1) := by decide +kernel
theorem dX2_bound_23 : decode cX2_bound 23 = .ok (.lmul, 1) := by decide +kernel
theorem dX2_bound_24 : decode cX2_bound 24 = .ok (.ladd, 1) := by decide +kernel
theorem dX2_bound_25 : decode cX2_bound 25 = .ok (.lstore 4, 2) := by decide +kernel
theorem dX2_bound_27 : decode cX2_bound 27 = .ok (.lload 4, 2) := by decide +kernel
theorem dX2_bound_29 : decode cX2_bound 29 = .ok (.lconst 0, 1) := by decide +kernel
theorem dX2_bound_30 : decode cX2_bound 30 = .ok (.lcmp, 1) := by decide +kernel
theorem dX2_bound_31 : decode cX2_bound 31 = .ok (.ifCond .ge 7, 3) := by decide +kernel
theorem dX2_bound_34 : decode cX2_bound 34 = .ok (.lconst 0, 1) := by decide +kernel
theorem dX2_bound_35 : decode cX2_bound 35 = .ok (.goto 5, 3) := by decide +kernel
theorem dX2_bound_38 : decode cX2_bound 38 = .ok (.lload 4, 2) := by decide +kernel
theorem dX2_bound_40 : decode cX2_bound 40 = .ok (.lreturn, 1) := by decide +kernel
set_option maxRecDepth 20000 in
theorem ggX2_may_X2_isCount : GoodIn wsX2_may wsX2_isCount := goodIn_r _ [8, 9, 10, 11, 7, 12] (by decide +kernel) (by decide +kernel)
set_option maxRecDepth 20000 in
theorem gX2_may_X2_isCount : GoodIn wsX2_may (va_wsS RX2 164 yX2_isCount wsX2_isCount) := goodIn_app (goodIn_of _ (by decide +kernel)) ggX2_may_X2_isCount
set_option maxRecDepth 20000 in
theorem ggX2_may_X2_isPart : GoodIn wsX2_may wsX2_isPart := goodIn_r _ [15, 10, 11, 7, 12] (by decide +kernel) (by decide +kernel)
set_option maxRecDepth 20000 in
theorem gX2_may_X2_isPart : GoodIn wsX2_may (va_wsS RX2 108 yX2_isPart wsX2_isPart) := goodIn_app (goodIn_of _ (by decide +kernel)) ggX2_may_X2_isPart
set_option maxRecDepth 20000 in
theorem ggX2_may_X2_bound : GoodIn wsX2_may wsX2_bound := goodIn_r _ [18] (by decide +kernel) (by decide +kernel)
set_option maxRecDepth 20000 in
theorem gX2_may_X2_bound : GoodIn wsX2_may (va_wsS RX2 167 yX2_bound wsX2_bound) := goodIn_app (goodIn_of _ (by decide +kernel)) ggX2_may_X2_bound
set_option maxRecDepth 20000 in
theorem ggX2_may_X2_term : GoodIn wsX2_may wsX2_term := goodIn_r _ [21, 22, 23, 7, 24] (by decide +kernel) (by decide +kernel)
set_option maxRecDepth 20000 in
theorem gX2_may_X2_term : GoodIn wsX2_may (va_wsS RX2 122 yX2_term wsX2_term) := goodIn_app (goodIn_of _ (by decide +kernel)) ggX2_may_X2_term
theorem dX2_may_0 : decode cX2_may 0 = .ok (.iload_n 1, 1) := by decide +kernel
theorem dX2_may_1 : decode cX2_may 1 = .ok (.iload_n 2, 1) := by decide +kernel
theorem dX2_may_2 : decode cX2_may 2 = .ok (.iload_n 3, 1) := by decide +kernel
theorem dX2_may_3 : decode cX2_may 3 = .ok (.invokestatic 164, 3) := by decide +kernel
theorem dX2_may_6 : decode cX2_may 6 = .ok (.ifCond .eq 19, 3) := by decide +kernel
theorem dX2_may_9 : decode cX2_may 9 = .ok (.iload 4, 2) := by decide +kernel
theorem dX2_may_11 : decode cX2_may 11 = .ok (.invokestatic 108, 3) := by decide +kernel
theorem dX2_may_14 : decode cX2_may 14 = .ok (.ifCond .eq 11, 3) := by decide +kernel
theorem dX2_may_17 : decode cX2_may 17 = .ok (.iload 5, 2) := by decide +kernel
theorem dX2_may_19 : decode cX2_may 19 = .ok (.invokestatic 108, 3) := by decide +kernel
theorem dX2_may_22 : decode cX2_may 22 = .ok (.ifCond .ne 7, 3) := by decide +kernel
theorem dX2_may_25 : decode cX2_may 25 = .ok (.ldc2_w 111, 3) := by decide +kernel
theorem dX2_may_28 : decode cX2_may 28 = .ok (.lreturn, 1) := by decide +kernel
theorem dX2_may_29 : decode cX2_may 29 = .ok (.iload_n 1, 1) := by decide +kernel
theorem dX2_may_30 : decode cX2_may 30 = .ok (.iload_n 2, 1) := by decide +kernel
theorem dX2_may_31 : decode cX2_may 31 = .ok (.iload_n 3, 1) := by decide +kernel
theorem dX2_may_32 : decode cX2_may 32 = .ok (.iload 4, 2) := by decide +kernel
theorem dX2_may_34 : decode cX2_may 34 = .ok (.invokestatic 167, 3) := by decide +kernel
theorem dX2_may_37 : decode cX2_may 37 = .ok (.aload_n 0, 1) := by decide +kernel
theorem dX2_may_38 : decode cX2_may 38 = .ok (.getfield 23, 3) := by decide +kernel
theorem dX2_may_41 : decode cX2_may 41 = .ok (.i2l, 1) := by decide +kernel
theorem dX2_may_42 : decode cX2_may 42 = .ok (.lmul, 1) := by decide +kernel
theorem dX2_may_43 : decode cX2_may 43 = .ok (.aload_n 0, 1) := by decide +kernel
theorem dX2_may_44 : decode cX2_may 44 = .ok (.getfield 19, 3) := by decide +kernel
theorem dX2_may_47 : decode cX2_may 47 = .ok (.i2l, 1) := by decide +kernel
theorem dX2_may_48 : decode cX2_may 48 = .ok (.lmul, 1) := by decide +kernel
theorem dX2_may_49 : decode cX2_may 49 = .ok (.aload_n 0, 1) := by decide +kernel
theorem dX2_may_50 : decode cX2_may 50 = .ok (.getfield 26, 3) := by decide +kernel
theorem dX2_may_53 : decode cX2_may 53 = .ok (.i2l, 1) := by decide +kernel
theorem dX2_may_54 : decode cX2_may 54 = .ok (.iload 5, 2) := by decide +kernel
theorem dX2_may_56 : decode cX2_may 56 = .ok (.invokestatic 122, 3) := by decide +kernel
theorem dX2_may_59 : decode cX2_may 59 = .ok (.lreturn, 1) := by decide +kernel
set_option maxRecDepth 20000 in
theorem ggX2_fits_X2_isFigure : GoodIn wsX2_fits wsX2_isFigure := goodIn_r _ [8, 9, 10, 7, 11] (by decide +kernel) (by decide +kernel)
set_option maxRecDepth 20000 in
theorem gX2_fits_X2_isFigure : GoodIn wsX2_fits (va_wsS RX2 42 yX2_isFigure wsX2_isFigure) := goodIn_app (goodIn_of _ (by decide +kernel)) ggX2_fits_X2_isFigure
set_option maxRecDepth 20000 in
theorem ggX2_fits_X2_isCount : GoodIn wsX2_fits wsX2_isCount := goodIn_r _ [14, 15, 9, 10, 7, 11] (by decide +kernel) (by decide +kernel)
set_option maxRecDepth 20000 in
theorem gX2_fits_X2_isCount : GoodIn wsX2_fits (va_wsS RX2 164 yX2_isCount wsX2_isCount) := goodIn_app (goodIn_of _ (by decide +kernel)) ggX2_fits_X2_isCount
set_option maxRecDepth 20000 in
theorem ggX2_fits_X2_isClosed : GoodIn wsX2_fits wsX2_isClosed := goodIn_r _ [19, 20, 38, 39, 40, 41, 42, 43, 44, 45, 46, 47, 48, 49, 50] (by decide +kernel) (by decide +kernel)
set_option maxRecDepth 20000 in
theorem gX2_fits_X2_isClosed : GoodIn wsX2_fits (wsV RX2 73 RX2 yX2_isClosed wsX2_isClosed) := goodIn_app (goodIn_of _ (by decide +kernel)) ggX2_fits_X2_isClosed
set_option maxRecDepth 20000 in
theorem ggX2_fits_X2_twiceOf : GoodIn wsX2_fits wsX2_twiceOf := goodIn_r _ [24, 20, 25, 26, 27, 7, 28, 29, 30, 31, 32, 33, 34, 38, 39, 40, 41, 42, 43, 44, 45, 46, 47, 48, 49, 50] (by decide +kernel) (by decide +kernel)
set_option maxRecDepth 20000 in
theorem gX2_fits_X2_twiceOf : GoodIn wsX2_fits (wsV RX2 76 RX2 yX2_twiceOf wsX2_twiceOf) := goodIn_app (goodIn_of _ (by decide +kernel)) ggX2_fits_X2_twiceOf
set_option maxRecDepth 20000 in
theorem ggX2_fits_X2_bound : GoodIn wsX2_fits wsX2_bound := goodIn_r _ [37] (by decide +kernel) (by decide +kernel)
set_option maxRecDepth 20000 in
theorem gX2_fits_X2_bound : GoodIn wsX2_fits (va_wsS RX2 167 yX2_bound wsX2_bound) := goodIn_app (goodIn_of _ (by decide +kernel)) ggX2_fits_X2_bound
theorem dX2_fits_0 : decode cX2_fits 0 = .ok (.iload_n 1, 1) := by decide +kernel
theorem dX2_fits_1 : decode cX2_fits 1 = .ok (.invokestatic 42, 3) := by decide +kernel
theorem dX2_fits_4 : decode cX2_fits 4 = .ok (.ifCond .ne 5, 3) := by decide +kernel
theorem dX2_fits_7 : decode cX2_fits 7 = .ok (.iconst (-1), 1) := by decide +kernel
theorem dX2_fits_8 : decode cX2_fits 8 = .ok (.ireturn, 1) := by decide +kernel
theorem dX2_fits_9 : decode cX2_fits 9 = .ok (.iload_n 2, 1) := by decide +kernel
theorem dX2_fits_10 : decode cX2_fits 10 = .ok (.iload_n 3, 1) := by decide +kernel
theorem dX2_fits_11 : decode cX2_fits 11 = .ok (.iload 4, 2) := by decide +kernel
theorem dX2_fits_13 : decode cX2_fits 13 = .ok (.invokestatic 164, 3) := by decide +kernel
theorem dX2_fits_16 : decode cX2_fits 16 = .ok (.ifCond .ne 6, 3) := by decide +kernel
theorem dX2_fits_19 : decode cX2_fits 19 = .ok (.bipush (-2), 2) := by decide +kernel
theorem dX2_fits_21 : decode cX2_fits 21 = .ok (.ireturn, 1) := by decide +kernel
theorem dX2_fits_22 : decode cX2_fits 22 = .ok (.aload_n 0, 1) := by decide +kernel
theorem dX2_fits_23 : decode cX2_fits 23 = .ok (.iload_n 1, 1) := by decide +kernel
theorem dX2_fits_24 : decode cX2_fits 24 = .ok (.invokevirtual 73, 3) := by decide +kernel
theorem dX2_fits_27 : decode cX2_fits 27 = .ok (.ifCond .ne 6, 3) := by decide +kernel
theorem dX2_fits_30 : decode cX2_fits 30 = .ok (.bipush (-3), 2) := by decide +kernel
theorem dX2_fits_32 : decode cX2_fits 32 = .ok (.ireturn, 1) := by decide +kernel
theorem dX2_fits_33 : decode cX2_fits 33 = .ok (.aload_n 0, 1) := by decide +kernel
theorem dX2_fits_34 : decode cX2_fits 34 = .ok (.iload_n 1, 1) := by decide +kernel
theorem dX2_fits_35 : decode cX2_fits 35 = .ok (.invokevirtual 76, 3) := by decide +kernel
theorem dX2_fits_38 : decode cX2_fits 38 = .ok (.lstore 5, 2) := by decide +kernel
theorem dX2_fits_40 : decode cX2_fits 40 = .ok (.lload 5, 2) := by decide +kernel
theorem dX2_fits_42 : decode cX2_fits 42 = .ok (.lconst 0, 1) := by decide +kernel
theorem dX2_fits_43 : decode cX2_fits 43 = .ok (.lcmp, 1) := by decide +kernel
theorem dX2_fits_44 : decode cX2_fits 44 = .ok (.ifCond .ge 9, 3) := by decide +kernel
theorem dX2_fits_47 : decode cX2_fits 47 = .ok (.lload 5, 2) := by decide +kernel
theorem dX2_fits_49 : decode cX2_fits 49 = .ok (.lneg, 1) := by decide +kernel
theorem dX2_fits_50 : decode cX2_fits 50 = .ok (.goto 5, 3) := by decide +kernel
theorem dX2_fits_53 : decode cX2_fits 53 = .ok (.lload 5, 2) := by decide +kernel
theorem dX2_fits_55 : decode cX2_fits 55 = .ok (.aload_n 0, 1) := by decide +kernel
theorem dX2_fits_56 : decode cX2_fits 56 = .ok (.getfield 26, 3) := by decide +kernel
theorem dX2_fits_59 : decode cX2_fits 59 = .ok (.i2l, 1) := by decide +kernel
theorem dX2_fits_60 : decode cX2_fits 60 = .ok (.lmul, 1) := by decide +kernel
theorem dX2_fits_61 : decode cX2_fits 61 = .ok (.lstore 7, 2) := by decide +kernel
theorem dX2_fits_63 : decode cX2_fits 63 = .ok (.ldc2_w 120, 3) := by decide +kernel
theorem dX2_fits_66 : decode cX2_fits 66 = .ok (.aload_n 0, 1) := by decide +kernel
theorem dX2_fits_67 : decode cX2_fits 67 = .ok (.getfield 23, 3) := by decide +kernel
theorem dX2_fits_70 : decode cX2_fits 70 = .ok (.i2l, 1) := by decide +kernel
theorem dX2_fits_71 : decode cX2_fits 71 = .ok (.lmul, 1) := by decide +kernel
theorem dX2_fits_72 : decode cX2_fits 72 = .ok (.aload_n 0, 1) := by decide +kernel
theorem dX2_fits_73 : decode cX2_fits 73 = .ok (.getfield 19, 3) := by decide +kernel
theorem dX2_fits_76 : decode cX2_fits 76 = .ok (.i2l, 1) := by decide +kernel
theorem dX2_fits_77 : decode cX2_fits 77 = .ok (.lmul, 1) := by decide +kernel
theorem dX2_fits_78 : decode cX2_fits 78 = .ok (.lstore 9, 2) := by decide +kernel
theorem dX2_fits_80 : decode cX2_fits 80 = .ok (.lload 7, 2) := by decide +kernel
theorem dX2_fits_82 : decode cX2_fits 82 = .ok (.iload_n 2, 1) := by decide +kernel
theorem dX2_fits_83 : decode cX2_fits 83 = .ok (.iload_n 3, 1) := by decide +kernel
theorem dX2_fits_84 : decode cX2_fits 84 = .ok (.iload 4, 2) := by decide +kernel
theorem dX2_fits_86 : decode cX2_fits 86 = .ok (.iconst 0, 1) := by decide +kernel
theorem dX2_fits_87 : decode cX2_fits 87 = .ok (.invokestatic 167, 3) := by decide +kernel
theorem dX2_fits_90 : decode cX2_fits 90 = .ok (.lload 9, 2) := by decide +kernel
theorem dX2_fits_92 : decode cX2_fits 92 = .ok (.lmul, 1) := by decide +kernel
theorem dX2_fits_93 : decode cX2_fits 93 = .ok (.lcmp, 1) := by decide +kernel
theorem dX2_fits_94 : decode cX2_fits 94 = .ok (.ifCond .lt 24, 3) := by decide +kernel
theorem dX2_fits_97 : decode cX2_fits 97 = .ok (.lload 7, 2) := by decide +kernel
theorem dX2_fits_99 : decode cX2_fits 99 = .ok (.iload_n 2, 1) := by decide +kernel
theorem dX2_fits_100 : decode cX2_fits 100 = .ok (.iload_n 3, 1) := by decide +kernel
theorem dX2_fits_101 : decode cX2_fits 101 = .ok (.iload 4, 2) := by decide +kernel
theorem dX2_fits_103 : decode cX2_fits 103 = .ok (.iconst 1, 1) := by decide +kernel
theorem dX2_fits_104 : decode cX2_fits 104 = .ok (.invokestatic 167, 3) := by decide +kernel
theorem dX2_fits_107 : decode cX2_fits 107 = .ok (.lload 9, 2) := by decide +kernel
theorem dX2_fits_109 : decode cX2_fits 109 = .ok (.lmul, 1) := by decide +kernel
theorem dX2_fits_110 : decode cX2_fits 110 = .ok (.lcmp, 1) := by decide +kernel
theorem dX2_fits_111 : decode cX2_fits 111 = .ok (.ifCond .ge 7, 3) := by decide +kernel
theorem dX2_fits_114 : decode cX2_fits 114 = .ok (.iconst 1, 1) := by decide +kernel
theorem dX2_fits_115 : decode cX2_fits 115 = .ok (.goto 4, 3) := by decide +kernel
theorem dX2_fits_118 : decode cX2_fits 118 = .ok (.iconst 0, 1) := by decide +kernel
theorem dX2_fits_119 : decode cX2_fits 119 = .ok (.ireturn, 1) := by decide +kernel
set_option maxRecDepth 20000 in
theorem ggX2_join_X2_isPoint : GoodIn wsX2_join wsX2_isPoint := goodIn_r _ [7, 1, 8, 9, 6, 10, 11, 12, 13, 38, 39, 40, 41, 42, 43, 44, 45, 46, 47, 48, 49, 50] (by decide +kernel) (by decide +kernel)
set_option maxRecDepth 20000 in
theorem gX2_join_X2_isPoint : GoodIn wsX2_join (wsV RX2 49 RX2 yX2_isPoint wsX2_isPoint) := goodIn_app (goodIn_of _ (by decide +kernel)) ggX2_join_X2_isPoint
set_option maxRecDepth 20000 in
theorem ggX2_join_X2_isClosed : GoodIn wsX2_join wsX2_isClosed := goodIn_r _ [17, 1, 38, 39, 40, 41, 42, 43, 44, 45, 46, 47, 48, 49, 50] (by decide +kernel) (by decide +kernel)
set_option maxRecDepth 20000 in
theorem gX2_join_X2_isClosed : GoodIn wsX2_join (wsV RX2 73 RX2 yX2_isClosed wsX2_isClosed) := goodIn_app (goodIn_of _ (by decide +kernel)) ggX2_join_X2_isClosed
set_option maxRecDepth 20000 in
theorem ggX2_join_X2_x : GoodIn wsX2_join wsX2_x := goodIn_r _ [21, 22, 1, 38, 39, 40, 41, 42, 43, 44, 45, 46, 47, 48, 49, 50] (by decide +kernel) (by decide +kernel)
set_option maxRecDepth 20000 in
theorem gX2_join_X2_x : GoodIn wsX2_join (wsV RX2 53 RX2 yX2_x wsX2_x) := goodIn_app (goodIn_of _ (by decide +kernel)) ggX2_join_X2_x
set_option maxRecDepth 20000 in
theorem ggX2_join_X2_y : GoodIn wsX2_join wsX2_y := goodIn_r _ [26, 27, 1, 38, 39, 40, 41, 42, 43, 44, 45, 46, 47, 48, 49, 50] (by decide +kernel) (by decide +kernel)
set_option maxRecDepth 20000 in
theorem gX2_join_X2_y : GoodIn wsX2_join (wsV RX2 57 RX2 yX2_y wsX2_y) := goodIn_app (goodIn_of _ (by decide +kernel)) ggX2_join_X2_y
set_option maxRecDepth 20000 in
theorem ggX2_join_X2_lay : GoodIn wsX2_join wsX2_lay := goodIn_r _ [31, 32, 2, 33, 38, 39, 40, 41, 42, 43, 44, 45, 46, 47, 48, 49, 50] (by decide +kernel) (by decide +kernel)
set_option maxRecDepth 20000 in
theorem gX2_join_X2_lay : GoodIn wsX2_join (wsV RX2 63 RX2 yX2_lay wsX2_lay) := goodIn_app (goodIn_of _ (by decide +kernel)) ggX2_join_X2_lay
set_option maxRecDepth 20000 in
theorem ggX2_join_X2_take : GoodIn wsX2_join wsX2_take := goodIn_r _ [37, 1, 2, 22, 32, 27, 33, 38, 39, 40, 41, 42, 43, 44, 45, 46, 47, 48, 49, 50] (by decide +kernel) (by decide +kernel)
set_option maxRecDepth 20000 in
theorem gX2_join_X2_take : GoodIn wsX2_join (wsV RX2 67 RX2 yX2_take wsX2_take) := goodIn_app (goodIn_of _ (by decide +kernel)) ggX2_join_X2_take
theorem dX2_join_0 : decode cX2_join 0 = .ok (.aload_n 0, 1) := by decide +kernel
theorem dX2_join_1 : decode cX2_join 1 = .ok (.iload_n 1, 1) := by decide +kernel
theorem dX2_join_2 : decode cX2_join 2 = .ok (.iload_n 2, 1) := by decide +kernel
theorem dX2_join_3 : decode cX2_join 3 = .ok (.invokevirtual 49, 3) := by decide +kernel
theorem dX2_join_6 : decode cX2_join 6 = .ok (.ifCond .eq 18, 3) := by decide +kernel
theorem dX2_join_9 : decode cX2_join 9 = .ok (.aload_n 0, 1) := by decide +kernel
theorem dX2_join_10 : decode cX2_join 10 = .ok (.iload_n 3, 1) := by decide +kernel
theorem dX2_join_11 : decode cX2_join 11 = .ok (.iload 4, 2) := by decide +kernel
theorem dX2_join_13 : decode cX2_join 13 = .ok (.invokevirtual 49, 3) := by decide +kernel
theorem dX2_join_16 : decode cX2_join 16 = .ok (.ifCond .eq 8, 3) := by decide +kernel
theorem dX2_join_19 : decode cX2_join 19 = .ok (.iload_n 1, 1) := by decide +kernel
theorem dX2_join_20 : decode cX2_join 20 = .ok (.iload_n 3, 1) := by decide +kernel
theorem dX2_join_21 : decode cX2_join 21 = .ok (.if_icmp .ne 5, 3) := by decide +kernel
theorem dX2_join_24 : decode cX2_join 24 = .ok (.iconst (-1), 1) := by decide +kernel
theorem dX2_join_25 : decode cX2_join 25 = .ok (.ireturn, 1) := by decide +kernel
theorem dX2_join_26 : decode cX2_join 26 = .ok (.aload_n 0, 1) := by decide +kernel
theorem dX2_join_27 : decode cX2_join 27 = .ok (.iload_n 1, 1) := by decide +kernel
theorem dX2_join_28 : decode cX2_join 28 = .ok (.invokevirtual 73, 3) := by decide +kernel
theorem dX2_join_31 : decode cX2_join 31 = .ok (.ifCond .eq 11, 3) := by decide +kernel
theorem dX2_join_34 : decode cX2_join 34 = .ok (.aload_n 0, 1) := by decide +kernel
theorem dX2_join_35 : decode cX2_join 35 = .ok (.iload_n 3, 1) := by decide +kernel
theorem dX2_join_36 : decode cX2_join 36 = .ok (.invokevirtual 73, 3) := by decide +kernel
theorem dX2_join_39 : decode cX2_join 39 = .ok (.ifCond .ne 6, 3) := by decide +kernel
theorem dX2_join_42 : decode cX2_join 42 = .ok (.bipush (-3), 2) := by decide +kernel
theorem dX2_join_44 : decode cX2_join 44 = .ok (.ireturn, 1) := by decide +kernel
theorem dX2_join_45 : decode cX2_join 45 = .ok (.aload_n 0, 1) := by decide +kernel
theorem dX2_join_46 : decode cX2_join 46 = .ok (.getfield 7, 3) := by decide +kernel
theorem dX2_join_49 : decode cX2_join 49 = .ok (.iload_n 1, 1) := by decide +kernel
theorem dX2_join_50 : decode cX2_join 50 = .ok (.iaload, 1) := by decide +kernel
theorem dX2_join_51 : decode cX2_join 51 = .ok (.aload_n 0, 1) := by decide +kernel
theorem dX2_join_52 : decode cX2_join 52 = .ok (.getfield 7, 3) := by decide +kernel
theorem dX2_join_55 : decode cX2_join 55 = .ok (.iload_n 3, 1) := by decide +kernel
theorem dX2_join_56 : decode cX2_join 56 = .ok (.iaload, 1) := by decide +kernel
theorem dX2_join_57 : decode cX2_join 57 = .ok (.iadd, 1) := by decide +kernel
theorem dX2_join_58 : decode cX2_join 58 = .ok (.iconst 2, 1) := by decide +kernel
theorem dX2_join_59 : decode cX2_join 59 = .ok (.isub, 1) := by decide +kernel
theorem dX2_join_60 : decode cX2_join 60 = .ok (.bipush 24, 2) := by decide +kernel
theorem dX2_join_62 : decode cX2_join 62 = .ok (.if_icmp .le 6, 3) := by decide +kernel
theorem dX2_join_65 : decode cX2_join 65 = .ok (.bipush (-4), 2) := by decide +kernel
theorem dX2_join_67 : decode cX2_join 67 = .ok (.ireturn, 1) := by decide +kernel
theorem dX2_join_68 : decode cX2_join 68 = .ok (.aload_n 0, 1) := by decide +kernel
theorem dX2_join_69 : decode cX2_join 69 = .ok (.iload_n 1, 1) := by decide +kernel
theorem dX2_join_70 : decode cX2_join 70 = .ok (.iload_n 2, 1) := by decide +kernel
theorem dX2_join_71 : decode cX2_join 71 = .ok (.invokevirtual 53, 3) := by decide +kernel
theorem dX2_join_74 : decode cX2_join 74 = .ok (.aload_n 0, 1) := by decide +kernel
theorem dX2_join_75 : decode cX2_join 75 = .ok (.iload_n 3, 1) := by decide +kernel
theorem dX2_join_76 : decode cX2_join 76 = .ok (.iload 4, 2) := by decide +kernel
theorem dX2_join_78 : decode cX2_join 78 = .ok (.iconst 1, 1) := by decide +kernel
theorem dX2_join_79 : decode cX2_join 79 = .ok (.iadd, 1) := by decide +kernel
theorem dX2_join_80 : decode cX2_join 80 = .ok (.invokevirtual 53, 3) := by decide +kernel
theorem dX2_join_83 : decode cX2_join 83 = .ok (.if_icmp .ne 61, 3) := by decide +kernel
theorem dX2_join_86 : decode cX2_join 86 = .ok (.aload_n 0, 1) := by decide +kernel
theorem dX2_join_87 : decode cX2_join 87 = .ok (.iload_n 1, 1) := by decide +kernel
theorem dX2_join_88 : decode cX2_join 88 = .ok (.iload_n 2, 1) := by decide +kernel
theorem dX2_join_89 : decode cX2_join 89 = .ok (.invokevirtual 57, 3) := by decide +kernel
theorem dX2_join_92 : decode cX2_join 92 = .ok (.aload_n 0, 1) := by decide +kernel
theorem dX2_join_93 : decode cX2_join 93 = .ok (.iload_n 3, 1) := by decide +kernel
theorem dX2_join_94 : decode cX2_join 94 = .ok (.iload 4, 2) := by decide +kernel
theorem dX2_join_96 : decode cX2_join 96 = .ok (.iconst 1, 1) := by decide +kernel
theorem dX2_join_97 : decode cX2_join 97 = .ok (.iadd, 1) := by decide +kernel
theorem dX2_join_98 : decode cX2_join 98 = .ok (.invokevirtual 57, 3) := by decide +kernel
theorem dX2_join_101 : decode cX2_join 101 = .ok (.if_icmp .ne 43, 3) := by decide +kernel
theorem dX2_join_104 : decode cX2_join 104 = .ok (.aload_n 0, 1) := by decide +kernel
theorem dX2_join_105 : decode cX2_join 105 = .ok (.iload_n 1, 1) := by decide +kernel
theorem dX2_join_106 : decode cX2_join 106 = .ok (.iload_n 2, 1) := by decide +kernel
theorem dX2_join_107 : decode cX2_join 107 = .ok (.iconst 1, 1) := by decide +kernel
theorem dX2_join_108 : decode cX2_join 108 = .ok (.iadd, 1) := by decide +kernel
theorem dX2_join_109 : decode cX2_join 109 = .ok (.invokevirtual 53, 3) := by decide +kernel
theorem dX2_join_112 : decode cX2_join 112 = .ok (.aload_n 0, 1) := by decide +kernel
theorem dX2_join_113 : decode cX2_join 113 = .ok (.iload_n 3, 1) := by decide +kernel
theorem dX2_join_114 : decode cX2_join 114 = .ok (.iload 4, 2) := by decide +kernel
theorem dX2_join_116 : decode cX2_join 116 = .ok (.invokevirtual 53, 3) := by decide +kernel
theorem dX2_join_119 : decode cX2_join 119 = .ok (.if_icmp .ne 25, 3) := by decide +kernel
theorem dX2_join_122 : decode cX2_join 122 = .ok (.aload_n 0, 1) := by decide +kernel
theorem dX2_join_123 : decode cX2_join 123 = .ok (.iload_n 1, 1) := by decide +kernel
theorem dX2_join_124 : decode cX2_join 124 = .ok (.iload_n 2, 1) := by decide +kernel
theorem dX2_join_125 : decode cX2_join 125 = .ok (.iconst 1, 1) := by decide +kernel
theorem dX2_join_126 : decode cX2_join 126 = .ok (.iadd, 1) := by decide +kernel
theorem dX2_join_127 : decode cX2_join 127 = .ok (.invokevirtual 57, 3) := by decide +kernel
theorem dX2_join_130 : decode cX2_join 130 = .ok (.aload_n 0, 1) := by decide +kernel
theorem dX2_join_131 : decode cX2_join 131 = .ok (.iload_n 3, 1) := by decide +kernel
theorem dX2_join_132 : decode cX2_join 132 = .ok (.iload 4, 2) := by decide +kernel
theorem dX2_join_134 : decode cX2_join 134 = .ok (.invokevirtual 57, 3) := by decide +kernel
theorem dX2_join_137 : decode cX2_join 137 = .ok (.if_icmp .ne 7, 3) := by decide +kernel
theorem dX2_join_140 : decode cX2_join 140 = .ok (.iconst 1, 1) := by decide +kernel
theorem dX2_join_141 : decode cX2_join 141 = .ok (.goto 4, 3) := by decide +kernel
theorem dX2_join_144 : decode cX2_join 144 = .ok (.iconst 0, 1) := by decide +kernel
theorem dX2_join_145 : decode cX2_join 145 = .ok (.istore 5, 2) := by decide +kernel
theorem dX2_join_147 : decode cX2_join 147 = .ok (.iload 5, 2) := by decide +kernel
theorem dX2_join_149 : decode cX2_join 149 = .ok (.ifCond .ne 6, 3) := by decide +kernel
theorem dX2_join_152 : decode cX2_join 152 = .ok (.bipush (-5), 2) := by decide +kernel
theorem dX2_join_154 : decode cX2_join 154 = .ok (.ireturn, 1) := by decide +kernel
theorem dX2_join_155 : decode cX2_join 155 = .ok (.aload_n 0, 1) := by decide +kernel
theorem dX2_join_156 : decode cX2_join 156 = .ok (.iconst 0, 1) := by decide +kernel
theorem dX2_join_157 : decode cX2_join 157 = .ok (.putfield 60, 3) := by decide +kernel
theorem dX2_join_160 : decode cX2_join 160 = .ok (.iconst 0, 1) := by decide +kernel
theorem dX2_join_161 : decode cX2_join 161 = .ok (.istore 6, 2) := by decide +kernel
theorem dX2_join_163 : decode cX2_join 163 = .ok (.iload 6, 2) := by decide +kernel
theorem dX2_join_165 : decode cX2_join 165 = .ok (.iload_n 2, 1) := by decide +kernel
theorem dX2_join_166 : decode cX2_join 166 = .ok (.if_icmp .gt 27, 3) := by decide +kernel
theorem dX2_join_169 : decode cX2_join 169 = .ok (.aload_n 0, 1) := by decide +kernel
theorem dX2_join_170 : decode cX2_join 170 = .ok (.aload_n 0, 1) := by decide +kernel
theorem dX2_join_171 : decode cX2_join 171 = .ok (.iload_n 1, 1) := by decide +kernel
theorem dX2_join_172 : decode cX2_join 172 = .ok (.iload 6, 2) := by decide +kernel
theorem dX2_join_174 : decode cX2_join 174 = .ok (.invokevirtual 53, 3) := by decide +kernel
theorem dX2_join_177 : decode cX2_join 177 = .ok (.aload_n 0, 1) := by decide +kernel
theorem dX2_join_178 : decode cX2_join 178 = .ok (.iload_n 1, 1) := by decide +kernel
theorem dX2_join_179 : decode cX2_join 179 = .ok (.iload 6, 2) := by decide +kernel
theorem dX2_join_181 : decode cX2_join 181 = .ok (.invokevirtual 57, 3) := by decide +kernel
theorem dX2_join_184 : decode cX2_join 184 = .ok (.invokevirtual 63, 3) := by decide +kernel
theorem dX2_join_187 : decode cX2_join 187 = .ok (.iinc 6 1, 3) := by decide +kernel
theorem dX2_join_190 : decode cX2_join 190 = .ok (.goto (-27), 3) := by decide +kernel
theorem dX2_join_193 : decode cX2_join 193 = .ok (.iconst 2, 1) := by decide +kernel
theorem dX2_join_194 : decode cX2_join 194 = .ok (.istore 6, 2) := by decide +kernel
theorem dX2_join_196 : decode cX2_join 196 = .ok (.iload 6, 2) := by decide +kernel
theorem dX2_join_198 : decode cX2_join 198 = .ok (.aload_n 0, 1) := by decide +kernel
theorem dX2_join_199 : decode cX2_join 199 = .ok (.getfield 7, 3) := by decide +kernel
theorem dX2_join_202 : decode cX2_join 202 = .ok (.iload_n 3, 1) := by decide +kernel
theorem dX2_join_203 : decode cX2_join 203 = .ok (.iaload, 1) := by decide +kernel
theorem dX2_join_204 : decode cX2_join 204 = .ok (.if_icmp .ge 33, 3) := by decide +kernel
theorem dX2_join_207 : decode cX2_join 207 = .ok (.aload_n 0, 1) := by decide +kernel
theorem dX2_join_208 : decode cX2_join 208 = .ok (.aload_n 0, 1) := by decide +kernel
theorem dX2_join_209 : decode cX2_join 209 = .ok (.iload_n 3, 1) := by decide +kernel
theorem dX2_join_210 : decode cX2_join 210 = .ok (.iload 4, 2) := by decide +kernel
theorem dX2_join_212 : decode cX2_join 212 = .ok (.iload 6, 2) := by decide +kernel
theorem dX2_join_214 : decode cX2_join 214 = .ok (.iadd, 1) := by decide +kernel
theorem dX2_join_215 : decode cX2_join 215 = .ok (.invokevirtual 53, 3) := by decide +kernel
theorem dX2_join_218 : decode cX2_join 218 = .ok (.aload_n 0, 1) := by decide +kernel
theorem dX2_join_219 : decode cX2_join 219 = .ok (.iload_n 3, 1) := by decide +kernel
theorem dX2_join_220 : decode cX2_join 220 = .ok (.iload 4, 2) := by decide +kernel
theorem dX2_join_222 : decode cX2_join 222 = .ok (.iload 6, 2) := by decide +kernel
theorem dX2_join_224 : decode cX2_join 224 = .ok (.iadd, 1) := by decide +kernel
theorem dX2_join_225 : decode cX2_join 225 = .ok (.invokevirtual 57, 3) := by decide +kernel
theorem dX2_join_228 : decode cX2_join 228 = .ok (.invokevirtual 63, 3) := by decide +kernel
theorem dX2_join_231 : decode cX2_join 231 = .ok (.iinc 6 1, 3) := by decide +kernel
theorem dX2_join_234 : decode cX2_join 234 = .ok (.goto (-38), 3) := by decide +kernel
theorem dX2_join_237 : decode cX2_join 237 = .ok (.iload_n 2, 1) := by decide +kernel
theorem dX2_join_238 : decode cX2_join 238 = .ok (.iconst 1, 1) := by decide +kernel
theorem dX2_join_239 : decode cX2_join 239 = .ok (.iadd, 1) := by decide +kernel
theorem dX2_join_240 : decode cX2_join 240 = .ok (.istore 6, 2) := by decide +kernel
theorem dX2_join_242 : decode cX2_join 242 = .ok (.iload 6, 2) := by decide +kernel
theorem dX2_join_244 : decode cX2_join 244 = .ok (.aload_n 0, 1) := by decide +kernel
theorem dX2_join_245 : decode cX2_join 245 = .ok (.getfield 7, 3) := by decide +kernel
theorem dX2_join_248 : decode cX2_join 248 = .ok (.iload_n 1, 1) := by decide +kernel
theorem dX2_join_249 : decode cX2_join 249 = .ok (.iaload, 1) := by decide +kernel
theorem dX2_join_250 : decode cX2_join 250 = .ok (.if_icmp .ge 27, 3) := by decide +kernel
theorem dX2_join_253 : decode cX2_join 253 = .ok (.aload_n 0, 1) := by decide +kernel
theorem dX2_join_254 : decode cX2_join 254 = .ok (.aload_n 0, 1) := by decide +kernel
theorem dX2_join_255 : decode cX2_join 255 = .ok (.iload_n 1, 1) := by decide +kernel
theorem dX2_join_256 : decode cX2_join 256 = .ok (.iload 6, 2) := by decide +kernel
theorem dX2_join_258 : decode cX2_join 258 = .ok (.invokevirtual 53, 3) := by decide +kernel
theorem dX2_join_261 : decode cX2_join 261 = .ok (.aload_n 0, 1) := by decide +kernel
theorem dX2_join_262 : decode cX2_join 262 = .ok (.iload_n 1, 1) := by decide +kernel
theorem dX2_join_263 : decode cX2_join 263 = .ok (.iload 6, 2) := by decide +kernel
theorem dX2_join_265 : decode cX2_join 265 = .ok (.invokevirtual 57, 3) := by decide +kernel
theorem dX2_join_268 : decode cX2_join 268 = .ok (.invokevirtual 63, 3) := by decide +kernel
theorem dX2_join_271 : decode cX2_join 271 = .ok (.iinc 6 1, 3) := by decide +kernel
theorem dX2_join_274 : decode cX2_join 274 = .ok (.goto (-32), 3) := by decide +kernel
theorem dX2_join_277 : decode cX2_join 277 = .ok (.aload_n 0, 1) := by decide +kernel
theorem dX2_join_278 : decode cX2_join 278 = .ok (.iload_n 1, 1) := by decide +kernel
theorem dX2_join_279 : decode cX2_join 279 = .ok (.invokevirtual 67, 3) := by decide +kernel
theorem dX2_join_282 : decode cX2_join 282 = .ok (.ireturn, 1) := by decide +kernel
set_option maxRecDepth 20000 in
theorem ggX2_part_X2_isFigure : GoodIn wsX2_part wsX2_isFigure := goodIn_r _ [6, 7, 8, 5, 9] (by decide +kernel) (by decide +kernel)
set_option maxRecDepth 20000 in
theorem gX2_part_X2_isFigure : GoodIn wsX2_part (va_wsS RX2 42 yX2_isFigure wsX2_isFigure) := goodIn_app (goodIn_of _ (by decide +kernel)) ggX2_part_X2_isFigure
set_option maxRecDepth 20000 in
theorem ggX2_part_X2_isPlace : GoodIn wsX2_part wsX2_isPlace := goodIn_r _ [12, 7, 8, 5, 9] (by decide +kernel) (by decide +kernel)
set_option maxRecDepth 20000 in
theorem gX2_part_X2_isPlace : GoodIn wsX2_part (va_wsS RX2 46 yX2_isPlace wsX2_isPlace) := goodIn_app (goodIn_of _ (by decide +kernel)) ggX2_part_X2_isPlace
set_option maxRecDepth 20000 in
theorem ggX2_part_X2_isClosed : GoodIn wsX2_part wsX2_isClosed := goodIn_r _ [16, 2, 37, 38, 39, 40, 41, 42, 43, 44, 45, 46, 47, 48, 49] (by decide +kernel) (by decide +kernel)
set_option maxRecDepth 20000 in
theorem gX2_part_X2_isClosed : GoodIn wsX2_part (wsV RX2 73 RX2 yX2_isClosed wsX2_isClosed) := goodIn_app (goodIn_of _ (by decide +kernel)) ggX2_part_X2_isClosed
set_option maxRecDepth 20000 in
theorem ggX2_part_X2_y : GoodIn wsX2_part wsX2_y := goodIn_r _ [20, 21, 2, 37, 38, 39, 40, 41, 42, 43, 44, 45, 46, 47, 48, 49] (by decide +kernel) (by decide +kernel)
set_option maxRecDepth 20000 in
theorem gX2_part_X2_y : GoodIn wsX2_part (wsV RX2 57 RX2 yX2_y wsX2_y) := goodIn_app (goodIn_of _ (by decide +kernel)) ggX2_part_X2_y
set_option maxRecDepth 20000 in
theorem ggX2_part_X2_x : GoodIn wsX2_part wsX2_x := goodIn_r _ [25, 26, 2, 37, 38, 39, 40, 41, 42, 43, 44, 45, 46, 47, 48, 49] (by decide +kernel) (by decide +kernel)
set_option maxRecDepth 20000 in
theorem gX2_part_X2_x : GoodIn wsX2_part (wsV RX2 53 RX2 yX2_x wsX2_x) := goodIn_app (goodIn_of _ (by decide +kernel)) ggX2_part_X2_x
set_option maxRecDepth 20000 in
theorem ggX2_part_X2_lay : GoodIn wsX2_part wsX2_lay := goodIn_r _ [30, 31, 1, 32, 37, 38, 39, 40, 41, 42, 43, 44, 45, 46, 47, 48, 49] (by decide +kernel) (by decide +kernel)
set_option maxRecDepth 20000 in
theorem gX2_part_X2_lay : GoodIn wsX2_part (wsV RX2 63 RX2 yX2_lay wsX2_lay) := goodIn_app (goodIn_of _ (by decide +kernel)) ggX2_part_X2_lay
set_option maxRecDepth 20000 in
theorem ggX2_part_X2_take : GoodIn wsX2_part wsX2_take := goodIn_r _ [36, 2, 1, 26, 31, 21, 32, 37, 38, 39, 40, 41, 42, 43, 44, 45, 46, 47, 48, 49] (by decide +kernel) (by decide +kernel)
set_option maxRecDepth 20000 in
theorem gX2_part_X2_take : GoodIn wsX2_part (wsV RX2 67 RX2 yX2_take wsX2_take) := goodIn_app (goodIn_of _ (by decide +kernel)) ggX2_part_X2_take
theorem dX2_part_0 : decode cX2_part 0 = .ok (.iload_n 1, 1) := by decide +kernel
theorem dX2_part_1 : decode cX2_part 1 = .ok (.invokestatic 42, 3) := by decide +kernel
theorem dX2_part_4 : decode cX2_part 4 = .ok (.ifCond .eq 15, 3) := by decide +kernel
theorem dX2_part_7 : decode cX2_part 7 = .ok (.iload_n 2, 1) := by decide +kernel
theorem dX2_part_8 : decode cX2_part 8 = .ok (.invokestatic 42, 3) := by decide +kernel
theorem dX2_part_11 : decode cX2_part 11 = .ok (.ifCond .eq 8, 3) := by decide +kernel
theorem dX2_part_14 : decode cX2_part 14 = .ok (.iload_n 1, 1) := by decide +kernel
theorem dX2_part_15 : decode cX2_part 15 = .ok (.iload_n 2, 1) := by decide +kernel
theorem dX2_part_16 : decode cX2_part 16 = .ok (.if_icmp .ne 5, 3) := by decide +kernel
theorem dX2_part_19 : decode cX2_part 19 = .ok (.iconst (-1), 1) := by decide +kernel
theorem dX2_part_20 : decode cX2_part 20 = .ok (.ireturn, 1) := by decide +kernel
theorem dX2_part_21 : decode cX2_part 21 = .ok (.iload_n 3, 1) := by decide +kernel
theorem dX2_part_22 : decode cX2_part 22 = .ok (.invokestatic 46, 3) := by decide +kernel
theorem dX2_part_25 : decode cX2_part 25 = .ok (.ifCond .ne 6, 3) := by decide +kernel
theorem dX2_part_28 : decode cX2_part 28 = .ok (.bipush (-2), 2) := by decide +kernel
theorem dX2_part_30 : decode cX2_part 30 = .ok (.ireturn, 1) := by decide +kernel
theorem dX2_part_31 : decode cX2_part 31 = .ok (.aload_n 0, 1) := by decide +kernel
theorem dX2_part_32 : decode cX2_part 32 = .ok (.iload_n 1, 1) := by decide +kernel
theorem dX2_part_33 : decode cX2_part 33 = .ok (.invokevirtual 73, 3) := by decide +kernel
theorem dX2_part_36 : decode cX2_part 36 = .ok (.ifCond .ne 6, 3) := by decide +kernel
theorem dX2_part_39 : decode cX2_part 39 = .ok (.bipush (-3), 2) := by decide +kernel
theorem dX2_part_41 : decode cX2_part 41 = .ok (.ireturn, 1) := by decide +kernel
theorem dX2_part_42 : decode cX2_part 42 = .ok (.aload_n 0, 1) := by decide +kernel
theorem dX2_part_43 : decode cX2_part 43 = .ok (.iconst 0, 1) := by decide +kernel
theorem dX2_part_44 : decode cX2_part 44 = .ok (.putfield 60, 3) := by decide +kernel
theorem dX2_part_47 : decode cX2_part 47 = .ok (.iconst 1, 1) := by decide +kernel
theorem dX2_part_48 : decode cX2_part 48 = .ok (.istore 4, 2) := by decide +kernel
theorem dX2_part_50 : decode cX2_part 50 = .ok (.iconst 0, 1) := by decide +kernel
theorem dX2_part_51 : decode cX2_part 51 = .ok (.istore 5, 2) := by decide +kernel
theorem dX2_part_53 : decode cX2_part 53 = .ok (.iload 5, 2) := by decide +kernel
theorem dX2_part_55 : decode cX2_part 55 = .ok (.aload_n 0, 1) := by decide +kernel
theorem dX2_part_56 : decode cX2_part 56 = .ok (.getfield 7, 3) := by decide +kernel
theorem dX2_part_59 : decode cX2_part 59 = .ok (.iload_n 1, 1) := by decide +kernel
theorem dX2_part_60 : decode cX2_part 60 = .ok (.iaload, 1) := by decide +kernel
theorem dX2_part_61 : decode cX2_part 61 = .ok (.if_icmp .ge 172, 3) := by decide +kernel
theorem dX2_part_64 : decode cX2_part 64 = .ok (.aload_n 0, 1) := by decide +kernel
theorem dX2_part_65 : decode cX2_part 65 = .ok (.iload_n 1, 1) := by decide +kernel
theorem dX2_part_66 : decode cX2_part 66 = .ok (.iload 5, 2) := by decide +kernel
theorem dX2_part_68 : decode cX2_part 68 = .ok (.iconst 1, 1) := by decide +kernel
theorem dX2_part_69 : decode cX2_part 69 = .ok (.iadd, 1) := by decide +kernel
theorem dX2_part_70 : decode cX2_part 70 = .ok (.invokevirtual 57, 3) := by decide +kernel
theorem dX2_part_73 : decode cX2_part 73 = .ok (.aload_n 0, 1) := by decide +kernel
theorem dX2_part_74 : decode cX2_part 74 = .ok (.iload_n 1, 1) := by decide +kernel
theorem dX2_part_75 : decode cX2_part 75 = .ok (.iload 5, 2) := by decide +kernel
theorem dX2_part_77 : decode cX2_part 77 = .ok (.invokevirtual 57, 3) := by decide +kernel
theorem dX2_part_80 : decode cX2_part 80 = .ok (.isub, 1) := by decide +kernel
theorem dX2_part_81 : decode cX2_part 81 = .ok (.istore 6, 2) := by decide +kernel
theorem dX2_part_83 : decode cX2_part 83 = .ok (.aload_n 0, 1) := by decide +kernel
theorem dX2_part_84 : decode cX2_part 84 = .ok (.iload_n 1, 1) := by decide +kernel
theorem dX2_part_85 : decode cX2_part 85 = .ok (.iload 5, 2) := by decide +kernel
theorem dX2_part_87 : decode cX2_part 87 = .ok (.invokevirtual 57, 3) := by decide +kernel
theorem dX2_part_90 : decode cX2_part 90 = .ok (.iload_n 3, 1) := by decide +kernel
theorem dX2_part_91 : decode cX2_part 91 = .ok (.if_icmp .lt 21, 3) := by decide +kernel
theorem dX2_part_94 : decode cX2_part 94 = .ok (.aload_n 0, 1) := by decide +kernel
theorem dX2_part_95 : decode cX2_part 95 = .ok (.aload_n 0, 1) := by decide +kernel
theorem dX2_part_96 : decode cX2_part 96 = .ok (.iload_n 1, 1) := by decide +kernel
theorem dX2_part_97 : decode cX2_part 97 = .ok (.iload 5, 2) := by decide +kernel
theorem dX2_part_99 : decode cX2_part 99 = .ok (.invokevirtual 53, 3) := by decide +kernel
theorem dX2_part_102 : decode cX2_part 102 = .ok (.aload_n 0, 1) := by decide +kernel
theorem dX2_part_103 : decode cX2_part 103 = .ok (.iload_n 1, 1) := by decide +kernel
theorem dX2_part_104 : decode cX2_part 104 = .ok (.iload 5, 2) := by decide +kernel
theorem dX2_part_106 : decode cX2_part 106 = .ok (.invokevirtual 57, 3) := by decide +kernel
theorem dX2_part_109 : decode cX2_part 109 = .ok (.invokevirtual 63, 3) := by decide +kernel
theorem dX2_part_112 : decode cX2_part 112 = .ok (.aload_n 0, 1) := by decide +kernel
theorem dX2_part_113 : decode cX2_part 113 = .ok (.iload_n 1, 1) := by decide +kernel
theorem dX2_part_114 : decode cX2_part 114 = .ok (.iload 5, 2) := by decide +kernel
theorem dX2_part_116 : decode cX2_part 116 = .ok (.invokevirtual 57, 3) := by decide +kernel
theorem dX2_part_119 : decode cX2_part 119 = .ok (.iload_n 3, 1) := by decide +kernel
theorem dX2_part_120 : decode cX2_part 120 = .ok (.if_icmp .ge 16, 3) := by decide +kernel
theorem dX2_part_123 : decode cX2_part 123 = .ok (.aload_n 0, 1) := by decide +kernel
theorem dX2_part_124 : decode cX2_part 124 = .ok (.iload_n 1, 1) := by decide +kernel
theorem dX2_part_125 : decode cX2_part 125 = .ok (.iload 5, 2) := by decide +kernel
theorem dX2_part_127 : decode cX2_part 127 = .ok (.iconst 1, 1) := by decide +kernel
theorem dX2_part_128 : decode cX2_part 128 = .ok (.iadd, 1) := by decide +kernel
theorem dX2_part_129 : decode cX2_part 129 = .ok (.invokevirtual 57, 3) := by decide +kernel
theorem dX2_part_132 : decode cX2_part 132 = .ok (.iload_n 3, 1) := by decide +kernel
theorem dX2_part_133 : decode cX2_part 133 = .ok (.if_icmp .gt 27, 3) := by decide +kernel
theorem dX2_part_136 : decode cX2_part 136 = .ok (.aload_n 0, 1) := by decide +kernel
theorem dX2_part_137 : decode cX2_part 137 = .ok (.iload_n 1, 1) := by decide +kernel
theorem dX2_part_138 : decode cX2_part 138 = .ok (.iload 5, 2) := by decide +kernel
theorem dX2_part_140 : decode cX2_part 140 = .ok (.invokevirtual 57, 3) := by decide +kernel
theorem dX2_part_143 : decode cX2_part 143 = .ok (.iload_n 3, 1) := by decide +kernel
theorem dX2_part_144 : decode cX2_part 144 = .ok (.if_icmp .le 83, 3) := by decide +kernel
theorem dX2_part_147 : decode cX2_part 147 = .ok (.aload_n 0, 1) := by decide +kernel
theorem dX2_part_148 : decode cX2_part 148 = .ok (.iload_n 1, 1) := by decide +kernel
theorem dX2_part_149 : decode cX2_part 149 = .ok (.iload 5, 2) := by decide +kernel
theorem dX2_part_151 : decode cX2_part 151 = .ok (.iconst 1, 1) := by decide +kernel
theorem dX2_part_152 : decode cX2_part 152 = .ok (.iadd, 1) := by decide +kernel
theorem dX2_part_153 : decode cX2_part 153 = .ok (.invokevirtual 57, 3) := by decide +kernel
theorem dX2_part_156 : decode cX2_part 156 = .ok (.iload_n 3, 1) := by decide +kernel
theorem dX2_part_157 : decode cX2_part 157 = .ok (.if_icmp .ge 70, 3) := by decide +kernel
theorem dX2_part_160 : decode cX2_part 160 = .ok (.aload_n 0, 1) := by decide +kernel
theorem dX2_part_161 : decode cX2_part 161 = .ok (.iload_n 1, 1) := by decide +kernel
theorem dX2_part_162 : decode cX2_part 162 = .ok (.iload 5, 2) := by decide +kernel
theorem dX2_part_164 : decode cX2_part 164 = .ok (.iconst 1, 1) := by decide +kernel
theorem dX2_part_165 : decode cX2_part 165 = .ok (.iadd, 1) := by decide +kernel
theorem dX2_part_166 : decode cX2_part 166 = .ok (.invokevirtual 53, 3) := by decide +kernel
theorem dX2_part_169 : decode cX2_part 169 = .ok (.aload_n 0, 1) := by decide +kernel
theorem dX2_part_170 : decode cX2_part 170 = .ok (.iload_n 1, 1) := by decide +kernel
theorem dX2_part_171 : decode cX2_part 171 = .ok (.iload 5, 2) := by decide +kernel
theorem dX2_part_173 : decode cX2_part 173 = .ok (.invokevirtual 53, 3) := by decide +kernel
theorem dX2_part_176 : decode cX2_part 176 = .ok (.isub, 1) := by decide +kernel
theorem dX2_part_177 : decode cX2_part 177 = .ok (.iload_n 3, 1) := by decide +kernel
theorem dX2_part_178 : decode cX2_part 178 = .ok (.aload_n 0, 1) := by decide +kernel
theorem dX2_part_179 : decode cX2_part 179 = .ok (.iload_n 1, 1) := by decide +kernel
theorem dX2_part_180 : decode cX2_part 180 = .ok (.iload 5, 2) := by decide +kernel
theorem dX2_part_182 : decode cX2_part 182 = .ok (.invokevirtual 57, 3) := by decide +kernel
theorem dX2_part_185 : decode cX2_part 185 = .ok (.isub, 1) := by decide +kernel
theorem dX2_part_186 : decode cX2_part 186 = .ok (.imul, 1) := by decide +kernel
theorem dX2_part_187 : decode cX2_part 187 = .ok (.istore 7, 2) := by decide +kernel
theorem dX2_part_189 : decode cX2_part 189 = .ok (.iload 4, 2) := by decide +kernel
theorem dX2_part_191 : decode cX2_part 191 = .ok (.ifCond .eq 15, 3) := by decide +kernel
theorem dX2_part_194 : decode cX2_part 194 = .ok (.iload 7, 2) := by decide +kernel
theorem dX2_part_196 : decode cX2_part 196 = .ok (.iload 6, 2) := by decide +kernel
theorem dX2_part_198 : decode cX2_part 198 = .ok (.irem, 1) := by decide +kernel
theorem dX2_part_199 : decode cX2_part 199 = .ok (.ifCond .ne 7, 3) := by decide +kernel
theorem dX2_part_202 : decode cX2_part 202 = .ok (.iconst 1, 1) := by decide +kernel
theorem dX2_part_203 : decode cX2_part 203 = .ok (.goto 4, 3) := by decide +kernel
theorem dX2_part_206 : decode cX2_part 206 = .ok (.iconst 0, 1) := by decide +kernel
theorem dX2_part_207 : decode cX2_part 207 = .ok (.istore 4, 2) := by decide +kernel
theorem dX2_part_209 : decode cX2_part 209 = .ok (.aload_n 0, 1) := by decide +kernel
theorem dX2_part_210 : decode cX2_part 210 = .ok (.aload_n 0, 1) := by decide +kernel
theorem dX2_part_211 : decode cX2_part 211 = .ok (.iload_n 1, 1) := by decide +kernel
theorem dX2_part_212 : decode cX2_part 212 = .ok (.iload 5, 2) := by decide +kernel
theorem dX2_part_214 : decode cX2_part 214 = .ok (.invokevirtual 53, 3) := by decide +kernel
theorem dX2_part_217 : decode cX2_part 217 = .ok (.iload 7, 2) := by decide +kernel
theorem dX2_part_219 : decode cX2_part 219 = .ok (.iload 6, 2) := by decide +kernel
theorem dX2_part_221 : decode cX2_part 221 = .ok (.idiv, 1) := by decide +kernel
theorem dX2_part_222 : decode cX2_part 222 = .ok (.iadd, 1) := by decide +kernel
theorem dX2_part_223 : decode cX2_part 223 = .ok (.iload_n 3, 1) := by decide +kernel
theorem dX2_part_224 : decode cX2_part 224 = .ok (.invokevirtual 63, 3) := by decide +kernel
theorem dX2_part_227 : decode cX2_part 227 = .ok (.iinc 5 1, 3) := by decide +kernel
theorem dX2_part_230 : decode cX2_part 230 = .ok (.goto (-177), 3) := by decide +kernel
theorem dX2_part_233 : decode cX2_part 233 = .ok (.aload_n 0, 1) := by decide +kernel
theorem dX2_part_234 : decode cX2_part 234 = .ok (.getfield 60, 3) := by decide +kernel
theorem dX2_part_237 : decode cX2_part 237 = .ok (.bipush 24, 2) := by decide +kernel
theorem dX2_part_239 : decode cX2_part 239 = .ok (.if_icmp .le 8, 3) := by decide +kernel
theorem dX2_part_242 : decode cX2_part 242 = .ok (.bipush (-4), 2) := by decide +kernel
theorem dX2_part_244 : decode cX2_part 244 = .ok (.goto 18, 3) := by decide +kernel
theorem dX2_part_247 : decode cX2_part 247 = .ok (.iload 4, 2) := by decide +kernel
theorem dX2_part_249 : decode cX2_part 249 = .ok (.ifCond .eq 11, 3) := by decide +kernel
theorem dX2_part_252 : decode cX2_part 252 = .ok (.aload_n 0, 1) := by decide +kernel
theorem dX2_part_253 : decode cX2_part 253 = .ok (.iload_n 2, 1) := by decide +kernel
theorem dX2_part_254 : decode cX2_part 254 = .ok (.invokevirtual 67, 3) := by decide +kernel
theorem dX2_part_257 : decode cX2_part 257 = .ok (.goto 5, 3) := by decide +kernel
theorem dX2_part_260 : decode cX2_part 260 = .ok (.bipush (-5), 2) := by decide +kernel
theorem dX2_part_262 : decode cX2_part 262 = .ok (.ireturn, 1) := by decide +kernel
theorem dJ13_compare_74951_0 : decode cJ13_compare_74951 0 = .ok (.lload_n 0, 1) := by decide +kernel
theorem dJ13_compare_74951_1 : decode cJ13_compare_74951 1 = .ok (.lload_n 2, 1) := by decide +kernel
theorem dJ13_compare_74951_2 : decode cJ13_compare_74951 2 = .ok (.lcmp, 1) := by decide +kernel
theorem dJ13_compare_74951_3 : decode cJ13_compare_74951 3 = .ok (.ifCond .ge 7, 3) := by decide +kernel
theorem dJ13_compare_74951_6 : decode cJ13_compare_74951 6 = .ok (.iconst (-1), 1) := by decide +kernel
theorem dJ13_compare_74951_7 : decode cJ13_compare_74951 7 = .ok (.goto 14, 3) := by decide +kernel
theorem dJ13_compare_74951_10 : decode cJ13_compare_74951 10 = .ok (.lload_n 0, 1) := by decide +kernel
theorem dJ13_compare_74951_11 : decode cJ13_compare_74951 11 = .ok (.lload_n 2, 1) := by decide +kernel
theorem dJ13_compare_74951_12 : decode cJ13_compare_74951 12 = .ok (.lcmp, 1) := by decide +kernel
theorem dJ13_compare_74951_13 : decode cJ13_compare_74951 13 = .ok (.ifCond .ne 7, 3) := by decide +kernel
theorem dJ13_compare_74951_16 : decode cJ13_compare_74951 16 = .ok (.iconst 0, 1) := by decide +kernel
theorem dJ13_compare_74951_17 : decode cJ13_compare_74951 17 = .ok (.goto 4, 3) := by decide +kernel
theorem dJ13_compare_74951_20 : decode cJ13_compare_74951 20 = .ok (.iconst 1, 1) := by decide +kernel
theorem dJ13_compare_74951_21 : decode cJ13_compare_74951 21 = .ok (.ireturn, 1) := by decide +kernel
theorem dJ9_abs_0f7a4_0 : decode cJ9_abs_0f7a4 0 = .ok (.iload_n 0, 1) := by decide +kernel
theorem dJ9_abs_0f7a4_1 : decode cJ9_abs_0f7a4 1 = .ok (.ifCond .ge 8, 3) := by decide +kernel
theorem dJ9_abs_0f7a4_4 : decode cJ9_abs_0f7a4 4 = .ok (.iload_n 0, 1) := by decide +kernel
theorem dJ9_abs_0f7a4_5 : decode cJ9_abs_0f7a4 5 = .ok (.ineg, 1) := by decide +kernel
theorem dJ9_abs_0f7a4_6 : decode cJ9_abs_0f7a4 6 = .ok (.goto 4, 3) := by decide +kernel
theorem dJ9_abs_0f7a4_9 : decode cJ9_abs_0f7a4 9 = .ok (.iload_n 0, 1) := by decide +kernel
theorem dJ9_abs_0f7a4_10 : decode cJ9_abs_0f7a4 10 = .ok (.ireturn, 1) := by decide +kernel
theorem dJ9_abs_067f4_0 : decode cJ9_abs_067f4 0 = .ok (.lload_n 0, 1) := by decide +kernel
theorem dJ9_abs_067f4_1 : decode cJ9_abs_067f4 1 = .ok (.lconst 0, 1) := by decide +kernel
theorem dJ9_abs_067f4_2 : decode cJ9_abs_067f4 2 = .ok (.lcmp, 1) := by decide +kernel
theorem dJ9_abs_067f4_3 : decode cJ9_abs_067f4 3 = .ok (.ifCond .ge 8, 3) := by decide +kernel
theorem dJ9_abs_067f4_6 : decode cJ9_abs_067f4 6 = .ok (.lload_n 0, 1) := by decide +kernel
theorem dJ9_abs_067f4_7 : decode cJ9_abs_067f4 7 = .ok (.lneg, 1) := by decide +kernel
theorem dJ9_abs_067f4_8 : decode cJ9_abs_067f4 8 = .ok (.goto 4, 3) := by decide +kernel
theorem dJ9_abs_067f4_11 : decode cJ9_abs_067f4 11 = .ok (.lload_n 0, 1) := by decide +kernel
theorem dJ9_abs_067f4_12 : decode cJ9_abs_067f4 12 = .ok (.lreturn, 1) := by decide +kernel
theorem dJ9_max_7cf53_0 : decode cJ9_max_7cf53 0 = .ok (.iload_n 0, 1) := by decide +kernel
theorem dJ9_max_7cf53_1 : decode cJ9_max_7cf53 1 = .ok (.iload_n 1, 1) := by decide +kernel
theorem dJ9_max_7cf53_2 : decode cJ9_max_7cf53 2 = .ok (.if_icmp .lt 7, 3) := by decide +kernel
theorem dJ9_max_7cf53_5 : decode cJ9_max_7cf53 5 = .ok (.iload_n 0, 1) := by decide +kernel
theorem dJ9_max_7cf53_6 : decode cJ9_max_7cf53 6 = .ok (.goto 4, 3) := by decide +kernel
theorem dJ9_max_7cf53_9 : decode cJ9_max_7cf53 9 = .ok (.iload_n 1, 1) := by decide +kernel
theorem dJ9_max_7cf53_10 : decode cJ9_max_7cf53 10 = .ok (.ireturn, 1) := by decide +kernel
theorem dJ9_min_7cf53_0 : decode cJ9_min_7cf53 0 = .ok (.iload_n 0, 1) := by decide +kernel
theorem dJ9_min_7cf53_1 : decode cJ9_min_7cf53 1 = .ok (.iload_n 1, 1) := by decide +kernel
theorem dJ9_min_7cf53_2 : decode cJ9_min_7cf53 2 = .ok (.if_icmp .gt 7, 3) := by decide +kernel
theorem dJ9_min_7cf53_5 : decode cJ9_min_7cf53 5 = .ok (.iload_n 0, 1) := by decide +kernel
theorem dJ9_min_7cf53_6 : decode cJ9_min_7cf53 6 = .ok (.goto 4, 3) := by decide +kernel
theorem dJ9_min_7cf53_9 : decode cJ9_min_7cf53 9 = .ok (.iload_n 1, 1) := by decide +kernel
theorem dJ9_min_7cf53_10 : decode cJ9_min_7cf53 10 = .ok (.ireturn, 1) := by decide +kernel
set_option maxRecDepth 20000 in
theorem ggL_law_X1_init : GoodIn wsL_law wsX1_init := goodIn_r _ [8, 9, 10, 11, 12, 13, 14, 15, 16, 17, 18, 19, 20, 21, 22, 23, 24, 25, 26, 27, 28, 29, 30, 592, 593, 594, 595, 596, 597, 598, 599, 613, 614, 615] (by decide +kernel) (by decide +kernel)
set_option maxRecDepth 20000 in
theorem gL_law_X1_init : GoodIn wsL_law (wsX1_init) := ggL_law_X1_init
set_option maxRecDepth 20000 in
theorem ggL_law_X2_init : GoodIn wsL_law wsX2_init := goodIn_r _ [33, 34, 10, 11, 27, 35, 36, 37, 38, 39, 40, 41, 42, 43, 600, 601, 602, 603, 604, 605, 606, 607, 608, 609, 610, 611, 612] (by decide +kernel) (by decide +kernel)
set_option maxRecDepth 20000 in
theorem gL_law_X2_init : GoodIn wsL_law (wsX2_init) := ggL_law_X2_init
set_option maxRecDepth 20000 in
theorem ggL_law_X1_point : GoodIn wsL_law wsX1_point := goodIn_r _ [47, 48, 49, 50, 2, 51, 13, 52, 53, 54, 55, 56, 57, 15, 58, 30, 59, 60, 61, 62, 28, 29, 613, 614, 615, 592, 593, 594, 595, 596, 597, 598, 599] (by decide +kernel) (by decide +kernel)
set_option maxRecDepth 20000 in
theorem gL_law_X1_point : GoodIn wsL_law (wsV RL 13 RX1 yX1_point wsX1_point) := goodIn_app (goodIn_of _ (by decide +kernel)) ggL_law_X1_point
set_option maxRecDepth 20000 in
theorem ggL_law_X2_point : GoodIn wsL_law wsX2_point := goodIn_r _ [66, 35, 36, 37, 67, 68, 5, 69, 70, 71, 72, 73, 74, 75, 600, 601, 602, 603, 604, 605, 606, 607, 608, 609, 610, 611, 612] (by decide +kernel) (by decide +kernel)
set_option maxRecDepth 20000 in
theorem gL_law_X2_point : GoodIn wsL_law (wsV RL 17 RX2 yX2_point wsX2_point) := goodIn_app (goodIn_of _ (by decide +kernel)) ggL_law_X2_point
set_option maxRecDepth 20000 in
theorem ggL_law_X1_move : GoodIn wsL_law wsX1_move := goodIn_r _ [79, 48, 49, 50, 2, 51, 13, 80, 81, 82, 15, 83, 30, 52, 53, 54, 84, 60, 61, 62, 28, 29, 592, 593, 594, 595, 596, 597, 598, 599, 613, 614, 615] (by decide +kernel) (by decide +kernel)
set_option maxRecDepth 20000 in
theorem gL_law_X1_move : GoodIn wsL_law (wsV RL 18 RX1 yX1_move wsX1_move) := goodIn_app (goodIn_of _ (by decide +kernel)) ggL_law_X1_move
set_option maxRecDepth 20000 in
theorem ggL_law_X2_move : GoodIn wsL_law wsX2_move := goodIn_r _ [88, 36, 37, 89, 90, 91, 5, 92, 35, 67, 68, 69, 70, 71, 72, 73, 74, 75, 600, 601, 602, 603, 604, 605, 606, 607, 608, 609, 610, 611, 612] (by decide +kernel) (by decide +kernel)
set_option maxRecDepth 20000 in
theorem gL_law_X2_move : GoodIn wsL_law (wsV RL 22 RX2 yX2_move wsX2_move) := goodIn_app (goodIn_of _ (by decide +kernel)) ggL_law_X2_move
set_option maxRecDepth 20000 in
theorem ggL_law_X1_clear : GoodIn wsL_law wsX1_clear := goodIn_r _ [96, 48, 49, 50, 2, 51, 13, 613, 614, 615, 592, 593, 594, 595, 596, 597, 598, 599] (by decide +kernel) (by decide +kernel)
set_option maxRecDepth 20000 in
theorem gL_law_X1_clear : GoodIn wsL_law (wsV RL 23 RX1 yX1_clear wsX1_clear) := goodIn_app (goodIn_of _ (by decide +kernel)) ggL_law_X1_clear
set_option maxRecDepth 20000 in
theorem ggL_law_X2_clear : GoodIn wsL_law wsX2_clear := goodIn_r _ [100, 35, 67, 68, 5, 69, 70, 71, 72, 600, 601, 602, 603, 604, 605, 606, 607, 608, 609, 610, 611, 612] (by decide +kernel) (by decide +kernel)
set_option maxRecDepth 20000 in
theorem gL_law_X2_clear : GoodIn wsL_law (wsV RL 27 RX2 yX2_clear wsX2_clear) := goodIn_app (goodIn_of _ (by decide +kernel)) ggL_law_X2_clear
set_option maxRecDepth 20000 in
theorem ggL_law_X1_at : GoodIn wsL_law wsX1_at := goodIn_r _ [104, 48, 49, 50, 2, 51, 13, 80, 81, 82, 15, 83, 30, 105, 106, 107, 108, 109, 110, 111, 28, 112, 113, 114, 115, 29, 613, 614, 615, 592, 593, 594, 595, 596, 597, 598, 599] (by decide +kernel) (by decide +kernel)
set_option maxRecDepth 20000 in
theorem gL_law_X1_at : GoodIn wsL_law (wsV RL 28 RX1 yX1_at wsX1_at) := goodIn_app (goodIn_of _ (by decide +kernel)) ggL_law_X1_at
set_option maxRecDepth 20000 in
theorem ggL_law_X2_at : GoodIn wsL_law wsX2_at := goodIn_r _ [119, 35, 67, 68, 5, 69, 70, 71, 72, 89, 90, 91, 92, 120, 121, 122, 123, 36, 124, 125, 126, 127, 37, 600, 601, 602, 603, 604, 605, 606, 607, 608, 609, 610, 611, 612] (by decide +kernel) (by decide +kernel)
set_option maxRecDepth 20000 in
theorem gL_law_X2_at : GoodIn wsL_law (wsV RL 31 RX2 yX2_at wsX2_at) := goodIn_app (goodIn_of _ (by decide +kernel)) ggL_law_X2_at
set_option maxRecDepth 20000 in
theorem ggL_law_X1_copy : GoodIn wsL_law wsX1_copy := goodIn_r _ [131, 48, 49, 50, 2, 51, 13, 132, 133, 134, 15, 135, 30, 136, 109, 110, 111, 28, 137, 113, 114, 115, 29, 138, 56, 57, 58, 59, 60, 61, 62, 139, 140, 141, 142, 613, 614, 615, 592, 593, 594, 595, 596, 597, 598, 599] (by decide +kernel) (by decide +kernel)
set_option maxRecDepth 20000 in
theorem gL_law_X1_copy : GoodIn wsL_law (wsV RL 32 RX1 yX1_copy wsX1_copy) := goodIn_app (goodIn_of _ (by decide +kernel)) ggL_law_X1_copy
set_option maxRecDepth 20000 in
theorem ggL_law_X2_copy : GoodIn wsL_law wsX2_copy := goodIn_r _ [146, 147, 35, 67, 68, 5, 69, 70, 71, 72, 120, 121, 122, 123, 36, 124, 125, 126, 127, 37, 148, 149, 150, 151, 42, 43, 152, 153, 154, 155, 600, 601, 602, 603, 604, 605, 606, 607, 608, 609, 610, 611, 612] (by decide +kernel) (by decide +kernel)
set_option maxRecDepth 20000 in
theorem gL_law_X2_copy : GoodIn wsL_law (wsV RL 36 RX2 yX2_copy wsX2_copy) := goodIn_app (goodIn_of _ (by decide +kernel)) ggL_law_X2_copy
set_option maxRecDepth 20000 in
theorem ggL_law_X1_twice : GoodIn wsL_law wsX1_twice := goodIn_r _ [159, 160, 161, 48, 49, 50, 2, 51, 13, 162, 163, 164, 15, 165, 30, 166, 167, 168, 169, 170, 171, 172, 173, 136, 109, 110, 111, 28, 137, 113, 114, 115, 29, 592, 593, 594, 595, 596, 597, 598, 599, 613, 614, 615] (by decide +kernel) (by decide +kernel)
set_option maxRecDepth 20000 in
theorem gL_law_X1_twice : GoodIn wsL_law (wsV RL 37 RX1 yX1_twice wsX1_twice) := goodIn_app (goodIn_of _ (by decide +kernel)) ggL_law_X1_twice
set_option maxRecDepth 20000 in
theorem ggL_law_X2_twice : GoodIn wsL_law wsX2_twice := goodIn_r _ [177, 178, 179, 67, 68, 5, 69, 70, 71, 72, 180, 181, 182, 183, 35, 184, 185, 186, 187, 120, 121, 122, 123, 36, 124, 125, 126, 127, 37, 600, 601, 602, 603, 604, 605, 606, 607, 608, 609, 610, 611, 612] (by decide +kernel) (by decide +kernel)
set_option maxRecDepth 20000 in
theorem gL_law_X2_twice : GoodIn wsL_law (wsV RL 41 RX2 yX2_twice wsX2_twice) := goodIn_app (goodIn_of _ (by decide +kernel)) ggL_law_X2_twice
set_option maxRecDepth 20000 in
theorem ggL_law_X1_simple : GoodIn wsL_law wsX1_simple := goodIn_r _ [191, 48, 49, 50, 2, 51, 13, 162, 163, 164, 15, 165, 30, 192, 193, 194, 195, 170, 171, 172, 173, 196, 197, 198, 199, 136, 109, 110, 111, 28, 137, 113, 114, 115, 29, 200, 201, 202, 203, 204, 205, 206, 207, 208, 209, 210, 211, 212, 213, 214, 215, 216, 217, 218, 219, 220, 221, 222, 223, 224, 225, 226, 227, 228, 229, 230, 231, 232, 592, 593, 594, 595, 596, 597, 598, 599, 613, 614, 615] (by decide +kernel) (by decide +kernel)
set_option maxRecDepth 20000 in
theorem gL_law_X1_simple : GoodIn wsL_law (wsV RL 42 RX1 yX1_simple wsX1_simple) := goodIn_app (goodIn_of _ (by decide +kernel)) ggL_law_X1_simple
set_option maxRecDepth 20000 in
theorem ggL_law_X2_simple : GoodIn wsL_law wsX2_simple := goodIn_r _ [236, 35, 67, 68, 5, 69, 70, 71, 72, 180, 181, 182, 183, 120, 121, 122, 123, 36, 124, 125, 126, 127, 37, 237, 238, 239, 240, 241, 242, 243, 244, 245, 246, 247, 248, 249, 250, 251, 252, 253, 254, 600, 601, 602, 603, 604, 605, 606, 607, 608, 609, 610, 611, 612] (by decide +kernel) (by decide +kernel)
set_option maxRecDepth 20000 in
theorem gL_law_X2_simple : GoodIn wsL_law (wsV RL 45 RX2 yX2_simple wsX2_simple) := goodIn_app (goodIn_of _ (by decide +kernel)) ggL_law_X2_simple
set_option maxRecDepth 20000 in
theorem ggL_law_X1_winds : GoodIn wsL_law wsX1_winds := goodIn_r _ [258, 48, 49, 50, 2, 51, 13, 52, 53, 54, 162, 163, 164, 15, 165, 30, 259, 260, 261, 262, 212, 213, 214, 215, 170, 171, 172, 173, 204, 205, 206, 207, 136, 109, 110, 111, 28, 137, 113, 114, 115, 29, 216, 217, 218, 219, 220, 221, 222, 223, 224, 225, 263, 264, 265, 266, 592, 593, 594, 595, 596, 597, 598, 599, 613, 614, 615] (by decide +kernel) (by decide +kernel)
set_option maxRecDepth 20000 in
theorem gL_law_X1_winds : GoodIn wsL_law (wsV RL 46 RX1 yX1_winds wsX1_winds) := goodIn_app (goodIn_of _ (by decide +kernel)) ggL_law_X1_winds
set_option maxRecDepth 20000 in
theorem ggL_law_X2_winds : GoodIn wsL_law wsX2_winds := goodIn_r _ [270, 67, 68, 5, 69, 70, 71, 72, 180, 181, 182, 183, 35, 271, 272, 273, 274, 245, 246, 247, 248, 120, 121, 122, 123, 36, 124, 125, 126, 127, 37, 249, 250, 251, 600, 601, 602, 603, 604, 605, 606, 607, 608, 609, 610, 611, 612] (by decide +kernel) (by decide +kernel)
set_option maxRecDepth 20000 in
theorem gL_law_X2_winds : GoodIn wsL_law (wsV RL 49 RX2 yX2_winds wsX2_winds) := goodIn_app (goodIn_of _ (by decide +kernel)) ggL_law_X2_winds
set_option maxRecDepth 20000 in
theorem ggL_law_X1_rod : GoodIn wsL_law wsX1_rod := goodIn_r _ [278, 16, 279, 280, 2, 281, 592, 593, 594, 595, 596, 597, 598, 599] (by decide +kernel) (by decide +kernel)
set_option maxRecDepth 20000 in
theorem gL_law_X1_rod : GoodIn wsL_law (wsV RL 50 RX1 yX1_rod wsX1_rod) := goodIn_app (goodIn_of _ (by decide +kernel)) ggL_law_X1_rod
set_option maxRecDepth 20000 in
theorem ggL_law_X2_rod : GoodIn wsL_law wsX2_rod := goodIn_r _ [285, 38, 70, 71, 5, 72, 600, 601, 602, 603, 604, 605, 606, 607, 608, 609, 610, 611, 612] (by decide +kernel) (by decide +kernel)
set_option maxRecDepth 20000 in
theorem gL_law_X2_rod : GoodIn wsL_law (wsV RL 53 RX2 yX2_rod wsX2_rod) := goodIn_app (goodIn_of _ (by decide +kernel)) ggL_law_X2_rod
set_option maxRecDepth 20000 in
theorem ggL_law_X1_told : GoodIn wsL_law wsX1_told := goodIn_r _ [289, 160, 290, 161, 291, 16, 48, 49, 50, 2, 51, 13, 292, 293, 294, 105, 106, 107, 295, 296, 297, 298, 162, 163, 164, 15, 165, 30, 299, 300, 301, 302, 303, 304, 221, 305, 137, 113, 114, 115, 29, 306, 307, 308, 309, 170, 171, 172, 173, 136, 109, 110, 111, 28, 310, 311, 312, 313, 314, 315, 316, 317, 318, 319, 320, 321, 322, 323, 324, 613, 614, 615, 592, 593, 594, 595, 596, 597, 598, 599] (by decide +kernel) (by decide +kernel)
set_option maxRecDepth 20000 in
theorem gL_law_X1_told : GoodIn wsL_law (wsV RL 54 RX1 yX1_told wsX1_told) := goodIn_app (goodIn_of _ (by decide +kernel)) ggL_law_X1_told
set_option maxRecDepth 20000 in
theorem ggL_law_X2_told : GoodIn wsL_law wsX2_told := goodIn_r _ [328, 178, 35, 329, 330, 38, 179, 67, 68, 5, 69, 70, 71, 72, 331, 332, 333, 180, 181, 182, 183, 334, 335, 336, 337, 124, 125, 126, 127, 37, 338, 339, 340, 341, 120, 121, 122, 123, 36, 342, 343, 344, 345, 346, 347, 600, 601, 602, 603, 604, 605, 606, 607, 608, 609, 610, 611, 612] (by decide +kernel) (by decide +kernel)
set_option maxRecDepth 20000 in
theorem gL_law_X2_told : GoodIn wsL_law (wsV RL 58 RX2 yX2_told wsX2_told) := goodIn_app (goodIn_of _ (by decide +kernel)) ggL_law_X2_told
set_option maxRecDepth 20000 in
theorem ggL_law_X1_can : GoodIn wsL_law wsX1_can := goodIn_r _ [351, 48, 49, 50, 2, 51, 13, 162, 163, 164, 15, 165, 30, 295, 296, 297, 298, 16, 299, 300, 301, 302, 303, 304, 221, 305, 137, 113, 114, 115, 29, 230, 231, 232, 592, 593, 594, 595, 596, 597, 598, 599, 613, 614, 615] (by decide +kernel) (by decide +kernel)
set_option maxRecDepth 20000 in
theorem gL_law_X1_can : GoodIn wsL_law (wsV RL 59 RX1 yX1_can wsX1_can) := goodIn_app (goodIn_of _ (by decide +kernel)) ggL_law_X1_can
set_option maxRecDepth 20000 in
theorem ggL_law_X2_can : GoodIn wsL_law wsX2_can := goodIn_r _ [355, 67, 68, 5, 69, 70, 71, 72, 180, 181, 182, 183, 35, 334, 335, 336, 337, 38, 124, 125, 126, 127, 37, 600, 601, 602, 603, 604, 605, 606, 607, 608, 609, 610, 611, 612] (by decide +kernel) (by decide +kernel)
set_option maxRecDepth 20000 in
theorem gL_law_X2_can : GoodIn wsL_law (wsV RL 62 RX2 yX2_can wsX2_can) := goodIn_app (goodIn_of _ (by decide +kernel)) ggL_law_X2_can
set_option maxRecDepth 20000 in
theorem ggL_law_X1_rail : GoodIn wsL_law wsX1_rail := goodIn_r _ [359, 48, 49, 50, 2, 51, 13, 52, 53, 54, 162, 163, 164, 15, 165, 30, 295, 296, 297, 298, 16, 299, 300, 301, 302, 303, 304, 221, 305, 137, 113, 114, 115, 29, 360, 361, 362, 363, 108, 109, 110, 111, 28, 364, 365, 366, 367, 170, 171, 172, 173, 136, 368, 369, 370, 371, 372, 373, 374, 375, 204, 205, 206, 207, 376, 377, 378, 379, 380, 230, 231, 232, 592, 593, 594, 595, 596, 597, 598, 599, 613, 614, 615] (by decide +kernel) (by decide +kernel)
set_option maxRecDepth 20000 in
theorem gL_law_X1_rail : GoodIn wsL_law (wsV RL 63 RX1 yX1_rail wsX1_rail) := goodIn_app (goodIn_of _ (by decide +kernel)) ggL_law_X1_rail
set_option maxRecDepth 20000 in
theorem ggL_law_X2_rail : GoodIn wsL_law wsX2_rail := goodIn_r _ [384, 35, 38, 67, 68, 5, 69, 70, 71, 72, 180, 181, 182, 183, 334, 335, 336, 337, 124, 125, 126, 127, 37, 120, 121, 122, 123, 36, 385, 386, 387, 388, 389, 390, 391, 392, 600, 601, 602, 603, 604, 605, 606, 607, 608, 609, 610, 611, 612] (by decide +kernel) (by decide +kernel)
set_option maxRecDepth 20000 in
theorem gL_law_X2_rail : GoodIn wsL_law (wsV RL 66 RX2 yX2_rail wsX2_rail) := goodIn_app (goodIn_of _ (by decide +kernel)) ggL_law_X2_rail
set_option maxRecDepth 20000 in
theorem ggL_law_X1_shut : GoodIn wsL_law wsX1_shut := goodIn_r _ [396, 16, 290, 292, 293, 2, 294, 105, 106, 107, 397, 398, 399, 400, 401, 402, 403, 404, 405, 406, 407, 408, 409, 322, 323, 324, 410, 411, 412, 413, 592, 593, 594, 595, 596, 597, 598, 599] (by decide +kernel) (by decide +kernel)
set_option maxRecDepth 20000 in
theorem gL_law_X1_shut : GoodIn wsL_law (wsV RL 67 RX1 yX1_shut wsX1_shut) := goodIn_app (goodIn_of _ (by decide +kernel)) ggL_law_X1_shut
set_option maxRecDepth 20000 in
theorem ggL_law_X2_shut : GoodIn wsL_law wsX2_shut := goodIn_r _ [417, 38, 329, 418, 70, 71, 5, 72, 331, 332, 333, 419, 420, 421, 422, 423, 424, 425, 426, 330, 600, 601, 602, 603, 604, 605, 606, 607, 608, 609, 610, 611, 612] (by decide +kernel) (by decide +kernel)
set_option maxRecDepth 20000 in
theorem gL_law_X2_shut : GoodIn wsL_law (wsV RL 71 RX2 yX2_shut wsX2_shut) := goodIn_app (goodIn_of _ (by decide +kernel)) ggL_law_X2_shut
set_option maxRecDepth 20000 in
theorem ggL_law_X1_geared : GoodIn wsL_law wsX1_geared := goodIn_r _ [430, 160, 290, 161, 48, 49, 50, 2, 51, 13, 279, 280, 281, 105, 106, 107, 295, 296, 297, 298, 16, 162, 163, 164, 15, 165, 30, 299, 300, 301, 302, 303, 304, 221, 305, 137, 113, 114, 115, 29, 431, 432, 433, 434, 291, 435, 436, 306, 307, 308, 309, 170, 171, 172, 173, 136, 109, 110, 111, 28, 310, 311, 312, 313, 314, 315, 316, 317, 318, 319, 320, 321, 322, 323, 324, 592, 593, 594, 595, 596, 597, 598, 599, 613, 614, 615] (by decide +kernel) (by decide +kernel)
set_option maxRecDepth 20000 in
theorem gL_law_X1_geared : GoodIn wsL_law (wsV RL 72 RX1 yX1_geared wsX1_geared) := goodIn_app (goodIn_of _ (by decide +kernel)) ggL_law_X1_geared
set_option maxRecDepth 20000 in
theorem ggL_law_X2_geared : GoodIn wsL_law wsX2_geared := goodIn_r _ [440, 178, 329, 179, 38, 35, 330, 441, 442, 67, 68, 5, 69, 70, 71, 72, 331, 332, 333, 180, 181, 182, 183, 334, 335, 336, 337, 124, 125, 126, 127, 37, 338, 339, 340, 341, 120, 121, 122, 123, 36, 342, 343, 344, 345, 346, 347, 600, 601, 602, 603, 604, 605, 606, 607, 608, 609, 610, 611, 612] (by decide +kernel) (by decide +kernel)
set_option maxRecDepth 20000 in
theorem gL_law_X2_geared : GoodIn wsL_law (wsV RL 75 RX2 yX2_geared wsX2_geared) := goodIn_app (goodIn_of _ (by decide +kernel)) ggL_law_X2_geared
set_option maxRecDepth 20000 in
theorem ggL_law_X1_moment : GoodIn wsL_law wsX1_moment := goodIn_r _ [446, 160, 290, 161, 291, 48, 49, 50, 2, 51, 13, 292, 293, 294, 105, 106, 107, 162, 163, 164, 15, 165, 30, 306, 307, 308, 309, 170, 171, 172, 173, 136, 109, 110, 111, 28, 137, 113, 114, 115, 29, 310, 311, 312, 313, 314, 315, 316, 317, 221, 318, 319, 320, 321, 322, 323, 324, 613, 614, 615, 592, 593, 594, 595, 596, 597, 598, 599] (by decide +kernel) (by decide +kernel)
set_option maxRecDepth 20000 in
theorem gL_law_X1_moment : GoodIn wsL_law (wsV RL 76 RX1 yX1_moment wsX1_moment) := goodIn_app (goodIn_of _ (by decide +kernel)) ggL_law_X1_moment
set_option maxRecDepth 20000 in
theorem ggL_law_X2_moment : GoodIn wsL_law wsX2_moment := goodIn_r _ [450, 178, 329, 179, 35, 330, 67, 68, 5, 69, 70, 71, 72, 331, 332, 333, 180, 181, 182, 183, 338, 339, 340, 341, 120, 121, 122, 123, 36, 124, 125, 126, 127, 37, 342, 343, 344, 345, 346, 347, 600, 601, 602, 603, 604, 605, 606, 607, 608, 609, 610, 611, 612] (by decide +kernel) (by decide +kernel)
set_option maxRecDepth 20000 in
theorem gL_law_X2_moment : GoodIn wsL_law (wsV RL 79 RX2 yX2_moment wsX2_moment) := goodIn_app (goodIn_of _ (by decide +kernel)) ggL_law_X2_moment
set_option maxRecDepth 20000 in
theorem ggL_law_X1_arm : GoodIn wsL_law wsX1_arm := goodIn_r _ [454, 19, 20, 21, 22, 52, 53, 2, 54, 279, 280, 281, 592, 593, 594, 595, 596, 597, 598, 599] (by decide +kernel) (by decide +kernel)
set_option maxRecDepth 20000 in
theorem gL_law_X1_arm : GoodIn wsL_law (wsV RL 80 RX1 yX1_arm wsX1_arm) := goodIn_app (goodIn_of _ (by decide +kernel)) ggL_law_X1_arm
set_option maxRecDepth 20000 in
theorem ggL_law_X2_arm : GoodIn wsL_law wsX2_arm := goodIn_r _ [458, 459, 460, 41, 461, 70, 71, 5, 72, 73, 74, 75, 600, 601, 602, 603, 604, 605, 606, 607, 608, 609, 610, 611, 612] (by decide +kernel) (by decide +kernel)
set_option maxRecDepth 20000 in
theorem gL_law_X2_arm : GoodIn wsL_law (wsV RL 83 RX2 yX2_arm wsX2_arm) := goodIn_app (goodIn_of _ (by decide +kernel)) ggL_law_X2_arm
set_option maxRecDepth 20000 in
theorem ggL_law_X1_ring : GoodIn wsL_law wsX1_ring := goodIn_r _ [465, 160, 290, 161, 19, 20, 466, 48, 49, 50, 2, 51, 13, 105, 106, 107, 162, 163, 164, 15, 165, 30, 259, 260, 261, 262, 212, 213, 214, 215, 170, 171, 172, 173, 204, 205, 206, 207, 136, 109, 110, 111, 28, 137, 113, 114, 115, 29, 216, 217, 218, 219, 220, 221, 222, 223, 224, 225, 467, 468, 469, 470, 21, 16, 22, 263, 264, 265, 266, 592, 593, 594, 595, 596, 597, 598, 599, 613, 614, 615] (by decide +kernel) (by decide +kernel)
set_option maxRecDepth 20000 in
theorem gL_law_X1_ring : GoodIn wsL_law (wsV RL 84 RX1 yX1_ring wsX1_ring) := goodIn_app (goodIn_of _ (by decide +kernel)) ggL_law_X1_ring
set_option maxRecDepth 20000 in
theorem ggL_law_X2_ring : GoodIn wsL_law wsX2_ring := goodIn_r _ [474, 178, 329, 179, 459, 460, 475, 41, 38, 330, 461, 67, 68, 5, 69, 70, 71, 72, 180, 181, 182, 183, 35, 271, 272, 273, 274, 245, 246, 247, 248, 120, 121, 122, 123, 36, 124, 125, 126, 127, 37, 249, 250, 251, 600, 601, 602, 603, 604, 605, 606, 607, 608, 609, 610, 611, 612] (by decide +kernel) (by decide +kernel)
set_option maxRecDepth 20000 in
theorem gL_law_X2_ring : GoodIn wsL_law (wsV RL 87 RX2 yX2_ring wsX2_ring) := goodIn_app (goodIn_of _ (by decide +kernel)) ggL_law_X2_ring
set_option maxRecDepth 20000 in
theorem ggL_law_X1_reaches : GoodIn wsL_law wsX1_reaches := goodIn_r _ [479, 48, 49, 50, 2, 51, 13, 162, 163, 164, 15, 165, 30, 480, 481, 482, 483, 21, 16, 19, 20, 364, 365, 366, 367, 170, 171, 172, 173, 136, 109, 110, 111, 28, 137, 113, 114, 115, 29, 368, 369, 370, 371, 372, 373, 374, 375, 204, 205, 206, 207, 484, 485, 486, 487, 380, 230, 231, 232, 592, 593, 594, 595, 596, 597, 598, 599, 613, 614, 615] (by decide +kernel) (by decide +kernel)
set_option maxRecDepth 20000 in
theorem gL_law_X1_reaches : GoodIn wsL_law (wsV RL 88 RX1 yX1_reaches wsX1_reaches) := goodIn_app (goodIn_of _ (by decide +kernel)) ggL_law_X1_reaches
set_option maxRecDepth 20000 in
theorem ggL_law_X2_reaches : GoodIn wsL_law wsX2_reaches := goodIn_r _ [491, 41, 38, 35, 459, 460, 67, 68, 5, 69, 70, 71, 72, 180, 181, 182, 183, 120, 121, 122, 123, 36, 124, 125, 126, 127, 37, 492, 493, 494, 495, 600, 601, 602, 603, 604, 605, 606, 607, 608, 609, 610, 611, 612] (by decide +kernel) (by decide +kernel)
set_option maxRecDepth 20000 in
theorem gL_law_X2_reaches : GoodIn wsL_law (wsV RL 91 RX2 yX2_reaches wsX2_reaches) := goodIn_app (goodIn_of _ (by decide +kernel)) ggL_law_X2_reaches
set_option maxRecDepth 20000 in
theorem ggL_law_X1_teeth : GoodIn wsL_law wsX1_teeth := goodIn_r _ [499, 17, 18, 279, 280, 2, 281, 592, 593, 594, 595, 596, 597, 598, 599] (by decide +kernel) (by decide +kernel)
set_option maxRecDepth 20000 in
theorem gL_law_X1_teeth : GoodIn wsL_law (wsV RL 92 RX1 yX1_teeth wsX1_teeth) := goodIn_app (goodIn_of _ (by decide +kernel)) ggL_law_X1_teeth
set_option maxRecDepth 20000 in
theorem ggL_law_X2_teeth : GoodIn wsL_law wsX2_teeth := goodIn_r _ [503, 39, 40, 70, 71, 5, 72, 600, 601, 602, 603, 604, 605, 606, 607, 608, 609, 610, 611, 612] (by decide +kernel) (by decide +kernel)
set_option maxRecDepth 20000 in
theorem gL_law_X2_teeth : GoodIn wsL_law (wsV RL 96 RX2 yX2_teeth wsX2_teeth) := goodIn_app (goodIn_of _ (by decide +kernel)) ggL_law_X2_teeth
set_option maxRecDepth 20000 in
theorem ggL_law_X1_count : GoodIn wsL_law wsX1_count := goodIn_r _ [507, 160, 161, 316, 317, 221, 318, 18, 291, 16, 17, 48, 49, 50, 2, 51, 13, 295, 296, 297, 298, 162, 163, 164, 15, 165, 30, 299, 300, 301, 302, 303, 304, 305, 137, 113, 114, 115, 29, 306, 307, 308, 309, 170, 171, 172, 173, 136, 109, 110, 111, 28, 310, 311, 312, 322, 323, 324, 613, 614, 615, 592, 593, 594, 595, 596, 597, 598, 599] (by decide +kernel) (by decide +kernel)
set_option maxRecDepth 20000 in
theorem gL_law_X1_count : GoodIn wsL_law (wsV RL 97 RX1 yX1_count wsX1_count) := goodIn_app (goodIn_of _ (by decide +kernel)) ggL_law_X1_count
set_option maxRecDepth 20000 in
theorem ggL_law_X2_count : GoodIn wsL_law wsX2_count := goodIn_r _ [511, 178, 179, 35, 40, 330, 38, 39, 67, 68, 5, 69, 70, 71, 72, 180, 181, 182, 183, 334, 335, 336, 337, 124, 125, 126, 127, 37, 338, 339, 340, 341, 120, 121, 122, 123, 36, 600, 601, 602, 603, 604, 605, 606, 607, 608, 609, 610, 611, 612] (by decide +kernel) (by decide +kernel)
set_option maxRecDepth 20000 in
theorem gL_law_X2_count : GoodIn wsL_law (wsV RL 100 RX2 yX2_count wsX2_count) := goodIn_app (goodIn_of _ (by decide +kernel)) ggL_law_X2_count
set_option maxRecDepth 20000 in
theorem ggL_law_X1_may : GoodIn wsL_law wsX1_may := goodIn_r _ [515, 290, 17, 16, 18, 516, 517, 2, 518, 519, 292, 293, 294, 105, 106, 107, 520, 521, 522, 523, 224, 221, 225, 524, 525, 526, 313, 314, 315, 316, 317, 318, 319, 320, 321, 322, 323, 324, 592, 593, 594, 595, 596, 597, 598, 599] (by decide +kernel) (by decide +kernel)
set_option maxRecDepth 20000 in
theorem gL_law_X1_may : GoodIn wsL_law (wsV RL 101 RX1 yX1_may wsX1_may) := goodIn_app (goodIn_of _ (by decide +kernel)) ggL_law_X1_may
set_option maxRecDepth 20000 in
theorem ggL_law_X2_may : GoodIn wsL_law wsX2_may := goodIn_r _ [530, 329, 39, 38, 40, 531, 532, 5, 533, 534, 70, 71, 72, 331, 332, 333, 535, 536, 537, 342, 343, 344, 345, 346, 347, 600, 601, 602, 603, 604, 605, 606, 607, 608, 609, 610, 611, 612] (by decide +kernel) (by decide +kernel)
set_option maxRecDepth 20000 in
theorem gL_law_X2_may : GoodIn wsL_law (wsV RL 105 RX2 yX2_may wsX2_may) := goodIn_app (goodIn_of _ (by decide +kernel)) ggL_law_X2_may
set_option maxRecDepth 20000 in
theorem ggL_law_X1_fits : GoodIn wsL_law wsX1_fits := goodIn_r _ [541, 316, 317, 221, 318, 18, 291, 17, 16, 48, 49, 50, 2, 51, 13, 516, 517, 518, 519, 292, 293, 294, 162, 163, 164, 15, 165, 30, 166, 167, 168, 169, 170, 171, 172, 173, 136, 109, 110, 111, 28, 137, 113, 114, 115, 29, 520, 521, 522, 523, 224, 225, 524, 525, 526, 230, 231, 232, 592, 593, 594, 595, 596, 597, 598, 599, 613, 614, 615] (by decide +kernel) (by decide +kernel)
set_option maxRecDepth 20000 in
theorem gL_law_X1_fits : GoodIn wsL_law (wsV RL 106 RX1 yX1_fits wsX1_fits) := goodIn_app (goodIn_of _ (by decide +kernel)) ggL_law_X1_fits
set_option maxRecDepth 20000 in
theorem ggL_law_X2_fits : GoodIn wsL_law wsX2_fits := goodIn_r _ [545, 40, 330, 39, 38, 67, 68, 5, 69, 70, 71, 72, 531, 532, 533, 534, 180, 181, 182, 183, 35, 184, 185, 186, 187, 120, 121, 122, 123, 36, 124, 125, 126, 127, 37, 535, 536, 537, 600, 601, 602, 603, 604, 605, 606, 607, 608, 609, 610, 611, 612] (by decide +kernel) (by decide +kernel)
set_option maxRecDepth 20000 in
theorem gL_law_X2_fits : GoodIn wsL_law (wsV RL 109 RX2 yX2_fits wsX2_fits) := goodIn_app (goodIn_of _ (by decide +kernel)) ggL_law_X2_fits
set_option maxRecDepth 20000 in
theorem ggL_law_X1_join : GoodIn wsL_law wsX1_join := goodIn_r _ [549, 48, 49, 50, 2, 51, 13, 80, 81, 82, 15, 83, 30, 162, 163, 164, 165, 550, 171, 172, 173, 551, 197, 198, 199, 136, 109, 110, 111, 28, 137, 113, 114, 115, 29, 552, 553, 554, 555, 59, 60, 61, 62, 170, 613, 614, 615, 592, 593, 594, 595, 596, 597, 598, 599] (by decide +kernel) (by decide +kernel)
set_option maxRecDepth 20000 in
theorem gL_law_X1_join : GoodIn wsL_law (wsV RL 110 RX1 yX1_join wsX1_join) := goodIn_app (goodIn_of _ (by decide +kernel)) ggL_law_X1_join
set_option maxRecDepth 20000 in
theorem ggL_law_X2_join : GoodIn wsL_law wsX2_join := goodIn_r _ [559, 35, 147, 89, 90, 91, 5, 92, 67, 68, 69, 70, 71, 72, 180, 181, 182, 183, 120, 121, 122, 123, 36, 124, 125, 126, 127, 37, 148, 149, 150, 151, 42, 43, 152, 153, 154, 155, 600, 601, 602, 603, 604, 605, 606, 607, 608, 609, 610, 611, 612] (by decide +kernel) (by decide +kernel)
set_option maxRecDepth 20000 in
theorem gL_law_X2_join : GoodIn wsL_law (wsV RL 113 RX2 yX2_join wsX2_join) := goodIn_app (goodIn_of _ (by decide +kernel)) ggL_law_X2_join
set_option maxRecDepth 20000 in
theorem ggL_law_X1_part : GoodIn wsL_law wsX1_part := goodIn_r _ [563, 48, 49, 50, 2, 51, 13, 52, 53, 54, 162, 163, 164, 15, 165, 30, 564, 565, 566, 567, 137, 113, 114, 115, 29, 568, 569, 570, 571, 170, 171, 172, 173, 572, 573, 574, 575, 576, 577, 578, 579, 580, 581, 582, 583, 136, 109, 110, 111, 28, 584, 585, 586, 587, 138, 56, 57, 58, 59, 60, 61, 62, 613, 614, 615, 592, 593, 594, 595, 596, 597, 598, 599] (by decide +kernel) (by decide +kernel)
set_option maxRecDepth 20000 in
theorem gL_law_X1_part : GoodIn wsL_law (wsV RL 114 RX1 yX1_part wsX1_part) := goodIn_app (goodIn_of _ (by decide +kernel)) ggL_law_X1_part
set_option maxRecDepth 20000 in
theorem ggL_law_X2_part : GoodIn wsL_law wsX2_part := goodIn_r _ [591, 147, 35, 67, 68, 5, 69, 70, 71, 72, 73, 74, 75, 180, 181, 182, 183, 124, 125, 126, 127, 37, 120, 121, 122, 123, 36, 148, 149, 150, 151, 42, 43, 152, 153, 154, 155, 600, 601, 602, 603, 604, 605, 606, 607, 608, 609, 610, 611, 612] (by decide +kernel) (by decide +kernel)
set_option maxRecDepth 20000 in
theorem gL_law_X2_part : GoodIn wsL_law (wsV RL 117 RX2 yX2_part wsX2_part) := goodIn_app (goodIn_of _ (by decide +kernel)) ggL_law_X2_part
theorem dL_law_0 : decode cL_law 0 = .ok (.new 7, 3) := by decide +kernel
theorem dL_law_3 : decode cL_law 3 = .ok (.dup, 1) := by decide +kernel
theorem dL_law_4 : decode cL_law 4 = .ok (.invokespecial 9, 3) := by decide +kernel
theorem dL_law_7 : decode cL_law 7 = .ok (.astore_n 1, 1) := by decide +kernel
theorem dL_law_8 : decode cL_law 8 = .ok (.new 10, 3) := by decide +kernel
theorem dL_law_11 : decode cL_law 11 = .ok (.dup, 1) := by decide +kernel
theorem dL_law_12 : decode cL_law 12 = .ok (.invokespecial 12, 3) := by decide +kernel
theorem dL_law_15 : decode cL_law 15 = .ok (.astore_n 2, 1) := by decide +kernel
theorem dL_law_16 : decode cL_law 16 = .ok (.iconst 0, 1) := by decide +kernel
theorem dL_law_17 : decode cL_law 17 = .ok (.istore_n 3, 1) := by decide +kernel
theorem dL_law_18 : decode cL_law 18 = .ok (.iload_n 3, 1) := by decide +kernel
theorem dL_law_19 : decode cL_law 19 = .ok (.aload_n 0, 1) := by decide +kernel
theorem dL_law_20 : decode cL_law 20 = .ok (.arraylength, 1) := by decide +kernel
theorem dL_law_21 : decode cL_law 21 = .ok (.bipush 6, 2) := by decide +kernel
theorem dL_law_23 : decode cL_law 23 = .ok (.isub, 1) := by decide +kernel
theorem dL_law_24 : decode cL_law 24 = .ok (.if_icmp .gt 1072, 3) := by decide +kernel
theorem dL_law_27 : decode cL_law 27 = .ok (.aload_n 0, 1) := by decide +kernel
theorem dL_law_28 : decode cL_law 28 = .ok (.iload_n 3, 1) := by decide +kernel
theorem dL_law_29 : decode cL_law 29 = .ok (.iaload, 1) := by decide +kernel
theorem dL_law_30 : decode cL_law 30 = .ok (.bipush 31, 2) := by decide +kernel
theorem dL_law_32 : decode cL_law 32 = .ok (.iand, 1) := by decide +kernel
theorem dL_law_33 : decode cL_law 33 = .ok (.tableswitch 1057 0 23 #[111, 154, 207, 230, 273, 332, 356, 379, 422, 445, 489, 512, 555, 589, 633, 677, 730, 764, 787, 820, 844, 908, 961, 1014], 111) := by decide +kernel
theorem dL_law_144 : decode cL_law 144 = .ok (.aload_n 1, 1) := by decide +kernel
theorem dL_law_145 : decode cL_law 145 = .ok (.aload_n 0, 1) := by decide +kernel
theorem dL_law_146 : decode cL_law 146 = .ok (.iload_n 3, 1) := by decide +kernel
theorem dL_law_147 : decode cL_law 147 = .ok (.iconst 1, 1) := by decide +kernel
theorem dL_law_148 : decode cL_law 148 = .ok (.iadd, 1) := by decide +kernel
theorem dL_law_149 : decode cL_law 149 = .ok (.iaload, 1) := by decide +kernel
theorem dL_law_150 : decode cL_law 150 = .ok (.aload_n 0, 1) := by decide +kernel
theorem dL_law_151 : decode cL_law 151 = .ok (.iload_n 3, 1) := by decide +kernel
theorem dL_law_152 : decode cL_law 152 = .ok (.iconst 2, 1) := by decide +kernel
theorem dL_law_153 : decode cL_law 153 = .ok (.iadd, 1) := by decide +kernel
theorem dL_law_154 : decode cL_law 154 = .ok (.iaload, 1) := by decide +kernel
theorem dL_law_155 : decode cL_law 155 = .ok (.aload_n 0, 1) := by decide +kernel
theorem dL_law_156 : decode cL_law 156 = .ok (.iload_n 3, 1) := by decide +kernel
theorem dL_law_157 : decode cL_law 157 = .ok (.iconst 3, 1) := by decide +kernel
theorem dL_law_158 : decode cL_law 158 = .ok (.iadd, 1) := by decide +kernel
theorem dL_law_159 : decode cL_law 159 = .ok (.iaload, 1) := by decide +kernel
theorem dL_law_160 : decode cL_law 160 = .ok (.invokevirtual 13, 3) := by decide +kernel
theorem dL_law_163 : decode cL_law 163 = .ok (.aload_n 2, 1) := by decide +kernel
theorem dL_law_164 : decode cL_law 164 = .ok (.aload_n 0, 1) := by decide +kernel
theorem dL_law_165 : decode cL_law 165 = .ok (.iload_n 3, 1) := by decide +kernel
theorem dL_law_166 : decode cL_law 166 = .ok (.iconst 1, 1) := by decide +kernel
theorem dL_law_167 : decode cL_law 167 = .ok (.iadd, 1) := by decide +kernel
theorem dL_law_168 : decode cL_law 168 = .ok (.iaload, 1) := by decide +kernel
theorem dL_law_169 : decode cL_law 169 = .ok (.aload_n 0, 1) := by decide +kernel
theorem dL_law_170 : decode cL_law 170 = .ok (.iload_n 3, 1) := by decide +kernel
theorem dL_law_171 : decode cL_law 171 = .ok (.iconst 2, 1) := by decide +kernel
theorem dL_law_172 : decode cL_law 172 = .ok (.iadd, 1) := by decide +kernel
theorem dL_law_173 : decode cL_law 173 = .ok (.iaload, 1) := by decide +kernel
theorem dL_law_174 : decode cL_law 174 = .ok (.aload_n 0, 1) := by decide +kernel
theorem dL_law_175 : decode cL_law 175 = .ok (.iload_n 3, 1) := by decide +kernel
theorem dL_law_176 : decode cL_law 176 = .ok (.iconst 3, 1) := by decide +kernel
theorem dL_law_177 : decode cL_law 177 = .ok (.iadd, 1) := by decide +kernel
theorem dL_law_178 : decode cL_law 178 = .ok (.iaload, 1) := by decide +kernel
theorem dL_law_179 : decode cL_law 179 = .ok (.invokevirtual 17, 3) := by decide +kernel
theorem dL_law_182 : decode cL_law 182 = .ok (.if_icmp .eq 908, 3) := by decide +kernel
theorem dL_law_185 : decode cL_law 185 = .ok (.iconst 0, 1) := by decide +kernel
theorem dL_law_186 : decode cL_law 186 = .ok (.ireturn, 1) := by decide +kernel
theorem dL_law_187 : decode cL_law 187 = .ok (.aload_n 1, 1) := by decide +kernel
theorem dL_law_188 : decode cL_law 188 = .ok (.aload_n 0, 1) := by decide +kernel
theorem dL_law_189 : decode cL_law 189 = .ok (.iload_n 3, 1) := by decide +kernel
theorem dL_law_190 : decode cL_law 190 = .ok (.iconst 1, 1) := by decide +kernel
theorem dL_law_191 : decode cL_law 191 = .ok (.iadd, 1) := by decide +kernel
theorem dL_law_192 : decode cL_law 192 = .ok (.iaload, 1) := by decide +kernel
theorem dL_law_193 : decode cL_law 193 = .ok (.aload_n 0, 1) := by decide +kernel
theorem dL_law_194 : decode cL_law 194 = .ok (.iload_n 3, 1) := by decide +kernel
theorem dL_law_195 : decode cL_law 195 = .ok (.iconst 2, 1) := by decide +kernel
theorem dL_law_196 : decode cL_law 196 = .ok (.iadd, 1) := by decide +kernel
theorem dL_law_197 : decode cL_law 197 = .ok (.iaload, 1) := by decide +kernel
theorem dL_law_198 : decode cL_law 198 = .ok (.aload_n 0, 1) := by decide +kernel
theorem dL_law_199 : decode cL_law 199 = .ok (.iload_n 3, 1) := by decide +kernel
theorem dL_law_200 : decode cL_law 200 = .ok (.iconst 3, 1) := by decide +kernel
theorem dL_law_201 : decode cL_law 201 = .ok (.iadd, 1) := by decide +kernel
theorem dL_law_202 : decode cL_law 202 = .ok (.iaload, 1) := by decide +kernel
theorem dL_law_203 : decode cL_law 203 = .ok (.aload_n 0, 1) := by decide +kernel
theorem dL_law_204 : decode cL_law 204 = .ok (.iload_n 3, 1) := by decide +kernel
theorem dL_law_205 : decode cL_law 205 = .ok (.iconst 4, 1) := by decide +kernel
theorem dL_law_206 : decode cL_law 206 = .ok (.iadd, 1) := by decide +kernel
theorem dL_law_207 : decode cL_law 207 = .ok (.iaload, 1) := by decide +kernel
theorem dL_law_208 : decode cL_law 208 = .ok (.invokevirtual 18, 3) := by decide +kernel
theorem dL_law_211 : decode cL_law 211 = .ok (.aload_n 2, 1) := by decide +kernel
theorem dL_law_212 : decode cL_law 212 = .ok (.aload_n 0, 1) := by decide +kernel
theorem dL_law_213 : decode cL_law 213 = .ok (.iload_n 3, 1) := by decide +kernel
theorem dL_law_214 : decode cL_law 214 = .ok (.iconst 1, 1) := by decide +kernel
theorem dL_law_215 : decode cL_law 215 = .ok (.iadd, 1) := by decide +kernel
theorem dL_law_216 : decode cL_law 216 = .ok (.iaload, 1) := by decide +kernel
theorem dL_law_217 : decode cL_law 217 = .ok (.aload_n 0, 1) := by decide +kernel
theorem dL_law_218 : decode cL_law 218 = .ok (.iload_n 3, 1) := by decide +kernel
theorem dL_law_219 : decode cL_law 219 = .ok (.iconst 2, 1) := by decide +kernel
theorem dL_law_220 : decode cL_law 220 = .ok (.iadd, 1) := by decide +kernel
theorem dL_law_221 : decode cL_law 221 = .ok (.iaload, 1) := by decide +kernel
theorem dL_law_222 : decode cL_law 222 = .ok (.aload_n 0, 1) := by decide +kernel
theorem dL_law_223 : decode cL_law 223 = .ok (.iload_n 3, 1) := by decide +kernel
theorem dL_law_224 : decode cL_law 224 = .ok (.iconst 3, 1) := by decide +kernel
theorem dL_law_225 : decode cL_law 225 = .ok (.iadd, 1) := by decide +kernel
theorem dL_law_226 : decode cL_law 226 = .ok (.iaload, 1) := by decide +kernel
theorem dL_law_227 : decode cL_law 227 = .ok (.aload_n 0, 1) := by decide +kernel
theorem dL_law_228 : decode cL_law 228 = .ok (.iload_n 3, 1) := by decide +kernel
theorem dL_law_229 : decode cL_law 229 = .ok (.iconst 4, 1) := by decide +kernel
theorem dL_law_230 : decode cL_law 230 = .ok (.iadd, 1) := by decide +kernel
theorem dL_law_231 : decode cL_law 231 = .ok (.iaload, 1) := by decide +kernel
theorem dL_law_232 : decode cL_law 232 = .ok (.invokevirtual 22, 3) := by decide +kernel
theorem dL_law_235 : decode cL_law 235 = .ok (.if_icmp .eq 855, 3) := by decide +kernel
theorem dL_law_238 : decode cL_law 238 = .ok (.iconst 0, 1) := by decide +kernel
theorem dL_law_239 : decode cL_law 239 = .ok (.ireturn, 1) := by decide +kernel
theorem dL_law_240 : decode cL_law 240 = .ok (.aload_n 1, 1) := by decide +kernel
theorem dL_law_241 : decode cL_law 241 = .ok (.aload_n 0, 1) := by decide +kernel
theorem dL_law_242 : decode cL_law 242 = .ok (.iload_n 3, 1) := by decide +kernel
theorem dL_law_243 : decode cL_law 243 = .ok (.iconst 1, 1) := by decide +kernel
theorem dL_law_244 : decode cL_law 244 = .ok (.iadd, 1) := by decide +kernel
theorem dL_law_245 : decode cL_law 245 = .ok (.iaload, 1) := by decide +kernel
theorem dL_law_246 : decode cL_law 246 = .ok (.invokevirtual 23, 3) := by decide +kernel
theorem dL_law_249 : decode cL_law 249 = .ok (.aload_n 2, 1) := by decide +kernel
theorem dL_law_250 : decode cL_law 250 = .ok (.aload_n 0, 1) := by decide +kernel
theorem dL_law_251 : decode cL_law 251 = .ok (.iload_n 3, 1) := by decide +kernel
theorem dL_law_252 : decode cL_law 252 = .ok (.iconst 1, 1) := by decide +kernel
theorem dL_law_253 : decode cL_law 253 = .ok (.iadd, 1) := by decide +kernel
theorem dL_law_254 : decode cL_law 254 = .ok (.iaload, 1) := by decide +kernel
theorem dL_law_255 : decode cL_law 255 = .ok (.invokevirtual 27, 3) := by decide +kernel
theorem dL_law_258 : decode cL_law 258 = .ok (.if_icmp .eq 832, 3) := by decide +kernel
theorem dL_law_261 : decode cL_law 261 = .ok (.iconst 0, 1) := by decide +kernel
theorem dL_law_262 : decode cL_law 262 = .ok (.ireturn, 1) := by decide +kernel
theorem dL_law_263 : decode cL_law 263 = .ok (.aload_n 1, 1) := by decide +kernel
theorem dL_law_264 : decode cL_law 264 = .ok (.aload_n 0, 1) := by decide +kernel
theorem dL_law_265 : decode cL_law 265 = .ok (.iload_n 3, 1) := by decide +kernel
theorem dL_law_266 : decode cL_law 266 = .ok (.iconst 1, 1) := by decide +kernel
theorem dL_law_267 : decode cL_law 267 = .ok (.iadd, 1) := by decide +kernel
theorem dL_law_268 : decode cL_law 268 = .ok (.iaload, 1) := by decide +kernel
theorem dL_law_269 : decode cL_law 269 = .ok (.aload_n 0, 1) := by decide +kernel
theorem dL_law_270 : decode cL_law 270 = .ok (.iload_n 3, 1) := by decide +kernel
theorem dL_law_271 : decode cL_law 271 = .ok (.iconst 2, 1) := by decide +kernel
theorem dL_law_272 : decode cL_law 272 = .ok (.iadd, 1) := by decide +kernel
theorem dL_law_273 : decode cL_law 273 = .ok (.iaload, 1) := by decide +kernel
theorem dL_law_274 : decode cL_law 274 = .ok (.aload_n 0, 1) := by decide +kernel
theorem dL_law_275 : decode cL_law 275 = .ok (.iload_n 3, 1) := by decide +kernel
theorem dL_law_276 : decode cL_law 276 = .ok (.iconst 3, 1) := by decide +kernel
theorem dL_law_277 : decode cL_law 277 = .ok (.iadd, 1) := by decide +kernel
theorem dL_law_278 : decode cL_law 278 = .ok (.iaload, 1) := by decide +kernel
theorem dL_law_279 : decode cL_law 279 = .ok (.invokevirtual 28, 3) := by decide +kernel
theorem dL_law_282 : decode cL_law 282 = .ok (.aload_n 2, 1) := by decide +kernel
theorem dL_law_283 : decode cL_law 283 = .ok (.aload_n 0, 1) := by decide +kernel
theorem dL_law_284 : decode cL_law 284 = .ok (.iload_n 3, 1) := by decide +kernel
theorem dL_law_285 : decode cL_law 285 = .ok (.iconst 1, 1) := by decide +kernel
theorem dL_law_286 : decode cL_law 286 = .ok (.iadd, 1) := by decide +kernel
theorem dL_law_287 : decode cL_law 287 = .ok (.iaload, 1) := by decide +kernel
theorem dL_law_288 : decode cL_law 288 = .ok (.aload_n 0, 1) := by decide +kernel
theorem dL_law_289 : decode cL_law 289 = .ok (.iload_n 3, 1) := by decide +kernel
theorem dL_law_290 : decode cL_law 290 = .ok (.iconst 2, 1) := by decide +kernel
theorem dL_law_291 : decode cL_law 291 = .ok (.iadd, 1) := by decide +kernel
theorem dL_law_292 : decode cL_law 292 = .ok (.iaload, 1) := by decide +kernel
theorem dL_law_293 : decode cL_law 293 = .ok (.aload_n 0, 1) := by decide +kernel
theorem dL_law_294 : decode cL_law 294 = .ok (.iload_n 3, 1) := by decide +kernel
theorem dL_law_295 : decode cL_law 295 = .ok (.iconst 3, 1) := by decide +kernel
theorem dL_law_296 : decode cL_law 296 = .ok (.iadd, 1) := by decide +kernel
theorem dL_law_297 : decode cL_law 297 = .ok (.iaload, 1) := by decide +kernel
theorem dL_law_298 : decode cL_law 298 = .ok (.invokevirtual 31, 3) := by decide +kernel
theorem dL_law_301 : decode cL_law 301 = .ok (.if_icmp .eq 789, 3) := by decide +kernel
theorem dL_law_304 : decode cL_law 304 = .ok (.iconst 0, 1) := by decide +kernel
theorem dL_law_305 : decode cL_law 305 = .ok (.ireturn, 1) := by decide +kernel
theorem dL_law_306 : decode cL_law 306 = .ok (.aload_n 1, 1) := by decide +kernel
theorem dL_law_307 : decode cL_law 307 = .ok (.aload_n 0, 1) := by decide +kernel
theorem dL_law_308 : decode cL_law 308 = .ok (.iload_n 3, 1) := by decide +kernel
theorem dL_law_309 : decode cL_law 309 = .ok (.iconst 1, 1) := by decide +kernel
theorem dL_law_310 : decode cL_law 310 = .ok (.iadd, 1) := by decide +kernel
theorem dL_law_311 : decode cL_law 311 = .ok (.iaload, 1) := by decide +kernel
theorem dL_law_312 : decode cL_law 312 = .ok (.aload_n 0, 1) := by decide +kernel
theorem dL_law_313 : decode cL_law 313 = .ok (.iload_n 3, 1) := by decide +kernel
theorem dL_law_314 : decode cL_law 314 = .ok (.iconst 2, 1) := by decide +kernel
theorem dL_law_315 : decode cL_law 315 = .ok (.iadd, 1) := by decide +kernel
theorem dL_law_316 : decode cL_law 316 = .ok (.iaload, 1) := by decide +kernel
theorem dL_law_317 : decode cL_law 317 = .ok (.aload_n 0, 1) := by decide +kernel
theorem dL_law_318 : decode cL_law 318 = .ok (.iload_n 3, 1) := by decide +kernel
theorem dL_law_319 : decode cL_law 319 = .ok (.iconst 3, 1) := by decide +kernel
theorem dL_law_320 : decode cL_law 320 = .ok (.iadd, 1) := by decide +kernel
theorem dL_law_321 : decode cL_law 321 = .ok (.iaload, 1) := by decide +kernel
theorem dL_law_322 : decode cL_law 322 = .ok (.ifCond .eq 7, 3) := by decide +kernel
theorem dL_law_325 : decode cL_law 325 = .ok (.iconst 1, 1) := by decide +kernel
theorem dL_law_326 : decode cL_law 326 = .ok (.goto 4, 3) := by decide +kernel
theorem dL_law_329 : decode cL_law 329 = .ok (.iconst 0, 1) := by decide +kernel
theorem dL_law_330 : decode cL_law 330 = .ok (.invokevirtual 32, 3) := by decide +kernel
theorem dL_law_333 : decode cL_law 333 = .ok (.aload_n 2, 1) := by decide +kernel
theorem dL_law_334 : decode cL_law 334 = .ok (.aload_n 0, 1) := by decide +kernel
theorem dL_law_335 : decode cL_law 335 = .ok (.iload_n 3, 1) := by decide +kernel
theorem dL_law_336 : decode cL_law 336 = .ok (.iconst 1, 1) := by decide +kernel
theorem dL_law_337 : decode cL_law 337 = .ok (.iadd, 1) := by decide +kernel
theorem dL_law_338 : decode cL_law 338 = .ok (.iaload, 1) := by decide +kernel
theorem dL_law_339 : decode cL_law 339 = .ok (.aload_n 0, 1) := by decide +kernel
theorem dL_law_340 : decode cL_law 340 = .ok (.iload_n 3, 1) := by decide +kernel
theorem dL_law_341 : decode cL_law 341 = .ok (.iconst 2, 1) := by decide +kernel
theorem dL_law_342 : decode cL_law 342 = .ok (.iadd, 1) := by decide +kernel
theorem dL_law_343 : decode cL_law 343 = .ok (.iaload, 1) := by decide +kernel
theorem dL_law_344 : decode cL_law 344 = .ok (.aload_n 0, 1) := by decide +kernel
theorem dL_law_345 : decode cL_law 345 = .ok (.iload_n 3, 1) := by decide +kernel
theorem dL_law_346 : decode cL_law 346 = .ok (.iconst 3, 1) := by decide +kernel
theorem dL_law_347 : decode cL_law 347 = .ok (.iadd, 1) := by decide +kernel
theorem dL_law_348 : decode cL_law 348 = .ok (.iaload, 1) := by decide +kernel
theorem dL_law_349 : decode cL_law 349 = .ok (.ifCond .eq 7, 3) := by decide +kernel
theorem dL_law_352 : decode cL_law 352 = .ok (.iconst 1, 1) := by decide +kernel
theorem dL_law_353 : decode cL_law 353 = .ok (.goto 4, 3) := by decide +kernel
theorem dL_law_356 : decode cL_law 356 = .ok (.iconst 0, 1) := by decide +kernel
theorem dL_law_357 : decode cL_law 357 = .ok (.invokevirtual 36, 3) := by decide +kernel
theorem dL_law_360 : decode cL_law 360 = .ok (.if_icmp .eq 730, 3) := by decide +kernel
theorem dL_law_363 : decode cL_law 363 = .ok (.iconst 0, 1) := by decide +kernel
theorem dL_law_364 : decode cL_law 364 = .ok (.ireturn, 1) := by decide +kernel
theorem dL_law_365 : decode cL_law 365 = .ok (.aload_n 1, 1) := by decide +kernel
theorem dL_law_366 : decode cL_law 366 = .ok (.aload_n 0, 1) := by decide +kernel
theorem dL_law_367 : decode cL_law 367 = .ok (.iload_n 3, 1) := by decide +kernel
theorem dL_law_368 : decode cL_law 368 = .ok (.iconst 1, 1) := by decide +kernel
theorem dL_law_369 : decode cL_law 369 = .ok (.iadd, 1) := by decide +kernel
theorem dL_law_370 : decode cL_law 370 = .ok (.iaload, 1) := by decide +kernel
theorem dL_law_371 : decode cL_law 371 = .ok (.invokevirtual 37, 3) := by decide +kernel
theorem dL_law_374 : decode cL_law 374 = .ok (.aload_n 2, 1) := by decide +kernel
theorem dL_law_375 : decode cL_law 375 = .ok (.aload_n 0, 1) := by decide +kernel
theorem dL_law_376 : decode cL_law 376 = .ok (.iload_n 3, 1) := by decide +kernel
theorem dL_law_377 : decode cL_law 377 = .ok (.iconst 1, 1) := by decide +kernel
theorem dL_law_378 : decode cL_law 378 = .ok (.iadd, 1) := by decide +kernel
theorem dL_law_379 : decode cL_law 379 = .ok (.iaload, 1) := by decide +kernel
theorem dL_law_380 : decode cL_law 380 = .ok (.invokevirtual 41, 3) := by decide +kernel
theorem dL_law_383 : decode cL_law 383 = .ok (.lcmp, 1) := by decide +kernel
theorem dL_law_384 : decode cL_law 384 = .ok (.ifCond .eq 706, 3) := by decide +kernel
theorem dL_law_387 : decode cL_law 387 = .ok (.iconst 0, 1) := by decide +kernel
theorem dL_law_388 : decode cL_law 388 = .ok (.ireturn, 1) := by decide +kernel
theorem dL_law_389 : decode cL_law 389 = .ok (.aload_n 1, 1) := by decide +kernel
theorem dL_law_390 : decode cL_law 390 = .ok (.aload_n 0, 1) := by decide +kernel
theorem dL_law_391 : decode cL_law 391 = .ok (.iload_n 3, 1) := by decide +kernel
theorem dL_law_392 : decode cL_law 392 = .ok (.iconst 1, 1) := by decide +kernel
theorem dL_law_393 : decode cL_law 393 = .ok (.iadd, 1) := by decide +kernel
theorem dL_law_394 : decode cL_law 394 = .ok (.iaload, 1) := by decide +kernel
theorem dL_law_395 : decode cL_law 395 = .ok (.invokevirtual 42, 3) := by decide +kernel
theorem dL_law_398 : decode cL_law 398 = .ok (.aload_n 2, 1) := by decide +kernel
theorem dL_law_399 : decode cL_law 399 = .ok (.aload_n 0, 1) := by decide +kernel
theorem dL_law_400 : decode cL_law 400 = .ok (.iload_n 3, 1) := by decide +kernel
theorem dL_law_401 : decode cL_law 401 = .ok (.iconst 1, 1) := by decide +kernel
theorem dL_law_402 : decode cL_law 402 = .ok (.iadd, 1) := by decide +kernel
theorem dL_law_403 : decode cL_law 403 = .ok (.iaload, 1) := by decide +kernel
theorem dL_law_404 : decode cL_law 404 = .ok (.invokevirtual 45, 3) := by decide +kernel
theorem dL_law_407 : decode cL_law 407 = .ok (.if_icmp .eq 683, 3) := by decide +kernel
theorem dL_law_410 : decode cL_law 410 = .ok (.iconst 0, 1) := by decide +kernel
theorem dL_law_411 : decode cL_law 411 = .ok (.ireturn, 1) := by decide +kernel
theorem dL_law_412 : decode cL_law 412 = .ok (.aload_n 1, 1) := by decide +kernel
theorem dL_law_413 : decode cL_law 413 = .ok (.aload_n 0, 1) := by decide +kernel
theorem dL_law_414 : decode cL_law 414 = .ok (.iload_n 3, 1) := by decide +kernel
theorem dL_law_415 : decode cL_law 415 = .ok (.iconst 1, 1) := by decide +kernel
theorem dL_law_416 : decode cL_law 416 = .ok (.iadd, 1) := by decide +kernel
theorem dL_law_417 : decode cL_law 417 = .ok (.iaload, 1) := by decide +kernel
theorem dL_law_418 : decode cL_law 418 = .ok (.aload_n 0, 1) := by decide +kernel
theorem dL_law_419 : decode cL_law 419 = .ok (.iload_n 3, 1) := by decide +kernel
theorem dL_law_420 : decode cL_law 420 = .ok (.iconst 2, 1) := by decide +kernel
theorem dL_law_421 : decode cL_law 421 = .ok (.iadd, 1) := by decide +kernel
theorem dL_law_422 : decode cL_law 422 = .ok (.iaload, 1) := by decide +kernel
theorem dL_law_423 : decode cL_law 423 = .ok (.aload_n 0, 1) := by decide +kernel
theorem dL_law_424 : decode cL_law 424 = .ok (.iload_n 3, 1) := by decide +kernel
theorem dL_law_425 : decode cL_law 425 = .ok (.iconst 3, 1) := by decide +kernel
theorem dL_law_426 : decode cL_law 426 = .ok (.iadd, 1) := by decide +kernel
theorem dL_law_427 : decode cL_law 427 = .ok (.iaload, 1) := by decide +kernel
theorem dL_law_428 : decode cL_law 428 = .ok (.invokevirtual 46, 3) := by decide +kernel
theorem dL_law_431 : decode cL_law 431 = .ok (.aload_n 2, 1) := by decide +kernel
theorem dL_law_432 : decode cL_law 432 = .ok (.aload_n 0, 1) := by decide +kernel
theorem dL_law_433 : decode cL_law 433 = .ok (.iload_n 3, 1) := by decide +kernel
theorem dL_law_434 : decode cL_law 434 = .ok (.iconst 1, 1) := by decide +kernel
theorem dL_law_435 : decode cL_law 435 = .ok (.iadd, 1) := by decide +kernel
theorem dL_law_436 : decode cL_law 436 = .ok (.iaload, 1) := by decide +kernel
theorem dL_law_437 : decode cL_law 437 = .ok (.aload_n 0, 1) := by decide +kernel
theorem dL_law_438 : decode cL_law 438 = .ok (.iload_n 3, 1) := by decide +kernel
theorem dL_law_439 : decode cL_law 439 = .ok (.iconst 2, 1) := by decide +kernel
theorem dL_law_440 : decode cL_law 440 = .ok (.iadd, 1) := by decide +kernel
theorem dL_law_441 : decode cL_law 441 = .ok (.iaload, 1) := by decide +kernel
theorem dL_law_442 : decode cL_law 442 = .ok (.aload_n 0, 1) := by decide +kernel
theorem dL_law_443 : decode cL_law 443 = .ok (.iload_n 3, 1) := by decide +kernel
theorem dL_law_444 : decode cL_law 444 = .ok (.iconst 3, 1) := by decide +kernel
theorem dL_law_445 : decode cL_law 445 = .ok (.iadd, 1) := by decide +kernel
theorem dL_law_446 : decode cL_law 446 = .ok (.iaload, 1) := by decide +kernel
theorem dL_law_447 : decode cL_law 447 = .ok (.invokevirtual 49, 3) := by decide +kernel
theorem dL_law_450 : decode cL_law 450 = .ok (.if_icmp .eq 640, 3) := by decide +kernel
theorem dL_law_453 : decode cL_law 453 = .ok (.iconst 0, 1) := by decide +kernel
theorem dL_law_454 : decode cL_law 454 = .ok (.ireturn, 1) := by decide +kernel
theorem dL_law_455 : decode cL_law 455 = .ok (.aload_n 1, 1) := by decide +kernel
theorem dL_law_456 : decode cL_law 456 = .ok (.aload_n 0, 1) := by decide +kernel
theorem dL_law_457 : decode cL_law 457 = .ok (.iload_n 3, 1) := by decide +kernel
theorem dL_law_458 : decode cL_law 458 = .ok (.iconst 1, 1) := by decide +kernel
theorem dL_law_459 : decode cL_law 459 = .ok (.iadd, 1) := by decide +kernel
theorem dL_law_460 : decode cL_law 460 = .ok (.iaload, 1) := by decide +kernel
theorem dL_law_461 : decode cL_law 461 = .ok (.invokevirtual 50, 3) := by decide +kernel
theorem dL_law_464 : decode cL_law 464 = .ok (.aload_n 2, 1) := by decide +kernel
theorem dL_law_465 : decode cL_law 465 = .ok (.aload_n 0, 1) := by decide +kernel
theorem dL_law_466 : decode cL_law 466 = .ok (.iload_n 3, 1) := by decide +kernel
theorem dL_law_467 : decode cL_law 467 = .ok (.iconst 1, 1) := by decide +kernel
theorem dL_law_468 : decode cL_law 468 = .ok (.iadd, 1) := by decide +kernel
theorem dL_law_469 : decode cL_law 469 = .ok (.iaload, 1) := by decide +kernel
theorem dL_law_470 : decode cL_law 470 = .ok (.invokevirtual 53, 3) := by decide +kernel
theorem dL_law_473 : decode cL_law 473 = .ok (.if_icmp .eq 617, 3) := by decide +kernel
theorem dL_law_476 : decode cL_law 476 = .ok (.iconst 0, 1) := by decide +kernel
theorem dL_law_477 : decode cL_law 477 = .ok (.ireturn, 1) := by decide +kernel
theorem dL_law_478 : decode cL_law 478 = .ok (.aload_n 1, 1) := by decide +kernel
theorem dL_law_479 : decode cL_law 479 = .ok (.aload_n 0, 1) := by decide +kernel
theorem dL_law_480 : decode cL_law 480 = .ok (.iload_n 3, 1) := by decide +kernel
theorem dL_law_481 : decode cL_law 481 = .ok (.iconst 1, 1) := by decide +kernel
theorem dL_law_482 : decode cL_law 482 = .ok (.iadd, 1) := by decide +kernel
theorem dL_law_483 : decode cL_law 483 = .ok (.iaload, 1) := by decide +kernel
theorem dL_law_484 : decode cL_law 484 = .ok (.aload_n 0, 1) := by decide +kernel
theorem dL_law_485 : decode cL_law 485 = .ok (.iload_n 3, 1) := by decide +kernel
theorem dL_law_486 : decode cL_law 486 = .ok (.iconst 2, 1) := by decide +kernel
theorem dL_law_487 : decode cL_law 487 = .ok (.iadd, 1) := by decide +kernel
theorem dL_law_488 : decode cL_law 488 = .ok (.iaload, 1) := by decide +kernel
theorem dL_law_489 : decode cL_law 489 = .ok (.aload_n 0, 1) := by decide +kernel
theorem dL_law_490 : decode cL_law 490 = .ok (.iload_n 3, 1) := by decide +kernel
theorem dL_law_491 : decode cL_law 491 = .ok (.iconst 3, 1) := by decide +kernel
theorem dL_law_492 : decode cL_law 492 = .ok (.iadd, 1) := by decide +kernel
theorem dL_law_493 : decode cL_law 493 = .ok (.iaload, 1) := by decide +kernel
theorem dL_law_494 : decode cL_law 494 = .ok (.invokevirtual 54, 3) := by decide +kernel
theorem dL_law_497 : decode cL_law 497 = .ok (.aload_n 2, 1) := by decide +kernel
theorem dL_law_498 : decode cL_law 498 = .ok (.aload_n 0, 1) := by decide +kernel
theorem dL_law_499 : decode cL_law 499 = .ok (.iload_n 3, 1) := by decide +kernel
theorem dL_law_500 : decode cL_law 500 = .ok (.iconst 1, 1) := by decide +kernel
theorem dL_law_501 : decode cL_law 501 = .ok (.iadd, 1) := by decide +kernel
theorem dL_law_502 : decode cL_law 502 = .ok (.iaload, 1) := by decide +kernel
theorem dL_law_503 : decode cL_law 503 = .ok (.aload_n 0, 1) := by decide +kernel
theorem dL_law_504 : decode cL_law 504 = .ok (.iload_n 3, 1) := by decide +kernel
theorem dL_law_505 : decode cL_law 505 = .ok (.iconst 2, 1) := by decide +kernel
theorem dL_law_506 : decode cL_law 506 = .ok (.iadd, 1) := by decide +kernel
theorem dL_law_507 : decode cL_law 507 = .ok (.iaload, 1) := by decide +kernel
theorem dL_law_508 : decode cL_law 508 = .ok (.aload_n 0, 1) := by decide +kernel
theorem dL_law_509 : decode cL_law 509 = .ok (.iload_n 3, 1) := by decide +kernel
theorem dL_law_510 : decode cL_law 510 = .ok (.iconst 3, 1) := by decide +kernel
theorem dL_law_511 : decode cL_law 511 = .ok (.iadd, 1) := by decide +kernel
theorem dL_law_512 : decode cL_law 512 = .ok (.iaload, 1) := by decide +kernel
theorem dL_law_513 : decode cL_law 513 = .ok (.invokevirtual 58, 3) := by decide +kernel
theorem dL_law_516 : decode cL_law 516 = .ok (.lcmp, 1) := by decide +kernel
theorem dL_law_517 : decode cL_law 517 = .ok (.ifCond .eq 573, 3) := by decide +kernel
theorem dL_law_520 : decode cL_law 520 = .ok (.iconst 0, 1) := by decide +kernel
theorem dL_law_521 : decode cL_law 521 = .ok (.ireturn, 1) := by decide +kernel
theorem dL_law_522 : decode cL_law 522 = .ok (.aload_n 1, 1) := by decide +kernel
theorem dL_law_523 : decode cL_law 523 = .ok (.aload_n 0, 1) := by decide +kernel
theorem dL_law_524 : decode cL_law 524 = .ok (.iload_n 3, 1) := by decide +kernel
theorem dL_law_525 : decode cL_law 525 = .ok (.iconst 1, 1) := by decide +kernel
theorem dL_law_526 : decode cL_law 526 = .ok (.iadd, 1) := by decide +kernel
theorem dL_law_527 : decode cL_law 527 = .ok (.iaload, 1) := by decide +kernel
theorem dL_law_528 : decode cL_law 528 = .ok (.invokevirtual 59, 3) := by decide +kernel
theorem dL_law_531 : decode cL_law 531 = .ok (.aload_n 2, 1) := by decide +kernel
theorem dL_law_532 : decode cL_law 532 = .ok (.aload_n 0, 1) := by decide +kernel
theorem dL_law_533 : decode cL_law 533 = .ok (.iload_n 3, 1) := by decide +kernel
theorem dL_law_534 : decode cL_law 534 = .ok (.iconst 1, 1) := by decide +kernel
theorem dL_law_535 : decode cL_law 535 = .ok (.iadd, 1) := by decide +kernel
theorem dL_law_536 : decode cL_law 536 = .ok (.iaload, 1) := by decide +kernel
theorem dL_law_537 : decode cL_law 537 = .ok (.invokevirtual 62, 3) := by decide +kernel
theorem dL_law_540 : decode cL_law 540 = .ok (.if_icmp .eq 550, 3) := by decide +kernel
theorem dL_law_543 : decode cL_law 543 = .ok (.iconst 0, 1) := by decide +kernel
theorem dL_law_544 : decode cL_law 544 = .ok (.ireturn, 1) := by decide +kernel
theorem dL_law_545 : decode cL_law 545 = .ok (.aload_n 1, 1) := by decide +kernel
theorem dL_law_546 : decode cL_law 546 = .ok (.aload_n 0, 1) := by decide +kernel
theorem dL_law_547 : decode cL_law 547 = .ok (.iload_n 3, 1) := by decide +kernel
theorem dL_law_548 : decode cL_law 548 = .ok (.iconst 1, 1) := by decide +kernel
theorem dL_law_549 : decode cL_law 549 = .ok (.iadd, 1) := by decide +kernel
theorem dL_law_550 : decode cL_law 550 = .ok (.iaload, 1) := by decide +kernel
theorem dL_law_551 : decode cL_law 551 = .ok (.aload_n 0, 1) := by decide +kernel
theorem dL_law_552 : decode cL_law 552 = .ok (.iload_n 3, 1) := by decide +kernel
theorem dL_law_553 : decode cL_law 553 = .ok (.iconst 2, 1) := by decide +kernel
theorem dL_law_554 : decode cL_law 554 = .ok (.iadd, 1) := by decide +kernel
theorem dL_law_555 : decode cL_law 555 = .ok (.iaload, 1) := by decide +kernel
theorem dL_law_556 : decode cL_law 556 = .ok (.aload_n 0, 1) := by decide +kernel
theorem dL_law_557 : decode cL_law 557 = .ok (.iload_n 3, 1) := by decide +kernel
theorem dL_law_558 : decode cL_law 558 = .ok (.iconst 3, 1) := by decide +kernel
theorem dL_law_559 : decode cL_law 559 = .ok (.iadd, 1) := by decide +kernel
theorem dL_law_560 : decode cL_law 560 = .ok (.iaload, 1) := by decide +kernel
theorem dL_law_561 : decode cL_law 561 = .ok (.invokevirtual 63, 3) := by decide +kernel
theorem dL_law_564 : decode cL_law 564 = .ok (.aload_n 2, 1) := by decide +kernel
theorem dL_law_565 : decode cL_law 565 = .ok (.aload_n 0, 1) := by decide +kernel
theorem dL_law_566 : decode cL_law 566 = .ok (.iload_n 3, 1) := by decide +kernel
theorem dL_law_567 : decode cL_law 567 = .ok (.iconst 1, 1) := by decide +kernel
theorem dL_law_568 : decode cL_law 568 = .ok (.iadd, 1) := by decide +kernel
theorem dL_law_569 : decode cL_law 569 = .ok (.iaload, 1) := by decide +kernel
theorem dL_law_570 : decode cL_law 570 = .ok (.aload_n 0, 1) := by decide +kernel
theorem dL_law_571 : decode cL_law 571 = .ok (.iload_n 3, 1) := by decide +kernel
theorem dL_law_572 : decode cL_law 572 = .ok (.iconst 2, 1) := by decide +kernel
theorem dL_law_573 : decode cL_law 573 = .ok (.iadd, 1) := by decide +kernel
theorem dL_law_574 : decode cL_law 574 = .ok (.iaload, 1) := by decide +kernel
theorem dL_law_575 : decode cL_law 575 = .ok (.aload_n 0, 1) := by decide +kernel
theorem dL_law_576 : decode cL_law 576 = .ok (.iload_n 3, 1) := by decide +kernel
theorem dL_law_577 : decode cL_law 577 = .ok (.iconst 3, 1) := by decide +kernel
theorem dL_law_578 : decode cL_law 578 = .ok (.iadd, 1) := by decide +kernel
theorem dL_law_579 : decode cL_law 579 = .ok (.iaload, 1) := by decide +kernel
theorem dL_law_580 : decode cL_law 580 = .ok (.invokevirtual 66, 3) := by decide +kernel
theorem dL_law_583 : decode cL_law 583 = .ok (.if_icmp .eq 507, 3) := by decide +kernel
theorem dL_law_586 : decode cL_law 586 = .ok (.iconst 0, 1) := by decide +kernel
theorem dL_law_587 : decode cL_law 587 = .ok (.ireturn, 1) := by decide +kernel
theorem dL_law_588 : decode cL_law 588 = .ok (.aload_n 1, 1) := by decide +kernel
theorem dL_law_589 : decode cL_law 589 = .ok (.aload_n 0, 1) := by decide +kernel
theorem dL_law_590 : decode cL_law 590 = .ok (.iload_n 3, 1) := by decide +kernel
theorem dL_law_591 : decode cL_law 591 = .ok (.iconst 1, 1) := by decide +kernel
theorem dL_law_592 : decode cL_law 592 = .ok (.iadd, 1) := by decide +kernel
theorem dL_law_593 : decode cL_law 593 = .ok (.iaload, 1) := by decide +kernel
theorem dL_law_594 : decode cL_law 594 = .ok (.aload_n 0, 1) := by decide +kernel
theorem dL_law_595 : decode cL_law 595 = .ok (.iload_n 3, 1) := by decide +kernel
theorem dL_law_596 : decode cL_law 596 = .ok (.iconst 2, 1) := by decide +kernel
theorem dL_law_597 : decode cL_law 597 = .ok (.iadd, 1) := by decide +kernel
theorem dL_law_598 : decode cL_law 598 = .ok (.iaload, 1) := by decide +kernel
theorem dL_law_599 : decode cL_law 599 = .ok (.invokevirtual 67, 3) := by decide +kernel
theorem dL_law_602 : decode cL_law 602 = .ok (.aload_n 2, 1) := by decide +kernel
theorem dL_law_603 : decode cL_law 603 = .ok (.aload_n 0, 1) := by decide +kernel
theorem dL_law_604 : decode cL_law 604 = .ok (.iload_n 3, 1) := by decide +kernel
theorem dL_law_605 : decode cL_law 605 = .ok (.iconst 1, 1) := by decide +kernel
theorem dL_law_606 : decode cL_law 606 = .ok (.iadd, 1) := by decide +kernel
theorem dL_law_607 : decode cL_law 607 = .ok (.iaload, 1) := by decide +kernel
theorem dL_law_608 : decode cL_law 608 = .ok (.aload_n 0, 1) := by decide +kernel
theorem dL_law_609 : decode cL_law 609 = .ok (.iload_n 3, 1) := by decide +kernel
theorem dL_law_610 : decode cL_law 610 = .ok (.iconst 2, 1) := by decide +kernel
theorem dL_law_611 : decode cL_law 611 = .ok (.iadd, 1) := by decide +kernel
theorem dL_law_612 : decode cL_law 612 = .ok (.iaload, 1) := by decide +kernel
theorem dL_law_613 : decode cL_law 613 = .ok (.invokevirtual 71, 3) := by decide +kernel
theorem dL_law_616 : decode cL_law 616 = .ok (.lcmp, 1) := by decide +kernel
theorem dL_law_617 : decode cL_law 617 = .ok (.ifCond .eq 473, 3) := by decide +kernel
theorem dL_law_620 : decode cL_law 620 = .ok (.iconst 0, 1) := by decide +kernel
theorem dL_law_621 : decode cL_law 621 = .ok (.ireturn, 1) := by decide +kernel
theorem dL_law_622 : decode cL_law 622 = .ok (.aload_n 1, 1) := by decide +kernel
theorem dL_law_623 : decode cL_law 623 = .ok (.aload_n 0, 1) := by decide +kernel
theorem dL_law_624 : decode cL_law 624 = .ok (.iload_n 3, 1) := by decide +kernel
theorem dL_law_625 : decode cL_law 625 = .ok (.iconst 1, 1) := by decide +kernel
theorem dL_law_626 : decode cL_law 626 = .ok (.iadd, 1) := by decide +kernel
theorem dL_law_627 : decode cL_law 627 = .ok (.iaload, 1) := by decide +kernel
theorem dL_law_628 : decode cL_law 628 = .ok (.aload_n 0, 1) := by decide +kernel
theorem dL_law_629 : decode cL_law 629 = .ok (.iload_n 3, 1) := by decide +kernel
theorem dL_law_630 : decode cL_law 630 = .ok (.iconst 2, 1) := by decide +kernel
theorem dL_law_631 : decode cL_law 631 = .ok (.iadd, 1) := by decide +kernel
theorem dL_law_632 : decode cL_law 632 = .ok (.iaload, 1) := by decide +kernel
theorem dL_law_633 : decode cL_law 633 = .ok (.aload_n 0, 1) := by decide +kernel
theorem dL_law_634 : decode cL_law 634 = .ok (.iload_n 3, 1) := by decide +kernel
theorem dL_law_635 : decode cL_law 635 = .ok (.iconst 3, 1) := by decide +kernel
theorem dL_law_636 : decode cL_law 636 = .ok (.iadd, 1) := by decide +kernel
theorem dL_law_637 : decode cL_law 637 = .ok (.iaload, 1) := by decide +kernel
theorem dL_law_638 : decode cL_law 638 = .ok (.invokevirtual 72, 3) := by decide +kernel
theorem dL_law_641 : decode cL_law 641 = .ok (.aload_n 2, 1) := by decide +kernel
theorem dL_law_642 : decode cL_law 642 = .ok (.aload_n 0, 1) := by decide +kernel
theorem dL_law_643 : decode cL_law 643 = .ok (.iload_n 3, 1) := by decide +kernel
theorem dL_law_644 : decode cL_law 644 = .ok (.iconst 1, 1) := by decide +kernel
theorem dL_law_645 : decode cL_law 645 = .ok (.iadd, 1) := by decide +kernel
theorem dL_law_646 : decode cL_law 646 = .ok (.iaload, 1) := by decide +kernel
theorem dL_law_647 : decode cL_law 647 = .ok (.aload_n 0, 1) := by decide +kernel
theorem dL_law_648 : decode cL_law 648 = .ok (.iload_n 3, 1) := by decide +kernel
theorem dL_law_649 : decode cL_law 649 = .ok (.iconst 2, 1) := by decide +kernel
theorem dL_law_650 : decode cL_law 650 = .ok (.iadd, 1) := by decide +kernel
theorem dL_law_651 : decode cL_law 651 = .ok (.iaload, 1) := by decide +kernel
theorem dL_law_652 : decode cL_law 652 = .ok (.aload_n 0, 1) := by decide +kernel
theorem dL_law_653 : decode cL_law 653 = .ok (.iload_n 3, 1) := by decide +kernel
theorem dL_law_654 : decode cL_law 654 = .ok (.iconst 3, 1) := by decide +kernel
theorem dL_law_655 : decode cL_law 655 = .ok (.iadd, 1) := by decide +kernel
theorem dL_law_656 : decode cL_law 656 = .ok (.iaload, 1) := by decide +kernel
theorem dL_law_657 : decode cL_law 657 = .ok (.invokevirtual 75, 3) := by decide +kernel
theorem dL_law_660 : decode cL_law 660 = .ok (.lcmp, 1) := by decide +kernel
theorem dL_law_661 : decode cL_law 661 = .ok (.ifCond .eq 429, 3) := by decide +kernel
theorem dL_law_664 : decode cL_law 664 = .ok (.iconst 0, 1) := by decide +kernel
theorem dL_law_665 : decode cL_law 665 = .ok (.ireturn, 1) := by decide +kernel
theorem dL_law_666 : decode cL_law 666 = .ok (.aload_n 1, 1) := by decide +kernel
theorem dL_law_667 : decode cL_law 667 = .ok (.aload_n 0, 1) := by decide +kernel
theorem dL_law_668 : decode cL_law 668 = .ok (.iload_n 3, 1) := by decide +kernel
theorem dL_law_669 : decode cL_law 669 = .ok (.iconst 1, 1) := by decide +kernel
theorem dL_law_670 : decode cL_law 670 = .ok (.iadd, 1) := by decide +kernel
theorem dL_law_671 : decode cL_law 671 = .ok (.iaload, 1) := by decide +kernel
theorem dL_law_672 : decode cL_law 672 = .ok (.aload_n 0, 1) := by decide +kernel
theorem dL_law_673 : decode cL_law 673 = .ok (.iload_n 3, 1) := by decide +kernel
theorem dL_law_674 : decode cL_law 674 = .ok (.iconst 2, 1) := by decide +kernel
theorem dL_law_675 : decode cL_law 675 = .ok (.iadd, 1) := by decide +kernel
theorem dL_law_676 : decode cL_law 676 = .ok (.iaload, 1) := by decide +kernel
theorem dL_law_677 : decode cL_law 677 = .ok (.aload_n 0, 1) := by decide +kernel
theorem dL_law_678 : decode cL_law 678 = .ok (.iload_n 3, 1) := by decide +kernel
theorem dL_law_679 : decode cL_law 679 = .ok (.iconst 3, 1) := by decide +kernel
theorem dL_law_680 : decode cL_law 680 = .ok (.iadd, 1) := by decide +kernel
theorem dL_law_681 : decode cL_law 681 = .ok (.iaload, 1) := by decide +kernel
theorem dL_law_682 : decode cL_law 682 = .ok (.invokevirtual 76, 3) := by decide +kernel
theorem dL_law_685 : decode cL_law 685 = .ok (.aload_n 2, 1) := by decide +kernel
theorem dL_law_686 : decode cL_law 686 = .ok (.aload_n 0, 1) := by decide +kernel
theorem dL_law_687 : decode cL_law 687 = .ok (.iload_n 3, 1) := by decide +kernel
theorem dL_law_688 : decode cL_law 688 = .ok (.iconst 1, 1) := by decide +kernel
theorem dL_law_689 : decode cL_law 689 = .ok (.iadd, 1) := by decide +kernel
theorem dL_law_690 : decode cL_law 690 = .ok (.iaload, 1) := by decide +kernel
theorem dL_law_691 : decode cL_law 691 = .ok (.aload_n 0, 1) := by decide +kernel
theorem dL_law_692 : decode cL_law 692 = .ok (.iload_n 3, 1) := by decide +kernel
theorem dL_law_693 : decode cL_law 693 = .ok (.iconst 2, 1) := by decide +kernel
theorem dL_law_694 : decode cL_law 694 = .ok (.iadd, 1) := by decide +kernel
theorem dL_law_695 : decode cL_law 695 = .ok (.iaload, 1) := by decide +kernel
theorem dL_law_696 : decode cL_law 696 = .ok (.aload_n 0, 1) := by decide +kernel
theorem dL_law_697 : decode cL_law 697 = .ok (.iload_n 3, 1) := by decide +kernel
theorem dL_law_698 : decode cL_law 698 = .ok (.iconst 3, 1) := by decide +kernel
theorem dL_law_699 : decode cL_law 699 = .ok (.iadd, 1) := by decide +kernel
theorem dL_law_700 : decode cL_law 700 = .ok (.iaload, 1) := by decide +kernel
theorem dL_law_701 : decode cL_law 701 = .ok (.invokevirtual 79, 3) := by decide +kernel
theorem dL_law_704 : decode cL_law 704 = .ok (.lcmp, 1) := by decide +kernel
theorem dL_law_705 : decode cL_law 705 = .ok (.ifCond .eq 385, 3) := by decide +kernel
theorem dL_law_708 : decode cL_law 708 = .ok (.iconst 0, 1) := by decide +kernel
theorem dL_law_709 : decode cL_law 709 = .ok (.ireturn, 1) := by decide +kernel
theorem dL_law_710 : decode cL_law 710 = .ok (.aload_n 1, 1) := by decide +kernel
theorem dL_law_711 : decode cL_law 711 = .ok (.aload_n 0, 1) := by decide +kernel
theorem dL_law_712 : decode cL_law 712 = .ok (.iload_n 3, 1) := by decide +kernel
theorem dL_law_713 : decode cL_law 713 = .ok (.iconst 1, 1) := by decide +kernel
theorem dL_law_714 : decode cL_law 714 = .ok (.iadd, 1) := by decide +kernel
theorem dL_law_715 : decode cL_law 715 = .ok (.iaload, 1) := by decide +kernel
theorem dL_law_716 : decode cL_law 716 = .ok (.aload_n 0, 1) := by decide +kernel
theorem dL_law_717 : decode cL_law 717 = .ok (.iload_n 3, 1) := by decide +kernel
theorem dL_law_718 : decode cL_law 718 = .ok (.iconst 2, 1) := by decide +kernel
theorem dL_law_719 : decode cL_law 719 = .ok (.iadd, 1) := by decide +kernel
theorem dL_law_720 : decode cL_law 720 = .ok (.iaload, 1) := by decide +kernel
theorem dL_law_721 : decode cL_law 721 = .ok (.aload_n 0, 1) := by decide +kernel
theorem dL_law_722 : decode cL_law 722 = .ok (.iload_n 3, 1) := by decide +kernel
theorem dL_law_723 : decode cL_law 723 = .ok (.iconst 3, 1) := by decide +kernel
theorem dL_law_724 : decode cL_law 724 = .ok (.iadd, 1) := by decide +kernel
theorem dL_law_725 : decode cL_law 725 = .ok (.iaload, 1) := by decide +kernel
theorem dL_law_726 : decode cL_law 726 = .ok (.aload_n 0, 1) := by decide +kernel
theorem dL_law_727 : decode cL_law 727 = .ok (.iload_n 3, 1) := by decide +kernel
theorem dL_law_728 : decode cL_law 728 = .ok (.iconst 4, 1) := by decide +kernel
theorem dL_law_729 : decode cL_law 729 = .ok (.iadd, 1) := by decide +kernel
theorem dL_law_730 : decode cL_law 730 = .ok (.iaload, 1) := by decide +kernel
theorem dL_law_731 : decode cL_law 731 = .ok (.invokevirtual 80, 3) := by decide +kernel
theorem dL_law_734 : decode cL_law 734 = .ok (.aload_n 2, 1) := by decide +kernel
theorem dL_law_735 : decode cL_law 735 = .ok (.aload_n 0, 1) := by decide +kernel
theorem dL_law_736 : decode cL_law 736 = .ok (.iload_n 3, 1) := by decide +kernel
theorem dL_law_737 : decode cL_law 737 = .ok (.iconst 1, 1) := by decide +kernel
theorem dL_law_738 : decode cL_law 738 = .ok (.iadd, 1) := by decide +kernel
theorem dL_law_739 : decode cL_law 739 = .ok (.iaload, 1) := by decide +kernel
theorem dL_law_740 : decode cL_law 740 = .ok (.aload_n 0, 1) := by decide +kernel
theorem dL_law_741 : decode cL_law 741 = .ok (.iload_n 3, 1) := by decide +kernel
theorem dL_law_742 : decode cL_law 742 = .ok (.iconst 2, 1) := by decide +kernel
theorem dL_law_743 : decode cL_law 743 = .ok (.iadd, 1) := by decide +kernel
theorem dL_law_744 : decode cL_law 744 = .ok (.iaload, 1) := by decide +kernel
theorem dL_law_745 : decode cL_law 745 = .ok (.aload_n 0, 1) := by decide +kernel
theorem dL_law_746 : decode cL_law 746 = .ok (.iload_n 3, 1) := by decide +kernel
theorem dL_law_747 : decode cL_law 747 = .ok (.iconst 3, 1) := by decide +kernel
theorem dL_law_748 : decode cL_law 748 = .ok (.iadd, 1) := by decide +kernel
theorem dL_law_749 : decode cL_law 749 = .ok (.iaload, 1) := by decide +kernel
theorem dL_law_750 : decode cL_law 750 = .ok (.aload_n 0, 1) := by decide +kernel
theorem dL_law_751 : decode cL_law 751 = .ok (.iload_n 3, 1) := by decide +kernel
theorem dL_law_752 : decode cL_law 752 = .ok (.iconst 4, 1) := by decide +kernel
theorem dL_law_753 : decode cL_law 753 = .ok (.iadd, 1) := by decide +kernel
theorem dL_law_754 : decode cL_law 754 = .ok (.iaload, 1) := by decide +kernel
theorem dL_law_755 : decode cL_law 755 = .ok (.invokevirtual 83, 3) := by decide +kernel
theorem dL_law_758 : decode cL_law 758 = .ok (.if_icmp .eq 332, 3) := by decide +kernel
theorem dL_law_761 : decode cL_law 761 = .ok (.iconst 0, 1) := by decide +kernel
theorem dL_law_762 : decode cL_law 762 = .ok (.ireturn, 1) := by decide +kernel
theorem dL_law_763 : decode cL_law 763 = .ok (.aload_n 1, 1) := by decide +kernel
theorem dL_law_764 : decode cL_law 764 = .ok (.aload_n 0, 1) := by decide +kernel
theorem dL_law_765 : decode cL_law 765 = .ok (.iload_n 3, 1) := by decide +kernel
theorem dL_law_766 : decode cL_law 766 = .ok (.iconst 1, 1) := by decide +kernel
theorem dL_law_767 : decode cL_law 767 = .ok (.iadd, 1) := by decide +kernel
theorem dL_law_768 : decode cL_law 768 = .ok (.iaload, 1) := by decide +kernel
theorem dL_law_769 : decode cL_law 769 = .ok (.aload_n 0, 1) := by decide +kernel
theorem dL_law_770 : decode cL_law 770 = .ok (.iload_n 3, 1) := by decide +kernel
theorem dL_law_771 : decode cL_law 771 = .ok (.iconst 2, 1) := by decide +kernel
theorem dL_law_772 : decode cL_law 772 = .ok (.iadd, 1) := by decide +kernel
theorem dL_law_773 : decode cL_law 773 = .ok (.iaload, 1) := by decide +kernel
theorem dL_law_774 : decode cL_law 774 = .ok (.invokevirtual 84, 3) := by decide +kernel
theorem dL_law_777 : decode cL_law 777 = .ok (.aload_n 2, 1) := by decide +kernel
theorem dL_law_778 : decode cL_law 778 = .ok (.aload_n 0, 1) := by decide +kernel
theorem dL_law_779 : decode cL_law 779 = .ok (.iload_n 3, 1) := by decide +kernel
theorem dL_law_780 : decode cL_law 780 = .ok (.iconst 1, 1) := by decide +kernel
theorem dL_law_781 : decode cL_law 781 = .ok (.iadd, 1) := by decide +kernel
theorem dL_law_782 : decode cL_law 782 = .ok (.iaload, 1) := by decide +kernel
theorem dL_law_783 : decode cL_law 783 = .ok (.aload_n 0, 1) := by decide +kernel
theorem dL_law_784 : decode cL_law 784 = .ok (.iload_n 3, 1) := by decide +kernel
theorem dL_law_785 : decode cL_law 785 = .ok (.iconst 2, 1) := by decide +kernel
theorem dL_law_786 : decode cL_law 786 = .ok (.iadd, 1) := by decide +kernel
theorem dL_law_787 : decode cL_law 787 = .ok (.iaload, 1) := by decide +kernel
theorem dL_law_788 : decode cL_law 788 = .ok (.invokevirtual 87, 3) := by decide +kernel
theorem dL_law_791 : decode cL_law 791 = .ok (.lcmp, 1) := by decide +kernel
theorem dL_law_792 : decode cL_law 792 = .ok (.ifCond .eq 298, 3) := by decide +kernel
theorem dL_law_795 : decode cL_law 795 = .ok (.iconst 0, 1) := by decide +kernel
theorem dL_law_796 : decode cL_law 796 = .ok (.ireturn, 1) := by decide +kernel
theorem dL_law_797 : decode cL_law 797 = .ok (.aload_n 1, 1) := by decide +kernel
theorem dL_law_798 : decode cL_law 798 = .ok (.aload_n 0, 1) := by decide +kernel
theorem dL_law_799 : decode cL_law 799 = .ok (.iload_n 3, 1) := by decide +kernel
theorem dL_law_800 : decode cL_law 800 = .ok (.iconst 1, 1) := by decide +kernel
theorem dL_law_801 : decode cL_law 801 = .ok (.iadd, 1) := by decide +kernel
theorem dL_law_802 : decode cL_law 802 = .ok (.iaload, 1) := by decide +kernel
theorem dL_law_803 : decode cL_law 803 = .ok (.invokevirtual 88, 3) := by decide +kernel
theorem dL_law_806 : decode cL_law 806 = .ok (.aload_n 2, 1) := by decide +kernel
theorem dL_law_807 : decode cL_law 807 = .ok (.aload_n 0, 1) := by decide +kernel
theorem dL_law_808 : decode cL_law 808 = .ok (.iload_n 3, 1) := by decide +kernel
theorem dL_law_809 : decode cL_law 809 = .ok (.iconst 1, 1) := by decide +kernel
theorem dL_law_810 : decode cL_law 810 = .ok (.iadd, 1) := by decide +kernel
theorem dL_law_811 : decode cL_law 811 = .ok (.iaload, 1) := by decide +kernel
theorem dL_law_812 : decode cL_law 812 = .ok (.invokevirtual 91, 3) := by decide +kernel
theorem dL_law_815 : decode cL_law 815 = .ok (.if_icmp .eq 275, 3) := by decide +kernel
theorem dL_law_818 : decode cL_law 818 = .ok (.iconst 0, 1) := by decide +kernel
theorem dL_law_819 : decode cL_law 819 = .ok (.ireturn, 1) := by decide +kernel
theorem dL_law_820 : decode cL_law 820 = .ok (.aload_n 1, 1) := by decide +kernel
theorem dL_law_821 : decode cL_law 821 = .ok (.aload_n 0, 1) := by decide +kernel
theorem dL_law_822 : decode cL_law 822 = .ok (.iload_n 3, 1) := by decide +kernel
theorem dL_law_823 : decode cL_law 823 = .ok (.iconst 1, 1) := by decide +kernel
theorem dL_law_824 : decode cL_law 824 = .ok (.iadd, 1) := by decide +kernel
theorem dL_law_825 : decode cL_law 825 = .ok (.iaload, 1) := by decide +kernel
theorem dL_law_826 : decode cL_law 826 = .ok (.aload_n 0, 1) := by decide +kernel
theorem dL_law_827 : decode cL_law 827 = .ok (.iload_n 3, 1) := by decide +kernel
theorem dL_law_828 : decode cL_law 828 = .ok (.iconst 2, 1) := by decide +kernel
theorem dL_law_829 : decode cL_law 829 = .ok (.iadd, 1) := by decide +kernel
theorem dL_law_830 : decode cL_law 830 = .ok (.iaload, 1) := by decide +kernel
theorem dL_law_831 : decode cL_law 831 = .ok (.invokevirtual 92, 3) := by decide +kernel
theorem dL_law_834 : decode cL_law 834 = .ok (.aload_n 2, 1) := by decide +kernel
theorem dL_law_835 : decode cL_law 835 = .ok (.aload_n 0, 1) := by decide +kernel
theorem dL_law_836 : decode cL_law 836 = .ok (.iload_n 3, 1) := by decide +kernel
theorem dL_law_837 : decode cL_law 837 = .ok (.iconst 1, 1) := by decide +kernel
theorem dL_law_838 : decode cL_law 838 = .ok (.iadd, 1) := by decide +kernel
theorem dL_law_839 : decode cL_law 839 = .ok (.iaload, 1) := by decide +kernel
theorem dL_law_840 : decode cL_law 840 = .ok (.aload_n 0, 1) := by decide +kernel
theorem dL_law_841 : decode cL_law 841 = .ok (.iload_n 3, 1) := by decide +kernel
theorem dL_law_842 : decode cL_law 842 = .ok (.iconst 2, 1) := by decide +kernel
theorem dL_law_843 : decode cL_law 843 = .ok (.iadd, 1) := by decide +kernel
theorem dL_law_844 : decode cL_law 844 = .ok (.iaload, 1) := by decide +kernel
theorem dL_law_845 : decode cL_law 845 = .ok (.invokevirtual 96, 3) := by decide +kernel
theorem dL_law_848 : decode cL_law 848 = .ok (.if_icmp .eq 242, 3) := by decide +kernel
theorem dL_law_851 : decode cL_law 851 = .ok (.iconst 0, 1) := by decide +kernel
theorem dL_law_852 : decode cL_law 852 = .ok (.ireturn, 1) := by decide +kernel
theorem dL_law_853 : decode cL_law 853 = .ok (.aload_n 1, 1) := by decide +kernel
theorem dL_law_854 : decode cL_law 854 = .ok (.aload_n 0, 1) := by decide +kernel
theorem dL_law_855 : decode cL_law 855 = .ok (.iload_n 3, 1) := by decide +kernel
theorem dL_law_856 : decode cL_law 856 = .ok (.iconst 1, 1) := by decide +kernel
theorem dL_law_857 : decode cL_law 857 = .ok (.iadd, 1) := by decide +kernel
theorem dL_law_858 : decode cL_law 858 = .ok (.iaload, 1) := by decide +kernel
theorem dL_law_859 : decode cL_law 859 = .ok (.invokevirtual 97, 3) := by decide +kernel
theorem dL_law_862 : decode cL_law 862 = .ok (.aload_n 2, 1) := by decide +kernel
theorem dL_law_863 : decode cL_law 863 = .ok (.aload_n 0, 1) := by decide +kernel
theorem dL_law_864 : decode cL_law 864 = .ok (.iload_n 3, 1) := by decide +kernel
theorem dL_law_865 : decode cL_law 865 = .ok (.iconst 1, 1) := by decide +kernel
theorem dL_law_866 : decode cL_law 866 = .ok (.iadd, 1) := by decide +kernel
theorem dL_law_867 : decode cL_law 867 = .ok (.iaload, 1) := by decide +kernel
theorem dL_law_868 : decode cL_law 868 = .ok (.invokevirtual 100, 3) := by decide +kernel
theorem dL_law_871 : decode cL_law 871 = .ok (.lcmp, 1) := by decide +kernel
theorem dL_law_872 : decode cL_law 872 = .ok (.ifCond .eq 218, 3) := by decide +kernel
theorem dL_law_875 : decode cL_law 875 = .ok (.iconst 0, 1) := by decide +kernel
theorem dL_law_876 : decode cL_law 876 = .ok (.ireturn, 1) := by decide +kernel
theorem dL_law_877 : decode cL_law 877 = .ok (.aload_n 1, 1) := by decide +kernel
theorem dL_law_878 : decode cL_law 878 = .ok (.aload_n 0, 1) := by decide +kernel
theorem dL_law_879 : decode cL_law 879 = .ok (.iload_n 3, 1) := by decide +kernel
theorem dL_law_880 : decode cL_law 880 = .ok (.iconst 1, 1) := by decide +kernel
theorem dL_law_881 : decode cL_law 881 = .ok (.iadd, 1) := by decide +kernel
theorem dL_law_882 : decode cL_law 882 = .ok (.iaload, 1) := by decide +kernel
theorem dL_law_883 : decode cL_law 883 = .ok (.aload_n 0, 1) := by decide +kernel
theorem dL_law_884 : decode cL_law 884 = .ok (.iload_n 3, 1) := by decide +kernel
theorem dL_law_885 : decode cL_law 885 = .ok (.iconst 2, 1) := by decide +kernel
theorem dL_law_886 : decode cL_law 886 = .ok (.iadd, 1) := by decide +kernel
theorem dL_law_887 : decode cL_law 887 = .ok (.iaload, 1) := by decide +kernel
theorem dL_law_888 : decode cL_law 888 = .ok (.aload_n 0, 1) := by decide +kernel
theorem dL_law_889 : decode cL_law 889 = .ok (.iload_n 3, 1) := by decide +kernel
theorem dL_law_890 : decode cL_law 890 = .ok (.iconst 3, 1) := by decide +kernel
theorem dL_law_891 : decode cL_law 891 = .ok (.iadd, 1) := by decide +kernel
theorem dL_law_892 : decode cL_law 892 = .ok (.iaload, 1) := by decide +kernel
theorem dL_law_893 : decode cL_law 893 = .ok (.aload_n 0, 1) := by decide +kernel
theorem dL_law_894 : decode cL_law 894 = .ok (.iload_n 3, 1) := by decide +kernel
theorem dL_law_895 : decode cL_law 895 = .ok (.iconst 4, 1) := by decide +kernel
theorem dL_law_896 : decode cL_law 896 = .ok (.iadd, 1) := by decide +kernel
theorem dL_law_897 : decode cL_law 897 = .ok (.iaload, 1) := by decide +kernel
theorem dL_law_898 : decode cL_law 898 = .ok (.aload_n 0, 1) := by decide +kernel
theorem dL_law_899 : decode cL_law 899 = .ok (.iload_n 3, 1) := by decide +kernel
theorem dL_law_900 : decode cL_law 900 = .ok (.iconst 5, 1) := by decide +kernel
theorem dL_law_901 : decode cL_law 901 = .ok (.iadd, 1) := by decide +kernel
theorem dL_law_902 : decode cL_law 902 = .ok (.iaload, 1) := by decide +kernel
theorem dL_law_903 : decode cL_law 903 = .ok (.invokevirtual 101, 3) := by decide +kernel
theorem dL_law_906 : decode cL_law 906 = .ok (.aload_n 2, 1) := by decide +kernel
theorem dL_law_907 : decode cL_law 907 = .ok (.aload_n 0, 1) := by decide +kernel
theorem dL_law_908 : decode cL_law 908 = .ok (.iload_n 3, 1) := by decide +kernel
theorem dL_law_909 : decode cL_law 909 = .ok (.iconst 1, 1) := by decide +kernel
theorem dL_law_910 : decode cL_law 910 = .ok (.iadd, 1) := by decide +kernel
theorem dL_law_911 : decode cL_law 911 = .ok (.iaload, 1) := by decide +kernel
theorem dL_law_912 : decode cL_law 912 = .ok (.aload_n 0, 1) := by decide +kernel
theorem dL_law_913 : decode cL_law 913 = .ok (.iload_n 3, 1) := by decide +kernel
theorem dL_law_914 : decode cL_law 914 = .ok (.iconst 2, 1) := by decide +kernel
theorem dL_law_915 : decode cL_law 915 = .ok (.iadd, 1) := by decide +kernel
theorem dL_law_916 : decode cL_law 916 = .ok (.iaload, 1) := by decide +kernel
theorem dL_law_917 : decode cL_law 917 = .ok (.aload_n 0, 1) := by decide +kernel
theorem dL_law_918 : decode cL_law 918 = .ok (.iload_n 3, 1) := by decide +kernel
theorem dL_law_919 : decode cL_law 919 = .ok (.iconst 3, 1) := by decide +kernel
theorem dL_law_920 : decode cL_law 920 = .ok (.iadd, 1) := by decide +kernel
theorem dL_law_921 : decode cL_law 921 = .ok (.iaload, 1) := by decide +kernel
theorem dL_law_922 : decode cL_law 922 = .ok (.aload_n 0, 1) := by decide +kernel
theorem dL_law_923 : decode cL_law 923 = .ok (.iload_n 3, 1) := by decide +kernel
theorem dL_law_924 : decode cL_law 924 = .ok (.iconst 4, 1) := by decide +kernel
theorem dL_law_925 : decode cL_law 925 = .ok (.iadd, 1) := by decide +kernel
theorem dL_law_926 : decode cL_law 926 = .ok (.iaload, 1) := by decide +kernel
theorem dL_law_927 : decode cL_law 927 = .ok (.aload_n 0, 1) := by decide +kernel
theorem dL_law_928 : decode cL_law 928 = .ok (.iload_n 3, 1) := by decide +kernel
theorem dL_law_929 : decode cL_law 929 = .ok (.iconst 5, 1) := by decide +kernel
theorem dL_law_930 : decode cL_law 930 = .ok (.iadd, 1) := by decide +kernel
theorem dL_law_931 : decode cL_law 931 = .ok (.iaload, 1) := by decide +kernel
theorem dL_law_932 : decode cL_law 932 = .ok (.invokevirtual 105, 3) := by decide +kernel
theorem dL_law_935 : decode cL_law 935 = .ok (.lcmp, 1) := by decide +kernel
theorem dL_law_936 : decode cL_law 936 = .ok (.ifCond .eq 154, 3) := by decide +kernel
theorem dL_law_939 : decode cL_law 939 = .ok (.iconst 0, 1) := by decide +kernel
theorem dL_law_940 : decode cL_law 940 = .ok (.ireturn, 1) := by decide +kernel
theorem dL_law_941 : decode cL_law 941 = .ok (.aload_n 1, 1) := by decide +kernel
theorem dL_law_942 : decode cL_law 942 = .ok (.aload_n 0, 1) := by decide +kernel
theorem dL_law_943 : decode cL_law 943 = .ok (.iload_n 3, 1) := by decide +kernel
theorem dL_law_944 : decode cL_law 944 = .ok (.iconst 1, 1) := by decide +kernel
theorem dL_law_945 : decode cL_law 945 = .ok (.iadd, 1) := by decide +kernel
theorem dL_law_946 : decode cL_law 946 = .ok (.iaload, 1) := by decide +kernel
theorem dL_law_947 : decode cL_law 947 = .ok (.aload_n 0, 1) := by decide +kernel
theorem dL_law_948 : decode cL_law 948 = .ok (.iload_n 3, 1) := by decide +kernel
theorem dL_law_949 : decode cL_law 949 = .ok (.iconst 2, 1) := by decide +kernel
theorem dL_law_950 : decode cL_law 950 = .ok (.iadd, 1) := by decide +kernel
theorem dL_law_951 : decode cL_law 951 = .ok (.iaload, 1) := by decide +kernel
theorem dL_law_952 : decode cL_law 952 = .ok (.aload_n 0, 1) := by decide +kernel
theorem dL_law_953 : decode cL_law 953 = .ok (.iload_n 3, 1) := by decide +kernel
theorem dL_law_954 : decode cL_law 954 = .ok (.iconst 3, 1) := by decide +kernel
theorem dL_law_955 : decode cL_law 955 = .ok (.iadd, 1) := by decide +kernel
theorem dL_law_956 : decode cL_law 956 = .ok (.iaload, 1) := by decide +kernel
theorem dL_law_957 : decode cL_law 957 = .ok (.aload_n 0, 1) := by decide +kernel
theorem dL_law_958 : decode cL_law 958 = .ok (.iload_n 3, 1) := by decide +kernel
theorem dL_law_959 : decode cL_law 959 = .ok (.iconst 4, 1) := by decide +kernel
theorem dL_law_960 : decode cL_law 960 = .ok (.iadd, 1) := by decide +kernel
theorem dL_law_961 : decode cL_law 961 = .ok (.iaload, 1) := by decide +kernel
theorem dL_law_962 : decode cL_law 962 = .ok (.invokevirtual 106, 3) := by decide +kernel
theorem dL_law_965 : decode cL_law 965 = .ok (.aload_n 2, 1) := by decide +kernel
theorem dL_law_966 : decode cL_law 966 = .ok (.aload_n 0, 1) := by decide +kernel
theorem dL_law_967 : decode cL_law 967 = .ok (.iload_n 3, 1) := by decide +kernel
theorem dL_law_968 : decode cL_law 968 = .ok (.iconst 1, 1) := by decide +kernel
theorem dL_law_969 : decode cL_law 969 = .ok (.iadd, 1) := by decide +kernel
theorem dL_law_970 : decode cL_law 970 = .ok (.iaload, 1) := by decide +kernel
theorem dL_law_971 : decode cL_law 971 = .ok (.aload_n 0, 1) := by decide +kernel
theorem dL_law_972 : decode cL_law 972 = .ok (.iload_n 3, 1) := by decide +kernel
theorem dL_law_973 : decode cL_law 973 = .ok (.iconst 2, 1) := by decide +kernel
theorem dL_law_974 : decode cL_law 974 = .ok (.iadd, 1) := by decide +kernel
theorem dL_law_975 : decode cL_law 975 = .ok (.iaload, 1) := by decide +kernel
theorem dL_law_976 : decode cL_law 976 = .ok (.aload_n 0, 1) := by decide +kernel
theorem dL_law_977 : decode cL_law 977 = .ok (.iload_n 3, 1) := by decide +kernel
theorem dL_law_978 : decode cL_law 978 = .ok (.iconst 3, 1) := by decide +kernel
theorem dL_law_979 : decode cL_law 979 = .ok (.iadd, 1) := by decide +kernel
theorem dL_law_980 : decode cL_law 980 = .ok (.iaload, 1) := by decide +kernel
theorem dL_law_981 : decode cL_law 981 = .ok (.aload_n 0, 1) := by decide +kernel
theorem dL_law_982 : decode cL_law 982 = .ok (.iload_n 3, 1) := by decide +kernel
theorem dL_law_983 : decode cL_law 983 = .ok (.iconst 4, 1) := by decide +kernel
theorem dL_law_984 : decode cL_law 984 = .ok (.iadd, 1) := by decide +kernel
theorem dL_law_985 : decode cL_law 985 = .ok (.iaload, 1) := by decide +kernel
theorem dL_law_986 : decode cL_law 986 = .ok (.invokevirtual 109, 3) := by decide +kernel
theorem dL_law_989 : decode cL_law 989 = .ok (.if_icmp .eq 101, 3) := by decide +kernel
theorem dL_law_992 : decode cL_law 992 = .ok (.iconst 0, 1) := by decide +kernel
theorem dL_law_993 : decode cL_law 993 = .ok (.ireturn, 1) := by decide +kernel
theorem dL_law_994 : decode cL_law 994 = .ok (.aload_n 1, 1) := by decide +kernel
theorem dL_law_995 : decode cL_law 995 = .ok (.aload_n 0, 1) := by decide +kernel
theorem dL_law_996 : decode cL_law 996 = .ok (.iload_n 3, 1) := by decide +kernel
theorem dL_law_997 : decode cL_law 997 = .ok (.iconst 1, 1) := by decide +kernel
theorem dL_law_998 : decode cL_law 998 = .ok (.iadd, 1) := by decide +kernel
theorem dL_law_999 : decode cL_law 999 = .ok (.iaload, 1) := by decide +kernel
theorem dL_law_1000 : decode cL_law 1000 = .ok (.aload_n 0, 1) := by decide +kernel
theorem dL_law_1001 : decode cL_law 1001 = .ok (.iload_n 3, 1) := by decide +kernel
theorem dL_law_1002 : decode cL_law 1002 = .ok (.iconst 2, 1) := by decide +kernel
theorem dL_law_1003 : decode cL_law 1003 = .ok (.iadd, 1) := by decide +kernel
theorem dL_law_1004 : decode cL_law 1004 = .ok (.iaload, 1) := by decide +kernel
theorem dL_law_1005 : decode cL_law 1005 = .ok (.aload_n 0, 1) := by decide +kernel
theorem dL_law_1006 : decode cL_law 1006 = .ok (.iload_n 3, 1) := by decide +kernel
theorem dL_law_1007 : decode cL_law 1007 = .ok (.iconst 3, 1) := by decide +kernel
theorem dL_law_1008 : decode cL_law 1008 = .ok (.iadd, 1) := by decide +kernel
theorem dL_law_1009 : decode cL_law 1009 = .ok (.iaload, 1) := by decide +kernel
theorem dL_law_1010 : decode cL_law 1010 = .ok (.aload_n 0, 1) := by decide +kernel
theorem dL_law_1011 : decode cL_law 1011 = .ok (.iload_n 3, 1) := by decide +kernel
theorem dL_law_1012 : decode cL_law 1012 = .ok (.iconst 4, 1) := by decide +kernel
theorem dL_law_1013 : decode cL_law 1013 = .ok (.iadd, 1) := by decide +kernel
theorem dL_law_1014 : decode cL_law 1014 = .ok (.iaload, 1) := by decide +kernel
theorem dL_law_1015 : decode cL_law 1015 = .ok (.invokevirtual 110, 3) := by decide +kernel
theorem dL_law_1018 : decode cL_law 1018 = .ok (.aload_n 2, 1) := by decide +kernel
theorem dL_law_1019 : decode cL_law 1019 = .ok (.aload_n 0, 1) := by decide +kernel
theorem dL_law_1020 : decode cL_law 1020 = .ok (.iload_n 3, 1) := by decide +kernel
theorem dL_law_1021 : decode cL_law 1021 = .ok (.iconst 1, 1) := by decide +kernel
theorem dL_law_1022 : decode cL_law 1022 = .ok (.iadd, 1) := by decide +kernel
theorem dL_law_1023 : decode cL_law 1023 = .ok (.iaload, 1) := by decide +kernel
theorem dL_law_1024 : decode cL_law 1024 = .ok (.aload_n 0, 1) := by decide +kernel
theorem dL_law_1025 : decode cL_law 1025 = .ok (.iload_n 3, 1) := by decide +kernel
theorem dL_law_1026 : decode cL_law 1026 = .ok (.iconst 2, 1) := by decide +kernel
theorem dL_law_1027 : decode cL_law 1027 = .ok (.iadd, 1) := by decide +kernel
theorem dL_law_1028 : decode cL_law 1028 = .ok (.iaload, 1) := by decide +kernel
theorem dL_law_1029 : decode cL_law 1029 = .ok (.aload_n 0, 1) := by decide +kernel
theorem dL_law_1030 : decode cL_law 1030 = .ok (.iload_n 3, 1) := by decide +kernel
theorem dL_law_1031 : decode cL_law 1031 = .ok (.iconst 3, 1) := by decide +kernel
theorem dL_law_1032 : decode cL_law 1032 = .ok (.iadd, 1) := by decide +kernel
theorem dL_law_1033 : decode cL_law 1033 = .ok (.iaload, 1) := by decide +kernel
theorem dL_law_1034 : decode cL_law 1034 = .ok (.aload_n 0, 1) := by decide +kernel
theorem dL_law_1035 : decode cL_law 1035 = .ok (.iload_n 3, 1) := by decide +kernel
theorem dL_law_1036 : decode cL_law 1036 = .ok (.iconst 4, 1) := by decide +kernel
theorem dL_law_1037 : decode cL_law 1037 = .ok (.iadd, 1) := by decide +kernel
theorem dL_law_1038 : decode cL_law 1038 = .ok (.iaload, 1) := by decide +kernel
theorem dL_law_1039 : decode cL_law 1039 = .ok (.invokevirtual 113, 3) := by decide +kernel
theorem dL_law_1042 : decode cL_law 1042 = .ok (.if_icmp .eq 48, 3) := by decide +kernel
theorem dL_law_1045 : decode cL_law 1045 = .ok (.iconst 0, 1) := by decide +kernel
theorem dL_law_1046 : decode cL_law 1046 = .ok (.ireturn, 1) := by decide +kernel
theorem dL_law_1047 : decode cL_law 1047 = .ok (.aload_n 1, 1) := by decide +kernel
theorem dL_law_1048 : decode cL_law 1048 = .ok (.aload_n 0, 1) := by decide +kernel
theorem dL_law_1049 : decode cL_law 1049 = .ok (.iload_n 3, 1) := by decide +kernel
theorem dL_law_1050 : decode cL_law 1050 = .ok (.iconst 1, 1) := by decide +kernel
theorem dL_law_1051 : decode cL_law 1051 = .ok (.iadd, 1) := by decide +kernel
theorem dL_law_1052 : decode cL_law 1052 = .ok (.iaload, 1) := by decide +kernel
theorem dL_law_1053 : decode cL_law 1053 = .ok (.aload_n 0, 1) := by decide +kernel
theorem dL_law_1054 : decode cL_law 1054 = .ok (.iload_n 3, 1) := by decide +kernel
theorem dL_law_1055 : decode cL_law 1055 = .ok (.iconst 2, 1) := by decide +kernel
theorem dL_law_1056 : decode cL_law 1056 = .ok (.iadd, 1) := by decide +kernel
theorem dL_law_1057 : decode cL_law 1057 = .ok (.iaload, 1) := by decide +kernel
theorem dL_law_1058 : decode cL_law 1058 = .ok (.aload_n 0, 1) := by decide +kernel
theorem dL_law_1059 : decode cL_law 1059 = .ok (.iload_n 3, 1) := by decide +kernel
theorem dL_law_1060 : decode cL_law 1060 = .ok (.iconst 3, 1) := by decide +kernel
theorem dL_law_1061 : decode cL_law 1061 = .ok (.iadd, 1) := by decide +kernel
theorem dL_law_1062 : decode cL_law 1062 = .ok (.iaload, 1) := by decide +kernel
theorem dL_law_1063 : decode cL_law 1063 = .ok (.invokevirtual 114, 3) := by decide +kernel
theorem dL_law_1066 : decode cL_law 1066 = .ok (.aload_n 2, 1) := by decide +kernel
theorem dL_law_1067 : decode cL_law 1067 = .ok (.aload_n 0, 1) := by decide +kernel
theorem dL_law_1068 : decode cL_law 1068 = .ok (.iload_n 3, 1) := by decide +kernel
theorem dL_law_1069 : decode cL_law 1069 = .ok (.iconst 1, 1) := by decide +kernel
theorem dL_law_1070 : decode cL_law 1070 = .ok (.iadd, 1) := by decide +kernel
theorem dL_law_1071 : decode cL_law 1071 = .ok (.iaload, 1) := by decide +kernel
theorem dL_law_1072 : decode cL_law 1072 = .ok (.aload_n 0, 1) := by decide +kernel
theorem dL_law_1073 : decode cL_law 1073 = .ok (.iload_n 3, 1) := by decide +kernel
theorem dL_law_1074 : decode cL_law 1074 = .ok (.iconst 2, 1) := by decide +kernel
theorem dL_law_1075 : decode cL_law 1075 = .ok (.iadd, 1) := by decide +kernel
theorem dL_law_1076 : decode cL_law 1076 = .ok (.iaload, 1) := by decide +kernel
theorem dL_law_1077 : decode cL_law 1077 = .ok (.aload_n 0, 1) := by decide +kernel
theorem dL_law_1078 : decode cL_law 1078 = .ok (.iload_n 3, 1) := by decide +kernel
theorem dL_law_1079 : decode cL_law 1079 = .ok (.iconst 3, 1) := by decide +kernel
theorem dL_law_1080 : decode cL_law 1080 = .ok (.iadd, 1) := by decide +kernel
theorem dL_law_1081 : decode cL_law 1081 = .ok (.iaload, 1) := by decide +kernel
theorem dL_law_1082 : decode cL_law 1082 = .ok (.invokevirtual 117, 3) := by decide +kernel
theorem dL_law_1085 : decode cL_law 1085 = .ok (.if_icmp .eq 5, 3) := by decide +kernel
theorem dL_law_1088 : decode cL_law 1088 = .ok (.iconst 0, 1) := by decide +kernel
theorem dL_law_1089 : decode cL_law 1089 = .ok (.ireturn, 1) := by decide +kernel
theorem dL_law_1090 : decode cL_law 1090 = .ok (.iinc 3 6, 3) := by decide +kernel
theorem dL_law_1093 : decode cL_law 1093 = .ok (.goto (-1075), 3) := by decide +kernel
theorem dL_law_1096 : decode cL_law 1096 = .ok (.iconst 1, 1) := by decide +kernel
theorem dL_law_1097 : decode cL_law 1097 = .ok (.ireturn, 1) := by decide +kernel
abbrev vwCl : List vw_C := [(RX0, TX0, 3), (RX1, TX1, 8), (RX2, TX2, 13)]
end
section
/-! Partial functions that mirror the bytecode (none: the machine would throw, or a loop outruns its count), and the steps by which a walk reads them. -/
def ov {α β : Type} (e : α) (k : α → Option β) : Option β := k e
def bin (i : Int32) (n : Nat) : Bool := decide (0 ≤ i ∧ i.toNatClampNeg < n)
theorem bin_in {i : Int32} {n : Nat} : bin i n = true ↔ vp_in i n := by
  unfold bin vp_in
  rw [decide_eq_true_iff]
  constructor
  · intro h q
    rcases q with q | q
    · exact absurd h.1 (Int32.not_le.mpr q)
    · omega
  · intro h
    refine ⟨?_, ?_⟩
    · exact Int32.not_lt.mp (fun q => h (Or.inl q))
    · exact Nat.lt_of_not_le (fun q => h (Or.inr q))
theorem og_ov {α β : Type} {e v : α} {k : α → Option β} {r : β} (h : ov e k = some r) (hv : v = e) : k v = some r := by subst hv; exact h
theorem og_in {β : Type} {i : Int32} {n : Nat} {a : Option β} {r : β} (h : (if bin i n = true then a else none) = some r) : vp_in i n ∧ a = some r := by
  by_cases c : bin i n = true
  · rw [if_pos c] at h; exact ⟨bin_in.mp c, h⟩
  · rw [if_neg c] at h; cases h
theorem og_c {β : Type} {c : Prop} [Decidable c] {a : Option β} {r : β} (h : (if c then a else none) = some r) : c ∧ a = some r := by
  by_cases q : c
  · rw [if_pos q] at h; exact ⟨q, h⟩
  · rw [if_neg q] at h; cases h
theorem og_nz {β : Type} {c : Prop} [Decidable c] {a : Option β} {r : β} (h : (if c then none else a) = some r) : ¬ c ∧ a = some r := by
  by_cases q : c
  · rw [if_pos q] at h; cases h
  · rw [if_neg q] at h; exact ⟨q, h⟩
theorem og_bind {α β : Type} {a : Option α} {k : α → Option β} {r : β} (h : a.bind k = some r) : ∃ v, a = some v ∧ k v = some r := by
  cases a with
  | none => cases h
  | some v => exact ⟨v, rfl, h⟩
def ret2 {R E β : Type} (o : R ⊕ E) (fr : R → β) (fe : E → β) : β := match o with
  | .inl r => fr r
  | .inr x => fe x
/-- a loop: at most n rounds of 'step' (.inl: go on, .inr: behind it) -/
def lpf {V O : Type} (step : V → Option (V ⊕ O)) : Nat → V → Option O
  | 0, _ => none
  | n + 1, v => (step v).bind (fun x => ret2 x (fun v' => lpf step n v') (fun o => some o))
theorem lpf_P {V O : Type} {step : V → Option (V ⊕ O)} {P : V → Prop} {X : O → Prop}
    (hs : ∀ v x, step v = some x → (∀ v', x = .inl v' → P v') → (∀ o, x = .inr o → X o) → P v) :
    ∀ (n : Nat) (v : V) (o : O), lpf step n v = some o → X o → P v := by
  intro n
  induction n with
  | zero => intro v o h; cases h
  | succ n ih =>
    intro v o h hX
    obtain ⟨x, hx, h⟩ := og_bind (show (step v).bind (fun x => ret2 x (fun v' => lpf step n v') (fun o => some o)) = some o from h)
    refine hs v x hx (fun v' e => ?_) (fun o' e => ?_)
    · subst e; exact ih v' o h hX
    · subst e; cases Option.some.inj (show some o' = some o from h); exact hX
def mabs (x : Int32) : Int32 := if 0 ≤ x then x else 0 - x
def mabsL (x : Int64) : Int64 := if 0 < x then x else -x
def mmax (x y : Int32) : Int32 := if x < y then y else x
def mmin (x y : Int32) : Int32 := if y < x then y else x
/-! answers of methods that write nothing, and of those that write -/
def qS (v : Value) : Array Value → State → Outcome → State → Prop := fun _ st o t => o = .returned (some v) ∧ t.heap = st.heap
def qW (v : Option Value) (A : Nat → Prop) (F : Heap → Prop) : Array Value → State → Outcome → State → Prop := fun _ st o t => o = .returned v ∧ F t.heap ∧ va_F A st t
section BaseW
variable {p : Program} {l : Launch} {e : Env} {R : Room} {s : State} {m : MethodId} {args : Array Value} {below : List Frame} {meth : Method} {c : Code} {H : Heap} {locs : List Loc} {cells slots : Nat} {Q : State → Prop}
variable {pc : Nat} {ls : Array Slot} {rest st0 : List Value} {a : Array Value}
theorem cp_s {v : Value} (hr : va_Run p l e R s m args below meth c H locs cells slots 0 0 (F0 m pc ls st0) rest (qS v a) (fun _ => False))
    (kk : W p l e R s m args below meth c H locs cells slots Q (F0 m (pc + 3) ls (v :: rest))) : W p l e R s m args below meth c H locs cells slots Q (F0 m pc ls st0) := by
  intro T hT X
  obtain ⟨v', st₀, t, T', L, h0, X', hL, e1, e2, ⟨hv, hh⟩, st⟩ := hr T hT X
  cases hv
  obtain ⟨t2, a1, b1⟩ := kk T' (by rw [e1, hh, h0]) (Stand.forget X' (fun q h => (hL q h).elim))
  exact ⟨t2, st t2 a1, b1⟩
theorem cp_w {v : Value} {A0 A1 : Nat → Prop} {F : Heap → Prop} {H0 : Heap} (hr : va_Run p l e R s m args below meth c H locs cells slots 0 0 (F0 m pc ls st0) rest (qW (some v) A1 F a) A1) (hS : va_S A0 H0 H locs) (hA : ∀ q, A1 q → A0 q)
    (kk : ∀ (H1 : Heap) (locs1 : List Loc), F H1 → H.size ≤ H1.size → (∀ q : Nat, q < H.size → ¬ A1 q → H1[q]? = H[q]?) → va_S A0 H0 H1 locs1 → W p l e R s m args below meth c H1 locs1 cells slots Q (F0 m (pc + 3) ls (v :: rest))) : W p l e R s m args below meth c H locs cells slots Q (F0 m pc ls st0) := by
  intro T hT X
  obtain ⟨v', st₀, t, T', L, h0, X', hL, e1, e2, ⟨hv, hF, hz, hk⟩, st⟩ := hr T hT X
  cases hv
  rw [h0] at hz hk
  obtain ⟨t2, a1, b1⟩ := kk T'.heap (locs ++ L) (by rw [e1]; exact hF) (by rw [e1]; exact hz) (fun q h1 h2 => by rw [e1]; exact hk q h1 h2)
    ⟨Nat.le_trans hS.1 (by rw [e1]; exact hz), fun q h1 h2 => by rw [e1, hk q (Nat.lt_of_lt_of_le h1 hS.1) (fun z => h2 (hA q z))]; exact hS.2.1 q h1 h2, fun q hq => by
      rcases List.mem_append.mp hq with h | h
      · exact hS.2.2 q h
      · exact hA _ (hL q h)⟩ T' rfl X'
  exact ⟨t2, st t2 a1, b1⟩
theorem cp_v {A0 A1 : Nat → Prop} {F : Heap → Prop} {H0 : Heap} (hr : va_Run p l e R s m args below meth c H locs cells slots 0 0 (F0 m pc ls st0) rest (qW none A1 F a) A1) (hS : va_S A0 H0 H locs) (hA : ∀ q, A1 q → A0 q)
    (kk : ∀ (H1 : Heap) (locs1 : List Loc), F H1 → H.size ≤ H1.size → (∀ q : Nat, q < H.size → ¬ A1 q → H1[q]? = H[q]?) → va_S A0 H0 H1 locs1 → W p l e R s m args below meth c H1 locs1 cells slots Q (F0 m (pc + 3) ls rest)) : W p l e R s m args below meth c H locs cells slots Q (F0 m pc ls st0) := by
  intro T hT X
  obtain ⟨v', st₀, t, T', L, h0, X', hL, e1, e2, ⟨hv, hF, hz, hk⟩, st⟩ := hr T hT X
  cases hv
  rw [h0] at hz hk
  obtain ⟨t2, a1, b1⟩ := kk T'.heap (locs ++ L) (by rw [e1]; exact hF) (by rw [e1]; exact hz) (fun q h1 h2 => by rw [e1]; exact hk q h1 h2)
    ⟨Nat.le_trans hS.1 (by rw [e1]; exact hz), fun q h1 h2 => by rw [e1, hk q (Nat.lt_of_lt_of_le h1 hS.1) (fun z => h2 (hA q z))]; exact hS.2.1 q h1 h2, fun q hq => by
      rcases List.mem_append.mp hq with h | h
      · exact hS.2.2 q h
      · exact hA _ (hL q h)⟩ T' rfl X'
  exact ⟨t2, st t2 a1, b1⟩
/-- where ways meet: the rest once, for all locals that fit -/
theorem wj {PC : Nat} {ST st : List Value} (P : Array Slot → Prop)
    (a : ∀ ls', P ls' → W p l e R s m args below meth c H locs cells slots Q (F0 m PC ls' ST))
    (b : (∀ ls', P ls' → W p l e R s m args below meth c H locs cells slots Q (F0 m PC ls' ST)) → W p l e R s m args below meth c H locs cells slots Q (F0 m pc ls st)) : W p l e R s m args below meth c H locs cells slots Q (F0 m pc ls st) := b a
theorem wjH {PC : Nat} {ST st : List Value} (P : Array Slot → Heap → List Loc → Prop)
    (a : ∀ ls' H' locs', P ls' H' locs' → W p l e R s m args below meth c H' locs' cells slots Q (F0 m PC ls' ST))
    (b : (∀ ls' H' locs', P ls' H' locs' → W p l e R s m args below meth c H' locs' cells slots Q (F0 m PC ls' ST)) → W p l e R s m args below meth c H locs cells slots Q (F0 m pc ls st)) : W p l e R s m args below meth c H locs cells slots Q (F0 m pc ls st) := b a
/-- a loop without a return in it -/
theorem wl {V O : Type} {step : V → Option (V ⊕ O)} {N : Nat} {v : V} {o : O} (hN : lpf step N v = some o) (PC XC : Nat) (L : V → Array Slot → Prop) (LX : O → Array Slot → Prop)
    (body : ∀ (v : V) (x : V ⊕ O), step v = some x → (∀ v' ls, x = .inl v' → L v' ls → W p l e R s m args below meth c H locs cells slots Q (F0 m PC ls [])) → (∀ o ls, x = .inr o → LX o ls → W p l e R s m args below meth c H locs cells slots Q (F0 m XC ls [])) → ∀ ls, L v ls → W p l e R s m args below meth c H locs cells slots Q (F0 m PC ls []))
    (exit : ∀ ls, LX o ls → W p l e R s m args below meth c H locs cells slots Q (F0 m XC ls []))
    (hl : L v ls) : W p l e R s m args below meth c H locs cells slots Q (F0 m PC ls []) :=
  lpf_P (P := fun v => ∀ ls, L v ls → W p l e R s m args below meth c H locs cells slots Q (F0 m PC ls [])) (X := fun o => ∀ ls, LX o ls → W p l e R s m args below meth c H locs cells slots Q (F0 m XC ls []))
    (fun v x hx ki kx ls hl => body v x hx (fun v' ls e hl => ki v' e ls hl) (fun o ls e hl => kx o e ls hl) ls hl) N v o hN exit ls hl
/-- a loop with a return in it -/
theorem wlr {V T O : Type} {step : V → Option (V ⊕ (T ⊕ O))} {N : Nat} {v : V} {o : T ⊕ O} {r0 : T} (hN : lpf step N v = some o) (PC XC : Nat) (L : V → Array Slot → Prop) (LX : O → Array Slot → Prop)
    (body : ∀ (v : V) (x : V ⊕ (T ⊕ O)), step v = some x → (∀ v' ls, x = .inl v' → L v' ls → W p l e R s m args below meth c H locs cells slots Q (F0 m PC ls [])) → (∀ o ls, x = .inr (.inr o) → LX o ls → W p l e R s m args below meth c H locs cells slots Q (F0 m XC ls [])) → (∀ r, x = .inr (.inl r) → r = r0) → ∀ ls, L v ls → W p l e R s m args below meth c H locs cells slots Q (F0 m PC ls []))
    (hr0 : ∀ r, o = .inl r → r = r0)
    (exit : ∀ o' ls, o = .inr o' → LX o' ls → W p l e R s m args below meth c H locs cells slots Q (F0 m XC ls []))
    (hl : L v ls) : W p l e R s m args below meth c H locs cells slots Q (F0 m PC ls []) :=
  lpf_P (P := fun v => ∀ ls, L v ls → W p l e R s m args below meth c H locs cells slots Q (F0 m PC ls [])) (X := fun o => (∀ r, o = .inl r → r = r0) ∧ ∀ o' ls, o = .inr o' → LX o' ls → W p l e R s m args below meth c H locs cells slots Q (F0 m XC ls []))
    (fun v x hx ki kx ls hl => body v x hx (fun v' ls e hl => ki v' e ls hl) (fun o ls e hl => (kx (.inr o) e).2 o ls rfl hl) (fun r e => (kx (.inl r) e).1 r rfl) ls hl) N v o hN ⟨hr0, exit⟩ ls hl
/-- a loop that writes -/
theorem wlH {V O : Type} {step : V → Option (V ⊕ O)} {N : Nat} {v : V} {o : O} (hN : lpf step N v = some o) (PC XC : Nat) (L : V → Array Slot → Heap → List Loc → Prop) (LX : O → Array Slot → Heap → List Loc → Prop)
    (body : ∀ (v : V) (x : V ⊕ O), step v = some x → (∀ v' ls H locs, x = .inl v' → L v' ls H locs → W p l e R s m args below meth c H locs cells slots Q (F0 m PC ls [])) → (∀ o ls H locs, x = .inr o → LX o ls H locs → W p l e R s m args below meth c H locs cells slots Q (F0 m XC ls [])) → ∀ ls H locs, L v ls H locs → W p l e R s m args below meth c H locs cells slots Q (F0 m PC ls []))
    (exit : ∀ ls H locs, LX o ls H locs → W p l e R s m args below meth c H locs cells slots Q (F0 m XC ls []))
    (hl : L v ls H locs) : W p l e R s m args below meth c H locs cells slots Q (F0 m PC ls []) :=
  lpf_P (P := fun v => ∀ ls H locs, L v ls H locs → W p l e R s m args below meth c H locs cells slots Q (F0 m PC ls [])) (X := fun o => ∀ ls H locs, LX o ls H locs → W p l e R s m args below meth c H locs cells slots Q (F0 m XC ls []))
    (fun v x hx ki kx ls H locs hl => body v x hx (fun v' ls H locs e hl => ki v' e ls H locs hl) (fun o ls H locs e hl => kx o e ls H locs hl) ls H locs hl) N v o hN exit ls H locs hl
end BaseW
/-! worlds: a figure; two figures; the object and its row of figures; with one figure, with two; the model -/
abbrev tyl (cI cF : ClassId) : List (ClassId × FieldType) := [(cI, .int), (cF, .object "DrawnAreas$Figure")]
abbrev nst : Cond := .fieldLinkNest "DrawnAreas" 46 "DrawnAreas$Figure" "size" "I" "DrawnAreas"
abbrev figW (cI : ClassId) (q qx qy : Nat) (xs ys : Nat → Int32) (n : Int32) : va_W := [(q, .inr (0, [.ref qx, .ref qy, .int n])), (qx, .inl (cI, 24, .inl xs)), (qy, .inl (cI, 24, .inl ys))]
abbrev fig2W (cI : ClassId) (q qx qy : Nat) (xs ys : Nat → Int32) (n : Int32) (w wx wy : Nat) (us vs : Nat → Int32) (k : Int32) : va_W := [(q, .inr (0, [.ref qx, .ref qy, .int n])), (qx, .inl (cI, 24, .inl xs)), (qy, .inl (cI, 24, .inl ys)), (w, .inr (0, [.ref wx, .ref wy, .int k])), (wx, .inl (cI, 24, .inl us)), (wy, .inl (cI, 24, .inl vs))]
abbrev drW (cF : ClassId) (o qf : Nat) (g : Nat → Nat) (ro rn tn fx fy ar wh : Int32) : va_W := [(o, .inr (1, [.ref qf, .int ro, .int rn, .int tn, .int fx, .int fy, .int ar, .int wh])), (qf, .inl (cF, 6, .inr (.inr (.inr (.inr (fun k => some (g k)))))))]
abbrev drfW (cI cF : ClassId) (o qf : Nat) (g : Nat → Nat) (ro rn tn fx fy ar wh : Int32) (q qx qy : Nat) (xs ys : Nat → Int32) (n : Int32) : va_W := [(o, .inr (1, [.ref qf, .int ro, .int rn, .int tn, .int fx, .int fy, .int ar, .int wh])), (qf, .inl (cF, 6, .inr (.inr (.inr (.inr (fun k => some (g k))))))), (q, .inr (0, [.ref qx, .ref qy, .int n])), (qx, .inl (cI, 24, .inl xs)), (qy, .inl (cI, 24, .inl ys))]
abbrev drffW (cI cF : ClassId) (o qf : Nat) (g : Nat → Nat) (ro rn tn fx fy ar wh : Int32) (q qx qy : Nat) (xs ys : Nat → Int32) (n : Int32) (w wx wy : Nat) (us vs : Nat → Int32) (k : Int32) : va_W := [(o, .inr (1, [.ref qf, .int ro, .int rn, .int tn, .int fx, .int fy, .int ar, .int wh])), (qf, .inl (cF, 6, .inr (.inr (.inr (.inr (fun k => some (g k))))))), (q, .inr (0, [.ref qx, .ref qy, .int n])), (qx, .inl (cI, 24, .inl xs)), (qy, .inl (cI, 24, .inl ys)), (w, .inr (0, [.ref wx, .ref wy, .int k])), (wx, .inl (cI, 24, .inl us)), (wy, .inl (cI, 24, .inl vs))]
abbrev moW (cI : ClassId) (m0 m1 m2 m3 m4 m5 : Nat) (pt px py : Nat → Int32) (ro an te fx fy ar be ma : Int32) (nx ny : Nat → Int32) : va_W := [(m0, .inr (2, [.ref m1, .ref m2, .ref m3, .int ro, .int an, .int te, .int fx, .int fy, .int ar, .int be, .int ma, .ref m4, .ref m5])), (m1, .inl (cI, 6, .inl pt)), (m2, .inl (cI, 144, .inl px)), (m3, .inl (cI, 144, .inl py)), (m4, .inl (cI, 48, .inl nx)), (m5, .inl (cI, 48, .inl ny))]
/-- what a method may take as given: the classes, and the cells ws -/
def wK (D : va_G) (cI cF : ClassId) (ws : va_W) (U : State) : Prop := va_K D vwCl (tyl cI cF) U ∧ va_P D vwCl ws U.heap
/-- the same, for a method that writes: the cells are apart -/
def wD (D : va_G) (cI cF : ClassId) (ws : va_W) (U : State) : Prop := va_K D vwCl (tyl cI cF) U ∧ va_P D vwCl ws U.heap ∧ va_D (fun _ => True) ws
/-- the whole object: itself, its row, its six figures -/
def drP (D : va_G) (cI cF : ClassId) (o qf : Nat) (g gx gy : Nat → Nat) (ro rn tn fx fy ar wh : Int32) (X Y : Nat → Nat → Int32) (N : Nat → Int32) (H : Heap) : Prop :=
  va_P D vwCl (drW cF o qf g ro rn tn fx fy ar wh) H ∧ ∀ k, k < 6 → va_P D vwCl (figW cI (g k) (gx k) (gy k) (X k) (Y k) (N k)) H
def wO (D : va_G) (cI cF : ClassId) (o qf : Nat) (g gx gy : Nat → Nat) (ro rn tn fx fy ar wh : Int32) (X Y : Nat → Nat → Int32) (N : Nat → Int32) (U : State) : Prop :=
  va_K D vwCl (tyl cI cF) U ∧ va_Nw nst U ∧ drP D cI cF o qf g gx gy ro rn tn fx fy ar wh X Y N U.heap
section BasePre
variable {s : State} {H : Heap} {D : va_G} {cI cF : ClassId} {As : List Value} {ws : va_W}
theorem pre_v {a q0 ci : Nat} {C : vw_C} {fs : List Value} (hK : va_K D vwCl (tyl cI cF) s) (hP : va_P D vwCl ws H) (hc : vwCl[ci]? = some C) (he : ws[q0]? = some (a, .inr (ci, fs))) : PreV s H C.1 a (va_Pc (.ref a :: As) (fun U => wK D cI cF ws U)) As :=
  ⟨fun a U g mk q => ⟨q.1, va_K.moved (u := U) (U := U.calling g mk a) (Vm.Alike.refl U.vm) q.2.1, q.2.2⟩, va_recv hK hP hc he, fun U hU hW => ⟨rfl, va_K.moved hW.alike hK, by rw [hU]; exact hP⟩⟩
theorem pre_d {a q0 ci : Nat} {C : vw_C} {fs : List Value} {A : Nat → Prop} (hK : va_K D vwCl (tyl cI cF) s) (hP : va_P D vwCl ws H) (hD : va_D A ws) (hc : vwCl[ci]? = some C) (he : ws[q0]? = some (a, .inr (ci, fs))) : PreV s H C.1 a (va_Pc (.ref a :: As) (fun U => wD D cI cF ws U)) As :=
  ⟨fun a U g mk q => ⟨q.1, va_K.moved (u := U) (U := U.calling g mk a) (Vm.Alike.refl U.vm) q.2.1, q.2.2⟩, va_recv hK hP hc he, fun U hU hW => ⟨rfl, va_K.moved hW.alike hK, by rw [hU]; exact hP, hD.weaken (fun _ _ _ _ => trivial)⟩⟩
theorem pre_s : PreS s H (va_Pc As (fun _ => True)) As := ⟨fun _ _ _ _ q => q, fun _ _ _ => ⟨rfl, trivial⟩⟩
end BasePre
end
section
theorem bin_lt {i : Int32} {n : Nat} (h : bin i n = true) : i.toNatClampNeg < n := (decide_eq_true_iff.mp h).2
/-- as wK, with the word on the nest mate's field -/
def wN (D : va_G) (cI cF : ClassId) (ws : va_W) (U : State) : Prop := va_K D vwCl (tyl cI cF) U ∧ va_Nw nst U ∧ va_P D vwCl ws U.heap
theorem pre_n {s : State} {H : Heap} {D : va_G} {cI cF : ClassId} {As : List Value} {ws : va_W} {a q0 ci : Nat} {C : vw_C} {fs : List Value} (hK : va_K D vwCl (tyl cI cF) s) (hnw : va_Nw nst s) (hP : va_P D vwCl ws H) (hc : vwCl[ci]? = some C) (he : ws[q0]? = some (a, .inr (ci, fs))) : PreV s H C.1 a (va_Pc (.ref a :: As) (fun U => wN D cI cF ws U)) As :=
  ⟨fun a U g mk q => ⟨q.1, va_K.moved (u := U) (U := U.calling g mk a) (Vm.Alike.refl U.vm) q.2.1, q.2.2.1.same rfl rfl, q.2.2.2⟩, va_recv hK hP hc he, fun U hU hW => ⟨rfl, va_K.moved hW.alike hK, hnw.warmF hW, by rw [hU]; exact hP⟩⟩
theorem pre_o {s : State} {H : Heap} {D : va_G} {cI cF : ClassId} {As : List Value} {o qf : Nat} {g gx gy : Nat → Nat} {ro rn tn fx fy ar wh : Int32} {X Y : Nat → Nat → Int32} {N : Nat → Int32} (hK : va_K D vwCl (tyl cI cF) s) (hnw : va_Nw nst s) (hO : drP D cI cF o qf g gx gy ro rn tn fx fy ar wh X Y N H) : PreV s H RX1 o (va_Pc (.ref o :: As) (fun U => wO D cI cF o qf g gx gy ro rn tn fx fy ar wh X Y N U)) As :=
  ⟨fun a U g mk q => ⟨q.1, va_K.moved (u := U) (U := U.calling g mk a) (Vm.Alike.refl U.vm) q.2.1, q.2.2.1.same rfl rfl, q.2.2.2⟩, va_recv (ci := 1) (q0 := 0) hK hO.1 rfl rfl, fun U hU hW => ⟨rfl, va_K.moved hW.alike hK, hnw.warmF hW, by rw [hU]; exact hO⟩⟩
/-! worlds that are written -/
def va_A0 (ws : va_W) : Nat → Prop := fun q => ∃ (k : Nat) (x : va_E), ws[k]? = some (q, x)
theorem va_D_A0 {A : Nat → Prop} {ws : va_W} (h : va_D A ws) : va_D (va_A0 ws) ws := ⟨h.1, fun k q hk => ⟨k, q.2, hk⟩⟩
theorem at_place {ws wc : va_W} {pos : List Nat} (hC : pos.map (fun i => ws[i]?) = wc.map some) {k : Nat} {q : Nat × va_E} (h : wc[k]? = some q) : ∃ i, pos[k]? = some i ∧ ws[i]? = some q := by
  have h1 : (pos.map (fun i => ws[i]?))[k]? = some (some q) := by rw [hC, List.getElem?_map, h]; rfl
  rw [List.getElem?_map] at h1
  cases hi : pos[k]? with
  | none => rw [hi] at h1; cases h1
  | some i => rw [hi] at h1; exact ⟨i, rfl, Option.some.inj h1⟩
theorem va_in {A : Nat → Prop} {ws wc : va_W} {a : Nat} (hD : va_D A ws) (h : va_A0 wc a) (pos : List Nat) (hC : pos.map (fun i => ws[i]?) = wc.map some) : A a := by
  obtain ⟨k, x, h⟩ := h
  obtain ⟨i, -, hi⟩ := at_place hC h
  exact hD.2 i _ hi
theorem va_D_same {A : Nat → Prop} {ws ws' : va_W} (h : va_D A ws) (hm : ws'.map Prod.fst = ws.map Prod.fst) : va_D A ws' := by
  have key : ∀ (k : Nat) (q : Nat × va_E), ws'[k]? = some q → ∃ q0 : Nat × va_E, ws[k]? = some q0 ∧ q0.1 = q.1 := by
    intro k q hk
    have h1 : (ws'.map Prod.fst)[k]? = some q.1 := by rw [List.getElem?_map, hk]; rfl
    rw [hm, List.getElem?_map] at h1
    cases h2 : ws[k]? with
    | none => rw [h2] at h1; cases h1
    | some q0 => rw [h2] at h1; exact ⟨q0, rfl, Option.some.inj h1⟩
  refine ⟨fun i j p q hi hj e => ?_, fun k q hk => ?_⟩
  · obtain ⟨p0, h1, e1⟩ := key i p hi
    obtain ⟨q0, h2, e2⟩ := key j q hj
    exact h.1 i j p0 q0 h1 h2 (by rw [e1, e2, e])
  · obtain ⟨q0, h1, e1⟩ := key k q hk
    rw [← e1]; exact h.2 k q0 h1
/-- behind a call that wrote the cells at 'pos' alone -/
theorem va_fit2 {A : Nat → Prop} {D : va_G} {cl : List vw_C} {ws wc w1 ws' : va_W} {H H1 : Heap} (hP : va_P D cl ws H) (hD : va_D A ws) (hk : ∀ q : Nat, q < H.size → ¬ va_A0 wc q → H1[q]? = H[q]?) (hP1 : va_P D cl w1 H1)
    (pos oth : List Nat) (n : Nat) (h1 : pos.map (fun i => ws'[i]?) = w1.map some) (h2 : oth.map (fun i => ws'[i]?) = oth.map (fun i => ws[i]?)) (hC : pos.map (fun i => ws[i]?) = wc.map some) (hn : ws'.length = n)
    (hcov : (List.range n).all (fun i => pos.contains i || oth.contains i) = true) (hdis : oth.all (fun i => !pos.contains i) = true) : va_P D cl ws' H1 := by
  intro k q hk'
  have hlt : k < n := by rw [← hn]; exact (List.getElem?_eq_some_iff.mp hk').1
  have hc := List.all_eq_true.mp hcov k (List.mem_range.mpr hlt)
  rcases (Bool.or_eq_true _ _).mp hc with hc | hc
  · have hm : k ∈ pos := List.contains_iff_mem.mp hc
    obtain ⟨j, hj⟩ := List.getElem?_of_mem hm
    have e1 : (pos.map (fun i => ws'[i]?))[j]? = some (some q) := by rw [List.getElem?_map, hj]; exact congrArg some hk'
    rw [h1, List.getElem?_map] at e1
    cases h3 : w1[j]? with
    | none => rw [h3] at e1; cases e1
    | some q1 => rw [h3] at e1; cases Option.some.inj (Option.some.inj e1); exact hP1 j _ h3
  · have hm : k ∈ oth := List.contains_iff_mem.mp hc
    obtain ⟨j, hj⟩ := List.getElem?_of_mem hm
    have e1 : (oth.map (fun i => ws'[i]?))[j]? = some (some q) := by rw [List.getElem?_map, hj]; exact congrArg some hk'
    rw [h2, List.getElem?_map, hj] at e1
    have e2 : ws[k]? = some q := Option.some.inj e1
    have hl := (hP k q e2).lt
    refine (hP k q e2).kept (hk q.1 hl (fun hA => ?_))
    obtain ⟨k2, x, h5⟩ := hA
    obtain ⟨i, h6, h7⟩ := at_place hC h5
    have : k = i := hD.1 k i q (q.1, x) e2 h7 rfl
    have hnd := List.all_eq_true.mp hdis k hm
    rw [this] at hnd
    rw [List.contains_iff_mem.mpr (List.mem_of_getElem? h6)] at hnd
    cases hnd
end
section
def f_X0_has (n : Int32) (a1 : Int32) : Option Int32 :=
  if a1 < (0) then
  (some (0 : Int32))
  else
  (if n ≤ a1 then
  (some (0 : Int32))
  else
  (some (1 : Int32)))
set_option maxHeartbeats 4000000 in
set_option maxRecDepth 100000 in
theorem k_X0_has (l : Launch) (D : va_G) (cI cF : ClassId) (q : Nat) (qx : Nat) (qy : Nat) (xs : Nat → Int32) (ys : Nat → Int32) (n : Int32) (a1 : Int32) (r0 : Int32) (h : f_X0_has n a1 = some r0) : Met l yX0_has wsX0_has ({ frames := 0, cells := 0, slots := 0, locals := 0 }) (va_Pc [.ref q, .int a1] (fun U => wK D cI cF (figW cI q qx qy xs ys n) U)) (qS (.int r0)) 0 0 (fun _ => False) := by
  refine Met.ofW (cc := cX0_has) (maxL := 2) (ret := (some .boolean)) (by decide) rfl ?_
  intro p e s m args below meth c s₁ B hml hv
  obtain ⟨rfl, hK, hP⟩ := hv
  have hx := B.exec
  have hb := B.bytes
  have hr := B.returns
  have hts := atoms_spec (ws := wsX0_has) B.pre
  have hown : s.vm.findClass RX0 = some m.cls := findClass_of_methodNamed B.named
  have hlocks := B.notSynchronized
  have ht1 := hts (.fieldLink RX0 18 "DrawnAreas$Figure" "size" "I") (by decide +kernel)
  have hinX0 : ∀ w ∈ u_ws RX0 TX0 3, w ∈ wsX0_has := by decide +kernel
  have hl := lv_entry ([.ref q, .int a1]) (n := 2) (Nat.le_of_ble_eq_true rfl)
  rw [lg_entry_eq]
  generalize (lg_sl ([.ref q, .int a1]) ++ List.replicate (2 - (lg_sl ([.ref q, .int a1])).length) Slot.unset).toArray = ls at hl ⊢
  have hl : lv_has ls 2 [(0, .ref q), (1, .int a1)] := hl
  unfold f_X0_has at h
  refine lv_iload_n hx hb dX0_has_0 rfl (lv_at hl 1 rfl) ?_
  refine lv_if_lt (tgt := 16) hx hb dX0_has_1 (by decide) (fun c0 => ?_) (fun c0 => ?_)
  · rw [if_pos c0] at h
    refine lv_iconst (v := 0) hx hb dX0_has_16 (by decide) ?_
    obtain rfl := Option.some.inj h
    exact W.zret hx hb hr rfl (fun t ht _ => ⟨rfl, ht⟩) (fun _ h9 => absurd h9 List.not_mem_nil) dX0_has_17
  · rw [if_neg c0] at h
    refine lv_iload_n hx hb dX0_has_4 rfl (lv_at hl 1 rfl) ?_
    refine lv_aload_n hx hb dX0_has_5 rfl (lv_at hl 0 rfl) ?_
    refine va_get (D := D) (ci := 0) (v := .int n) (C := RX0) (T := TX0) (N := 3) hx hb hts hinX0 hown hK hP 0 rfl rfl 2 (by decide) ht1 (fun _ h9 => h9) rfl dX0_has_6 ?_
    refine lv_icmp_ge (tgt := 16) hx hb dX0_has_9 (by decide) (fun c1 => ?_) (fun c1 => ?_)
    · rw [if_pos c1] at h
      refine lv_iconst (v := 0) hx hb dX0_has_16 (by decide) ?_
      obtain rfl := Option.some.inj h
      exact W.zret hx hb hr rfl (fun t ht _ => ⟨rfl, ht⟩) (fun _ h9 => absurd h9 List.not_mem_nil) dX0_has_17
    · rw [if_neg c1] at h
      refine lv_iconst (v := 1) hx hb dX0_has_12 (by decide) ?_
      refine lv_goto (tgt := 17) hx hb dX0_has_13 (by decide) ?_
      obtain rfl := Option.some.inj h
      exact W.zret hx hb hr rfl (fun t ht _ => ⟨rfl, ht⟩) (fun _ h9 => absurd h9 List.not_mem_nil) dX0_has_17
def f_X0_closed (n : Int32) : Option Int32 :=
  if n < (3 : Int32) then
  (some (0 : Int32))
  else
  (some (1 : Int32))
set_option maxHeartbeats 4000000 in
set_option maxRecDepth 100000 in
theorem k_X0_closed (l : Launch) (D : va_G) (cI cF : ClassId) (q : Nat) (qx : Nat) (qy : Nat) (xs : Nat → Int32) (ys : Nat → Int32) (n : Int32) (r0 : Int32) (h : f_X0_closed n = some r0) : Met l yX0_closed wsX0_closed ({ frames := 0, cells := 0, slots := 0, locals := 0 }) (va_Pc [.ref q] (fun U => wK D cI cF (figW cI q qx qy xs ys n) U)) (qS (.int r0)) 0 0 (fun _ => False) := by
  refine Met.ofW (cc := cX0_closed) (maxL := 1) (ret := (some .boolean)) (by decide) rfl ?_
  intro p e s m args below meth c s₁ B hml hv
  obtain ⟨rfl, hK, hP⟩ := hv
  have hx := B.exec
  have hb := B.bytes
  have hr := B.returns
  have hts := atoms_spec (ws := wsX0_closed) B.pre
  have hown : s.vm.findClass RX0 = some m.cls := findClass_of_methodNamed B.named
  have hlocks := B.notSynchronized
  have ht1 := hts (.fieldLink RX0 18 "DrawnAreas$Figure" "size" "I") (by decide +kernel)
  have hinX0 : ∀ w ∈ u_ws RX0 TX0 3, w ∈ wsX0_closed := by decide +kernel
  have hl := lv_entry ([.ref q]) (n := 1) (Nat.le_of_ble_eq_true rfl)
  rw [lg_entry_eq]
  generalize (lg_sl ([.ref q]) ++ List.replicate (1 - (lg_sl ([.ref q])).length) Slot.unset).toArray = ls at hl ⊢
  have hl : lv_has ls 1 [(0, .ref q)] := hl
  unfold f_X0_closed at h
  refine lv_aload_n hx hb dX0_closed_0 rfl (lv_at hl 0 rfl) ?_
  refine va_get (D := D) (ci := 0) (v := .int n) (C := RX0) (T := TX0) (N := 3) hx hb hts hinX0 hown hK hP 0 rfl rfl 2 (by decide) ht1 (fun _ h9 => h9) rfl dX0_closed_1 ?_
  refine lv_iconst (v := 3) hx hb dX0_closed_4 (by decide) ?_
  refine lv_icmp_lt (tgt := 12) hx hb dX0_closed_5 (by decide) (fun c0 => ?_) (fun c0 => ?_)
  · rw [if_pos c0] at h
    refine lv_iconst (v := 0) hx hb dX0_closed_12 (by decide) ?_
    obtain rfl := Option.some.inj h
    exact W.zret hx hb hr rfl (fun t ht _ => ⟨rfl, ht⟩) (fun _ h9 => absurd h9 List.not_mem_nil) dX0_closed_13
  · rw [if_neg c0] at h
    refine lv_iconst (v := 1) hx hb dX0_closed_8 (by decide) ?_
    refine lv_goto (tgt := 13) hx hb dX0_closed_9 (by decide) ?_
    obtain rfl := Option.some.inj h
    exact W.zret hx hb hr rfl (fun t ht _ => ⟨rfl, ht⟩) (fun _ h9 => absurd h9 List.not_mem_nil) dX0_closed_13
def f_X0_x (xs : Nat → Int32) (a1 : Int32) : Option Int32 :=
  if a1 < (0) then
  (some (0 : Int32))
  else
  (if (24 : Int32) ≤ a1 then
  (some (0 : Int32))
  else
  (if bin a1 24 = true then
  some (xs a1.toNatClampNeg)
  else none))
set_option maxHeartbeats 4000000 in
set_option maxRecDepth 100000 in
theorem k_X0_x (l : Launch) (D : va_G) (cI cF : ClassId) (q : Nat) (qx : Nat) (qy : Nat) (xs : Nat → Int32) (ys : Nat → Int32) (n : Int32) (a1 : Int32) (r0 : Int32) (h : f_X0_x xs a1 = some r0) : Met l yX0_x wsX0_x ({ frames := 0, cells := 0, slots := 0, locals := 0 }) (va_Pc [.ref q, .int a1] (fun U => wK D cI cF (figW cI q qx qy xs ys n) U)) (qS (.int r0)) 0 0 (fun _ => False) := by
  refine Met.ofW (cc := cX0_x) (maxL := 2) (ret := (some .int)) (by decide) rfl ?_
  intro p e s m args below meth c s₁ B hml hv
  obtain ⟨rfl, hK, hP⟩ := hv
  have hx := B.exec
  have hb := B.bytes
  have hr := B.returns
  have hts := atoms_spec (ws := wsX0_x) B.pre
  have hown : s.vm.findClass RX0 = some m.cls := findClass_of_methodNamed B.named
  have hlocks := B.notSynchronized
  have ht1 := hts (.fieldLink RX0 9 "DrawnAreas$Figure" "xs" "[I") (by decide +kernel)
  have hinX0 : ∀ w ∈ u_ws RX0 TX0 3, w ∈ wsX0_x := by decide +kernel
  have hl := lv_entry ([.ref q, .int a1]) (n := 2) (Nat.le_of_ble_eq_true rfl)
  rw [lg_entry_eq]
  generalize (lg_sl ([.ref q, .int a1]) ++ List.replicate (2 - (lg_sl ([.ref q, .int a1])).length) Slot.unset).toArray = ls at hl ⊢
  have hl : lv_has ls 2 [(0, .ref q), (1, .int a1)] := hl
  unfold f_X0_x at h
  refine lv_iload_n hx hb dX0_x_0 rfl (lv_at hl 1 rfl) ?_
  refine lv_if_lt (tgt := 22) hx hb dX0_x_1 (by decide) (fun c0 => ?_) (fun c0 => ?_)
  · rw [if_pos c0] at h
    refine lv_iconst (v := 0) hx hb dX0_x_22 (by decide) ?_
    obtain rfl := Option.some.inj h
    exact W.iret hx hb hr (fun t ht _ => ⟨rfl, ht⟩) (fun _ h9 => absurd h9 List.not_mem_nil) dX0_x_23
  · rw [if_neg c0] at h
    refine lv_iload_n hx hb dX0_x_4 rfl (lv_at hl 1 rfl) ?_
    refine lv_aload_n hx hb dX0_x_5 rfl (lv_at hl 0 rfl) ?_
    refine va_get (D := D) (ci := 0) (v := .ref qx) (C := RX0) (T := TX0) (N := 3) hx hb hts hinX0 hown hK hP 0 rfl rfl 0 (by decide) ht1 (fun _ h9 => h9) rfl dX0_x_6 ?_
    refine va_alen hx hb hK hP 1 0 rfl rfl (v := 24) rfl dX0_x_9 ?_
    refine lv_icmp_ge (tgt := 22) hx hb dX0_x_10 (by decide) (fun c1 => ?_) (fun c1 => ?_)
    · rw [if_pos c1] at h
      refine lv_iconst (v := 0) hx hb dX0_x_22 (by decide) ?_
      obtain rfl := Option.some.inj h
      exact W.iret hx hb hr (fun t ht _ => ⟨rfl, ht⟩) (fun _ h9 => absurd h9 List.not_mem_nil) dX0_x_23
    · rw [if_neg c1] at h
      refine lv_aload_n hx hb dX0_x_13 rfl (lv_at hl 0 rfl) ?_
      refine va_get (D := D) (ci := 0) (v := .ref qx) (C := RX0) (T := TX0) (N := 3) hx hb hts hinX0 hown hK hP 0 rfl rfl 0 (by decide) ht1 (fun _ h9 => h9) rfl dX0_x_14 ?_
      refine lv_iload_n hx hb dX0_x_17 rfl (lv_at hl 1 rfl) ?_
      obtain ⟨gi2, h⟩ := og_in h
      refine va_iald hx hb hK hP 1 0 rfl rfl gi2 dX0_x_18 ?_
      refine lv_goto (tgt := 23) hx hb dX0_x_19 (by decide) ?_
      obtain rfl := Option.some.inj h
      exact W.iret hx hb hr (fun t ht _ => ⟨rfl, ht⟩) (fun _ h9 => absurd h9 List.not_mem_nil) dX0_x_23
def f_X0_y (ys : Nat → Int32) (a1 : Int32) : Option Int32 :=
  if a1 < (0) then
  (some (0 : Int32))
  else
  (if (24 : Int32) ≤ a1 then
  (some (0 : Int32))
  else
  (if bin a1 24 = true then
  some (ys a1.toNatClampNeg)
  else none))
set_option maxHeartbeats 4000000 in
set_option maxRecDepth 100000 in
theorem k_X0_y (l : Launch) (D : va_G) (cI cF : ClassId) (q : Nat) (qx : Nat) (qy : Nat) (xs : Nat → Int32) (ys : Nat → Int32) (n : Int32) (a1 : Int32) (r0 : Int32) (h : f_X0_y ys a1 = some r0) : Met l yX0_y wsX0_y ({ frames := 0, cells := 0, slots := 0, locals := 0 }) (va_Pc [.ref q, .int a1] (fun U => wK D cI cF (figW cI q qx qy xs ys n) U)) (qS (.int r0)) 0 0 (fun _ => False) := by
  refine Met.ofW (cc := cX0_y) (maxL := 2) (ret := (some .int)) (by decide) rfl ?_
  intro p e s m args below meth c s₁ B hml hv
  obtain ⟨rfl, hK, hP⟩ := hv
  have hx := B.exec
  have hb := B.bytes
  have hr := B.returns
  have hts := atoms_spec (ws := wsX0_y) B.pre
  have hown : s.vm.findClass RX0 = some m.cls := findClass_of_methodNamed B.named
  have hlocks := B.notSynchronized
  have ht1 := hts (.fieldLink RX0 15 "DrawnAreas$Figure" "ys" "[I") (by decide +kernel)
  have hinX0 : ∀ w ∈ u_ws RX0 TX0 3, w ∈ wsX0_y := by decide +kernel
  have hl := lv_entry ([.ref q, .int a1]) (n := 2) (Nat.le_of_ble_eq_true rfl)
  rw [lg_entry_eq]
  generalize (lg_sl ([.ref q, .int a1]) ++ List.replicate (2 - (lg_sl ([.ref q, .int a1])).length) Slot.unset).toArray = ls at hl ⊢
  have hl : lv_has ls 2 [(0, .ref q), (1, .int a1)] := hl
  unfold f_X0_y at h
  refine lv_iload_n hx hb dX0_y_0 rfl (lv_at hl 1 rfl) ?_
  refine lv_if_lt (tgt := 22) hx hb dX0_y_1 (by decide) (fun c0 => ?_) (fun c0 => ?_)
  · rw [if_pos c0] at h
    refine lv_iconst (v := 0) hx hb dX0_y_22 (by decide) ?_
    obtain rfl := Option.some.inj h
    exact W.iret hx hb hr (fun t ht _ => ⟨rfl, ht⟩) (fun _ h9 => absurd h9 List.not_mem_nil) dX0_y_23
  · rw [if_neg c0] at h
    refine lv_iload_n hx hb dX0_y_4 rfl (lv_at hl 1 rfl) ?_
    refine lv_aload_n hx hb dX0_y_5 rfl (lv_at hl 0 rfl) ?_
    refine va_get (D := D) (ci := 0) (v := .ref qy) (C := RX0) (T := TX0) (N := 3) hx hb hts hinX0 hown hK hP 0 rfl rfl 1 (by decide) ht1 (fun _ h9 => h9) rfl dX0_y_6 ?_
    refine va_alen hx hb hK hP 2 0 rfl rfl (v := 24) rfl dX0_y_9 ?_
    refine lv_icmp_ge (tgt := 22) hx hb dX0_y_10 (by decide) (fun c1 => ?_) (fun c1 => ?_)
    · rw [if_pos c1] at h
      refine lv_iconst (v := 0) hx hb dX0_y_22 (by decide) ?_
      obtain rfl := Option.some.inj h
      exact W.iret hx hb hr (fun t ht _ => ⟨rfl, ht⟩) (fun _ h9 => absurd h9 List.not_mem_nil) dX0_y_23
    · rw [if_neg c1] at h
      refine lv_aload_n hx hb dX0_y_13 rfl (lv_at hl 0 rfl) ?_
      refine va_get (D := D) (ci := 0) (v := .ref qy) (C := RX0) (T := TX0) (N := 3) hx hb hts hinX0 hown hK hP 0 rfl rfl 1 (by decide) ht1 (fun _ h9 => h9) rfl dX0_y_14 ?_
      refine lv_iload_n hx hb dX0_y_17 rfl (lv_at hl 1 rfl) ?_
      obtain ⟨gi2, h⟩ := og_in h
      refine va_iald hx hb hK hP 2 0 rfl rfl gi2 dX0_y_18 ?_
      refine lv_goto (tgt := 23) hx hb dX0_y_19 (by decide) ?_
      obtain rfl := Option.some.inj h
      exact W.iret hx hb hr (fun t ht _ => ⟨rfl, ht⟩) (fun _ h9 => absurd h9 List.not_mem_nil) dX0_y_23
def f_X0_next (n : Int32) (a1 : Int32) : Option Int32 :=
  if n ≤ (a1 + (1 : Int32)) then
  (some (0 : Int32))
  else
  (some (a1 + (1 : Int32)))
set_option maxHeartbeats 4000000 in
set_option maxRecDepth 100000 in
theorem k_X0_next (l : Launch) (D : va_G) (cI cF : ClassId) (q : Nat) (qx : Nat) (qy : Nat) (xs : Nat → Int32) (ys : Nat → Int32) (n : Int32) (a1 : Int32) (r0 : Int32) (h : f_X0_next n a1 = some r0) : Met l yX0_next wsX0_next ({ frames := 0, cells := 0, slots := 0, locals := 0 }) (va_Pc [.ref q, .int a1] (fun U => wK D cI cF (figW cI q qx qy xs ys n) U)) (qS (.int r0)) 0 0 (fun _ => False) := by
  refine Met.ofW (cc := cX0_next) (maxL := 2) (ret := (some .int)) (by decide) rfl ?_
  intro p e s m args below meth c s₁ B hml hv
  obtain ⟨rfl, hK, hP⟩ := hv
  have hx := B.exec
  have hb := B.bytes
  have hr := B.returns
  have hts := atoms_spec (ws := wsX0_next) B.pre
  have hown : s.vm.findClass RX0 = some m.cls := findClass_of_methodNamed B.named
  have hlocks := B.notSynchronized
  have ht1 := hts (.fieldLink RX0 18 "DrawnAreas$Figure" "size" "I") (by decide +kernel)
  have hinX0 : ∀ w ∈ u_ws RX0 TX0 3, w ∈ wsX0_next := by decide +kernel
  have hl := lv_entry ([.ref q, .int a1]) (n := 2) (Nat.le_of_ble_eq_true rfl)
  rw [lg_entry_eq]
  generalize (lg_sl ([.ref q, .int a1]) ++ List.replicate (2 - (lg_sl ([.ref q, .int a1])).length) Slot.unset).toArray = ls at hl ⊢
  have hl : lv_has ls 2 [(0, .ref q), (1, .int a1)] := hl
  unfold f_X0_next at h
  refine lv_iload_n hx hb dX0_next_0 rfl (lv_at hl 1 rfl) ?_
  refine lv_iconst (v := 1) hx hb dX0_next_1 (by decide) ?_
  refine lv_iadd hx hb dX0_next_2 ?_
  refine lv_aload_n hx hb dX0_next_3 rfl (lv_at hl 0 rfl) ?_
  refine va_get (D := D) (ci := 0) (v := .int n) (C := RX0) (T := TX0) (N := 3) hx hb hts hinX0 hown hK hP 0 rfl rfl 2 (by decide) ht1 (fun _ h9 => h9) rfl dX0_next_4 ?_
  refine lv_icmp_ge (tgt := 16) hx hb dX0_next_7 (by decide) (fun c0 => ?_) (fun c0 => ?_)
  · rw [if_pos c0] at h
    refine lv_iconst (v := 0) hx hb dX0_next_16 (by decide) ?_
    obtain rfl := Option.some.inj h
    exact W.iret hx hb hr (fun t ht _ => ⟨rfl, ht⟩) (fun _ h9 => absurd h9 List.not_mem_nil) dX0_next_17
  · rw [if_neg c0] at h
    refine lv_iload_n hx hb dX0_next_10 rfl (lv_at hl 1 rfl) ?_
    refine lv_iconst (v := 1) hx hb dX0_next_11 (by decide) ?_
    refine lv_iadd hx hb dX0_next_12 ?_
    refine lv_goto (tgt := 17) hx hb dX0_next_13 (by decide) ?_
    obtain rfl := Option.some.inj h
    exact W.iret hx hb hr (fun t ht _ => ⟨rfl, ht⟩) (fun _ h9 => absurd h9 List.not_mem_nil) dX0_next_17
def s_X0_mixedPowers_9 (a1 : Int64) (a2 : Int64) (a3 : Int32) (u9 : (Int64 × Int64 × Int32)) : Option ((Int64 × Int64 × Int32) ⊕ Int64) :=
  if a3 ≤ u9.2.2 then
  (some (.inr u9.1))
  else
  (ov (u9.2.1 * a2) fun v2 =>
  ov ((u9.1 * a1) + v2) fun v3 =>
  ov (u9.2.2 + (1 : Int32)) fun v4 =>
  some (.inl (v3, v2, v4)))
def f_X0_mixedPowers (a1 : Int64) (a2 : Int64) (a3 : Int32) : Option Int64 :=
  (lpf (s_X0_mixedPowers_9 a1 a2 a3) 1000 ((1 : Int64), (1 : Int64), (0 : Int32))).bind fun x5 =>
  some x5
set_option maxHeartbeats 4000000 in
set_option maxRecDepth 100000 in
theorem k_X0_mixedPowers (l : Launch) (a1 : Int64) (a2 : Int64) (a3 : Int32) (r0 : Int64) (h : f_X0_mixedPowers a1 a2 a3 = some r0) : Met l yX0_mixedPowers wsX0_mixedPowers ({ frames := 0, cells := 0, slots := 0, locals := 0 }) (va_Pc [.long a1, .long a2, .int a3] (fun _ => True)) (qS (.long r0)) 0 0 (fun _ => False) := by
  refine Met.ofW (cc := cX0_mixedPowers) (maxL := 10) (ret := (some .long)) (by decide) rfl ?_
  intro p e s m args below meth c s₁ B hml hv
  obtain ⟨rfl, -⟩ := hv
  have hx := B.exec
  have hb := B.bytes
  have hr := B.returns
  have hts := atoms_spec (ws := wsX0_mixedPowers) B.pre
  have hown : s.vm.findClass RX0 = some m.cls := findClass_of_methodNamed B.named
  have hlocks := B.notSynchronized
  have hl := lv_entry ([.long a1, .long a2, .int a3]) (n := 10) (Nat.le_of_ble_eq_true rfl)
  rw [lg_entry_eq]
  generalize (lg_sl ([.long a1, .long a2, .int a3]) ++ List.replicate (10 - (lg_sl ([.long a1, .long a2, .int a3])).length) Slot.unset).toArray = ls at hl ⊢
  have hl : lv_has ls 10 [(0, .long a1), (2, .long a2), (4, .int a3)] := hl
  unfold f_X0_mixedPowers at h
  refine lv_lconst (v := 1) hx hb dX0_mixedPowers_0 (by decide) ?_
  refine lv_lstore (lv' := [(5, .long (1 : Int64)), (0, .long a1), (2, .long a2), (4, .int a3)]) hx hb dX0_mixedPowers_1 hl (by decide) rfl (fun ls hl => ?_)
  refine lv_lconst (v := 1) hx hb dX0_mixedPowers_3 (by decide) ?_
  refine lv_lstore (lv' := [(7, .long (1 : Int64)), (5, .long (1 : Int64)), (0, .long a1), (2, .long a2), (4, .int a3)]) hx hb dX0_mixedPowers_4 hl (by decide) rfl (fun ls hl => ?_)
  refine lv_iconst (v := 0) hx hb dX0_mixedPowers_6 (by decide) ?_
  refine lv_istore (lv' := [(9, .int (0 : Int32)), (7, .long (1 : Int64)), (5, .long (1 : Int64)), (0, .long a1), (2, .long a2), (4, .int a3)]) hx hb dX0_mixedPowers_7 hl (by decide) rfl (fun ls hl => ?_)
  obtain ⟨x5, hN9, h⟩ := og_bind h
  refine wl hN9 9 37 (fun u9 ls => lv_has ls 10 [(0, .long a1), (2, .long a2), (4, .int a3), (5, .long u9.1), (7, .long u9.2.1), (9, .int u9.2.2)]) (fun x5 ls => lv_has ls 10 [(5, .long x5)]) (fun u9 xx h ki9 kx9 ls hl => ?_) (fun ls hl => ?_) (lv_sub hl [3, 4, 5, 2, 1, 0] rfl)
  · unfold s_X0_mixedPowers_9 at h
    refine lv_iload hx hb dX0_mixedPowers_9 (lv_at hl 5 rfl) ?_
    refine lv_iload hx hb dX0_mixedPowers_11 (lv_at hl 2 rfl) ?_
    refine lv_icmp_ge (tgt := 37) hx hb dX0_mixedPowers_13 (by decide) (fun c0 => ?_) (fun c0 => ?_)
    · rw [if_pos c0] at h
      exact kx9 _ ls (Option.some.inj h).symm (lv_sub hl [3] rfl)
    · rw [if_neg c0] at h
      refine lv_lload hx hb dX0_mixedPowers_16 (lv_at hl 4 rfl) ?_
      refine lv_lload_n hx hb dX0_mixedPowers_18 rfl (lv_at hl 1 rfl) ?_
      refine lv_lmul hx hb dX0_mixedPowers_19 ?_
      refine lv_topl (fun v2 ev2 => ?_)
      have h := og_ov h ev2
      refine lv_lstore (lv' := [(7, .long v2), (0, .long a1), (2, .long a2), (4, .int a3), (5, .long u9.1), (9, .int u9.2.2)]) hx hb dX0_mixedPowers_20 hl (by decide) rfl (fun ls hl => ?_)
      refine lv_lload hx hb dX0_mixedPowers_22 (lv_at hl 4 rfl) ?_
      refine lv_lload_n hx hb dX0_mixedPowers_24 rfl (lv_at hl 1 rfl) ?_
      refine lv_lmul hx hb dX0_mixedPowers_25 ?_
      refine lv_lload hx hb dX0_mixedPowers_26 (lv_at hl 0 rfl) ?_
      refine lv_ladd hx hb dX0_mixedPowers_28 ?_
      refine lv_topl (fun v3 ev3 => ?_)
      have h := og_ov h ev3
      refine lv_lstore (lv' := [(5, .long v3), (7, .long v2), (0, .long a1), (2, .long a2), (4, .int a3), (9, .int u9.2.2)]) hx hb dX0_mixedPowers_29 hl (by decide) rfl (fun ls hl => ?_)
      obtain ⟨v4, ev4⟩ : ∃ y : Int32, y = u9.2.2 + (1 : Int32) := ⟨_, rfl⟩
      have h := og_ov h ev4
      refine lv_iinc (v := v4) (lv' := [(9, .int v4), (5, .long v3), (7, .long v2), (0, .long a1), (2, .long a2), (4, .int a3)]) hx hb dX0_mixedPowers_31 hl (k := 5) rfl (by rw [ev4]; rfl) (by decide) rfl (fun ls hl => ?_)
      refine lv_goto (tgt := 9) hx hb dX0_mixedPowers_34 (by decide) ?_
      exact ki9 _ ls (Option.some.inj h).symm (lv_sub hl [3, 4, 5, 1, 2, 0] rfl)
  · refine lv_lload hx hb dX0_mixedPowers_37 (lv_at hl 0 rfl) ?_
    obtain rfl := Option.some.inj h
    exact W.lret hx hb hr (fun t ht _ => ⟨rfl, ht⟩) (fun _ h9 => absurd h9 List.not_mem_nil) dX0_mixedPowers_39
def s_X0_doubleArea_4 (xs : Nat → Int32) (ys : Nat → Int32) (n : Int32) (u4 : (Int64 × Int32)) : Option ((Int64 × Int32) ⊕ Int64) :=
  if n ≤ u4.2 then
  (some (.inr u4.1))
  else
  ((f_X0_next n u4.2).bind fun r2 =>
  (f_X0_x xs u4.2).bind fun r3 =>
  (f_X0_y ys r2).bind fun r4 =>
  (f_X0_x xs r2).bind fun r5 =>
  (f_X0_y ys u4.2).bind fun r6 =>
  ov (u4.1 + (((r3 * r4) - (r5 * r6)).toInt64)) fun v7 =>
  ov (u4.2 + (1 : Int32)) fun v8 =>
  some (.inl (v7, v8)))
def f_X0_doubleArea (xs : Nat → Int32) (ys : Nat → Int32) (n : Int32) : Option Int64 :=
  (lpf (s_X0_doubleArea_4 xs ys n) 1000 ((0 : Int64), (0 : Int32))).bind fun x9 =>
  some x9
set_option maxHeartbeats 4000000 in
set_option maxRecDepth 100000 in
theorem k_X0_doubleArea (l : Launch) (D : va_G) (cI cF : ClassId) (q : Nat) (qx : Nat) (qy : Nat) (xs : Nat → Int32) (ys : Nat → Int32) (n : Int32) (r0 : Int64) (h : f_X0_doubleArea xs ys n = some r0) : Met l yX0_doubleArea wsX0_doubleArea ({ frames := 1, cells := 0, slots := 0, locals := 21 }) (va_Pc [.ref q] (fun U => wK D cI cF (figW cI q qx qy xs ys n) U)) (qS (.long r0)) 0 0 (fun _ => False) := by
  refine Met.ofW (cc := cX0_doubleArea) (maxL := 5) (ret := (some .long)) (by decide) rfl ?_
  intro p e s m args below meth c s₁ B hml hv
  obtain ⟨rfl, hK, hP⟩ := hv
  have hx := B.exec
  have hb := B.bytes
  have hr := B.returns
  have hts := atoms_spec (ws := wsX0_doubleArea) B.pre
  have hown : s.vm.findClass RX0 = some m.cls := findClass_of_methodNamed B.named
  have hlocks := B.notSynchronized
  have ht1 := hts (.fieldLink RX0 18 "DrawnAreas$Figure" "size" "I") (by decide +kernel)
  have hinX0 : ∀ w ∈ u_ws RX0 TX0 3, w ∈ wsX0_doubleArea := by decide +kernel
  have hl := lv_entry ([.ref q]) (n := 5) (Nat.le_of_ble_eq_true rfl)
  rw [lg_entry_eq]
  generalize (lg_sl ([.ref q]) ++ List.replicate (5 - (lg_sl ([.ref q])).length) Slot.unset).toArray = ls at hl ⊢
  have hl : lv_has ls 5 [(0, .ref q)] := hl
  unfold f_X0_doubleArea at h
  refine lv_lconst (v := 0) hx hb dX0_doubleArea_0 (by decide) ?_
  refine lv_lstore_n (lv' := [(1, .long (0 : Int64)), (0, .ref q)]) hx hb dX0_doubleArea_1 rfl hl (by decide) rfl (fun ls hl => ?_)
  refine lv_iconst (v := 0) hx hb dX0_doubleArea_2 (by decide) ?_
  refine lv_istore_n (lv' := [(3, .int (0 : Int32)), (1, .long (0 : Int64)), (0, .ref q)]) hx hb dX0_doubleArea_3 rfl hl (by decide) rfl (fun ls hl => ?_)
  obtain ⟨x9, hN4, h⟩ := og_bind h
  refine wl hN4 4 54 (fun u4 ls => lv_has ls 5 [(0, .ref q), (1, .long u4.1), (3, .int u4.2)]) (fun x9 ls => lv_has ls 5 [(1, .long x9)]) (fun u4 xx h ki4 kx4 ls hl => ?_) (fun ls hl => ?_) (lv_sub hl [2, 1, 0] rfl)
  · unfold s_X0_doubleArea_4 at h
    refine lv_iload_n hx hb dX0_doubleArea_4 rfl (lv_at hl 2 rfl) ?_
    refine lv_aload_n hx hb dX0_doubleArea_5 rfl (lv_at hl 0 rfl) ?_
    refine va_get (D := D) (ci := 0) (v := .int n) (C := RX0) (T := TX0) (N := 3) hx hb hts hinX0 hown hK hP 0 rfl rfl 2 (by decide) ht1 (fun _ h9 => h9) rfl dX0_doubleArea_6 ?_
    refine lv_icmp_ge (tgt := 54) hx hb dX0_doubleArea_9 (by decide) (fun c0 => ?_) (fun c0 => ?_)
    · rw [if_pos c0] at h
      exact kx4 _ ls (Option.some.inj h).symm (lv_sub hl [1] rfl)
    · rw [if_neg c0] at h
      refine lv_aload_n hx hb dX0_doubleArea_12 rfl (lv_at hl 0 rfl) ?_
      refine lv_iload_n hx hb dX0_doubleArea_13 rfl (lv_at hl 2 rfl) ?_
      obtain ⟨r2, hcr2, h⟩ := og_bind h
      refine cp_s (va_runV (As := [.int u4.2]) (rest := []) ⟨hx, hb, hml, hown, hts⟩ (k_X0_next l D cI cF q qx qy xs ys n u4.2 _ hcr2) (cwV 1 hts gX0_doubleArea_X0_next rfl rfl rfl (by decide +kernel) ⟨(Nat.le_of_ble_eq_true rfl), (Nat.le_of_ble_eq_true rfl)⟩) (pre_v (q0 := 0) (ci := 0) hK hP rfl rfl) rfl rfl hl.1 rfl (lv_room (Nat.le_of_ble_eq_true rfl)) dX0_doubleArea_14 ⟨(Nat.zero_le _), (Nat.zero_le _)⟩) ?_
      refine lv_istore (lv' := [(4, .int r2), (0, .ref q), (1, .long u4.1), (3, .int u4.2)]) hx hb dX0_doubleArea_17 hl (by decide) rfl (fun ls hl => ?_)
      refine lv_lload_n hx hb dX0_doubleArea_19 rfl (lv_at hl 2 rfl) ?_
      refine lv_aload_n hx hb dX0_doubleArea_20 rfl (lv_at hl 1 rfl) ?_
      refine lv_iload_n hx hb dX0_doubleArea_21 rfl (lv_at hl 3 rfl) ?_
      obtain ⟨r3, hcr3, h⟩ := og_bind h
      refine cp_s (va_runV (As := [.int u4.2]) (rest := [.long u4.1]) ⟨hx, hb, hml, hown, hts⟩ (k_X0_x l D cI cF q qx qy xs ys n u4.2 _ hcr3) (cwV 1 hts gX0_doubleArea_X0_x rfl rfl rfl (by decide +kernel) ⟨(Nat.le_of_ble_eq_true rfl), (Nat.le_of_ble_eq_true rfl)⟩) (pre_v (q0 := 0) (ci := 0) hK hP rfl rfl) rfl rfl hl.1 rfl (lv_room (Nat.le_of_ble_eq_true rfl)) dX0_doubleArea_22 ⟨(Nat.zero_le _), (Nat.zero_le _)⟩) ?_
      refine lv_aload_n hx hb dX0_doubleArea_25 rfl (lv_at hl 1 rfl) ?_
      refine lv_iload hx hb dX0_doubleArea_26 (lv_at hl 0 rfl) ?_
      obtain ⟨r4, hcr4, h⟩ := og_bind h
      refine cp_s (va_runV (As := [.int r2]) (rest := [.int r3, .long u4.1]) ⟨hx, hb, hml, hown, hts⟩ (k_X0_y l D cI cF q qx qy xs ys n r2 _ hcr4) (cwV 1 hts gX0_doubleArea_X0_y rfl rfl rfl (by decide +kernel) ⟨(Nat.le_of_ble_eq_true rfl), (Nat.le_of_ble_eq_true rfl)⟩) (pre_v (q0 := 0) (ci := 0) hK hP rfl rfl) rfl rfl hl.1 rfl (lv_room (Nat.le_of_ble_eq_true rfl)) dX0_doubleArea_28 ⟨(Nat.zero_le _), (Nat.zero_le _)⟩) ?_
      refine lv_imul hx hb dX0_doubleArea_31 ?_
      refine lv_aload_n hx hb dX0_doubleArea_32 rfl (lv_at hl 1 rfl) ?_
      refine lv_iload hx hb dX0_doubleArea_33 (lv_at hl 0 rfl) ?_
      obtain ⟨r5, hcr5, h⟩ := og_bind h
      refine cp_s (va_runV (As := [.int r2]) (rest := [.int (r3 * r4), .long u4.1]) ⟨hx, hb, hml, hown, hts⟩ (k_X0_x l D cI cF q qx qy xs ys n r2 _ hcr5) (cwV 1 hts gX0_doubleArea_X0_x rfl rfl rfl (by decide +kernel) ⟨(Nat.le_of_ble_eq_true rfl), (Nat.le_of_ble_eq_true rfl)⟩) (pre_v (q0 := 0) (ci := 0) hK hP rfl rfl) rfl rfl hl.1 rfl (lv_room (Nat.le_of_ble_eq_true rfl)) dX0_doubleArea_35 ⟨(Nat.zero_le _), (Nat.zero_le _)⟩) ?_
      refine lv_aload_n hx hb dX0_doubleArea_38 rfl (lv_at hl 1 rfl) ?_
      refine lv_iload_n hx hb dX0_doubleArea_39 rfl (lv_at hl 3 rfl) ?_
      obtain ⟨r6, hcr6, h⟩ := og_bind h
      refine cp_s (va_runV (As := [.int u4.2]) (rest := [.int r5, .int (r3 * r4), .long u4.1]) ⟨hx, hb, hml, hown, hts⟩ (k_X0_y l D cI cF q qx qy xs ys n u4.2 _ hcr6) (cwV 1 hts gX0_doubleArea_X0_y rfl rfl rfl (by decide +kernel) ⟨(Nat.le_of_ble_eq_true rfl), (Nat.le_of_ble_eq_true rfl)⟩) (pre_v (q0 := 0) (ci := 0) hK hP rfl rfl) rfl rfl hl.1 rfl (lv_room (Nat.le_of_ble_eq_true rfl)) dX0_doubleArea_40 ⟨(Nat.zero_le _), (Nat.zero_le _)⟩) ?_
      refine lv_imul hx hb dX0_doubleArea_43 ?_
      refine lv_isub hx hb dX0_doubleArea_44 ?_
      refine lv_i2l hx hb dX0_doubleArea_45 rfl ?_
      refine lv_ladd hx hb dX0_doubleArea_46 ?_
      refine lv_topl (fun v7 ev7 => ?_)
      have h := og_ov h ev7
      refine lv_lstore_n (lv' := [(1, .long v7), (4, .int r2), (0, .ref q), (3, .int u4.2)]) hx hb dX0_doubleArea_47 rfl hl (by decide) rfl (fun ls hl => ?_)
      obtain ⟨v8, ev8⟩ : ∃ y : Int32, y = u4.2 + (1 : Int32) := ⟨_, rfl⟩
      have h := og_ov h ev8
      refine lv_iinc (v := v8) (lv' := [(3, .int v8), (1, .long v7), (4, .int r2), (0, .ref q)]) hx hb dX0_doubleArea_48 hl (k := 3) rfl (by rw [ev8]; rfl) (by decide) rfl (fun ls hl => ?_)
      refine lv_goto (tgt := 4) hx hb dX0_doubleArea_51 (by decide) ?_
      exact ki4 _ ls (Option.some.inj h).symm (lv_sub hl [3, 1, 0] rfl)
  · refine lv_lload_n hx hb dX0_doubleArea_54 rfl (lv_at hl 0 rfl) ?_
    obtain rfl := Option.some.inj h
    exact W.lret hx hb hr (fun t ht _ => ⟨rfl, ht⟩) (fun _ h9 => absurd h9 List.not_mem_nil) dX0_doubleArea_55
def s_X0_alongX_5 (xs : Nat → Int32) (ys : Nat → Int32) (n : Int32) (a1 : Int32) (a2 : Int32) (u5 : (Int64 × Int32)) : Option ((Int64 × Int32) ⊕ Int64) :=
  if a2 ≤ u5.2 then
  (some (.inr u5.1))
  else
  ((f_X0_next n u5.2).bind fun r2 =>
  (f_X0_x xs r2).bind fun r3 =>
  (f_X0_x xs u5.2).bind fun r4 =>
  (f_X0_y ys u5.2).bind fun r5 =>
  (f_X0_y ys r2).bind fun r6 =>
  (f_X0_mixedPowers (r5.toInt64) (r6.toInt64) a1).bind fun r7 =>
  ov (u5.1 + (((r3 - r4).toInt64) * r7)) fun v8 =>
  ov (u5.2 + (1 : Int32)) fun v9 =>
  some (.inl (v8, v9)))
def f_X0_alongX (xs : Nat → Int32) (ys : Nat → Int32) (n : Int32) (a1 : Int32) (a2 : Int32) : Option Int64 :=
  (lpf (s_X0_alongX_5 xs ys n a1 a2) 1000 ((0 : Int64), (0 : Int32))).bind fun x10 =>
  some x10
set_option maxHeartbeats 4000000 in
set_option maxRecDepth 100000 in
theorem k_X0_alongX (l : Launch) (D : va_G) (cI cF : ClassId) (q : Nat) (qx : Nat) (qy : Nat) (xs : Nat → Int32) (ys : Nat → Int32) (n : Int32) (a1 : Int32) (a2 : Int32) (r0 : Int64) (h : f_X0_alongX xs ys n a1 a2 = some r0) : Met l yX0_alongX wsX0_alongX ({ frames := 1, cells := 0, slots := 0, locals := 29 }) (va_Pc [.ref q, .int a1, .int a2] (fun U => wK D cI cF (figW cI q qx qy xs ys n) U)) (qS (.long r0)) 0 0 (fun _ => False) := by
  refine Met.ofW (cc := cX0_alongX) (maxL := 7) (ret := (some .long)) (by decide) rfl ?_
  intro p e s m args below meth c s₁ B hml hv
  obtain ⟨rfl, hK, hP⟩ := hv
  have hx := B.exec
  have hb := B.bytes
  have hr := B.returns
  have hts := atoms_spec (ws := wsX0_alongX) B.pre
  have hown : s.vm.findClass RX0 = some m.cls := findClass_of_methodNamed B.named
  have hlocks := B.notSynchronized
  have hl := lv_entry ([.ref q, .int a1, .int a2]) (n := 7) (Nat.le_of_ble_eq_true rfl)
  rw [lg_entry_eq]
  generalize (lg_sl ([.ref q, .int a1, .int a2]) ++ List.replicate (7 - (lg_sl ([.ref q, .int a1, .int a2])).length) Slot.unset).toArray = ls at hl ⊢
  have hl : lv_has ls 7 [(0, .ref q), (1, .int a1), (2, .int a2)] := hl
  unfold f_X0_alongX at h
  refine lv_lconst (v := 0) hx hb dX0_alongX_0 (by decide) ?_
  refine lv_lstore_n (lv' := [(3, .long (0 : Int64)), (0, .ref q), (1, .int a1), (2, .int a2)]) hx hb dX0_alongX_1 rfl hl (by decide) rfl (fun ls hl => ?_)
  refine lv_iconst (v := 0) hx hb dX0_alongX_2 (by decide) ?_
  refine lv_istore (lv' := [(5, .int (0 : Int32)), (3, .long (0 : Int64)), (0, .ref q), (1, .int a1), (2, .int a2)]) hx hb dX0_alongX_3 hl (by decide) rfl (fun ls hl => ?_)
  obtain ⟨x10, hN5, h⟩ := og_bind h
  refine wl hN5 5 61 (fun u5 ls => lv_has ls 7 [(0, .ref q), (1, .int a1), (2, .int a2), (3, .long u5.1), (5, .int u5.2)]) (fun x10 ls => lv_has ls 7 [(3, .long x10)]) (fun u5 xx h ki5 kx5 ls hl => ?_) (fun ls hl => ?_) (lv_sub hl [2, 3, 4, 1, 0] rfl)
  · unfold s_X0_alongX_5 at h
    refine lv_iload hx hb dX0_alongX_5 (lv_at hl 4 rfl) ?_
    refine lv_iload_n hx hb dX0_alongX_7 rfl (lv_at hl 2 rfl) ?_
    refine lv_icmp_ge (tgt := 61) hx hb dX0_alongX_8 (by decide) (fun c0 => ?_) (fun c0 => ?_)
    · rw [if_pos c0] at h
      exact kx5 _ ls (Option.some.inj h).symm (lv_sub hl [3] rfl)
    · rw [if_neg c0] at h
      refine lv_aload_n hx hb dX0_alongX_11 rfl (lv_at hl 0 rfl) ?_
      refine lv_iload hx hb dX0_alongX_12 (lv_at hl 4 rfl) ?_
      obtain ⟨r2, hcr2, h⟩ := og_bind h
      refine cp_s (va_runV (As := [.int u5.2]) (rest := []) ⟨hx, hb, hml, hown, hts⟩ (k_X0_next l D cI cF q qx qy xs ys n u5.2 _ hcr2) (cwV 1 hts gX0_alongX_X0_next rfl rfl rfl (by decide +kernel) ⟨(Nat.le_of_ble_eq_true rfl), (Nat.le_of_ble_eq_true rfl)⟩) (pre_v (q0 := 0) (ci := 0) hK hP rfl rfl) rfl rfl hl.1 rfl (lv_room (Nat.le_of_ble_eq_true rfl)) dX0_alongX_14 ⟨(Nat.zero_le _), (Nat.zero_le _)⟩) ?_
      refine lv_istore (lv' := [(6, .int r2), (0, .ref q), (1, .int a1), (2, .int a2), (3, .long u5.1), (5, .int u5.2)]) hx hb dX0_alongX_17 hl (by decide) rfl (fun ls hl => ?_)
      refine lv_lload_n hx hb dX0_alongX_19 rfl (lv_at hl 4 rfl) ?_
      refine lv_aload_n hx hb dX0_alongX_20 rfl (lv_at hl 1 rfl) ?_
      refine lv_iload hx hb dX0_alongX_21 (lv_at hl 0 rfl) ?_
      obtain ⟨r3, hcr3, h⟩ := og_bind h
      refine cp_s (va_runV (As := [.int r2]) (rest := [.long u5.1]) ⟨hx, hb, hml, hown, hts⟩ (k_X0_x l D cI cF q qx qy xs ys n r2 _ hcr3) (cwV 1 hts gX0_alongX_X0_x rfl rfl rfl (by decide +kernel) ⟨(Nat.le_of_ble_eq_true rfl), (Nat.le_of_ble_eq_true rfl)⟩) (pre_v (q0 := 0) (ci := 0) hK hP rfl rfl) rfl rfl hl.1 rfl (lv_room (Nat.le_of_ble_eq_true rfl)) dX0_alongX_23 ⟨(Nat.zero_le _), (Nat.zero_le _)⟩) ?_
      refine lv_aload_n hx hb dX0_alongX_26 rfl (lv_at hl 1 rfl) ?_
      refine lv_iload hx hb dX0_alongX_27 (lv_at hl 5 rfl) ?_
      obtain ⟨r4, hcr4, h⟩ := og_bind h
      refine cp_s (va_runV (As := [.int u5.2]) (rest := [.int r3, .long u5.1]) ⟨hx, hb, hml, hown, hts⟩ (k_X0_x l D cI cF q qx qy xs ys n u5.2 _ hcr4) (cwV 1 hts gX0_alongX_X0_x rfl rfl rfl (by decide +kernel) ⟨(Nat.le_of_ble_eq_true rfl), (Nat.le_of_ble_eq_true rfl)⟩) (pre_v (q0 := 0) (ci := 0) hK hP rfl rfl) rfl rfl hl.1 rfl (lv_room (Nat.le_of_ble_eq_true rfl)) dX0_alongX_29 ⟨(Nat.zero_le _), (Nat.zero_le _)⟩) ?_
      refine lv_isub hx hb dX0_alongX_32 ?_
      refine lv_i2l hx hb dX0_alongX_33 rfl ?_
      refine lv_aload_n hx hb dX0_alongX_34 rfl (lv_at hl 1 rfl) ?_
      refine lv_iload hx hb dX0_alongX_35 (lv_at hl 5 rfl) ?_
      obtain ⟨r5, hcr5, h⟩ := og_bind h
      refine cp_s (va_runV (As := [.int u5.2]) (rest := [.long ((r3 - r4).toInt64), .long u5.1]) ⟨hx, hb, hml, hown, hts⟩ (k_X0_y l D cI cF q qx qy xs ys n u5.2 _ hcr5) (cwV 1 hts gX0_alongX_X0_y rfl rfl rfl (by decide +kernel) ⟨(Nat.le_of_ble_eq_true rfl), (Nat.le_of_ble_eq_true rfl)⟩) (pre_v (q0 := 0) (ci := 0) hK hP rfl rfl) rfl rfl hl.1 rfl (lv_room (Nat.le_of_ble_eq_true rfl)) dX0_alongX_37 ⟨(Nat.zero_le _), (Nat.zero_le _)⟩) ?_
      refine lv_i2l hx hb dX0_alongX_40 rfl ?_
      refine lv_aload_n hx hb dX0_alongX_41 rfl (lv_at hl 1 rfl) ?_
      refine lv_iload hx hb dX0_alongX_42 (lv_at hl 0 rfl) ?_
      obtain ⟨r6, hcr6, h⟩ := og_bind h
      refine cp_s (va_runV (As := [.int r2]) (rest := [.long (r5.toInt64), .long ((r3 - r4).toInt64), .long u5.1]) ⟨hx, hb, hml, hown, hts⟩ (k_X0_y l D cI cF q qx qy xs ys n r2 _ hcr6) (cwV 1 hts gX0_alongX_X0_y rfl rfl rfl (by decide +kernel) ⟨(Nat.le_of_ble_eq_true rfl), (Nat.le_of_ble_eq_true rfl)⟩) (pre_v (q0 := 0) (ci := 0) hK hP rfl rfl) rfl rfl hl.1 rfl (lv_room (Nat.le_of_ble_eq_true rfl)) dX0_alongX_44 ⟨(Nat.zero_le _), (Nat.zero_le _)⟩) ?_
      refine lv_i2l hx hb dX0_alongX_47 rfl ?_
      refine lv_iload_n hx hb dX0_alongX_48 rfl (lv_at hl 2 rfl) ?_
      obtain ⟨r7, hcr7, h⟩ := og_bind h
      refine cp_s (va_runS (As := [.long (r5.toInt64), .long (r6.toInt64), .int a1]) (rest := [.long ((r3 - r4).toInt64), .long u5.1]) ⟨hx, hb, hml, hown, hts⟩ (k_X0_mixedPowers l (r5.toInt64) (r6.toInt64) a1 _ hcr7) (va_cwS 3 hts gX0_alongX_X0_mixedPowers rfl rfl rfl (by decide +kernel) ⟨(Nat.le_of_ble_eq_true rfl), (Nat.le_of_ble_eq_true rfl)⟩) pre_s rfl rfl hl.1 rfl (lv_room (Nat.le_of_ble_eq_true rfl)) dX0_alongX_49 ⟨(Nat.zero_le _), (Nat.zero_le _)⟩) ?_
      refine lv_lmul hx hb dX0_alongX_52 ?_
      refine lv_ladd hx hb dX0_alongX_53 ?_
      refine lv_topl (fun v8 ev8 => ?_)
      have h := og_ov h ev8
      refine lv_lstore_n (lv' := [(3, .long v8), (6, .int r2), (0, .ref q), (1, .int a1), (2, .int a2), (5, .int u5.2)]) hx hb dX0_alongX_54 rfl hl (by decide) rfl (fun ls hl => ?_)
      obtain ⟨v9, ev9⟩ : ∃ y : Int32, y = u5.2 + (1 : Int32) := ⟨_, rfl⟩
      have h := og_ov h ev9
      refine lv_iinc (v := v9) (lv' := [(5, .int v9), (3, .long v8), (6, .int r2), (0, .ref q), (1, .int a1), (2, .int a2)]) hx hb dX0_alongX_55 hl (k := 5) rfl (by rw [ev9]; rfl) (by decide) rfl (fun ls hl => ?_)
      refine lv_goto (tgt := 5) hx hb dX0_alongX_58 (by decide) ?_
      exact ki5 _ ls (Option.some.inj h).symm (lv_sub hl [3, 4, 5, 1, 0] rfl)
  · refine lv_lload_n hx hb dX0_alongX_61 rfl (lv_at hl 0 rfl) ?_
    obtain rfl := Option.some.inj h
    exact W.lret hx hb hr (fun t ht _ => ⟨rfl, ht⟩) (fun _ h9 => absurd h9 List.not_mem_nil) dX0_alongX_62
def s_X0_staysNearer_2 (ys : Nat → Int32) (n : Int32) (a1 : Int32) (u2 : Int32) : Option (Int32 ⊕ (Int32 ⊕ Unit)) :=
  if n ≤ u2 then
  (some (.inr (.inr ())))
  else
  ((f_X0_y ys u2).bind fun r2 =>
  ov (mabs r2) fun v3 =>
  if v3 < a1 then
  (ov (u2 + (1 : Int32)) fun v5 =>
  some (.inl v5))
  else
  (some (.inr (.inl (0 : Int32)))))
def f_X0_staysNearer (ys : Nat → Int32) (n : Int32) (a1 : Int32) : Option Int32 :=
  (lpf (s_X0_staysNearer_2 ys n a1) 1000 (0 : Int32)).bind fun o7 => ret2 o7 (fun r9 => some r9) fun x6 =>
  some (1 : Int32)
set_option maxHeartbeats 4000000 in
set_option maxRecDepth 100000 in
theorem k_X0_staysNearer (l : Launch) (D : va_G) (cI cF : ClassId) (q : Nat) (qx : Nat) (qy : Nat) (xs : Nat → Int32) (ys : Nat → Int32) (n : Int32) (a1 : Int32) (r0 : Int32) (h : f_X0_staysNearer ys n a1 = some r0) : Met l yX0_staysNearer wsX0_staysNearer ({ frames := 1, cells := 0, slots := 0, locals := 21 }) (va_Pc [.ref q, .int a1] (fun U => wK D cI cF (figW cI q qx qy xs ys n) U)) (qS (.int r0)) 0 0 (fun _ => False) := by
  refine Met.ofW (cc := cX0_staysNearer) (maxL := 3) (ret := (some .boolean)) (by decide) rfl ?_
  intro p e s m args below meth c s₁ B hml hv
  obtain ⟨rfl, hK, hP⟩ := hv
  have hx := B.exec
  have hb := B.bytes
  have hr := B.returns
  have hts := atoms_spec (ws := wsX0_staysNearer) B.pre
  have hown : s.vm.findClass RX0 = some m.cls := findClass_of_methodNamed B.named
  have hlocks := B.notSynchronized
  have ht1 := hts (.fieldLink RX0 18 "DrawnAreas$Figure" "size" "I") (by decide +kernel)
  have hinX0 : ∀ w ∈ u_ws RX0 TX0 3, w ∈ wsX0_staysNearer := by decide +kernel
  have ht3 := hts (.methodLink RX0 44 Lib.Math.abs.name) (by decide +kernel)
  have ht4 := hts (.static Lib.Math.abs.name) (by decide +kernel)
  have ht5 := hts (.initialized "java/lang/Math") (by decide +kernel)
  have ht6 := hts (.code Lib.Math.abs.name Lib.Math.abs.code 1 (some .int)) (by decide +kernel)
  have hl := lv_entry ([.ref q, .int a1]) (n := 3) (Nat.le_of_ble_eq_true rfl)
  rw [lg_entry_eq]
  generalize (lg_sl ([.ref q, .int a1]) ++ List.replicate (3 - (lg_sl ([.ref q, .int a1])).length) Slot.unset).toArray = ls at hl ⊢
  have hl : lv_has ls 3 [(0, .ref q), (1, .int a1)] := hl
  unfold f_X0_staysNearer at h
  refine lv_iconst (v := 0) hx hb dX0_staysNearer_0 (by decide) ?_
  refine lv_istore_n (lv' := [(2, .int (0 : Int32)), (0, .ref q), (1, .int a1)]) hx hb dX0_staysNearer_1 rfl hl (by decide) rfl (fun ls hl => ?_)
  obtain ⟨o7, hN2, h⟩ := og_bind h
  refine wlr (r0 := r0) hN2 2 30 (fun u2 ls => lv_has ls 3 [(0, .ref q), (1, .int a1), (2, .int u2)]) (fun x6 ls => lv_has ls 3 []) (fun u2 xx h ki2 kx2 kr2 ls hl => ?_) (fun r9 e9 => ?_) (fun x6 ls e9 hl => ?_) (lv_sub hl [1, 2, 0] rfl)
  · unfold s_X0_staysNearer_2 at h
    refine lv_iload_n hx hb dX0_staysNearer_2 rfl (lv_at hl 2 rfl) ?_
    refine lv_aload_n hx hb dX0_staysNearer_3 rfl (lv_at hl 0 rfl) ?_
    refine va_get (D := D) (ci := 0) (v := .int n) (C := RX0) (T := TX0) (N := 3) hx hb hts hinX0 hown hK hP 0 rfl rfl 2 (by decide) ht1 (fun _ h9 => h9) rfl dX0_staysNearer_4 ?_
    refine lv_icmp_ge (tgt := 30) hx hb dX0_staysNearer_7 (by decide) (fun c0 => ?_) (fun c0 => ?_)
    · rw [if_pos c0] at h
      exact kx2 _ ls (Option.some.inj h).symm (lv_sub hl [] rfl)
    · rw [if_neg c0] at h
      refine lv_aload_n hx hb dX0_staysNearer_10 rfl (lv_at hl 0 rfl) ?_
      refine lv_iload_n hx hb dX0_staysNearer_11 rfl (lv_at hl 2 rfl) ?_
      obtain ⟨r2, hcr2, h⟩ := og_bind h
      refine cp_s (va_runV (As := [.int u2]) (rest := []) ⟨hx, hb, hml, hown, hts⟩ (k_X0_y l D cI cF q qx qy xs ys n u2 _ hcr2) (cwV 1 hts gX0_staysNearer_X0_y rfl rfl rfl (by decide +kernel) ⟨(Nat.le_of_ble_eq_true rfl), (Nat.le_of_ble_eq_true rfl)⟩) (pre_v (q0 := 0) (ci := 0) hK hP rfl rfl) rfl rfl hl.1 rfl (lv_room (Nat.le_of_ble_eq_true rfl)) dX0_staysNearer_12 ⟨(Nat.zero_le _), (Nat.zero_le _)⟩) ?_
      refine va_mabs hx hb (hml.trans hl.1.symm) hown ht3 ht4 ht5 ht6 (Nat.le_of_ble_eq_true rfl) (Nat.le_of_ble_eq_true rfl) (Nat.le_of_ble_eq_true rfl) (Nat.le_of_ble_eq_true rfl) dX0_staysNearer_15 ?_
      refine lv_topi (fun v3 ev3 => ?_)
      have h := og_ov h ev3
      refine lv_iload_n hx hb dX0_staysNearer_18 rfl (lv_at hl 1 rfl) ?_
      refine lv_icmp_lt (tgt := 24) hx hb dX0_staysNearer_19 (by decide) (fun c3 => ?_) (fun c3 => ?_)
      · rw [if_pos c3] at h
        obtain ⟨v5, ev5⟩ : ∃ y : Int32, y = u2 + (1 : Int32) := ⟨_, rfl⟩
        have h := og_ov h ev5
        refine lv_iinc (v := v5) (lv' := [(2, .int v5), (0, .ref q), (1, .int a1)]) hx hb dX0_staysNearer_24 hl (k := 2) rfl (by rw [ev5]; rfl) (by decide) rfl (fun ls hl => ?_)
        refine lv_goto (tgt := 2) hx hb dX0_staysNearer_27 (by decide) ?_
        exact ki2 _ ls (Option.some.inj h).symm (lv_sub hl [1, 2, 0] rfl)
      · rw [if_neg c3] at h
        refine lv_iconst (v := 0) hx hb dX0_staysNearer_22 (by decide) ?_
        obtain rfl := kr2 _ (Option.some.inj h).symm
        exact W.zret hx hb hr rfl (fun t ht _ => ⟨rfl, ht⟩) (fun _ h9 => absurd h9 List.not_mem_nil) dX0_staysNearer_23
  · subst e9
    exact Option.some.inj h
  · subst e9
    dsimp only [ret2] at h
    refine lv_iconst (v := 1) hx hb dX0_staysNearer_30 (by decide) ?_
    obtain rfl := Option.some.inj h
    exact W.zret hx hb hr rfl (fun t ht _ => ⟨rfl, ht⟩) (fun _ h9 => absurd h9 List.not_mem_nil) dX0_staysNearer_31
def f_X0_leftOf (xs : Nat → Int32) (ys : Nat → Int32) (n : Int32) (a1 : Int32) (a2 : Int64) (a3 : Int64) : Option Int64 :=
  (f_X0_next n a1).bind fun r1 =>
  (f_X0_x xs r1).bind fun r2 =>
  (f_X0_x xs a1).bind fun r3 =>
  (f_X0_y ys a1).bind fun r4 =>
  (f_X0_x xs a1).bind fun r5 =>
  (f_X0_y ys r1).bind fun r6 =>
  (f_X0_y ys a1).bind fun r7 =>
  some ((((r2 - r3).toInt64) * (a3 - (r4.toInt64))) - ((a2 - (r5.toInt64)) * ((r6 - r7).toInt64)))
set_option maxHeartbeats 4000000 in
set_option maxRecDepth 100000 in
theorem k_X0_leftOf (l : Launch) (D : va_G) (cI cF : ClassId) (q : Nat) (qx : Nat) (qy : Nat) (xs : Nat → Int32) (ys : Nat → Int32) (n : Int32) (a1 : Int32) (a2 : Int64) (a3 : Int64) (r0 : Int64) (h : f_X0_leftOf xs ys n a1 a2 a3 = some r0) : Met l yX0_leftOf wsX0_leftOf ({ frames := 1, cells := 0, slots := 0, locals := 21 }) (va_Pc [.ref q, .int a1, .long a2, .long a3] (fun U => wK D cI cF (figW cI q qx qy xs ys n) U)) (qS (.long r0)) 0 0 (fun _ => False) := by
  refine Met.ofW (cc := cX0_leftOf) (maxL := 7) (ret := (some .long)) (by decide) rfl ?_
  intro p e s m args below meth c s₁ B hml hv
  obtain ⟨rfl, hK, hP⟩ := hv
  have hx := B.exec
  have hb := B.bytes
  have hr := B.returns
  have hts := atoms_spec (ws := wsX0_leftOf) B.pre
  have hown : s.vm.findClass RX0 = some m.cls := findClass_of_methodNamed B.named
  have hlocks := B.notSynchronized
  have hl := lv_entry ([.ref q, .int a1, .long a2, .long a3]) (n := 7) (Nat.le_of_ble_eq_true rfl)
  rw [lg_entry_eq]
  generalize (lg_sl ([.ref q, .int a1, .long a2, .long a3]) ++ List.replicate (7 - (lg_sl ([.ref q, .int a1, .long a2, .long a3])).length) Slot.unset).toArray = ls at hl ⊢
  have hl : lv_has ls 7 [(0, .ref q), (1, .int a1), (2, .long a2), (4, .long a3)] := hl
  unfold f_X0_leftOf at h
  refine lv_aload_n hx hb dX0_leftOf_0 rfl (lv_at hl 0 rfl) ?_
  refine lv_iload_n hx hb dX0_leftOf_1 rfl (lv_at hl 1 rfl) ?_
  obtain ⟨r1, hcr1, h⟩ := og_bind h
  refine cp_s (va_runV (As := [.int a1]) (rest := []) ⟨hx, hb, hml, hown, hts⟩ (k_X0_next l D cI cF q qx qy xs ys n a1 _ hcr1) (cwV 1 hts gX0_leftOf_X0_next rfl rfl rfl (by decide +kernel) ⟨(Nat.le_of_ble_eq_true rfl), (Nat.le_of_ble_eq_true rfl)⟩) (pre_v (q0 := 0) (ci := 0) hK hP rfl rfl) rfl rfl hl.1 rfl (lv_room (Nat.le_of_ble_eq_true rfl)) dX0_leftOf_2 ⟨(Nat.zero_le _), (Nat.zero_le _)⟩) ?_
  refine lv_istore (lv' := [(6, .int r1), (0, .ref q), (1, .int a1), (2, .long a2), (4, .long a3)]) hx hb dX0_leftOf_5 hl (by decide) rfl (fun ls hl => ?_)
  refine lv_aload_n hx hb dX0_leftOf_7 rfl (lv_at hl 1 rfl) ?_
  refine lv_iload hx hb dX0_leftOf_8 (lv_at hl 0 rfl) ?_
  obtain ⟨r2, hcr2, h⟩ := og_bind h
  refine cp_s (va_runV (As := [.int r1]) (rest := []) ⟨hx, hb, hml, hown, hts⟩ (k_X0_x l D cI cF q qx qy xs ys n r1 _ hcr2) (cwV 1 hts gX0_leftOf_X0_x rfl rfl rfl (by decide +kernel) ⟨(Nat.le_of_ble_eq_true rfl), (Nat.le_of_ble_eq_true rfl)⟩) (pre_v (q0 := 0) (ci := 0) hK hP rfl rfl) rfl rfl hl.1 rfl (lv_room (Nat.le_of_ble_eq_true rfl)) dX0_leftOf_10 ⟨(Nat.zero_le _), (Nat.zero_le _)⟩) ?_
  refine lv_aload_n hx hb dX0_leftOf_13 rfl (lv_at hl 1 rfl) ?_
  refine lv_iload_n hx hb dX0_leftOf_14 rfl (lv_at hl 2 rfl) ?_
  obtain ⟨r3, hcr3, h⟩ := og_bind h
  refine cp_s (va_runV (As := [.int a1]) (rest := [.int r2]) ⟨hx, hb, hml, hown, hts⟩ (k_X0_x l D cI cF q qx qy xs ys n a1 _ hcr3) (cwV 1 hts gX0_leftOf_X0_x rfl rfl rfl (by decide +kernel) ⟨(Nat.le_of_ble_eq_true rfl), (Nat.le_of_ble_eq_true rfl)⟩) (pre_v (q0 := 0) (ci := 0) hK hP rfl rfl) rfl rfl hl.1 rfl (lv_room (Nat.le_of_ble_eq_true rfl)) dX0_leftOf_15 ⟨(Nat.zero_le _), (Nat.zero_le _)⟩) ?_
  refine lv_isub hx hb dX0_leftOf_18 ?_
  refine lv_i2l hx hb dX0_leftOf_19 rfl ?_
  refine lv_lload hx hb dX0_leftOf_20 (lv_at hl 4 rfl) ?_
  refine lv_aload_n hx hb dX0_leftOf_22 rfl (lv_at hl 1 rfl) ?_
  refine lv_iload_n hx hb dX0_leftOf_23 rfl (lv_at hl 2 rfl) ?_
  obtain ⟨r4, hcr4, h⟩ := og_bind h
  refine cp_s (va_runV (As := [.int a1]) (rest := [.long a3, .long ((r2 - r3).toInt64)]) ⟨hx, hb, hml, hown, hts⟩ (k_X0_y l D cI cF q qx qy xs ys n a1 _ hcr4) (cwV 1 hts gX0_leftOf_X0_y rfl rfl rfl (by decide +kernel) ⟨(Nat.le_of_ble_eq_true rfl), (Nat.le_of_ble_eq_true rfl)⟩) (pre_v (q0 := 0) (ci := 0) hK hP rfl rfl) rfl rfl hl.1 rfl (lv_room (Nat.le_of_ble_eq_true rfl)) dX0_leftOf_24 ⟨(Nat.zero_le _), (Nat.zero_le _)⟩) ?_
  refine lv_i2l hx hb dX0_leftOf_27 rfl ?_
  refine lv_lsub hx hb dX0_leftOf_28 ?_
  refine lv_lmul hx hb dX0_leftOf_29 ?_
  refine lv_lload_n hx hb dX0_leftOf_30 rfl (lv_at hl 3 rfl) ?_
  refine lv_aload_n hx hb dX0_leftOf_31 rfl (lv_at hl 1 rfl) ?_
  refine lv_iload_n hx hb dX0_leftOf_32 rfl (lv_at hl 2 rfl) ?_
  obtain ⟨r5, hcr5, h⟩ := og_bind h
  refine cp_s (va_runV (As := [.int a1]) (rest := [.long a2, .long (((r2 - r3).toInt64) * (a3 - (r4.toInt64)))]) ⟨hx, hb, hml, hown, hts⟩ (k_X0_x l D cI cF q qx qy xs ys n a1 _ hcr5) (cwV 1 hts gX0_leftOf_X0_x rfl rfl rfl (by decide +kernel) ⟨(Nat.le_of_ble_eq_true rfl), (Nat.le_of_ble_eq_true rfl)⟩) (pre_v (q0 := 0) (ci := 0) hK hP rfl rfl) rfl rfl hl.1 rfl (lv_room (Nat.le_of_ble_eq_true rfl)) dX0_leftOf_33 ⟨(Nat.zero_le _), (Nat.zero_le _)⟩) ?_
  refine lv_i2l hx hb dX0_leftOf_36 rfl ?_
  refine lv_lsub hx hb dX0_leftOf_37 ?_
  refine lv_aload_n hx hb dX0_leftOf_38 rfl (lv_at hl 1 rfl) ?_
  refine lv_iload hx hb dX0_leftOf_39 (lv_at hl 0 rfl) ?_
  obtain ⟨r6, hcr6, h⟩ := og_bind h
  refine cp_s (va_runV (As := [.int r1]) (rest := [.long (a2 - (r5.toInt64)), .long (((r2 - r3).toInt64) * (a3 - (r4.toInt64)))]) ⟨hx, hb, hml, hown, hts⟩ (k_X0_y l D cI cF q qx qy xs ys n r1 _ hcr6) (cwV 1 hts gX0_leftOf_X0_y rfl rfl rfl (by decide +kernel) ⟨(Nat.le_of_ble_eq_true rfl), (Nat.le_of_ble_eq_true rfl)⟩) (pre_v (q0 := 0) (ci := 0) hK hP rfl rfl) rfl rfl hl.1 rfl (lv_room (Nat.le_of_ble_eq_true rfl)) dX0_leftOf_41 ⟨(Nat.zero_le _), (Nat.zero_le _)⟩) ?_
  refine lv_aload_n hx hb dX0_leftOf_44 rfl (lv_at hl 1 rfl) ?_
  refine lv_iload_n hx hb dX0_leftOf_45 rfl (lv_at hl 2 rfl) ?_
  obtain ⟨r7, hcr7, h⟩ := og_bind h
  refine cp_s (va_runV (As := [.int a1]) (rest := [.int r6, .long (a2 - (r5.toInt64)), .long (((r2 - r3).toInt64) * (a3 - (r4.toInt64)))]) ⟨hx, hb, hml, hown, hts⟩ (k_X0_y l D cI cF q qx qy xs ys n a1 _ hcr7) (cwV 1 hts gX0_leftOf_X0_y rfl rfl rfl (by decide +kernel) ⟨(Nat.le_of_ble_eq_true rfl), (Nat.le_of_ble_eq_true rfl)⟩) (pre_v (q0 := 0) (ci := 0) hK hP rfl rfl) rfl rfl hl.1 rfl (lv_room (Nat.le_of_ble_eq_true rfl)) dX0_leftOf_46 ⟨(Nat.zero_le _), (Nat.zero_le _)⟩) ?_
  refine lv_isub hx hb dX0_leftOf_49 ?_
  refine lv_i2l hx hb dX0_leftOf_50 rfl ?_
  refine lv_lmul hx hb dX0_leftOf_51 ?_
  refine lv_lsub hx hb dX0_leftOf_52 ?_
  obtain rfl := Option.some.inj h
  exact W.lret hx hb hr (fun t ht _ => ⟨rfl, ht⟩) (fun _ h9 => absurd h9 List.not_mem_nil) dX0_leftOf_53
def f_X0_between (a1 : Int64) (a2 : Int32) (a3 : Int32) : Option Int32 :=
  ov (mmin a2 a3) fun v1 =>
  if (lg_cmp a1 (v1.toInt64)) < (0) then
  (some (0 : Int32))
  else
  (ov (mmax a2 a3) fun v3 =>
  if (0) < (lg_cmp a1 (v3.toInt64)) then
  (some (0 : Int32))
  else
  (some (1 : Int32)))
set_option maxHeartbeats 4000000 in
set_option maxRecDepth 100000 in
theorem k_X0_between (l : Launch) (a1 : Int64) (a2 : Int32) (a3 : Int32) (r0 : Int32) (h : f_X0_between a1 a2 a3 = some r0) : Met l yX0_between wsX0_between ({ frames := 1, cells := 0, slots := 0, locals := 15 }) (va_Pc [.long a1, .int a2, .int a3] (fun _ => True)) (qS (.int r0)) 0 0 (fun _ => False) := by
  refine Met.ofW (cc := cX0_between) (maxL := 4) (ret := (some .boolean)) (by decide) rfl ?_
  intro p e s m args below meth c s₁ B hml hv
  obtain ⟨rfl, -⟩ := hv
  have hx := B.exec
  have hb := B.bytes
  have hr := B.returns
  have hts := atoms_spec (ws := wsX0_between) B.pre
  have hown : s.vm.findClass RX0 = some m.cls := findClass_of_methodNamed B.named
  have hlocks := B.notSynchronized
  have ht1 := hts (.methodLink RX0 49 Lib.Math.min.name) (by decide +kernel)
  have ht2 := hts (.static Lib.Math.min.name) (by decide +kernel)
  have ht3 := hts (.initialized "java/lang/Math") (by decide +kernel)
  have ht4 := hts (.code Lib.Math.min.name Lib.Math.min.code 2 (some .int)) (by decide +kernel)
  have ht5 := hts (.methodLink RX0 53 Lib.Math.max.name) (by decide +kernel)
  have ht6 := hts (.static Lib.Math.max.name) (by decide +kernel)
  have ht7 := hts (.code Lib.Math.max.name Lib.Math.max.code 2 (some .int)) (by decide +kernel)
  have hl := lv_entry ([.long a1, .int a2, .int a3]) (n := 4) (Nat.le_of_ble_eq_true rfl)
  rw [lg_entry_eq]
  generalize (lg_sl ([.long a1, .int a2, .int a3]) ++ List.replicate (4 - (lg_sl ([.long a1, .int a2, .int a3])).length) Slot.unset).toArray = ls at hl ⊢
  have hl : lv_has ls 4 [(0, .long a1), (2, .int a2), (3, .int a3)] := hl
  unfold f_X0_between at h
  refine lv_lload_n hx hb dX0_between_0 rfl (lv_at hl 0 rfl) ?_
  refine lv_iload_n hx hb dX0_between_1 rfl (lv_at hl 1 rfl) ?_
  refine lv_iload_n hx hb dX0_between_2 rfl (lv_at hl 2 rfl) ?_
  refine va_mmin hx hb (hml.trans hl.1.symm) hown ht1 ht2 ht3 ht4 (Nat.le_of_ble_eq_true rfl) (Nat.le_of_ble_eq_true rfl) (Nat.le_of_ble_eq_true rfl) (Nat.le_of_ble_eq_true rfl) dX0_between_3 ?_
  refine lv_topi (fun v1 ev1 => ?_)
  have h := og_ov h ev1
  refine lv_i2l hx hb dX0_between_6 rfl ?_
  refine W.lcmp hx hb dX0_between_7 ?_
  refine lv_if_lt (tgt := 26) hx hb dX0_between_8 (by decide) (fun c1 => ?_) (fun c1 => ?_)
  · rw [if_pos c1] at h
    refine lv_iconst (v := 0) hx hb dX0_between_26 (by decide) ?_
    obtain rfl := Option.some.inj h
    exact W.zret hx hb hr rfl (fun t ht _ => ⟨rfl, ht⟩) (fun _ h9 => absurd h9 List.not_mem_nil) dX0_between_27
  · rw [if_neg c1] at h
    refine lv_lload_n hx hb dX0_between_11 rfl (lv_at hl 0 rfl) ?_
    refine lv_iload_n hx hb dX0_between_12 rfl (lv_at hl 1 rfl) ?_
    refine lv_iload_n hx hb dX0_between_13 rfl (lv_at hl 2 rfl) ?_
    refine va_mmax hx hb (hml.trans hl.1.symm) hown ht5 ht6 ht3 ht7 (Nat.le_of_ble_eq_true rfl) (Nat.le_of_ble_eq_true rfl) (Nat.le_of_ble_eq_true rfl) (Nat.le_of_ble_eq_true rfl) dX0_between_14 ?_
    refine lv_topi (fun v3 ev3 => ?_)
    have h := og_ov h ev3
    refine lv_i2l hx hb dX0_between_17 rfl ?_
    refine W.lcmp hx hb dX0_between_18 ?_
    refine lv_if_gt (tgt := 26) hx hb dX0_between_19 (by decide) (fun c3 => ?_) (fun c3 => ?_)
    · rw [if_pos c3] at h
      refine lv_iconst (v := 0) hx hb dX0_between_26 (by decide) ?_
      obtain rfl := Option.some.inj h
      exact W.zret hx hb hr rfl (fun t ht _ => ⟨rfl, ht⟩) (fun _ h9 => absurd h9 List.not_mem_nil) dX0_between_27
    · rw [if_neg c3] at h
      refine lv_iconst (v := 1) hx hb dX0_between_22 (by decide) ?_
      refine lv_goto (tgt := 27) hx hb dX0_between_23 (by decide) ?_
      obtain rfl := Option.some.inj h
      exact W.zret hx hb hr rfl (fun t ht _ => ⟨rfl, ht⟩) (fun _ h9 => absurd h9 List.not_mem_nil) dX0_between_27
def f_X0_sideCarries (xs : Nat → Int32) (ys : Nat → Int32) (n : Int32) (a1 : Int32) (a2 : Int32) (a3 : Int32) : Option Int32 :=
  (f_X0_next n a1).bind fun r1 =>
  (f_X0_leftOf xs ys n a1 (a2.toInt64) (a3.toInt64)).bind fun r2 =>
  if (lg_cmp r2 (0 : Int64)) = (0) then
  ((f_X0_x xs a1).bind fun r4 =>
  (f_X0_x xs r1).bind fun r5 =>
  (f_X0_between (a2.toInt64) r4 r5).bind fun r6 =>
  if r6 = (0) then
  (some (0 : Int32))
  else
  ((f_X0_y ys a1).bind fun r8 =>
  (f_X0_y ys r1).bind fun r9 =>
  (f_X0_between (a3.toInt64) r8 r9).bind fun r10 =>
  if r10 = (0) then
  (some (0 : Int32))
  else
  (some (1 : Int32))))
  else
  (some (0 : Int32))
set_option maxHeartbeats 4000000 in
set_option maxRecDepth 100000 in
theorem k_X0_sideCarries (l : Launch) (D : va_G) (cI cF : ClassId) (q : Nat) (qx : Nat) (qy : Nat) (xs : Nat → Int32) (ys : Nat → Int32) (n : Int32) (a1 : Int32) (a2 : Int32) (a3 : Int32) (r0 : Int32) (h : f_X0_sideCarries xs ys n a1 a2 a3 = some r0) : Met l yX0_sideCarries wsX0_sideCarries ({ frames := 2, cells := 0, slots := 0, locals := 47 }) (va_Pc [.ref q, .int a1, .int a2, .int a3] (fun U => wK D cI cF (figW cI q qx qy xs ys n) U)) (qS (.int r0)) 0 0 (fun _ => False) := by
  refine Met.ofW (cc := cX0_sideCarries) (maxL := 5) (ret := (some .boolean)) (by decide) rfl ?_
  intro p e s m args below meth c s₁ B hml hv
  obtain ⟨rfl, hK, hP⟩ := hv
  have hx := B.exec
  have hb := B.bytes
  have hr := B.returns
  have hts := atoms_spec (ws := wsX0_sideCarries) B.pre
  have hown : s.vm.findClass RX0 = some m.cls := findClass_of_methodNamed B.named
  have hlocks := B.notSynchronized
  have hl := lv_entry ([.ref q, .int a1, .int a2, .int a3]) (n := 5) (Nat.le_of_ble_eq_true rfl)
  rw [lg_entry_eq]
  generalize (lg_sl ([.ref q, .int a1, .int a2, .int a3]) ++ List.replicate (5 - (lg_sl ([.ref q, .int a1, .int a2, .int a3])).length) Slot.unset).toArray = ls at hl ⊢
  have hl : lv_has ls 5 [(0, .ref q), (1, .int a1), (2, .int a2), (3, .int a3)] := hl
  unfold f_X0_sideCarries at h
  refine lv_aload_n hx hb dX0_sideCarries_0 rfl (lv_at hl 0 rfl) ?_
  refine lv_iload_n hx hb dX0_sideCarries_1 rfl (lv_at hl 1 rfl) ?_
  obtain ⟨r1, hcr1, h⟩ := og_bind h
  refine cp_s (va_runV (As := [.int a1]) (rest := []) ⟨hx, hb, hml, hown, hts⟩ (k_X0_next l D cI cF q qx qy xs ys n a1 _ hcr1) (cwV 1 hts gX0_sideCarries_X0_next rfl rfl rfl (by decide +kernel) ⟨(Nat.le_of_ble_eq_true rfl), (Nat.le_of_ble_eq_true rfl)⟩) (pre_v (q0 := 0) (ci := 0) hK hP rfl rfl) rfl rfl hl.1 rfl (lv_room (Nat.le_of_ble_eq_true rfl)) dX0_sideCarries_2 ⟨(Nat.zero_le _), (Nat.zero_le _)⟩) ?_
  refine lv_istore (lv' := [(4, .int r1), (0, .ref q), (1, .int a1), (2, .int a2), (3, .int a3)]) hx hb dX0_sideCarries_5 hl (by decide) rfl (fun ls hl => ?_)
  refine lv_aload_n hx hb dX0_sideCarries_7 rfl (lv_at hl 1 rfl) ?_
  refine lv_iload_n hx hb dX0_sideCarries_8 rfl (lv_at hl 2 rfl) ?_
  refine lv_iload_n hx hb dX0_sideCarries_9 rfl (lv_at hl 3 rfl) ?_
  refine lv_i2l hx hb dX0_sideCarries_10 rfl ?_
  refine lv_iload_n hx hb dX0_sideCarries_11 rfl (lv_at hl 4 rfl) ?_
  refine lv_i2l hx hb dX0_sideCarries_12 rfl ?_
  obtain ⟨r2, hcr2, h⟩ := og_bind h
  refine cp_s (va_runV (As := [.int a1, .long (a2.toInt64), .long (a3.toInt64)]) (rest := []) ⟨hx, hb, hml, hown, hts⟩ (k_X0_leftOf l D cI cF q qx qy xs ys n a1 (a2.toInt64) (a3.toInt64) _ hcr2) (cwV 3 hts gX0_sideCarries_X0_leftOf rfl rfl rfl (by decide +kernel) ⟨(Nat.le_of_ble_eq_true rfl), (Nat.le_of_ble_eq_true rfl)⟩) (pre_v (q0 := 0) (ci := 0) hK hP rfl rfl) rfl rfl hl.1 rfl (lv_room (Nat.le_of_ble_eq_true rfl)) dX0_sideCarries_13 ⟨(Nat.zero_le _), (Nat.zero_le _)⟩) ?_
  refine lv_lconst (v := 0) hx hb dX0_sideCarries_16 (by decide) ?_
  refine W.lcmp hx hb dX0_sideCarries_17 ?_
  refine lv_if_ne (tgt := 63) hx hb dX0_sideCarries_18 (by decide) (fun c2 => ?_) (fun c2 => ?_)
  · rw [if_neg c2] at h
    refine lv_iconst (v := 0) hx hb dX0_sideCarries_63 (by decide) ?_
    obtain rfl := Option.some.inj h
    exact W.zret hx hb hr rfl (fun t ht _ => ⟨rfl, ht⟩) (fun _ h9 => absurd h9 List.not_mem_nil) dX0_sideCarries_64
  · rw [if_pos c2] at h
    refine lv_iload_n hx hb dX0_sideCarries_21 rfl (lv_at hl 3 rfl) ?_
    refine lv_i2l hx hb dX0_sideCarries_22 rfl ?_
    refine lv_aload_n hx hb dX0_sideCarries_23 rfl (lv_at hl 1 rfl) ?_
    refine lv_iload_n hx hb dX0_sideCarries_24 rfl (lv_at hl 2 rfl) ?_
    obtain ⟨r4, hcr4, h⟩ := og_bind h
    refine cp_s (va_runV (As := [.int a1]) (rest := [.long (a2.toInt64)]) ⟨hx, hb, hml, hown, hts⟩ (k_X0_x l D cI cF q qx qy xs ys n a1 _ hcr4) (cwV 1 hts gX0_sideCarries_X0_x rfl rfl rfl (by decide +kernel) ⟨(Nat.le_of_ble_eq_true rfl), (Nat.le_of_ble_eq_true rfl)⟩) (pre_v (q0 := 0) (ci := 0) hK hP rfl rfl) rfl rfl hl.1 rfl (lv_room (Nat.le_of_ble_eq_true rfl)) dX0_sideCarries_25 ⟨(Nat.zero_le _), (Nat.zero_le _)⟩) ?_
    refine lv_aload_n hx hb dX0_sideCarries_28 rfl (lv_at hl 1 rfl) ?_
    refine lv_iload hx hb dX0_sideCarries_29 (lv_at hl 0 rfl) ?_
    obtain ⟨r5, hcr5, h⟩ := og_bind h
    refine cp_s (va_runV (As := [.int r1]) (rest := [.int r4, .long (a2.toInt64)]) ⟨hx, hb, hml, hown, hts⟩ (k_X0_x l D cI cF q qx qy xs ys n r1 _ hcr5) (cwV 1 hts gX0_sideCarries_X0_x rfl rfl rfl (by decide +kernel) ⟨(Nat.le_of_ble_eq_true rfl), (Nat.le_of_ble_eq_true rfl)⟩) (pre_v (q0 := 0) (ci := 0) hK hP rfl rfl) rfl rfl hl.1 rfl (lv_room (Nat.le_of_ble_eq_true rfl)) dX0_sideCarries_31 ⟨(Nat.zero_le _), (Nat.zero_le _)⟩) ?_
    obtain ⟨r6, hcr6, h⟩ := og_bind h
    refine cp_s (va_runS (As := [.long (a2.toInt64), .int r4, .int r5]) (rest := []) ⟨hx, hb, hml, hown, hts⟩ (k_X0_between l (a2.toInt64) r4 r5 _ hcr6) (va_cwS 3 hts gX0_sideCarries_X0_between rfl rfl rfl (by decide +kernel) ⟨(Nat.le_of_ble_eq_true rfl), (Nat.le_of_ble_eq_true rfl)⟩) pre_s rfl rfl hl.1 rfl (lv_room (Nat.le_of_ble_eq_true rfl)) dX0_sideCarries_34 ⟨(Nat.zero_le _), (Nat.zero_le _)⟩) ?_
    refine lv_if_eq (tgt := 63) hx hb dX0_sideCarries_37 (by decide) (fun c6 => ?_) (fun c6 => ?_)
    · rw [if_pos c6] at h
      refine lv_iconst (v := 0) hx hb dX0_sideCarries_63 (by decide) ?_
      obtain rfl := Option.some.inj h
      exact W.zret hx hb hr rfl (fun t ht _ => ⟨rfl, ht⟩) (fun _ h9 => absurd h9 List.not_mem_nil) dX0_sideCarries_64
    · rw [if_neg c6] at h
      refine lv_iload_n hx hb dX0_sideCarries_40 rfl (lv_at hl 4 rfl) ?_
      refine lv_i2l hx hb dX0_sideCarries_41 rfl ?_
      refine lv_aload_n hx hb dX0_sideCarries_42 rfl (lv_at hl 1 rfl) ?_
      refine lv_iload_n hx hb dX0_sideCarries_43 rfl (lv_at hl 2 rfl) ?_
      obtain ⟨r8, hcr8, h⟩ := og_bind h
      refine cp_s (va_runV (As := [.int a1]) (rest := [.long (a3.toInt64)]) ⟨hx, hb, hml, hown, hts⟩ (k_X0_y l D cI cF q qx qy xs ys n a1 _ hcr8) (cwV 1 hts gX0_sideCarries_X0_y rfl rfl rfl (by decide +kernel) ⟨(Nat.le_of_ble_eq_true rfl), (Nat.le_of_ble_eq_true rfl)⟩) (pre_v (q0 := 0) (ci := 0) hK hP rfl rfl) rfl rfl hl.1 rfl (lv_room (Nat.le_of_ble_eq_true rfl)) dX0_sideCarries_44 ⟨(Nat.zero_le _), (Nat.zero_le _)⟩) ?_
      refine lv_aload_n hx hb dX0_sideCarries_47 rfl (lv_at hl 1 rfl) ?_
      refine lv_iload hx hb dX0_sideCarries_48 (lv_at hl 0 rfl) ?_
      obtain ⟨r9, hcr9, h⟩ := og_bind h
      refine cp_s (va_runV (As := [.int r1]) (rest := [.int r8, .long (a3.toInt64)]) ⟨hx, hb, hml, hown, hts⟩ (k_X0_y l D cI cF q qx qy xs ys n r1 _ hcr9) (cwV 1 hts gX0_sideCarries_X0_y rfl rfl rfl (by decide +kernel) ⟨(Nat.le_of_ble_eq_true rfl), (Nat.le_of_ble_eq_true rfl)⟩) (pre_v (q0 := 0) (ci := 0) hK hP rfl rfl) rfl rfl hl.1 rfl (lv_room (Nat.le_of_ble_eq_true rfl)) dX0_sideCarries_50 ⟨(Nat.zero_le _), (Nat.zero_le _)⟩) ?_
      obtain ⟨r10, hcr10, h⟩ := og_bind h
      refine cp_s (va_runS (As := [.long (a3.toInt64), .int r8, .int r9]) (rest := []) ⟨hx, hb, hml, hown, hts⟩ (k_X0_between l (a3.toInt64) r8 r9 _ hcr10) (va_cwS 3 hts gX0_sideCarries_X0_between rfl rfl rfl (by decide +kernel) ⟨(Nat.le_of_ble_eq_true rfl), (Nat.le_of_ble_eq_true rfl)⟩) pre_s rfl rfl hl.1 rfl (lv_room (Nat.le_of_ble_eq_true rfl)) dX0_sideCarries_53 ⟨(Nat.zero_le _), (Nat.zero_le _)⟩) ?_
      refine lv_if_eq (tgt := 63) hx hb dX0_sideCarries_56 (by decide) (fun c10 => ?_) (fun c10 => ?_)
      · rw [if_pos c10] at h
        refine lv_iconst (v := 0) hx hb dX0_sideCarries_63 (by decide) ?_
        obtain rfl := Option.some.inj h
        exact W.zret hx hb hr rfl (fun t ht _ => ⟨rfl, ht⟩) (fun _ h9 => absurd h9 List.not_mem_nil) dX0_sideCarries_64
      · rw [if_neg c10] at h
        refine lv_iconst (v := 1) hx hb dX0_sideCarries_59 (by decide) ?_
        refine lv_goto (tgt := 64) hx hb dX0_sideCarries_60 (by decide) ?_
        obtain rfl := Option.some.inj h
        exact W.zret hx hb hr rfl (fun t ht _ => ⟨rfl, ht⟩) (fun _ h9 => absurd h9 List.not_mem_nil) dX0_sideCarries_64
end
