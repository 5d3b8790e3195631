section LWF
/-! the law's own body: its world holds the class's 29 cells, the reference's 15, the two answer rows; the handle 99 is the script -/
abbrev qM : List Nat := [29, 30, 31, 32, 33, 34, 35, 36, 37, 38, 39, 40, 41, 42, 43]
abbrev lwW (cl mo : List pm_E) (f : Nat → Int64) (g : Nat → UInt64) : List pm_E := cl.map (pm_rc (pm_rn q29)) ++ (mo.map (pm_rc (pm_rn qM)) ++ [loA f, dbA g])
def lwC (p : Program) (l : Launch) (e : Env) (s : State) (m : MethodId) (below : List Frame) (meth : Method) (c : Code) (b Ln : Nat) (xs : Nat → Int32) : Prop :=
  pm_X p s m #[Value.ref b] c cL_law RL lw_tbl iL_law ∧ c.maxLocals = 8 ∧ meth.sig.returnType = ret ∧ meth.locks = false ∧ va_X b Ln xs s s.heap ∧ b < s.heap.size ∧ pm_G (fun q => s.heap.size ≤ q) s s.heap ∧ l.stackTraces = false
variable {p : Program} {l : Launch} {e : Env} {s : State} {m : MethodId} {below : List Frame} {meth : Method} {c : Code} {b Ln : Nat} {xs : Nat → Int32} {D : va_G} {cells slots : Nat}
theorem lw_A {ad : Nat → Nat} {n sz : Nat} (h : ∀ k, k < n → sz ≤ ad k) : pm_A ad n sz = fun q => sz ≤ q := by
  funext q
  apply propext
  constructor
  · rintro (⟨k, hk, rfl⟩ | h2)
    · exact h k hk
    · exact h2
  · exact Or.inr
theorem lw_sub : ∀ w ∈ pm_tb, w ∈ lw_tbl := fun w hw => (List.mem_filter.mp hw).1
def lwJ (p : Program) (l : Launch) (e : Env) (s : State) (m : MethodId) (below : List Frame) (meth : Method) (c : Code) (b : Nat) (D : va_G) (cells slots : Nat) (C : pm_C) : Prop :=
  ∀ (ad : Nat → Nat) (tI : Nat → ClassId), ad 99 = b → (∀ k, k < 46 → s.heap.size ≤ ad k) → pm_W p l e room_1 s m #[Value.ref b] below meth c 8 D (pm_A ad 46 s.heap.size) ad tI cells slots (lw_Z below #[Value.ref b] s) C
theorem lwJ.run (X : lwC p l e s m below meth c b Ln xs) (stops : List Nat) (k : Nat) {C : pm_C} (h : ∀ K : pm_C → Prop, (∀ C', lwJ p l e s m below meth c b D cells slots C' → K C') → pm_wp iL_law stops K k C) : lwJ p l e s m below meth c b D cells slots C :=
  fun ad tI h1 h2 => pm_wp_ok X.1 stops k C (h _ (fun C' h' => h' ad tI h1 h2))
theorem lwJ.sld (X : lwC p l e s m below meth c b Ln xs) {pc : Nat} {L : List (Option Value)} {rest : List Value} {w : List pm_E} {i : Int32} (hi : vp_in i Ln) (k : lwJ p l e s m below meth c b D cells slots (pc + 1, L, .int (xs i.toNatClampNeg) :: rest, w)) (hd : pm_find iL_law.1 pc = some (.iaload, 1) := by rfl) : lwJ p l e s m below meth c b D cells slots (pc, L, .int i :: .ref 99 :: rest, w) := by
  intro ad tI h1 h2 H locs ls hP hD hS hL hK
  have hbA : ¬ pm_A ad 46 s.heap.size b := by rw [lw_A h2]; exact Nat.not_le.mpr X.2.2.2.2.2.1
  have := va_sld X.1.1 X.1.2.1 X.2.2.2.2.1 X.2.2.2.2.2.1 hbA hS hi (X.1.dec hd) (k ad tI h1 h2 H locs ls hP hD hS hL hK)
  show W p l e room_1 s m #[Value.ref b] below meth c H locs cells slots (lw_Z below #[Value.ref b] s) (F0 m pc ls (.int i :: .ref (ad 99) :: rest.map (pm_v ad)))
  rw [h1]
  exact this
theorem lwJ.slen (X : lwC p l e s m below meth c b Ln xs) {pc : Nat} {L : List (Option Value)} {rest : List Value} {w : List pm_E} (k : lwJ p l e s m below meth c b D cells slots (pc + 1, L, .int (nI Ln) :: rest, w)) (hd : pm_find iL_law.1 pc = some (.arraylength, 1) := by rfl) : lwJ p l e s m below meth c b D cells slots (pc, L, .ref 99 :: rest, w) := by
  intro ad tI h1 h2 H locs ls hP hD hS hL hK
  have hbA : ¬ pm_A ad 46 s.heap.size b := by rw [lw_A h2]; exact Nat.not_le.mpr X.2.2.2.2.2.1
  have := va_slen X.1.1 X.1.2.1 X.2.2.2.2.1 X.2.2.2.2.2.1 hbA hS (X.1.dec hd) (k ad tI h1 h2 H locs ls hP hD hS hL hK)
  show W p l e room_1 s m #[Value.ref b] below meth c H locs cells slots (lw_Z below #[Value.ref b] s) (F0 m pc ls (.ref (ad 99) :: rest.map (pm_v ad)))
  rw [h1]
  exact this
/-- a part of the world that lies in one piece -/
theorem lw_seg (f : Nat → Nat) (pre mid suf : List pm_E) : (List.range' pre.length mid.length).map (fun h => pm_nth (pre ++ (mid.map (pm_rc f) ++ suf)) h) = mid.map (fun c => some (pm_rc f c)) := by
  apply List.ext_getElem?
  intro i
  rw [List.getElem?_map, List.getElem?_map]
  by_cases h : i < mid.length
  · rw [List.getElem?_range' h, List.getElem?_eq_getElem h]
    simp only [Option.map_some, Option.some.injEq]
    rw [pm_nth_eq, Nat.one_mul, List.getElem?_append_right (by omega), Nat.add_sub_cancel_left, List.getElem?_append_left (by rw [List.length_map]; exact h), List.getElem?_map, List.getElem?_eq_getElem h]
    rfl
  · rw [List.getElem?_eq_none (by rw [List.length_range']; omega), List.getElem?_eq_none (by omega)]
    rfl
theorem lw_call (X : lwC p l e s m below meth c b Ln xs) {pc ix ci k0 d' mc' ms' : Nat} {L : List (Option Value)} {st rest As : List Value} {pre mid suf : List pm_E} {M' : pm_M} {O' : pm_O → List pm_E → Prop} {fs : List Value} {qc : vw_C} (q : List Nat)
    (hq : q = List.range' pre.length mid.length) (hM : pm_Met l M' d' mc' ms' (.ref k0 :: As) mid O')
    (hw : ∀ x ∈ wsV RL ix qc.1 M'.1 [Cond.code M'.1 M'.2.1 M'.2.2.1 M'.2.2.2.1], x ∈ pm_tb)
    (hy : M'.1.cls = qc.1 ∧ M'.1.cls ≠ "java/lang/invoke/MethodHandle" ∧ M'.1.cls ≠ "java/lang/invoke/VarHandle" ∧ (parseMethodDescriptor M'.1.desc).map (fun d => d.parameters.length) = some As.length)
    (hn : (pre ++ (mid.map (pm_rc (pm_rn q)) ++ suf)).length = 46) (nx : ∀ E w1, ¬ O' (.inr E) w1) (hc : cells + mc' ≤ 600128) (hs : slots + ms' ≤ 7301098)
    (kr : ∀ v w1, O' (.inl v) w1 → w1.length = mid.length → lwJ p l e s m below meth c b D (cells + mc') (slots + ms') (pc + 3, L, (v.map (pm_v (pm_rn q))).toList ++ rest, pre ++ (w1.map (pm_rc (pm_rn q)) ++ suf)))
    (hd : pm_find iL_law.1 pc = some (.invokevirtual ix, 3) := by rfl) (hst : st = ((Value.ref k0 :: As).map (pm_v (pm_rn q))).reverse ++ rest := by rfl) (hnd : va_nd q = true := by rfl) (hr : mid[k0]? = some (.inr (ci, fs)) := by rfl) (hqc : vwCl[ci]? = some qc := by rfl)
    (hrest : Nat.ble (rest.map Value.category).sum 8 = true := by rfl) (hdd : Nat.ble d' 20 = true := by rfl) (hml : Nat.ble M'.2.2.1 81 = true := by rfl) : lwJ p l e s m below meth c b D cells slots (pc, L, st, pre ++ (mid.map (pm_rc (pm_rn q)) ++ suf)) := by
  intro ad tI h1 h2
  have hd2 := Nat.le_of_ble_eq_true hdd
  have hm2 := Nat.le_of_ble_eq_true hml
  have hbk : ∀ w1 : List pm_E, w1.length = mid.length → pm_bk (pm_rn q) (pre ++ (mid.map (pm_rc (pm_rn q)) ++ suf)) q w1 = pre ++ (w1.map (pm_rc (pm_rn q)) ++ suf) := by
    intro w1 hl
    have := pm_bk_all (pm_rn q) w1 pre (mid.map (pm_rc (pm_rn q))) suf (by rw [List.length_map, hl])
    rw [hl, ← hq] at this
    exact this
  refine pm_W.call (R := room_1) q X.1 lw_sub X.2.1 (by rw [lw_A h2]; exact X.2.2.2.2.2.2.1) hM hd hw hy hst ⟨hnd, by rw [hq]; exact lw_seg _ pre mid suf⟩ hn hr hqc (Nat.le_of_ble_eq_true hrest) (by show d' + 1 ≤ 2048; omega) (by show 8 + (M'.2.2.1 + 11) + 100 * d' ≤ 84000; omega) hc hs (fun E w1 hO => absurd hO (nx E w1)) (fun v w1 hO hl => ?_)
  rw [hbk w1 hl]
  exact kr v w1 hO hl ad tI h1 h2
/-- the switch -/
theorem lwJ.sw (X : lwC p l e s m below meth c b Ln xs) {L : List (Option Value)} {rest : List Value} {w : List pm_E} {x : Int32} {tgt : Nat} (off : Int) (h1 : ¬ x.toInt < 0) (h2 : ¬ 17 < x.toInt) (ho : (#[88, 146, 159, 227, 295, 308, 376, 432, 476, 489, 545, 620, 698, 766, 844, 922, 978, 1042] : Array Int)[(x.toInt - 0).toNat]? = some off) (ht : (44 : Int) + off = (tgt : Int))
    (k : lwJ p l e s m below meth c b D cells slots (tgt, L, rest, w)) : lwJ p l e s m below meth c b D cells slots (44, L, .int x :: rest, w) := by
  intro ad tI g1 g2 H locs ls hP hD hS hL hK
  exact lv_tableIn X.1.1 X.1.2.1 (X.1.dec (pc := 44) rfl) h1 h2 ho ht (k ad tI g1 g2 H locs ls hP hD hS hL hK)
theorem lwJ.swd (X : lwC p l e s m below meth c b Ln xs) {L : List (Option Value)} {rest : List Value} {w : List pm_E} {x : Int32} (h : x.toInt < 0 ∨ 17 < x.toInt) (k : lwJ p l e s m below meth c b D cells slots (1111, L, rest, w)) : lwJ p l e s m below meth c b D cells slots (44, L, .int x :: rest, w) := by
  intro ad tI g1 g2 H locs ls hP hD hS hL hK
  exact lv_tableOut X.1.1 X.1.2.1 (X.1.dec (pc := 44) rfl) h (show ((44 : Nat) : Int) + 1067 = ((1111 : Nat) : Int) by decide) (k ad tI g1 g2 H locs ls hP hD hS hL hK)
set_option maxRecDepth 100000 in
/-- the law's end -/
theorem lwJ.fin (X : lwC p l e s m below meth c b Ln xs) {L : List (Option Value)} {w : List pm_E} (hc : cells ≤ 600128) (hs : slots ≤ 7301098) : lwJ p l e s m below meth c b D cells slots (1117, L, [], w) := by
  intro ad tI g1 g2 H locs ls hP hD hS hL hK
  refine lv_iconst (v := 1) X.1.1 X.1.2.1 (X.1.dec (pc := 1117) rfl) (by decide) ?_
  refine va_forget (fun q hq => ?_) ?_
  · have := hS.2.2 q hq
    rw [lw_A g2] at this
    exact this
  · refine W.widen (k := 600128) (n := 7301098) hc hs ?_
    exact lw_ret X.1.1 X.1.2.1 X.2.2.1 X.2.2.2.1 (X.1.dec (pc := 1118) rfl)
end LWF
