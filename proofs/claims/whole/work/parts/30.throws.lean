section THR
variable {l : Launch} {I : pm_I} {M : pm_M} {d mc ms n cells slots : Nat} {O : pm_O → List pm_E → Prop}
abbrev eI : String := "java/lang/IndexOutOfBoundsException"
abbrev eS : String := "java/lang/IllegalStateException"
abbrev eA : String := "java/lang/IllegalArgumentException"
abbrev eN : List String := ["java/lang/RuntimeException", "java/lang/Exception"]
theorem xn_ok : ∀ x ∈ eN, Bundle.fit x = true := by decide +kernel
theorem xI_1 : Bundle.fit eI = true ∧ Cond.classLink RX5 87 eI ∈ pm_tb ∧ Cond.initialized eI ∈ pm_tb := by decide +kernel
theorem xI_2 : ∀ x ∈ vx_atS RX5 91 eI eN, x ∈ pm_tb ∨ x ∈ pm_ng := by decide +kernel
theorem xI_3 : ∀ x ∈ Cond.classLink RX5 87 eI :: Cond.initialized eI :: vx_atS RX5 91 eI eN, vx_ot x = true := by decide +kernel
theorem xS_1 : Bundle.fit eS = true ∧ Cond.classLink RX5 54 eS ∈ pm_tb ∧ Cond.initialized eS ∈ pm_tb := by decide +kernel
theorem xS_2 : ∀ x ∈ vx_atS RX5 58 eS eN, x ∈ pm_tb ∨ x ∈ pm_ng := by decide +kernel
theorem xS_3 : ∀ x ∈ Cond.classLink RX5 54 eS :: Cond.initialized eS :: vx_atS RX5 58 eS eN, vx_ot x = true := by decide +kernel
theorem xA_1 : Bundle.fit eA = true ∧ Cond.classLink RX5 100 eA ∈ pm_tb ∧ Cond.initialized eA ∈ pm_tb := by decide +kernel
theorem xA_2 : ∀ x ∈ vx_atS RX5 104 eA eN, x ∈ pm_tb ∨ x ∈ pm_ng := by decide +kernel
theorem xA_3 : ∀ x ∈ Cond.classLink RX5 100 eA :: Cond.initialized eA :: vx_atS RX5 104 eA eN, vx_ot x = true := by decide +kernel
theorem pm_J.thI {pc is : Nat} {L : List (Option Value)} {rest : List Value} {w : List pm_E} (text : String) (hstr : (RX5, is, text) ∈ pm_strs) (hO : O (.inr eI) w)
    (d0 : pm_find I.1 pc = some (.new 87, 3) := by rfl) (d3 : pm_find I.1 (pc + 3) = some (.dup, 1) := by rfl) (d4 : pm_find I.1 (pc + 4) = some (.ldc is, 2) := by rfl) (d6 : pm_find I.1 (pc + 6) = some (.invokespecial 91, 3) := by rfl) (d9 : pm_find I.1 (pc + 9) = some (.athrow, 1) := by rfl)
    (hown : M.2.2.2.2 = RX5 := by rfl) (hrest : Nat.ble (rest.map Value.category).sum 8 = true := by rfl) (hdd : Nat.ble 6 d = true := by rfl) (hmc : Nat.ble (cells + 1) mc = true := by rfl) (hms : Nat.ble (slots + 6) ms = true := by rfl) (hn : w.length = n := by rfl) : pm_J l M I d mc ms n O cells slots (pc, L, rest, w) :=
  pm_J.throw (names := eN) d0 d3 d4 d6 d9 hown hstr xI_1.1 xn_ok xI_1.2.1 xI_1.2.2 xI_2 xI_3 (Nat.le_of_ble_eq_true hrest) (by decide) (Nat.le_of_ble_eq_true hdd) (Nat.le_of_ble_eq_true hmc) (Nat.le_of_ble_eq_true hms) hn hO
theorem pm_J.thS {pc is : Nat} {L : List (Option Value)} {rest : List Value} {w : List pm_E} (text : String) (hstr : (RX5, is, text) ∈ pm_strs) (hO : O (.inr eS) w)
    (d0 : pm_find I.1 pc = some (.new 54, 3) := by rfl) (d3 : pm_find I.1 (pc + 3) = some (.dup, 1) := by rfl) (d4 : pm_find I.1 (pc + 4) = some (.ldc is, 2) := by rfl) (d6 : pm_find I.1 (pc + 6) = some (.invokespecial 58, 3) := by rfl) (d9 : pm_find I.1 (pc + 9) = some (.athrow, 1) := by rfl)
    (hown : M.2.2.2.2 = RX5 := by rfl) (hrest : Nat.ble (rest.map Value.category).sum 8 = true := by rfl) (hdd : Nat.ble 6 d = true := by rfl) (hmc : Nat.ble (cells + 1) mc = true := by rfl) (hms : Nat.ble (slots + 6) ms = true := by rfl) (hn : w.length = n := by rfl) : pm_J l M I d mc ms n O cells slots (pc, L, rest, w) :=
  pm_J.throw (names := eN) d0 d3 d4 d6 d9 hown hstr xS_1.1 xn_ok xS_1.2.1 xS_1.2.2 xS_2 xS_3 (Nat.le_of_ble_eq_true hrest) (by decide) (Nat.le_of_ble_eq_true hdd) (Nat.le_of_ble_eq_true hmc) (Nat.le_of_ble_eq_true hms) hn hO
theorem pm_J.thA {pc is : Nat} {L : List (Option Value)} {rest : List Value} {w : List pm_E} (text : String) (hstr : (RX5, is, text) ∈ pm_strs) (hO : O (.inr eA) w)
    (d0 : pm_find I.1 pc = some (.new 100, 3) := by rfl) (d3 : pm_find I.1 (pc + 3) = some (.dup, 1) := by rfl) (d4 : pm_find I.1 (pc + 4) = some (.ldc is, 2) := by rfl) (d6 : pm_find I.1 (pc + 6) = some (.invokespecial 104, 3) := by rfl) (d9 : pm_find I.1 (pc + 9) = some (.athrow, 1) := by rfl)
    (hown : M.2.2.2.2 = RX5 := by rfl) (hrest : Nat.ble (rest.map Value.category).sum 8 = true := by rfl) (hdd : Nat.ble 6 d = true := by rfl) (hmc : Nat.ble (cells + 1) mc = true := by rfl) (hms : Nat.ble (slots + 6) ms = true := by rfl) (hn : w.length = n := by rfl) : pm_J l M I d mc ms n O cells slots (pc, L, rest, w) :=
  pm_J.throw (names := eN) d0 d3 d4 d6 d9 hown hstr xA_1.1 xn_ok xA_1.2.1 xA_1.2.2 xA_2 xA_3 (Nat.le_of_ble_eq_true hrest) (by decide) (Nat.le_of_ble_eq_true hdd) (Nat.le_of_ble_eq_true hmc) (Nat.le_of_ble_eq_true hms) hn hO
/-- a call of a method that leaves all as it was, and may throw -/
theorem pm_J.cP {pc ix ci k0 d' mc' ms' : Nat} {L : List (Option Value)} {st rest As : List Value} {w wc : List pm_E} {M' : pm_M} {fs : List Value} {qc : vw_C} {Po : pm_O → Prop} (q : List Nat)
    (hM : pm_Met l M' d' mc' ms' (.ref k0 :: As) wc (fun o w' => w' = wc ∧ Po o))
    (hw : ∀ x ∈ wsV M.2.2.2.2 ix qc.1 M'.1 [Cond.code M'.1 M'.2.1 M'.2.2.1 M'.2.2.2.1], x ∈ pm_tb)
    (hy : M'.1.cls = qc.1 ∧ M'.1.cls ≠ "java/lang/invoke/MethodHandle" ∧ M'.1.cls ≠ "java/lang/invoke/VarHandle" ∧ (parseMethodDescriptor M'.1.desc).map (fun d => d.parameters.length) = some As.length)
    (kx : ∀ E, Po (.inr E) → O (.inr E) w)
    (kr : ∀ v, Po (.inl v) → pm_J l M I d mc ms n O (cells + mc') (slots + ms') (pc + 3, L, (v.map (pm_v (pm_rn q))).toList ++ rest, w))
    (hd : pm_find I.1 pc = some (.invokevirtual ix, 3) := by rfl) (hst : st = ((Value.ref k0 :: As).map (pm_v (pm_rn q))).reverse ++ rest := by rfl) (hf1 : va_nd q = true := by rfl) (hf2 : q.map (fun h => pm_nth w h) = wc.map (fun c => some (pm_rc (pm_rn q) c)) := by rfl) (hn : w.length = n := by rfl) (hr : wc[k0]? = some (.inr (ci, fs)) := by rfl) (hqc : vwCl[ci]? = some qc := by rfl)
    (hrest : Nat.ble (rest.map Value.category).sum 8 = true := by rfl) (hdd : Nat.ble (d' + 1) d = true := by rfl) (hml : Nat.ble M'.2.2.1 81 = true := by rfl) (hcs : Nat.ble (cells + mc') mc = true := by rfl) (hss : Nat.ble (slots + ms') ms = true := by rfl) : pm_J l M I d mc ms n O cells slots (pc, L, st, w) := by
  refine pm_J.cR q hM hw hy (fun E w1 h => ?_) (fun v w1 h => ?_) hd hst hf1 hf2 hn hr hqc hrest hdd hml hcs hss
  · obtain ⟨rfl, h2⟩ := h
    rw [pm_bk_same ⟨hf1, hf2⟩]
    exact kx E h2
  · obtain ⟨rfl, h2⟩ := h
    rw [pm_bk_same ⟨hf1, hf2⟩]
    exact kr v h2
theorem st_56 : (RX5, 56, "the text is full") ∈ pm_strs := by decide +kernel
theorem st_89 : (RX5, 89, "no such kind or character") ∈ pm_strs := by decide +kernel
theorem st_102 : (RX5, 102, "a weight is 1 to 9") ∈ pm_strs := by decide +kernel
theorem st_131 : (RX5, 131, "fewer than three kinds") ∈ pm_strs := by decide +kernel
theorem st_140 : (RX5, 140, "no such tree was found") ∈ pm_strs := by decide +kernel
theorem st_182 : (RX5, 182, "above is 0.5 to 1") ∈ pm_strs := by decide +kernel
theorem st_188 : (RX5, 188, "no such tree") ∈ pm_strs := by decide +kernel
theorem st_190 : (RX5, 190, "no such character") ∈ pm_strs := by decide +kernel
theorem st_192 : (RX5, 192, "nothing is found") ∈ pm_strs := by decide +kernel
end THR
