section RU3
variable {l : Launch} {I : pm_I} {M : pm_M} {d mc ms n cells slots : Nat} {O : pm_O → List pm_E → Prop}
theorem pm_J.riG {pc : Nat} {L : List (Option Value)} {w : List pm_E} {v : Int32} {ty : FieldType} (hO : O (.inl (some (.int v))) w) (hd : pm_find I.1 pc = some (.ireturn, 1) := by rfl) (hr : M.2.2.2.1 = some ty := by rfl) (hn : narrow ty (.int v) = .int v := by rfl) (hl : w.length = n := by rfl) (hcs : Nat.ble cells mc = true := by rfl) (hss : Nat.ble slots ms = true := by rfl) : pm_J l M I d mc ms n O cells slots (pc, L, [.int v], w) := pm_J.ret hd hr hn hl (Nat.le_of_ble_eq_true hcs) (Nat.le_of_ble_eq_true hss) hO
theorem pm_J.rvG {pc : Nat} {L : List (Option Value)} {w : List pm_E} (hO : O (.inl none) w) (hd : pm_find I.1 pc = some (.return_, 1) := by rfl) (hr : M.2.2.2.1 = none := by rfl) (hl : w.length = n := by rfl) (hcs : Nat.ble cells mc = true := by rfl) (hss : Nat.ble slots ms = true := by rfl) : pm_J l M I d mc ms n O cells slots (pc, L, [], w) := pm_J.retv hd hr hl (Nat.le_of_ble_eq_true hcs) (Nat.le_of_ble_eq_true hss) hO
theorem pm_J.rlG {pc : Nat} {L : List (Option Value)} {w : List pm_E} {v : Int64} (hO : O (.inl (some (.long v))) w) (hd : pm_find I.1 pc = some (.lreturn, 1) := by rfl) (hr : M.2.2.2.1 = some .long := by rfl) (hl : w.length = n := by rfl) (hcs : Nat.ble cells mc = true := by rfl) (hss : Nat.ble slots ms = true := by rfl) : pm_J l M I d mc ms n O cells slots (pc, L, [.long v], w) := pm_J.retl hd hr hl (Nat.le_of_ble_eq_true hcs) (Nat.le_of_ble_eq_true hss) hO
theorem pm_J.rfG {pc : Nat} {L : List (Option Value)} {w : List pm_E} {v : UInt32} (hO : O (.inl (some (.float v))) w) (hd : pm_find I.1 pc = some (.freturn, 1) := by rfl) (hr : M.2.2.2.1 = some .float := by rfl) (hl : w.length = n := by rfl) (hcs : Nat.ble cells mc = true := by rfl) (hss : Nat.ble slots ms = true := by rfl) : pm_J l M I d mc ms n O cells slots (pc, L, [.float v], w) := pm_J.retf hd hr hl (Nat.le_of_ble_eq_true hcs) (Nat.le_of_ble_eq_true hss) hO
theorem pm_J.clG {pc ix ci k0 d' : Nat} {L : List (Option Value)} {st rest As : List Value} {w wc w1 : List pm_E} {M' : pm_M} {fs : List Value} {qc : vw_C} {v : Option Value} (q : List Nat)
    (hM : pm_Met l M' d' 0 0 (.ref k0 :: As) wc (isO v w1))
    (hw : ∀ x ∈ wsV M.2.2.2.2 ix qc.1 M'.1 [Cond.code M'.1 M'.2.1 M'.2.2.1 M'.2.2.2.1], x ∈ pm_tb)
    (hy : M'.1.cls = qc.1 ∧ M'.1.cls ≠ "java/lang/invoke/MethodHandle" ∧ M'.1.cls ≠ "java/lang/invoke/VarHandle" ∧ (parseMethodDescriptor M'.1.desc).map (fun d => d.parameters.length) = some As.length)
    (kr : pm_J l M I d mc ms n O cells slots (pc + 3, L, (v.map (pm_v (pm_rn q))).toList ++ rest, pm_bk (pm_rn q) w q w1))
    (hd : pm_find I.1 pc = some (.invokevirtual ix, 3) := by rfl) (hst : st = ((Value.ref k0 :: As).map (pm_v (pm_rn q))).reverse ++ rest := by rfl) (hf1 : va_nd q = true := by rfl) (hf2 : q.map (fun h => pm_nth w h) = wc.map (fun c => some (pm_rc (pm_rn q) c)) := by rfl) (hn : w.length = n := by rfl) (hr : wc[k0]? = some (.inr (ci, fs)) := by rfl) (hqc : vwCl[ci]? = some qc := by rfl)
    (hrest : Nat.ble (rest.map Value.category).sum 8 = true := by rfl) (hdd : Nat.ble (d' + 1) d = true := by rfl) (hml : Nat.ble M'.2.2.1 81 = true := by rfl) (hcs : Nat.ble cells mc = true := by rfl) (hss : Nat.ble slots ms = true := by rfl) : pm_J l M I d mc ms n O cells slots (pc, L, st, w) :=
  pm_J.call q hM hd hw hy hst ⟨hf1, hf2⟩ hn hr hqc (Nat.le_of_ble_eq_true hrest) (Nat.le_of_ble_eq_true hdd) (Nat.le_of_ble_eq_true hml) (Nat.le_of_ble_eq_true hcs) (Nat.le_of_ble_eq_true hss) (fun E w1 h _ => by cases h.1) (fun v' w1' h _ => by obtain ⟨h1, h2⟩ := h; cases h1; subst h2; exact kr)
section
variable {pc ix ci k0 d' : Nat} {L : List (Option Value)} {st rest As : List Value} {w wc w1 : List pm_E} {M' : pm_M} {fs : List Value} {qc : vw_C}
/-- a call that answers an int and leaves all as it was -/
theorem pm_J.cIG {x : Int32} (q : List Nat) (hM : pm_Met l M' d' 0 0 (.ref k0 :: As) wc (isO (some (.int x)) wc))
    (hw : ∀ x ∈ wsV M.2.2.2.2 ix qc.1 M'.1 [Cond.code M'.1 M'.2.1 M'.2.2.1 M'.2.2.2.1], x ∈ pm_tb)
    (hy : M'.1.cls = qc.1 ∧ M'.1.cls ≠ "java/lang/invoke/MethodHandle" ∧ M'.1.cls ≠ "java/lang/invoke/VarHandle" ∧ (parseMethodDescriptor M'.1.desc).map (fun d => d.parameters.length) = some As.length)
    (kr : pm_J l M I d mc ms n O cells slots (pc + 3, L, .int x :: rest, w))
    (hd : pm_find I.1 pc = some (.invokevirtual ix, 3) := by rfl) (hst : st = ((Value.ref k0 :: As).map (pm_v (pm_rn q))).reverse ++ rest := by rfl) (hf1 : va_nd q = true := by rfl) (hf2 : q.map (fun h => pm_nth w h) = wc.map (fun c => some (pm_rc (pm_rn q) c)) := by rfl) (hn : w.length = n := by rfl) (hr : wc[k0]? = some (.inr (ci, fs)) := by rfl) (hqc : vwCl[ci]? = some qc := by rfl)
    (hrest : Nat.ble (rest.map Value.category).sum 8 = true := by rfl) (hdd : Nat.ble (d' + 1) d = true := by rfl) (hml : Nat.ble M'.2.2.1 81 = true := by rfl) (hcs : Nat.ble cells mc = true := by rfl) (hss : Nat.ble slots ms = true := by rfl) : pm_J l M I d mc ms n O cells slots (pc, L, st, w) := by
  refine pm_J.clG q hM hw hy ?_ hd hst hf1 hf2 hn hr hqc hrest hdd hml hcs hss
  rw [pm_bk_same ⟨hf1, hf2⟩]
  exact kr
theorem pm_J.cLG {x : Int64} (q : List Nat) (hM : pm_Met l M' d' 0 0 (.ref k0 :: As) wc (isO (some (.long x)) wc))
    (hw : ∀ x ∈ wsV M.2.2.2.2 ix qc.1 M'.1 [Cond.code M'.1 M'.2.1 M'.2.2.1 M'.2.2.2.1], x ∈ pm_tb)
    (hy : M'.1.cls = qc.1 ∧ M'.1.cls ≠ "java/lang/invoke/MethodHandle" ∧ M'.1.cls ≠ "java/lang/invoke/VarHandle" ∧ (parseMethodDescriptor M'.1.desc).map (fun d => d.parameters.length) = some As.length)
    (kr : pm_J l M I d mc ms n O cells slots (pc + 3, L, .long x :: rest, w))
    (hd : pm_find I.1 pc = some (.invokevirtual ix, 3) := by rfl) (hst : st = ((Value.ref k0 :: As).map (pm_v (pm_rn q))).reverse ++ rest := by rfl) (hf1 : va_nd q = true := by rfl) (hf2 : q.map (fun h => pm_nth w h) = wc.map (fun c => some (pm_rc (pm_rn q) c)) := by rfl) (hn : w.length = n := by rfl) (hr : wc[k0]? = some (.inr (ci, fs)) := by rfl) (hqc : vwCl[ci]? = some qc := by rfl)
    (hrest : Nat.ble (rest.map Value.category).sum 8 = true := by rfl) (hdd : Nat.ble (d' + 1) d = true := by rfl) (hml : Nat.ble M'.2.2.1 81 = true := by rfl) (hcs : Nat.ble cells mc = true := by rfl) (hss : Nat.ble slots ms = true := by rfl) : pm_J l M I d mc ms n O cells slots (pc, L, st, w) := by
  refine pm_J.clG q hM hw hy ?_ hd hst hf1 hf2 hn hr hqc hrest hdd hml hcs hss
  rw [pm_bk_same ⟨hf1, hf2⟩]
  exact kr
theorem pm_J.cFG {x : UInt32} (q : List Nat) (hM : pm_Met l M' d' 0 0 (.ref k0 :: As) wc (isO (some (.float x)) wc))
    (hw : ∀ x ∈ wsV M.2.2.2.2 ix qc.1 M'.1 [Cond.code M'.1 M'.2.1 M'.2.2.1 M'.2.2.2.1], x ∈ pm_tb)
    (hy : M'.1.cls = qc.1 ∧ M'.1.cls ≠ "java/lang/invoke/MethodHandle" ∧ M'.1.cls ≠ "java/lang/invoke/VarHandle" ∧ (parseMethodDescriptor M'.1.desc).map (fun d => d.parameters.length) = some As.length)
    (kr : pm_J l M I d mc ms n O cells slots (pc + 3, L, .float x :: rest, w))
    (hd : pm_find I.1 pc = some (.invokevirtual ix, 3) := by rfl) (hst : st = ((Value.ref k0 :: As).map (pm_v (pm_rn q))).reverse ++ rest := by rfl) (hf1 : va_nd q = true := by rfl) (hf2 : q.map (fun h => pm_nth w h) = wc.map (fun c => some (pm_rc (pm_rn q) c)) := by rfl) (hn : w.length = n := by rfl) (hr : wc[k0]? = some (.inr (ci, fs)) := by rfl) (hqc : vwCl[ci]? = some qc := by rfl)
    (hrest : Nat.ble (rest.map Value.category).sum 8 = true := by rfl) (hdd : Nat.ble (d' + 1) d = true := by rfl) (hml : Nat.ble M'.2.2.1 81 = true := by rfl) (hcs : Nat.ble cells mc = true := by rfl) (hss : Nat.ble slots ms = true := by rfl) : pm_J l M I d mc ms n O cells slots (pc, L, st, w) := by
  refine pm_J.clG q hM hw hy ?_ hd hst hf1 hf2 hn hr hqc hrest hdd hml hcs hss
  rw [pm_bk_same ⟨hf1, hf2⟩]
  exact kr
/-- a call that leaves w2 -/
theorem pm_J.cvG (q : List Nat) (w2 : List pm_E) (hM : pm_Met l M' d' 0 0 (.ref k0 :: As) wc (isO none w1))
    (hw : ∀ x ∈ wsV M.2.2.2.2 ix qc.1 M'.1 [Cond.code M'.1 M'.2.1 M'.2.2.1 M'.2.2.2.1], x ∈ pm_tb)
    (hy : M'.1.cls = qc.1 ∧ M'.1.cls ≠ "java/lang/invoke/MethodHandle" ∧ M'.1.cls ≠ "java/lang/invoke/VarHandle" ∧ (parseMethodDescriptor M'.1.desc).map (fun d => d.parameters.length) = some As.length)
    (kr : pm_J l M I d mc ms n O cells slots (pc + 3, L, rest, w2))
    (hw2 : pm_bk (pm_rn q) w q w1 = w2 := by rfl)
    (hd : pm_find I.1 pc = some (.invokevirtual ix, 3) := by rfl) (hst : st = ((Value.ref k0 :: As).map (pm_v (pm_rn q))).reverse ++ rest := by rfl) (hf1 : va_nd q = true := by rfl) (hf2 : q.map (fun h => pm_nth w h) = wc.map (fun c => some (pm_rc (pm_rn q) c)) := by rfl) (hn : w.length = n := by rfl) (hr : wc[k0]? = some (.inr (ci, fs)) := by rfl) (hqc : vwCl[ci]? = some qc := by rfl)
    (hrest : Nat.ble (rest.map Value.category).sum 8 = true := by rfl) (hdd : Nat.ble (d' + 1) d = true := by rfl) (hml : Nat.ble M'.2.2.1 81 = true := by rfl) (hcs : Nat.ble cells mc = true := by rfl) (hss : Nat.ble slots ms = true := by rfl) : pm_J l M I d mc ms n O cells slots (pc, L, st, w) := by
  refine pm_J.clG q hM hw hy ?_ hd hst hf1 hf2 hn hr hqc hrest hdd hml hcs hss
  rw [hw2]
  exact kr
theorem pm_J.ciwG {x : Int32} (q : List Nat) (w2 : List pm_E) (hM : pm_Met l M' d' 0 0 (.ref k0 :: As) wc (isO (some (.int x)) w1))
    (hw : ∀ x ∈ wsV M.2.2.2.2 ix qc.1 M'.1 [Cond.code M'.1 M'.2.1 M'.2.2.1 M'.2.2.2.1], x ∈ pm_tb)
    (hy : M'.1.cls = qc.1 ∧ M'.1.cls ≠ "java/lang/invoke/MethodHandle" ∧ M'.1.cls ≠ "java/lang/invoke/VarHandle" ∧ (parseMethodDescriptor M'.1.desc).map (fun d => d.parameters.length) = some As.length)
    (kr : pm_J l M I d mc ms n O cells slots (pc + 3, L, .int x :: rest, w2))
    (hw2 : pm_bk (pm_rn q) w q w1 = w2 := by rfl)
    (hd : pm_find I.1 pc = some (.invokevirtual ix, 3) := by rfl) (hst : st = ((Value.ref k0 :: As).map (pm_v (pm_rn q))).reverse ++ rest := by rfl) (hf1 : va_nd q = true := by rfl) (hf2 : q.map (fun h => pm_nth w h) = wc.map (fun c => some (pm_rc (pm_rn q) c)) := by rfl) (hn : w.length = n := by rfl) (hr : wc[k0]? = some (.inr (ci, fs)) := by rfl) (hqc : vwCl[ci]? = some qc := by rfl)
    (hrest : Nat.ble (rest.map Value.category).sum 8 = true := by rfl) (hdd : Nat.ble (d' + 1) d = true := by rfl) (hml : Nat.ble M'.2.2.1 81 = true := by rfl) (hcs : Nat.ble cells mc = true := by rfl) (hss : Nat.ble slots ms = true := by rfl) : pm_J l M I d mc ms n O cells slots (pc, L, st, w) := by
  refine pm_J.clG q hM hw hy ?_ hd hst hf1 hf2 hn hr hqc hrest hdd hml hcs hss
  rw [hw2]
  exact kr
theorem pm_J.cLwG {x : Int64} (q : List Nat) (w2 : List pm_E) (hM : pm_Met l M' d' 0 0 (.ref k0 :: As) wc (isO (some (.long x)) w1))
    (hw : ∀ x ∈ wsV M.2.2.2.2 ix qc.1 M'.1 [Cond.code M'.1 M'.2.1 M'.2.2.1 M'.2.2.2.1], x ∈ pm_tb)
    (hy : M'.1.cls = qc.1 ∧ M'.1.cls ≠ "java/lang/invoke/MethodHandle" ∧ M'.1.cls ≠ "java/lang/invoke/VarHandle" ∧ (parseMethodDescriptor M'.1.desc).map (fun d => d.parameters.length) = some As.length)
    (kr : pm_J l M I d mc ms n O cells slots (pc + 3, L, .long x :: rest, w2))
    (hw2 : pm_bk (pm_rn q) w q w1 = w2 := by rfl)
    (hd : pm_find I.1 pc = some (.invokevirtual ix, 3) := by rfl) (hst : st = ((Value.ref k0 :: As).map (pm_v (pm_rn q))).reverse ++ rest := by rfl) (hf1 : va_nd q = true := by rfl) (hf2 : q.map (fun h => pm_nth w h) = wc.map (fun c => some (pm_rc (pm_rn q) c)) := by rfl) (hn : w.length = n := by rfl) (hr : wc[k0]? = some (.inr (ci, fs)) := by rfl) (hqc : vwCl[ci]? = some qc := by rfl)
    (hrest : Nat.ble (rest.map Value.category).sum 8 = true := by rfl) (hdd : Nat.ble (d' + 1) d = true := by rfl) (hml : Nat.ble M'.2.2.1 81 = true := by rfl) (hcs : Nat.ble cells mc = true := by rfl) (hss : Nat.ble slots ms = true := by rfl) : pm_J l M I d mc ms n O cells slots (pc, L, st, w) := by
  refine pm_J.clG q hM hw hy ?_ hd hst hf1 hf2 hn hr hqc hrest hdd hml hcs hss
  rw [hw2]
  exact kr
end
/-- a call whose end is told by a relation -/
theorem pm_J.cR {pc ix ci k0 d' mc' ms' : Nat} {L : List (Option Value)} {st rest As : List Value} {w wc : List pm_E} {M' : pm_M} {fs : List Value} {qc : vw_C} {O' : pm_O → List pm_E → Prop} (q : List Nat)
    (hM : pm_Met l M' d' mc' ms' (.ref k0 :: As) wc O')
    (hw : ∀ x ∈ wsV M.2.2.2.2 ix qc.1 M'.1 [Cond.code M'.1 M'.2.1 M'.2.2.1 M'.2.2.2.1], x ∈ pm_tb)
    (hy : M'.1.cls = qc.1 ∧ M'.1.cls ≠ "java/lang/invoke/MethodHandle" ∧ M'.1.cls ≠ "java/lang/invoke/VarHandle" ∧ (parseMethodDescriptor M'.1.desc).map (fun d => d.parameters.length) = some As.length)
    (kx : ∀ E w1, O' (.inr E) w1 → O (.inr E) (pm_bk (pm_rn q) w q w1))
    (kr : ∀ v w1, O' (.inl v) w1 → pm_J l M I d mc ms n O (cells + mc') (slots + ms') (pc + 3, L, (v.map (pm_v (pm_rn q))).toList ++ rest, pm_bk (pm_rn q) w q w1))
    (hd : pm_find I.1 pc = some (.invokevirtual ix, 3) := by rfl) (hst : st = ((Value.ref k0 :: As).map (pm_v (pm_rn q))).reverse ++ rest := by rfl) (hf1 : va_nd q = true := by rfl) (hf2 : q.map (fun h => pm_nth w h) = wc.map (fun c => some (pm_rc (pm_rn q) c)) := by rfl) (hn : w.length = n := by rfl) (hr : wc[k0]? = some (.inr (ci, fs)) := by rfl) (hqc : vwCl[ci]? = some qc := by rfl)
    (hrest : Nat.ble (rest.map Value.category).sum 8 = true := by rfl) (hdd : Nat.ble (d' + 1) d = true := by rfl) (hml : Nat.ble M'.2.2.1 81 = true := by rfl) (hcs : Nat.ble (cells + mc') mc = true := by rfl) (hss : Nat.ble (slots + ms') ms = true := by rfl) : pm_J l M I d mc ms n O cells slots (pc, L, st, w) :=
  pm_J.call q hM hd hw hy hst ⟨hf1, hf2⟩ hn hr hqc (Nat.le_of_ble_eq_true hrest) (Nat.le_of_ble_eq_true hdd) (Nat.le_of_ble_eq_true hml) (Nat.le_of_ble_eq_true hcs) (Nat.le_of_ble_eq_true hss) (fun E w1 h _ => kx E w1 h) (fun v' w1' h _ => kr v' w1' h)
end RU3
