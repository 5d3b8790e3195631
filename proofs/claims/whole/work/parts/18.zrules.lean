section RU2
variable {l : Launch} {I : pm_I} {M : pm_M} {d mc ms n : Nat} {O : pm_O → List pm_E → Prop}
theorem pm_bk_same {q : List Nat} {w wc : List pm_E} (h : pm_fits q w wc) : pm_bk (pm_rn q) w q wc = w := by
  apply List.ext_getElem?
  intro i
  by_cases hm : i ∈ q
  · obtain ⟨k, hk⟩ := List.getElem?_of_mem hm
    have hkl : k < wc.length := by rw [← h.len]; exact (List.getElem?_eq_some_iff.mp hk).1
    obtain ⟨g1, g2, g3⟩ := h.lt hkl
    rw [hk] at g2
    have hi : i = pm_rn q k := Option.some.inj g2
    rw [pm_bk_in _ q w wc k h.1 hk (List.getElem?_eq_getElem hkl) (by rw [hi]; exact g1), hi, g3]
  · exact pm_bk_out _ q w wc hm
section
variable {pc ix ci k0 d' : Nat} {L : List (Option Value)} {st rest As : List Value} {w wc w1 : List pm_E} {M' : pm_M} {fs : List Value} {qc : vw_C}
/-- a call that answers an int and leaves all as it was -/
theorem pm_J.cI {x : Int32} (q : List Nat) (hM : pm_Met l M' d' 0 0 (.ref k0 :: As) wc (isO (some (.int x)) wc))
    (hw : ∀ x ∈ wsV M.2.2.2.2 ix qc.1 M'.1 [Cond.code M'.1 M'.2.1 M'.2.2.1 M'.2.2.2.1], x ∈ pm_tb)
    (hy : M'.1.cls = qc.1 ∧ M'.1.cls ≠ "java/lang/invoke/MethodHandle" ∧ M'.1.cls ≠ "java/lang/invoke/VarHandle" ∧ (parseMethodDescriptor M'.1.desc).map (fun d => d.parameters.length) = some As.length)
    (kr : pm_J l M I d mc ms n O 0 0 (pc + 3, L, .int x :: rest, w))
    (hd : pm_find I.1 pc = some (.invokevirtual ix, 3) := by rfl) (hst : st = ((Value.ref k0 :: As).map (pm_v (pm_rn q))).reverse ++ rest := by rfl) (hf1 : va_nd q = true := by rfl) (hf2 : q.map (fun h => pm_nth w h) = wc.map (fun c => some (pm_rc (pm_rn q) c)) := by rfl) (hn : w.length = n := by rfl) (hr : wc[k0]? = some (.inr (ci, fs)) := by rfl) (hqc : vwCl[ci]? = some qc := by rfl)
    (hrest : Nat.ble (rest.map Value.category).sum 8 = true := by rfl) (hdd : Nat.ble (d' + 1) d = true := by rfl) (hml : Nat.ble M'.2.2.1 81 = true := by rfl) : pm_J l M I d mc ms n O 0 0 (pc, L, st, w) := by
  refine pm_J.cl q hM hw hy ?_ hd hst hf1 hf2 hn hr hqc hrest hdd hml
  rw [pm_bk_same ⟨hf1, hf2⟩]
  exact kr
theorem pm_J.cL {x : Int64} (q : List Nat) (hM : pm_Met l M' d' 0 0 (.ref k0 :: As) wc (isO (some (.long x)) wc))
    (hw : ∀ x ∈ wsV M.2.2.2.2 ix qc.1 M'.1 [Cond.code M'.1 M'.2.1 M'.2.2.1 M'.2.2.2.1], x ∈ pm_tb)
    (hy : M'.1.cls = qc.1 ∧ M'.1.cls ≠ "java/lang/invoke/MethodHandle" ∧ M'.1.cls ≠ "java/lang/invoke/VarHandle" ∧ (parseMethodDescriptor M'.1.desc).map (fun d => d.parameters.length) = some As.length)
    (kr : pm_J l M I d mc ms n O 0 0 (pc + 3, L, .long x :: rest, w))
    (hd : pm_find I.1 pc = some (.invokevirtual ix, 3) := by rfl) (hst : st = ((Value.ref k0 :: As).map (pm_v (pm_rn q))).reverse ++ rest := by rfl) (hf1 : va_nd q = true := by rfl) (hf2 : q.map (fun h => pm_nth w h) = wc.map (fun c => some (pm_rc (pm_rn q) c)) := by rfl) (hn : w.length = n := by rfl) (hr : wc[k0]? = some (.inr (ci, fs)) := by rfl) (hqc : vwCl[ci]? = some qc := by rfl)
    (hrest : Nat.ble (rest.map Value.category).sum 8 = true := by rfl) (hdd : Nat.ble (d' + 1) d = true := by rfl) (hml : Nat.ble M'.2.2.1 81 = true := by rfl) : pm_J l M I d mc ms n O 0 0 (pc, L, st, w) := by
  refine pm_J.cl q hM hw hy ?_ hd hst hf1 hf2 hn hr hqc hrest hdd hml
  rw [pm_bk_same ⟨hf1, hf2⟩]
  exact kr
theorem pm_J.cF {x : UInt32} (q : List Nat) (hM : pm_Met l M' d' 0 0 (.ref k0 :: As) wc (isO (some (.float x)) wc))
    (hw : ∀ x ∈ wsV M.2.2.2.2 ix qc.1 M'.1 [Cond.code M'.1 M'.2.1 M'.2.2.1 M'.2.2.2.1], x ∈ pm_tb)
    (hy : M'.1.cls = qc.1 ∧ M'.1.cls ≠ "java/lang/invoke/MethodHandle" ∧ M'.1.cls ≠ "java/lang/invoke/VarHandle" ∧ (parseMethodDescriptor M'.1.desc).map (fun d => d.parameters.length) = some As.length)
    (kr : pm_J l M I d mc ms n O 0 0 (pc + 3, L, .float x :: rest, w))
    (hd : pm_find I.1 pc = some (.invokevirtual ix, 3) := by rfl) (hst : st = ((Value.ref k0 :: As).map (pm_v (pm_rn q))).reverse ++ rest := by rfl) (hf1 : va_nd q = true := by rfl) (hf2 : q.map (fun h => pm_nth w h) = wc.map (fun c => some (pm_rc (pm_rn q) c)) := by rfl) (hn : w.length = n := by rfl) (hr : wc[k0]? = some (.inr (ci, fs)) := by rfl) (hqc : vwCl[ci]? = some qc := by rfl)
    (hrest : Nat.ble (rest.map Value.category).sum 8 = true := by rfl) (hdd : Nat.ble (d' + 1) d = true := by rfl) (hml : Nat.ble M'.2.2.1 81 = true := by rfl) : pm_J l M I d mc ms n O 0 0 (pc, L, st, w) := by
  refine pm_J.cl q hM hw hy ?_ hd hst hf1 hf2 hn hr hqc hrest hdd hml
  rw [pm_bk_same ⟨hf1, hf2⟩]
  exact kr
/-- a call that leaves w2 -/
theorem pm_J.cv (q : List Nat) (w2 : List pm_E) (hM : pm_Met l M' d' 0 0 (.ref k0 :: As) wc (isO none w1))
    (hw : ∀ x ∈ wsV M.2.2.2.2 ix qc.1 M'.1 [Cond.code M'.1 M'.2.1 M'.2.2.1 M'.2.2.2.1], x ∈ pm_tb)
    (hy : M'.1.cls = qc.1 ∧ M'.1.cls ≠ "java/lang/invoke/MethodHandle" ∧ M'.1.cls ≠ "java/lang/invoke/VarHandle" ∧ (parseMethodDescriptor M'.1.desc).map (fun d => d.parameters.length) = some As.length)
    (kr : pm_J l M I d mc ms n O 0 0 (pc + 3, L, rest, w2))
    (hw2 : pm_bk (pm_rn q) w q w1 = w2 := by rfl)
    (hd : pm_find I.1 pc = some (.invokevirtual ix, 3) := by rfl) (hst : st = ((Value.ref k0 :: As).map (pm_v (pm_rn q))).reverse ++ rest := by rfl) (hf1 : va_nd q = true := by rfl) (hf2 : q.map (fun h => pm_nth w h) = wc.map (fun c => some (pm_rc (pm_rn q) c)) := by rfl) (hn : w.length = n := by rfl) (hr : wc[k0]? = some (.inr (ci, fs)) := by rfl) (hqc : vwCl[ci]? = some qc := by rfl)
    (hrest : Nat.ble (rest.map Value.category).sum 8 = true := by rfl) (hdd : Nat.ble (d' + 1) d = true := by rfl) (hml : Nat.ble M'.2.2.1 81 = true := by rfl) : pm_J l M I d mc ms n O 0 0 (pc, L, st, w) := by
  refine pm_J.cl q hM hw hy ?_ hd hst hf1 hf2 hn hr hqc hrest hdd hml
  rw [hw2]
  exact kr
theorem pm_J.ciw {x : Int32} (q : List Nat) (w2 : List pm_E) (hM : pm_Met l M' d' 0 0 (.ref k0 :: As) wc (isO (some (.int x)) w1))
    (hw : ∀ x ∈ wsV M.2.2.2.2 ix qc.1 M'.1 [Cond.code M'.1 M'.2.1 M'.2.2.1 M'.2.2.2.1], x ∈ pm_tb)
    (hy : M'.1.cls = qc.1 ∧ M'.1.cls ≠ "java/lang/invoke/MethodHandle" ∧ M'.1.cls ≠ "java/lang/invoke/VarHandle" ∧ (parseMethodDescriptor M'.1.desc).map (fun d => d.parameters.length) = some As.length)
    (kr : pm_J l M I d mc ms n O 0 0 (pc + 3, L, .int x :: rest, w2))
    (hw2 : pm_bk (pm_rn q) w q w1 = w2 := by rfl)
    (hd : pm_find I.1 pc = some (.invokevirtual ix, 3) := by rfl) (hst : st = ((Value.ref k0 :: As).map (pm_v (pm_rn q))).reverse ++ rest := by rfl) (hf1 : va_nd q = true := by rfl) (hf2 : q.map (fun h => pm_nth w h) = wc.map (fun c => some (pm_rc (pm_rn q) c)) := by rfl) (hn : w.length = n := by rfl) (hr : wc[k0]? = some (.inr (ci, fs)) := by rfl) (hqc : vwCl[ci]? = some qc := by rfl)
    (hrest : Nat.ble (rest.map Value.category).sum 8 = true := by rfl) (hdd : Nat.ble (d' + 1) d = true := by rfl) (hml : Nat.ble M'.2.2.1 81 = true := by rfl) : pm_J l M I d mc ms n O 0 0 (pc, L, st, w) := by
  refine pm_J.cl q hM hw hy ?_ hd hst hf1 hf2 hn hr hqc hrest hdd hml
  rw [hw2]
  exact kr
theorem pm_J.cLw {x : Int64} (q : List Nat) (w2 : List pm_E) (hM : pm_Met l M' d' 0 0 (.ref k0 :: As) wc (isO (some (.long x)) w1))
    (hw : ∀ x ∈ wsV M.2.2.2.2 ix qc.1 M'.1 [Cond.code M'.1 M'.2.1 M'.2.2.1 M'.2.2.2.1], x ∈ pm_tb)
    (hy : M'.1.cls = qc.1 ∧ M'.1.cls ≠ "java/lang/invoke/MethodHandle" ∧ M'.1.cls ≠ "java/lang/invoke/VarHandle" ∧ (parseMethodDescriptor M'.1.desc).map (fun d => d.parameters.length) = some As.length)
    (kr : pm_J l M I d mc ms n O 0 0 (pc + 3, L, .long x :: rest, w2))
    (hw2 : pm_bk (pm_rn q) w q w1 = w2 := by rfl)
    (hd : pm_find I.1 pc = some (.invokevirtual ix, 3) := by rfl) (hst : st = ((Value.ref k0 :: As).map (pm_v (pm_rn q))).reverse ++ rest := by rfl) (hf1 : va_nd q = true := by rfl) (hf2 : q.map (fun h => pm_nth w h) = wc.map (fun c => some (pm_rc (pm_rn q) c)) := by rfl) (hn : w.length = n := by rfl) (hr : wc[k0]? = some (.inr (ci, fs)) := by rfl) (hqc : vwCl[ci]? = some qc := by rfl)
    (hrest : Nat.ble (rest.map Value.category).sum 8 = true := by rfl) (hdd : Nat.ble (d' + 1) d = true := by rfl) (hml : Nat.ble M'.2.2.1 81 = true := by rfl) : pm_J l M I d mc ms n O 0 0 (pc, L, st, w) := by
  refine pm_J.cl q hM hw hy ?_ hd hst hf1 hf2 hn hr hqc hrest hdd hml
  rw [hw2]
  exact kr
end
/-- a static call that answers an int and touches no world -/
theorem pm_J.cis {pc ix d' : Nat} {L : List (Option Value)} {st rest As : List Value} {w : List pm_E} {M' : pm_M} {x : Int32} (hM : pm_Met l M' d' 0 0 As [] (isO (some (.int x)) []))
    (hw : ∀ x ∈ [Cond.methodLink M.2.2.2.2 ix M'.1, Cond.static M'.1, Cond.initialized M'.1.cls, Cond.code M'.1 M'.2.1 M'.2.2.1 M'.2.2.2.1], x ∈ pm_tb)
    (hy : M'.1.cls ≠ "java/lang/invoke/MethodHandle" ∧ M'.1.cls ≠ "java/lang/invoke/VarHandle" ∧ (parseMethodDescriptor M'.1.desc).map (fun d => d.parameters.length) = some As.length)
    (kr : pm_J l M I d mc ms n O 0 0 (pc + 3, L, .int x :: rest, w))
    (hd : pm_find I.1 pc = some (.invokestatic ix, 3) := by rfl) (hst : st = (As.map (pm_v (pm_rn []))).reverse ++ rest := by rfl) (hn : w.length = n := by rfl)
    (hrest : Nat.ble (rest.map Value.category).sum 8 = true := by rfl) (hdd : Nat.ble (d' + 1) d = true := by rfl) (hml : Nat.ble M'.2.2.1 81 = true := by rfl) : pm_J l M I d mc ms n O 0 0 (pc, L, st, w) :=
  pm_J.cls [] hM hw hy kr hd hst rfl rfl hn hrest hdd hml
end RU2
