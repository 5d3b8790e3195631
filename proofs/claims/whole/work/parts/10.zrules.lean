section RUL
variable {l : Launch} {I : pm_I} {M : pm_M} {d mc ms n : Nat} {O : pm_O → List pm_E → Prop} {cells slots : Nat}
/-- a stretch, with the goal behind it a variable (so that it computes no further) -/
theorem pm_J.run (stops : List Nat) (k : Nat) {C : pm_C} (h : ∀ K : pm_C → Prop, (∀ C', pm_J l M I d mc ms n O cells slots C' → K C') → pm_wp I stops K k C) : pm_J l M I d mc ms n O cells slots C := pm_J.go stops k (h _ (fun _ z => z))
/-- it returns v and leaves w -/
abbrev isO (v : Option Value) (w : List pm_E) : pm_O → List pm_E → Prop := fun o w' => o = .inl v ∧ w' = w
abbrev isI (x : Int32) (w : List pm_E) : pm_O → List pm_E → Prop := isO (some (.int x)) w
/-- a counter that goes up -/
theorem pm_up {P : Nat → Prop} {b : Nat} (a : Nat) (hab : a ≤ b) (hend : P b) (hstep : ∀ i, a ≤ i → i < b → P (i + 1) → P i) : P a := by
  have key : ∀ j i, a ≤ i → i + j = b → P i := by
    intro j
    induction j with
    | zero => intro i _ h; rw [show i = b by omega]; exact hend
    | succ j ih => intro i h1 h2; exact hstep i h1 (by omega) (ih (i + 1) (by omega) (by omega))
  exact key (b - a) a (Nat.le_refl _) (by omega)
theorem pm_J.ri {pc : Nat} {L : List (Option Value)} {w : List pm_E} {v : Int32} {ty : FieldType} (hO : O (.inl (some (.int v))) w) (hd : pm_find I.1 pc = some (.ireturn, 1) := by rfl) (hr : M.2.2.2.1 = some ty := by rfl) (hn : narrow ty (.int v) = .int v := by rfl) (hl : w.length = n := by rfl) : pm_J l M I d mc ms n O 0 0 (pc, L, [.int v], w) := pm_J.ret hd hr hn hl (Nat.zero_le _) (Nat.zero_le _) hO
theorem pm_J.rv {pc : Nat} {L : List (Option Value)} {w : List pm_E} (hO : O (.inl none) w) (hd : pm_find I.1 pc = some (.return_, 1) := by rfl) (hr : M.2.2.2.1 = none := by rfl) (hl : w.length = n := by rfl) : pm_J l M I d mc ms n O 0 0 (pc, L, [], w) := pm_J.retv hd hr hl (Nat.zero_le _) (Nat.zero_le _) hO
theorem pm_J.rl {pc : Nat} {L : List (Option Value)} {w : List pm_E} {v : Int64} (hO : O (.inl (some (.long v))) w) (hd : pm_find I.1 pc = some (.lreturn, 1) := by rfl) (hr : M.2.2.2.1 = some .long := by rfl) (hl : w.length = n := by rfl) : pm_J l M I d mc ms n O 0 0 (pc, L, [.long v], w) := pm_J.retl hd hr hl (Nat.zero_le _) (Nat.zero_le _) hO
theorem pm_J.rf {pc : Nat} {L : List (Option Value)} {w : List pm_E} {v : UInt32} (hO : O (.inl (some (.float v))) w) (hd : pm_find I.1 pc = some (.freturn, 1) := by rfl) (hr : M.2.2.2.1 = some .float := by rfl) (hl : w.length = n := by rfl) : pm_J l M I d mc ms n O 0 0 (pc, L, [.float v], w) := pm_J.retf hd hr hl (Nat.zero_le _) (Nat.zero_le _) hO
/-- a call of a method that returns v and leaves w1 -/
theorem pm_J.cl {pc ix ci k0 d' : Nat} {L : List (Option Value)} {st rest As : List Value} {w wc w1 : List pm_E} {M' : pm_M} {fs : List Value} {qc : vw_C} {v : Option Value} (q : List Nat)
    (hM : pm_Met l M' d' 0 0 (.ref k0 :: As) wc (isO v w1))
    (hw : ∀ x ∈ wsV M.2.2.2.2 ix qc.1 M'.1 [Cond.code M'.1 M'.2.1 M'.2.2.1 M'.2.2.2.1], x ∈ pm_tb)
    (hy : M'.1.cls = qc.1 ∧ M'.1.cls ≠ "java/lang/invoke/MethodHandle" ∧ M'.1.cls ≠ "java/lang/invoke/VarHandle" ∧ (parseMethodDescriptor M'.1.desc).map (fun d => d.parameters.length) = some As.length)
    (kr : pm_J l M I d mc ms n O 0 0 (pc + 3, L, (v.map (pm_v (pm_rn q))).toList ++ rest, pm_bk (pm_rn q) w q w1))
    (hd : pm_find I.1 pc = some (.invokevirtual ix, 3) := by rfl) (hst : st = ((Value.ref k0 :: As).map (pm_v (pm_rn q))).reverse ++ rest := by rfl) (hf1 : va_nd q = true := by rfl) (hf2 : q.map (fun h => pm_nth w h) = wc.map (fun c => some (pm_rc (pm_rn q) c)) := by rfl) (hn : w.length = n := by rfl) (hr : wc[k0]? = some (.inr (ci, fs)) := by rfl) (hqc : vwCl[ci]? = some qc := by rfl)
    (hrest : Nat.ble (rest.map Value.category).sum 8 = true := by rfl) (hdd : Nat.ble (d' + 1) d = true := by rfl) (hml : Nat.ble M'.2.2.1 81 = true := by rfl) : pm_J l M I d mc ms n O 0 0 (pc, L, st, w) :=
  pm_J.call q hM hd hw hy hst ⟨hf1, hf2⟩ hn hr hqc (Nat.le_of_ble_eq_true hrest) (Nat.le_of_ble_eq_true hdd) (Nat.le_of_ble_eq_true hml) (Nat.zero_le _) (Nat.zero_le _) (fun E w1 h _ => by cases h.1) (fun v' w1' h _ => by obtain ⟨h1, h2⟩ := h; cases h1; subst h2; exact kr)
theorem pm_J.cls {pc ix d' : Nat} {L : List (Option Value)} {st rest As : List Value} {w wc w1 : List pm_E} {M' : pm_M} {v : Option Value} (q : List Nat)
    (hM : pm_Met l M' d' 0 0 As wc (isO v w1))
    (hw : ∀ x ∈ [Cond.methodLink M.2.2.2.2 ix M'.1, Cond.static M'.1, Cond.initialized M'.1.cls, Cond.code M'.1 M'.2.1 M'.2.2.1 M'.2.2.2.1], x ∈ pm_tb)
    (hy : M'.1.cls ≠ "java/lang/invoke/MethodHandle" ∧ M'.1.cls ≠ "java/lang/invoke/VarHandle" ∧ (parseMethodDescriptor M'.1.desc).map (fun d => d.parameters.length) = some As.length)
    (kr : pm_J l M I d mc ms n O 0 0 (pc + 3, L, (v.map (pm_v (pm_rn q))).toList ++ rest, pm_bk (pm_rn q) w q w1))
    (hd : pm_find I.1 pc = some (.invokestatic ix, 3) := by rfl) (hst : st = (As.map (pm_v (pm_rn q))).reverse ++ rest := by rfl) (hf1 : va_nd q = true := by rfl) (hf2 : q.map (fun h => pm_nth w h) = wc.map (fun c => some (pm_rc (pm_rn q) c)) := by rfl) (hn : w.length = n := by rfl)
    (hrest : Nat.ble (rest.map Value.category).sum 8 = true := by rfl) (hdd : Nat.ble (d' + 1) d = true := by rfl) (hml : Nat.ble M'.2.2.1 81 = true := by rfl) : pm_J l M I d mc ms n O 0 0 (pc, L, st, w) :=
  pm_J.calls q hM hd hw hy hst ⟨hf1, hf2⟩ hn (Nat.le_of_ble_eq_true hrest) (Nat.le_of_ble_eq_true hdd) (Nat.le_of_ble_eq_true hml) (Nat.zero_le _) (Nat.zero_le _) (fun E w1 h _ => by cases h.1) (fun v' w1' h _ => by obtain ⟨h1, h2⟩ := h; cases h1; subst h2; exact kr)
theorem pm_Met.mk {As : List Value} {w : List pm_E} (hI : pm_Ib M I = true) (hst : l.stackTraces = false) (hj : pm_J l M I d mc ms w.length O 0 0 (0, pm_ent M.2.2.1 As, [], w)) (hy : plainName M.1.cls = true := by decide) (ho : M.1.cls = M.2.2.2.2 := by rfl) (hA : Nat.ble (As.map Value.category).sum M.2.2.1 = true := by rfl) : pm_Met l M d mc ms As w O := pm_Met.of hI hy ho hst (Nat.le_of_ble_eq_true hA) hj
/-- whole numbers in a row -/
abbrev nA (f : Nat → Nat) : Nat → Int32 := fun j => nI (f j)
def upN (f : Nat → Nat) (k v : Nat) : Nat → Nat := fun j => if j = k then v else f j
theorem nA_upd (f : Nat → Nat) (k v : Nat) : upd (nA f) k (nI v) = nA (upN f k v) := by
  funext j
  by_cases h : j = k
  · subst h; rw [pk_us]; show nI v = nI (upN f j v j); simp [upN]
  · rw [pk_un h]; show nI (f j) = nI (upN f k v j); simp [upN, h]
theorem upN_s {f : Nat → Nat} {k v : Nat} : upN f k v k = v := by simp [upN]
theorem upN_n {f : Nat → Nat} {k v j : Nat} (h : j ≠ k) : upN f k v j = f j := by simp [upN, h]
def b2n (b : Bool) : Nat := if b then 1 else 0
theorem nI_z {a : Nat} (h : a < 2 ^ 31) : nI a = 0 ↔ a = 0 := by
  rw [← nI_0]
  exact nI_eq h (by decide)
end RUL
