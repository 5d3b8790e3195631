section PMD
variable {p : Program} {l : Launch} {e : Env} {R : Room} {s : State} {m : MethodId} {args : Array Value} {below : List Frame} {meth : Method} {c : Code} {cells slots : Nat} {Q : State → Prop} {cc : ByteArray} {ad : Nat → Nat} {tI : Nat → ClassId} {nL : Nat} {D : va_G} {A : Nat → Prop} {own : String} {Ts : List Cond} {I : pm_I}
theorem pm_X.dec (X : pm_X p s m args c cc own Ts I) {pc n : Nat} {i : Instr} (h : pm_find I.1 pc = some (i, n)) : decode cc pc = .ok (i, n) := X.2.2.2.2.2.1 (pc, i, n) (pm_find_mem _ _ _ h)
set_option maxHeartbeats 1000000 in
theorem pm_do_ok (X : pm_X p s m args c cc own Ts I) (C : pm_C) (h : pm_ask (pm_W p l e R s m args below meth c nL D A ad tI cells slots Q) (pm_do I C) C) : pm_W p l e R s m args below meth c nL D A ad tI cells slots Q C := by
  obtain ⟨pc, L, st, w⟩ := C
  have hx := X.1
  have hb := X.2.1
  unfold pm_do at h
  dsimp only at h
  split at h
  · exact h
  · rename_i i n hf
    have hdg : decode cc pc = .ok (i, n) := X.dec hf
    split at h
    · rename_i kd ix len hld
      split at h
      · rename_i v hv
        split at h
        · rename_i hq
          simp only [Bool.and_eq_true] at hq
          have h1 := Nat.eq_of_beq_eq_true hq.1
          have h2 := Nat.eq_of_beq_eq_true hq.2
          subst h1; subst h2
          rw [pm_nth_eq] at hv
          intro H locs ls hP hD hS hL hK
          exact pm_ld_ok hx hb hld (hL.2.2.2 _ _ hv) hdg (h H locs ls hP hD hS hL hK)
        · exact h
      · exact h
    · split at h
      · rename_i kd ix len hst
        split at h
        · rename_i v r
          split at h
          · rename_i hq
            simp only [Bool.and_eq_true] at hq
            have h1 := Nat.eq_of_beq_eq_true hq.1.1
            have h2 := Nat.eq_of_beq_eq_true hq.1.2
            have h3 := Nat.le_of_ble_eq_true hq.2
            subst h1; subst h2
            split at h
            · rename_i hc
              have hc := Nat.eq_of_beq_eq_true hc
              intro H locs ls hP hD hS hL hK
              refine pm_st_ok hx hb hst hL (by rw [← hL.1]; exact h3) hdg (fun ls' h' => ?_)
              rw [if_pos hc] at h'
              exact h H locs ls' hP hD hS h' hK
            · rename_i hc
              have hc : ¬ v.category = 1 := fun z => by rw [z] at hc; cases hc
              intro H locs ls hP hD hS hL hK
              refine pm_st_ok hx hb hst hL (by rw [← hL.1]; exact h3) hdg (fun ls' h' => ?_)
              rw [if_neg hc] at h'
              exact h H locs ls' hP hD hS h' hK
          · exact h
        · exact h
      · split at h
        · rename_i k st' hk
          unfold pm_go at h
          split at h
          · rename_i hq
            have h1 := Nat.eq_of_beq_eq_true hq
            subst h1
            intro H locs ls hP hD hS hL hK
            exact pm_stk_ok hx hb hk hdg (h H locs ls hP hD hS hL hK)
          · exact h
        · split at h
          · rename_i k st' hk
            unfold pm_go at h
            split at h
            · rename_i hq
              have h1 := Nat.eq_of_beq_eq_true hq
              subst h1
              intro H locs ls hP hD hS hL hK
              exact pm_stk2_ok hx hb hk hdg (h H locs ls hP hD hS hL hK)
            · exact h
          · split at h
            · rename_i g k st' hk
              split at h
              · rename_i hq
                have h1 := Nat.eq_of_beq_eq_true hq
                subst h1
                intro H locs ls hP hD hS hL hK
                exact pm_gst_ok hx hb hk h.1 hdg (h.2 H locs ls hP hD hS hL hK)
              · exact h
            · split at h
              · rename_i q off st' hk
                split at h
                · rename_i hq
                  simp only [Bool.and_eq_true, decide_eq_true_eq] at hq
                  have h1 := Nat.eq_of_beq_eq_true hq.1
                  subst h1
                  intro H locs ls hP hD hS hL hK
                  exact pm_br_ok hx hb hk (Int.toNat_of_nonneg hq.2).symm hdg (fun z => h.1 z H locs ls hP hD hS hL hK) (fun z => h.2 z H locs ls hP hD hS hL hK)
                · exact h
              · exact pm_mem_ok X hdg h
theorem pm_wp_ok (X : pm_X p s m args c cc own Ts I) (stops : List Nat) : ∀ (n : Nat) (C : pm_C), pm_wp I stops (pm_W p l e R s m args below meth c nL D A ad tI cells slots Q) n C → pm_W p l e R s m args below meth c nL D A ad tI cells slots Q C
  | 0, C, h => h
  | n + 1, C, h => by
    have at' : ∀ C', pm_at stops (pm_W p l e R s m args below meth c nL D A ad tI cells slots Q) (pm_wp I stops (pm_W p l e R s m args below meth c nL D A ad tI cells slots Q) n) C' → pm_W p l e R s m args below meth c nL D A ad tI cells slots Q C' := fun C' h' => by
      unfold pm_at at h'
      split at h'
      · exact h'
      · exact pm_wp_ok X stops n C' h'
    refine pm_do_ok X C ?_
    unfold pm_wp at h
    unfold pm_ask
    split at h
    · exact h
    · exact at' _ h
    · exact ⟨h.1, at' _ h.2⟩
    · exact ⟨fun z => at' _ (h.1 z), fun z => at' _ (h.2 z)⟩
/-! what is carried besides the world -/
def pm_tb : List Cond := lw_tbl.filter goodWord
def pm_kind (w : Cond) : Bool := match w with
  | .castable _ _ => true
  | .declares _ => true
  | .fieldLinkNest _ _ _ _ _ _ => true
  | .methodLinkNest _ _ _ _ => true
  | _ => false
def pm_ng : List Cond := lw_tbl.filter pm_kind
def pm_strs : List (String × Nat × String) := [(RX5, 102, "a weight is 1 to 9"), (RX5, 131, "fewer than three kinds"), (RX5, 140, "no such tree was found"), (RX5, 182, "above is 0.5 to 1"), (RX5, 188, "no such tree"), (RX5, 190, "no such character"), (RX5, 192, "nothing is found"), (RX5, 56, "the text is full"), (RX5, 89, "no such kind or character")]
def pm_ncs : List (String × String) := [("java/lang/IllegalArgumentException", "java/lang/IndexOutOfBoundsException"), ("java/lang/IllegalArgumentException", "java/lang/IllegalStateException")]
def pm_G (A : Nat → Prop) (U : State) (H : Heap) : Prop := (∀ w ∈ pm_ng, va_Nw w U) ∧ (∃ sa : Nat → Nat, ∀ q ∈ pm_strs, vk_R q.1 q.2.1 q.2.2 (sa q.2.1) U) ∧ (∀ q ∈ pm_ncs, va_Nc q.1 q.2 U) ∧ vx_Zq Bundle.tN "UNASSIGNED_STACK" Bundle.steD A U H ∧ vx_Zq Bundle.tN "SUPPRESSED_SENTINEL" Bundle.listD A U H
theorem pm_Nw.warm {s U : State} (hW : s.WarmedH U.vm) {w : Cond} (hk : pm_kind w = true) (h : va_Nw w s) : va_Nw w U := by
  unfold pm_kind at hk
  split at hk
  · exact va_Nw.warmC hW h
  · exact va_Nw.warmD hW h
  · exact va_Nw.warmF hW h
  · exact va_Nw.warmM hW h
  · cases hk
theorem pm_G.warm {A B : Nat → Prop} {s U : State} (h : pm_G A s s.heap) (hW : s.WarmedH U.vm) (hS : ∀ q : Nat, q < s.heap.size → ¬ A q → U.heap[q]? = s.heap[q]?) (hAB : ∀ q, B q → A q) : pm_G B U U.heap := by
  obtain ⟨h1, ⟨sa, h2⟩, h3, h4, h5⟩ := h
  refine ⟨fun w hw => pm_Nw.warm hW (List.mem_filter.mp hw).2 (h1 w hw), ⟨sa, fun q hq => vk_R.warm hW (h2 q hq)⟩, fun q hq => ?_, ?_, ?_⟩
  · obtain ⟨a, b, g1, g2, g3⟩ := h3 q hq
    exact ⟨a, b, by rw [hW.alike.findClass]; exact g1, by rw [hW.alike.findClass]; exact g2, by rw [hW.alike.assignable]; exact g3⟩
  · exact ((h4.kept hS).moved hW.alike).narrow hAB
  · exact ((h5.kept hS).moved hW.alike).narrow hAB
theorem pm_G.calling {A : Nat → Prop} {U : State} (h : pm_G A U U.heap) (g : JFrame) (mk : MethodId) (a : Array Value) : pm_G A (U.calling g mk a) (U.calling g mk a).heap :=
  h.warm (U := U.calling g mk a) (State.WarmedH.refl U) (fun _ _ _ => rfl) (fun _ z => z)
def pm_A (ad : Nat → Nat) (n sz : Nat) : Nat → Prop := fun q => (∃ k, k < n ∧ q = ad k) ∨ sz ≤ q
def pm_inj (ad : Nat → Nat) (n : Nat) : Prop := ∀ i j, i < n → j < n → ad i = ad j → i = j
theorem pm_D {ad : Nat → Nat} {tI : Nat → ClassId} {w : List pm_E} {A : Nat → Prop} (hi : pm_inj ad w.length) (hA : ∀ k, k < w.length → A (ad k)) : va_D A (pm_w ad tI w) := by
  have key : ∀ (k : Nat) (q : Nat × va_E), (pm_w ad tI w)[k]? = some q → k < w.length ∧ q.1 = ad k := by
    intro k q hk
    have hl := (List.getElem?_eq_some_iff.mp hk).1
    rw [pm_w_len] at hl
    rw [pm_w_get (List.getElem?_eq_getElem hl)] at hk
    cases hk
    exact ⟨hl, rfl⟩
  refine ⟨fun i j x y hx hy hxy => ?_, fun k q hk => ?_⟩
  · obtain ⟨a1, a2⟩ := key i x hx
    obtain ⟨b1, b2⟩ := key j y hy
    exact hi i j a1 b1 (by rw [← a2, ← b2, hxy])
  · obtain ⟨a1, a2⟩ := key k q hk
    rw [a2]
    exact hA k a1
theorem pm_D.inj {ad : Nat → Nat} {tI : Nat → ClassId} {w : List pm_E} {A : Nat → Prop} (h : va_D A (pm_w ad tI w)) : pm_inj ad w.length := fun i j hi hj hij =>
  h.1 i j _ _ (pm_w_get (List.getElem?_eq_getElem hi)) (pm_w_get (List.getElem?_eq_getElem hj)) hij
/-- returned, or thrown -/
abbrev pm_O : Type := Option Value ⊕ String
def pm_end (D : va_G) (ad : Nat → Nat) (tI : Nat → ClassId) (n sz : Nat) (O : pm_O → List pm_E → Prop) (o : pm_O) (st t : State) : Prop := ∃ w', O o w' ∧ w'.length = n ∧ va_P D vwCl (pm_w ad tI w') t.heap ∧ pm_K D vwCl tI w' t ∧ va_F (pm_A ad n sz) st t
def pm_Pc (D : va_G) (ad : Nat → Nat) (tI : Nat → ClassId) (sz : Nat) (As : List Value) (w : List pm_E) : Array Value → State → Prop := va_Pc (As.map (pm_v ad)) (fun U => U.heap.size = sz ∧ va_P D vwCl (pm_w ad tI w) U.heap ∧ pm_K D vwCl tI w U ∧ pm_inj ad w.length ∧ pm_G (pm_A ad w.length sz) U U.heap)
def pm_Qc (D : va_G) (ad : Nat → Nat) (tI : Nat → ClassId) (n sz : Nat) (O : pm_O → List pm_E → Prop) : Array Value → State → Outcome → State → Prop := fun _ st oc t => ∃ v, oc = .returned (v.map (pm_v ad)) ∧ pm_end D ad tI n sz O (.inl v) st t
def pm_XC (D : va_G) (ad : Nat → Nat) (tI : Nat → ClassId) (n sz : Nat) (O : pm_O → List pm_E → Prop) : String → State → State → Prop := fun E st t => pm_end D ad tI n sz O (.inr E) st t
/-- name, code, locals, answer, own -/
abbrev pm_M : Type := MethodName × ByteArray × Nat × Option FieldType × String
def pm_ws (M : pm_M) : List Cond := Cond.code M.1 M.2.1 M.2.2.1 M.2.2.2.1 :: pm_tb
abbrev pm_rm (d mc ms : Nat) : Room := { frames := d, cells := mc, slots := ms, locals := 100 * d }
def pm_Met (l : Launch) (M : pm_M) (d mc ms : Nat) (As : List Value) (w : List pm_E) (O : pm_O → List pm_E → Prop) : Prop :=
  ∀ (D : va_G) (ad : Nat → Nat) (tI : Nat → ClassId) (sz : Nat), vx_Met l M.1 (pm_ws M) (pm_rm d mc ms) (pm_Pc D ad tI sz As w) (pm_Qc D ad tI w.length sz O) (pm_XC D ad tI w.length sz O) mc ms (pm_A ad w.length sz)
def pm_ctx (l : Launch) (M : pm_M) (I : pm_I) (n : Nat) (p : Program) (s : State) (m : MethodId) (args : Array Value) (meth : Method) (c : Code) (ad : Nat → Nat) : Prop :=
  pm_X p s m args c M.2.1 M.2.2.2.2 (pm_ws M) I ∧ c.maxLocals = M.2.2.1 ∧ meth.sig.returnType = M.2.2.2.1 ∧ meth.locks = false ∧ (∀ x ∈ c.exceptionTable.toList, False) ∧ pm_G (pm_A ad n s.heap.size) s s.heap ∧ l.stackTraces = false
/-- from the place C of M's body it comes to an end with O -/
def pm_J (l : Launch) (M : pm_M) (I : pm_I) (d mc ms n : Nat) (O : pm_O → List pm_E → Prop) (cells slots : Nat) (C : pm_C) : Prop :=
  ∀ (p : Program) (e : Env) (s : State) (m : MethodId) (args : Array Value) (below : List Frame) (meth : Method) (c : Code) (D : va_G) (ad : Nat → Nat) (tI : Nat → ClassId), pm_ctx l M I n p s m args meth c ad →
    pm_W p l e (pm_rm d mc ms) s m args below meth c M.2.2.1 D (pm_A ad n s.heap.size) ad tI cells slots (vx_MQ below (pm_Qc D ad tI n s.heap.size O) (pm_XC D ad tI n s.heap.size O) args s mc ms (pm_A ad n s.heap.size)) C
variable {M : pm_M} {d mc ms n : Nat} {O : pm_O → List pm_E → Prop}
theorem pm_wp_mono {I : pm_I} {stops : List Nat} {K K' : pm_C → Prop} (hK : ∀ C, K C → K' C) : ∀ (n : Nat) (C : pm_C), pm_wp I stops K n C → pm_wp I stops K' n C
  | 0, C, h => hK C h
  | n + 1, C, h => by
    have at' : ∀ C', pm_at stops K (pm_wp I stops K n) C' → pm_at stops K' (pm_wp I stops K' n) C' := fun C' h' => by
      unfold pm_at at h' ⊢
      split
      · rename_i hq; rw [hq] at h'; exact hK _ h'
      · rename_i hq; rw [hq] at h'; exact pm_wp_mono hK n C' h'
    unfold pm_wp at h ⊢
    split
    · rename_i hq; rw [hq] at h; exact hK _ h
    · rename_i hq; rw [hq] at h; exact at' _ h
    · rename_i hq; rw [hq] at h; exact ⟨h.1, at' _ h.2⟩
    · rename_i hq; rw [hq] at h; exact ⟨fun z => at' _ (h.1 z), fun z => at' _ (h.2 z)⟩
/-- a stretch -/
theorem pm_J.go (stops : List Nat) (k : Nat) {C : pm_C} (h : pm_wp I stops (pm_J l M I d mc ms n O cells slots) k C) : pm_J l M I d mc ms n O cells slots C := fun p e s m args below meth c D ad tI X =>
  pm_wp_ok X.1 stops k C (pm_wp_mono (fun C' h' => h' p e s m args below meth c D ad tI X) k C h)
theorem pm_J.ret {pc : Nat} {L : List (Option Value)} {w : List pm_E} {v : Int32} {ty : FieldType} (hd : pm_find I.1 pc = some (.ireturn, 1)) (hr : M.2.2.2.1 = some ty) (hn : narrow ty (.int v) = .int v) (hl : w.length = n) (hc : cells ≤ mc) (hs : slots ≤ ms) (hO : O (.inl (some (.int v))) w) : pm_J l M I d mc ms n O cells slots (pc, L, [.int v], w) := by
  intro p e s m args below meth c D ad tI X H locs ls hP hD hS hL hK
  refine vx_ret (W.widen hc hs (W.zret X.1.1 X.1.2.1 (X.2.2.1.trans hr) hn (fun t ht hW => ⟨some (.int v), rfl, w, hO, hl, by rw [ht]; exact hP, hK.moved hW.alike, hS.F ht⟩) hS.2.2 (X.1.dec hd) X.2.2.2.1))
theorem pm_J.retl {pc : Nat} {L : List (Option Value)} {w : List pm_E} {v : Int64} (hd : pm_find I.1 pc = some (.lreturn, 1)) (hr : M.2.2.2.1 = some .long) (hl : w.length = n) (hc : cells ≤ mc) (hs : slots ≤ ms) (hO : O (.inl (some (.long v))) w) : pm_J l M I d mc ms n O cells slots (pc, L, [.long v], w) := by
  intro p e s m args below meth c D ad tI X H locs ls hP hD hS hL hK
  refine vx_ret (W.widen hc hs (W.lret X.1.1 X.1.2.1 (X.2.2.1.trans hr) (fun t ht hW => ⟨some (.long v), rfl, w, hO, hl, by rw [ht]; exact hP, hK.moved hW.alike, hS.F ht⟩) hS.2.2 (X.1.dec hd) X.2.2.2.1))
theorem pm_J.retf {pc : Nat} {L : List (Option Value)} {w : List pm_E} {v : UInt32} (hd : pm_find I.1 pc = some (.freturn, 1)) (hr : M.2.2.2.1 = some .float) (hl : w.length = n) (hc : cells ≤ mc) (hs : slots ≤ ms) (hO : O (.inl (some (.float v))) w) : pm_J l M I d mc ms n O cells slots (pc, L, [.float v], w) := by
  intro p e s m args below meth c D ad tI X H locs ls hP hD hS hL hK
  refine vx_ret (W.widen hc hs (W.fret X.1.1 X.1.2.1 (X.2.2.1.trans hr) (fun t ht hW => ⟨some (.float v), rfl, w, hO, hl, by rw [ht]; exact hP, hK.moved hW.alike, hS.F ht⟩) hS.2.2 (X.1.dec hd) X.2.2.2.1))
theorem pm_J.retv {pc : Nat} {L : List (Option Value)} {w : List pm_E} (hd : pm_find I.1 pc = some (.return_, 1)) (hr : M.2.2.2.1 = none) (hl : w.length = n) (hc : cells ≤ mc) (hs : slots ≤ ms) (hO : O (.inl none) w) : pm_J l M I d mc ms n O cells slots (pc, L, [], w) := by
  intro p e s m args below meth c D ad tI X H locs ls hP hD hS hL hK
  refine vx_ret (W.widen hc hs (W.vret X.1.1 X.1.2.1 (X.2.2.1.trans hr) (fun t ht hW => ⟨none, rfl, w, hO, hl, by rw [ht]; exact hP, hK.moved hW.alike, hS.F ht⟩) hS.2.2 (X.1.dec hd) X.2.2.2.1))
end PMD
