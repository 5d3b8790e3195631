section LWD
variable {l : Launch} {I : pm_I} {M : pm_M} {hh : List (Nat × Nat × Nat × Nat)} {d mc ms n cells slots : Nat} {O : pm_O → List pm_E → Prop}
/-- the words of a method with handlers -/
def pm_wh (M : pm_M) (hh : List (Nat × Nat × Nat × Nat)) : List Cond := Cond.codeWith M.1 M.2.1 M.2.2.1 M.2.2.2.1 hh :: pm_tb
def pm_MetH (l : Launch) (M : pm_M) (hh : List (Nat × Nat × Nat × Nat)) (d mc ms : Nat) (As : List Value) (w : List pm_E) (O : pm_O → List pm_E → Prop) : Prop :=
  ∀ (D : va_G) (ad : Nat → Nat) (tI : Nat → ClassId) (sz : Nat), vx_Met l M.1 (pm_wh M hh) (pm_rm d mc ms) (pm_Pc D ad tI sz As w) (pm_Qc D ad tI w.length sz O) (pm_XC D ad tI w.length sz O) mc ms (pm_A ad w.length sz)
def hc_ctx (l : Launch) (M : pm_M) (hh : List (Nat × Nat × Nat × Nat)) (I : pm_I) (n : Nat) (p : Program) (s : State) (m : MethodId) (args : Array Value) (meth : Method) (c : Code) (ad : Nat → Nat) : Prop :=
  pm_X p s m args c M.2.1 M.2.2.2.2 (pm_wh M hh) I ∧ c.maxLocals = M.2.2.1 ∧ meth.sig.returnType = M.2.2.2.1 ∧ meth.locks = false ∧ c.exceptionTable.toList = tableOf hh ∧ pm_G (pm_A ad n s.heap.size) s s.heap ∧ l.stackTraces = false
def hJ (l : Launch) (M : pm_M) (hh : List (Nat × Nat × Nat × Nat)) (I : pm_I) (d mc ms n : Nat) (O : pm_O → List pm_E → Prop) (cells slots : Nat) (C : pm_C) : Prop :=
  ∀ (p : Program) (e : Env) (s : State) (m : MethodId) (args : Array Value) (below : List Frame) (meth : Method) (c : Code) (D : va_G) (ad : Nat → Nat) (tI : Nat → ClassId), hc_ctx l M hh I n p s m args meth c ad →
    pm_W p l e (pm_rm d mc ms) s m args below meth c M.2.2.1 D (pm_A ad n s.heap.size) ad tI cells slots (vx_MQ below (pm_Qc D ad tI n s.heap.size O) (pm_XC D ad tI n s.heap.size O) args s mc ms (pm_A ad n s.heap.size)) C
theorem hJ.run (stops : List Nat) (k : Nat) {C : pm_C} (h : ∀ K : pm_C → Prop, (∀ C', hJ l M hh I d mc ms n O cells slots C' → K C') → pm_wp I stops K k C) : hJ l M hh I d mc ms n O cells slots C := fun p e s m args below meth c D ad tI X =>
  pm_wp_ok X.1 stops k C (h _ (fun C' h' => h' p e s m args below meth c D ad tI X))
theorem hJ.ri {pc : Nat} {L : List (Option Value)} {w : List pm_E} {v : Int32} (hO : O (.inl (some (.int v))) w) (hc : Nat.ble cells mc = true := by rfl) (hs : Nat.ble slots ms = true := by rfl) (hd : pm_find I.1 pc = some (.ireturn, 1) := by rfl) (hr : M.2.2.2.1 = some .int := by rfl) (hl : w.length = n := by rfl) : hJ l M hh I d mc ms n O cells slots (pc, L, [.int v], w) := by
  intro p e s m args below meth c D ad tI X H locs ls hP hD hS hL hK
  exact vx_ret (W.widen (Nat.le_of_ble_eq_true hc) (Nat.le_of_ble_eq_true hs) (W.zret X.1.1 X.1.2.1 (X.2.2.1.trans hr) rfl (fun t ht hW => ⟨some (.int v), rfl, w, hO, hl, by rw [ht]; exact hP, hK.moved hW.alike, hS.F ht⟩) hS.2.2 (X.1.dec hd) X.2.2.2.1))
theorem pm_ng_use {A : Nat → Prop} {s : State} {args : Array Value} (h : pm_G A s s.heap) {x : Cond} (hx : x ∈ pm_ng) : x.before args s = true := by
  have hkd := (List.mem_filter.mp hx).2
  have h1 := h.1 x hx
  unfold pm_kind at hkd
  split at hkd
  · exact va_Nw.use rfl h1
  · exact va_Nw.use rfl h1
  · exact va_Nw.use rfl h1
  · exact va_Nw.use rfl h1
  · cases hkd
/-- which row catches E at pc, and what the handler answers: rows before it that are passed, the row, its class's name; at the handler astore, iconst k, ireturn -/
def hc_H (M : pm_M) (hh : List (Nat × Nat × Nat × Nat)) (I : pm_I) (pc : Nat) (E : String) (k : Int32) : Prop :=
  ∃ (pre : List ExceptionTableEntry) (x : ExceptionTableEntry) (suf : List ExceptionTableEntry) (name : String) (ix len : Nat) (i0 : Instr) (k0 : Int), tableOf hh = pre ++ x :: suf ∧
    (∀ z ∈ pre, covers z pc = true ∧ z.catchType ≠ 0 ∧ ∃ nm : String, Cond.classLink M.2.2.2.2 z.catchType nm ∈ pm_tb ∧ (E, nm) ∈ pm_ncs) ∧ covers x pc = true ∧ x.catchType ≠ 0 ∧ Cond.classLink M.2.2.2.2 x.catchType name ∈ pm_tb ∧ Cond.castable E name ∈ pm_ng ∧
    pm_find I.1 x.handlerPc = some (i0, len) ∧ pm_sti i0 = some (4, ix, len) ∧ ix + 1 ≤ M.2.2.1 ∧ pm_find I.1 (x.handlerPc + len) = some (.iconst k0, 1) ∧ Int32.ofInt k0 = k ∧ pm_find I.1 (x.handlerPc + len + 1) = some (.ireturn, 1)
/-- a virtual call whose throws are caught -/
theorem hJ.call {pc ix ci k0 d' mc' ms' : Nat} {L : List (Option Value)} {st rest As : List Value} {w wc : List pm_E} {M' : pm_M} {O' : pm_O → List pm_E → Prop} {fs : List Value} {qc : vw_C} (q : List Nat)
    (hM : pm_Met l M' d' mc' ms' (.ref k0 :: As) wc O')
    (hw : ∀ x ∈ wsV M.2.2.2.2 ix qc.1 M'.1 [Cond.code M'.1 M'.2.1 M'.2.2.1 M'.2.2.2.1], x ∈ pm_tb)
    (hy : M'.1.cls = qc.1 ∧ M'.1.cls ≠ "java/lang/invoke/MethodHandle" ∧ M'.1.cls ≠ "java/lang/invoke/VarHandle" ∧ (parseMethodDescriptor M'.1.desc).map (fun d => d.parameters.length) = some As.length)
    (kx : ∀ E w1, O' (.inr E) w1 → w1.length = wc.length → ∃ k, hc_H M hh I pc E k ∧ O (.inl (some (.int k))) (pm_bk (pm_rn q) w q w1))
    (kr : ∀ v w1, O' (.inl v) w1 → w1.length = wc.length → hJ l M hh I d mc ms n O (cells + mc') (slots + ms') (pc + 3, L, (v.map (pm_v (pm_rn q))).toList ++ rest, pm_bk (pm_rn q) w q w1))
    (hd : pm_find I.1 pc = some (.invokevirtual ix, 3) := by rfl) (hst : st = ((Value.ref k0 :: As).map (pm_v (pm_rn q))).reverse ++ rest := by rfl) (hf1 : va_nd q = true := by rfl) (hf2 : q.map (fun h => pm_nth w h) = wc.map (fun c => some (pm_rc (pm_rn q) c)) := by rfl) (hn : w.length = n := by rfl) (hr : wc[k0]? = some (.inr (ci, fs)) := by rfl) (hqc : vwCl[ci]? = some qc := by rfl)
    (hrest : Nat.ble (rest.map Value.category).sum 8 = true := by rfl) (hdd : Nat.ble (d' + 1) d = true := by rfl) (hml : Nat.ble M'.2.2.1 81 = true := by rfl) (hcs : Nat.ble (cells + mc') mc = true := by rfl) (hss : Nat.ble (slots + ms') ms = true := by rfl) (hret : M.2.2.2.1 = some .int := by rfl) : hJ l M hh I d mc ms n O cells slots (pc, L, st, w) := by
  intro p e s m args below meth c D ad tI X
  obtain ⟨X1, Xml, Xr, Xlk, Xt, XG, Xl⟩ := id X
  have h1 := Nat.le_of_ble_eq_true hdd
  have h2 := Nat.le_of_ble_eq_true hml
  refine pm_W.call (R := pm_rm d mc ms) q X1 (fun z hz => List.mem_cons_of_mem _ hz) Xml XG hM hd hw hy hst ⟨hf1, hf2⟩ hn hr hqc (Nat.le_of_ble_eq_true hrest) h1 (by show 8 + (M'.2.2.1 + 11) + 100 * d' ≤ 100 * d; omega) (Nat.le_of_ble_eq_true hcs) (Nat.le_of_ble_eq_true hss) (fun E w1 hO hl H1 locs1 ls a ce hP hD hS hL hK g1 g2 g3 => ?_) (fun v w1 hO hl => kr v w1 hO hl p e s m args below meth c D ad tI X)
  obtain ⟨k, ⟨pre, x, suf, name, ix2, len, i0, k2, a1, a2, a3, a4, a5, a6, a7, a8, a9, a10, a11, a12⟩, hk⟩ := kx E w1 hO hl
  have hts := X1.2.2.2.1
  refine lw_catch X1.2.2.1 pre x suf (by rw [Xt]; exact a1) (fun z hz => ?_) a3 a4 (hts _ (List.mem_cons_of_mem _ a5)) (pm_ng_use XG a6) g1 g2 g3 ?_
  · obtain ⟨b1, b2, nm, b3, b4⟩ := a2 z hz
    exact ⟨b1, b2, nm, hts _ (List.mem_cons_of_mem _ b3), XG.2.2.1 _ b4⟩
  · have fin : ∀ ls' : Array Slot, W p l e (pm_rm d mc ms) s m args below meth c H1 locs1 (cells + mc') (slots + ms') (vx_MQ below (pm_Qc D ad tI n s.heap.size O) (pm_XC D ad tI n s.heap.size O) args s mc ms (pm_A ad n s.heap.size)) (F0 m (x.handlerPc + len) ls' []) := by
      intro ls'
      refine lv_iconst X1.1 X1.2.1 (X1.dec a10) a11 ?_
      exact vx_ret (W.widen (Nat.le_of_ble_eq_true hcs) (Nat.le_of_ble_eq_true hss) (W.zret X1.1 X1.2.1 (Xr.trans hret) rfl (fun t ht hW => ⟨some (.int k), rfl, _, hk, by rw [pm_bk_len]; exact hn, by rw [ht]; exact hP, hK.moved hW.alike, hS.F ht⟩) hS.2.2 (X1.dec a12) Xlk))
    have hdg := X1.dec a7
    unfold pm_sti at a8
    split at a8 <;> cases a8
    · exact lv_astore X1.1 X1.2.1 hdg hL.has (by omega) rfl (fun ls' _ => fin ls')
    · exact lv_astore_n X1.1 X1.2.1 hdg rfl hL.has (by omega) rfl (fun ls' _ => fin ls')
theorem pm_Ib_Y (h : pm_Ib M I = true) {p : Program} {s : State} {m : MethodId} {args : Array Value} {c : Code} {A : Nat → Prop} {H : Heap} {Ts : List Cond} (hTs : ∀ w ∈ pm_tb, w ∈ Ts) (hx : p.tables.exec = Jvm.exec) (hb : c.code = M.2.1) (hown : s.vm.findClass M.2.2.2.2 = some m.cls) (hts : ∀ w ∈ Ts, w.before args s = true) (hG : pm_G A s H) :
    pm_X p s m args c M.2.1 M.2.2.2.2 Ts I := by
  unfold pm_Ib at h
  simp only [Bool.and_eq_true, List.all_eq_true] at h
  obtain ⟨h1, h2, h3⟩ := h
  refine ⟨hx, hb, hown, hts, fun ci q hq w hw => hTs _ (pm_lay ci q hq w hw), fun x hx' => of_decide_eq_true (h1 x hx'), fun x hx' => ?_, fun x hx' => ?_⟩
  · have h4 := h2 x hx'
    rw [pm_nth_eq] at h4
    split at h4
    · rename_i q hq
      simp only [Bool.and_eq_true] at h4
      refine ⟨q, hq, Nat.blt_eq.mp h4.1, ?_⟩
      have h5 := h4.2
      split at h5
      · exact Or.inl (hts _ (hTs _ (of_decide_eq_true h5)))
      · exact Or.inr ⟨_, va_Nw.use rfl (hG.1 _ (of_decide_eq_true h5))⟩
    · cases h4
  · have h4 := h3 x hx'
    unfold pm_cok
    split at h4
    · rename_i hv; first | (rw [hv]; exact hts _ (hTs _ (of_decide_eq_true h4))) | exact hts _ (hTs _ (of_decide_eq_true h4))
    · rename_i hv; first | (rw [hv]; exact hts _ (hTs _ (of_decide_eq_true h4))) | exact hts _ (hTs _ (of_decide_eq_true h4))
    · rename_i hv; first | (rw [hv]; exact hts _ (hTs _ (of_decide_eq_true h4))) | exact hts _ (hTs _ (of_decide_eq_true h4))
    · cases h4
theorem pm_MetH.mk {As : List Value} {w : List pm_E} (hI : pm_Ib M I = true) (hst : l.stackTraces = false) (hj : hJ l M hh I d mc ms w.length O 0 0 (0, pm_ent M.2.2.1 As, [], w)) (hy : plainName M.1.cls = true := by decide) (ho : M.1.cls = M.2.2.2.2 := by rfl) (hA' : Nat.ble (As.map Value.category).sum M.2.2.1 = true := by rfl) : pm_MetH l M hh d mc ms As w O := by
  have hA := Nat.le_of_ble_eq_true hA'
  intro D ad tI sz
  refine vx_ofWH (cc := M.2.1) (maxL := M.2.2.1) (ret := M.2.2.2.1) (hh := hh) hy rfl ?_
  intro p e s m args below meth c s₁ B hml hv
  obtain ⟨rfl, rfl, hP, hK, hinj, hG⟩ := hv
  have hts := atoms_spec (ws := pm_wh M hh) B.pre
  have hown : s.vm.findClass M.2.2.2.2 = some m.cls := by rw [← ho]; exact findClass_of_methodNamed B.named
  have X := pm_Ib_Y hI (Ts := pm_wh M hh) (fun z hz => List.mem_cons_of_mem _ hz) B.exec B.bytes hown hts hG
  have hl := lv_entry (As.map (pm_v ad)) (n := M.2.2.1) (by rw [pm_sl_len]; exact hA)
  rw [lg_entry_eq]
  exact hj p e s m _ below meth c D ad tI ⟨X, hml, B.returns, B.notSynchronized, vx_table (x := M.1) B (hts _ List.mem_cons_self), hG, hst⟩ s.heap [] _ hP (pm_D hinj (fun k hk => Or.inl ⟨k, hk, rfl⟩)) va_S.rf
    ⟨pm_ent_len _ _ hA, hl.1, hl.2.1, fun i v hv => hl.2.2 (i, pm_v ad v) (by have := pm_ent_get ad As M.2.2.1 i 0 v hv; rwa [Nat.zero_add] at this)⟩ hK
end LWD
