section LWA
variable {p : Program} {l : Launch} {e : Env} {R : Room} {s : State} {m : MethodId} {args : Array Value} {below : List Frame} {meth : Method} {c : Code} {cells slots : Nat} {Q : State → Prop} {cc : ByteArray} {ad : Nat → Nat} {tI : Nat → ClassId} {nL n : Nat} {D : va_G} {own : String} {Ts : List Cond} {I : pm_I}
/-- a stretch, of any body -/
theorem pm_W.run {A : Nat → Prop} (X : pm_X p s m args c cc own Ts I) (stops : List Nat) (k : Nat) {C : pm_C} (h : ∀ K : pm_C → Prop, (∀ C', pm_W p l e R s m args below meth c nL D A ad tI cells slots Q C' → K C') → pm_wp I stops K k C) : pm_W p l e R s m args below meth c nL D A ad tI cells slots Q C :=
  pm_wp_ok X stops k C (h _ (fun _ z => z))
theorem lw_good (hTs : ∀ w ∈ pm_tb, w ∈ Ts) {ws : List Cond} (h : ∀ x ∈ ws, x ∈ pm_tb) : GoodIn Ts ws := fun w hw => ⟨hTs w (h w hw), pm_tb_good (h w hw)⟩
/-- a virtual call out of any body: what it throws is thrown over the body's frame -/
theorem pm_W.call {pc ix ci k0 d' mc' ms' : Nat} {L : List (Option Value)} {st rest As : List Value} {w wc : List pm_E} {M' : pm_M} {O' : pm_O → List pm_E → Prop} {fs : List Value} {qc : vw_C} (q : List Nat)
    (X1 : pm_X p s m args c cc own Ts I) (hTs : ∀ w ∈ pm_tb, w ∈ Ts) (Xml : c.maxLocals = nL) (XG : pm_G (pm_A ad n s.heap.size) s s.heap)
    (hM : pm_Met l M' d' mc' ms' (.ref k0 :: As) wc O') (hd : pm_find I.1 pc = some (.invokevirtual ix, 3))
    (hw : ∀ x ∈ wsV own ix qc.1 M'.1 [Cond.code M'.1 M'.2.1 M'.2.2.1 M'.2.2.2.1], x ∈ pm_tb)
    (hy : M'.1.cls = qc.1 ∧ M'.1.cls ≠ "java/lang/invoke/MethodHandle" ∧ M'.1.cls ≠ "java/lang/invoke/VarHandle" ∧ (parseMethodDescriptor M'.1.desc).map (fun d => d.parameters.length) = some As.length)
    (hst : st = ((Value.ref k0 :: As).map (pm_v (pm_rn q))).reverse ++ rest) (hf : pm_fits q w wc) (hn : w.length = n) (hr : wc[k0]? = some (.inr (ci, fs))) (hqc : vwCl[ci]? = some qc)
    (hrest : (rest.map Value.category).sum ≤ 8) (hdd : d' + 1 ≤ R.frames) (hlo : 8 + (M'.2.2.1 + 11) + 100 * d' ≤ R.locals) (hmc : cells + mc' ≤ R.cells) (hms : slots + ms' ≤ R.slots)
    (kx : ∀ E w1, O' (.inr E) w1 → w1.length = wc.length → ∀ (H1 : Heap) (locs1 : List Loc) (ls : Array Slot) (a : Addr) (ce : Cell), va_P D vwCl (pm_w ad tI (pm_bk (pm_rn q) w q w1)) H1 → va_D (pm_A ad n s.heap.size) (pm_w ad tI (pm_bk (pm_rn q) w q w1)) → va_S (pm_A ad n s.heap.size) s.heap H1 locs1 → pm_L ad nL ls L → pm_K D vwCl tI (pm_bk (pm_rn q) w q w1) s →
      H1[a]? = some ce → ce.vm = .none → s.vm.findClass E = some ce.cls → vx_W p l e R s m args below meth c H1 locs1 (cells + mc') (slots + ms') Q (F0 m pc ls (rest.map (pm_v ad))) a)
    (kr : ∀ v w1, O' (.inl v) w1 → w1.length = wc.length → pm_W p l e R s m args below meth c nL D (pm_A ad n s.heap.size) ad tI (cells + mc') (slots + ms') Q (pc + 3, L, (v.map (pm_v (pm_rn q))).toList ++ rest, pm_bk (pm_rn q) w q w1)) :
    pm_W p l e R s m args below meth c nL D (pm_A ad n s.heap.size) ad tI cells slots Q (pc, L, st, w) := by
  intro H locs ls hP hD hS hL hK
  have hdg := X1.dec hd
  obtain ⟨hb1, hpre⟩ := pm_start hf hn hP hD hS hK XG (.ref k0 :: As)
  subst hst
  have hrun := vx_runV (g := F0 m pc ls ((((Value.ref k0 :: As).map (pm_v (pm_rn q))).reverse ++ rest).map (pm_v ad))) (rest := rest.map (pm_v ad)) (As := As.map (pm_v (fun k => ad (pm_rn q k)))) (b := ad (pm_rn q k0)) (cells := cells) (slots := slots) (locs := locs) (below := below) (meth := meth) (e := e) (H := H) (R := R)
    (⟨X1.1, X1.2.1, Xml, X1.2.2.1, X1.2.2.2.1⟩ : CallFix p m c cc nL s args Ts own) (hM D (fun k => ad (pm_rn q k)) (fun k => tI (pm_rn q k)) H.size)
    (cwV As.length X1.2.2.2.1 (C := qc.1) (fun x hx => by
      unfold wsV at hx
      rcases List.mem_append.mp hx with h | h
      · exact lw_good hTs hw x (by unfold wsV; exact List.mem_append_left _ h)
      · rcases List.mem_cons.mp h with h | h
        · exact lw_good hTs hw x (by unfold wsV; rw [h]; exact List.mem_append_right _ List.mem_cons_self)
        · exact ⟨hTs _ h, pm_tb_good h⟩) rfl rfl rfl hy ⟨hdd, hlo⟩)
    ⟨hb1, va_recv (hf.K hK).obj (hf.P hP) hqc (pm_w_get hr), hpre⟩ rfl (by simp) hL.2.1
    (by show List.map (pm_v ad) _ = _
        rw [List.map_append, List.map_reverse, pm_map_comp]
        simp [pm_v]) (lv_room (by rw [pm_cats]; exact hrest)) hdg ⟨hmc, hms⟩
  intro T hT XT
  rcases hrun T hT XT with ⟨v, st₀, t, T', L', h0, X', hL', e1, e2, ⟨v', hv', he⟩, hgo⟩ | ⟨qx, st₀, t, T', L', E, ce, h0, X', hL', e1, e2, he, hce, hcv, hcl, hgo⟩
  · have hvm : s.vm.Alike t.vm := by rw [← e2]; exact X'.warmed.alike
    obtain ⟨w1, hO, hl1, a1, a2, a3, a4⟩ := pm_after hf hn h0 hP hD hS hK hvm e1 hL' he
    obtain ⟨t2, b1, b2⟩ := kr v' w1 hO hl1 T'.heap (locs ++ L') ls a1 a2 a3 hL a4 T' rfl X'
    refine ⟨t2, hgo t2 ?_, b2⟩
    cases hv'
    have : (List.map (pm_v ad) ((v'.map (pm_v (pm_rn q))).toList ++ rest)) = (v'.map (pm_v (fun k => ad (pm_rn q k)))).toList ++ rest.map (pm_v ad) := by
      cases v' with
      | none => rfl
      | some z => simp [pm_v_comp]
    dsimp only at b1
    rw [this] at b1
    exact b1
  · have hvm : s.vm.Alike t.vm := by rw [← e2]; exact X'.warmed.alike
    obtain ⟨w1, hO, hl1, a1, a2, a3, a4⟩ := pm_after hf hn h0 hP hD hS hK hvm e1 hL' he
    obtain ⟨t2, b1, b2⟩ := kx E w1 hO hl1 T'.heap (locs ++ L') ls qx ce a1 a2 a3 hL a4 (by rw [e1]; exact hce) hcv hcl T' rfl X'
    exact ⟨t2, hgo.trans b1, b2⟩
end LWA
section LWB
variable {e : Env} {s : State} {f : JFrame} {a : Addr}
/-- one row of an exception table that covers the place: its class is linked, and the object goes into it or passes -/
theorem lw_row {x : ExceptionTableEntry} {t : List ExceptionTableEntry} {c : ClassId} {cell : Cell} (hx : covers x f.pc = true) (h0 : x.catchType ≠ 0)
    (hl : s.vm.ClassLinks e.platform f.method.cls x.catchType c) (hcell : s.heap[a]? = some cell) (hobj : ∀ k, cell.vm ≠ .statics k)
    (hk : ∃ k, s.vm.classes[cell.cls]? = some k) (hc : ∃ k, s.vm.classes[c]? = some k) (b : Bool) (hb : s.vm.assignable cell.cls c = b) (Q : Handler → Pre) (E : CtlPost) (d : Bool) (acts : List Action) :
    wp (findHandler.go f a (x :: t)) Q E e d acts s ↔ (match b with
      | true => Q (.found x.handlerPc) d acts (s.setVm (s.vm.noted f.method.cls x.catchType (.cls c)))
      | false => wp (findHandler.go f a t) Q E e d acts (s.setVm (s.vm.noted f.method.cls x.catchType (.cls c)))) := by
  simp only [covers] at hx
  obtain ⟨ha, ht⟩ := (resolveClass_links e.toSetting hl).op (op := VmOp.resolveClass f.method.cls x.catchType) rfl
  have hal : s.vm.Alike (s.vm.noted f.method.cls x.catchType (.cls c)) := (Vm.Alike.refl s.vm).noted _ _ _
  obtain ⟨k1, hk1⟩ := hk
  obtain ⟨k2, hk2⟩ := hc
  obtain ⟨k1', hk1', -⟩ := hal.2.2 _ _ hk1
  obtain ⟨k2', hk2', -⟩ := hal.2.2 _ _ hk2
  have hb' : (s.vm.noted f.method.cls x.catchType (.cls c)).assignable cell.cls c = b := by rw [hal.assignable]; exact hb
  cases b <;> simp [findHandler.go, hx, h0, ha, ht, hcell, hobj, hk1', hk2', hb', VmOp.dirties, VmOp.acts]
/-- rows that are passed, then one that catches -/
theorem lw_rows {s₀ : State} {cell : Cell} (hobj : ∀ k, cell.vm ≠ .statics k) (hk0 : ∃ k, s₀.vm.classes[cell.cls]? = some k) (x : ExceptionTableEntry) (rest : List ExceptionTableEntry) (hx : covers x f.pc = true) (h0 : x.catchType ≠ 0)
    {cx : ClassId} (hl : s₀.vm.ClassLinks e.platform f.method.cls x.catchType cx) (hfit : s₀.vm.assignable cell.cls cx = true) :
    ∀ (pre : List ExceptionTableEntry) (S : State), s₀.WarmedH S.vm → S.heap[a]? = some cell → (∀ y ∈ pre, covers y f.pc = true ∧ y.catchType ≠ 0 ∧ ∃ c, s₀.vm.ClassLinks e.platform f.method.cls y.catchType c ∧ s₀.vm.assignable cell.cls c = false) →
      ∃ vm', s₀.WarmedH vm' ∧ ∀ (Q : Handler → Pre) (E : CtlPost) (d : Bool) (acts : List Action), wp (findHandler.go f a (pre ++ x :: rest)) Q E e d acts S ↔ Q (.found x.handlerPc) d acts (S.setVm vm')
  | [], S, hW, hcell, _ => by
    obtain ⟨k0, hk0⟩ := hk0
    obtain ⟨k0', hk0', -⟩ := hW.alike.2.2 _ _ hk0
    obtain ⟨dk, _, _, kt, hd, _, _, _, _, hkt, _, hopen⟩ := hl.here
    obtain ⟨kt', hkt', -⟩ := hW.alike.2.2 _ _ hkt
    refine ⟨_, hW.noted hd hopen (State.rightAt_cls hl), fun Q E d acts => ?_⟩
    exact lw_row hx h0 (hW.classLinks hl) hcell hobj ⟨k0', hk0'⟩ ⟨kt', hkt'⟩ true (by rw [hW.alike.assignable]; exact hfit) Q E d acts
  | y :: ys, S, hW, hcell, hp => by
    obtain ⟨g1, g2, c, g3, g4⟩ := hp y List.mem_cons_self
    obtain ⟨k0, hk0'⟩ := id hk0
    obtain ⟨k0', hk0'', -⟩ := hW.alike.2.2 _ _ hk0'
    obtain ⟨dk, _, _, kt, hd, _, _, _, _, hkt, _, hopen⟩ := g3.here
    obtain ⟨kt', hkt', -⟩ := hW.alike.2.2 _ _ hkt
    obtain ⟨vm', h1, h2⟩ := lw_rows hobj hk0 x rest hx h0 hl hfit ys (S.setVm (S.vm.noted f.method.cls y.catchType (.cls c))) (hW.noted hd hopen (State.rightAt_cls g3)) hcell (fun z hz => hp z (List.mem_cons_of_mem _ hz))
    refine ⟨vm', h1, fun Q E d acts => ?_⟩
    rw [List.cons_append, lw_row g1 g2 (hW.classLinks g3) hcell hobj ⟨k0', hk0''⟩ ⟨kt', hkt'⟩ false (by rw [hW.alike.assignable]; exact g4) Q E d acts]
    exact h2 Q E d acts
/-- the machine goes on at the handler -/
theorem lw_caught {tb : Tables} {s target : State} {g : JFrame} {c : Code} {below : List Frame} {a : Addr} (h : At s g.method c below) {pc : Nat} {vm' : Vm}
    (hfind : ∀ (Q : Handler → Pre) (E : CtlPost) (d : Bool) (acts : List Action), wp (findHandler g a) Q E e d acts ((s.setTop g).pushFrame (.throwing a)) ↔ Q (.found pc) d acts (((s.setTop g).pushFrame (.throwing a)).setVm vm'))
    (hrest : Steps tb e below ((s.setVm vm').setTop { g with pc := pc, stack := [.ref a] }) target) :
    Steps tb e below ((s.setTop g).pushFrame (.throwing a)) target := by
  obtain ⟨hgo, hw⟩ := h.throwing a
  refine Steps.head hgo hw ?_
  have key : ∀ (S : State) (r : List Frame), (∀ (Q : Handler → Pre) (E : CtlPost) (d : Bool) (acts : List Action), wp (findHandler g a) Q E e d acts S ↔ Q (.found pc) d acts (S.setVm vm')) →
      (stepThrowing e S a (.java g :: r)).Is ((S.setVm vm').setFrames (.java { g with pc := pc, stack := [.ref a] } :: r)) [] := by
    intro S r hf
    simp only [stepThrowing, searchFrame, vmDo]
    generalize hr : Sem.go _ e false [] S = res
    obtain ⟨as, rfl, ha⟩ := Sem.eq_ok_of hr (a := Handler.found pc) (s' := S.setVm vm') (acts' := []) (by simp [hf _ _ _ _])
    exact ⟨rfl, ha⟩
  rw [stepThread_throwing (frames_entered h.top _), (key _ _ hfind).1]
  obtain ⟨g₀, hg⟩ := Option.isSome_iff_exists.mp h.top
  obtain ⟨r, hr⟩ := State.topJava?_eq_some.mp hg
  have hr' : (s.setVm vm').frames = .java g₀ :: r := hr
  rw [State.setTop_of_frames _ hr'] at hrest
  have k : ∀ (u : State) (F G : List Frame), ((u.setFrames F).setVm vm').setFrames G = (u.setVm vm').setFrames G := fun u F G => by
    have h1 : (u.setFrames F).setVm vm' = (u.setVm vm').setFrames F := rfl
    rw [h1, State.setFrames_setFrames]
  rw [hr, List.tail_cons, State.pushFrame, k, State.setTop_of_frames _ hr, k]
  exact hrest
end LWB
section LWC
variable {p : Program} {l : Launch} {e : Env} {R : Room} {s : State} {m : MethodId} {args : Array Value} {below : List Frame} {meth : Method} {c : Code} {H : Heap} {locs : List Loc} {cells slots : Nat} {Q : State → Prop} {pc : Nat} {ls : Array Slot} {rest : List Value}
/-- thrown over the frame, and caught by a row of the method's own -/
theorem lw_catch {own name E : String} {ce : Cell} {q : Addr} (hown : s.vm.findClass own = some m.cls) (pre : List ExceptionTableEntry) (x : ExceptionTableEntry) (suf : List ExceptionTableEntry) (hsplit : c.exceptionTable.toList = pre ++ x :: suf)
    (hpass : ∀ z ∈ pre, covers z pc = true ∧ z.catchType ≠ 0 ∧ ∃ nm : String, (Cond.classLink own z.catchType nm).before args s = true ∧ va_Nc E nm s) (hx : covers x pc = true) (h0 : x.catchType ≠ 0)
    (hlink : (Cond.classLink own x.catchType name).before args s = true) (hcast : (Cond.castable E name).before args s = true) (hcell : H[q]? = some ce) (hv : ce.vm = .none) (hcl : s.vm.findClass E = some ce.cls)
    (kk : W p l e R s m args below meth c H locs cells slots Q (F0 m x.handlerPc ls [.ref q])) : vx_W p l e R s m args below meth c H locs cells slots Q (F0 m pc ls rest) q := by
  intro T hT X
  have hpl : e.platform.magicAccessors = ({} : Platform).magicAccessors := by rw [X.admits.platform]
  obtain ⟨c3, c4, hc3, hc4, hasg⟩ := Cond.castable_spec hcast
  cases Option.some.inj (hc3.symm.trans hcl)
  obtain ⟨c5, hc5, hcl5⟩ := Cond.classLink_spec hown hlink e.platform hpl
  cases Option.some.inj (hc4.symm.trans hc5)
  have hk0 : ∃ k, s.vm.classes[ce.cls]? = some k := by obtain ⟨k9, h9, -⟩ := Vm.findClass_spec hcl; exact ⟨k9, h9⟩
  obtain ⟨vm', hW', hq⟩ := lw_rows (e := e) (f := F0 m pc ls rest) (a := q) (s₀ := s) (cell := ce) (fun k z => by rw [hv] at z; cases z) hk0 x suf hx h0 hcl5 hasg pre ((T.setTop (F0 m pc ls rest)).pushFrame (.throwing q)) X.warmed (by rw [← hT] at hcell; exact hcell)
    (fun z hz => by
      obtain ⟨g1, g2, nm, hl1, hn1⟩ := hpass z hz
      obtain ⟨c6, hc6, hcl6⟩ := Cond.classLink_spec hown hl1 e.platform hpl
      obtain ⟨a8, b8, h1, h2, h3⟩ := hn1
      cases Option.some.inj (h1.symm.trans hcl)
      cases Option.some.inj (h2.symm.trans hc6)
      exact ⟨g1, g2, _, hcl6, h3⟩)
  obtain ⟨t, a1, b1⟩ := kk (T.setVm vm') hT (X.noted hW')
  refine ⟨t, lw_caught (c := c) X.here (vm' := vm') (pc := x.handlerPc) (fun Q' E' d' acts' => ?_) a1, b1⟩
  rw [W.findHandler_eq (meth := meth) (code := c) X.method' X.code, hsplit]
  exact hq Q' E' d' acts'
end LWC
