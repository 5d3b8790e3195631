section CTR
variable {l : Launch}
theorem pm_Ib_Z {M : pm_M} {I : pm_I} (h : pm_Ib M I = true) {p : Program} {s : State} {m : MethodId} {args : Array Value} {c : Code} {Ts : List Cond} (hTs : ∀ w ∈ pm_tb, w ∈ Ts) (hx : p.tables.exec = Jvm.exec) (hb : c.code = M.2.1) (hown : s.vm.findClass M.2.2.2.2 = some m.cls) (hts : ∀ w ∈ Ts, w.before args s = true) (hG : pm_nG s) :
    pm_X p s m args c M.2.1 M.2.2.2.2 Ts I := by
  unfold pm_Ib at h
  simp only [Bool.and_eq_true, List.all_eq_true] at h
  obtain ⟨h1, h2, h3⟩ := h
  refine ⟨hx, hb, hown, hts, fun ci q hq w hw => hTs _ (pm_lay ci q hq w hw), fun x hx' => of_decide_eq_true (h1 x hx'), fun x hx' => ?_, fun x hx' => ?_⟩
  · have h4 := h2 x hx'
    rw [pm_nth_eq] at h4
    split at h4
    · rename_i q hq
      simp only [Bool.and_eq_true] at h4
      refine ⟨q, hq, Nat.blt_eq.mp h4.1, ?_⟩
      have h5 := h4.2
      split at h5
      · exact Or.inl (hts _ (hTs _ (of_decide_eq_true h5)))
      · exact Or.inr ⟨_, va_Nw.use rfl (hG _ (of_decide_eq_true h5))⟩
    · cases h4
  · have h4 := h3 x hx'
    unfold pm_cok
    split at h4
    · rename_i hv; first | (rw [hv]; exact hts _ (hTs _ (of_decide_eq_true h4))) | exact hts _ (hTs _ (of_decide_eq_true h4))
    · rename_i hv; first | (rw [hv]; exact hts _ (hTs _ (of_decide_eq_true h4))) | exact hts _ (hTs _ (of_decide_eq_true h4))
    · rename_i hv; first | (rw [hv]; exact hts _ (hTs _ (of_decide_eq_true h4))) | exact hts _ (hTs _ (of_decide_eq_true h4))
    · cases h4
/-- a constructor's body -/
def nJ (l : Launch) (M : pm_M) (I : pm_I) (d mc ms : Nat) (w1 : List pm_E) (cells slots : Nat) (C : pm_C) : Prop :=
  ∀ (p : Program) (e : Env) (s : State) (m : MethodId) (args : Array Value) (below : List Frame) (meth : Method) (c : Code) (D : va_G) (a0 : Nat), pm_X p s m args c M.2.1 M.2.2.2.2 (pm_ws M) I → c.maxLocals = M.2.2.1 → meth.sig.returnType = none → meth.locks = false → meth.name = "<init>" → pm_nG s →
    gW (fun ad => ad 0 = a0) p l e (pm_rm d mc ms) s m args below meth c M.2.2.1 D (fun q => q = a0 ∨ s.heap.size ≤ q) cells slots (MQ below (nQ D a0 s.heap.size w1) args s mc ms (fun q => q = a0 ∨ s.heap.size ≤ q)) C
variable {M : pm_M} {I : pm_I} {d mc ms cells slots : Nat} {w1 : List pm_E}
theorem pm_New.mk {ci : Nat} {fs : List Value} (hI : pm_Ib M I = true) (hfr : ∀ ad, fs.map (pm_v ad) = fs) (hj : nJ l M I d mc ms w1 0 0 (0, pm_ent M.2.2.1 [.ref 0], [], [.inr (ci, fs)])) (hy : plainName M.1.cls = true := by decide) (hr : M.2.2.2.1 = none := by rfl) (hnm : M.1.name = "<init>" := by rfl) (ho : M.1.cls = M.2.2.2.2 := by rfl) (hA' : Nat.ble 1 M.2.2.1 = true := by rfl) : pm_New l M d mc ms ci fs w1 := by
  intro D a0 sz
  refine Met.ofW (cc := M.2.1) (maxL := M.2.2.1) (ret := M.2.2.2.1) hy rfl ?_
  intro p e s m args below meth c s₁ B hml hv
  obtain ⟨rfl, rfl, hP, hK, hG⟩ := hv
  have hts := atoms_spec (ws := pm_ws M) B.pre
  have hown : s.vm.findClass M.2.2.2.2 = some m.cls := by rw [← ho]; exact findClass_of_methodNamed B.named
  have X := pm_Ib_Z hI (Ts := pm_ws M) (fun z hz => List.mem_cons_of_mem _ hz) B.exec B.bytes hown hts hG
  have hin : meth.name = "<init>" := (name_of_methodNamed B.named B.method).1.trans hnm
  have hA : ([Value.ref 0].map Value.category).sum ≤ M.2.2.1 := Nat.le_of_ble_eq_true hA'
  have hl := lv_entry ([Value.ref 0].map (pm_v (fun _ => a0))) (n := M.2.2.1) (by rw [pm_sl_len]; exact hA)
  have e1 : pm_w (fun _ => a0) (fun _ => 0) [.inr (ci, fs)] = [(a0, .inr (ci, fs))] := by
    show [(a0, Sum.inr (ci, fs.map (pm_v (fun _ => a0))))] = _
    rw [hfr]
  rw [lg_entry_eq]
  exact hj p e s m _ below meth c D a0 X hml (B.returns.trans hr) B.notSynchronized hin hG (fun _ => a0) (fun _ => 0) rfl s.heap [] _ (by show va_P D vwCl (pm_w (fun _ => a0) (fun _ => 0) [.inr (ci, fs)]) s.heap; rw [e1]; exact hP)
    (pm_D (fun i j h1 h2 _ => by simp at h1 h2; omega) (fun k _ => Or.inl rfl)) va_S.rf
    ⟨pm_ent_len _ _ hA, hl.1, hl.2.1, fun i v hv => hl.2.2 (i, pm_v _ v) (by have := pm_ent_get (fun _ => a0) [.ref 0] M.2.2.1 i 0 v hv; rwa [Nat.zero_add] at this)⟩ ⟨hK.1, fun k a hk => by
      match k, hk with
      | 0, hk => cases hk
      | k + 1, hk => simp at hk⟩
theorem nJ.run (stops : List Nat) (k : Nat) {C : pm_C} (h : ∀ K : pm_C → Prop, (∀ C', nJ l M I d mc ms w1 cells slots C' → K C') → pm_wp I stops K k C) : nJ l M I d mc ms w1 cells slots C :=
  fun p e s m args below meth c D a0 X h1 h2 h3 h4 h5 => gW.run X stops k (fun K hK => h K (fun C' h' => hK C' (h' p e s m args below meth c D a0 X h1 h2 h3 h4 h5)))
theorem nJ.obj {pc ix h : Nat} {L : List (Option Value)} {st : List Value} {w : List pm_E} (hm : ∀ x ∈ [Cond.methodLink M.2.2.2.2 ix Lib.objectInit, Cond.instanceMethod Lib.objectInit, Cond.code Lib.objectInit ⟨#[0xb1]⟩ 1 none], x ∈ pm_tb)
    (k : nJ l M I d mc ms w1 cells slots (pc + 3, L, st, w)) (hfr : Nat.ble 1 d = true := by rfl) (hlo : Nat.ble ((st.map Value.category).sum + 12) (100 * d) = true := by rfl) (hd : pm_find I.1 pc = some (.invokespecial ix, 3) := by rfl) : nJ l M I d mc ms w1 cells slots (pc, L, .ref h :: st, w) :=
  fun p e s m args below meth c D a0 X h1 h2 h3 h4 h5 => gW.obj X h1 (fun x hx => List.mem_cons_of_mem _ (hm x hx)) (Nat.le_of_ble_eq_true hfr) (Nat.le_of_ble_eq_true hlo) (k p e s m args below meth c D a0 X h1 h2 h3 h4 h5) hd
theorem nJ.newa {pc N : Nat} {atype : ArrayType} {L : List (Option Value)} {st : List Value} {w : List pm_E} {n : Int32} (ty : FieldType) (a0 : vp_A) (harr : Cond.arrayClass (newarray.typeOf atype) ∈ pm_tb) (ha : ∀ cA : ClassId, vp_cell cA a0 = arrV cA N (fun _ => defaultValue ty)) (hn : ¬ n < 0) (hN : n.toNatClampNeg = N)
    (k : nJ l M I d mc ms w1 (cells + 1) (slots + N) (pc + 2, L, .ref w.length :: st, w ++ [.inl (ty, a0)])) (hbytes : Nat.ble (N * componentBytes ty) 536870912 = true := by rfl) (hcells : Nat.ble (cells + 1) mc = true := by rfl) (hslots : Nat.ble (slots + N) ms = true := by rfl) (h1 : Nat.blt 0 w.length = true := by rfl)
    (hty : newarray.typeOf atype = ty := by rfl) (hd : pm_find I.1 pc = some (.newarray atype, 2) := by rfl) (hw : w.all (cOk w.length) = true := by rfl) (hL' : L.all (oOk w.length) = true := by rfl) (hst : st.all (vOk w.length) = true := by rfl) : nJ l M I d mc ms w1 cells slots (pc, L, .int n :: st, w) :=
  fun p e s m args below meth c D b0 X g1 g2 g3 g4 g5 => gW.newa X ty a0 (fun q h => Or.inr h) (fun ad q h => by have := Nat.blt_eq.mp h1; rw [updA_n (by omega)]; exact h) (List.mem_cons_of_mem _ harr) ha hn hN (Nat.le_of_ble_eq_true hbytes) (Nat.le_of_ble_eq_true hcells) (Nat.le_of_ble_eq_true hslots) (k p e s m args below meth c D b0 X g1 g2 g3 g4 g5) hty hd hw hL' hst
theorem nJ.new {pc ix ci N : Nat} {L : List (Option Value)} {st : List Value} {w : List pm_E} {C : String} {T : u_T} (fs : List Value) (hcl : Cond.classLink M.2.2.2.2 ix C ∈ pm_tb) (hin : Cond.instantiable C N ∈ pm_tb) (hini : Cond.initialized C ∈ pm_tb) (hfs : ∀ j, j < N → defaultValue (pm_ty ci j) = vp_V fs j) (hfr : ∀ ad, fs.map (pm_v ad) = fs)
    (k : nJ l M I d mc ms w1 (cells + 1) (slots + N) (pc + 3, L, .ref w.length :: st, w ++ [.inr (ci, fs)])) (hcells : Nat.ble (cells + 1) mc = true := by rfl) (hslots : Nat.ble (slots + N) ms = true := by rfl) (h1 : Nat.blt 0 w.length = true := by rfl)
    (hq : vwCl[ci]? = some (C, T, N) := by rfl) (hd : pm_find I.1 pc = some (.new ix, 3) := by rfl) (hw : w.all (cOk w.length) = true := by rfl) (hL' : L.all (oOk w.length) = true := by rfl) (hst : st.all (vOk w.length) = true := by rfl) : nJ l M I d mc ms w1 cells slots (pc, L, st, w) :=
  fun p e s m args below meth c D b0 X g1 g2 g3 g4 g5 => gW.new X fs (fun q h => Or.inr h) (fun ad q h => by have := Nat.blt_eq.mp h1; rw [updA_n (by omega)]; exact h) (List.mem_cons_of_mem _ hcl) (List.mem_cons_of_mem _ hin) (List.mem_cons_of_mem _ hini) hfs hfr (Nat.le_of_ble_eq_true hcells) (Nat.le_of_ble_eq_true hslots) (k p e s m args below meth c D b0 X g1 g2 g3 g4 g5) hq hd hw hL' hst
theorem nJ.putF (hI : pm_Ib M I = true) {pc ix ci k h kk N : Nat} {L : List (Option Value)} {r fs : List Value} {w : List pm_E} {C : String} {T : u_T}
    (hK' : nJ l M I d mc ms w1 cells slots (pc + 3, L, r, w.set h (.inr (ci, fs.set k (.ref kk)))))
    (hd : pm_find I.1 pc = some (.putfield ix, 3) := by rfl) (hf : pm_find I.2.1 ix = some (false, ci, k) := by rfl) (hw : pm_nth w h = some (.inr (ci, fs)) := by rfl) (hq : vwCl[ci]? = some (C, T, N) := by rfl) (hfin : (T k).2.2.2 = true := by rfl) (hdecl : (T k).1 = M.2.2.2.2 := by rfl) (hl : Nat.blt k fs.length = true := by rfl)
    (hfit : ∀ x, narrow (pm_ty ci k) (.ref x) = .ref x ∧ fits (pm_ty ci k) (.ref x) = true := by exact fun _ => ⟨rfl, rfl⟩) : nJ l M I d mc ms w1 cells slots (pc, L, .ref kk :: .ref h :: r, w) :=
  fun p e s m args below meth c D b0 X g1 g2 g3 g4 g5 => gW.putF hI (fun w hw => List.mem_cons_of_mem _ hw) X g4 (hK' p e s m args below meth c D b0 X g1 g2 g3 g4 g5) hd hf hw hq hfin hdecl hl hfit
theorem nJ.ret {pc : Nat} {L : List (Option Value)} (hd : pm_find I.1 pc = some (.return_, 1) := by rfl) (hc : Nat.ble cells mc = true := by rfl) (hs : Nat.ble slots ms = true := by rfl) : nJ l M I d mc ms w1 cells slots (pc, L, [], w1) := by
  intro p e s m args below meth c D a0 X g1 g2 g3 g4 g5 ad tI hF H locs ls hP hD hS hL hK
  refine W.widen (Nat.le_of_ble_eq_true hc) (Nat.le_of_ble_eq_true hs) (W.vret X.1 X.2.1 g2 (fun t ht hW => ⟨rfl, ad, tI, hF, fun k h1 h2 => ?_, pm_D.inj hD, by rw [ht]; exact hP, hK.moved hW.alike, hS.F ht⟩) hS.2.2 (X.dec hd) g3)
  rcases hD.2 k _ (pm_w_get (List.getElem?_eq_getElem h2)) with z | z
  · have z : ad k = a0 := z
    have := pm_D.inj hD k 0 h2 (by show 0 < w1.length; omega) (by rw [z]; exact hF.symm)
    omega
  · exact z
theorem nJ.callI {pc ix h d' mc' ms' ci : Nat} {L : List (Option Value)} {st fs : List Value} {w ys : List pm_E} {y0 : pm_E} {M' : pm_M}
    (hN : pm_New l M' d' mc' ms' ci fs (y0 :: ys)) (hfr : ∀ ad, fs.map (pm_v ad) = fs)
    (hw : ∀ x ∈ [Cond.initialized M'.1.cls, Cond.instanceMethod M'.1, Cond.code M'.1 M'.2.1 M'.2.2.1 none], x ∈ pm_tb) (hlk : Cond.methodLinkNest M.2.2.2.2 ix M'.1 "ShortTrees" ∈ pm_ng)
    (hy : M'.1.cls ≠ "java/lang/invoke/MethodHandle" ∧ M'.1.cls ≠ "java/lang/invoke/VarHandle" ∧ (parseMethodDescriptor M'.1.desc).map (fun d => d.parameters.length) = some 0)
    (kk : nJ l M I d mc ms w1 (cells + mc') (slots + ms') (pc + 3, L, st, w.set h (pm_rc (rhoN h w.length) y0) ++ ys.map (pm_rc (rhoN h w.length))))
    (h1 : Nat.blt 0 w.length = true := by rfl) (hfrm : Nat.ble (d' + 1) d = true := by rfl) (hloc : Nat.ble (8 + (M'.2.2.1 + 11) + 100 * d') (100 * d) = true := by rfl) (hc : Nat.ble (cells + mc') mc = true := by rfl) (hs : Nat.ble (slots + ms') ms = true := by rfl)
    (hret : M'.2.2.2.1 = none := by rfl) (hnm : M'.1.name = "<init>" := by rfl) (hat : pm_nth w h = some (.inr (ci, fs)) := by rfl) (hd : pm_find I.1 pc = some (.invokespecial ix, 3) := by rfl) (hwl : w.all (cLt w.length) = true := by rfl) (hyl : (y0 :: ys).all (cLt (ys.length + 1)) = true := by rfl)
    (hLl : L.all (oLt w.length (w.length + ys.length)) = true := by rfl) (hsl : st.all (vLt w.length (w.length + ys.length)) = true := by rfl) (hrest : Nat.ble (st.map Value.category).sum 8 = true := by rfl) : nJ l M I d mc ms w1 cells slots (pc, L, .ref h :: st, w) :=
  fun p e s m args below meth c D b0 X g1 g2 g3 g4 g5 => gW.callI X (fun w hw => List.mem_cons_of_mem _ hw) g1 g5 (fun q h => Or.inr h) hN hfr (fun ad ad1 hF => by have := Nat.blt_eq.mp h1; show adN ad ad1 w.length _ 0 = b0; unfold adN; rw [if_pos this]; exact hF) hw (Or.inr ⟨_, hlk⟩) hy (Nat.le_of_ble_eq_true hfrm) (Nat.le_of_ble_eq_true hloc) (Nat.le_of_ble_eq_true hc) (Nat.le_of_ble_eq_true hs) (kk p e s m args below meth c D b0 X g1 g2 g3 g4 g5) hret hnm hat hd hwl hyl hLl hsl hrest
theorem ac_int : Cond.arrayClass .int ∈ pm_tb := by decide +kernel
theorem ac_long : Cond.arrayClass .long ∈ pm_tb := by decide +kernel
theorem ac_char : Cond.arrayClass .char ∈ pm_tb := by decide +kernel
theorem ac_boolean : Cond.arrayClass .boolean ∈ pm_tb := by decide +kernel
theorem ac_double : Cond.arrayClass .double ∈ pm_tb := by decide +kernel
abbrev z0 : Nat → Nat := fun _ => 0
theorem ob_3 : ∀ x ∈ [Cond.methodLink RX3 3 Lib.objectInit, Cond.instanceMethod Lib.objectInit, Cond.code Lib.objectInit ⟨#[0xb1]⟩ 1 none], x ∈ pm_tb := by decide +kernel
theorem iw_3 : ∀ x ∈ [Cond.initialized yX3_init.cls, Cond.instanceMethod yX3_init, Cond.code yX3_init cX3_init 1 none], x ∈ pm_tb := by decide +kernel
theorem iy_3 : yX3_init.cls ≠ "java/lang/invoke/MethodHandle" ∧ yX3_init.cls ≠ "java/lang/invoke/VarHandle" ∧ (parseMethodDescriptor yX3_init.desc).map (fun d => d.parameters.length) = some 0 := by decide +kernel
theorem n_Text : pm_New l mX3_init 1 1 160 3 [.null, .int (nI 0), .int (nI 0)] [.inr (3, [.ref 1, .int (nI 0), .int (nI 0)]), .inl (.char, 160, .inl (nA z0))] := by
  refine pm_New.mk kX3_init (fun _ => rfl) (nJ.run [] 20 (fun K hK => hK _ ?_))
  refine nJ.obj ob_3 ?_
  refine nJ.run [] 20 (fun K hK => hK _ ?_)
  refine nJ.newa (N := 160) (atype := .char) .char (160, .inl (nA z0)) ac_char (fun _ => rfl) (by decide) (by decide) ?_
  refine nJ.putF kX3_init ?_
  exact nJ.ret
theorem ob_0 : ∀ x ∈ [Cond.methodLink RX0 3 Lib.objectInit, Cond.instanceMethod Lib.objectInit, Cond.code Lib.objectInit ⟨#[0xb1]⟩ 1 none], x ∈ pm_tb := by decide +kernel
theorem iw_0 : ∀ x ∈ [Cond.initialized yX0_init.cls, Cond.instanceMethod yX0_init, Cond.code yX0_init cX0_init 1 none], x ∈ pm_tb := by decide +kernel
theorem iy_0 : yX0_init.cls ≠ "java/lang/invoke/MethodHandle" ∧ yX0_init.cls ≠ "java/lang/invoke/VarHandle" ∧ (parseMethodDescriptor yX0_init.desc).map (fun d => d.parameters.length) = some 0 := by decide +kernel
theorem n_Finds : pm_New l mX0_init 1 2 1073 0 [.null, .null, .int (nI 0)] [.inr (0, [.ref 1, .ref 2, .int (nI 0)]), .inl (.int, 945, .inl (nA z0)), .inl (.int, 128, .inl (nA z0))] := by
  refine pm_New.mk kX0_init (fun _ => rfl) (nJ.run [] 20 (fun K hK => hK _ ?_))
  refine nJ.obj ob_0 ?_
  refine nJ.run [] 20 (fun K hK => hK _ ?_)
  refine nJ.newa (N := 945) (atype := .int) .int (945, .inl (nA z0)) ac_int (fun _ => rfl) (by decide) (by decide) ?_
  refine nJ.putF kX0_init ?_
  refine nJ.run [] 20 (fun K hK => hK _ ?_)
  refine nJ.newa (N := 128) (atype := .int) .int (128, .inl (nA z0)) ac_int (fun _ => rfl) (by decide) (by decide) ?_
  refine nJ.putF kX0_init ?_
  exact nJ.ret
theorem ob_1 : ∀ x ∈ [Cond.methodLink RX1 3 Lib.objectInit, Cond.instanceMethod Lib.objectInit, Cond.code Lib.objectInit ⟨#[0xb1]⟩ 1 none], x ∈ pm_tb := by decide +kernel
theorem iw_1 : ∀ x ∈ [Cond.initialized yX1_init.cls, Cond.instanceMethod yX1_init, Cond.code yX1_init cX1_init 1 none], x ∈ pm_tb := by decide +kernel
theorem iy_1 : yX1_init.cls ≠ "java/lang/invoke/MethodHandle" ∧ yX1_init.cls ≠ "java/lang/invoke/VarHandle" ∧ (parseMethodDescriptor yX1_init.desc).map (fun d => d.parameters.length) = some 0 := by decide +kernel
theorem n_Page : pm_New l mX1_init 1 2 31 1 [.null, .null, .int (nI 0), .int (nI 0)] [.inr (1, [.ref 1, .ref 2, .int (nI 0), .int (nI 0)]), .inl (.char, 24, .inl (nA z0)), .inl (.int, 7, .inl (nA z0))] := by
  refine pm_New.mk kX1_init (fun _ => rfl) (nJ.run [] 20 (fun K hK => hK _ ?_))
  refine nJ.obj ob_1 ?_
  refine nJ.run [] 20 (fun K hK => hK _ ?_)
  refine nJ.newa (N := 24) (atype := .char) .char (24, .inl (nA z0)) ac_char (fun _ => rfl) (by decide) (by decide) ?_
  refine nJ.putF kX1_init ?_
  refine nJ.run [] 20 (fun K hK => hK _ ?_)
  refine nJ.newa (N := 7) (atype := .int) .int (7, .inl (nA z0)) ac_int (fun _ => rfl) (by decide) (by decide) ?_
  refine nJ.putF kX1_init ?_
  exact nJ.ret
theorem ob_2 : ∀ x ∈ [Cond.methodLink RX2 3 Lib.objectInit, Cond.instanceMethod Lib.objectInit, Cond.code Lib.objectInit ⟨#[0xb1]⟩ 1 none], x ∈ pm_tb := by decide +kernel
theorem iw_2 : ∀ x ∈ [Cond.initialized yX2_init.cls, Cond.instanceMethod yX2_init, Cond.code yX2_init cX2_init 1 none], x ∈ pm_tb := by decide +kernel
theorem iy_2 : yX2_init.cls ≠ "java/lang/invoke/MethodHandle" ∧ yX2_init.cls ≠ "java/lang/invoke/VarHandle" ∧ (parseMethodDescriptor yX2_init.desc).map (fun d => d.parameters.length) = some 0 := by decide +kernel
theorem n_Table : pm_New l mX2_init 1 2 23 2 [.null, .null, .int (nI 0), .int (nI 0)] [.inr (2, [.ref 1, .ref 2, .int (nI 0), .int (nI 0)]), .inl (.long, 7, .inr (.inl (fun _ => 0))), .inl (.int, 16, .inl (nA z0))] := by
  refine pm_New.mk kX2_init (fun _ => rfl) (nJ.run [] 20 (fun K hK => hK _ ?_))
  refine nJ.obj ob_2 ?_
  refine nJ.run [] 20 (fun K hK => hK _ ?_)
  refine nJ.newa (N := 7) (atype := .long) .long (7, .inr (.inl (fun _ => 0))) ac_long (fun _ => rfl) (by decide) (by decide) ?_
  refine nJ.putF kX2_init ?_
  refine nJ.run [] 20 (fun K hK => hK _ ?_)
  refine nJ.newa (N := 16) (atype := .int) .int (16, .inl (nA z0)) ac_int (fun _ => rfl) (by decide) (by decide) ?_
  refine nJ.putF kX2_init ?_
  exact nJ.ret
theorem ob_4 : ∀ x ∈ [Cond.methodLink RX4 3 Lib.objectInit, Cond.instanceMethod Lib.objectInit, Cond.code Lib.objectInit ⟨#[0xb1]⟩ 1 none], x ∈ pm_tb := by decide +kernel
theorem iw_4 : ∀ x ∈ [Cond.initialized yX4_init.cls, Cond.instanceMethod yX4_init, Cond.code yX4_init cX4_init 1 none], x ∈ pm_tb := by decide +kernel
theorem iy_4 : yX4_init.cls ≠ "java/lang/invoke/MethodHandle" ∧ yX4_init.cls ≠ "java/lang/invoke/VarHandle" ∧ (parseMethodDescriptor yX4_init.desc).map (fun d => d.parameters.length) = some 0 := by decide +kernel
theorem n_Tree : pm_New l mX4_init 1 6 70 4 [.null, .null, .null, .null, .null, .null, .int (nI 0)] [.inr (4, [.ref 1, .ref 2, .ref 3, .ref 4, .ref 5, .ref 6, .int (nI 0)]), .inl (.int, 7, .inl (nA z0)), .inl (.int, 14, .inl (nA z0)), .inl (.int, 14, .inl (nA z0)), .inl (.int, 14, .inl (nA z0)), .inl (.long, 14, .inr (.inl (fun _ => 0))), .inl (.int, 7, .inl (nA z0))] := by
  refine pm_New.mk kX4_init (fun _ => rfl) (nJ.run [] 20 (fun K hK => hK _ ?_))
  refine nJ.obj ob_4 ?_
  refine nJ.run [] 20 (fun K hK => hK _ ?_)
  refine nJ.newa (N := 7) (atype := .int) .int (7, .inl (nA z0)) ac_int (fun _ => rfl) (by decide) (by decide) ?_
  refine nJ.putF kX4_init ?_
  refine nJ.run [] 20 (fun K hK => hK _ ?_)
  refine nJ.newa (N := 14) (atype := .int) .int (14, .inl (nA z0)) ac_int (fun _ => rfl) (by decide) (by decide) ?_
  refine nJ.putF kX4_init ?_
  refine nJ.run [] 20 (fun K hK => hK _ ?_)
  refine nJ.newa (N := 14) (atype := .int) .int (14, .inl (nA z0)) ac_int (fun _ => rfl) (by decide) (by decide) ?_
  refine nJ.putF kX4_init ?_
  refine nJ.run [] 20 (fun K hK => hK _ ?_)
  refine nJ.newa (N := 14) (atype := .int) .int (14, .inl (nA z0)) ac_int (fun _ => rfl) (by decide) (by decide) ?_
  refine nJ.putF kX4_init ?_
  refine nJ.run [] 20 (fun K hK => hK _ ?_)
  refine nJ.newa (N := 14) (atype := .long) .long (14, .inr (.inl (fun _ => 0))) ac_long (fun _ => rfl) (by decide) (by decide) ?_
  refine nJ.putF kX4_init ?_
  refine nJ.run [] 20 (fun K hK => hK _ ?_)
  refine nJ.newa (N := 7) (atype := .int) .int (7, .inl (nA z0)) ac_int (fun _ => rfl) (by decide) (by decide) ?_
  refine nJ.putF kX4_init ?_
  exact nJ.ret
theorem ob_6 : ∀ x ∈ [Cond.methodLink RX6 1 Lib.objectInit, Cond.instanceMethod Lib.objectInit, Cond.code Lib.objectInit ⟨#[0xb1]⟩ 1 none], x ∈ pm_tb := by decide +kernel
theorem iw_6 : ∀ x ∈ [Cond.initialized yX6_init.cls, Cond.instanceMethod yX6_init, Cond.code yX6_init cX6_init 1 none], x ∈ pm_tb := by decide +kernel
theorem iy_6 : yX6_init.cls ≠ "java/lang/invoke/MethodHandle" ∧ yX6_init.cls ≠ "java/lang/invoke/VarHandle" ∧ (parseMethodDescriptor yX6_init.desc).map (fun d => d.parameters.length) = some 0 := by decide +kernel
theorem n_Model : pm_New l mX6_init 1 14 1617 6 [.int (nI 0), .null, .int (nI 0), .int (nI 0), .int (nI 0), .int (nI 0), .null, .null, .null, .int (nI 0), .int (nI 0), .int (nI 0), .null, .int (nI 0), .null, .null, .null, .null, .null, .int (nI 0), .null, .int (nI 0), .null, .int (nI 0), .null, .null, .int (nI 0)] [.inr (6, [.int (nI 0), .ref 1, .int (nI 0), .int (nI 0), .int (nI 0), .int (nI 0), .ref 2, .ref 3, .ref 4, .int (nI 0), .int (nI 0), .int (nI 0), .ref 5, .int (nI 0), .ref 6, .ref 7, .ref 8, .ref 9, .ref 10, .int (nI 0), .ref 11, .int (nI 0), .ref 12, .int (nI 0), .ref 13, .ref 14, .int (nI 0)]), .inl (.char, 160, .inl (nA z0)), .inl (.int, 112, .inl (nA z0)), .inl (.int, 16, .inl (nA z0)), .inl (.int, 112, .inl (nA z0)), .inl (.int, 945, .inl (nA z0)), .inl (.int, 16, .inl (nA z0)), .inl (.int, 16, .inl (nA z0)), .inl (.int, 16, .inl (nA z0)), .inl (.boolean, 16, .inl (nA z0)), .inl (.int, 64, .inl (nA z0)), .inl (.int, 8, .inl (nA z0)), .inl (.int, 8, .inl (nA z0)), .inl (.char, 64, .inl (nA z0)), .inl (.int, 64, .inl (nA z0))] := by
  refine pm_New.mk kX6_init (fun _ => rfl) (nJ.run [] 20 (fun K hK => hK _ ?_))
  refine nJ.obj ob_6 ?_
  refine nJ.run [] 20 (fun K hK => hK _ ?_)
  refine nJ.newa (N := 160) (atype := .char) .char (160, .inl (nA z0)) ac_char (fun _ => rfl) (by decide) (by decide) ?_
  refine nJ.putF kX6_init ?_
  refine nJ.run [] 20 (fun K hK => hK _ ?_)
  refine nJ.newa (N := 112) (atype := .int) .int (112, .inl (nA z0)) ac_int (fun _ => rfl) (by decide) (by decide) ?_
  refine nJ.putF kX6_init ?_
  refine nJ.run [] 20 (fun K hK => hK _ ?_)
  refine nJ.newa (N := 16) (atype := .int) .int (16, .inl (nA z0)) ac_int (fun _ => rfl) (by decide) (by decide) ?_
  refine nJ.putF kX6_init ?_
  refine nJ.run [] 20 (fun K hK => hK _ ?_)
  refine nJ.newa (N := 112) (atype := .int) .int (112, .inl (nA z0)) ac_int (fun _ => rfl) (by decide) (by decide) ?_
  refine nJ.putF kX6_init ?_
  refine nJ.run [] 20 (fun K hK => hK _ ?_)
  refine nJ.newa (N := 945) (atype := .int) .int (945, .inl (nA z0)) ac_int (fun _ => rfl) (by decide) (by decide) ?_
  refine nJ.putF kX6_init ?_
  refine nJ.run [] 20 (fun K hK => hK _ ?_)
  refine nJ.newa (N := 16) (atype := .int) .int (16, .inl (nA z0)) ac_int (fun _ => rfl) (by decide) (by decide) ?_
  refine nJ.putF kX6_init ?_
  refine nJ.run [] 20 (fun K hK => hK _ ?_)
  refine nJ.newa (N := 16) (atype := .int) .int (16, .inl (nA z0)) ac_int (fun _ => rfl) (by decide) (by decide) ?_
  refine nJ.putF kX6_init ?_
  refine nJ.run [] 20 (fun K hK => hK _ ?_)
  refine nJ.newa (N := 16) (atype := .int) .int (16, .inl (nA z0)) ac_int (fun _ => rfl) (by decide) (by decide) ?_
  refine nJ.putF kX6_init ?_
  refine nJ.run [] 20 (fun K hK => hK _ ?_)
  refine nJ.newa (N := 16) (atype := .boolean) .boolean (16, .inl (nA z0)) ac_boolean (fun _ => rfl) (by decide) (by decide) ?_
  refine nJ.putF kX6_init ?_
  refine nJ.run [] 20 (fun K hK => hK _ ?_)
  refine nJ.newa (N := 64) (atype := .int) .int (64, .inl (nA z0)) ac_int (fun _ => rfl) (by decide) (by decide) ?_
  refine nJ.putF kX6_init ?_
  refine nJ.run [] 20 (fun K hK => hK _ ?_)
  refine nJ.newa (N := 8) (atype := .int) .int (8, .inl (nA z0)) ac_int (fun _ => rfl) (by decide) (by decide) ?_
  refine nJ.putF kX6_init ?_
  refine nJ.run [] 20 (fun K hK => hK _ ?_)
  refine nJ.newa (N := 8) (atype := .int) .int (8, .inl (nA z0)) ac_int (fun _ => rfl) (by decide) (by decide) ?_
  refine nJ.putF kX6_init ?_
  refine nJ.run [] 20 (fun K hK => hK _ ?_)
  refine nJ.newa (N := 64) (atype := .char) .char (64, .inl (nA z0)) ac_char (fun _ => rfl) (by decide) (by decide) ?_
  refine nJ.putF kX6_init ?_
  refine nJ.run [] 20 (fun K hK => hK _ ?_)
  refine nJ.newa (N := 64) (atype := .int) .int (64, .inl (nA z0)) ac_int (fun _ => rfl) (by decide) (by decide) ?_
  refine nJ.putF kX6_init ?_
  exact nJ.ret
end CTR
