section PMG
variable {l : Launch} {I : pm_I} {M : pm_M} {d mc ms n : Nat} {O : pm_O → List pm_E → Prop} {cells slots : Nat}
/-- a static call -/
theorem pm_J.calls {pc ix d' mc' ms' : Nat} {L : List (Option Value)} {st rest As : List Value} {w wc : List pm_E} {M' : pm_M} {O' : pm_O → List pm_E → Prop} (q : List Nat)
    (hM : pm_Met l M' d' mc' ms' As wc O') (hd : pm_find I.1 pc = some (.invokestatic ix, 3))
    (hw : ∀ x ∈ [Cond.methodLink M.2.2.2.2 ix M'.1, Cond.static M'.1, Cond.initialized M'.1.cls, Cond.code M'.1 M'.2.1 M'.2.2.1 M'.2.2.2.1], x ∈ pm_tb)
    (hy : M'.1.cls ≠ "java/lang/invoke/MethodHandle" ∧ M'.1.cls ≠ "java/lang/invoke/VarHandle" ∧ (parseMethodDescriptor M'.1.desc).map (fun d => d.parameters.length) = some As.length)
    (hst : st = (As.map (pm_v (pm_rn q))).reverse ++ rest) (hf : pm_fits q w wc) (hn : w.length = n)
    (hrest : (rest.map Value.category).sum ≤ 8) (hdd : d' + 1 ≤ d) (hml : M'.2.2.1 ≤ 81) (hmc : cells + mc' ≤ mc) (hms : slots + ms' ≤ ms)
    (kx : ∀ E w1, O' (.inr E) w1 → w1.length = wc.length → O (.inr E) (pm_bk (pm_rn q) w q w1))
    (kr : ∀ v w1, O' (.inl v) w1 → w1.length = wc.length → pm_J l M I d mc ms n O (cells + mc') (slots + ms') (pc + 3, L, (v.map (pm_v (pm_rn q))).toList ++ rest, pm_bk (pm_rn q) w q w1)) :
    pm_J l M I d mc ms n O cells slots (pc, L, st, w) := by
  intro p e s m args below meth c D ad tI X H locs ls hP hD hS hL hK
  obtain ⟨X1, Xml, Xr, Xlk, Xt, XG, Xl⟩ := id X
  have hdg := X1.dec hd
  obtain ⟨hb1, hpre⟩ := pm_start hf hn hP hD hS hK XG As
  subst hst
  have hwb : ∀ x ∈ [Cond.methodLink M.2.2.2.2 ix M'.1, Cond.static M'.1, Cond.initialized M'.1.cls, Cond.code M'.1 M'.2.1 M'.2.2.1 M'.2.2.2.1], x.before args s = true := fun x hx => X1.2.2.2.1 x (pm_ws_mem (hw x hx))
  have hrun := vx_runS (g := F0 m pc ls (((As.map (pm_v (pm_rn q))).reverse ++ rest).map (pm_v ad))) (rest := rest.map (pm_v ad)) (As := As.map (pm_v (fun k => ad (pm_rn q k)))) (cells := cells) (slots := slots) (locs := locs) (below := below) (meth := meth) (e := e) (H := H) (R := pm_rm d mc ms)
    (⟨X1.1, X1.2.1, Xml, X1.2.2.1, X1.2.2.2.1⟩ : CallFix p m c M.2.1 M.2.2.1 s args (pm_ws M) M.2.2.2.2) (hM D (fun k => ad (pm_rn q k)) (fun k => tI (pm_rn q k)) H.size)
    ⟨callB_of As.length X1.2.2.2.1 (fun x hx => by
        rcases List.mem_cons.mp hx with h | h
        · exact pm_good hw x (by rw [h]; simp)
        · exact ⟨pm_ws_mem h, pm_tb_good h⟩) rfl rfl rfl (hwb _ (by simp)) (hwb _ (by simp)) hy ⟨hdd, by show 8 + (M'.2.2.1 + 11) + 100 * d' ≤ 100 * d; omega⟩, hwb _ (by simp)⟩
    ⟨hb1, hpre⟩ rfl (by simp) hL.2.1
    (by show List.map (pm_v ad) _ = _
        rw [List.map_append, List.map_reverse, pm_map_comp]) (lv_room (by rw [pm_cats]; exact hrest)) hdg ⟨hmc, hms⟩
  intro T hT XT
  rcases hrun T hT XT with ⟨v, st₀, t, T', L', h0, X', hL', e1, e2, ⟨v', hv', he⟩, hgo⟩ | ⟨qx, st₀, t, T', L', E, ce, h0, X', hL', e1, e2, he, hce, hcv, hcl, hgo⟩
  · have hvm : s.vm.Alike t.vm := by rw [← e2]; exact X'.warmed.alike
    obtain ⟨w1, hO, hl1, a1, a2, a3, a4⟩ := pm_after hf hn h0 hP hD hS hK hvm e1 hL' he
    obtain ⟨t2, b1, b2⟩ := kr v' w1 hO hl1 p e s m args below meth c D ad tI X T'.heap (locs ++ L') ls a1 a2 a3 hL a4 T' rfl X'
    refine ⟨t2, hgo t2 ?_, b2⟩
    cases hv'
    have : (List.map (pm_v ad) ((v'.map (pm_v (pm_rn q))).toList ++ rest)) = (v'.map (pm_v (fun k => ad (pm_rn q k)))).toList ++ rest.map (pm_v ad) := by
      cases v' with
      | none => rfl
      | some z => simp [pm_v_comp]
    dsimp only at b1
    rw [this] at b1
    exact b1
  · have hvm : s.vm.Alike t.vm := by rw [← e2]; exact X'.warmed.alike
    obtain ⟨w1, hO, hl1, a1, a2, a3, a4⟩ := pm_after hf hn h0 hP hD hS hK hvm e1 hL' he
    have hout := vx_out (p := p) (l := l) (e := e) (R := pm_rm d mc ms) (below := below) (cells := cells + mc') (slots := slots + ms') (pc := pc) (ls := ls) (rest := rest.map (pm_v ad)) (Qc := pm_Qc D ad tI n s.heap.size O) (XC := pm_XC D ad tI n s.heap.size O) (free := pm_A ad n s.heap.size) (mc := mc) (ms := ms) (args := args) (s := s) (m := m) (E := E) (ce := ce) (q := qx) (H := T'.heap) (locs := locs ++ L')
      (fun x hx => absurd (Xt x hx) id) Xlk (by rw [e1]; exact hce) hcv hcl
      (fun t9 ht9 hW9 => ⟨pm_bk (pm_rn q) w q w1, kx E w1 hO hl1, by rw [pm_bk_len]; exact hn, by rw [ht9]; exact a1, a4.moved hW9, a3.F ht9⟩) a3.2.2 hmc hms T' rfl X'
    obtain ⟨t2, b1, b2⟩ := hout
    exact ⟨t2, hgo.trans b1, b2⟩
/-- Math.min, Math.max -/
theorem pm_J.mmin {pc ix : Nat} {L : List (Option Value)} {rest : List Value} {w : List pm_E} {x y : Int32} (hd : pm_find I.1 pc = some (.invokestatic ix, 3))
    (hw : ∀ z ∈ [Cond.methodLink M.2.2.2.2 ix Lib.Math.min.name, Cond.static Lib.Math.min.name, Cond.initialized "java/lang/Math", Cond.code Lib.Math.min.name Lib.Math.min.code 2 (some .int)], z ∈ pm_tb) (hrest : (rest.map Value.category).sum ≤ 8) (hdd : 1 ≤ d) (hc : cells ≤ mc) (hs : slots ≤ ms)
    (k : pm_J l M I d mc ms n O cells slots (pc + 3, L, .int (if y < x then y else x) :: rest, w)) : pm_J l M I d mc ms n O cells slots (pc, L, .int y :: .int x :: rest, w) := by
  intro p e s m args below meth c D ad tI X H locs ls hP hD hS hL hK
  obtain ⟨X1, Xml, Xr, Xlk, Xt, XG, Xl⟩ := id X
  have hwb := fun z hz => X1.2.2.2.1 z (pm_ws_mem (M := M) (hw z hz))
  exact va_mmin X1.1 X1.2.1 (Xml.trans hL.2.1.symm) X1.2.2.1 (hwb _ (by simp)) (hwb _ (by simp)) (hwb _ (by simp)) (hwb _ (by simp)) hdd (by rw [pm_cats]; show _ ≤ 100 * d; omega) hc hs (X1.dec hd) (k p e s m args below meth c D ad tI X H locs ls hP hD hS hL hK)
theorem pm_J.mmax {pc ix : Nat} {L : List (Option Value)} {rest : List Value} {w : List pm_E} {x y : Int32} (hd : pm_find I.1 pc = some (.invokestatic ix, 3))
    (hw : ∀ z ∈ [Cond.methodLink M.2.2.2.2 ix Lib.Math.max.name, Cond.static Lib.Math.max.name, Cond.initialized "java/lang/Math", Cond.code Lib.Math.max.name Lib.Math.max.code 2 (some .int)], z ∈ pm_tb) (hrest : (rest.map Value.category).sum ≤ 8) (hdd : 1 ≤ d) (hc : cells ≤ mc) (hs : slots ≤ ms)
    (k : pm_J l M I d mc ms n O cells slots (pc + 3, L, .int (if x < y then y else x) :: rest, w)) : pm_J l M I d mc ms n O cells slots (pc, L, .int y :: .int x :: rest, w) := by
  intro p e s m args below meth c D ad tI X H locs ls hP hD hS hL hK
  obtain ⟨X1, Xml, Xr, Xlk, Xt, XG, Xl⟩ := id X
  have hwb := fun z hz => X1.2.2.2.1 z (pm_ws_mem (M := M) (hw z hz))
  exact va_mmax X1.1 X1.2.1 (Xml.trans hL.2.1.symm) X1.2.2.1 (hwb _ (by simp)) (hwb _ (by simp)) (hwb _ (by simp)) (hwb _ (by simp)) hdd (by rw [pm_cats]; show _ ≤ 100 * d; omega) hc hs (X1.dec hd) (k p e s m args below meth c D ad tI X H locs ls hP hD hS hL hK)
/-- System.arraycopy of ints -/
theorem pm_J.copyi {pc ix h0 h1 n0 n1 : Nat} {L : List (Option Value)} {rest : List Value} {w : List pm_E} {sp dp k : Int32} {f g : Nat → Int32} (hd : pm_find I.1 pc = some (.invokestatic ix, 3))
    (hw : ∀ z ∈ [Cond.methodLink M.2.2.2.2 ix arraycopyName, Cond.native arraycopyName, Cond.static arraycopyName, Cond.initialized "java/lang/System"], z ∈ pm_tb) (hrest : (rest.map Value.category).sum ≤ 8) (hdd : 1 ≤ d)
    (hh0 : w[h0]? = some (.inl (.int, n0, .inl f))) (hh1 : w[h1]? = some (.inl (.int, n1, .inl g))) (g1 : ¬ sp < 0) (g2 : ¬ dp < 0) (g3 : ¬ k < 0) (g4 : sp.toNatClampNeg + k.toNatClampNeg ≤ n0) (g5 : dp.toNatClampNeg + k.toNatClampNeg ≤ n1)
    (kk : pm_J l M I d mc ms n O cells slots (pc + 3, L, rest, w.set h1 (.inl (.int, n1, .inl (va_cpy f g sp.toNatClampNeg dp.toNatClampNeg k.toNatClampNeg))))) : pm_J l M I d mc ms n O cells slots (pc, L, .int k :: .int dp :: .ref h1 :: .int sp :: .ref h0 :: rest, w) := by
  intro p e s m args below meth c D ad tI X H locs ls hP hD hS hL hK
  obtain ⟨X1, Xml, Xr, Xlk, Xt, XG, Xl⟩ := id X
  have hwb := fun z hz => X1.2.2.2.1 z (pm_ws_mem (M := M) (hw z hz))
  have hKK : va_K D vwCl [(tI h0, .int), (tI h1, .int)] s := by
    have h := (hK.at hh0).app (hK.at hh1)
    exact h
  refine va_copyi X1.1 X1.2.1 (Xml.trans hL.2.1.symm) X1.2.2.1 (hwb _ (by simp)) (hwb _ (by simp)) (hwb _ (by simp)) (hwb _ (by simp)) hKK hP hD hS h0 h1 0 1 (pm_w_get hh0) (pm_w_get hh1) rfl rfl rfl g1 g2 g3 g4 g5 (fun _ _ => rfl) hdd ?_ (X1.dec hd)
    (fun H1 locs1 a1 a2 a3 => kk p e s m args below meth c D ad tI X H1 locs1 ls (by rw [pm_w_set]; exact a1) (by rw [pm_w_set]; exact a2) a3 hL (hK.setA hh1))
  rw [pm_cats]
  have : nativeFrameWords "java/lang/System" "arraycopy" 5 + 11 ≤ 90 := by decide +kernel
  show _ ≤ 100 * d
  omega
/-- throw new E("text") -/
theorem pm_J.throw {pc ik is ic : Nat} {L : List (Option Value)} {rest : List Value} {w : List pm_E} {cls text : String} {names : List String}
    (d0 : pm_find I.1 pc = some (.new ik, 3)) (d3 : pm_find I.1 (pc + 3) = some (.dup, 1)) (d4 : pm_find I.1 (pc + 4) = some (.ldc is, 2)) (d6 : pm_find I.1 (pc + 6) = some (.invokespecial ic, 3)) (d9 : pm_find I.1 (pc + 9) = some (.athrow, 1))
    (hown : M.2.2.2.2 = RX5) (hstr : (RX5, is, text) ∈ pm_strs) (hcls : Bundle.fit cls = true) (hnames : ∀ x ∈ names, Bundle.fit x = true) (hk : Cond.classLink RX5 ik cls ∈ pm_tb) (hini : Cond.initialized cls ∈ pm_tb)
    (hat : ∀ x ∈ vx_atS RX5 ic cls names, x ∈ pm_tb ∨ x ∈ pm_ng) (hgood : ∀ x ∈ Cond.classLink RX5 ik cls :: Cond.initialized cls :: vx_atS RX5 ic cls names, vx_ot x = true)
    (hrest : (rest.map Value.category).sum ≤ 8) (hlen : names.length ≤ 2) (hdd : 6 ≤ d) (hmc : cells + 1 ≤ mc) (hms : slots + 6 ≤ ms) (hn : w.length = n) (hO : O (.inr cls) w) : pm_J l M I d mc ms n O cells slots (pc, L, rest, w) := by
  intro p e s m args below meth c D ad tI X H locs ls hP hD hS hL hK
  obtain ⟨X1, Xml, Xr, Xlk, Xt, XG, Xl⟩ := id X
  obtain ⟨G1, ⟨sa, G2⟩, G3, G4, G5⟩ := id XG
  have hown' := X1.2.2.1
  rw [hown] at hown'
  refine vx_throwS X1.1 X1.2.1 Xl (own := RX5) (cls := cls) (text := text) (names := names) (ik := ik) (is := is) (ic := ic) (sa := sa is) hown' hcls hnames (X1.2.2.2.1 _ (pm_ws_mem hk)) (X1.2.2.2.1 _ (pm_ws_mem hini)) (G2 _ hstr)
    (fun x hx => (hat x hx).elim (fun h => X1.2.2.2.1 _ (pm_ws_mem h)) (fun h => ?_)) hgood G4 G5 hS (hL.2.1.trans Xml.symm) (X1.dec d0) (X1.dec d3) (X1.dec d4) (X1.dec d6) (X1.dec d9) (fun x hx => absurd (Xt x hx) id)
    (by show _ < d; omega) (by rw [pm_cats]; show (rest.map Value.category).sum + (13 * (names.length + 1) + 43) ≤ 100 * d; omega) hmc hms Xlk
    (fun t hW hz hk' => ⟨w, hO, hn, hP.kept (fun k x hx => hk' _ (hP k x hx).lt), hK.moved hW, Nat.le_trans hS.1 hz, fun x h1 h2 => by rw [hk' x (Nat.lt_of_lt_of_le h1 hS.1)]; exact hS.2.1 x h1 h2⟩) hS.2.2 hmc hms
  have hkd := (List.mem_filter.mp h).2
  have h1 := G1 x h
  unfold pm_kind at hkd
  split at hkd
  · exact va_Nw.use rfl h1
  · exact va_Nw.use rfl h1
  · exact va_Nw.use rfl h1
  · exact va_Nw.use rfl h1
  · cases hkd
end PMG
