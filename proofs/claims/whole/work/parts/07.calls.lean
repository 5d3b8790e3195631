section PME
theorem pm_v_comp (ad f : Nat → Nat) (v : Value) : pm_v ad (pm_v f v) = pm_v (fun k => ad (f k)) v := by cases v <;> rfl
def pm_rc (f : Nat → Nat) : pm_E → pm_E
  | .inl a => .inl a
  | .inr o => .inr (o.1, o.2.map (pm_v f))
theorem pm_c_comp (ad f : Nat → Nat) (t : ClassId) (c : pm_E) : pm_c ad t (pm_rc f c) = pm_c (fun k => ad (f k)) t c := by
  cases c with
  | inl a => rfl
  | inr o => simp [pm_c, pm_rc, pm_v_comp]
def pm_rn (q : List Nat) (k : Nat) : Nat := match pm_nth q k with
  | some h => h
  | none => 0
/-- the callee's cells back in their places -/
def pm_bk (f : Nat → Nat) : List pm_E → List Nat → List pm_E → List pm_E
  | w, h :: q, c :: cs => pm_bk f (w.set h (pm_rc f c)) q cs
  | w, _, _ => w
theorem pm_bk_len (f : Nat → Nat) : ∀ (q : List Nat) (w cs : List pm_E), (pm_bk f w q cs).length = w.length
  | [], w, cs => by simp [pm_bk]
  | h :: q, w, [] => by simp [pm_bk]
  | h :: q, w, c :: cs => by rw [pm_bk, pm_bk_len f q, List.length_set]
theorem pm_bk_out (f : Nat → Nat) {k : Nat} : ∀ (q : List Nat) (w cs : List pm_E), k ∉ q → (pm_bk f w q cs)[k]? = w[k]?
  | [], w, cs, _ => by simp [pm_bk]
  | h :: q, w, [], _ => by simp [pm_bk]
  | h :: q, w, c :: cs, hk => by
    rw [pm_bk, pm_bk_out f q _ _ (fun z => hk (List.mem_cons_of_mem _ z)), List.getElem?_set_ne (fun z => hk (by rw [z]; exact List.mem_cons_self))]
theorem pm_nd {h : Nat} {q : List Nat} (hn : va_nd (h :: q) = true) : h ∉ q ∧ va_nd q = true := by
  simpa [va_nd] using hn
theorem pm_bk_in (f : Nat → Nat) {h : Nat} {c : pm_E} : ∀ (q : List Nat) (w cs : List pm_E) (k : Nat), va_nd q = true → q[k]? = some h → cs[k]? = some c → h < w.length → (pm_bk f w q cs)[h]? = some (pm_rc f c)
  | [], w, cs, k, _, hq, _, _ => by simp at hq
  | h0 :: q, w, [], k, _, _, hc, _ => by simp at hc
  | h0 :: q, w, c0 :: cs, 0, hn, hq, hc, hl => by
    simp only [List.getElem?_cons_zero, Option.some.injEq] at hq hc
    subst hq; subst hc
    rw [pm_bk, pm_bk_out f q _ _ (pm_nd hn).1, List.getElem?_set_self hl]
  | h0 :: q, w, c0 :: cs, k + 1, hn, hq, hc, hl => by
    rw [pm_bk]
    exact pm_bk_in f q _ cs k (pm_nd hn).2 (by simpa using hq) (by simpa using hc) (by simpa using hl)
theorem pm_rn_get {q : List Nat} {k h : Nat} (hq : q[k]? = some h) : pm_rn q k = h := by
  unfold pm_rn
  rw [pm_nth_eq, hq]
variable {p : Program} {l : Launch} {e : Env} {R : Room} {s : State} {m : MethodId} {args : Array Value} {below : List Frame} {meth : Method} {c : Code} {cells slots : Nat} {cc : ByteArray} {ad : Nat → Nat} {tI : Nat → ClassId} {nL : Nat} {D : va_G} {A : Nat → Prop} {I : pm_I} {M : pm_M} {d mc ms n : Nat} {O : pm_O → List pm_E → Prop}
/-- the callee's world lies in the caller's, at the places q -/
def pm_fits (q : List Nat) (w wc : List pm_E) : Prop := va_nd q = true ∧ q.map (fun h => pm_nth w h) = wc.map (fun c => some (pm_rc (pm_rn q) c))
theorem pm_fits.at {q : List Nat} {w wc : List pm_E} (h : pm_fits q w wc) {k : Nat} {c : pm_E} (hk : wc[k]? = some c) : ∃ h', q[k]? = some h' ∧ w[h']? = some (pm_rc (pm_rn q) c) := by
  have h1 : (q.map (fun h => pm_nth w h))[k]? = some (some (pm_rc (pm_rn q) c)) := by rw [h.2, List.getElem?_map, hk]; rfl
  rw [List.getElem?_map] at h1
  cases hq : q[k]? with
  | none => rw [hq] at h1; cases h1
  | some h' =>
    rw [hq] at h1
    exact ⟨h', rfl, by rw [← pm_nth_eq]; exact Option.some.inj h1⟩
theorem pm_fits.len {q : List Nat} {w wc : List pm_E} (h : pm_fits q w wc) : q.length = wc.length := by
  have := congrArg List.length h.2
  simpa using this
theorem pm_fits.lt {q : List Nat} {w wc : List pm_E} (h : pm_fits q w wc) {k : Nat} (hk : k < wc.length) : pm_rn q k < w.length ∧ q[k]? = some (pm_rn q k) ∧ w[pm_rn q k]? = some (pm_rc (pm_rn q) wc[k]) := by
  obtain ⟨h', g1, g2⟩ := h.at (List.getElem?_eq_getElem hk)
  rw [pm_rn_get g1]
  exact ⟨(List.getElem?_eq_some_iff.mp g2).1, g1, g2⟩
theorem pm_fits.P {q : List Nat} {w wc : List pm_E} (h : pm_fits q w wc) {H : Heap} (hP : va_P D vwCl (pm_w ad tI w) H) : va_P D vwCl (pm_w (fun k => ad (pm_rn q k)) (fun k => tI (pm_rn q k)) wc) H := by
  intro k x hk
  have hl := (List.getElem?_eq_some_iff.mp hk).1
  rw [pm_w_len] at hl
  rw [pm_w_get (List.getElem?_eq_getElem hl)] at hk
  cases hk
  obtain ⟨g1, g2, g3⟩ := h.lt hl
  have := hP _ _ (pm_w_get g3)
  rw [pm_c_comp] at this
  exact this
theorem pm_fits.K {q : List Nat} {w wc : List pm_E} (h : pm_fits q w wc) {U : State} (hK : pm_K D vwCl tI w U) : pm_K D vwCl (fun k => tI (pm_rn q k)) wc U := by
  refine ⟨hK.1, fun k a hk => ?_⟩
  have hl := (List.getElem?_eq_some_iff.mp hk).1
  obtain ⟨g1, g2, g3⟩ := h.lt hl
  have e1 : wc[k] = .inl a := (List.getElem?_eq_some_iff.mp hk).2
  rw [e1] at g3
  exact hK.2 _ a g3
theorem pm_fits.inj {q : List Nat} {w wc : List pm_E} (h : pm_fits q w wc) (hi : pm_inj ad w.length) : pm_inj (fun k => ad (pm_rn q k)) wc.length := by
  intro i j hi' hj' hij
  obtain ⟨g1, g2, -⟩ := h.lt hi'
  obtain ⟨k1, k2, -⟩ := h.lt hj'
  have e := hi _ _ g1 k1 hij
  rw [e] at g2
  exact va_nd_inj q h.1 i j _ g2 k2
theorem pm_fits.fr {q : List Nat} {w wc : List pm_E} (h : pm_fits q w wc) {sz sz' : Nat} (hs : sz ≤ sz') : ∀ x, pm_A (fun k => ad (pm_rn q k)) wc.length sz' x → pm_A ad w.length sz x := by
  intro x hx
  rcases hx with ⟨k, hk, rfl⟩ | hx
  · exact Or.inl ⟨_, (h.lt hk).1, rfl⟩
  · exact Or.inr (Nat.le_trans hs hx)
/-- behind a call -/
theorem pm_fits.back {q : List Nat} {w wc w1 : List pm_E} (h : pm_fits q w wc) {H H1 : Heap} {u : State} (hP : va_P D vwCl (pm_w ad tI w) H) (hi : pm_inj ad w.length) (hl : w1.length = wc.length)
    (hP1 : va_P D vwCl (pm_w (fun k => ad (pm_rn q k)) (fun k => tI (pm_rn q k)) w1) H1) (hk : ∀ x : Nat, x < H.size → ¬ pm_A (fun k => ad (pm_rn q k)) wc.length H.size x → H1[x]? = H[x]?)
    (hK : pm_K D vwCl tI w u) (hK1 : pm_K D vwCl (fun k => tI (pm_rn q k)) w1 u) : va_P D vwCl (pm_w ad tI (pm_bk (pm_rn q) w q w1)) H1 ∧ pm_K D vwCl tI (pm_bk (pm_rn q) w q w1) u := by
  have key : ∀ k, k < w.length → (k ∉ q ∧ (pm_bk (pm_rn q) w q w1)[k]? = w[k]?) ∨ ∃ j, ∃ hj : j < w1.length, k = pm_rn q j ∧ (pm_bk (pm_rn q) w q w1)[k]? = some (pm_rc (pm_rn q) w1[j]) := by
    intro k hk'
    by_cases hm : k ∈ q
    · obtain ⟨j, hj⟩ := List.getElem?_of_mem hm
      have lj := (List.getElem?_eq_some_iff.mp hj).1
      rw [h.len, ← hl] at lj
      exact Or.inr ⟨j, lj, (pm_rn_get hj).symm, pm_bk_in _ q w w1 j h.1 hj (List.getElem?_eq_getElem lj) hk'⟩
    · exact Or.inl ⟨hm, pm_bk_out _ q w w1 hm⟩
  refine ⟨fun k x hx => ?_, hK.1, fun k a ha => ?_⟩
  · have hkl := (List.getElem?_eq_some_iff.mp hx).1
    rw [pm_w_len, pm_bk_len] at hkl
    rcases key k hkl with ⟨hm, hg⟩ | ⟨j, hj, rfl, hg⟩
    · rw [List.getElem?_eq_getElem hkl] at hg
      rw [pm_w_get hg] at hx
      cases hx
      have hat := hP _ _ (pm_w_get (List.getElem?_eq_getElem hkl))
      refine hat.kept (hk _ hat.lt (fun z => ?_))
      rcases z with ⟨j, hj, hz⟩ | z
      · obtain ⟨g1, g2, -⟩ := h.lt hj
        have := hi _ _ hkl g1 hz
        exact hm (by rw [this]; exact List.mem_of_getElem? g2)
      · exact absurd hat.lt (Nat.not_lt.mpr z)
    · rw [pm_w_get hg] at hx
      cases hx
      have hat := hP1 _ _ (pm_w_get (List.getElem?_eq_getElem hj))
      rw [pm_c_comp]
      exact hat
  · have hkl := (List.getElem?_eq_some_iff.mp ha).1
    rw [pm_bk_len] at hkl
    rcases key k hkl with ⟨hm, hg⟩ | ⟨j, hj, rfl, hg⟩
    · rw [hg] at ha
      exact hK.2 k a ha
    · rw [hg] at ha
      have e1 : w1[j] = .inl a := by
        cases hw : w1[j] with
        | inl b => rw [hw] at ha; cases ha; rfl
        | inr o => rw [hw] at ha; cases ha
      exact hK1.2 j a (by rw [List.getElem?_eq_getElem hj, e1])
theorem pm_ws_mem {M : pm_M} {w : Cond} (h : w ∈ pm_tb) : w ∈ pm_ws M := List.mem_cons_of_mem _ h
theorem pm_tb_good {w : Cond} (h : w ∈ pm_tb) : (w.onTables && w.keeps) = true ∨ ∃ ty, w = .arrayClass ty := good_of_word (List.mem_filter.mp h).2
theorem pm_good {M : pm_M} {ws : List Cond} (h : ∀ x ∈ ws, x ∈ pm_tb) : GoodIn (pm_ws M) ws := fun w hw => ⟨pm_ws_mem (h w hw), pm_tb_good (h w hw)⟩
/-- behind a call, returned or thrown: the caller goes on -/
theorem pm_after {q : List Nat} {w wc : List pm_E} (hf : pm_fits q w wc) (hn : w.length = n) {O' : pm_O → List pm_E → Prop} {o : pm_O} {H : Heap} {locs L : List Loc} {st0 t T' : State} (hst : st0.heap = H)
    (hP : va_P D vwCl (pm_w ad tI w) H) (hD : va_D (pm_A ad n s.heap.size) (pm_w ad tI w)) (hS : va_S (pm_A ad n s.heap.size) s.heap H locs) (hK : pm_K D vwCl tI w s) (hvm : s.vm.Alike t.vm) (e1 : T'.heap = t.heap)
    (hL : ∀ z ∈ L, pm_A (fun k => ad (pm_rn q k)) wc.length H.size z.base) (he : pm_end D (fun k => ad (pm_rn q k)) (fun k => tI (pm_rn q k)) wc.length H.size O' o st0 t) :
    ∃ w1, O' o w1 ∧ w1.length = wc.length ∧ va_P D vwCl (pm_w ad tI (pm_bk (pm_rn q) w q w1)) T'.heap ∧ va_D (pm_A ad n s.heap.size) (pm_w ad tI (pm_bk (pm_rn q) w q w1)) ∧ va_S (pm_A ad n s.heap.size) s.heap T'.heap (locs ++ L) ∧ pm_K D vwCl tI (pm_bk (pm_rn q) w q w1) s := by
  obtain ⟨w1, hO, hl, hP1, hK1, hz, hk⟩ := he
  subst hn
  rw [hst] at hz hk
  have hi := pm_D.inj hD
  obtain ⟨g1, g2⟩ := hf.back (H1 := T'.heap) hP hi hl (by rw [e1]; exact hP1) (fun x h1 h2 => by rw [e1]; exact hk x h1 h2) hK (hK1.moved hvm.symm)
  refine ⟨w1, hO, hl, g1, pm_D (by rw [pm_bk_len]; exact hi) (fun k hk' => Or.inl ⟨k, by rw [pm_bk_len] at hk'; exact hk', rfl⟩), ⟨Nat.le_trans hS.1 (by rw [e1]; exact hz), fun x h1 h2 => ?_, fun z hz' => ?_⟩, g2⟩
  · rw [e1, hk x (Nat.lt_of_lt_of_le h1 hS.1) (fun z => h2 (hf.fr hS.1 x z))]
    exact hS.2.1 x h1 h2
  · rcases List.mem_append.mp hz' with h1 | h1
    · exact hS.2.2 z h1
    · exact hf.fr hS.1 _ (hL z h1)
/-- what a callee asks of its start -/
theorem pm_start {q : List Nat} {w wc : List pm_E} (hf : pm_fits q w wc) (hn : w.length = n) {H : Heap} {locs : List Loc} (hP : va_P D vwCl (pm_w ad tI w) H) (hD : va_D (pm_A ad n s.heap.size) (pm_w ad tI w)) (hS : va_S (pm_A ad n s.heap.size) s.heap H locs) (hK : pm_K D vwCl tI w s)
    (hG : pm_G (pm_A ad n s.heap.size) s s.heap) (As : List Value) : FrameBlind (pm_Pc D (fun k => ad (pm_rn q k)) (fun k => tI (pm_rn q k)) H.size As wc) ∧ ∀ U : State, U.heap = H → s.WarmedH U.vm → pm_Pc D (fun k => ad (pm_rn q k)) (fun k => tI (pm_rn q k)) H.size As wc (As.map (pm_v (fun k => ad (pm_rn q k)))).toArray U := by
  refine ⟨fun a U g mk h => ?_, fun U hU hW => ?_⟩
  · obtain ⟨h1, h2, h3, h4, h5, h6⟩ := h
    exact ⟨h1, h2, h3, h4.moved (Vm.Alike.refl U.vm), h5, h6.calling g mk a⟩
  · subst hn
    refine ⟨rfl, by rw [hU], by rw [hU]; exact hf.P hP, (hf.K hK).moved hW.alike, hf.inj (pm_D.inj hD), ?_⟩
    exact hG.warm hW (fun x h1 h2 => by rw [hU]; exact hS.2.1 x h1 h2) (fun x hx => hf.fr hS.1 x hx)
theorem pm_map_comp (ad f : Nat → Nat) (l : List Value) : (l.map (pm_v f)).map (pm_v ad) = l.map (pm_v (fun k => ad (f k))) := by
  rw [List.map_map]
  exact List.map_congr_left (fun v _ => pm_v_comp ad f v)
theorem pm_cats (ad : Nat → Nat) (l : List Value) : ((l.map (pm_v ad)).map fun v => v.category) = l.map Value.category := by
  rw [List.map_map]
  exact List.map_congr_left (fun v _ => pm_cat ad v)
/-- a virtual call of a method that may throw: what it throws goes on to the caller's caller -/
theorem pm_J.call {pc ix ci k0 d' mc' ms' : Nat} {L : List (Option Value)} {st rest As : List Value} {w wc : List pm_E} {M' : pm_M} {O' : pm_O → List pm_E → Prop} {fs : List Value} {qc : vw_C} (q : List Nat)
    (hM : pm_Met l M' d' mc' ms' (.ref k0 :: As) wc O') (hd : pm_find I.1 pc = some (.invokevirtual ix, 3))
    (hw : ∀ x ∈ wsV M.2.2.2.2 ix qc.1 M'.1 [Cond.code M'.1 M'.2.1 M'.2.2.1 M'.2.2.2.1], x ∈ pm_tb)
    (hy : M'.1.cls = qc.1 ∧ M'.1.cls ≠ "java/lang/invoke/MethodHandle" ∧ M'.1.cls ≠ "java/lang/invoke/VarHandle" ∧ (parseMethodDescriptor M'.1.desc).map (fun d => d.parameters.length) = some As.length)
    (hst : st = ((Value.ref k0 :: As).map (pm_v (pm_rn q))).reverse ++ rest) (hf : pm_fits q w wc) (hn : w.length = n) (hr : wc[k0]? = some (.inr (ci, fs))) (hqc : vwCl[ci]? = some qc)
    (hrest : (rest.map Value.category).sum ≤ 8) (hdd : d' + 1 ≤ d) (hml : M'.2.2.1 ≤ 81) (hmc : cells + mc' ≤ mc) (hms : slots + ms' ≤ ms)
    (kx : ∀ E w1, O' (.inr E) w1 → w1.length = wc.length → O (.inr E) (pm_bk (pm_rn q) w q w1))
    (kr : ∀ v w1, O' (.inl v) w1 → w1.length = wc.length → pm_J l M I d mc ms n O (cells + mc') (slots + ms') (pc + 3, L, (v.map (pm_v (pm_rn q))).toList ++ rest, pm_bk (pm_rn q) w q w1)) :
    pm_J l M I d mc ms n O cells slots (pc, L, st, w) := by
  intro p e s m args below meth c D ad tI X H locs ls hP hD hS hL hK
  obtain ⟨X1, Xml, Xr, Xlk, Xt, XG, Xl⟩ := id X
  have hdg := X1.dec hd
  obtain ⟨hb1, hpre⟩ := pm_start hf hn hP hD hS hK XG (.ref k0 :: As)
  subst hst
  have hrun := vx_runV (g := F0 m pc ls ((((Value.ref k0 :: As).map (pm_v (pm_rn q))).reverse ++ rest).map (pm_v ad))) (rest := rest.map (pm_v ad)) (As := As.map (pm_v (fun k => ad (pm_rn q k)))) (b := ad (pm_rn q k0)) (cells := cells) (slots := slots) (locs := locs) (below := below) (meth := meth) (e := e) (H := H) (R := pm_rm d mc ms)
    (⟨X1.1, X1.2.1, Xml, X1.2.2.1, X1.2.2.2.1⟩ : CallFix p m c M.2.1 M.2.2.1 s args (pm_ws M) M.2.2.2.2) (hM D (fun k => ad (pm_rn q k)) (fun k => tI (pm_rn q k)) H.size)
    (cwV As.length X1.2.2.2.1 (C := qc.1) (fun x hx => by
      unfold wsV at hx
      rcases List.mem_append.mp hx with h | h
      · exact pm_good hw x (by unfold wsV; exact List.mem_append_left _ h)
      · rcases List.mem_cons.mp h with h | h
        · exact pm_good hw x (by unfold wsV; rw [h]; exact List.mem_append_right _ List.mem_cons_self)
        · exact ⟨pm_ws_mem h, pm_tb_good h⟩) rfl rfl rfl hy ⟨hdd, by show 8 + (M'.2.2.1 + 11) + 100 * d' ≤ 100 * d; omega⟩)
    ⟨hb1, va_recv (hf.K hK).obj (hf.P hP) hqc (pm_w_get hr), hpre⟩ rfl (by simp) hL.2.1
    (by show List.map (pm_v ad) _ = _
        rw [List.map_append, List.map_reverse, pm_map_comp]
        simp [pm_v]) (lv_room (by rw [pm_cats]; exact hrest)) hdg ⟨hmc, hms⟩
  intro T hT XT
  rcases hrun T hT XT with ⟨v, st₀, t, T', L', h0, X', hL', e1, e2, ⟨v', hv', he⟩, hgo⟩ | ⟨qx, st₀, t, T', L', E, ce, h0, X', hL', e1, e2, he, hce, hcv, hcl, hgo⟩
  · have hvm : s.vm.Alike t.vm := by rw [← e2]; exact X'.warmed.alike
    obtain ⟨w1, hO, hl1, a1, a2, a3, a4⟩ := pm_after hf hn h0 hP hD hS hK hvm e1 hL' he
    obtain ⟨t2, b1, b2⟩ := kr v' w1 hO hl1 p e s m args below meth c D ad tI X T'.heap (locs ++ L') ls a1 a2 a3 hL a4 T' rfl X'
    refine ⟨t2, hgo t2 ?_, b2⟩
    cases hv'
    have : (List.map (pm_v ad) ((v'.map (pm_v (pm_rn q))).toList ++ rest)) = (v'.map (pm_v (fun k => ad (pm_rn q k)))).toList ++ rest.map (pm_v ad) := by
      cases v' with
      | none => rfl
      | some z => simp [pm_v_comp]
    dsimp only at b1
    rw [this] at b1
    exact b1
  · have hvm : s.vm.Alike t.vm := by rw [← e2]; exact X'.warmed.alike
    obtain ⟨w1, hO, hl1, a1, a2, a3, a4⟩ := pm_after hf hn h0 hP hD hS hK hvm e1 hL' he
    have hout := vx_out (p := p) (l := l) (e := e) (R := pm_rm d mc ms) (below := below) (cells := cells + mc') (slots := slots + ms') (pc := pc) (ls := ls) (rest := rest.map (pm_v ad)) (Qc := pm_Qc D ad tI n s.heap.size O) (XC := pm_XC D ad tI n s.heap.size O) (free := pm_A ad n s.heap.size) (mc := mc) (ms := ms) (args := args) (s := s) (m := m) (E := E) (ce := ce) (q := qx) (H := T'.heap) (locs := locs ++ L')
      (fun x hx => absurd (Xt x hx) id) Xlk (by rw [e1]; exact hce) hcv hcl
      (fun t9 ht9 hW9 => ⟨pm_bk (pm_rn q) w q w1, kx E w1 hO hl1, by rw [pm_bk_len]; exact hn, by rw [ht9]; exact a1, a4.moved hW9, a3.F ht9⟩) a3.2.2 hmc hms T' rfl X'
    obtain ⟨t2, b1, b2⟩ := hout
    exact ⟨t2, hgo.trans b1, b2⟩
end PME
