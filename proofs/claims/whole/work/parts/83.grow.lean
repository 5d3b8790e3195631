section GRW
variable {p : Program} {l : Launch} {e : Env} {R : Room} {s : State} {m : MethodId} {args : Array Value} {below : List Frame} {meth : Method} {c : Code} {cells slots : Nat} {Q : State → Prop} {cc : ByteArray} {nL : Nat} {D : va_G} {A : Nat → Prop} {own : String} {Ts : List Cond} {I : pm_I} {Fx : (Nat → Nat) → Prop}
/-! worlds that grow: a new cell gets the next handle -/
def vOk (n : Nat) : Value → Bool
  | .ref k => !(Nat.beq k n)
  | _ => true
def cOk (n : Nat) : pm_E → Bool
  | .inl _ => true
  | .inr o => o.2.all (vOk n)
def oOk (n : Nat) : Option Value → Bool
  | some v => vOk n v
  | none => true
def updA {α : Type} (ad : Nat → α) (n : Nat) (q : α) : Nat → α := fun k => if k = n then q else ad k
theorem updA_s {α : Type} {ad : Nat → α} {n : Nat} {q : α} : updA ad n q n = q := if_pos rfl
theorem updA_n {α : Type} {ad : Nat → α} {n k : Nat} {q : α} (h : k ≠ n) : updA ad n q k = ad k := if_neg h
theorem pm_v_upd {ad : Nat → Nat} {n q : Nat} {v : Value} (h : vOk n v = true) : pm_v (updA ad n q) v = pm_v ad v := by
  cases v with
  | ref k =>
    have hk : k ≠ n := by
      intro e
      subst e
      unfold vOk at h
      simp at h
    show Value.ref (updA ad n q k) = Value.ref (ad k)
    rw [updA_n hk]
  | _ => rfl
theorem pm_vs_upd {ad : Nat → Nat} {n q : Nat} {st : List Value} (h : st.all (vOk n) = true) : st.map (pm_v (updA ad n q)) = st.map (pm_v ad) := List.map_congr_left (fun v hv => pm_v_upd (List.all_eq_true.mp h v hv))
theorem pm_c_upd {ad : Nat → Nat} {n q : Nat} {t : ClassId} {x : pm_E} (h : cOk n x = true) : pm_c (updA ad n q) t x = pm_c ad t x := by
  cases x with
  | inl a => rfl
  | inr o => show Sum.inr (o.1, o.2.map (pm_v (updA ad n q))) = Sum.inr (o.1, o.2.map (pm_v ad)); rw [pm_vs_upd h]
theorem pm_w_at (ad : Nat → Nat) (tI : Nat → ClassId) (w : List pm_E) (k : Nat) : (pm_w ad tI w)[k]? = w[k]?.map (fun x => (ad k, pm_c ad (tI k) x)) := by
  unfold pm_w
  rw [List.getElem?_mapIdx]
theorem pm_w_grow {ad : Nat → Nat} {tI : Nat → ClassId} {w : List pm_E} {q : Nat} {t : ClassId} {x : pm_E} (hw : w.all (cOk w.length) = true) : pm_w (updA ad w.length q) (updA tI w.length t) (w ++ [x]) = pm_w ad tI w ++ [(q, pm_c (updA ad w.length q) t x)] := by
  apply List.ext_getElem?
  intro i
  rw [pm_w_at]
  rcases Nat.lt_trichotomy i w.length with h | h | h
  · rw [List.getElem?_append_left h, List.getElem?_append_left (by rw [pm_w_len]; exact h), pm_w_at, List.getElem?_eq_getElem h]
    simp only [Option.map_some]
    rw [updA_n (by omega), updA_n (by omega), pm_c_upd (List.all_eq_true.mp hw _ (List.getElem_mem h))]
  · subst h
    rw [List.getElem?_append_right (Nat.le_refl _), List.getElem?_append_right (by rw [pm_w_len]; exact Nat.le_refl _), pm_w_len, Nat.sub_self]
    simp only [List.getElem?_cons_zero, Option.map_some]
    rw [updA_s, updA_s]
  · rw [List.getElem?_eq_none (by rw [List.length_append]; simp; omega), List.getElem?_eq_none (by rw [List.length_append, pm_w_len]; simp; omega)]
    rfl
theorem pm_L_upd {ad : Nat → Nat} {n q : Nat} {ls : Array Slot} {L : List (Option Value)} (h : L.all (oOk n) = true) (hL : pm_L ad nL ls L) : pm_L (updA ad n q) nL ls L :=
  ⟨hL.1, hL.2.1, hL.2.2.1, fun i v hv => by
    have := List.all_eq_true.mp h (some v) (List.mem_of_getElem? hv)
    rw [pm_v_upd this]
    exact hL.2.2.2 i v hv⟩
theorem pm_K_growO {tI : Nat → ClassId} {w : List pm_E} {t : ClassId} {o : Nat × List Value} (hK : pm_K D vwCl tI w s) : pm_K D vwCl (updA tI w.length t) (w ++ [.inr o]) s :=
  ⟨hK.1, fun k a hk => by
    by_cases h : k < w.length
    · rw [List.getElem?_append_left h] at hk
      rw [updA_n (by omega)]
      exact hK.2 k a hk
    · rw [List.getElem?_append_right (by omega)] at hk
      by_cases h2 : k - w.length = 0
      · rw [h2] at hk; cases hk
      · rw [List.getElem?_eq_none (by simp; omega)] at hk; cases hk⟩
theorem pm_K_growA {tI : Nat → ClassId} {w : List pm_E} {t : ClassId} {ty : FieldType} {a0 : vp_A} (hK : pm_K D vwCl tI w s) (h1 : ArrOfT s t ty ∧ va_RA s t ty) : pm_K D vwCl (updA tI w.length t) (w ++ [.inl (ty, a0)]) s :=
  ⟨hK.1, fun k a hk => by
    by_cases h : k < w.length
    · rw [List.getElem?_append_left h] at hk
      rw [updA_n (by omega)]
      exact hK.2 k a hk
    · rw [List.getElem?_append_right (by omega)] at hk
      by_cases h2 : k - w.length = 0
      · rw [h2] at hk
        cases hk
        rw [show k = w.length by omega, updA_s]
        exact h1
      · rw [List.getElem?_eq_none (by simp; omega)] at hk; cases hk⟩
def gW (Fx : (Nat → Nat) → Prop) (p : Program) (l : Launch) (e : Env) (R : Room) (s : State) (m : MethodId) (args : Array Value) (below : List Frame) (meth : Method) (c : Code) (nL : Nat) (D : va_G) (A : Nat → Prop) (cells slots : Nat) (Q : State → Prop) (C : pm_C) : Prop :=
  ∀ (ad : Nat → Nat) (tI : Nat → ClassId), Fx ad → pm_W p l e R s m args below meth c nL D A ad tI cells slots Q C
theorem gW.run (X : pm_X p s m args c cc own Ts I) (stops : List Nat) (k : Nat) {C : pm_C} (h : ∀ K : pm_C → Prop, (∀ C', gW Fx p l e R s m args below meth c nL D A cells slots Q C' → K C') → pm_wp I stops K k C) : gW Fx p l e R s m args below meth c nL D A cells slots Q C :=
  fun ad tI hF => pm_wp_ok X stops k C (h _ (fun C' h' => h' ad tI hF))
theorem gW.new (X : pm_X p s m args c cc own Ts I) {pc ix ci N : Nat} {L : List (Option Value)} {st : List Value} {w : List pm_E} {C : String} {T : u_T} (fs : List Value) (hA : ∀ q, s.heap.size ≤ q → A q) (hFx : ∀ ad q, Fx ad → Fx (updA ad w.length q))
    (hcl : Cond.classLink own ix C ∈ Ts) (hin : Cond.instantiable C N ∈ Ts) (hini : Cond.initialized C ∈ Ts) (hfs : ∀ j, j < N → defaultValue (pm_ty ci j) = vp_V fs j) (hfr : ∀ ad, fs.map (pm_v ad) = fs) (hcells : cells + 1 ≤ R.cells) (hslots : slots + N ≤ R.slots)
    (k : gW Fx p l e R s m args below meth c nL D A (cells + 1) (slots + N) Q (pc + 3, L, .ref w.length :: st, w ++ [.inr (ci, fs)]))
    (hq : vwCl[ci]? = some (C, T, N) := by rfl) (hd : pm_find I.1 pc = some (.new ix, 3) := by rfl) (hw : w.all (cOk w.length) = true := by rfl) (hL' : L.all (oOk w.length) = true := by rfl) (hst : st.all (vOk w.length) = true := by rfl) : gW Fx p l e R s m args below meth c nL D A cells slots Q (pc, L, st, w) := by
  intro ad tI hF H locs ls hP hD hS hL hK
  have hts := X.2.2.2.1
  refine va_new (ci := ci) (fs := fs) X.1 X.2.1 hts (X.2.2.2.2.1 ci _ hq) (pm_ty ci) (pm_ty_ok ci _ hq).1 X.2.2.1 (hts _ hcl) (hts _ hin) (hts _ hini) hK.obj hP hD hS hA hq hfs hcells hslots (X.dec hd) (fun q H1 a1 a2 a3 => ?_)
  have e1 : pm_w (updA ad w.length q) (updA tI w.length (tI 0)) (w ++ [.inr (ci, fs)]) = pm_w ad tI w ++ [(q, .inr (ci, fs))] := by
    rw [pm_w_grow hw]
    show pm_w ad tI w ++ [(q, Sum.inr (ci, fs.map (pm_v (updA ad w.length q))))] = _
    rw [hfr]
  have := k (updA ad w.length q) (updA tI w.length (tI 0)) (hFx ad q hF) H1 locs ls (by show va_P D vwCl (pm_w _ _ (w ++ [.inr (ci, fs)])) H1; rw [e1]; exact a1) (by show va_D A (pm_w _ _ (w ++ [.inr (ci, fs)])); rw [e1]; exact a2) a3 (pm_L_upd hL' hL) (pm_K_growO hK)
  have e2 : List.map (pm_v (updA ad w.length q)) (.ref w.length :: st) = .ref q :: st.map (pm_v ad) := by
    rw [List.map_cons, pm_vs_upd hst]
    show Value.ref (updA ad w.length q w.length) :: _ = _
    rw [updA_s]
  dsimp only at this
  rw [e2] at this
  exact this
theorem gW.newa (X : pm_X p s m args c cc own Ts I) {pc N : Nat} {atype : ArrayType} {L : List (Option Value)} {st : List Value} {w : List pm_E} {n : Int32} (ty : FieldType) (a0 : vp_A) (hA : ∀ q, s.heap.size ≤ q → A q) (hFx : ∀ ad q, Fx ad → Fx (updA ad w.length q))
    (harr : Cond.arrayClass (newarray.typeOf atype) ∈ Ts) (ha : ∀ cA : ClassId, vp_cell cA a0 = arrV cA N (fun _ => defaultValue ty)) (hn : ¬ n < 0) (hN : n.toNatClampNeg = N) (hbytes : N * componentBytes ty ≤ 536870912) (hcells : cells + 1 ≤ R.cells) (hslots : slots + N ≤ R.slots)
    (k : gW Fx p l e R s m args below meth c nL D A (cells + 1) (slots + N) Q (pc + 2, L, .ref w.length :: st, w ++ [.inl (ty, a0)]))
    (hty : newarray.typeOf atype = ty := by rfl) (hd : pm_find I.1 pc = some (.newarray atype, 2) := by rfl) (hw : w.all (cOk w.length) = true := by rfl) (hL' : L.all (oOk w.length) = true := by rfl) (hst : st.all (vOk w.length) = true := by rfl) : gW Fx p l e R s m args below meth c nL D A cells slots Q (pc, L, .int n :: st, w) := by
  intro ad tI hF H locs ls hP hD hS hL hK
  refine va_newa X.1 X.2.1 (X.2.2.2.1 _ harr) hty hK.obj hP hD hS hA ha hn hN hbytes hcells hslots (X.dec hd) (fun q cA H1 a0' a1 a2 a3 => ?_)
  have h9 := a0'.2 0 _ rfl
  have e1 : pm_w (updA ad w.length q) (updA tI w.length cA) (w ++ [.inl (ty, a0)]) = pm_w ad tI w ++ [(q, .inl (cA, a0))] := pm_w_grow hw
  have := k (updA ad w.length q) (updA tI w.length cA) (hFx ad q hF) H1 locs ls (by show va_P D vwCl (pm_w _ _ (w ++ [.inl (ty, a0)])) H1; rw [e1]; exact a1) (by show va_D A (pm_w _ _ (w ++ [.inl (ty, a0)])); rw [e1]; exact a2) a3 (pm_L_upd hL' hL) (pm_K_growA hK h9)
  have e2 : List.map (pm_v (updA ad w.length q)) (.ref w.length :: st) = .ref q :: st.map (pm_v ad) := by
    rw [List.map_cons, pm_vs_upd hst]
    show Value.ref (updA ad w.length q w.length) :: _ = _
    rw [updA_s]
  dsimp only at this
  rw [e2] at this
  exact this
theorem pm_Ib_f {M : pm_M} (h : pm_Ib M I = true) {ix ci k : Nat} {q : vw_C} (hf : pm_find I.2.1 ix = some (false, ci, k)) (hq : vwCl[ci]? = some q) : k < q.2.2 ∧ Cond.fieldLink M.2.2.2.2 ix (q.2.1 k).1 (q.2.1 k).2.1 (q.2.1 k).2.2.1 ∈ pm_tb := by
  unfold pm_Ib at h
  simp only [Bool.and_eq_true, List.all_eq_true] at h
  obtain ⟨_, h2, _⟩ := h
  have h4 := h2 _ (pm_find_mem _ _ _ hf)
  dsimp only at h4
  rw [pm_nth_eq, hq] at h4
  dsimp only at h4
  simp only [Bool.and_eq_true] at h4
  exact ⟨Nat.blt_eq.mp h4.1, of_decide_eq_true h4.2⟩
/-- a final field, in its constructor -/
theorem gW.putF {M : pm_M} (hI : pm_Ib M I = true) (hTs : ∀ w ∈ pm_tb, w ∈ Ts) (X : pm_X p s m args c cc M.2.2.2.2 Ts I) (hi : meth.name = "<init>") {pc ix ci k h kk N : Nat} {L : List (Option Value)} {r fs : List Value} {w : List pm_E} {C : String} {T : u_T}
    (hK' : gW Fx p l e R s m args below meth c nL D A cells slots Q (pc + 3, L, r, w.set h (.inr (ci, fs.set k (.ref kk)))))
    (hd : pm_find I.1 pc = some (.putfield ix, 3) := by rfl) (hf : pm_find I.2.1 ix = some (false, ci, k) := by rfl) (hw : pm_nth w h = some (.inr (ci, fs)) := by rfl) (hq : vwCl[ci]? = some (C, T, N) := by rfl) (hfin : (T k).2.2.2 = true := by rfl) (hdecl : (T k).1 = M.2.2.2.2 := by rfl) (hl : Nat.blt k fs.length = true := by rfl)
    (hfit : ∀ x, narrow (pm_ty ci k) (.ref x) = .ref x ∧ fits (pm_ty ci k) (.ref x) = true := by exact fun _ => ⟨rfl, rfl⟩) : gW Fx p l e R s m args below meth c nL D A cells slots Q (pc, L, .ref kk :: .ref h :: r, w) := by
  intro ad tI hF H locs ls hP hD hS hL hK
  obtain ⟨hx, hb, hown, hts, hin, hcd, hfd, hcs⟩ := id X
  rw [pm_nth_eq] at hw
  obtain ⟨hkN, hlk⟩ := pm_Ib_f hI hf hq
  obtain ⟨hty, hnm⟩ := pm_ty_ok _ _ hq
  dsimp only at hty hnm hkN hlk
  have key : ∀ (H1 : Heap) (locs1 : List Loc), va_P D vwCl ((pm_w ad tI w).set h (ad h, .inr (ci, (List.map (pm_v ad) fs).set k (pm_v ad (.ref kk))))) H1 → va_D A ((pm_w ad tI w).set h (ad h, .inr (ci, (List.map (pm_v ad) fs).set k (pm_v ad (.ref kk))))) → va_S A s.heap H1 locs1 → W p l e R s m args below meth c H1 locs1 cells slots Q (F0 m (pc + 3) ls (List.map (pm_v ad) r)) := fun H1 locs1 a1 a2 a3 => by
    rw [← List.map_set] at a1 a2
    exact hK' ad tI hF H1 locs1 ls (by rw [pm_w_set]; exact a1) (by rw [pm_w_set]; exact a2) a3 hL hK.setO
  have hlen : k < (List.map (pm_v ad) fs).length := by rw [List.length_map]; exact Nat.blt_eq.mp hl
  exact va_putF hx hb hts (hin _ _ hq) (pm_ty ci) hty hnm hown hK.obj hP hD hS h (pm_w_get hw) hq k hkN (hts _ (hTs _ hlk)) (fun _ z => z) hfin hi hdecl (hty _ hkN) (hfit _).1 (hfit _).2 hlen (X.dec hd) key
/-- Object.<init> -/
theorem gW.obj (X : pm_X p s m args c cc own Ts I) (hml : c.maxLocals = nL) {pc ix h : Nat} {L : List (Option Value)} {st : List Value} {w : List pm_E} (hm : ∀ x ∈ [Cond.methodLink own ix Lib.objectInit, Cond.instanceMethod Lib.objectInit, Cond.code Lib.objectInit ⟨#[0xb1]⟩ 1 none], x ∈ Ts) (hfr : 1 ≤ R.frames) (hlo : (st.map Value.category).sum + 12 ≤ R.locals)
    (k : gW Fx p l e R s m args below meth c nL D A cells slots Q (pc + 3, L, st, w)) (hd : pm_find I.1 pc = some (.invokespecial ix, 3) := by rfl) : gW Fx p l e R s m args below meth c nL D A cells slots Q (pc, L, .ref h :: st, w) := by
  intro ad tI hF H locs ls hP hD hS hL hK
  have hts := X.2.2.2.1
  refine W.objInit X.1 X.2.1 X.2.2.1 (hts _ (hm _ (by simp))) (hts _ (hm _ (by simp))) (hts _ (hm _ (by simp))) (a := ad h) (rest := st.map (pm_v ad)) rfl (by rw [hml]; exact hL.2.1) rfl (X.dec hd) hfr (by
    show 2 * 0 + _ + 12 ≤ R.locals
    rw [pm_cats]
    omega) ?_
  exact k ad tI hF H locs ls hP hD hS hL hK
/-! constructors -/
def pm_nG (U : State) : Prop := ∀ w ∈ pm_ng, va_Nw w U
def nQ (D : va_G) (a0 sz : Nat) (w1 : List pm_E) : Array Value → State → Outcome → State → Prop := fun _ st oc t => oc = .returned none ∧ ∃ (ad : Nat → Nat) (tI : Nat → ClassId), ad 0 = a0 ∧ (∀ k, 1 ≤ k → k < w1.length → sz ≤ ad k) ∧ pm_inj ad w1.length ∧ va_P D vwCl (pm_w ad tI w1) t.heap ∧ pm_K D vwCl tI w1 t ∧ va_F (fun q => q = a0 ∨ sz ≤ q) st t
def nP (D : va_G) (a0 sz : Nat) (ci : Nat) (fs : List Value) : Array Value → State → Prop := va_Pc [.ref a0] (fun U => U.heap.size = sz ∧ va_P D vwCl [(a0, .inr (ci, fs))] U.heap ∧ va_K D vwCl [] U ∧ pm_nG U)
def pm_New (l : Launch) (M : pm_M) (d mc ms ci : Nat) (fs : List Value) (w1 : List pm_E) : Prop := ∀ (D : va_G) (a0 sz : Nat), Met l M.1 (pm_ws M) (pm_rm d mc ms) (nP D a0 sz ci fs) (nQ D a0 sz w1) mc ms (fun q => q = a0 ∨ sz ≤ q)
def vLt (n N : Nat) : Value → Bool
  | .ref k => Nat.blt k n || Nat.ble N k
  | _ => true
def vLs (n : Nat) : Value → Bool
  | .ref k => Nat.blt k n
  | _ => true
def cLt (n : Nat) : pm_E → Bool
  | .inl _ => true
  | .inr o => o.2.all (vLs n)
def oLt (n N : Nat) : Option Value → Bool
  | some v => vLt n N v
  | none => true
def rhoN (h n k : Nat) : Nat := if k = 0 then h else n + (k - 1)
def adN (ad ad1 : Nat → Nat) (n len : Nat) : Nat → Nat := fun k => if k < n then ad k else if k < n + (len - 1) then ad1 (k - n + 1) else ad k
theorem pm_v_lt {f g : Nat → Nat} {n N : Nat} {v : Value} (h : vLt n N v = true) (h1 : ∀ k, k < n → f k = g k) (h2 : ∀ k, N ≤ k → f k = g k) : pm_v f v = pm_v g v := by
  cases v with
  | ref k =>
    unfold vLt at h
    rcases Bool.or_eq_true_iff.mp h with h | h
    · show Value.ref (f k) = Value.ref (g k); rw [h1 k (Nat.blt_eq.mp h)]
    · show Value.ref (f k) = Value.ref (g k); rw [h2 k (Nat.le_of_ble_eq_true h)]
  | _ => rfl
theorem pm_v_ls {f g : Nat → Nat} {n : Nat} {v : Value} (h : vLs n v = true) (h1 : ∀ k, k < n → f k = g k) : pm_v f v = pm_v g v := by
  cases v with
  | ref k => show Value.ref (f k) = Value.ref (g k); rw [h1 k (Nat.blt_eq.mp h)]
  | _ => rfl
theorem pm_c_lt {f g : Nat → Nat} {n : Nat} {t : ClassId} {x : pm_E} (h : cLt n x = true) (h1 : ∀ k, k < n → f k = g k) : pm_c f t x = pm_c g t x := by
  cases x with
  | inl a => rfl
  | inr o =>
    show Sum.inr (o.1, o.2.map (pm_v f)) = Sum.inr (o.1, o.2.map (pm_v g))
    rw [List.map_congr_left (fun v hv => pm_v_ls (List.all_eq_true.mp h v hv) h1)]
theorem pm_nG.moved {s U : State} (h : pm_nG s) (hW : s.WarmedH U.vm) : pm_nG U := fun w hw => pm_Nw.warm hW (List.mem_filter.mp hw).2 (h w hw)
/-- a constructor is called: its cells get the next handles -/
theorem gW.callI (X : pm_X p s m args c cc own Ts I) (hTs : ∀ w ∈ pm_tb, w ∈ Ts) (hml : c.maxLocals = nL) (hG : pm_nG s) (hA : ∀ q, s.heap.size ≤ q → A q) {pc ix h d' mc' ms' ci : Nat} {L : List (Option Value)} {st fs : List Value} {w ys : List pm_E} {y0 : pm_E} {M' : pm_M}
    (hN : pm_New l M' d' mc' ms' ci fs (y0 :: ys)) (hfr : ∀ ad, fs.map (pm_v ad) = fs) (hFx : ∀ ad ad1, Fx ad → Fx (adN ad ad1 w.length (ys.length + 1)))
    (hw : ∀ x ∈ [Cond.initialized M'.1.cls, Cond.instanceMethod M'.1, Cond.code M'.1 M'.2.1 M'.2.2.1 none], x ∈ pm_tb) (hlk : Cond.methodLink own ix M'.1 ∈ pm_tb ∨ ∃ host, Cond.methodLinkNest own ix M'.1 host ∈ pm_ng)
    (hy : M'.1.cls ≠ "java/lang/invoke/MethodHandle" ∧ M'.1.cls ≠ "java/lang/invoke/VarHandle" ∧ (parseMethodDescriptor M'.1.desc).map (fun d => d.parameters.length) = some 0)
    (hfrm : d' + 1 ≤ R.frames) (hloc : 8 + (M'.2.2.1 + 11) + 100 * d' ≤ R.locals) (hc : cells + mc' ≤ R.cells) (hs : slots + ms' ≤ R.slots)
    (kk : gW Fx p l e R s m args below meth c nL D A (cells + mc') (slots + ms') Q (pc + 3, L, st, w.set h (pm_rc (rhoN h w.length) y0) ++ ys.map (pm_rc (rhoN h w.length))))
    (hret : M'.2.2.2.1 = none := by rfl) (hnm : M'.1.name = "<init>" := by rfl) (hat : pm_nth w h = some (.inr (ci, fs)) := by rfl) (hd : pm_find I.1 pc = some (.invokespecial ix, 3) := by rfl) (hwl : w.all (cLt w.length) = true := by rfl) (hyl : (y0 :: ys).all (cLt (ys.length + 1)) = true := by rfl)
    (hLl : L.all (oLt w.length (w.length + ys.length)) = true := by rfl) (hsl : st.all (vLt w.length (w.length + ys.length)) = true := by rfl) (hrest : Nat.ble (st.map Value.category).sum 8 = true := by rfl) : gW Fx p l e R s m args below meth c nL D A cells slots Q (pc, L, .ref h :: st, w) := by
  intro ad tI hF H locs ls hP hD hS hL hK
  have hts := X.2.2.2.1
  rw [pm_nth_eq] at hat
  have hn : h < w.length := (List.getElem?_eq_some_iff.mp hat).1
  have hi := pm_D.inj hD
  have h0P : va_P D vwCl [(ad h, .inr (ci, fs))] H := by
    intro k x hx
    match k, hx with
    | 0, hx =>
      cases hx
      have := hP h _ (pm_w_get hat)
      show va_at D vwCl (ad h, .inr (ci, fs)) H
      have e : pm_c ad (tI h) (.inr (ci, fs)) = .inr (ci, fs) := by
        show Sum.inr (ci, fs.map (pm_v ad)) = _
        rw [hfr]
      rw [e] at this
      exact this
    | k + 1, hx => simp at hx
  have hblind : FrameBlind (nP D (ad h) H.size ci fs) := fun a U g mk q => by
    obtain ⟨q0, q1, qP, qK, qG⟩ := q
    exact ⟨q0, q1, qP, va_K.moved (u := U) (U := U.calling g mk a) (Vm.Alike.refl U.vm) qK, qG.moved (U := U.calling g mk a) (State.WarmedH.refl U)⟩
  have hpre : PreS s H (nP D (ad h) H.size ci fs) [.ref (ad h)] := ⟨hblind, fun U hU hW => ⟨rfl, by rw [hU], by rw [hU]; exact h0P, va_K.moved hW.alike hK.obj, hG.moved hW⟩⟩
  have hGd : GoodIn Ts (pm_ws M') := fun z hz => by
    rcases List.mem_cons.mp hz with hz | hz
    · rw [hz, hret]; exact lw_good hTs hw _ (by simp)
    · exact ⟨hTs _ hz, pm_tb_good hz⟩
  have hini := hts _ (hTs _ (hw _ (List.mem_cons_self)))
  have hins : (Cond.instanceMethod M'.1).before args s = true := hts _ (hTs _ (hw _ (by simp)))
  have hrun : va_Run p l e R s m args below meth c H locs cells slots mc' ms' (F0 m pc ls (List.map (pm_v ad) (.ref h :: st))) (st.map (pm_v ad)) (nQ D (ad h) H.size (y0 :: ys) (Value.ref (ad h) :: []).toArray) (fun q => q = ad h ∨ H.size ≤ q) := by
    rcases hlk with hlk | ⟨host, hlk⟩
    · exact va_runI (As := []) (⟨X.1, X.2.1, hml, X.2.2.1, hts⟩ : CallFix p m c cc nL s args Ts own) (hN D (ad h) H.size) (cwI 0 hts hGd (by rw [← hret]; rfl) rfl rfl hini (hts _ (hTs _ hlk)) hins hnm hy ⟨hfrm, hloc⟩) hpre rfl rfl hL.2.1 rfl (lv_room (by rw [pm_cats]; exact Nat.le_of_ble_eq_true hrest)) (X.dec hd) ⟨hc, hs⟩
    · exact va_runIN (As := []) (host := host) (⟨X.1, X.2.1, hml, X.2.2.1, hts⟩ : CallFix p m c cc nL s args Ts own) (hN D (ad h) H.size) ⟨va_cnB 0 hts hGd (by rw [← hret]; rfl) rfl rfl (hG _ hlk) hini hy ⟨hfrm, hloc⟩, hnm, hins⟩ hpre rfl rfl hL.2.1 rfl (lv_room (by rw [pm_cats]; exact Nat.le_of_ble_eq_true hrest)) (X.dec hd) ⟨hc, hs⟩
  intro T hT XT
  obtain ⟨v, st₀, t, T', L', h0, X', hL', e1, e2, ⟨hv, ad1, tI1, b0, b1, b2, b3, b4, b5⟩, hgo⟩ := hrun T hT XT
  cases hv
  have hvm : s.vm.Alike t.vm := by rw [← e2]; exact X'.warmed.alike
  obtain ⟨bz, bk⟩ := b5
  rw [h0] at bz bk
  generalize hln : ys.length + 1 = len at *
  have hlen : (y0 :: ys).length = len := by rw [← hln]; rfl
  rw [hlen] at b1 b2
  have f1 : ∀ k, k < w.length → adN ad ad1 w.length len k = ad k := fun k hk => if_pos hk
  have f2 : ∀ k, 1 ≤ k → k < len → adN ad ad1 w.length len (w.length + (k - 1)) = ad1 k := fun k h1 h2 => by
    unfold adN
    rw [if_neg (by omega), if_pos (by omega)]
    congr 1
    omega
  have f3 : ∀ k, k < len → adN ad ad1 w.length len (rhoN h w.length k) = ad1 k := fun k hk => by
    unfold rhoN
    by_cases hz : k = 0
    · rw [if_pos hz, f1 h hn, hz, b0]
    · rw [if_neg hz, f2 k (by omega) hk]
  have f4 : ∀ k, w.length + ys.length ≤ k → adN ad ad1 w.length len k = ad k := fun k hk => by
    unfold adN
    rw [if_neg (by omega), if_neg (by omega)]
  have hlt : ∀ k, k < w.length → ad k < H.size := fun k hk => (hP k _ (pm_w_get (List.getElem?_eq_getElem hk))).lt
  -- what stands at each handle
  have hwl' : (w.set h (pm_rc (rhoN h w.length) y0)).length = w.length := List.length_set
  have at1 : ∀ k, k < w.length → k ≠ h → (w.set h (pm_rc (rhoN h w.length) y0) ++ ys.map (pm_rc (rhoN h w.length)))[k]? = w[k]? := fun k hk hkh => by
    rw [List.getElem?_append_left (by rw [hwl']; exact hk), List.getElem?_set_ne (fun z => hkh z.symm)]
  have at2 : (w.set h (pm_rc (rhoN h w.length) y0) ++ ys.map (pm_rc (rhoN h w.length)))[h]? = some (pm_rc (rhoN h w.length) y0) := by
    rw [List.getElem?_append_left (by rw [hwl']; exact hn), List.getElem?_set_self hn]
  have at3 : ∀ k, w.length ≤ k → (w.set h (pm_rc (rhoN h w.length) y0) ++ ys.map (pm_rc (rhoN h w.length)))[k]? = ((y0 :: ys)[k - w.length + 1]?).map (pm_rc (rhoN h w.length)) := fun k hk => by
    rw [List.getElem?_append_right (by rw [hwl']; exact hk), hwl', List.getElem?_map, List.getElem?_cons_succ]
  have hyc : ∀ k x, (y0 :: ys)[k]? = some x → ∀ t', pm_c (adN ad ad1 w.length len) t' (pm_rc (rhoN h w.length) x) = pm_c ad1 t' x := fun k x hx t' => by
    rw [pm_c_comp]
    exact pm_c_lt (List.all_eq_true.mp hyl _ (List.mem_of_getElem? hx)) f3
  -- the classes of the rows
  obtain ⟨tI', ht1⟩ : ∃ tI' : Nat → ClassId, tI' = fun k => if k = h then tI1 0 else if k < w.length then tI k else tI1 (k - w.length + 1) := ⟨_, rfl⟩
  have g1 : tI' h = tI1 0 := by rw [ht1]; exact if_pos rfl
  have g2 : ∀ k, k < w.length → k ≠ h → tI' k = tI k := fun k hk hkh => by rw [ht1]; show (if k = h then _ else _) = _; rw [if_neg hkh, if_pos hk]
  have g3 : ∀ k, w.length ≤ k → tI' k = tI1 (k - w.length + 1) := fun k hk => by rw [ht1]; show (if k = h then _ else _) = _; rw [if_neg (by omega), if_neg (by omega)]
  have e4 : T'.heap = t.heap := e1
  have hK1 : pm_K D vwCl tI1 (y0 :: ys) s := b4.moved hvm.symm
  have nP' : va_P D vwCl (pm_w (adN ad ad1 w.length len) tI' (w.set h (pm_rc (rhoN h w.length) y0) ++ ys.map (pm_rc (rhoN h w.length)))) T'.heap := by
    intro k x hx
    rw [pm_w_at] at hx
    rcases Nat.lt_or_ge k w.length with hk | hk
    · by_cases hkh : k = h
      · rw [hkh, at2] at hx
        cases hx
        show va_at D vwCl (adN ad ad1 w.length len h, pm_c (adN ad ad1 w.length len) (tI' h) (pm_rc (rhoN h w.length) y0)) T'.heap
        rw [f1 h hn, g1, hyc 0 y0 rfl, ← b0, e4]
        exact b3 0 _ (pm_w_get rfl)
      · rw [at1 k hk hkh, List.getElem?_eq_getElem hk] at hx
        cases hx
        show va_at D vwCl (adN ad ad1 w.length len k, pm_c (adN ad ad1 w.length len) (tI' k) w[k]) T'.heap
        rw [f1 k hk, g2 k hk hkh, pm_c_lt (List.all_eq_true.mp hwl _ (List.getElem_mem hk)) f1]
        have := hP k _ (pm_w_get (List.getElem?_eq_getElem hk))
        refine this.kept ?_
        show T'.heap[ad k]? = H[ad k]?
        rw [e4]
        exact bk (ad k) (hlt k hk) (fun z => by
          rcases z with z | z
          · exact hkh (hi k h hk hn z)
          · have := hlt k hk; omega)
    · rw [at3 k hk] at hx
      cases hy : (y0 :: ys)[k - w.length + 1]? with
      | none => rw [hy] at hx; cases hx
      | some y =>
        rw [hy] at hx
        cases hx
        show va_at D vwCl (adN ad ad1 w.length len k, pm_c (adN ad ad1 w.length len) (tI' k) (pm_rc (rhoN h w.length) y)) T'.heap
        have hl2 := (List.getElem?_eq_some_iff.mp hy).1
        rw [hlen] at hl2
        have ek : adN ad ad1 w.length len k = ad1 (k - w.length + 1) := by
          have := f2 (k - w.length + 1) (by omega) hl2
          rw [← this]
          congr 1
          omega
        rw [ek, g3 k hk, hyc _ y hy, e4]
        exact b3 _ _ (pm_w_get hy)
  have hlw : (w.set h (pm_rc (rhoN h w.length) y0) ++ ys.map (pm_rc (rhoN h w.length))).length = w.length + ys.length := by rw [List.length_append, hwl', List.length_map]
  have e5 : ∀ k, w.length ≤ k → k < w.length + ys.length → adN ad ad1 w.length len k = ad1 (k - w.length + 1) ∧ H.size ≤ ad1 (k - w.length + 1) := fun k h1 h2 => by
    have := f2 (k - w.length + 1) (by omega) (by omega)
    refine ⟨?_, b1 _ (by omega) (by omega)⟩
    rw [← this]
    congr 1
    omega
  have nD : va_D A (pm_w (adN ad ad1 w.length len) tI' (w.set h (pm_rc (rhoN h w.length) y0) ++ ys.map (pm_rc (rhoN h w.length)))) := by
    refine pm_D (fun i j hi' hj' hij => ?_) (fun k hk => ?_)
    · rw [hlw] at hi' hj'
      rcases Nat.lt_or_ge i w.length with h1 | h1 <;> rcases Nat.lt_or_ge j w.length with h2 | h2
      · rw [f1 i h1, f1 j h2] at hij
        exact hi i j h1 h2 hij
      · rw [f1 i h1, (e5 j h2 hj').1] at hij
        have := (e5 j h2 hj').2
        have := hlt i h1
        omega
      · rw [f1 j h2, (e5 i h1 hi').1] at hij
        have := (e5 i h1 hi').2
        have := hlt j h2
        omega
      · rw [(e5 i h1 hi').1, (e5 j h2 hj').1] at hij
        have := b2 _ _ (by omega) (by omega) hij
        omega
    · rw [hlw] at hk
      rcases Nat.lt_or_ge k w.length with h1 | h1
      · rw [f1 k h1]
        exact hD.2 k _ (pm_w_get (List.getElem?_eq_getElem h1))
      · rw [(e5 k h1 hk).1]
        exact hA _ (Nat.le_trans hS.1 (e5 k h1 hk).2)
  have nS : va_S A s.heap T'.heap (locs ++ L') := by
    refine ⟨Nat.le_trans hS.1 (by rw [e4]; exact bz), fun q h1 h2 => ?_, fun q hq => ?_⟩
    · rw [e4, bk q (Nat.lt_of_lt_of_le h1 hS.1) (fun z => ?_)]
      · exact hS.2.1 q h1 h2
      · rcases z with z | z
        · exact h2 (by rw [z]; exact hD.2 h _ (pm_w_get hat))
        · have := hS.1; omega
    · rcases List.mem_append.mp hq with h1 | h1
      · exact hS.2.2 q h1
      · rcases hL' q h1 with z | z
        · rw [z]; exact hD.2 h _ (pm_w_get hat)
        · exact hA _ (Nat.le_trans hS.1 z)
  have nL' : pm_L (adN ad ad1 w.length len) nL ls L := ⟨hL.1, hL.2.1, hL.2.2.1, fun i v hv => by
    have := List.all_eq_true.mp hLl (some v) (List.mem_of_getElem? hv)
    rw [pm_v_lt this f1 f4]
    exact hL.2.2.2 i v hv⟩
  have nK : pm_K D vwCl tI' (w.set h (pm_rc (rhoN h w.length) y0) ++ ys.map (pm_rc (rhoN h w.length))) s := by
    refine ⟨hK.1, fun k a hk => ?_⟩
    rcases Nat.lt_or_ge k w.length with h1 | h1
    · by_cases hkh : k = h
      · rw [hkh, at2] at hk
        rw [hkh, g1]
        cases y0 with
        | inl b9 => cases hk; exact hK1.2 0 _ rfl
        | inr o => cases hk
      · rw [at1 k h1 hkh] at hk
        rw [g2 k h1 hkh]
        exact hK.2 k a hk
    · rw [at3 k h1] at hk
      rw [g3 k h1]
      cases hy : (y0 :: ys)[k - w.length + 1]? with
      | none => rw [hy] at hk; cases hk
      | some y =>
        rw [hy] at hk
        cases y with
        | inl b9 => cases hk; exact hK1.2 _ _ hy
        | inr o => cases hk
  obtain ⟨t2, c1, c2⟩ := kk (adN ad ad1 w.length len) tI' (hFx ad ad1 hF) T'.heap (locs ++ L') ls nP' nD nS nL' nK T' rfl X'
  refine ⟨t2, hgo t2 ?_, c2⟩
  have e6 : List.map (pm_v (adN ad ad1 w.length len)) st = List.map (pm_v ad) st := List.map_congr_left (fun v hv => pm_v_lt (List.all_eq_true.mp hsl v hv) f1 f4)
  dsimp only at c1
  rw [e6] at c1
  exact c1
end GRW
