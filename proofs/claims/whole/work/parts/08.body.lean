section PMF
variable {l : Launch} {I : pm_I} {M : pm_M} {d mc ms n : Nat} {O : pm_O → List pm_E → Prop}
def pm_ent : Nat → List Value → List (Option Value)
  | n, [] => List.replicate n none
  | n, v :: vs => match Nat.beq v.category 2 with
    | true => some v :: none :: pm_ent (n - 2) vs
    | false => some v :: pm_ent (n - 1) vs
theorem pm_ent_len : ∀ (vs : List Value) (n : Nat), (vs.map Value.category).sum ≤ n → (pm_ent n vs).length = n
  | [], n, _ => by simp [pm_ent]
  | v :: vs, n, h => by
    simp only [List.map_cons, List.sum_cons] at h
    unfold pm_ent
    split
    · rename_i hc
      have hc := Nat.eq_of_beq_eq_true hc
      rw [List.length_cons, List.length_cons, pm_ent_len vs (n - 2) (by omega)]
      omega
    · rename_i hc
      have h1 : v.category = 1 := by
        rcases lv_cat v with h | h
        · exact h
        · rw [h] at hc; cases hc
      rw [List.length_cons, pm_ent_len vs (n - 1) (by omega)]
      omega
theorem pm_ent_get (ad : Nat → Nat) : ∀ (vs : List Value) (n i off : Nat) (v : Value), (pm_ent n vs)[i]? = some (some v) → (off + i, pm_v ad v) ∈ lv_args off (vs.map (pm_v ad))
  | [], n, i, off, v, h => by
    simp only [pm_ent, List.getElem?_replicate] at h
    split at h <;> simp at h
  | u :: vs, n, i, off, v, h => by
    unfold pm_ent at h
    show (off + i, pm_v ad v) ∈ (off, pm_v ad u) :: lv_args (if (pm_v ad u).category = 2 then off + 2 else off + 1) (vs.map (pm_v ad))
    rw [pm_cat]
    split at h
    · rename_i hc
      rw [if_pos (Nat.eq_of_beq_eq_true hc)]
      match i with
      | 0 => simp at h; subst h; exact List.mem_cons_self
      | 1 => simp at h
      | i + 2 =>
        refine List.mem_cons_of_mem _ ?_
        have := pm_ent_get ad vs (n - 2) i (off + 2) v (by simpa using h)
        rwa [show off + 2 + i = off + (i + 2) by omega] at this
    · rename_i hc
      rw [if_neg (fun z => by rw [z] at hc; cases hc)]
      match i with
      | 0 => simp at h; subst h; exact List.mem_cons_self
      | i + 1 =>
        refine List.mem_cons_of_mem _ ?_
        have := pm_ent_get ad vs (n - 1) i (off + 1) v (by simpa using h)
        rwa [show off + 1 + i = off + (i + 1) by omega] at this
theorem pm_sl_len (ad : Nat → Nat) : ∀ (vs : List Value), (lg_sl (vs.map (pm_v ad))).length = (vs.map Value.category).sum
  | [] => rfl
  | v :: vs => by
    have ih := pm_sl_len ad vs
    unfold lg_sl at ih ⊢
    simp only [List.map_cons, List.flatMap_cons, List.length_append, List.sum_cons, ih, pm_cat]
    rcases lv_cat v with h | h <;> simp [h]
/-- the tables' part of what a body needs, by program -/
def pm_Ib (M : pm_M) (I : pm_I) : Bool :=
  I.1.all (fun x => decide (decode M.2.1 x.1 = .ok x.2)) &&
  (I.2.1.all (fun x => match pm_nth vwCl x.2.2.1 with
    | some q => Nat.blt x.2.2.2 q.2.2 && (match x.2.1 with
      | false => decide (Cond.fieldLink M.2.2.2.2 x.1 (q.2.1 x.2.2.2).1 (q.2.1 x.2.2.2).2.1 (q.2.1 x.2.2.2).2.2.1 ∈ pm_tb)
      | true => decide (Cond.fieldLinkNest M.2.2.2.2 x.1 (q.2.1 x.2.2.2).1 (q.2.1 x.2.2.2).2.1 (q.2.1 x.2.2.2).2.2.1 "ShortTrees" ∈ pm_ng))
    | none => false) &&
  (I.2.2.all (fun x => match x.2 with
    | .int v => decide (Cond.constant M.2.2.2.2 x.1 v ∈ pm_tb)
    | .float v => decide (Cond.constantFloat M.2.2.2.2 x.1 v ∈ pm_tb)
    | .long v => decide (Cond.constantLong M.2.2.2.2 x.1 v ∈ pm_tb)
    | _ => false)))
theorem pm_lay0 : ∀ w ∈ u_ws RX0 TX0 3, w ∈ pm_tb := by decide +kernel
theorem pm_lay1 : ∀ w ∈ u_ws RX1 TX1 4, w ∈ pm_tb := by decide +kernel
theorem pm_lay2 : ∀ w ∈ u_ws RX2 TX2 4, w ∈ pm_tb := by decide +kernel
theorem pm_lay3 : ∀ w ∈ u_ws RX3 TX3 3, w ∈ pm_tb := by decide +kernel
theorem pm_lay4 : ∀ w ∈ u_ws RX4 TX4 7, w ∈ pm_tb := by decide +kernel
theorem pm_lay5 : ∀ w ∈ u_ws RX5 TX5 7, w ∈ pm_tb := by decide +kernel
theorem pm_lay6 : ∀ w ∈ u_ws RX6 TX6 27, w ∈ pm_tb := by decide +kernel
theorem pm_lay : ∀ (ci : Nat) (q : vw_C), vwCl[ci]? = some q → ∀ w ∈ u_ws q.1 q.2.1 q.2.2, w ∈ pm_tb
  | 0, q, h => by cases h; exact pm_lay0
  | 1, q, h => by cases h; exact pm_lay1
  | 2, q, h => by cases h; exact pm_lay2
  | 3, q, h => by cases h; exact pm_lay3
  | 4, q, h => by cases h; exact pm_lay4
  | 5, q, h => by cases h; exact pm_lay5
  | 6, q, h => by cases h; exact pm_lay6
  | n + 7, q, h => by simp [vwCl] at h
theorem pm_Ib_X (h : pm_Ib M I = true) {p : Program} {s : State} {m : MethodId} {args : Array Value} {c : Code} {A : Nat → Prop} {H : Heap} (hx : p.tables.exec = Jvm.exec) (hb : c.code = M.2.1) (hown : s.vm.findClass M.2.2.2.2 = some m.cls) (hts : ∀ w ∈ pm_ws M, w.before args s = true) (hG : pm_G A s H) :
    pm_X p s m args c M.2.1 M.2.2.2.2 (pm_ws M) I := by
  unfold pm_Ib at h
  simp only [Bool.and_eq_true, List.all_eq_true] at h
  obtain ⟨h1, h2, h3⟩ := h
  refine ⟨hx, hb, hown, hts, fun ci q hq w hw => pm_ws_mem (pm_lay ci q hq w hw), fun x hx' => of_decide_eq_true (h1 x hx'), fun x hx' => ?_, fun x hx' => ?_⟩
  · have h4 := h2 x hx'
    rw [pm_nth_eq] at h4
    split at h4
    · rename_i q hq
      simp only [Bool.and_eq_true] at h4
      refine ⟨q, hq, Nat.blt_eq.mp h4.1, ?_⟩
      have h5 := h4.2
      split at h5
      · exact Or.inl (hts _ (pm_ws_mem (of_decide_eq_true h5)))
      · exact Or.inr ⟨_, va_Nw.use rfl (hG.1 _ (of_decide_eq_true h5))⟩
    · cases h4
  · have h4 := h3 x hx'
    unfold pm_cok
    split at h4
    · rename_i hv; first | (rw [hv]; exact hts _ (pm_ws_mem (of_decide_eq_true h4))) | exact hts _ (pm_ws_mem (of_decide_eq_true h4))
    · rename_i hv; first | (rw [hv]; exact hts _ (pm_ws_mem (of_decide_eq_true h4))) | exact hts _ (pm_ws_mem (of_decide_eq_true h4))
    · rename_i hv; first | (rw [hv]; exact hts _ (pm_ws_mem (of_decide_eq_true h4))) | exact hts _ (pm_ws_mem (of_decide_eq_true h4))
    · cases h4
/-- a contract out of its body -/
theorem pm_Met.of {As : List Value} {w : List pm_E} (hI : pm_Ib M I = true) (hy : plainName M.1.cls = true) (ho : M.1.cls = M.2.2.2.2) (hst : l.stackTraces = false) (hA : (As.map Value.category).sum ≤ M.2.2.1) (hj : pm_J l M I d mc ms w.length O 0 0 (0, pm_ent M.2.2.1 As, [], w)) : pm_Met l M d mc ms As w O := by
  intro D ad tI sz
  refine vx_ofW (cc := M.2.1) (maxL := M.2.2.1) (ret := M.2.2.2.1) hy rfl ?_
  intro p e s m args below meth c s₁ B hml ht hv
  obtain ⟨rfl, rfl, hP, hK, hinj, hG⟩ := hv
  have hts := atoms_spec (ws := pm_ws M) B.pre
  have hown : s.vm.findClass M.2.2.2.2 = some m.cls := by rw [← ho]; exact findClass_of_methodNamed B.named
  have X := pm_Ib_X hI B.exec B.bytes hown hts hG
  have hl := lv_entry (As.map (pm_v ad)) (n := M.2.2.1) (by rw [pm_sl_len]; exact hA)
  rw [lg_entry_eq]
  exact hj p e s m _ below meth c D ad tI ⟨X, hml, B.returns, B.notSynchronized, ht, hG, hst⟩ s.heap [] _ hP (pm_D hinj (fun k hk => Or.inl ⟨k, hk, rfl⟩)) va_S.rf
    ⟨pm_ent_len _ _ hA, hl.1, hl.2.1, fun i v hv => hl.2.2 (i, pm_v ad v) (by have := pm_ent_get ad As M.2.2.1 i 0 v hv; rwa [Nat.zero_add] at this)⟩ hK
end PMF
