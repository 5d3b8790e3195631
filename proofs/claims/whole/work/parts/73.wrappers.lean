section LWE
variable {l : Launch}
abbrev loA (f : Nat → Int64) : pm_E := .inl (.long, 1, .inr (.inl f))
abbrev dbA (g : Nat → UInt64) : pm_E := .inl (.double, 1, .inr (.inr (.inr (.inl g))))
abbrev q29 : List Nat := [0, 1, 2, 3, 4, 5, 6, 7, 8, 9, 10, 11, 12, 13, 14, 15, 16, 17, 18, 19, 20, 21, 22, 23, 24, 25, 26, 27, 28]
theorem pm_bk_all (f : Nat → Nat) : ∀ (w1 pre w suf : List pm_E), w.length = w1.length → pm_bk f (pre ++ (w ++ suf)) (List.range' pre.length w1.length) w1 = pre ++ (w1.map (pm_rc f) ++ suf)
  | [], pre, w, suf, h => by
    have : w = [] := List.length_eq_zero_iff.mp h
    subst this
    rfl
  | c :: cs, pre, w, suf, h => by
    cases w with
    | nil => cases h
    | cons b w =>
      rw [List.length_cons, List.range'_succ, pm_bk]
      have e : (pre ++ (b :: w ++ suf)).set pre.length (pm_rc f c) = (pre ++ [pm_rc f c]) ++ (w ++ suf) := by
        rw [List.set_append_right _ _ (Nat.le_refl _), Nat.sub_self, List.cons_append, List.set_cons_zero, List.append_assoc]
        rfl
      rw [e]
      have := pm_bk_all f cs (pre ++ [pm_rc f c]) w suf (by simpa using h)
      rw [List.length_append, List.length_singleton] at this
      rw [this, List.append_assoc]
      rfl
theorem rc29 (a1 : txP) (a2 a3 : trP) (a4 : fnP) (a5 : pgP) (a6 a7 : tbP) : (stN a1 a2 a3 a4 a5 a6 a7).map (pm_rc (pm_rn q29)) = stN a1 a2 a3 a4 a5 a6 a7 := rfl
theorem bk29 (x : List pm_E) (tx : txP) (g1 g2 : trP) (fn : fnP) (pg : pgP) (t1 t2 : tbP) (a1 : txP) (a2 a3 : trP) (a4 : fnP) (a5 : pgP) (a6 a7 : tbP) : pm_bk (pm_rn q29) (stN tx g1 g2 fn pg t1 t2 ++ x) q29 (stN a1 a2 a3 a4 a5 a6 a7) = stN a1 a2 a3 a4 a5 a6 a7 ++ x := by
  have := pm_bk_all (pm_rn q29) (stN a1 a2 a3 a4 a5 a6 a7) [] (stN tx g1 g2 fn pg t1 t2) x rfl
  rw [rc29] at this
  exact this
def isN (w : List pm_E) : Prop := ∃ tx g1 g2 fn pg t1 t2, w = stN tx g1 g2 fn pg t1 t2
/-- what a wrapper answers, out of what the method does -/
def wrL (O' : pm_O → List pm_E → Prop) (f : Nat → Int64) (kE : String → Int32) : pm_O → List pm_E → Prop := fun o w' =>
  (∃ x w1, O' (.inl (some (.int x))) w1 ∧ o = .inl (some (.int (nI 0))) ∧ w' = w1 ++ [loA (vp_updL f 0 x.toInt64)]) ∨ (∃ E w1, O' (.inr E) w1 ∧ o = .inl (some (.int (kE E))) ∧ w' = w1 ++ [loA f])
def wrZ (O' : pm_O → List pm_E → Prop) (f : Nat → Int64) (kE : String → Int32) : pm_O → List pm_E → Prop := fun o w' =>
  (∃ x w1, O' (.inl (some (.int x))) w1 ∧ o = .inl (some (.int (nI 0))) ∧ w' = w1 ++ [loA (vp_updL f 0 (if x = 0 then lN 0 else lN 1))]) ∨ (∃ E w1, O' (.inr E) w1 ∧ o = .inl (some (.int (kE E))) ∧ w' = w1 ++ [loA f])
def wrD (O' : pm_O → List pm_E → Prop) (g : Nat → UInt64) (kE : String → Int32) : pm_O → List pm_E → Prop := fun o w' =>
  (∃ x w1, O' (.inl (some (.float x))) w1 ∧ o = .inl (some (.int (nI 0))) ∧ w' = w1 ++ [dbA (vf_upd g 0 (FP.f2d x))]) ∨ (∃ E w1, O' (.inr E) w1 ∧ o = .inl (some (.int (kE E))) ∧ w' = w1 ++ [dbA g])
theorem cL_13 : Cond.classLink RL 13 eS ∈ pm_tb := by decide +kernel
theorem cL_19 : Cond.classLink RL 19 eI ∈ pm_tb := by decide +kernel
theorem cL_24 : Cond.classLink RL 24 eA ∈ pm_tb := by decide +kernel
theorem cS_13 : Cond.castable eS eS ∈ pm_ng := by decide +kernel
theorem cS_19 : Cond.castable eI eI ∈ pm_ng := by decide +kernel
theorem cS_24 : Cond.castable eA eA ∈ pm_ng := by decide +kernel
theorem nc_13 : (eA, eS) ∈ pm_ncs := by decide
theorem nc_19 : (eA, eI) ∈ pm_ncs := by decide
theorem hH_type1 : hc_H mL_type [(0, 9, 12, 13)] iL_type 4 eS 1 := ⟨[], ⟨0, 9, 12, 13⟩, [], eS, 3, 1, .astore_n 3, 1, rfl, (fun z hz => by cases hz), by decide, by decide, cL_13, cS_13, rfl, rfl, by decide, rfl, by decide, rfl⟩
theorem l_type {O' : pm_O → List pm_E → Prop} (hs : l.stackTraces = false) (tx : txP) (g1 g2 : trP) (fn : fnP) (pg : pgP) (t1 t2 : tbP) (f : Nat → Int64) (v : Nat) (hM : pm_Met l mX5_type 6 1 6 [.ref 0, .int (nI v)] (stN tx g1 g2 fn pg t1 t2) O') (hN : ∀ o w1, O' o w1 → isN w1) (hv : ∀ v w1, O' (.inl v) w1 → ∃ x, v = some (.int x)) (hx : ∀ E w1, O' (.inr E) w1 → E = eS) :
    pm_MetH l mL_type [(0, 9, 12, 13)] 7 1 6 [.ref 0, .int (nI v), .ref 29] (stN tx g1 g2 fn pg t1 t2 ++ [loA f]) (wrL O' f (fun _ => 1)) := by
  generalize hO : wrL O' f (fun _ => 1) = O
  refine pm_MetH.mk kL_type hs (hJ.run [] 20 (fun K hK => hK _ ?_))
  refine hJ.call q29 hM gRL_7 vX5_type (fun E w1 h hl => ?_) (fun v w1 h hl => ?_)
  · obtain ⟨a1, a2, a3, a4, a5, a6, a7, rfl⟩ := hN _ _ h
    cases hx _ _ h
    refine ⟨1, hH_type1, ?_⟩
    rw [bk29, ← hO]
    exact Or.inr ⟨_, stN a1 a2 a3 a4 a5 a6 a7, h, rfl, rfl⟩
  · obtain ⟨a1, a2, a3, a4, a5, a6, a7, rfl⟩ := hN _ _ h
    rw [bk29]
    obtain ⟨x0, rfl⟩ := hv _ _ h
    refine hJ.run [] 20 (fun K hK => And.intro (vp_in_nI (by decide) (by decide)) (hK _ ?_))
    refine hJ.ri ?_
    rw [← hO]
    exact Or.inl ⟨x0, stN a1 a2 a3 a4 a5 a6 a7, h, rfl, rfl⟩
theorem hH_states1 : hc_H mL_states [(0, 10, 13, 19)] iL_states 5 eI 1 := ⟨[], ⟨0, 10, 13, 19⟩, [], eI, 4, 2, .astore 4, 1, rfl, (fun z hz => by cases hz), by decide, by decide, cL_19, cS_19, rfl, rfl, by decide, rfl, by decide, rfl⟩
theorem l_states {O' : pm_O → List pm_E → Prop} (hs : l.stackTraces = false) (tx : txP) (g1 g2 : trP) (fn : fnP) (pg : pgP) (t1 t2 : tbP) (f : Nat → Int64) (x y : Int32) (hM : pm_Met l mX5_states 6 1 6 [.ref 0, .int x, .int y] (stN tx g1 g2 fn pg t1 t2) O') (hN : ∀ o w1, O' o w1 → isN w1) (hv : ∀ v w1, O' (.inl v) w1 → ∃ x, v = some (.int x)) (hx : ∀ E w1, O' (.inr E) w1 → E = eI) :
    pm_MetH l mL_states [(0, 10, 13, 19)] 7 1 6 [.ref 0, .int x, .int y, .ref 29] (stN tx g1 g2 fn pg t1 t2 ++ [loA f]) (wrL O' f (fun _ => 1)) := by
  generalize hO : wrL O' f (fun _ => 1) = O
  refine pm_MetH.mk kL_states hs (hJ.run [] 20 (fun K hK => hK _ ?_))
  refine hJ.call q29 hM gRL_15 vX5_states (fun E w1 h hl => ?_) (fun v w1 h hl => ?_)
  · obtain ⟨a1, a2, a3, a4, a5, a6, a7, rfl⟩ := hN _ _ h
    cases hx _ _ h
    refine ⟨1, hH_states1, ?_⟩
    rw [bk29, ← hO]
    exact Or.inr ⟨_, stN a1 a2 a3 a4 a5 a6 a7, h, rfl, rfl⟩
  · obtain ⟨a1, a2, a3, a4, a5, a6, a7, rfl⟩ := hN _ _ h
    rw [bk29]
    obtain ⟨x0, rfl⟩ := hv _ _ h
    refine hJ.run [] 20 (fun K hK => And.intro (vp_in_nI (by decide) (by decide)) (hK _ ?_))
    refine hJ.ri ?_
    rw [← hO]
    exact Or.inl ⟨x0, stN a1 a2 a3 a4 a5 a6 a7, h, rfl, rfl⟩
theorem hH_weigh1 : hc_H mL_weigh [(0, 10, 13, 19), (0, 10, 17, 24)] iL_weigh 5 eI 1 := ⟨[], ⟨0, 10, 13, 19⟩, [⟨0, 10, 17, 24⟩], eI, 4, 2, .astore 4, 1, rfl, (fun z hz => by cases hz), by decide, by decide, cL_19, cS_19, rfl, rfl, by decide, rfl, by decide, rfl⟩
theorem hH_weigh2 : hc_H mL_weigh [(0, 10, 13, 19), (0, 10, 17, 24)] iL_weigh 5 eA 2 := ⟨[⟨0, 10, 13, 19⟩], ⟨0, 10, 17, 24⟩, [], eA, 4, 2, .astore 4, 2, rfl, (fun z hz => by cases List.mem_singleton.mp hz; exact ⟨by decide, by decide, eI, cL_19, nc_19⟩), by decide, by decide, cL_24, cS_24, rfl, rfl, by decide, rfl, by decide, rfl⟩
theorem l_weigh {O' : pm_O → List pm_E → Prop} (hs : l.stackTraces = false) (tx : txP) (g1 g2 : trP) (fn : fnP) (pg : pgP) (t1 t2 : tbP) (f : Nat → Int64) (x y : Int32) (hM : pm_Met l mX5_weigh 7 2 12 [.ref 0, .int x, .int y] (stN tx g1 g2 fn pg t1 t2) O') (hN : ∀ o w1, O' o w1 → isN w1) (hv : ∀ v w1, O' (.inl v) w1 → ∃ x, v = some (.int x)) (hx : ∀ E w1, O' (.inr E) w1 → E = eI ∨ E = eA) :
    pm_MetH l mL_weigh [(0, 10, 13, 19), (0, 10, 17, 24)] 8 2 12 [.ref 0, .int x, .int y, .ref 29] (stN tx g1 g2 fn pg t1 t2 ++ [loA f]) (wrL O' f (fun E => if E = eA then 2 else 1)) := by
  generalize hO : wrL O' f (fun E => if E = eA then 2 else 1) = O
  refine pm_MetH.mk kL_weigh hs (hJ.run [] 20 (fun K hK => hK _ ?_))
  refine hJ.call q29 hM gRL_21 vX5_weigh (fun E w1 h hl => ?_) (fun v w1 h hl => ?_)
  · obtain ⟨a1, a2, a3, a4, a5, a6, a7, rfl⟩ := hN _ _ h
    rcases hx _ _ h with e | e
    · subst e
      refine ⟨1, hH_weigh1, ?_⟩
      rw [bk29, ← hO]
      exact Or.inr ⟨_, stN a1 a2 a3 a4 a5 a6 a7, h, rfl, rfl⟩
    · subst e
      refine ⟨2, hH_weigh2, ?_⟩
      rw [bk29, ← hO]
      exact Or.inr ⟨_, stN a1 a2 a3 a4 a5 a6 a7, h, rfl, rfl⟩
  · obtain ⟨a1, a2, a3, a4, a5, a6, a7, rfl⟩ := hN _ _ h
    rw [bk29]
    obtain ⟨x0, rfl⟩ := hv _ _ h
    refine hJ.run [] 20 (fun K hK => And.intro (vp_in_nI (by decide) (by decide)) (hK _ ?_))
    refine hJ.ri ?_
    rw [← hO]
    exact Or.inl ⟨x0, stN a1 a2 a3 a4 a5 a6 a7, h, rfl, rfl⟩
theorem hH_changes1 : hc_H mL_changes [(0, 10, 13, 19)] iL_changes 5 eI 1 := ⟨[], ⟨0, 10, 13, 19⟩, [], eI, 4, 2, .astore 4, 1, rfl, (fun z hz => by cases hz), by decide, by decide, cL_19, cS_19, rfl, rfl, by decide, rfl, by decide, rfl⟩
theorem l_changes {O' : pm_O → List pm_E → Prop} (hs : l.stackTraces = false) (tx : txP) (g1 g2 : trP) (fn : fnP) (pg : pgP) (t1 t2 : tbP) (f : Nat → Int64) (x y : Int32) (hM : pm_Met l mX5_changes 7 2 12 [.ref 0, .int x, .int y] (stN tx g1 g2 fn pg t1 t2) O') (hN : ∀ o w1, O' o w1 → isN w1) (hv : ∀ v w1, O' (.inl v) w1 → ∃ x, v = some (.int x)) (hx : ∀ E w1, O' (.inr E) w1 → E = eI) :
    pm_MetH l mL_changes [(0, 10, 13, 19)] 8 2 12 [.ref 0, .int x, .int y, .ref 29] (stN tx g1 g2 fn pg t1 t2 ++ [loA f]) (wrL O' f (fun _ => 1)) := by
  generalize hO : wrL O' f (fun _ => 1) = O
  refine pm_MetH.mk kL_changes hs (hJ.run [] 20 (fun K hK => hK _ ?_))
  refine hJ.call q29 hM gRL_26 vX5_changes (fun E w1 h hl => ?_) (fun v w1 h hl => ?_)
  · obtain ⟨a1, a2, a3, a4, a5, a6, a7, rfl⟩ := hN _ _ h
    cases hx _ _ h
    refine ⟨1, hH_changes1, ?_⟩
    rw [bk29, ← hO]
    exact Or.inr ⟨_, stN a1 a2 a3 a4 a5 a6 a7, h, rfl, rfl⟩
  · obtain ⟨a1, a2, a3, a4, a5, a6, a7, rfl⟩ := hN _ _ h
    rw [bk29]
    obtain ⟨x0, rfl⟩ := hv _ _ h
    refine hJ.run [] 20 (fun K hK => And.intro (vp_in_nI (by decide) (by decide)) (hK _ ?_))
    refine hJ.ri ?_
    rw [← hO]
    exact Or.inl ⟨x0, stN a1 a2 a3 a4 a5 a6 a7, h, rfl, rfl⟩
theorem hH_length1 : hc_H mL_length [(0, 9, 12, 19)] iL_length 4 eI 1 := ⟨[], ⟨0, 9, 12, 19⟩, [], eI, 3, 1, .astore_n 3, 1, rfl, (fun z hz => by cases hz), by decide, by decide, cL_19, cS_19, rfl, rfl, by decide, rfl, by decide, rfl⟩
theorem l_length {O' : pm_O → List pm_E → Prop} (hs : l.stackTraces = false) (tx : txP) (g1 g2 : trP) (fn : fnP) (pg : pgP) (t1 t2 : tbP) (f : Nat → Int64) (x : Int32) (hM : pm_Met l mX5_length 7 1 6 [.ref 0, .int x] (stN tx g1 g2 fn pg t1 t2) O') (hN : ∀ o w1, O' o w1 → isN w1) (hv : ∀ v w1, O' (.inl v) w1 → ∃ x, v = some (.int x)) (hx : ∀ E w1, O' (.inr E) w1 → E = eI) :
    pm_MetH l mL_length [(0, 9, 12, 19)] 8 1 6 [.ref 0, .int x, .ref 29] (stN tx g1 g2 fn pg t1 t2 ++ [loA f]) (wrL O' f (fun _ => 1)) := by
  generalize hO : wrL O' f (fun _ => 1) = O
  refine pm_MetH.mk kL_length hs (hJ.run [] 20 (fun K hK => hK _ ?_))
  refine hJ.call q29 hM gRL_29 vX5_length (fun E w1 h hl => ?_) (fun v w1 h hl => ?_)
  · obtain ⟨a1, a2, a3, a4, a5, a6, a7, rfl⟩ := hN _ _ h
    cases hx _ _ h
    refine ⟨1, hH_length1, ?_⟩
    rw [bk29, ← hO]
    exact Or.inr ⟨_, stN a1 a2 a3 a4 a5 a6 a7, h, rfl, rfl⟩
  · obtain ⟨a1, a2, a3, a4, a5, a6, a7, rfl⟩ := hN _ _ h
    rw [bk29]
    obtain ⟨x0, rfl⟩ := hv _ _ h
    refine hJ.run [] 20 (fun K hK => And.intro (vp_in_nI (by decide) (by decide)) (hK _ ?_))
    refine hJ.ri ?_
    rw [← hO]
    exact Or.inl ⟨x0, stN a1 a2 a3 a4 a5 a6 a7, h, rfl, rfl⟩
theorem hH_search1 : hc_H mL_search [(0, 8, 11, 13)] iL_search 3 eS 1 := ⟨[], ⟨0, 8, 11, 13⟩, [], eS, 2, 1, .astore_n 2, 1, rfl, (fun z hz => by cases hz), by decide, by decide, cL_13, cS_13, rfl, rfl, by decide, rfl, by decide, rfl⟩
theorem l_search {O' : pm_O → List pm_E → Prop} (hs : l.stackTraces = false) (tx : txP) (g1 g2 : trP) (fn : fnP) (pg : pgP) (t1 t2 : tbP) (f : Nat → Int64)  (hM : pm_Met l mX5_search 7 1 6 [.ref 0] (stN tx g1 g2 fn pg t1 t2) O') (hN : ∀ o w1, O' o w1 → isN w1) (hv : ∀ v w1, O' (.inl v) w1 → ∃ x, v = some (.int x)) (hx : ∀ E w1, O' (.inr E) w1 → E = eS) :
    pm_MetH l mL_search [(0, 8, 11, 13)] 8 1 6 [.ref 0, .ref 29] (stN tx g1 g2 fn pg t1 t2 ++ [loA f]) (wrL O' f (fun _ => 1)) := by
  generalize hO : wrL O' f (fun _ => 1) = O
  refine pm_MetH.mk kL_search hs (hJ.run [] 20 (fun K hK => hK _ ?_))
  refine hJ.call q29 hM gRL_33 vX5_search (fun E w1 h hl => ?_) (fun v w1 h hl => ?_)
  · obtain ⟨a1, a2, a3, a4, a5, a6, a7, rfl⟩ := hN _ _ h
    cases hx _ _ h
    refine ⟨1, hH_search1, ?_⟩
    rw [bk29, ← hO]
    exact Or.inr ⟨_, stN a1 a2 a3 a4 a5 a6 a7, h, rfl, rfl⟩
  · obtain ⟨a1, a2, a3, a4, a5, a6, a7, rfl⟩ := hN _ _ h
    rw [bk29]
    obtain ⟨x0, rfl⟩ := hv _ _ h
    refine hJ.run [] 20 (fun K hK => And.intro (vp_in_nI (by decide) (by decide)) (hK _ ?_))
    refine hJ.ri ?_
    rw [← hO]
    exact Or.inl ⟨x0, stN a1 a2 a3 a4 a5 a6 a7, h, rfl, rfl⟩
theorem hH_best1 : hc_H mL_best [(0, 9, 12, 19)] iL_best 4 eI 1 := ⟨[], ⟨0, 9, 12, 19⟩, [], eI, 3, 1, .astore_n 3, 1, rfl, (fun z hz => by cases hz), by decide, by decide, cL_19, cS_19, rfl, rfl, by decide, rfl, by decide, rfl⟩
theorem l_best {O' : pm_O → List pm_E → Prop} (hs : l.stackTraces = false) (tx : txP) (g1 g2 : trP) (fn : fnP) (pg : pgP) (t1 t2 : tbP) (f : Nat → Int64) (x : Int32) (hM : pm_Met l mX5_best 6 1 6 [.ref 0, .int x] (stN tx g1 g2 fn pg t1 t2) O') (hN : ∀ o w1, O' o w1 → isN w1) (hv : ∀ v w1, O' (.inl v) w1 → ∃ x, v = some (.int x)) (hx : ∀ E w1, O' (.inr E) w1 → E = eI) :
    pm_MetH l mL_best [(0, 9, 12, 19)] 7 1 6 [.ref 0, .int x, .ref 29] (stN tx g1 g2 fn pg t1 t2 ++ [loA f]) (wrL O' f (fun _ => 1)) := by
  generalize hO : wrL O' f (fun _ => 1) = O
  refine pm_MetH.mk kL_best hs (hJ.run [] 20 (fun K hK => hK _ ?_))
  refine hJ.call q29 hM gRL_37 vX5_best (fun E w1 h hl => ?_) (fun v w1 h hl => ?_)
  · obtain ⟨a1, a2, a3, a4, a5, a6, a7, rfl⟩ := hN _ _ h
    cases hx _ _ h
    refine ⟨1, hH_best1, ?_⟩
    rw [bk29, ← hO]
    exact Or.inr ⟨_, stN a1 a2 a3 a4 a5 a6 a7, h, rfl, rfl⟩
  · obtain ⟨a1, a2, a3, a4, a5, a6, a7, rfl⟩ := hN _ _ h
    rw [bk29]
    obtain ⟨x0, rfl⟩ := hv _ _ h
    refine hJ.run [] 20 (fun K hK => And.intro (vp_in_nI (by decide) (by decide)) (hK _ ?_))
    refine hJ.ri ?_
    rw [← hO]
    exact Or.inl ⟨x0, stN a1 a2 a3 a4 a5 a6 a7, h, rfl, rfl⟩
theorem hH_split1 : hc_H mL_split [(0, 17, 20, 19)] iL_split 5 eI 1 := ⟨[], ⟨0, 17, 20, 19⟩, [], eI, 4, 2, .astore 4, 1, rfl, (fun z hz => by cases hz), by decide, by decide, cL_19, cS_19, rfl, rfl, by decide, rfl, by decide, rfl⟩
theorem l_split {O' : pm_O → List pm_E → Prop} (hs : l.stackTraces = false) (tx : txP) (g1 g2 : trP) (fn : fnP) (pg : pgP) (t1 t2 : tbP) (f : Nat → Int64) (x y : Int32) (hM : pm_Met l mX5_split 7 1 6 [.ref 0, .int x, .int y] (stN tx g1 g2 fn pg t1 t2) O') (hN : ∀ o w1, O' o w1 → isN w1) (hv : ∀ v w1, O' (.inl v) w1 → ∃ x, v = some (.int x)) (hx : ∀ E w1, O' (.inr E) w1 → E = eI) :
    pm_MetH l mL_split [(0, 17, 20, 19)] 8 1 6 [.ref 0, .int x, .int y, .ref 29] (stN tx g1 g2 fn pg t1 t2 ++ [loA f]) (wrZ O' f (fun _ => 1)) := by
  generalize hO : wrZ O' f (fun _ => 1) = O
  refine pm_MetH.mk kL_split hs (hJ.run [] 20 (fun K hK => hK _ ?_))
  refine hJ.call q29 hM gRL_40 vX5_split (fun E w1 h hl => ?_) (fun v w1 h hl => ?_)
  · obtain ⟨a1, a2, a3, a4, a5, a6, a7, rfl⟩ := hN _ _ h
    cases hx _ _ h
    refine ⟨1, hH_split1, ?_⟩
    rw [bk29, ← hO]
    exact Or.inr ⟨_, stN a1 a2 a3 a4 a5 a6 a7, h, rfl, rfl⟩
  · obtain ⟨a1, a2, a3, a4, a5, a6, a7, rfl⟩ := hN _ _ h
    rw [bk29]
    obtain ⟨x0, rfl⟩ := hv _ _ h
    refine hJ.run [] 20 (fun K hK => And.intro (fun q => And.intro (vp_in_nI (by decide) (by decide)) (hK _ ?_)) (fun q => And.intro (vp_in_nI (by decide) (by decide)) (hK _ ?_)))
    · have q' : x0 = 0 := q
      refine hJ.ri ?_
      rw [← hO]
      exact Or.inl ⟨x0, stN a1 a2 a3 a4 a5 a6 a7, h, rfl, by rw [if_pos q']; rfl⟩
    · have q' : ¬ x0 = 0 := q
      refine hJ.ri ?_
      rw [← hO]
      exact Or.inl ⟨x0, stN a1 a2 a3 a4 a5 a6 a7, h, rfl, by rw [if_neg q']; rfl⟩
theorem hH_share1 : hc_H mL_share [(0, 9, 12, 13)] iL_share 4 eS 1 := ⟨[], ⟨0, 9, 12, 13⟩, [], eS, 3, 1, .astore_n 3, 1, rfl, (fun z hz => by cases hz), by decide, by decide, cL_13, cS_13, rfl, rfl, by decide, rfl, by decide, rfl⟩
theorem l_share {O' : pm_O → List pm_E → Prop} (hs : l.stackTraces = false) (tx : txP) (g1 g2 : trP) (fn : fnP) (pg : pgP) (t1 t2 : tbP) (f : Nat → UInt64) (x : Int32) (hM : pm_Met l mX5_share 7 1 6 [.ref 0, .int x] (stN tx g1 g2 fn pg t1 t2) O') (hN : ∀ o w1, O' o w1 → isN w1) (hv : ∀ v w1, O' (.inl v) w1 → ∃ x, v = some (.float x) ∧ vf_n32 x) (hx : ∀ E w1, O' (.inr E) w1 → E = eS) :
    pm_MetH l mL_share [(0, 9, 12, 13)] 8 1 6 [.ref 0, .int x, .ref 29] (stN tx g1 g2 fn pg t1 t2 ++ [dbA f]) (wrD O' f (fun _ => 1)) := by
  generalize hO : wrD O' f (fun _ => 1) = O
  refine pm_MetH.mk kL_share hs (hJ.run [] 20 (fun K hK => hK _ ?_))
  refine hJ.call q29 hM gRL_44 vX5_share (fun E w1 h hl => ?_) (fun v w1 h hl => ?_)
  · obtain ⟨a1, a2, a3, a4, a5, a6, a7, rfl⟩ := hN _ _ h
    cases hx _ _ h
    refine ⟨1, hH_share1, ?_⟩
    rw [bk29, ← hO]
    exact Or.inr ⟨_, stN a1 a2 a3 a4 a5 a6 a7, h, rfl, rfl⟩
  · obtain ⟨a1, a2, a3, a4, a5, a6, a7, rfl⟩ := hN _ _ h
    rw [bk29]
    obtain ⟨x0, rfl, hn⟩ := hv _ _ h
    refine hJ.run [] 20 (fun K hK => And.intro (fd_f2d hn) (And.intro (vp_in_nI (by decide) (by decide)) (hK _ ?_)))
    refine hJ.ri ?_
    rw [← hO]
    exact Or.inl ⟨x0, stN a1 a2 a3 a4 a5 a6 a7, h, rfl, rfl⟩
theorem hH_distance1 : hc_H mL_distance [(0, 10, 13, 19)] iL_distance 5 eI 1 := ⟨[], ⟨0, 10, 13, 19⟩, [], eI, 4, 2, .astore 4, 1, rfl, (fun z hz => by cases hz), by decide, by decide, cL_19, cS_19, rfl, rfl, by decide, rfl, by decide, rfl⟩
theorem l_distance {O' : pm_O → List pm_E → Prop} (hs : l.stackTraces = false) (tx : txP) (g1 g2 : trP) (fn : fnP) (pg : pgP) (t1 t2 : tbP) (f : Nat → Int64) (x y : Int32) (hM : pm_Met l mX5_distance 7 2 12 [.ref 0, .int x, .int y] (stN tx g1 g2 fn pg t1 t2) O') (hN : ∀ o w1, O' o w1 → isN w1) (hv : ∀ v w1, O' (.inl v) w1 → ∃ x, v = some (.int x)) (hx : ∀ E w1, O' (.inr E) w1 → E = eI) :
    pm_MetH l mL_distance [(0, 10, 13, 19)] 8 2 12 [.ref 0, .int x, .int y, .ref 29] (stN tx g1 g2 fn pg t1 t2 ++ [loA f]) (wrL O' f (fun _ => 1)) := by
  generalize hO : wrL O' f (fun _ => 1) = O
  refine pm_MetH.mk kL_distance hs (hJ.run [] 20 (fun K hK => hK _ ?_))
  refine hJ.call q29 hM gRL_48 vX5_distance (fun E w1 h hl => ?_) (fun v w1 h hl => ?_)
  · obtain ⟨a1, a2, a3, a4, a5, a6, a7, rfl⟩ := hN _ _ h
    cases hx _ _ h
    refine ⟨1, hH_distance1, ?_⟩
    rw [bk29, ← hO]
    exact Or.inr ⟨_, stN a1 a2 a3 a4 a5 a6 a7, h, rfl, rfl⟩
  · obtain ⟨a1, a2, a3, a4, a5, a6, a7, rfl⟩ := hN _ _ h
    rw [bk29]
    obtain ⟨x0, rfl⟩ := hv _ _ h
    refine hJ.run [] 20 (fun K hK => And.intro (vp_in_nI (by decide) (by decide)) (hK _ ?_))
    refine hJ.ri ?_
    rw [← hO]
    exact Or.inl ⟨x0, stN a1 a2 a3 a4 a5 a6 a7, h, rfl, rfl⟩
theorem hH_consistency1 : hc_H mL_consistency [(0, 9, 12, 19)] iL_consistency 4 eI 1 := ⟨[], ⟨0, 9, 12, 19⟩, [], eI, 3, 1, .astore_n 3, 1, rfl, (fun z hz => by cases hz), by decide, by decide, cL_19, cS_19, rfl, rfl, by decide, rfl, by decide, rfl⟩
theorem l_consistency {O' : pm_O → List pm_E → Prop} (hs : l.stackTraces = false) (tx : txP) (g1 g2 : trP) (fn : fnP) (pg : pgP) (t1 t2 : tbP) (f : Nat → UInt64) (x : Int32) (hM : pm_Met l mX5_consistency 7 1 6 [.ref 0, .int x] (stN tx g1 g2 fn pg t1 t2) O') (hN : ∀ o w1, O' o w1 → isN w1) (hv : ∀ v w1, O' (.inl v) w1 → ∃ x, v = some (.float x) ∧ vf_n32 x) (hx : ∀ E w1, O' (.inr E) w1 → E = eI) :
    pm_MetH l mL_consistency [(0, 9, 12, 19)] 8 1 6 [.ref 0, .int x, .ref 29] (stN tx g1 g2 fn pg t1 t2 ++ [dbA f]) (wrD O' f (fun _ => 1)) := by
  generalize hO : wrD O' f (fun _ => 1) = O
  refine pm_MetH.mk kL_consistency hs (hJ.run [] 20 (fun K hK => hK _ ?_))
  refine hJ.call q29 hM gRL_51 vX5_consistency (fun E w1 h hl => ?_) (fun v w1 h hl => ?_)
  · obtain ⟨a1, a2, a3, a4, a5, a6, a7, rfl⟩ := hN _ _ h
    cases hx _ _ h
    refine ⟨1, hH_consistency1, ?_⟩
    rw [bk29, ← hO]
    exact Or.inr ⟨_, stN a1 a2 a3 a4 a5 a6 a7, h, rfl, rfl⟩
  · obtain ⟨a1, a2, a3, a4, a5, a6, a7, rfl⟩ := hN _ _ h
    rw [bk29]
    obtain ⟨x0, rfl, hn⟩ := hv _ _ h
    refine hJ.run [] 20 (fun K hK => And.intro (fd_f2d hn) (And.intro (vp_in_nI (by decide) (by decide)) (hK _ ?_)))
    refine hJ.ri ?_
    rw [← hO]
    exact Or.inl ⟨x0, stN a1 a2 a3 a4 a5 a6 a7, h, rfl, rfl⟩
theorem hH_retention1 : hc_H mL_retention [(0, 9, 12, 19)] iL_retention 4 eI 1 := ⟨[], ⟨0, 9, 12, 19⟩, [], eI, 3, 1, .astore_n 3, 1, rfl, (fun z hz => by cases hz), by decide, by decide, cL_19, cS_19, rfl, rfl, by decide, rfl, by decide, rfl⟩
theorem l_retention {O' : pm_O → List pm_E → Prop} (hs : l.stackTraces = false) (tx : txP) (g1 g2 : trP) (fn : fnP) (pg : pgP) (t1 t2 : tbP) (f : Nat → UInt64) (x : Int32) (hM : pm_Met l mX5_retention 7 1 6 [.ref 0, .int x] (stN tx g1 g2 fn pg t1 t2) O') (hN : ∀ o w1, O' o w1 → isN w1) (hv : ∀ v w1, O' (.inl v) w1 → ∃ x, v = some (.float x) ∧ vf_n32 x) (hx : ∀ E w1, O' (.inr E) w1 → E = eI) :
    pm_MetH l mL_retention [(0, 9, 12, 19)] 8 1 6 [.ref 0, .int x, .ref 29] (stN tx g1 g2 fn pg t1 t2 ++ [dbA f]) (wrD O' f (fun _ => 1)) := by
  generalize hO : wrD O' f (fun _ => 1) = O
  refine pm_MetH.mk kL_retention hs (hJ.run [] 20 (fun K hK => hK _ ?_))
  refine hJ.call q29 hM gRL_54 vX5_retention (fun E w1 h hl => ?_) (fun v w1 h hl => ?_)
  · obtain ⟨a1, a2, a3, a4, a5, a6, a7, rfl⟩ := hN _ _ h
    cases hx _ _ h
    refine ⟨1, hH_retention1, ?_⟩
    rw [bk29, ← hO]
    exact Or.inr ⟨_, stN a1 a2 a3 a4 a5 a6 a7, h, rfl, rfl⟩
  · obtain ⟨a1, a2, a3, a4, a5, a6, a7, rfl⟩ := hN _ _ h
    rw [bk29]
    obtain ⟨x0, rfl, hn⟩ := hv _ _ h
    refine hJ.run [] 20 (fun K hK => And.intro (fd_f2d hn) (And.intro (vp_in_nI (by decide) (by decide)) (hK _ ?_)))
    refine hJ.ri ?_
    rw [← hO]
    exact Or.inl ⟨x0, stN a1 a2 a3 a4 a5 a6 a7, h, rfl, rfl⟩
theorem hH_write1 : hc_H mL_write [(0, 9, 12, 19)] iL_write 4 eI 1 := ⟨[], ⟨0, 9, 12, 19⟩, [], eI, 3, 1, .astore_n 3, 1, rfl, (fun z hz => by cases hz), by decide, by decide, cL_19, cS_19, rfl, rfl, by decide, rfl, by decide, rfl⟩
theorem l_write {O' : pm_O → List pm_E → Prop} (hs : l.stackTraces = false) (tx : txP) (g1 g2 : trP) (fn : fnP) (pg : pgP) (t1 t2 : tbP) (f : Nat → Int64) (x : Int32) (hM : pm_Met l mX5_write 12 1 6 [.ref 0, .int x] (stN tx g1 g2 fn pg t1 t2) O') (hN : ∀ o w1, O' o w1 → isN w1) (hv : ∀ v w1, O' (.inl v) w1 → ∃ x, v = some (.int x)) (hx : ∀ E w1, O' (.inr E) w1 → E = eI) :
    pm_MetH l mL_write [(0, 9, 12, 19)] 13 1 6 [.ref 0, .int x, .ref 29] (stN tx g1 g2 fn pg t1 t2 ++ [loA f]) (wrL O' f (fun _ => 1)) := by
  generalize hO : wrL O' f (fun _ => 1) = O
  refine pm_MetH.mk kL_write hs (hJ.run [] 20 (fun K hK => hK _ ?_))
  refine hJ.call q29 hM gRL_57 vX5_write (fun E w1 h hl => ?_) (fun v w1 h hl => ?_)
  · obtain ⟨a1, a2, a3, a4, a5, a6, a7, rfl⟩ := hN _ _ h
    cases hx _ _ h
    refine ⟨1, hH_write1, ?_⟩
    rw [bk29, ← hO]
    exact Or.inr ⟨_, stN a1 a2 a3 a4 a5 a6 a7, h, rfl, rfl⟩
  · obtain ⟨a1, a2, a3, a4, a5, a6, a7, rfl⟩ := hN _ _ h
    rw [bk29]
    obtain ⟨x0, rfl⟩ := hv _ _ h
    refine hJ.run [] 20 (fun K hK => And.intro (vp_in_nI (by decide) (by decide)) (hK _ ?_))
    refine hJ.ri ?_
    rw [← hO]
    exact Or.inl ⟨x0, stN a1 a2 a3 a4 a5 a6 a7, h, rfl, rfl⟩
theorem hH_common1 : hc_H mL_common [(0, 9, 12, 13), (0, 9, 15, 24)] iL_common 4 eS 1 := ⟨[], ⟨0, 9, 12, 13⟩, [⟨0, 9, 15, 24⟩], eS, 3, 1, .astore_n 3, 1, rfl, (fun z hz => by cases hz), by decide, by decide, cL_13, cS_13, rfl, rfl, by decide, rfl, by decide, rfl⟩
theorem hH_common2 : hc_H mL_common [(0, 9, 12, 13), (0, 9, 15, 24)] iL_common 4 eA 2 := ⟨[⟨0, 9, 12, 13⟩], ⟨0, 9, 15, 24⟩, [], eA, 3, 1, .astore_n 3, 2, rfl, (fun z hz => by cases List.mem_singleton.mp hz; exact ⟨by decide, by decide, eS, cL_13, nc_13⟩), by decide, by decide, cL_24, cS_24, rfl, rfl, by decide, rfl, by decide, rfl⟩
theorem l_common {O' : pm_O → List pm_E → Prop} (hs : l.stackTraces = false) (tx : txP) (g1 g2 : trP) (fn : fnP) (pg : pgP) (t1 t2 : tbP) (f : Nat → Int64) (ab : UInt32) (hM : pm_Met l mX5_common 12 2 12 [.ref 0, .float ab] (stN tx g1 g2 fn pg t1 t2) O') (hN : ∀ o w1, O' o w1 → isN w1) (hv : ∀ v w1, O' (.inl v) w1 → ∃ x, v = some (.int x)) (hx : ∀ E w1, O' (.inr E) w1 → E = eS ∨ E = eA) :
    pm_MetH l mL_common [(0, 9, 12, 13), (0, 9, 15, 24)] 13 2 12 [.ref 0, .float ab, .ref 29] (stN tx g1 g2 fn pg t1 t2 ++ [loA f]) (wrL O' f (fun E => if E = eA then 2 else 1)) := by
  generalize hO : wrL O' f (fun E => if E = eA then 2 else 1) = O
  refine pm_MetH.mk kL_common hs (hJ.run [] 20 (fun K hK => hK _ ?_))
  refine hJ.call q29 hM gRL_60 vX5_common (fun E w1 h hl => ?_) (fun v w1 h hl => ?_)
  · obtain ⟨a1, a2, a3, a4, a5, a6, a7, rfl⟩ := hN _ _ h
    rcases hx _ _ h with e | e
    · subst e
      refine ⟨1, hH_common1, ?_⟩
      rw [bk29, ← hO]
      exact Or.inr ⟨_, stN a1 a2 a3 a4 a5 a6 a7, h, rfl, rfl⟩
    · subst e
      refine ⟨2, hH_common2, ?_⟩
      rw [bk29, ← hO]
      exact Or.inr ⟨_, stN a1 a2 a3 a4 a5 a6 a7, h, rfl, rfl⟩
  · obtain ⟨a1, a2, a3, a4, a5, a6, a7, rfl⟩ := hN _ _ h
    rw [bk29]
    obtain ⟨x0, rfl⟩ := hv _ _ h
    refine hJ.run [] 20 (fun K hK => And.intro (vp_in_nI (by decide) (by decide)) (hK _ ?_))
    refine hJ.ri ?_
    rw [← hO]
    exact Or.inl ⟨x0, stN a1 a2 a3 a4 a5 a6 a7, h, rfl, rfl⟩
end LWE
