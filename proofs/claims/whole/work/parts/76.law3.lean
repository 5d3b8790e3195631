section LWH
variable {p : Program} {l : Launch} {e : Env} {s : State} {m : MethodId} {below : List Frame} {meth : Method} {c : Code} {b Ln : Nat} {xs : Nat → Int32} {D : va_G} {cells slots : Nat}
abbrev lwV (cl mo : List pm_E) (f : Nat → Int64) (g : Nat → UInt64) : List pm_E := cl ++ (mo.map (pm_rc (pm_rn qM)) ++ [loA f, dbA g])
abbrev lwL (i : Nat) (x6 x7 : Option Value) : List (Option Value) := [some (.ref 99), some (.ref 0), some (.ref 29), some (.ref 44), some (.ref 45), some (.int (nI i)), x6, x7]
theorem lg_cmp_self (x : Int64) : lg_cmp x x = 0 := by unfold lg_cmp; simp
theorem hw_type : ∀ w ∈ [Cond.methodLink RL 68 yL_type, Cond.static yL_type, Cond.initialized yL_type.cls, Cond.codeWith yL_type cL_type 4 (some .int) [(0, 9, 12, 13)]], w ∈ pm_tb := by decide +kernel
theorem hy_type : yL_type.cls ≠ "java/lang/invoke/MethodHandle" ∧ yL_type.cls ≠ "java/lang/invoke/VarHandle" ∧ (parseMethodDescriptor yL_type.desc).map (fun d => d.parameters.length) = some 3 := by decide +kernel
set_option maxRecDepth 100000 in
theorem ld_type (X : lwC p l e s m below meth c b Ln xs) (tx : txP) (g1 g2 : trP) (fn : fnP) (pg : pgP) (t1 t2 : tbP) (A : mA) (P : mP) (T : mT) (F : mF) (G : mG) (S : mS) (W : mW) (th i : Nat) (f : Nat → Int64) (g : Nat → UInt64) (x6 x7 : Option Value) (k : Nat) (hk : k < 3) (h1 : vp_in (nI i + pm_k 1) Ln) {O' : pm_O → List pm_E → Prop}
    (hM : pm_Met l mX6_type 1 0 0 [.ref 0, .int (vp_nar .char (xs (nI i + pm_k 1).toNatClampNeg))] (moW A P T F G S W th) O') (nE : ∀ E w1, ¬ O' (.inr E) w1) (hc : cells ≤ 600128) (hs : slots ≤ 7301098) (ht : l.stackTraces = false)
    (hr : ∀ v w1, O' (.inl v) w1 → ∃ r A' P' T' F' G' S' W', v = some (.int r) ∧ w1 = moW A' P' T' F' G' S' W' k ∧ (k = 0 → f 0 = r.toInt64) ∧ lwJ p l e s m below meth c b D cells slots (1111, lwL i (some (.int (nI k))) (some (.int r)), [], lwV (stN tx g1 g2 fn pg t1 t2) (moW A' P' T' F' G' S' W' k) f g)) :
    lwJ p l e s m below meth c b D cells slots (144, lwL i x6 x7, [.int (nI k)], lwV (stN tx g1 g2 fn pg t1 t2) (moW A P T F G S W th) f g) := by
  refine lwJ.run X [] 20 (fun K hK => hK _ ?_)
  refine lwJ.sld X h1 ?_
  refine lwJ.run X [] 20 (fun K hK => hK _ ?_)
  refine lw_call X (pre := stN tx g1 g2 fn pg t1 t2) (mid := moW A P T F G S W th) (suf := [loA f, dbA g]) qM rfl hM gRL_73 vX6_type rfl nE hc hs (fun v w1 hO hl => ?_)
  obtain ⟨r, A', P', T', F', G', S', W', rfl, rfl, hf, hJ'⟩ := hr v w1 hO
  refine lwJ.run X [] 20 (fun K hK => hK _ ?_)
  refine lw_call X (pre := stN tx g1 g2 fn pg t1 t2) (mid := moW A' P' T' F' G' S' W' k) (suf := [loA f, dbA g]) qM rfl (d_thrown ht A' P' T' F' G' S' W' k) gRL_74 vX6_thrown rfl (fun E w1 z => by cases z.1) hc hs (fun v w1 hO hl => ?_)
  obtain ⟨z1, rfl⟩ := hO
  cases z1
  rcases Nat.eq_zero_or_pos k with h0 | h0
  · subst h0
    have hf := hf rfl
    refine lwJ.run X [1111] 40 (fun K hK => br_t rfl (br_f (by decide) (And.intro (vp_in_nI (by decide) (by decide)) (br_t ?_ (hK _ ?_)))))
    · show lg_cmp (f (nI 0).toNatClampNeg) r.toInt64 = 0
      rw [show (nI 0).toNatClampNeg = 0 from nI_clamp (by decide), hf]
      exact lg_cmp_self _
    · exact hJ'
  · refine lwJ.run X [1111] 40 (fun K hK => br_t rfl (br_t ?_ (hK _ ?_)))
    · show ¬ nI k = 0
      rw [nI_z (by omega)]
      omega
    · exact hJ'
set_option maxRecDepth 100000 in
theorem lb_type (X : lwC p l e s m below meth c b Ln xs) (tx : txP) (g1 g2 : trP) (fn : fnP) (pg : pgP) (t1 t2 : tbP) (A : mA) (P : mP) (T : mT) (F : mF) (G : mG) (S : mS) (W : mW) (th i : Nat) (f : Nat → Int64) (g : Nat → UInt64) (x6 x7 : Option Value) (h1 : vp_in (nI i + pm_k 1) Ln) {O' : pm_O → List pm_E → Prop}
    (hM : pm_MetH l mL_type [(0, 9, 12, 13)] 7 1 6 [.ref 0, .int (vp_nar .char (xs (nI i + pm_k 1).toNatClampNeg)), .ref 29] (stN tx g1 g2 fn pg t1 t2 ++ [loA f]) O') (nE : ∀ E w1, ¬ O' (.inr E) w1) (hc : cells + 1 ≤ 600128) (hs : slots + 6 ≤ 7301098)
    (hr : ∀ v w1, O' (.inl v) w1 → ∃ (k : Nat) (tx' : txP) (g1' g2' : trP) (fn' : fnP) (pg' : pgP) (t1' t2' : tbP) (f' : Nat → Int64), v = some (.int (nI k)) ∧ w1 = stN tx' g1' g2' fn' pg' t1' t2' ++ [loA f'] ∧ lwJ p l e s m below meth c b D (cells + 1) (slots + 6) (144, lwL i x6 x7, [.int (nI k)], lwV (stN tx' g1' g2' fn' pg' t1' t2') (moW A P T F G S W th) f' g)) :
    lwJ p l e s m below meth c b D cells slots (132, lwL i x6 x7, [], lwV (stN tx g1 g2 fn pg t1 t2) (moW A P T F G S W th) f g) := by
  refine lwJ.run X [] 20 (fun K hK => hK _ ?_)
  refine lwJ.sld X h1 ?_
  refine lwJ.run X [] 20 (fun K hK => hK _ ?_)
  refine lw_callH X (A := stN tx g1 g2 fn pg t1 t2) (B := (moW A P T F G S W th).map (pm_rc (pm_rn qM))) (x := loA f) (y := dbA g) (z := loA f) (kk := 44) rfl rfl (rc30 tx g1 g2 fn pg t1 t2) rfl (Or.inl ⟨rfl, rfl⟩) hM rfl hw_type hy_type nE hc hs (fun v w1 hO => ?_)
  obtain ⟨k, tx', g1', g2', fn', pg', t1', t2', f', rfl, rfl, hJ'⟩ := hr v w1 hO
  exact ⟨stN tx' g1' g2' fn' pg' t1' t2', loA f', rfl, rc30 tx' g1' g2' fn' pg' t1' t2', rfl, rfl, hJ'⟩
theorem hw_states : ∀ w ∈ [Cond.methodLink RL 81 yL_states, Cond.static yL_states, Cond.initialized yL_states.cls, Cond.codeWith yL_states cL_states 5 (some .int) [(0, 10, 13, 19)]], w ∈ pm_tb := by decide +kernel
theorem hy_states : yL_states.cls ≠ "java/lang/invoke/MethodHandle" ∧ yL_states.cls ≠ "java/lang/invoke/VarHandle" ∧ (parseMethodDescriptor yL_states.desc).map (fun d => d.parameters.length) = some 4 := by decide +kernel
set_option maxRecDepth 100000 in
theorem ld_states (X : lwC p l e s m below meth c b Ln xs) (tx : txP) (g1 g2 : trP) (fn : fnP) (pg : pgP) (t1 t2 : tbP) (A : mA) (P : mP) (T : mT) (F : mF) (G : mG) (S : mS) (W : mW) (th i : Nat) (f : Nat → Int64) (g : Nat → UInt64) (x6 x7 : Option Value) (k : Nat) (hk : k < 3) (h1 : vp_in (nI i + pm_k 1) Ln) (h2 : vp_in (nI i + pm_k 2) Ln) {O' : pm_O → List pm_E → Prop}
    (hM : pm_Met l mX6_states 2 0 0 [.ref 0, .int (xs (nI i + pm_k 1).toNatClampNeg), .int (xs (nI i + pm_k 2).toNatClampNeg)] (moW A P T F G S W th) O') (nE : ∀ E w1, ¬ O' (.inr E) w1) (hc : cells ≤ 600128) (hs : slots ≤ 7301098) (ht : l.stackTraces = false)
    (hr : ∀ v w1, O' (.inl v) w1 → ∃ r A' P' T' F' G' S' W', v = some (.int r) ∧ w1 = moW A' P' T' F' G' S' W' k ∧ (k = 0 → f 0 = r.toInt64) ∧ lwJ p l e s m below meth c b D cells slots (1111, lwL i (some (.int (nI k))) (some (.int r)), [], lwV (stN tx g1 g2 fn pg t1 t2) (moW A' P' T' F' G' S' W' k) f g)) :
    lwJ p l e s m below meth c b D cells slots (220, lwL i x6 x7, [.int (nI k)], lwV (stN tx g1 g2 fn pg t1 t2) (moW A P T F G S W th) f g) := by
  refine lwJ.run X [] 20 (fun K hK => hK _ ?_)
  refine lwJ.sld X h1 ?_
  refine lwJ.run X [] 20 (fun K hK => hK _ ?_)
  refine lwJ.sld X h2 ?_
  refine lw_call X (pre := stN tx g1 g2 fn pg t1 t2) (mid := moW A P T F G S W th) (suf := [loA f, dbA g]) qM rfl hM gRL_84 vX6_states rfl nE hc hs (fun v w1 hO hl => ?_)
  obtain ⟨r, A', P', T', F', G', S', W', rfl, rfl, hf, hJ'⟩ := hr v w1 hO
  refine lwJ.run X [] 20 (fun K hK => hK _ ?_)
  refine lw_call X (pre := stN tx g1 g2 fn pg t1 t2) (mid := moW A' P' T' F' G' S' W' k) (suf := [loA f, dbA g]) qM rfl (d_thrown ht A' P' T' F' G' S' W' k) gRL_74 vX6_thrown rfl (fun E w1 z => by cases z.1) hc hs (fun v w1 hO hl => ?_)
  obtain ⟨z1, rfl⟩ := hO
  cases z1
  rcases Nat.eq_zero_or_pos k with h0 | h0
  · subst h0
    have hf := hf rfl
    refine lwJ.run X [1111] 40 (fun K hK => br_t rfl (br_f (by decide) (And.intro (vp_in_nI (by decide) (by decide)) (br_t ?_ (hK _ ?_)))))
    · show lg_cmp (f (nI 0).toNatClampNeg) r.toInt64 = 0
      rw [show (nI 0).toNatClampNeg = 0 from nI_clamp (by decide), hf]
      exact lg_cmp_self _
    · exact hJ'
  · refine lwJ.run X [1111] 40 (fun K hK => br_t rfl (br_t ?_ (hK _ ?_)))
    · show ¬ nI k = 0
      rw [nI_z (by omega)]
      omega
    · exact hJ'
set_option maxRecDepth 100000 in
theorem lb_states (X : lwC p l e s m below meth c b Ln xs) (tx : txP) (g1 g2 : trP) (fn : fnP) (pg : pgP) (t1 t2 : tbP) (A : mA) (P : mP) (T : mT) (F : mF) (G : mG) (S : mS) (W : mW) (th i : Nat) (f : Nat → Int64) (g : Nat → UInt64) (x6 x7 : Option Value) (h1 : vp_in (nI i + pm_k 1) Ln) (h2 : vp_in (nI i + pm_k 2) Ln) {O' : pm_O → List pm_E → Prop}
    (hM : pm_MetH l mL_states [(0, 10, 13, 19)] 7 1 6 [.ref 0, .int (xs (nI i + pm_k 1).toNatClampNeg), .int (xs (nI i + pm_k 2).toNatClampNeg), .ref 29] (stN tx g1 g2 fn pg t1 t2 ++ [loA f]) O') (nE : ∀ E w1, ¬ O' (.inr E) w1) (hc : cells + 1 ≤ 600128) (hs : slots + 6 ≤ 7301098)
    (hr : ∀ v w1, O' (.inl v) w1 → ∃ (k : Nat) (tx' : txP) (g1' g2' : trP) (fn' : fnP) (pg' : pgP) (t1' t2' : tbP) (f' : Nat → Int64), v = some (.int (nI k)) ∧ w1 = stN tx' g1' g2' fn' pg' t1' t2' ++ [loA f'] ∧ lwJ p l e s m below meth c b D (cells + 1) (slots + 6) (220, lwL i x6 x7, [.int (nI k)], lwV (stN tx' g1' g2' fn' pg' t1' t2') (moW A P T F G S W th) f' g)) :
    lwJ p l e s m below meth c b D cells slots (203, lwL i x6 x7, [], lwV (stN tx g1 g2 fn pg t1 t2) (moW A P T F G S W th) f g) := by
  refine lwJ.run X [] 20 (fun K hK => hK _ ?_)
  refine lwJ.sld X h1 ?_
  refine lwJ.run X [] 20 (fun K hK => hK _ ?_)
  refine lwJ.sld X h2 ?_
  refine lwJ.run X [] 20 (fun K hK => hK _ ?_)
  refine lw_callH X (A := stN tx g1 g2 fn pg t1 t2) (B := (moW A P T F G S W th).map (pm_rc (pm_rn qM))) (x := loA f) (y := dbA g) (z := loA f) (kk := 44) rfl rfl (rc30 tx g1 g2 fn pg t1 t2) rfl (Or.inl ⟨rfl, rfl⟩) hM rfl hw_states hy_states nE hc hs (fun v w1 hO => ?_)
  obtain ⟨k, tx', g1', g2', fn', pg', t1', t2', f', rfl, rfl, hJ'⟩ := hr v w1 hO
  exact ⟨stN tx' g1' g2' fn' pg' t1' t2', loA f', rfl, rc30 tx' g1' g2' fn' pg' t1' t2', rfl, rfl, hJ'⟩
theorem hw_weigh : ∀ w ∈ [Cond.methodLink RL 85 yL_weigh, Cond.static yL_weigh, Cond.initialized yL_weigh.cls, Cond.codeWith yL_weigh cL_weigh 5 (some .int) [(0, 10, 13, 19), (0, 10, 17, 24)]], w ∈ pm_tb := by decide +kernel
theorem hy_weigh : yL_weigh.cls ≠ "java/lang/invoke/MethodHandle" ∧ yL_weigh.cls ≠ "java/lang/invoke/VarHandle" ∧ (parseMethodDescriptor yL_weigh.desc).map (fun d => d.parameters.length) = some 4 := by decide +kernel
set_option maxRecDepth 100000 in
theorem ld_weigh (X : lwC p l e s m below meth c b Ln xs) (tx : txP) (g1 g2 : trP) (fn : fnP) (pg : pgP) (t1 t2 : tbP) (A : mA) (P : mP) (T : mT) (F : mF) (G : mG) (S : mS) (W : mW) (th i : Nat) (f : Nat → Int64) (g : Nat → UInt64) (x6 x7 : Option Value) (k : Nat) (hk : k < 3) (h1 : vp_in (nI i + pm_k 1) Ln) (h2 : vp_in (nI i + pm_k 2) Ln) {O' : pm_O → List pm_E → Prop}
    (hM : pm_Met l mX6_weigh 2 0 0 [.ref 0, .int (xs (nI i + pm_k 1).toNatClampNeg), .int (xs (nI i + pm_k 2).toNatClampNeg)] (moW A P T F G S W th) O') (nE : ∀ E w1, ¬ O' (.inr E) w1) (hc : cells ≤ 600128) (hs : slots ≤ 7301098) (ht : l.stackTraces = false)
    (hr : ∀ v w1, O' (.inl v) w1 → ∃ r A' P' T' F' G' S' W', v = some (.int r) ∧ w1 = moW A' P' T' F' G' S' W' k ∧ (k = 0 → f 0 = r.toInt64) ∧ lwJ p l e s m below meth c b D cells slots (1111, lwL i (some (.int (nI k))) (some (.int r)), [], lwV (stN tx g1 g2 fn pg t1 t2) (moW A' P' T' F' G' S' W' k) f g)) :
    lwJ p l e s m below meth c b D cells slots (288, lwL i x6 x7, [.int (nI k)], lwV (stN tx g1 g2 fn pg t1 t2) (moW A P T F G S W th) f g) := by
  refine lwJ.run X [] 20 (fun K hK => hK _ ?_)
  refine lwJ.sld X h1 ?_
  refine lwJ.run X [] 20 (fun K hK => hK _ ?_)
  refine lwJ.sld X h2 ?_
  refine lw_call X (pre := stN tx g1 g2 fn pg t1 t2) (mid := moW A P T F G S W th) (suf := [loA f, dbA g]) qM rfl hM gRL_87 vX6_weigh rfl nE hc hs (fun v w1 hO hl => ?_)
  obtain ⟨r, A', P', T', F', G', S', W', rfl, rfl, hf, hJ'⟩ := hr v w1 hO
  refine lwJ.run X [] 20 (fun K hK => hK _ ?_)
  refine lw_call X (pre := stN tx g1 g2 fn pg t1 t2) (mid := moW A' P' T' F' G' S' W' k) (suf := [loA f, dbA g]) qM rfl (d_thrown ht A' P' T' F' G' S' W' k) gRL_74 vX6_thrown rfl (fun E w1 z => by cases z.1) hc hs (fun v w1 hO hl => ?_)
  obtain ⟨z1, rfl⟩ := hO
  cases z1
  rcases Nat.eq_zero_or_pos k with h0 | h0
  · subst h0
    have hf := hf rfl
    refine lwJ.run X [1111] 40 (fun K hK => br_t rfl (br_f (by decide) (And.intro (vp_in_nI (by decide) (by decide)) (br_t ?_ (hK _ ?_)))))
    · show lg_cmp (f (nI 0).toNatClampNeg) r.toInt64 = 0
      rw [show (nI 0).toNatClampNeg = 0 from nI_clamp (by decide), hf]
      exact lg_cmp_self _
    · exact hJ'
  · refine lwJ.run X [1111] 40 (fun K hK => br_t rfl (br_t ?_ (hK _ ?_)))
    · show ¬ nI k = 0
      rw [nI_z (by omega)]
      omega
    · exact hJ'
set_option maxRecDepth 100000 in
theorem lb_weigh (X : lwC p l e s m below meth c b Ln xs) (tx : txP) (g1 g2 : trP) (fn : fnP) (pg : pgP) (t1 t2 : tbP) (A : mA) (P : mP) (T : mT) (F : mF) (G : mG) (S : mS) (W : mW) (th i : Nat) (f : Nat → Int64) (g : Nat → UInt64) (x6 x7 : Option Value) (h1 : vp_in (nI i + pm_k 1) Ln) (h2 : vp_in (nI i + pm_k 2) Ln) {O' : pm_O → List pm_E → Prop}
    (hM : pm_MetH l mL_weigh [(0, 10, 13, 19), (0, 10, 17, 24)] 8 2 12 [.ref 0, .int (xs (nI i + pm_k 1).toNatClampNeg), .int (xs (nI i + pm_k 2).toNatClampNeg), .ref 29] (stN tx g1 g2 fn pg t1 t2 ++ [loA f]) O') (nE : ∀ E w1, ¬ O' (.inr E) w1) (hc : cells + 2 ≤ 600128) (hs : slots + 12 ≤ 7301098)
    (hr : ∀ v w1, O' (.inl v) w1 → ∃ (k : Nat) (tx' : txP) (g1' g2' : trP) (fn' : fnP) (pg' : pgP) (t1' t2' : tbP) (f' : Nat → Int64), v = some (.int (nI k)) ∧ w1 = stN tx' g1' g2' fn' pg' t1' t2' ++ [loA f'] ∧ lwJ p l e s m below meth c b D (cells + 2) (slots + 12) (288, lwL i x6 x7, [.int (nI k)], lwV (stN tx' g1' g2' fn' pg' t1' t2') (moW A P T F G S W th) f' g)) :
    lwJ p l e s m below meth c b D cells slots (271, lwL i x6 x7, [], lwV (stN tx g1 g2 fn pg t1 t2) (moW A P T F G S W th) f g) := by
  refine lwJ.run X [] 20 (fun K hK => hK _ ?_)
  refine lwJ.sld X h1 ?_
  refine lwJ.run X [] 20 (fun K hK => hK _ ?_)
  refine lwJ.sld X h2 ?_
  refine lwJ.run X [] 20 (fun K hK => hK _ ?_)
  refine lw_callH X (A := stN tx g1 g2 fn pg t1 t2) (B := (moW A P T F G S W th).map (pm_rc (pm_rn qM))) (x := loA f) (y := dbA g) (z := loA f) (kk := 44) rfl rfl (rc30 tx g1 g2 fn pg t1 t2) rfl (Or.inl ⟨rfl, rfl⟩) hM rfl hw_weigh hy_weigh nE hc hs (fun v w1 hO => ?_)
  obtain ⟨k, tx', g1', g2', fn', pg', t1', t2', f', rfl, rfl, hJ'⟩ := hr v w1 hO
  exact ⟨stN tx' g1' g2' fn' pg' t1' t2', loA f', rfl, rc30 tx' g1' g2' fn' pg' t1' t2', rfl, rfl, hJ'⟩
theorem hw_changes : ∀ w ∈ [Cond.methodLink RL 92 yL_changes, Cond.static yL_changes, Cond.initialized yL_changes.cls, Cond.codeWith yL_changes cL_changes 5 (some .int) [(0, 10, 13, 19)]], w ∈ pm_tb := by decide +kernel
theorem hy_changes : yL_changes.cls ≠ "java/lang/invoke/MethodHandle" ∧ yL_changes.cls ≠ "java/lang/invoke/VarHandle" ∧ (parseMethodDescriptor yL_changes.desc).map (fun d => d.parameters.length) = some 4 := by decide +kernel
set_option maxRecDepth 100000 in
theorem ld_changes (X : lwC p l e s m below meth c b Ln xs) (tx : txP) (g1 g2 : trP) (fn : fnP) (pg : pgP) (t1 t2 : tbP) (A : mA) (P : mP) (T : mT) (F : mF) (G : mG) (S : mS) (W : mW) (th i : Nat) (f : Nat → Int64) (g : Nat → UInt64) (x6 x7 : Option Value) (k : Nat) (hk : k < 3) (h1 : vp_in (nI i + pm_k 1) Ln) (h2 : vp_in (nI i + pm_k 2) Ln) {O' : pm_O → List pm_E → Prop}
    (hM : pm_Met l mX6_changes 4 0 0 [.ref 0, .int (xs (nI i + pm_k 1).toNatClampNeg), .int (xs (nI i + pm_k 2).toNatClampNeg)] (moW A P T F G S W th) O') (nE : ∀ E w1, ¬ O' (.inr E) w1) (hc : cells ≤ 600128) (hs : slots ≤ 7301098) (ht : l.stackTraces = false)
    (hr : ∀ v w1, O' (.inl v) w1 → ∃ r A' P' T' F' G' S' W', v = some (.int r) ∧ w1 = moW A' P' T' F' G' S' W' k ∧ (k = 0 → f 0 = r.toInt64) ∧ lwJ p l e s m below meth c b D cells slots (1111, lwL i (some (.int (nI k))) (some (.int r)), [], lwV (stN tx g1 g2 fn pg t1 t2) (moW A' P' T' F' G' S' W' k) f g)) :
    lwJ p l e s m below meth c b D cells slots (369, lwL i x6 x7, [.int (nI k)], lwV (stN tx g1 g2 fn pg t1 t2) (moW A P T F G S W th) f g) := by
  refine lwJ.run X [] 20 (fun K hK => hK _ ?_)
  refine lwJ.sld X h1 ?_
  refine lwJ.run X [] 20 (fun K hK => hK _ ?_)
  refine lwJ.sld X h2 ?_
  refine lw_call X (pre := stN tx g1 g2 fn pg t1 t2) (mid := moW A P T F G S W th) (suf := [loA f, dbA g]) qM rfl hM gRL_94 vX6_changes rfl nE hc hs (fun v w1 hO hl => ?_)
  obtain ⟨r, A', P', T', F', G', S', W', rfl, rfl, hf, hJ'⟩ := hr v w1 hO
  refine lwJ.run X [] 20 (fun K hK => hK _ ?_)
  refine lw_call X (pre := stN tx g1 g2 fn pg t1 t2) (mid := moW A' P' T' F' G' S' W' k) (suf := [loA f, dbA g]) qM rfl (d_thrown ht A' P' T' F' G' S' W' k) gRL_74 vX6_thrown rfl (fun E w1 z => by cases z.1) hc hs (fun v w1 hO hl => ?_)
  obtain ⟨z1, rfl⟩ := hO
  cases z1
  rcases Nat.eq_zero_or_pos k with h0 | h0
  · subst h0
    have hf := hf rfl
    refine lwJ.run X [1111] 40 (fun K hK => br_t rfl (br_f (by decide) (And.intro (vp_in_nI (by decide) (by decide)) (br_t ?_ (hK _ ?_)))))
    · show lg_cmp (f (nI 0).toNatClampNeg) r.toInt64 = 0
      rw [show (nI 0).toNatClampNeg = 0 from nI_clamp (by decide), hf]
      exact lg_cmp_self _
    · exact hJ'
  · refine lwJ.run X [1111] 40 (fun K hK => br_t rfl (br_t ?_ (hK _ ?_)))
    · show ¬ nI k = 0
      rw [nI_z (by omega)]
      omega
    · exact hJ'
set_option maxRecDepth 100000 in
theorem lb_changes (X : lwC p l e s m below meth c b Ln xs) (tx : txP) (g1 g2 : trP) (fn : fnP) (pg : pgP) (t1 t2 : tbP) (A : mA) (P : mP) (T : mT) (F : mF) (G : mG) (S : mS) (W : mW) (th i : Nat) (f : Nat → Int64) (g : Nat → UInt64) (x6 x7 : Option Value) (h1 : vp_in (nI i + pm_k 1) Ln) (h2 : vp_in (nI i + pm_k 2) Ln) {O' : pm_O → List pm_E → Prop}
    (hM : pm_MetH l mL_changes [(0, 10, 13, 19)] 8 2 12 [.ref 0, .int (xs (nI i + pm_k 1).toNatClampNeg), .int (xs (nI i + pm_k 2).toNatClampNeg), .ref 29] (stN tx g1 g2 fn pg t1 t2 ++ [loA f]) O') (nE : ∀ E w1, ¬ O' (.inr E) w1) (hc : cells + 2 ≤ 600128) (hs : slots + 12 ≤ 7301098)
    (hr : ∀ v w1, O' (.inl v) w1 → ∃ (k : Nat) (tx' : txP) (g1' g2' : trP) (fn' : fnP) (pg' : pgP) (t1' t2' : tbP) (f' : Nat → Int64), v = some (.int (nI k)) ∧ w1 = stN tx' g1' g2' fn' pg' t1' t2' ++ [loA f'] ∧ lwJ p l e s m below meth c b D (cells + 2) (slots + 12) (369, lwL i x6 x7, [.int (nI k)], lwV (stN tx' g1' g2' fn' pg' t1' t2') (moW A P T F G S W th) f' g)) :
    lwJ p l e s m below meth c b D cells slots (352, lwL i x6 x7, [], lwV (stN tx g1 g2 fn pg t1 t2) (moW A P T F G S W th) f g) := by
  refine lwJ.run X [] 20 (fun K hK => hK _ ?_)
  refine lwJ.sld X h1 ?_
  refine lwJ.run X [] 20 (fun K hK => hK _ ?_)
  refine lwJ.sld X h2 ?_
  refine lwJ.run X [] 20 (fun K hK => hK _ ?_)
  refine lw_callH X (A := stN tx g1 g2 fn pg t1 t2) (B := (moW A P T F G S W th).map (pm_rc (pm_rn qM))) (x := loA f) (y := dbA g) (z := loA f) (kk := 44) rfl rfl (rc30 tx g1 g2 fn pg t1 t2) rfl (Or.inl ⟨rfl, rfl⟩) hM rfl hw_changes hy_changes nE hc hs (fun v w1 hO => ?_)
  obtain ⟨k, tx', g1', g2', fn', pg', t1', t2', f', rfl, rfl, hJ'⟩ := hr v w1 hO
  exact ⟨stN tx' g1' g2' fn' pg' t1' t2', loA f', rfl, rc30 tx' g1' g2' fn' pg' t1' t2', rfl, rfl, hJ'⟩
theorem hw_length : ∀ w ∈ [Cond.methodLink RL 95 yL_length, Cond.static yL_length, Cond.initialized yL_length.cls, Cond.codeWith yL_length cL_length 4 (some .int) [(0, 9, 12, 19)]], w ∈ pm_tb := by decide +kernel
theorem hy_length : yL_length.cls ≠ "java/lang/invoke/MethodHandle" ∧ yL_length.cls ≠ "java/lang/invoke/VarHandle" ∧ (parseMethodDescriptor yL_length.desc).map (fun d => d.parameters.length) = some 3 := by decide +kernel
set_option maxRecDepth 100000 in
theorem ld_length (X : lwC p l e s m below meth c b Ln xs) (tx : txP) (g1 g2 : trP) (fn : fnP) (pg : pgP) (t1 t2 : tbP) (A : mA) (P : mP) (T : mT) (F : mF) (G : mG) (S : mS) (W : mW) (th i : Nat) (f : Nat → Int64) (g : Nat → UInt64) (x6 x7 : Option Value) (k : Nat) (hk : k < 3) (h1 : vp_in (nI i + pm_k 1) Ln) {O' : pm_O → List pm_E → Prop}
    (hM : pm_Met l mX6_length 5 0 0 [.ref 0, .int (xs (nI i + pm_k 1).toNatClampNeg)] (moW A P T F G S W th) O') (nE : ∀ E w1, ¬ O' (.inr E) w1) (hc : cells ≤ 600128) (hs : slots ≤ 7301098) (ht : l.stackTraces = false)
    (hr : ∀ v w1, O' (.inl v) w1 → ∃ r A' P' T' F' G' S' W', v = some (.int r) ∧ w1 = moW A' P' T' F' G' S' W' k ∧ (k = 0 → f 0 = r.toInt64) ∧ lwJ p l e s m below meth c b D cells slots (1111, lwL i (some (.int (nI k))) (some (.int r)), [], lwV (stN tx g1 g2 fn pg t1 t2) (moW A' P' T' F' G' S' W' k) f g)) :
    lwJ p l e s m below meth c b D cells slots (431, lwL i x6 x7, [.int (nI k)], lwV (stN tx g1 g2 fn pg t1 t2) (moW A P T F G S W th) f g) := by
  refine lwJ.run X [] 20 (fun K hK => hK _ ?_)
  refine lwJ.sld X h1 ?_
  refine lw_call X (pre := stN tx g1 g2 fn pg t1 t2) (mid := moW A P T F G S W th) (suf := [loA f, dbA g]) qM rfl hM gRL_98 vX6_length rfl nE hc hs (fun v w1 hO hl => ?_)
  obtain ⟨r, A', P', T', F', G', S', W', rfl, rfl, hf, hJ'⟩ := hr v w1 hO
  refine lwJ.run X [] 20 (fun K hK => hK _ ?_)
  refine lw_call X (pre := stN tx g1 g2 fn pg t1 t2) (mid := moW A' P' T' F' G' S' W' k) (suf := [loA f, dbA g]) qM rfl (d_thrown ht A' P' T' F' G' S' W' k) gRL_74 vX6_thrown rfl (fun E w1 z => by cases z.1) hc hs (fun v w1 hO hl => ?_)
  obtain ⟨z1, rfl⟩ := hO
  cases z1
  rcases Nat.eq_zero_or_pos k with h0 | h0
  · subst h0
    have hf := hf rfl
    refine lwJ.run X [1111] 40 (fun K hK => br_t rfl (br_f (by decide) (And.intro (vp_in_nI (by decide) (by decide)) (br_t ?_ (hK _ ?_)))))
    · show lg_cmp (f (nI 0).toNatClampNeg) r.toInt64 = 0
      rw [show (nI 0).toNatClampNeg = 0 from nI_clamp (by decide), hf]
      exact lg_cmp_self _
    · exact hJ'
  · refine lwJ.run X [1111] 40 (fun K hK => br_t rfl (br_t ?_ (hK _ ?_)))
    · show ¬ nI k = 0
      rw [nI_z (by omega)]
      omega
    · exact hJ'
set_option maxRecDepth 100000 in
theorem lb_length (X : lwC p l e s m below meth c b Ln xs) (tx : txP) (g1 g2 : trP) (fn : fnP) (pg : pgP) (t1 t2 : tbP) (A : mA) (P : mP) (T : mT) (F : mF) (G : mG) (S : mS) (W : mW) (th i : Nat) (f : Nat → Int64) (g : Nat → UInt64) (x6 x7 : Option Value) (h1 : vp_in (nI i + pm_k 1) Ln) {O' : pm_O → List pm_E → Prop}
    (hM : pm_MetH l mL_length [(0, 9, 12, 19)] 8 1 6 [.ref 0, .int (xs (nI i + pm_k 1).toNatClampNeg), .ref 29] (stN tx g1 g2 fn pg t1 t2 ++ [loA f]) O') (nE : ∀ E w1, ¬ O' (.inr E) w1) (hc : cells + 1 ≤ 600128) (hs : slots + 6 ≤ 7301098)
    (hr : ∀ v w1, O' (.inl v) w1 → ∃ (k : Nat) (tx' : txP) (g1' g2' : trP) (fn' : fnP) (pg' : pgP) (t1' t2' : tbP) (f' : Nat → Int64), v = some (.int (nI k)) ∧ w1 = stN tx' g1' g2' fn' pg' t1' t2' ++ [loA f'] ∧ lwJ p l e s m below meth c b D (cells + 1) (slots + 6) (431, lwL i x6 x7, [.int (nI k)], lwV (stN tx' g1' g2' fn' pg' t1' t2') (moW A P T F G S W th) f' g)) :
    lwJ p l e s m below meth c b D cells slots (420, lwL i x6 x7, [], lwV (stN tx g1 g2 fn pg t1 t2) (moW A P T F G S W th) f g) := by
  refine lwJ.run X [] 20 (fun K hK => hK _ ?_)
  refine lwJ.sld X h1 ?_
  refine lwJ.run X [] 20 (fun K hK => hK _ ?_)
  refine lw_callH X (A := stN tx g1 g2 fn pg t1 t2) (B := (moW A P T F G S W th).map (pm_rc (pm_rn qM))) (x := loA f) (y := dbA g) (z := loA f) (kk := 44) rfl rfl (rc30 tx g1 g2 fn pg t1 t2) rfl (Or.inl ⟨rfl, rfl⟩) hM rfl hw_length hy_length nE hc hs (fun v w1 hO => ?_)
  obtain ⟨k, tx', g1', g2', fn', pg', t1', t2', f', rfl, rfl, hJ'⟩ := hr v w1 hO
  exact ⟨stN tx' g1' g2' fn' pg' t1' t2', loA f', rfl, rc30 tx' g1' g2' fn' pg' t1' t2', rfl, rfl, hJ'⟩
theorem hw_search : ∀ w ∈ [Cond.methodLink RL 99 yL_search, Cond.static yL_search, Cond.initialized yL_search.cls, Cond.codeWith yL_search cL_search 3 (some .int) [(0, 8, 11, 13)]], w ∈ pm_tb := by decide +kernel
theorem hy_search : yL_search.cls ≠ "java/lang/invoke/MethodHandle" ∧ yL_search.cls ≠ "java/lang/invoke/VarHandle" ∧ (parseMethodDescriptor yL_search.desc).map (fun d => d.parameters.length) = some 2 := by decide +kernel
set_option maxRecDepth 100000 in
theorem ld_search (X : lwC p l e s m below meth c b Ln xs) (tx : txP) (g1 g2 : trP) (fn : fnP) (pg : pgP) (t1 t2 : tbP) (A : mA) (P : mP) (T : mT) (F : mF) (G : mG) (S : mS) (W : mW) (th i : Nat) (f : Nat → Int64) (g : Nat → UInt64) (x6 x7 : Option Value) (k : Nat) (hk : k < 3) {O' : pm_O → List pm_E → Prop}
    (hM : pm_Met l mX6_search 5 0 0 [.ref 0] (moW A P T F G S W th) O') (nE : ∀ E w1, ¬ O' (.inr E) w1) (hc : cells ≤ 600128) (hs : slots ≤ 7301098) (ht : l.stackTraces = false)
    (hr : ∀ v w1, O' (.inl v) w1 → ∃ r A' P' T' F' G' S' W', v = some (.int r) ∧ w1 = moW A' P' T' F' G' S' W' k ∧ (k = 0 → f 0 = r.toInt64) ∧ lwJ p l e s m below meth c b D cells slots (1111, lwL i (some (.int (nI k))) (some (.int r)), [], lwV (stN tx g1 g2 fn pg t1 t2) (moW A' P' T' F' G' S' W' k) f g)) :
    lwJ p l e s m below meth c b D cells slots (481, lwL i x6 x7, [.int (nI k)], lwV (stN tx g1 g2 fn pg t1 t2) (moW A P T F G S W th) f g) := by
  refine lwJ.run X [] 20 (fun K hK => hK _ ?_)
  refine lw_call X (pre := stN tx g1 g2 fn pg t1 t2) (mid := moW A P T F G S W th) (suf := [loA f, dbA g]) qM rfl hM gRL_102 vX6_search rfl nE hc hs (fun v w1 hO hl => ?_)
  obtain ⟨r, A', P', T', F', G', S', W', rfl, rfl, hf, hJ'⟩ := hr v w1 hO
  refine lwJ.run X [] 20 (fun K hK => hK _ ?_)
  refine lw_call X (pre := stN tx g1 g2 fn pg t1 t2) (mid := moW A' P' T' F' G' S' W' k) (suf := [loA f, dbA g]) qM rfl (d_thrown ht A' P' T' F' G' S' W' k) gRL_74 vX6_thrown rfl (fun E w1 z => by cases z.1) hc hs (fun v w1 hO hl => ?_)
  obtain ⟨z1, rfl⟩ := hO
  cases z1
  rcases Nat.eq_zero_or_pos k with h0 | h0
  · subst h0
    have hf := hf rfl
    refine lwJ.run X [1111] 40 (fun K hK => br_t rfl (br_f (by decide) (And.intro (vp_in_nI (by decide) (by decide)) (br_t ?_ (hK _ ?_)))))
    · show lg_cmp (f (nI 0).toNatClampNeg) r.toInt64 = 0
      rw [show (nI 0).toNatClampNeg = 0 from nI_clamp (by decide), hf]
      exact lg_cmp_self _
    · exact hJ'
  · refine lwJ.run X [1111] 40 (fun K hK => br_t rfl (br_t ?_ (hK _ ?_)))
    · show ¬ nI k = 0
      rw [nI_z (by omega)]
      omega
    · exact hJ'
set_option maxRecDepth 100000 in
theorem lb_search (X : lwC p l e s m below meth c b Ln xs) (tx : txP) (g1 g2 : trP) (fn : fnP) (pg : pgP) (t1 t2 : tbP) (A : mA) (P : mP) (T : mT) (F : mF) (G : mG) (S : mS) (W : mW) (th i : Nat) (f : Nat → Int64) (g : Nat → UInt64) (x6 x7 : Option Value) {O' : pm_O → List pm_E → Prop}
    (hM : pm_MetH l mL_search [(0, 8, 11, 13)] 8 1 6 [.ref 0, .ref 29] (stN tx g1 g2 fn pg t1 t2 ++ [loA f]) O') (nE : ∀ E w1, ¬ O' (.inr E) w1) (hc : cells + 1 ≤ 600128) (hs : slots + 6 ≤ 7301098)
    (hr : ∀ v w1, O' (.inl v) w1 → ∃ (k : Nat) (tx' : txP) (g1' g2' : trP) (fn' : fnP) (pg' : pgP) (t1' t2' : tbP) (f' : Nat → Int64), v = some (.int (nI k)) ∧ w1 = stN tx' g1' g2' fn' pg' t1' t2' ++ [loA f'] ∧ lwJ p l e s m below meth c b D (cells + 1) (slots + 6) (481, lwL i x6 x7, [.int (nI k)], lwV (stN tx' g1' g2' fn' pg' t1' t2') (moW A P T F G S W th) f' g)) :
    lwJ p l e s m below meth c b D cells slots (476, lwL i x6 x7, [], lwV (stN tx g1 g2 fn pg t1 t2) (moW A P T F G S W th) f g) := by
  refine lwJ.run X [] 20 (fun K hK => hK _ ?_)
  refine lw_callH X (A := stN tx g1 g2 fn pg t1 t2) (B := (moW A P T F G S W th).map (pm_rc (pm_rn qM))) (x := loA f) (y := dbA g) (z := loA f) (kk := 44) rfl rfl (rc30 tx g1 g2 fn pg t1 t2) rfl (Or.inl ⟨rfl, rfl⟩) hM rfl hw_search hy_search nE hc hs (fun v w1 hO => ?_)
  obtain ⟨k, tx', g1', g2', fn', pg', t1', t2', f', rfl, rfl, hJ'⟩ := hr v w1 hO
  exact ⟨stN tx' g1' g2' fn' pg' t1' t2', loA f', rfl, rc30 tx' g1' g2' fn' pg' t1' t2', rfl, rfl, hJ'⟩
theorem hw_best : ∀ w ∈ [Cond.methodLink RL 107 yL_best, Cond.static yL_best, Cond.initialized yL_best.cls, Cond.codeWith yL_best cL_best 4 (some .int) [(0, 9, 12, 19)]], w ∈ pm_tb := by decide +kernel
theorem hy_best : yL_best.cls ≠ "java/lang/invoke/MethodHandle" ∧ yL_best.cls ≠ "java/lang/invoke/VarHandle" ∧ (parseMethodDescriptor yL_best.desc).map (fun d => d.parameters.length) = some 3 := by decide +kernel
set_option maxRecDepth 100000 in
theorem ld_best (X : lwC p l e s m below meth c b Ln xs) (tx : txP) (g1 g2 : trP) (fn : fnP) (pg : pgP) (t1 t2 : tbP) (A : mA) (P : mP) (T : mT) (F : mF) (G : mG) (S : mS) (W : mW) (th i : Nat) (f : Nat → Int64) (g : Nat → UInt64) (x6 x7 : Option Value) (k : Nat) (hk : k < 3) (h1 : vp_in (nI i + pm_k 1) Ln) {O' : pm_O → List pm_E → Prop}
    (hM : pm_Met l mX6_best 1 0 0 [.ref 0, .int (xs (nI i + pm_k 1).toNatClampNeg)] (moW A P T F G S W th) O') (nE : ∀ E w1, ¬ O' (.inr E) w1) (hc : cells ≤ 600128) (hs : slots ≤ 7301098) (ht : l.stackTraces = false)
    (hr : ∀ v w1, O' (.inl v) w1 → ∃ r A' P' T' F' G' S' W', v = some (.int r) ∧ w1 = moW A' P' T' F' G' S' W' k ∧ (k = 0 → f 0 = r.toInt64) ∧ lwJ p l e s m below meth c b D cells slots (1111, lwL i (some (.int (nI k))) (some (.int r)), [], lwV (stN tx g1 g2 fn pg t1 t2) (moW A' P' T' F' G' S' W' k) f g)) :
    lwJ p l e s m below meth c b D cells slots (544, lwL i x6 x7, [.int (nI k)], lwV (stN tx g1 g2 fn pg t1 t2) (moW A P T F G S W th) f g) := by
  refine lwJ.run X [] 20 (fun K hK => hK _ ?_)
  refine lwJ.sld X h1 ?_
  refine lw_call X (pre := stN tx g1 g2 fn pg t1 t2) (mid := moW A P T F G S W th) (suf := [loA f, dbA g]) qM rfl hM gRL_109 vX6_best rfl nE hc hs (fun v w1 hO hl => ?_)
  obtain ⟨r, A', P', T', F', G', S', W', rfl, rfl, hf, hJ'⟩ := hr v w1 hO
  refine lwJ.run X [] 20 (fun K hK => hK _ ?_)
  refine lw_call X (pre := stN tx g1 g2 fn pg t1 t2) (mid := moW A' P' T' F' G' S' W' k) (suf := [loA f, dbA g]) qM rfl (d_thrown ht A' P' T' F' G' S' W' k) gRL_74 vX6_thrown rfl (fun E w1 z => by cases z.1) hc hs (fun v w1 hO hl => ?_)
  obtain ⟨z1, rfl⟩ := hO
  cases z1
  rcases Nat.eq_zero_or_pos k with h0 | h0
  · subst h0
    have hf := hf rfl
    refine lwJ.run X [1111] 40 (fun K hK => br_t rfl (br_f (by decide) (And.intro (vp_in_nI (by decide) (by decide)) (br_t ?_ (hK _ ?_)))))
    · show lg_cmp (f (nI 0).toNatClampNeg) r.toInt64 = 0
      rw [show (nI 0).toNatClampNeg = 0 from nI_clamp (by decide), hf]
      exact lg_cmp_self _
    · exact hJ'
  · refine lwJ.run X [1111] 40 (fun K hK => br_t rfl (br_t ?_ (hK _ ?_)))
    · show ¬ nI k = 0
      rw [nI_z (by omega)]
      omega
    · exact hJ'
set_option maxRecDepth 100000 in
theorem lb_best (X : lwC p l e s m below meth c b Ln xs) (tx : txP) (g1 g2 : trP) (fn : fnP) (pg : pgP) (t1 t2 : tbP) (A : mA) (P : mP) (T : mT) (F : mF) (G : mG) (S : mS) (W : mW) (th i : Nat) (f : Nat → Int64) (g : Nat → UInt64) (x6 x7 : Option Value) (h1 : vp_in (nI i + pm_k 1) Ln) {O' : pm_O → List pm_E → Prop}
    (hM : pm_MetH l mL_best [(0, 9, 12, 19)] 7 1 6 [.ref 0, .int (xs (nI i + pm_k 1).toNatClampNeg), .ref 29] (stN tx g1 g2 fn pg t1 t2 ++ [loA f]) O') (nE : ∀ E w1, ¬ O' (.inr E) w1) (hc : cells + 1 ≤ 600128) (hs : slots + 6 ≤ 7301098)
    (hr : ∀ v w1, O' (.inl v) w1 → ∃ (k : Nat) (tx' : txP) (g1' g2' : trP) (fn' : fnP) (pg' : pgP) (t1' t2' : tbP) (f' : Nat → Int64), v = some (.int (nI k)) ∧ w1 = stN tx' g1' g2' fn' pg' t1' t2' ++ [loA f'] ∧ lwJ p l e s m below meth c b D (cells + 1) (slots + 6) (544, lwL i x6 x7, [.int (nI k)], lwV (stN tx' g1' g2' fn' pg' t1' t2') (moW A P T F G S W th) f' g)) :
    lwJ p l e s m below meth c b D cells slots (533, lwL i x6 x7, [], lwV (stN tx g1 g2 fn pg t1 t2) (moW A P T F G S W th) f g) := by
  refine lwJ.run X [] 20 (fun K hK => hK _ ?_)
  refine lwJ.sld X h1 ?_
  refine lwJ.run X [] 20 (fun K hK => hK _ ?_)
  refine lw_callH X (A := stN tx g1 g2 fn pg t1 t2) (B := (moW A P T F G S W th).map (pm_rc (pm_rn qM))) (x := loA f) (y := dbA g) (z := loA f) (kk := 44) rfl rfl (rc30 tx g1 g2 fn pg t1 t2) rfl (Or.inl ⟨rfl, rfl⟩) hM rfl hw_best hy_best nE hc hs (fun v w1 hO => ?_)
  obtain ⟨k, tx', g1', g2', fn', pg', t1', t2', f', rfl, rfl, hJ'⟩ := hr v w1 hO
  exact ⟨stN tx' g1' g2' fn' pg' t1' t2', loA f', rfl, rc30 tx' g1' g2' fn' pg' t1' t2', rfl, rfl, hJ'⟩
theorem hw_split : ∀ w ∈ [Cond.methodLink RL 110 yL_split, Cond.static yL_split, Cond.initialized yL_split.cls, Cond.codeWith yL_split cL_split 5 (some .int) [(0, 17, 20, 19)]], w ∈ pm_tb := by decide +kernel
theorem hy_split : yL_split.cls ≠ "java/lang/invoke/MethodHandle" ∧ yL_split.cls ≠ "java/lang/invoke/VarHandle" ∧ (parseMethodDescriptor yL_split.desc).map (fun d => d.parameters.length) = some 4 := by decide +kernel
set_option maxRecDepth 100000 in
theorem ld_split (X : lwC p l e s m below meth c b Ln xs) (tx : txP) (g1 g2 : trP) (fn : fnP) (pg : pgP) (t1 t2 : tbP) (A : mA) (P : mP) (T : mT) (F : mF) (G : mG) (S : mS) (W : mW) (th i : Nat) (f : Nat → Int64) (g : Nat → UInt64) (x6 x7 : Option Value) (k : Nat) (hk : k < 3) (h1 : vp_in (nI i + pm_k 1) Ln) (h2 : vp_in (nI i + pm_k 2) Ln) {O' : pm_O → List pm_E → Prop}
    (hM : pm_Met l mX6_split 3 0 0 [.ref 0, .int (xs (nI i + pm_k 1).toNatClampNeg), .int (xs (nI i + pm_k 2).toNatClampNeg)] (moW A P T F G S W th) O') (nE : ∀ E w1, ¬ O' (.inr E) w1) (hc : cells ≤ 600128) (hs : slots ≤ 7301098) (ht : l.stackTraces = false)
    (hr : ∀ v w1, O' (.inl v) w1 → ∃ r A' P' T' F' G' S' W', v = some (.int r) ∧ w1 = moW A' P' T' F' G' S' W' k ∧ (k = 0 → f 0 = if r = 0 then lN 0 else lN 1) ∧ lwJ p l e s m below meth c b D cells slots (1111, lwL i (some (.int (nI k))) (some (.int r)), [], lwV (stN tx g1 g2 fn pg t1 t2) (moW A' P' T' F' G' S' W' k) f g)) :
    lwJ p l e s m below meth c b D cells slots (606, lwL i x6 x7, [.int (nI k)], lwV (stN tx g1 g2 fn pg t1 t2) (moW A P T F G S W th) f g) := by
  refine lwJ.run X [] 20 (fun K hK => hK _ ?_)
  refine lwJ.sld X h1 ?_
  refine lwJ.run X [] 20 (fun K hK => hK _ ?_)
  refine lwJ.sld X h2 ?_
  refine lw_call X (pre := stN tx g1 g2 fn pg t1 t2) (mid := moW A P T F G S W th) (suf := [loA f, dbA g]) qM rfl hM gRL_112 vX6_split rfl nE hc hs (fun v w1 hO hl => ?_)
  obtain ⟨r, A', P', T', F', G', S', W', rfl, rfl, hf, hJ'⟩ := hr v w1 hO
  refine lwJ.run X [] 20 (fun K hK => hK _ ?_)
  refine lw_call X (pre := stN tx g1 g2 fn pg t1 t2) (mid := moW A' P' T' F' G' S' W' k) (suf := [loA f, dbA g]) qM rfl (d_thrown ht A' P' T' F' G' S' W' k) gRL_74 vX6_thrown rfl (fun E w1 z => by cases z.1) hc hs (fun v w1 hO hl => ?_)
  obtain ⟨z1, rfl⟩ := hO
  cases z1
  rcases Nat.eq_zero_or_pos k with h0 | h0
  · subst h0
    have hf := hf rfl
    refine lwJ.run X [1111] 40 (fun K hK => br_t rfl (br_f (by decide) (And.intro (vp_in_nI (by decide) (by decide)) (And.intro (fun q => br_t ?_ (hK _ ?_)) (fun q => br_t ?_ (hK _ ?_))))))
    · have q' : r = 0 := q
      show lg_cmp (f (nI 0).toNatClampNeg) (lN 0) = 0
      rw [show (nI 0).toNatClampNeg = 0 from nI_clamp (by decide), hf, if_pos q']
      exact lg_cmp_self _
    · exact hJ'
    · have q' : ¬ r = 0 := q
      show lg_cmp (f (nI 0).toNatClampNeg) (lN 1) = 0
      rw [show (nI 0).toNatClampNeg = 0 from nI_clamp (by decide), hf, if_neg q']
      exact lg_cmp_self _
    · exact hJ'
  · refine lwJ.run X [1111] 40 (fun K hK => br_t rfl (br_t ?_ (hK _ ?_)))
    · show ¬ nI k = 0
      rw [nI_z (by omega)]
      omega
    · exact hJ'
set_option maxRecDepth 100000 in
theorem lb_split (X : lwC p l e s m below meth c b Ln xs) (tx : txP) (g1 g2 : trP) (fn : fnP) (pg : pgP) (t1 t2 : tbP) (A : mA) (P : mP) (T : mT) (F : mF) (G : mG) (S : mS) (W : mW) (th i : Nat) (f : Nat → Int64) (g : Nat → UInt64) (x6 x7 : Option Value) (h1 : vp_in (nI i + pm_k 1) Ln) (h2 : vp_in (nI i + pm_k 2) Ln) {O' : pm_O → List pm_E → Prop}
    (hM : pm_MetH l mL_split [(0, 17, 20, 19)] 8 1 6 [.ref 0, .int (xs (nI i + pm_k 1).toNatClampNeg), .int (xs (nI i + pm_k 2).toNatClampNeg), .ref 29] (stN tx g1 g2 fn pg t1 t2 ++ [loA f]) O') (nE : ∀ E w1, ¬ O' (.inr E) w1) (hc : cells + 1 ≤ 600128) (hs : slots + 6 ≤ 7301098)
    (hr : ∀ v w1, O' (.inl v) w1 → ∃ (k : Nat) (tx' : txP) (g1' g2' : trP) (fn' : fnP) (pg' : pgP) (t1' t2' : tbP) (f' : Nat → Int64), v = some (.int (nI k)) ∧ w1 = stN tx' g1' g2' fn' pg' t1' t2' ++ [loA f'] ∧ lwJ p l e s m below meth c b D (cells + 1) (slots + 6) (606, lwL i x6 x7, [.int (nI k)], lwV (stN tx' g1' g2' fn' pg' t1' t2') (moW A P T F G S W th) f' g)) :
    lwJ p l e s m below meth c b D cells slots (589, lwL i x6 x7, [], lwV (stN tx g1 g2 fn pg t1 t2) (moW A P T F G S W th) f g) := by
  refine lwJ.run X [] 20 (fun K hK => hK _ ?_)
  refine lwJ.sld X h1 ?_
  refine lwJ.run X [] 20 (fun K hK => hK _ ?_)
  refine lwJ.sld X h2 ?_
  refine lwJ.run X [] 20 (fun K hK => hK _ ?_)
  refine lw_callH X (A := stN tx g1 g2 fn pg t1 t2) (B := (moW A P T F G S W th).map (pm_rc (pm_rn qM))) (x := loA f) (y := dbA g) (z := loA f) (kk := 44) rfl rfl (rc30 tx g1 g2 fn pg t1 t2) rfl (Or.inl ⟨rfl, rfl⟩) hM rfl hw_split hy_split nE hc hs (fun v w1 hO => ?_)
  obtain ⟨k, tx', g1', g2', fn', pg', t1', t2', f', rfl, rfl, hJ'⟩ := hr v w1 hO
  exact ⟨stN tx' g1' g2' fn' pg' t1' t2', loA f', rfl, rc30 tx' g1' g2' fn' pg' t1' t2', rfl, rfl, hJ'⟩
theorem hw_share : ∀ w ∈ [Cond.methodLink RL 113 yL_share, Cond.static yL_share, Cond.initialized yL_share.cls, Cond.codeWith yL_share cL_share 4 (some .int) [(0, 9, 12, 13)]], w ∈ pm_tb := by decide +kernel
theorem hy_share : yL_share.cls ≠ "java/lang/invoke/MethodHandle" ∧ yL_share.cls ≠ "java/lang/invoke/VarHandle" ∧ (parseMethodDescriptor yL_share.desc).map (fun d => d.parameters.length) = some 3 := by decide +kernel
set_option maxRecDepth 100000 in
theorem ld_share (X : lwC p l e s m below meth c b Ln xs) (tx : txP) (g1 g2 : trP) (fn : fnP) (pg : pgP) (t1 t2 : tbP) (A : mA) (P : mP) (T : mT) (F : mF) (G : mG) (S : mS) (W : mW) (th i : Nat) (f : Nat → Int64) (g : Nat → UInt64) (x6 x7 : Option Value) (k : Nat) (hk : k < 3) (h1 : vp_in (nI i + pm_k 1) Ln) {O' : pm_O → List pm_E → Prop}
    (hM : pm_Met l mX6_share 4 0 0 [.ref 0, .int (xs (nI i + pm_k 1).toNatClampNeg)] (moW A P T F G S W th) O') (nE : ∀ E w1, ¬ O' (.inr E) w1) (hc : cells ≤ 600128) (hs : slots ≤ 7301098) (ht : l.stackTraces = false)
    (hr : ∀ v w1, O' (.inl v) w1 → ∃ r A' P' T' F' G' S' W', v = some (.float r) ∧ w1 = moW A' P' T' F' G' S' W' k ∧ vf_n32 r ∧ (k = 0 → g 0 = FP.f2d r) ∧ lwJ p l e s m below meth c b D cells slots (1111, lwL i (some (.int (nI k))) (some (.float r)), [], lwV (stN tx g1 g2 fn pg t1 t2) (moW A' P' T' F' G' S' W' k) f g)) :
    lwJ p l e s m below meth c b D cells slots (676, lwL i x6 x7, [.int (nI k)], lwV (stN tx g1 g2 fn pg t1 t2) (moW A P T F G S W th) f g) := by
  refine lwJ.run X [] 20 (fun K hK => hK _ ?_)
  refine lwJ.sld X h1 ?_
  refine lw_call X (pre := stN tx g1 g2 fn pg t1 t2) (mid := moW A P T F G S W th) (suf := [loA f, dbA g]) qM rfl hM gRL_116 vX6_share rfl nE hc hs (fun v w1 hO hl => ?_)
  obtain ⟨r, A', P', T', F', G', S', W', rfl, rfl, hn, hf, hJ'⟩ := hr v w1 hO
  refine lwJ.run X [] 20 (fun K hK => hK _ ?_)
  refine lw_call X (pre := stN tx g1 g2 fn pg t1 t2) (mid := moW A' P' T' F' G' S' W' k) (suf := [loA f, dbA g]) qM rfl (d_thrown ht A' P' T' F' G' S' W' k) gRL_74 vX6_thrown rfl (fun E w1 z => by cases z.1) hc hs (fun v w1 hO hl => ?_)
  obtain ⟨z1, rfl⟩ := hO
  cases z1
  rcases Nat.eq_zero_or_pos k with h0 | h0
  · subst h0
    have hf := hf rfl
    refine lwJ.run X [1111] 40 (fun K hK => br_t rfl (br_f (by decide) (And.intro (vp_in_nI (by decide) (by decide)) (And.intro (fd_f2d hn) (br_t ?_ (hK _ ?_))))))
    · show Op.cmpValue (FP.dcmp (g (nI 0).toNatClampNeg) (FP.f2d r)) .l = 0
      rw [show (nI 0).toNatClampNeg = 0 from nI_clamp (by decide), hf]
      exact fd_self (fd_f2d hn)
    · exact hJ'
  · refine lwJ.run X [1111] 40 (fun K hK => br_t rfl (br_t ?_ (hK _ ?_)))
    · show ¬ nI k = 0
      rw [nI_z (by omega)]
      omega
    · exact hJ'
set_option maxRecDepth 100000 in
theorem lb_share (X : lwC p l e s m below meth c b Ln xs) (tx : txP) (g1 g2 : trP) (fn : fnP) (pg : pgP) (t1 t2 : tbP) (A : mA) (P : mP) (T : mT) (F : mF) (G : mG) (S : mS) (W : mW) (th i : Nat) (f : Nat → Int64) (g : Nat → UInt64) (x6 x7 : Option Value) (h1 : vp_in (nI i + pm_k 1) Ln) {O' : pm_O → List pm_E → Prop}
    (hM : pm_MetH l mL_share [(0, 9, 12, 13)] 8 1 6 [.ref 0, .int (xs (nI i + pm_k 1).toNatClampNeg), .ref 29] (stN tx g1 g2 fn pg t1 t2 ++ [dbA g]) O') (nE : ∀ E w1, ¬ O' (.inr E) w1) (hc : cells + 1 ≤ 600128) (hs : slots + 6 ≤ 7301098)
    (hr : ∀ v w1, O' (.inl v) w1 → ∃ (k : Nat) (tx' : txP) (g1' g2' : trP) (fn' : fnP) (pg' : pgP) (t1' t2' : tbP) (f' : Nat → UInt64), v = some (.int (nI k)) ∧ w1 = stN tx' g1' g2' fn' pg' t1' t2' ++ [dbA f'] ∧ lwJ p l e s m below meth c b D (cells + 1) (slots + 6) (676, lwL i x6 x7, [.int (nI k)], lwV (stN tx' g1' g2' fn' pg' t1' t2') (moW A P T F G S W th) f f')) :
    lwJ p l e s m below meth c b D cells slots (664, lwL i x6 x7, [], lwV (stN tx g1 g2 fn pg t1 t2) (moW A P T F G S W th) f g) := by
  refine lwJ.run X [] 20 (fun K hK => hK _ ?_)
  refine lwJ.sld X h1 ?_
  refine lwJ.run X [] 20 (fun K hK => hK _ ?_)
  refine lw_callH X (A := stN tx g1 g2 fn pg t1 t2) (B := (moW A P T F G S W th).map (pm_rc (pm_rn qM))) (x := loA f) (y := dbA g) (z := dbA g) (kk := 45) rfl rfl (rc31 tx g1 g2 fn pg t1 t2) rfl (Or.inr ⟨rfl, rfl⟩) hM rfl hw_share hy_share nE hc hs (fun v w1 hO => ?_)
  obtain ⟨k, tx', g1', g2', fn', pg', t1', t2', f', rfl, rfl, hJ'⟩ := hr v w1 hO
  exact ⟨stN tx' g1' g2' fn' pg' t1' t2', dbA f', rfl, rc31 tx' g1' g2' fn' pg' t1' t2', rfl, rfl, hJ'⟩
theorem hw_distance : ∀ w ∈ [Cond.methodLink RL 117 yL_distance, Cond.static yL_distance, Cond.initialized yL_distance.cls, Cond.codeWith yL_distance cL_distance 5 (some .int) [(0, 10, 13, 19)]], w ∈ pm_tb := by decide +kernel
theorem hy_distance : yL_distance.cls ≠ "java/lang/invoke/MethodHandle" ∧ yL_distance.cls ≠ "java/lang/invoke/VarHandle" ∧ (parseMethodDescriptor yL_distance.desc).map (fun d => d.parameters.length) = some 4 := by decide +kernel
set_option maxRecDepth 100000 in
theorem ld_distance (X : lwC p l e s m below meth c b Ln xs) (tx : txP) (g1 g2 : trP) (fn : fnP) (pg : pgP) (t1 t2 : tbP) (A : mA) (P : mP) (T : mT) (F : mF) (G : mG) (S : mS) (W : mW) (th i : Nat) (f : Nat → Int64) (g : Nat → UInt64) (x6 x7 : Option Value) (k : Nat) (hk : k < 3) (h1 : vp_in (nI i + pm_k 1) Ln) (h2 : vp_in (nI i + pm_k 2) Ln) {O' : pm_O → List pm_E → Prop}
    (hM : pm_Met l mX6_distance 3 0 0 [.ref 0, .int (xs (nI i + pm_k 1).toNatClampNeg), .int (xs (nI i + pm_k 2).toNatClampNeg)] (moW A P T F G S W th) O') (nE : ∀ E w1, ¬ O' (.inr E) w1) (hc : cells ≤ 600128) (hs : slots ≤ 7301098) (ht : l.stackTraces = false)
    (hr : ∀ v w1, O' (.inl v) w1 → ∃ r A' P' T' F' G' S' W', v = some (.int r) ∧ w1 = moW A' P' T' F' G' S' W' k ∧ (k = 0 → f 0 = r.toInt64) ∧ lwJ p l e s m below meth c b D cells slots (1111, lwL i (some (.int (nI k))) (some (.int r)), [], lwV (stN tx g1 g2 fn pg t1 t2) (moW A' P' T' F' G' S' W' k) f g)) :
    lwJ p l e s m below meth c b D cells slots (759, lwL i x6 x7, [.int (nI k)], lwV (stN tx g1 g2 fn pg t1 t2) (moW A P T F G S W th) f g) := by
  refine lwJ.run X [] 20 (fun K hK => hK _ ?_)
  refine lwJ.sld X h1 ?_
  refine lwJ.run X [] 20 (fun K hK => hK _ ?_)
  refine lwJ.sld X h2 ?_
  refine lw_call X (pre := stN tx g1 g2 fn pg t1 t2) (mid := moW A P T F G S W th) (suf := [loA f, dbA g]) qM rfl hM gRL_119 vX6_distance rfl nE hc hs (fun v w1 hO hl => ?_)
  obtain ⟨r, A', P', T', F', G', S', W', rfl, rfl, hf, hJ'⟩ := hr v w1 hO
  refine lwJ.run X [] 20 (fun K hK => hK _ ?_)
  refine lw_call X (pre := stN tx g1 g2 fn pg t1 t2) (mid := moW A' P' T' F' G' S' W' k) (suf := [loA f, dbA g]) qM rfl (d_thrown ht A' P' T' F' G' S' W' k) gRL_74 vX6_thrown rfl (fun E w1 z => by cases z.1) hc hs (fun v w1 hO hl => ?_)
  obtain ⟨z1, rfl⟩ := hO
  cases z1
  rcases Nat.eq_zero_or_pos k with h0 | h0
  · subst h0
    have hf := hf rfl
    refine lwJ.run X [1111] 40 (fun K hK => br_t rfl (br_f (by decide) (And.intro (vp_in_nI (by decide) (by decide)) (br_t ?_ (hK _ ?_)))))
    · show lg_cmp (f (nI 0).toNatClampNeg) r.toInt64 = 0
      rw [show (nI 0).toNatClampNeg = 0 from nI_clamp (by decide), hf]
      exact lg_cmp_self _
    · exact hJ'
  · refine lwJ.run X [1111] 40 (fun K hK => br_t rfl (br_t ?_ (hK _ ?_)))
    · show ¬ nI k = 0
      rw [nI_z (by omega)]
      omega
    · exact hJ'
set_option maxRecDepth 100000 in
theorem lb_distance (X : lwC p l e s m below meth c b Ln xs) (tx : txP) (g1 g2 : trP) (fn : fnP) (pg : pgP) (t1 t2 : tbP) (A : mA) (P : mP) (T : mT) (F : mF) (G : mG) (S : mS) (W : mW) (th i : Nat) (f : Nat → Int64) (g : Nat → UInt64) (x6 x7 : Option Value) (h1 : vp_in (nI i + pm_k 1) Ln) (h2 : vp_in (nI i + pm_k 2) Ln) {O' : pm_O → List pm_E → Prop}
    (hM : pm_MetH l mL_distance [(0, 10, 13, 19)] 8 2 12 [.ref 0, .int (xs (nI i + pm_k 1).toNatClampNeg), .int (xs (nI i + pm_k 2).toNatClampNeg), .ref 29] (stN tx g1 g2 fn pg t1 t2 ++ [loA f]) O') (nE : ∀ E w1, ¬ O' (.inr E) w1) (hc : cells + 2 ≤ 600128) (hs : slots + 12 ≤ 7301098)
    (hr : ∀ v w1, O' (.inl v) w1 → ∃ (k : Nat) (tx' : txP) (g1' g2' : trP) (fn' : fnP) (pg' : pgP) (t1' t2' : tbP) (f' : Nat → Int64), v = some (.int (nI k)) ∧ w1 = stN tx' g1' g2' fn' pg' t1' t2' ++ [loA f'] ∧ lwJ p l e s m below meth c b D (cells + 2) (slots + 12) (759, lwL i x6 x7, [.int (nI k)], lwV (stN tx' g1' g2' fn' pg' t1' t2') (moW A P T F G S W th) f' g)) :
    lwJ p l e s m below meth c b D cells slots (742, lwL i x6 x7, [], lwV (stN tx g1 g2 fn pg t1 t2) (moW A P T F G S W th) f g) := by
  refine lwJ.run X [] 20 (fun K hK => hK _ ?_)
  refine lwJ.sld X h1 ?_
  refine lwJ.run X [] 20 (fun K hK => hK _ ?_)
  refine lwJ.sld X h2 ?_
  refine lwJ.run X [] 20 (fun K hK => hK _ ?_)
  refine lw_callH X (A := stN tx g1 g2 fn pg t1 t2) (B := (moW A P T F G S W th).map (pm_rc (pm_rn qM))) (x := loA f) (y := dbA g) (z := loA f) (kk := 44) rfl rfl (rc30 tx g1 g2 fn pg t1 t2) rfl (Or.inl ⟨rfl, rfl⟩) hM rfl hw_distance hy_distance nE hc hs (fun v w1 hO => ?_)
  obtain ⟨k, tx', g1', g2', fn', pg', t1', t2', f', rfl, rfl, hJ'⟩ := hr v w1 hO
  exact ⟨stN tx' g1' g2' fn' pg' t1' t2', loA f', rfl, rc30 tx' g1' g2' fn' pg' t1' t2', rfl, rfl, hJ'⟩
theorem hw_consistency : ∀ w ∈ [Cond.methodLink RL 120 yL_consistency, Cond.static yL_consistency, Cond.initialized yL_consistency.cls, Cond.codeWith yL_consistency cL_consistency 4 (some .int) [(0, 9, 12, 19)]], w ∈ pm_tb := by decide +kernel
theorem hy_consistency : yL_consistency.cls ≠ "java/lang/invoke/MethodHandle" ∧ yL_consistency.cls ≠ "java/lang/invoke/VarHandle" ∧ (parseMethodDescriptor yL_consistency.desc).map (fun d => d.parameters.length) = some 3 := by decide +kernel
set_option maxRecDepth 100000 in
theorem ld_consistency (X : lwC p l e s m below meth c b Ln xs) (tx : txP) (g1 g2 : trP) (fn : fnP) (pg : pgP) (t1 t2 : tbP) (A : mA) (P : mP) (T : mT) (F : mF) (G : mG) (S : mS) (W : mW) (th i : Nat) (f : Nat → Int64) (g : Nat → UInt64) (x6 x7 : Option Value) (k : Nat) (hk : k < 3) (h1 : vp_in (nI i + pm_k 1) Ln) {O' : pm_O → List pm_E → Prop}
    (hM : pm_Met l mX6_consistency 5 0 0 [.ref 0, .int (xs (nI i + pm_k 1).toNatClampNeg)] (moW A P T F G S W th) O') (nE : ∀ E w1, ¬ O' (.inr E) w1) (hc : cells ≤ 600128) (hs : slots ≤ 7301098) (ht : l.stackTraces = false)
    (hr : ∀ v w1, O' (.inl v) w1 → ∃ r A' P' T' F' G' S' W', v = some (.float r) ∧ w1 = moW A' P' T' F' G' S' W' k ∧ vf_n32 r ∧ (k = 0 → g 0 = FP.f2d r) ∧ lwJ p l e s m below meth c b D cells slots (1111, lwL i (some (.int (nI k))) (some (.float r)), [], lwV (stN tx g1 g2 fn pg t1 t2) (moW A' P' T' F' G' S' W' k) f g)) :
    lwJ p l e s m below meth c b D cells slots (822, lwL i x6 x7, [.int (nI k)], lwV (stN tx g1 g2 fn pg t1 t2) (moW A P T F G S W th) f g) := by
  refine lwJ.run X [] 20 (fun K hK => hK _ ?_)
  refine lwJ.sld X h1 ?_
  refine lw_call X (pre := stN tx g1 g2 fn pg t1 t2) (mid := moW A P T F G S W th) (suf := [loA f, dbA g]) qM rfl hM gRL_122 vX6_consistency rfl nE hc hs (fun v w1 hO hl => ?_)
  obtain ⟨r, A', P', T', F', G', S', W', rfl, rfl, hn, hf, hJ'⟩ := hr v w1 hO
  refine lwJ.run X [] 20 (fun K hK => hK _ ?_)
  refine lw_call X (pre := stN tx g1 g2 fn pg t1 t2) (mid := moW A' P' T' F' G' S' W' k) (suf := [loA f, dbA g]) qM rfl (d_thrown ht A' P' T' F' G' S' W' k) gRL_74 vX6_thrown rfl (fun E w1 z => by cases z.1) hc hs (fun v w1 hO hl => ?_)
  obtain ⟨z1, rfl⟩ := hO
  cases z1
  rcases Nat.eq_zero_or_pos k with h0 | h0
  · subst h0
    have hf := hf rfl
    refine lwJ.run X [1111] 40 (fun K hK => br_t rfl (br_f (by decide) (And.intro (vp_in_nI (by decide) (by decide)) (And.intro (fd_f2d hn) (br_t ?_ (hK _ ?_))))))
    · show Op.cmpValue (FP.dcmp (g (nI 0).toNatClampNeg) (FP.f2d r)) .l = 0
      rw [show (nI 0).toNatClampNeg = 0 from nI_clamp (by decide), hf]
      exact fd_self (fd_f2d hn)
    · exact hJ'
  · refine lwJ.run X [1111] 40 (fun K hK => br_t rfl (br_t ?_ (hK _ ?_)))
    · show ¬ nI k = 0
      rw [nI_z (by omega)]
      omega
    · exact hJ'
set_option maxRecDepth 100000 in
theorem lb_consistency (X : lwC p l e s m below meth c b Ln xs) (tx : txP) (g1 g2 : trP) (fn : fnP) (pg : pgP) (t1 t2 : tbP) (A : mA) (P : mP) (T : mT) (F : mF) (G : mG) (S : mS) (W : mW) (th i : Nat) (f : Nat → Int64) (g : Nat → UInt64) (x6 x7 : Option Value) (h1 : vp_in (nI i + pm_k 1) Ln) {O' : pm_O → List pm_E → Prop}
    (hM : pm_MetH l mL_consistency [(0, 9, 12, 19)] 8 1 6 [.ref 0, .int (xs (nI i + pm_k 1).toNatClampNeg), .ref 29] (stN tx g1 g2 fn pg t1 t2 ++ [dbA g]) O') (nE : ∀ E w1, ¬ O' (.inr E) w1) (hc : cells + 1 ≤ 600128) (hs : slots + 6 ≤ 7301098)
    (hr : ∀ v w1, O' (.inl v) w1 → ∃ (k : Nat) (tx' : txP) (g1' g2' : trP) (fn' : fnP) (pg' : pgP) (t1' t2' : tbP) (f' : Nat → UInt64), v = some (.int (nI k)) ∧ w1 = stN tx' g1' g2' fn' pg' t1' t2' ++ [dbA f'] ∧ lwJ p l e s m below meth c b D (cells + 1) (slots + 6) (822, lwL i x6 x7, [.int (nI k)], lwV (stN tx' g1' g2' fn' pg' t1' t2') (moW A P T F G S W th) f f')) :
    lwJ p l e s m below meth c b D cells slots (810, lwL i x6 x7, [], lwV (stN tx g1 g2 fn pg t1 t2) (moW A P T F G S W th) f g) := by
  refine lwJ.run X [] 20 (fun K hK => hK _ ?_)
  refine lwJ.sld X h1 ?_
  refine lwJ.run X [] 20 (fun K hK => hK _ ?_)
  refine lw_callH X (A := stN tx g1 g2 fn pg t1 t2) (B := (moW A P T F G S W th).map (pm_rc (pm_rn qM))) (x := loA f) (y := dbA g) (z := dbA g) (kk := 45) rfl rfl (rc31 tx g1 g2 fn pg t1 t2) rfl (Or.inr ⟨rfl, rfl⟩) hM rfl hw_consistency hy_consistency nE hc hs (fun v w1 hO => ?_)
  obtain ⟨k, tx', g1', g2', fn', pg', t1', t2', f', rfl, rfl, hJ'⟩ := hr v w1 hO
  exact ⟨stN tx' g1' g2' fn' pg' t1' t2', dbA f', rfl, rc31 tx' g1' g2' fn' pg' t1' t2', rfl, rfl, hJ'⟩
theorem hw_retention : ∀ w ∈ [Cond.methodLink RL 123 yL_retention, Cond.static yL_retention, Cond.initialized yL_retention.cls, Cond.codeWith yL_retention cL_retention 4 (some .int) [(0, 9, 12, 19)]], w ∈ pm_tb := by decide +kernel
theorem hy_retention : yL_retention.cls ≠ "java/lang/invoke/MethodHandle" ∧ yL_retention.cls ≠ "java/lang/invoke/VarHandle" ∧ (parseMethodDescriptor yL_retention.desc).map (fun d => d.parameters.length) = some 3 := by decide +kernel
set_option maxRecDepth 100000 in
theorem ld_retention (X : lwC p l e s m below meth c b Ln xs) (tx : txP) (g1 g2 : trP) (fn : fnP) (pg : pgP) (t1 t2 : tbP) (A : mA) (P : mP) (T : mT) (F : mF) (G : mG) (S : mS) (W : mW) (th i : Nat) (f : Nat → Int64) (g : Nat → UInt64) (x6 x7 : Option Value) (k : Nat) (hk : k < 3) (h1 : vp_in (nI i + pm_k 1) Ln) {O' : pm_O → List pm_E → Prop}
    (hM : pm_Met l mX6_retention 5 0 0 [.ref 0, .int (xs (nI i + pm_k 1).toNatClampNeg)] (moW A P T F G S W th) O') (nE : ∀ E w1, ¬ O' (.inr E) w1) (hc : cells ≤ 600128) (hs : slots ≤ 7301098) (ht : l.stackTraces = false)
    (hr : ∀ v w1, O' (.inl v) w1 → ∃ r A' P' T' F' G' S' W', v = some (.float r) ∧ w1 = moW A' P' T' F' G' S' W' k ∧ vf_n32 r ∧ (k = 0 → g 0 = FP.f2d r) ∧ lwJ p l e s m below meth c b D cells slots (1111, lwL i (some (.int (nI k))) (some (.float r)), [], lwV (stN tx g1 g2 fn pg t1 t2) (moW A' P' T' F' G' S' W' k) f g)) :
    lwJ p l e s m below meth c b D cells slots (900, lwL i x6 x7, [.int (nI k)], lwV (stN tx g1 g2 fn pg t1 t2) (moW A P T F G S W th) f g) := by
  refine lwJ.run X [] 20 (fun K hK => hK _ ?_)
  refine lwJ.sld X h1 ?_
  refine lw_call X (pre := stN tx g1 g2 fn pg t1 t2) (mid := moW A P T F G S W th) (suf := [loA f, dbA g]) qM rfl hM gRL_125 vX6_retention rfl nE hc hs (fun v w1 hO hl => ?_)
  obtain ⟨r, A', P', T', F', G', S', W', rfl, rfl, hn, hf, hJ'⟩ := hr v w1 hO
  refine lwJ.run X [] 20 (fun K hK => hK _ ?_)
  refine lw_call X (pre := stN tx g1 g2 fn pg t1 t2) (mid := moW A' P' T' F' G' S' W' k) (suf := [loA f, dbA g]) qM rfl (d_thrown ht A' P' T' F' G' S' W' k) gRL_74 vX6_thrown rfl (fun E w1 z => by cases z.1) hc hs (fun v w1 hO hl => ?_)
  obtain ⟨z1, rfl⟩ := hO
  cases z1
  rcases Nat.eq_zero_or_pos k with h0 | h0
  · subst h0
    have hf := hf rfl
    refine lwJ.run X [1111] 40 (fun K hK => br_t rfl (br_f (by decide) (And.intro (vp_in_nI (by decide) (by decide)) (And.intro (fd_f2d hn) (br_t ?_ (hK _ ?_))))))
    · show Op.cmpValue (FP.dcmp (g (nI 0).toNatClampNeg) (FP.f2d r)) .l = 0
      rw [show (nI 0).toNatClampNeg = 0 from nI_clamp (by decide), hf]
      exact fd_self (fd_f2d hn)
    · exact hJ'
  · refine lwJ.run X [1111] 40 (fun K hK => br_t rfl (br_t ?_ (hK _ ?_)))
    · show ¬ nI k = 0
      rw [nI_z (by omega)]
      omega
    · exact hJ'
set_option maxRecDepth 100000 in
theorem lb_retention (X : lwC p l e s m below meth c b Ln xs) (tx : txP) (g1 g2 : trP) (fn : fnP) (pg : pgP) (t1 t2 : tbP) (A : mA) (P : mP) (T : mT) (F : mF) (G : mG) (S : mS) (W : mW) (th i : Nat) (f : Nat → Int64) (g : Nat → UInt64) (x6 x7 : Option Value) (h1 : vp_in (nI i + pm_k 1) Ln) {O' : pm_O → List pm_E → Prop}
    (hM : pm_MetH l mL_retention [(0, 9, 12, 19)] 8 1 6 [.ref 0, .int (xs (nI i + pm_k 1).toNatClampNeg), .ref 29] (stN tx g1 g2 fn pg t1 t2 ++ [dbA g]) O') (nE : ∀ E w1, ¬ O' (.inr E) w1) (hc : cells + 1 ≤ 600128) (hs : slots + 6 ≤ 7301098)
    (hr : ∀ v w1, O' (.inl v) w1 → ∃ (k : Nat) (tx' : txP) (g1' g2' : trP) (fn' : fnP) (pg' : pgP) (t1' t2' : tbP) (f' : Nat → UInt64), v = some (.int (nI k)) ∧ w1 = stN tx' g1' g2' fn' pg' t1' t2' ++ [dbA f'] ∧ lwJ p l e s m below meth c b D (cells + 1) (slots + 6) (900, lwL i x6 x7, [.int (nI k)], lwV (stN tx' g1' g2' fn' pg' t1' t2') (moW A P T F G S W th) f f')) :
    lwJ p l e s m below meth c b D cells slots (888, lwL i x6 x7, [], lwV (stN tx g1 g2 fn pg t1 t2) (moW A P T F G S W th) f g) := by
  refine lwJ.run X [] 20 (fun K hK => hK _ ?_)
  refine lwJ.sld X h1 ?_
  refine lwJ.run X [] 20 (fun K hK => hK _ ?_)
  refine lw_callH X (A := stN tx g1 g2 fn pg t1 t2) (B := (moW A P T F G S W th).map (pm_rc (pm_rn qM))) (x := loA f) (y := dbA g) (z := dbA g) (kk := 45) rfl rfl (rc31 tx g1 g2 fn pg t1 t2) rfl (Or.inr ⟨rfl, rfl⟩) hM rfl hw_retention hy_retention nE hc hs (fun v w1 hO => ?_)
  obtain ⟨k, tx', g1', g2', fn', pg', t1', t2', f', rfl, rfl, hJ'⟩ := hr v w1 hO
  exact ⟨stN tx' g1' g2' fn' pg' t1' t2', dbA f', rfl, rc31 tx' g1' g2' fn' pg' t1' t2', rfl, rfl, hJ'⟩
theorem hw_write : ∀ w ∈ [Cond.methodLink RL 126 yL_write, Cond.static yL_write, Cond.initialized yL_write.cls, Cond.codeWith yL_write cL_write 4 (some .int) [(0, 9, 12, 19)]], w ∈ pm_tb := by decide +kernel
theorem hy_write : yL_write.cls ≠ "java/lang/invoke/MethodHandle" ∧ yL_write.cls ≠ "java/lang/invoke/VarHandle" ∧ (parseMethodDescriptor yL_write.desc).map (fun d => d.parameters.length) = some 3 := by decide +kernel
set_option maxRecDepth 100000 in
theorem ld_write (X : lwC p l e s m below meth c b Ln xs) (tx : txP) (g1 g2 : trP) (fn : fnP) (pg : pgP) (t1 t2 : tbP) (A : mA) (P : mP) (T : mT) (F : mF) (G : mG) (S : mS) (W : mW) (th i : Nat) (f : Nat → Int64) (g : Nat → UInt64) (x6 x7 : Option Value) (k : Nat) (hk : k < 3) (h1 : vp_in (nI i + pm_k 1) Ln) {O' : pm_O → List pm_E → Prop}
    (hM : pm_Met l mX6_write 5 0 0 [.ref 0, .int (xs (nI i + pm_k 1).toNatClampNeg)] (moW A P T F G S W th) O') (nE : ∀ E w1, ¬ O' (.inr E) w1) (hc : cells ≤ 600128) (hs : slots ≤ 7301098) (ht : l.stackTraces = false)
    (hr : ∀ v w1, O' (.inl v) w1 → ∃ r A' P' T' F' G' S' W', v = some (.int r) ∧ w1 = moW A' P' T' F' G' S' W' k ∧ (k = 0 → f 0 = r.toInt64) ∧ lwJ p l e s m below meth c b D cells slots (1111, lwL i (some (.int (nI k))) (some (.int r)), [], lwV (stN tx g1 g2 fn pg t1 t2) (moW A' P' T' F' G' S' W' k) f g)) :
    lwJ p l e s m below meth c b D cells slots (977, lwL i x6 x7, [.int (nI k)], lwV (stN tx g1 g2 fn pg t1 t2) (moW A P T F G S W th) f g) := by
  refine lwJ.run X [] 20 (fun K hK => hK _ ?_)
  refine lwJ.sld X h1 ?_
  refine lw_call X (pre := stN tx g1 g2 fn pg t1 t2) (mid := moW A P T F G S W th) (suf := [loA f, dbA g]) qM rfl hM gRL_128 vX6_write rfl nE hc hs (fun v w1 hO hl => ?_)
  obtain ⟨r, A', P', T', F', G', S', W', rfl, rfl, hf, hJ'⟩ := hr v w1 hO
  refine lwJ.run X [] 20 (fun K hK => hK _ ?_)
  refine lw_call X (pre := stN tx g1 g2 fn pg t1 t2) (mid := moW A' P' T' F' G' S' W' k) (suf := [loA f, dbA g]) qM rfl (d_thrown ht A' P' T' F' G' S' W' k) gRL_74 vX6_thrown rfl (fun E w1 z => by cases z.1) hc hs (fun v w1 hO hl => ?_)
  obtain ⟨z1, rfl⟩ := hO
  cases z1
  rcases Nat.eq_zero_or_pos k with h0 | h0
  · subst h0
    have hf := hf rfl
    refine lwJ.run X [1111] 40 (fun K hK => br_t rfl (br_f (by decide) (And.intro (vp_in_nI (by decide) (by decide)) (br_t ?_ (hK _ ?_)))))
    · show lg_cmp (f (nI 0).toNatClampNeg) r.toInt64 = 0
      rw [show (nI 0).toNatClampNeg = 0 from nI_clamp (by decide), hf]
      exact lg_cmp_self _
    · exact hJ'
  · refine lwJ.run X [1111] 40 (fun K hK => br_t rfl (br_t ?_ (hK _ ?_)))
    · show ¬ nI k = 0
      rw [nI_z (by omega)]
      omega
    · exact hJ'
set_option maxRecDepth 100000 in
theorem lb_write (X : lwC p l e s m below meth c b Ln xs) (tx : txP) (g1 g2 : trP) (fn : fnP) (pg : pgP) (t1 t2 : tbP) (A : mA) (P : mP) (T : mT) (F : mF) (G : mG) (S : mS) (W : mW) (th i : Nat) (f : Nat → Int64) (g : Nat → UInt64) (x6 x7 : Option Value) (h1 : vp_in (nI i + pm_k 1) Ln) {O' : pm_O → List pm_E → Prop}
    (hM : pm_MetH l mL_write [(0, 9, 12, 19)] 13 1 6 [.ref 0, .int (xs (nI i + pm_k 1).toNatClampNeg), .ref 29] (stN tx g1 g2 fn pg t1 t2 ++ [loA f]) O') (nE : ∀ E w1, ¬ O' (.inr E) w1) (hc : cells + 1 ≤ 600128) (hs : slots + 6 ≤ 7301098)
    (hr : ∀ v w1, O' (.inl v) w1 → ∃ (k : Nat) (tx' : txP) (g1' g2' : trP) (fn' : fnP) (pg' : pgP) (t1' t2' : tbP) (f' : Nat → Int64), v = some (.int (nI k)) ∧ w1 = stN tx' g1' g2' fn' pg' t1' t2' ++ [loA f'] ∧ lwJ p l e s m below meth c b D (cells + 1) (slots + 6) (977, lwL i x6 x7, [.int (nI k)], lwV (stN tx' g1' g2' fn' pg' t1' t2') (moW A P T F G S W th) f' g)) :
    lwJ p l e s m below meth c b D cells slots (966, lwL i x6 x7, [], lwV (stN tx g1 g2 fn pg t1 t2) (moW A P T F G S W th) f g) := by
  refine lwJ.run X [] 20 (fun K hK => hK _ ?_)
  refine lwJ.sld X h1 ?_
  refine lwJ.run X [] 20 (fun K hK => hK _ ?_)
  refine lw_callH X (A := stN tx g1 g2 fn pg t1 t2) (B := (moW A P T F G S W th).map (pm_rc (pm_rn qM))) (x := loA f) (y := dbA g) (z := loA f) (kk := 44) rfl rfl (rc30 tx g1 g2 fn pg t1 t2) rfl (Or.inl ⟨rfl, rfl⟩) hM rfl hw_write hy_write nE hc hs (fun v w1 hO => ?_)
  obtain ⟨k, tx', g1', g2', fn', pg', t1', t2', f', rfl, rfl, hJ'⟩ := hr v w1 hO
  exact ⟨stN tx' g1' g2' fn' pg' t1' t2', loA f', rfl, rc30 tx' g1' g2' fn' pg' t1' t2', rfl, rfl, hJ'⟩
theorem hw_common : ∀ w ∈ [Cond.methodLink RL 130 yL_common, Cond.static yL_common, Cond.initialized yL_common.cls, Cond.codeWith yL_common cL_common 4 (some .int) [(0, 9, 12, 13), (0, 9, 15, 24)]], w ∈ pm_tb := by decide +kernel
theorem hy_common : yL_common.cls ≠ "java/lang/invoke/MethodHandle" ∧ yL_common.cls ≠ "java/lang/invoke/VarHandle" ∧ (parseMethodDescriptor yL_common.desc).map (fun d => d.parameters.length) = some 3 := by decide +kernel
set_option maxRecDepth 100000 in
theorem ld_common (X : lwC p l e s m below meth c b Ln xs) (tx : txP) (g1 g2 : trP) (fn : fnP) (pg : pgP) (t1 t2 : tbP) (A : mA) (P : mP) (T : mT) (F : mF) (G : mG) (S : mS) (W : mW) (th i : Nat) (f : Nat → Int64) (g : Nat → UInt64) (x6 x7 : Option Value) (k : Nat) (hk : k < 3) (h1 : vp_in (nI i + pm_k 1) Ln) {O' : pm_O → List pm_E → Prop}
    (hM : pm_Met l mX6_common 6 0 0 [.ref 0, .float (FP.fmul (FP.i2f (xs (nI i + pm_k 1).toNatClampNeg)) 1040187392)] (moW A P T F G S W th) O') (nE : ∀ E w1, ¬ O' (.inr E) w1) (hc : cells ≤ 600128) (hs : slots ≤ 7301098) (ht : l.stackTraces = false)
    (hr : ∀ v w1, O' (.inl v) w1 → ∃ r A' P' T' F' G' S' W', v = some (.int r) ∧ w1 = moW A' P' T' F' G' S' W' k ∧ (k = 0 → f 0 = r.toInt64) ∧ lwJ p l e s m below meth c b D cells slots (1111, lwL i (some (.int (nI k))) (some (.int r)), [], lwV (stN tx g1 g2 fn pg t1 t2) (moW A' P' T' F' G' S' W' k) f g)) :
    lwJ p l e s m below meth c b D cells slots (1037, lwL i x6 x7, [.int (nI k)], lwV (stN tx g1 g2 fn pg t1 t2) (moW A P T F G S W th) f g) := by
  refine lwJ.run X [] 20 (fun K hK => hK _ ?_)
  refine lwJ.sld X h1 ?_
  refine lwJ.run X [] 20 (fun K hK => And.intro (fl_mul _) (hK _ ?_))
  refine lw_call X (pre := stN tx g1 g2 fn pg t1 t2) (mid := moW A P T F G S W th) (suf := [loA f, dbA g]) qM rfl hM gRL_133 vX6_common rfl nE hc hs (fun v w1 hO hl => ?_)
  obtain ⟨r, A', P', T', F', G', S', W', rfl, rfl, hf, hJ'⟩ := hr v w1 hO
  refine lwJ.run X [] 20 (fun K hK => hK _ ?_)
  refine lw_call X (pre := stN tx g1 g2 fn pg t1 t2) (mid := moW A' P' T' F' G' S' W' k) (suf := [loA f, dbA g]) qM rfl (d_thrown ht A' P' T' F' G' S' W' k) gRL_74 vX6_thrown rfl (fun E w1 z => by cases z.1) hc hs (fun v w1 hO hl => ?_)
  obtain ⟨z1, rfl⟩ := hO
  cases z1
  rcases Nat.eq_zero_or_pos k with h0 | h0
  · subst h0
    have hf := hf rfl
    refine lwJ.run X [1111] 40 (fun K hK => br_t rfl (br_f (by decide) (And.intro (vp_in_nI (by decide) (by decide)) (br_t ?_ (hK _ ?_)))))
    · show lg_cmp (f (nI 0).toNatClampNeg) r.toInt64 = 0
      rw [show (nI 0).toNatClampNeg = 0 from nI_clamp (by decide), hf]
      exact lg_cmp_self _
    · exact hJ'
  · refine lwJ.run X [1111] 40 (fun K hK => br_t rfl (br_t ?_ (hK _ ?_)))
    · show ¬ nI k = 0
      rw [nI_z (by omega)]
      omega
    · exact hJ'
set_option maxRecDepth 100000 in
theorem lb_common (X : lwC p l e s m below meth c b Ln xs) (tx : txP) (g1 g2 : trP) (fn : fnP) (pg : pgP) (t1 t2 : tbP) (A : mA) (P : mP) (T : mT) (F : mF) (G : mG) (S : mS) (W : mW) (th i : Nat) (f : Nat → Int64) (g : Nat → UInt64) (x6 x7 : Option Value) (h1 : vp_in (nI i + pm_k 1) Ln) {O' : pm_O → List pm_E → Prop}
    (hM : pm_MetH l mL_common [(0, 9, 12, 13), (0, 9, 15, 24)] 13 2 12 [.ref 0, .float (FP.fmul (FP.i2f (xs (nI i + pm_k 1).toNatClampNeg)) 1040187392), .ref 29] (stN tx g1 g2 fn pg t1 t2 ++ [loA f]) O') (nE : ∀ E w1, ¬ O' (.inr E) w1) (hc : cells + 2 ≤ 600128) (hs : slots + 12 ≤ 7301098)
    (hr : ∀ v w1, O' (.inl v) w1 → ∃ (k : Nat) (tx' : txP) (g1' g2' : trP) (fn' : fnP) (pg' : pgP) (t1' t2' : tbP) (f' : Nat → Int64), v = some (.int (nI k)) ∧ w1 = stN tx' g1' g2' fn' pg' t1' t2' ++ [loA f'] ∧ lwJ p l e s m below meth c b D (cells + 2) (slots + 12) (1037, lwL i x6 x7, [.int (nI k)], lwV (stN tx' g1' g2' fn' pg' t1' t2') (moW A P T F G S W th) f' g)) :
    lwJ p l e s m below meth c b D cells slots (1022, lwL i x6 x7, [], lwV (stN tx g1 g2 fn pg t1 t2) (moW A P T F G S W th) f g) := by
  refine lwJ.run X [] 20 (fun K hK => hK _ ?_)
  refine lwJ.sld X h1 ?_
  refine lwJ.run X [] 20 (fun K hK => And.intro (fl_mul _) (hK _ ?_))
  refine lw_callH X (A := stN tx g1 g2 fn pg t1 t2) (B := (moW A P T F G S W th).map (pm_rc (pm_rn qM))) (x := loA f) (y := dbA g) (z := loA f) (kk := 44) rfl rfl (rc30 tx g1 g2 fn pg t1 t2) rfl (Or.inl ⟨rfl, rfl⟩) hM rfl hw_common hy_common nE hc hs (fun v w1 hO => ?_)
  obtain ⟨k, tx', g1', g2', fn', pg', t1', t2', f', rfl, rfl, hJ'⟩ := hr v w1 hO
  exact ⟨stN tx' g1' g2' fn' pg' t1' t2', loA f', rfl, rc30 tx' g1' g2' fn' pg' t1' t2', rfl, rfl, hJ'⟩
end LWH
