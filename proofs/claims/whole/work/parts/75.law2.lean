section LWG
variable {p : Program} {l : Launch} {e : Env} {s : State} {m : MethodId} {below : List Frame} {meth : Method} {c : Code} {b Ln : Nat} {xs : Nat → Int32} {D : va_G} {cells slots : Nat}
abbrev q30 : List Nat := q29 ++ [44]
abbrev q31 : List Nat := q29 ++ [45]
theorem rc30 (a1 : txP) (a2 a3 : trP) (a4 : fnP) (a5 : pgP) (a6 a7 : tbP) : (stN a1 a2 a3 a4 a5 a6 a7).map (pm_rc (pm_rn q30)) = stN a1 a2 a3 a4 a5 a6 a7 := rfl
theorem rc31 (a1 : txP) (a2 a3 : trP) (a4 : fnP) (a5 : pgP) (a6 a7 : tbP) : (stN a1 a2 a3 a4 a5 a6 a7).map (pm_rc (pm_rn q31)) = stN a1 a2 a3 a4 a5 a6 a7 := rfl
theorem pm_bk_app (f : Nat → Nat) : ∀ (q1 : List Nat) (c1 : List pm_E) (w : List pm_E) (q2 : List Nat) (c2 : List pm_E), q1.length = c1.length → pm_bk f w (q1 ++ q2) (c1 ++ c2) = pm_bk f (pm_bk f w q1 c1) q2 c2
  | [], [], w, q2, c2, _ => by rw [List.nil_append, List.nil_append, pm_bk.eq_def f w [] []]
  | [], c :: c1, w, q2, c2, h => by cases h
  | h0 :: q1, [], w, q2, c2, h => by cases h
  | h0 :: q1, c :: c1, w, q2, c2, h => by
    rw [List.cons_append, List.cons_append, pm_bk, pm_bk]
    exact pm_bk_app f q1 c1 _ q2 c2 (by simpa using h)
theorem lw_at44 {A B : List pm_E} (hA : A.length = 29) (hB : B.length = 15) (x y : pm_E) : (A ++ (B ++ [x, y]))[44]? = some x ∧ (A ++ (B ++ [x, y]))[45]? = some y := by
  constructor
  · rw [List.getElem?_append_right (by omega), hA, List.getElem?_append_right (by omega), hB]; rfl
  · rw [List.getElem?_append_right (by omega), hA, List.getElem?_append_right (by omega), hB]; rfl
theorem lw_set44 {A B : List pm_E} (hA : A.length = 29) (hB : B.length = 15) (x y z : pm_E) : (A ++ (B ++ [x, y])).set 44 z = A ++ (B ++ [z, y]) ∧ (A ++ (B ++ [x, y])).set 45 z = A ++ (B ++ [x, z]) := by
  constructor
  · rw [List.set_append_right _ _ (by omega), hA, List.set_append_right _ _ (by omega), hB]; rfl
  · rw [List.set_append_right _ _ (by omega), hA, List.set_append_right _ _ (by omega), hB]; rfl

set_option maxRecDepth 100000 in
theorem lw_callH (X : lwC p l e s m below meth c b Ln xs) {pc ix d' mc' ms' kk : Nat} {L : List (Option Value)} {st rest As : List Value} {A B : List pm_E} {x y z : pm_E} {M' : pm_M} {hh : List (Nat × Nat × Nat × Nat)} {O' : pm_O → List pm_E → Prop}
    (hA : A.length = 29) (hB : B.length = 15) (hrA : A.map (pm_rc (pm_rn (q29 ++ [kk]))) = A) (hrz : pm_rc (pm_rn (q29 ++ [kk])) z = z) (hk : (kk = 44 ∧ z = x) ∨ (kk = 45 ∧ z = y))
    (hM : pm_MetH l M' hh d' mc' ms' As (A ++ [z]) O') (hd : pm_find iL_law.1 pc = some (.invokestatic ix, 3))
    (hw : ∀ w ∈ [Cond.methodLink RL ix M'.1, Cond.static M'.1, Cond.initialized M'.1.cls, Cond.codeWith M'.1 M'.2.1 M'.2.2.1 M'.2.2.2.1 hh], w ∈ pm_tb)
    (hy : M'.1.cls ≠ "java/lang/invoke/MethodHandle" ∧ M'.1.cls ≠ "java/lang/invoke/VarHandle" ∧ (parseMethodDescriptor M'.1.desc).map (fun d => d.parameters.length) = some As.length)
    (nx : ∀ E w1, ¬ O' (.inr E) w1) (hc : cells + mc' ≤ 600128) (hs : slots + ms' ≤ 7301098)
    (kr : ∀ v w1, O' (.inl v) w1 → ∃ A' z', A'.length = 29 ∧ A'.map (pm_rc (pm_rn (q29 ++ [kk]))) = A' ∧ pm_rc (pm_rn (q29 ++ [kk])) z' = z' ∧ w1 = A' ++ [z'] ∧
      lwJ p l e s m below meth c b D (cells + mc') (slots + ms') (pc + 3, L, (v.map (pm_v (pm_rn (q29 ++ [kk])))).toList ++ rest, A' ++ (B ++ (if kk = 44 then [z', y] else [x, z']))))
    (hst : st = (As.map (pm_v (pm_rn (q29 ++ [kk])))).reverse ++ rest := by rfl)
    (hrest : Nat.ble (rest.map Value.category).sum 8 = true := by rfl) (hdd : Nat.ble d' 20 = true := by rfl) (hml : Nat.ble M'.2.2.1 81 = true := by rfl) : lwJ p l e s m below meth c b D cells slots (pc, L, st, A ++ (B ++ [x, y])) := by
  intro ad tI h1 h2 H locs ls hP hD hS hL hK
  have hd2 := Nat.le_of_ble_eq_true hdd
  have hm2 := Nat.le_of_ble_eq_true hml
  have hdg := X.1.dec hd
  have hn : (A ++ (B ++ [x, y])).length = 46 := by rw [List.length_append, List.length_append, hA, hB]; rfl
  have hq29 : q29 = List.range' ([] : List pm_E).length A.length := by rw [hA]; rfl
  have hf : pm_fits (q29 ++ [kk]) (A ++ (B ++ [x, y])) (A ++ [z]) := by
    refine ⟨by rcases hk with h | h <;> (rw [h.1]; rfl), ?_⟩
    rw [List.map_append, List.map_append]
    congr 1
    · have := lw_seg (pm_rn (q29 ++ [kk])) [] A (B ++ [x, y])
      rw [hrA, ← hq29] at this
      exact this
    · show [pm_nth (A ++ (B ++ [x, y])) kk] = [some (pm_rc (pm_rn (q29 ++ [kk])) z)]
      rw [pm_nth_eq, hrz]
      rcases hk with h | h
      · rw [h.1, (lw_at44 hA hB x y).1, h.2]
      · rw [h.1, (lw_at44 hA hB x y).2, h.2]
  have hG : pm_G (pm_A ad 46 s.heap.size) s s.heap := by rw [lw_A h2]; exact X.2.2.2.2.2.2.1
  obtain ⟨hb1, hpre⟩ := pm_start hf hn hP hD hS hK hG As
  subst hst
  have hrun := vx_runSX (hh := hh) (g := F0 m pc ls (((As.map (pm_v (pm_rn (q29 ++ [kk])))).reverse ++ rest).map (pm_v ad))) (rest := rest.map (pm_v ad)) (As := As.map (pm_v (fun k => ad (pm_rn (q29 ++ [kk]) k)))) (cells := cells) (slots := slots) (locs := locs) (below := below) (meth := meth) (e := e) (H := H) (R := room_1)
    (⟨X.1.1, X.1.2.1, X.2.1, X.1.2.2.1, X.1.2.2.2.1⟩ : CallFix p m c cL_law 8 s #[Value.ref b] lw_tbl RL) (hM D (fun k => ad (pm_rn (q29 ++ [kk]) k)) (fun k => tI (pm_rn (q29 ++ [kk]) k)) H.size)
    (vx_cwSW (ws := pm_wh M' hh) As.length X.1.2.2.2.1 (fun w hw' => by
        unfold va_wsS at hw'
        rcases List.mem_append.mp hw' with h | h
        · exact lw_good lw_sub hw w (by simp only [List.mem_cons, List.not_mem_nil, or_false] at h ⊢; first | exact Or.inl h | (rcases h with h | h | h; exact Or.inl h; exact Or.inr (Or.inl h); exact Or.inr (Or.inr (Or.inl h))))
        · rcases List.mem_cons.mp h with h | h
          · exact lw_good lw_sub hw w (by rw [h]; simp)
          · exact ⟨lw_sub _ h, pm_tb_good h⟩) rfl rfl rfl hy ⟨by show d' + 1 ≤ 2048; omega, by show 8 + (M'.2.2.1 + 11) + 100 * d' ≤ 84000; omega⟩)
    ⟨hb1, hpre⟩ rfl (by simp) hL.2.1
    (by show List.map (pm_v ad) _ = _
        rw [List.map_append, List.map_reverse, pm_map_comp]) (lv_room (by rw [pm_cats]; exact Nat.le_of_ble_eq_true hrest)) hdg ⟨hc, hs⟩
  intro T hT XT
  rcases hrun T hT XT with ⟨v, st₀, t, T', L', h0, X', hL', e1, e2, ⟨v', hv', he⟩, hgo⟩ | ⟨qx, st₀, t, T', L', E, ce, h0, X', hL', e1, e2, he, hce, hcv, hcl, hgo⟩
  · have hvm : s.vm.Alike t.vm := by rw [← e2]; exact X'.warmed.alike
    obtain ⟨w1, hO, hl1, a1, a2, a3, a4⟩ := pm_after hf hn h0 hP hD hS hK hvm e1 hL' he
    obtain ⟨A', z', k1, k2, k3, k4, k5⟩ := kr v' w1 hO
    have hbk : pm_bk (pm_rn (q29 ++ [kk])) (A ++ (B ++ [x, y])) (q29 ++ [kk]) w1 = A' ++ (B ++ (if kk = 44 then [z', y] else [x, z'])) := by
      rw [k4, pm_bk_app _ _ _ _ _ _ (by rw [k1]; rfl)]
      have := pm_bk_all (pm_rn (q29 ++ [kk])) A' [] A (B ++ [x, y]) (by rw [hA, k1])
      rw [k1, k2] at this
      have this : pm_bk (pm_rn (q29 ++ [kk])) (A ++ (B ++ [x, y])) q29 A' = A' ++ (B ++ [x, y]) := this
      rw [this]
      show (A' ++ (B ++ [x, y])).set kk (pm_rc (pm_rn (q29 ++ [kk])) z') = _
      rw [k3]
      rcases hk with h | h
      · rw [h.1, (lw_set44 k1 hB x y z').1]; rfl
      · rw [h.1, (lw_set44 k1 hB x y z').2]; rfl
    rw [hbk] at a1 a2 a4
    obtain ⟨t2, b1, b2⟩ := k5 ad tI h1 h2 T'.heap (locs ++ L') ls a1 a2 a3 hL a4 T' rfl X'
    refine ⟨t2, hgo t2 ?_, b2⟩
    cases hv'
    have : (List.map (pm_v ad) ((v'.map (pm_v (pm_rn (q29 ++ [kk])))).toList ++ rest)) = (v'.map (pm_v (fun k => ad (pm_rn (q29 ++ [kk]) k)))).toList ++ rest.map (pm_v ad) := by
      cases v' with
      | none => rfl
      | some z => simp [pm_v_comp]
    dsimp only at b1
    rw [this] at b1
    exact b1
  · obtain ⟨w1, hO, -⟩ := he
    exact absurd hO (nx E w1)
end LWG
