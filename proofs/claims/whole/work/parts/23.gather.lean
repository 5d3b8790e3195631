section GAT
variable {l : Launch} {I : pm_I} {M : pm_M} {d mc ms n : Nat} {O : pm_O → List pm_E → Prop}
/-- a call whose end is told by a relation -/
theorem pm_J.cvR {pc ix ci k0 d' : Nat} {L : List (Option Value)} {st rest As : List Value} {w wc : List pm_E} {M' : pm_M} {fs : List Value} {qc : vw_C} {v : Option Value} {Rl : List pm_E → Prop} (q : List Nat)
    (hM : pm_Met l M' d' 0 0 (.ref k0 :: As) wc (fun o w' => o = .inl v ∧ Rl w'))
    (hw : ∀ x ∈ wsV M.2.2.2.2 ix qc.1 M'.1 [Cond.code M'.1 M'.2.1 M'.2.2.1 M'.2.2.2.1], x ∈ pm_tb)
    (hy : M'.1.cls = qc.1 ∧ M'.1.cls ≠ "java/lang/invoke/MethodHandle" ∧ M'.1.cls ≠ "java/lang/invoke/VarHandle" ∧ (parseMethodDescriptor M'.1.desc).map (fun d => d.parameters.length) = some As.length)
    (kr : ∀ w1, Rl w1 → pm_J l M I d mc ms n O 0 0 (pc + 3, L, (v.map (pm_v (pm_rn q))).toList ++ rest, pm_bk (pm_rn q) w q w1))
    (hd : pm_find I.1 pc = some (.invokevirtual ix, 3) := by rfl) (hst : st = ((Value.ref k0 :: As).map (pm_v (pm_rn q))).reverse ++ rest := by rfl) (hf1 : va_nd q = true := by rfl) (hf2 : q.map (fun h => pm_nth w h) = wc.map (fun c => some (pm_rc (pm_rn q) c)) := by rfl) (hn : w.length = n := by rfl) (hr : wc[k0]? = some (.inr (ci, fs)) := by rfl) (hqc : vwCl[ci]? = some qc := by rfl)
    (hrest : Nat.ble (rest.map Value.category).sum 8 = true := by rfl) (hdd : Nat.ble (d' + 1) d = true := by rfl) (hml : Nat.ble M'.2.2.1 81 = true := by rfl) : pm_J l M I d mc ms n O 0 0 (pc, L, st, w) :=
  pm_J.call q hM hd hw hy hst ⟨hf1, hf2⟩ hn hr hqc (Nat.le_of_ble_eq_true hrest) (Nat.le_of_ble_eq_true hdd) (Nat.le_of_ble_eq_true hml) (Nat.zero_le _) (Nat.zero_le _) (fun E w1 h _ => by cases h.1) (fun v' w1' h _ => by obtain ⟨h1, h2⟩ := h; cases h1; exact kr _ h2)
set_option maxHeartbeats 1000000 in
theorem c_gather (hs : l.stackTraces = false) (nu ta : Nat → Nat) (cnt : Int32) (r : Nat → Int64) (wt : Nat → Nat) (k c : Nat) (ch : Nat → Nat) (s : trS) (se : Nat → Int64) (od : Nat → Nat) (inn : Nat) (hT : TrI ch s od) (hk3 : 3 ≤ k) (hk : k ≤ 7) (hc : c ≤ 16) (hw : Bd wt) :
    pm_Met l mX0_gather 6 0 0 [.ref 0, .ref 3, .ref 6] (fnW (nA nu) (nA ta) cnt ++ (tbAt 3 r wt k c ++ trAt' 6 ch s se od inn))
      (fun o w' => o = .inl (some (.int (nI (gaS (lenT r wt k c) nu (tcount k)).1))) ∧ ∃ ch2 s2 se2 od2 inn2, TrI ch2 s2 od2 ∧ w' = fnW (nA (gaS (lenT r wt k c) nu (tcount k)).2.2) (nA (taS k (gaS (lenT r wt k c) nu (tcount k)).2.2 (fun j => if j < 128 then 0 else ta j) (gaS (lenT r wt k c) nu (tcount k)).2.1)) (nI (gaS (lenT r wt k c) nu (tcount k)).2.1) ++ (tbAt 3 r wt k c ++ trAt' 6 ch2 s2 se2 od2 inn2)) := by
  refine pm_Met.mk kX0_gather hs (pm_J.run [] 20 (fun K hK => hK _ ?_))
  have ht : tcount k ≤ 945 := by
    have hk' : k = 3 ∨ k = 4 ∨ k = 5 ∨ k = 6 ∨ k = 7 := by omega
    rcases hk' with rfl | rfl | rfl | rfl | rfl <;> decide
  refine pm_J.cI [3, 4, 5] (c_treeCount hs r wt k c hk) gRX0_22 vX2_treeCount ?_
  refine pm_J.run [16] 20 (fun K hK => hK _ ?_)
  generalize hO : (fun (o : pm_O) (w' : List pm_E) => o = .inl (some (.int (nI (gaS (lenT r wt k c) nu (tcount k)).1))) ∧ ∃ ch2 s2 se2 od2 inn2, TrI ch2 s2 od2 ∧ w' = fnW (nA (gaS (lenT r wt k c) nu (tcount k)).2.2) (nA (taS k (gaS (lenT r wt k c) nu (tcount k)).2.2 (fun j => if j < 128 then 0 else ta j) (gaS (lenT r wt k c) nu (tcount k)).2.1)) (nI (gaS (lenT r wt k c) nu (tcount k)).2.1) ++ (tbAt 3 r wt k c ++ trAt' 6 ch2 s2 se2 od2 inn2)) = O
  have key : ∀ ch s se od inn, TrI ch s od → ∀ x6, pm_J l mX0_gather iX0_gather 6 0 0 13 O 0 0 (16, [some (.ref 0), some (.ref 3), some (.ref 6), some (.int (nI (tcount k))), some (.int (nI (gaS (lenT r wt k c) nu 0).1)), some (.int (nI 0)), x6], [], fnW (nA (gaS (lenT r wt k c) nu 0).2.2) (nA ta) (nI (gaS (lenT r wt k c) nu 0).2.1) ++ (tbAt 3 r wt k c ++ trAt' 6 ch s se od inn)) := by
    refine pm_up (b := tcount k) (P := fun i => ∀ ch s se od inn, TrI ch s od → ∀ x6, pm_J l mX0_gather iX0_gather 6 0 0 13 O 0 0 (16, [some (.ref 0), some (.ref 3), some (.ref 6), some (.int (nI (tcount k))), some (.int (nI (gaS (lenT r wt k c) nu i).1)), some (.int (nI i)), x6], [], fnW (nA (gaS (lenT r wt k c) nu i).2.2) (nA ta) (nI (gaS (lenT r wt k c) nu i).2.1) ++ (tbAt 3 r wt k c ++ trAt' 6 ch s se od inn))) 0 (Nat.zero_le _) (fun ch s se od inn hT x6 => ?_) (fun i h1 h2 ih ch s se od inn hT x6 => ?_)
    · refine pm_J.run [16] 20 (fun K hK => br_t (nI_le (Nat.le_refl _) (by omega)) (hK _ ?_))
      have hle := gaS_le (lenT r wt k c) nu (tcount k)
      refine pm_J.cvR [0, 1, 2, 6, 7, 8, 9, 10, 11, 12] (c_tally hs (gaS (lenT r wt k c) nu (tcount k)).2.2 ta (gaS (lenT r wt k c) nu (tcount k)).2.1 k ch s se od inn hT hk3 hk (by omega) (fun j hj => by have := gaS_num (f := lenT r wt k c) (nu := nu) (tcount k) j hj; omega)) gRX0_37 vX0_tallySplits (fun w1 hw1 => ?_)
      obtain ⟨ch2, s2, se2, od2, inn2, hT2, rfl⟩ := hw1
      refine pm_J.run [] 20 (fun K hK => hK _ ?_)
      refine pm_J.ri ?_
      rw [← hO]
      exact ⟨rfl, ch2, s2, se2, od2, inn2, hT2, rfl⟩
    · have hT2 := grR_I (x := i) hk hT
      have hM := c_measure hs ch s se od inn i r wt k c hT (by omega) hk3 hk hc
      rw [pk_canon r se hT.2.1 hk3 hk h2] at hM
      refine pm_J.run [16] 20 (fun K hK => br_f (nI_ge h2 (by omega)) (hK _ ?_))
      refine pm_J.ciw [6, 7, 8, 9, 10, 11, 12, 3, 4, 5] (fnW (nA (gaS (lenT r wt k c) nu i).2.2) (nA ta) (nI (gaS (lenT r wt k c) nu i).2.1) ++ (tbAt 3 r wt k c ++ trAt' 6 (choF k i ch) (grR k i ch s od).1 (pkS (grR k i ch s od).1.1 (grR k i ch s od).1.2.1 (grR k i ch s od).2 (seF r se k) (k - 2)).2.2 (grR k i ch s od).2 (k - 2))) hM gRX0_28 vX4_growAndMeasure ?_
      generalize (pkS (grR k i ch s od).1.1 (grR k i ch s od).1.2.1 (grR k i ch s od).2 (seF r se k) (k - 2)).2.2 = se3 at *
      have hcl := gaS_le (lenT r wt k c) nu i
      have hml := gaS_min (f := lenT r wt k c) (nu := nu) (B := 2 ^ 30) (by decide) (fun j => lenT_lt hw hc) i
      have hfi : lenT r wt k c i < 2 ^ 30 := lenT_lt hw hc
      show pm_J l mX0_gather iX0_gather 6 0 0 13 O 0 0 (_, _, .int (nI (lenT r wt k c i)) :: _, _)
      have ih2 := ih _ _ se3 _ (k - 2) hT2 (some (.int (nI (lenT r wt k c i))))
      rw [gaS] at ih2
      generalize hg : gaS (lenT r wt k c) nu i = g at hcl hml ih2 ⊢
      obtain ⟨g1, g2, g3⟩ := g
      dsimp only at hcl hml ih2 ⊢
      generalize lenT r wt k c i = fi at hfi ih2 ⊢
      have later : ∀ a b, a < 2 ^ 30 → b ≤ i → (fi = a → pm_J l mX0_gather iX0_gather 6 0 0 13 O 0 0 (16, [some (.ref 0), some (.ref 3), some (.ref 6), some (.int (nI (tcount k))), some (.int (nI a)), some (.int (nI i + nI 1)), some (.int (nI fi))], [], fnW (upd (nA g3) b (nI i)) (nA ta) (nI b + nI 1) ++ (tbAt 3 r wt k c ++ trAt' 6 (choF k i ch) (grR k i ch s od).1 se3 (grR k i ch s od).2 (k - 2)))) → (¬ fi = a → pm_J l mX0_gather iX0_gather 6 0 0 13 O 0 0 (16, [some (.ref 0), some (.ref 3), some (.ref 6), some (.int (nI (tcount k))), some (.int (nI a)), some (.int (nI i + nI 1)), some (.int (nI fi))], [], fnW (nA g3) (nA ta) (nI b) ++ (tbAt 3 r wt k c ++ trAt' 6 (choF k i ch) (grR k i ch s od).1 se3 (grR k i ch s od).2 (k - 2)))) →
          pm_J l mX0_gather iX0_gather 6 0 0 13 O 0 0 (54, [some (.ref 0), some (.ref 3), some (.ref 6), some (.int (nI (tcount k))), some (.int (nI a)), some (.int (nI i)), some (.int (nI fi))], [], fnW (nA g3) (nA ta) (nI b) ++ (tbAt 3 r wt k c ++ trAt' 6 (choF k i ch) (grR k i ch s od).1 se3 (grR k i ch s od).2 (k - 2))) := by
        intro a b ha hb y1 y2
        refine pm_J.run [16] 20 (fun K hK => And.intro (fun q => hK _ ?_) (fun q => And.intro (vp_in_nI (by omega) (by decide)) (hK _ ?_)))
        · have q' : ¬ nI fi = nI a := q
          rw [nI_eq (by omega) (by omega)] at q'
          exact y2 q'
        · have q' : ¬ ¬ nI fi = nI a := q
          rw [nI_eq (by omega) (by omega)] at q'
          have := y1 (Classical.not_not.mp q')
          rw [nI_clamp (by omega)]
          exact this
      have fresh : (g2 = 0 ∨ fi < g1) → pm_J l mX0_gather iX0_gather 6 0 0 13 O 0 0 (45, [some (.ref 0), some (.ref 3), some (.ref 6), some (.int (nI (tcount k))), some (.int (nI g1)), some (.int (nI i)), some (.int (nI fi))], [], fnW (nA g3) (nA ta) (nI g2) ++ (tbAt 3 r wt k c ++ trAt' 6 (choF k i ch) (grR k i ch s od).1 se3 (grR k i ch s od).2 (k - 2))) := by
        intro hq
        rw [if_pos hq] at ih2
        dsimp only at ih2
        rw [← nA_upd, ← nI_add i 1] at ih2
        refine pm_J.run [54] 20 (fun K hK => hK _ ?_)
        refine later fi 0 hfi (Nat.zero_le _) (fun _ => ?_) (fun z => absurd rfl z)
        rw [nI_add 0 1]
        exact ih2
      refine pm_J.run [45, 54] 20 (fun K hK => And.intro (fun q => hK _ ?_) (fun q => And.intro (fun q2 => hK _ ?_) (fun q2 => hK _ ?_)))
      · have q' : nI g2 = 0 := q
        rw [nI_z (by omega)] at q'
        exact fresh (Or.inl q')
      · have q' : ¬ nI g2 = 0 := q
        have q2' : nI g1 ≤ nI fi := q2
        rw [nI_z (by omega)] at q'
        rw [nI_leI (by omega) (by omega)] at q2'
        have hq : ¬ (g2 = 0 ∨ fi < g1) := by omega
        rw [if_neg hq] at ih2
        refine later g1 g2 hml hcl (fun z => ?_) (fun z => ?_)
        · rw [if_pos z] at ih2
          dsimp only at ih2
          rw [← nA_upd, ← nI_add i 1, ← nI_add g2 1] at ih2
          exact ih2
        · rw [if_neg z] at ih2
          dsimp only at ih2
          rw [← nI_add i 1] at ih2
          exact ih2
      · have q2' : ¬ nI g1 ≤ nI fi := q2
        rw [nI_leI (by omega) (by omega)] at q2'
        exact fresh (Or.inr (by omega))
  exact key ch s se od inn hT none
end GAT
