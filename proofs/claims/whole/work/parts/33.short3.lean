section SH3
variable {l : Launch}
/-- a division of whole numbers as floats is a number, unless by 0 -/
def FPd : Prop := ∀ x y : Int32, ¬ y = 0 → vf_n32 (FP.fdiv (FP.i2f x) (FP.i2f y))
theorem c_share (hF : FPd) (hs : l.stackTraces = false) (tx : txP) (g1 g2 : trP) (fn : fnP) (pg : pgP) (t1 t2 : tbP) (x : Int32) (hc : fn.2.2 < 2 ^ 31) :
    pm_Met l mX5_share 7 1 6 [.ref 0, .int x] (stN tx g1 g2 fn pg t1 t2) (fun o w' => w' = stN tx g1 g2 fn pg t1 t2 ∧ ((fn.2.2 = 0 ∧ o = .inr eS) ∨ (fn.2.2 ≠ 0 ∧ o = .inl (some (.float (shF fn.2.1 fn.2.2 x)))))) := by
  refine pm_Met.mk kX5_share hs (pm_J.run [] 40 (fun K hK => hK _ ?_))
  refine pm_J.cP (List.range 29) (c_requireFinds hs tx g1 g2 fn pg t1 t2 hc) gRX5_148 vX5_requireFinds (fun E h => ?_) (fun v h => ?_)
  · rcases h with ⟨h1, h2⟩ | ⟨h1, h2⟩
    · cases h2
    · cases h2; exact ⟨rfl, Or.inl ⟨h1, rfl⟩⟩
  · rcases h with ⟨h1, h2⟩ | ⟨h1, h2⟩
    · cases h2
      refine pm_J.run [] 40 (fun K hK => hK _ ?_)
      refine pm_J.cFG [17, 18, 19] (c_shareOf hs (nA fn.1) fn.2.1 fn.2.2 x hc (fun j hj h0 => hF _ _ (fun z => h0 ((nI_z hc).mp z)))) gRX5_151 vX0_shareOf ?_
      exact pm_J.rfG ⟨rfl, Or.inr ⟨h1, rfl⟩⟩
    · cases h2
/-- both trees' rows are new -/
abbrev onG2 (tx : txP) (fn : fnP) (pg : pgP) (t1 t2 : tbP) (w' : List pm_E) : Prop := ∃ g1' g2', TI g1' ∧ TI g2' ∧ w' = stN tx g1' g2' fn pg t1 t2
theorem c_distance (hs : l.stackTraces = false) (tx : txP) (g1 g2 : trP) (fn : fnP) (pg : pgP) (t1 t2 : tbP) (x y : Int32) (hk : t1.2.2.1 ≤ 7) (hT : TI g1) (hU : TI g2) :
    pm_Met l mX5_distance 7 2 12 [.ref 0, .int x, .int y] (stN tx g1 g2 fn pg t1 t2) (fun o w' => (¬ (okT t1.2.2.1 x ∧ okT t1.2.2.1 y) ∧ o = .inr eI ∧ w' = stN tx g1 g2 fn pg t1 t2) ∨ ((okT t1.2.2.1 x ∧ okT t1.2.2.1 y) ∧ o = .inl (some (.int (nI (notIn (spz t1.2.2.1 x.toNatClampNeg) id (spz t1.2.2.1 y.toNatClampNeg) id (t1.2.2.1 - 3) (t1.2.2.1 - 3) + notIn (spz t1.2.2.1 y.toNatClampNeg) id (spz t1.2.2.1 x.toNatClampNeg) id (t1.2.2.1 - 3) (t1.2.2.1 - 3))))) ∧ onG2 tx fn pg t1 t2 w')) := by
  have ht := tcount_le hk
  refine pm_Met.mk kX5_distance hs (pm_J.run [] 40 (fun K hK => hK _ ?_))
  refine pm_J.cP (List.range 29) (c_requireTree hs tx g1 g2 fn pg t1 t2 x hk) gRX5_112 vX5_requireTree (fun E h => ?_) (fun v h => ?_)
  · rcases h with ⟨h1, h2⟩ | ⟨h1, h2⟩
    · cases h2
    · cases h2; exact Or.inl ⟨fun z => h1 z.1, rfl, rfl⟩
  · rcases h with ⟨h1, h2⟩ | ⟨h1, h2⟩
    · cases h2
      refine pm_J.run [] 40 (fun K hK => hK _ ?_)
      refine pm_J.cP (List.range 29) (c_requireTree hs tx g1 g2 fn pg t1 t2 y hk) gRX5_112 vX5_requireTree (fun E h => ?_) (fun v h => ?_)
      · rcases h with ⟨h3, h2⟩ | ⟨h3, h2⟩
        · cases h2
        · cases h2; exact Or.inl ⟨fun z => h3 z.2, rfl, rfl⟩
      · rcases h with ⟨h3, h2⟩ | ⟨h3, h2⟩
        · cases h2
          obtain ⟨j, hj, rfl⟩ := ok_nat (by omega) h1
          obtain ⟨i, hi, rfl⟩ := ok_nat (by omega) h3
          have hk3 := tcount_3 hj
          have hT2 := gN_I (k := t1.2.2.1) (j := j) (se := g1.2.2.1) hk hT
          have hU2 := gN_I (k := t1.2.2.1) (j := i) (se := g2.2.2.1) hk hU
          refine pm_J.run [] 40 (fun K hK => hK _ ?_)
          refine pm_J.cvG [3, 4, 5, 6, 7, 8, 9] (stN tx (gN t1.2.2.1 j g1 g1.2.2.1) g2 fn pg t1 t2) (gN_grow hs hT hj hk) gRX5_115 vX4_grow ?_
          refine pm_J.run [] 40 (fun K hK => hK _ ?_)
          refine pm_J.cvG [10, 11, 12, 13, 14, 15, 16] (stN tx (gN t1.2.2.1 j g1 g1.2.2.1) (gN t1.2.2.1 i g2 g2.2.2.1) fn pg t1 t2) (gN_grow hs hU hi hk) gRX5_115 vX4_grow ?_
          refine pm_J.run [] 40 (fun K hK => hK _ ?_)
          have hA := c_notIn hs (nA (gN t1.2.2.1 j g1 g1.2.2.1).1) (nA (gN t1.2.2.1 j g1 g1.2.2.1).2.1.1) (nA (gN t1.2.2.1 j g1 g1.2.2.1).2.1.2.1) (grR t1.2.2.1 j g1.1 g1.2.1 g1.2.2.2.1).1.2.2 g1.2.2.1 (grR t1.2.2.1 j g1.1 g1.2.1 g1.2.2.2.1).2 (nA (gN t1.2.2.1 i g2 g2.2.2.1).1) (nA (gN t1.2.2.1 i g2 g2.2.2.1).2.1.1) (nA (gN t1.2.2.1 i g2 g2.2.2.1).2.1.2.1) (grR t1.2.2.1 i g2.1 g2.2.1 g2.2.2.2.1).1.2.2 g2.2.2.1 (grR t1.2.2.1 i g2.1 g2.2.1 g2.2.2.2.1).2 (t1.2.2.1 - 2) (by omega) (by omega) hT2.2.2.2.2.2 hU2.2.2.2.2.2
          rw [notIn_c (sp := spz t1.2.2.1 j) (sp2 := spz t1.2.2.1 i) (fun i hi => grR_sp hU.2.1 hk (by omega)) _ (fun i hi => grR_sp hT.2.1 hk (by omega)), show t1.2.2.1 - 2 - 1 = t1.2.2.1 - 3 by omega] at hA
          refine pm_J.cIG [3, 4, 5, 6, 7, 8, 9, 10, 11, 12, 13, 14, 15, 16] hA gRX5_155 vX4_splitsNotIn ?_
          refine pm_J.run [] 40 (fun K hK => hK _ ?_)
          have hB := c_notIn hs (nA (gN t1.2.2.1 i g2 g2.2.2.1).1) (nA (gN t1.2.2.1 i g2 g2.2.2.1).2.1.1) (nA (gN t1.2.2.1 i g2 g2.2.2.1).2.1.2.1) (grR t1.2.2.1 i g2.1 g2.2.1 g2.2.2.2.1).1.2.2 g2.2.2.1 (grR t1.2.2.1 i g2.1 g2.2.1 g2.2.2.2.1).2 (nA (gN t1.2.2.1 j g1 g1.2.2.1).1) (nA (gN t1.2.2.1 j g1 g1.2.2.1).2.1.1) (nA (gN t1.2.2.1 j g1 g1.2.2.1).2.1.2.1) (grR t1.2.2.1 j g1.1 g1.2.1 g1.2.2.2.1).1.2.2 g1.2.2.1 (grR t1.2.2.1 j g1.1 g1.2.1 g1.2.2.2.1).2 (t1.2.2.1 - 2) (by omega) (by omega) hU2.2.2.2.2.2 hT2.2.2.2.2.2
          rw [notIn_c (sp := spz t1.2.2.1 i) (sp2 := spz t1.2.2.1 j) (fun i hi => grR_sp hT.2.1 hk (by omega)) _ (fun i hi => grR_sp hU.2.1 hk (by omega)), show t1.2.2.1 - 2 - 1 = t1.2.2.1 - 3 by omega] at hB
          refine pm_J.cIG [10, 11, 12, 13, 14, 15, 16, 3, 4, 5, 6, 7, 8, 9] hB gRX5_155 vX4_splitsNotIn ?_
          refine pm_J.run [] 40 (fun K hK => hK _ ?_)
          refine pm_J.riG (Or.inr ⟨⟨h1, h3⟩, ?_, _, _, hT2, hU2, rfl⟩)
          rw [nI_clamp (by omega), nI_clamp (by omega), ← nI_add]
        · cases h2
    · cases h2
/-- the two measures of a tree -/
def coF (le len : Nat) : UInt32 := if len = 0 then FP.fconst1 else FP.fdiv (FP.i2f (nI le)) (FP.i2f (nI len))
def reF (mo le len : Nat) : UInt32 := if nI mo - nI le = 0 then FP.fconst1 else FP.fdiv (FP.i2f (nI mo - nI len)) (FP.i2f (nI mo - nI le))
theorem c_consistency (hF : FPd) (hs : l.stackTraces = false) (tx : txP) (g1 g2 : trP) (fn : fnP) (pg : pgP) (t1 t2 : tbP) (x : Int32) (hk : t1.2.2.1 ≤ 7) (hc : t1.2.2.2 ≤ 16) (hw : Bd t1.2.1) (hT : TI g1) :
    pm_Met l mX5_consistency 7 1 6 [.ref 0, .int x] (stN tx g1 g2 fn pg t1 t2) (fun o w' => (¬ okT t1.2.2.1 x ∧ o = .inr eI ∧ w' = stN tx g1 g2 fn pg t1 t2) ∨ (okT t1.2.2.1 x ∧ o = .inl (some (.float (coF (leastS t1.1 t1.2.1 t1.2.2.1 t1.2.2.2) (lenT t1.1 t1.2.1 t1.2.2.1 t1.2.2.2 x.toNatClampNeg)))) ∧ onG tx g2 fn pg t1 t2 w')) := by
  have ht := tcount_le hk
  refine pm_Met.mk kX5_consistency hs (pm_J.run [] 40 (fun K hK => hK _ ?_))
  refine pm_J.cP (List.range 29) (c_requireTree hs tx g1 g2 fn pg t1 t2 x hk) gRX5_112 vX5_requireTree (fun E h => ?_) (fun v h => ?_)
  · rcases h with ⟨h1, h2⟩ | ⟨h1, h2⟩
    · cases h2
    · cases h2; exact Or.inl ⟨h1, rfl, rfl⟩
  · rcases h with ⟨h1, h2⟩ | ⟨h1, h2⟩
    · cases h2
      obtain ⟨j, hj, rfl⟩ := ok_nat (by omega) h1
      have hk3 := tcount_3 hj
      have hM := c_measure hs g1.1 g1.2.1 g1.2.2.1 g1.2.2.2.1 g1.2.2.2.2 j t1.1 t1.2.1 t1.2.2.1 t1.2.2.2 hT (by omega) hk3 hk hc
      rw [pk_canon t1.1 g1.2.2.1 hT.2.1 hk3 hk hj] at hM
      have hlt : lenT t1.1 t1.2.1 t1.2.2.1 t1.2.2.2 j < 2 ^ 30 := lenT_lt hw hc
      have ej : (nI j).toNatClampNeg = j := nI_clamp (by omega)
      refine pm_J.run [] 40 (fun K hK => hK _ ?_)
      refine pm_J.ciwG [3, 4, 5, 6, 7, 8, 9, 23, 24, 25] (stN tx (gN t1.2.2.1 j g1 (pkS (grR t1.2.2.1 j g1.1 g1.2.1 g1.2.2.2.1).1.1 (grR t1.2.2.1 j g1.1 g1.2.1 g1.2.2.2.1).1.2.1 (grR t1.2.2.1 j g1.1 g1.2.1 g1.2.2.2.1).2 (seF t1.1 g1.2.2.1 t1.2.2.1) (t1.2.2.1 - 2)).2.2) g2 fn pg t1 t2) hM gRX5_127 vX4_growAndMeasure ?_
      rw [ej]
      refine pm_J.run [] 40 (fun K hK => And.intro (fun q => hK _ ?_) (fun q => hK _ ?_))
      · have q' : ¬ nI (lenT t1.1 t1.2.1 t1.2.2.1 t1.2.2.2 j) = 0 := q
        refine pm_J.cIG [23, 24, 25] (c_least hs t1.1 t1.2.1 t1.2.2.1 t1.2.2.2 hk hc) gRX5_159 vX2_least ?_
        refine pm_J.run [] 40 (fun K hK => And.intro (hF _ _ q') (hK _ ?_))
        refine pm_J.rfG (Or.inr ⟨h1, ?_, _, gN_I hk hT, rfl⟩)
        rw [nI_z (by omega)] at q'
        rw [coF, if_neg q']
        rfl
      · have q' : ¬ ¬ nI (lenT t1.1 t1.2.1 t1.2.2.1 t1.2.2.2 j) = 0 := q
        rw [nI_z (by omega)] at q'
        exact pm_J.rfG (Or.inr ⟨h1, by rw [coF, if_pos (Classical.not_not.mp q')], _, gN_I hk hT, rfl⟩)
    · cases h2
theorem c_retention (hF : FPd) (hs : l.stackTraces = false) (tx : txP) (g1 g2 : trP) (fn : fnP) (pg : pgP) (t1 t2 : tbP) (x : Int32) (hk : t1.2.2.1 ≤ 7) (hc : t1.2.2.2 ≤ 16) (hT : TI g1) :
    pm_Met l mX5_retention 7 1 6 [.ref 0, .int x] (stN tx g1 g2 fn pg t1 t2) (fun o w' => (¬ okT t1.2.2.1 x ∧ o = .inr eI ∧ w' = stN tx g1 g2 fn pg t1 t2) ∨ (okT t1.2.2.1 x ∧ o = .inl (some (.float (reF (mostS t1.1 t1.2.1 t1.2.2.1 t1.2.2.2) (leastS t1.1 t1.2.1 t1.2.2.1 t1.2.2.2) (lenT t1.1 t1.2.1 t1.2.2.1 t1.2.2.2 x.toNatClampNeg)))) ∧ onG tx g2 fn pg t1 t2 w')) := by
  have ht := tcount_le hk
  refine pm_Met.mk kX5_retention hs (pm_J.run [] 40 (fun K hK => hK _ ?_))
  refine pm_J.cP (List.range 29) (c_requireTree hs tx g1 g2 fn pg t1 t2 x hk) gRX5_112 vX5_requireTree (fun E h => ?_) (fun v h => ?_)
  · rcases h with ⟨h1, h2⟩ | ⟨h1, h2⟩
    · cases h2
    · cases h2; exact Or.inl ⟨h1, rfl, rfl⟩
  · rcases h with ⟨h1, h2⟩ | ⟨h1, h2⟩
    · cases h2
      obtain ⟨j, hj, rfl⟩ := ok_nat (by omega) h1
      have hk3 := tcount_3 hj
      have hM := c_measure hs g1.1 g1.2.1 g1.2.2.1 g1.2.2.2.1 g1.2.2.2.2 j t1.1 t1.2.1 t1.2.2.1 t1.2.2.2 hT (by omega) hk3 hk hc
      rw [pk_canon t1.1 g1.2.2.1 hT.2.1 hk3 hk hj] at hM
      have ej : (nI j).toNatClampNeg = j := nI_clamp (by omega)
      refine pm_J.run [] 40 (fun K hK => hK _ ?_)
      refine pm_J.ciwG [3, 4, 5, 6, 7, 8, 9, 23, 24, 25] (stN tx (gN t1.2.2.1 j g1 (pkS (grR t1.2.2.1 j g1.1 g1.2.1 g1.2.2.2.1).1.1 (grR t1.2.2.1 j g1.1 g1.2.1 g1.2.2.2.1).1.2.1 (grR t1.2.2.1 j g1.1 g1.2.1 g1.2.2.2.1).2 (seF t1.1 g1.2.2.1 t1.2.2.1) (t1.2.2.1 - 2)).2.2) g2 fn pg t1 t2) hM gRX5_127 vX4_growAndMeasure ?_
      rw [ej]
      refine pm_J.run [] 40 (fun K hK => hK _ ?_)
      refine pm_J.cIG [23, 24, 25] (c_most hs t1.1 t1.2.1 t1.2.2.1 t1.2.2.2 hk hc) gRX5_162 vX2_most ?_
      refine pm_J.run [] 40 (fun K hK => hK _ ?_)
      refine pm_J.cIG [23, 24, 25] (c_least hs t1.1 t1.2.1 t1.2.2.1 t1.2.2.2 hk hc) gRX5_159 vX2_least ?_
      refine pm_J.run [] 40 (fun K hK => And.intro (fun q => ?_) (fun q => hK _ ?_))
      · have q' : ¬ nI (mostS t1.1 t1.2.1 t1.2.2.1 t1.2.2.2) - nI (leastS t1.1 t1.2.1 t1.2.2.1 t1.2.2.2) = 0 := q
        refine And.intro (hF _ _ q') (hK _ ?_)
        refine pm_J.rfG (Or.inr ⟨h1, ?_, _, gN_I hk hT, rfl⟩)
        rw [reF, if_neg q']
        rfl
      · have q' : ¬ ¬ nI (mostS t1.1 t1.2.1 t1.2.2.1 t1.2.2.2) - nI (leastS t1.1 t1.2.1 t1.2.2.1 t1.2.2.2) = 0 := q
        exact pm_J.rfG (Or.inr ⟨h1, by rw [reF, if_pos (Classical.not_not.mp q')], _, gN_I hk hT, rfl⟩)
    · cases h2
end SH3
