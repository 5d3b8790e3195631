section SH2
variable {l : Launch}
/-- the tree of a number in the place of an older one -/
abbrev gN (k j : Nat) (g : trP) (se : Nat → Int64) : trP := (choF k j g.1, (grR k j g.1 g.2.1 g.2.2.2.1).1, se, (grR k j g.1 g.2.1 g.2.2.2.1).2, k - 2)
theorem gN_I {k j : Nat} {g : trP} {se : Nat → Int64} (hk : k ≤ 7) (h : TI g) : TI (gN k j g se) := grR_I hk h
theorem gN_grow {k j : Nat} {g : trP} (hs : l.stackTraces = false) (hT : TI g) (hj : j < tcount k) (hk : k ≤ 7) : pm_Met l mX4_grow 3 0 0 [.ref 0, .int (nI j), .int (nI k)] (trW' g.1 g.2.1 g.2.2.1 g.2.2.2.1 g.2.2.2.2) (isO none (trW' (gN k j g g.2.2.1).1 (gN k j g g.2.2.1).2.1 g.2.2.1 (gN k j g g.2.2.1).2.2.2.1 (k - 2))) := by
  obtain ⟨u1, u2, u3, u4, u5, u6⟩ := id hT
  have := tcount_le hk
  exact c_grow hs g.1 g.2.1 g.2.2.1 g.2.2.2.1 g.2.2.2.2 j k u1 u2 ⟨u3.Bd, u4.Bd, u5⟩ (by omega) (tcount_3 hj) hk
/-- all as before, but for the first tree's rows -/
abbrev onG (tx : txP) (g2 : trP) (fn : fnP) (pg : pgP) (t1 t2 : tbP) (w' : List pm_E) : Prop := ∃ g1', TI g1' ∧ w' = stN tx g1' g2 fn pg t1 t2
theorem c_length (hs : l.stackTraces = false) (tx : txP) (g1 g2 : trP) (fn : fnP) (pg : pgP) (t1 t2 : tbP) (x : Int32) (hk : t1.2.2.1 ≤ 7) (hc : t1.2.2.2 ≤ 16) (hT : TI g1) :
    pm_Met l mX5_length 7 1 6 [.ref 0, .int x] (stN tx g1 g2 fn pg t1 t2) (fun o w' => (¬ okT t1.2.2.1 x ∧ o = .inr eI ∧ w' = stN tx g1 g2 fn pg t1 t2) ∨ (okT t1.2.2.1 x ∧ o = .inl (some (.int (nI (lenT t1.1 t1.2.1 t1.2.2.1 t1.2.2.2 x.toNatClampNeg)))) ∧ onG tx g2 fn pg t1 t2 w')) := by
  have ht := tcount_le hk
  refine pm_Met.mk kX5_length hs (pm_J.run [] 40 (fun K hK => hK _ ?_))
  refine pm_J.cP (List.range 29) (c_requireTree hs tx g1 g2 fn pg t1 t2 x hk) gRX5_112 vX5_requireTree (fun E h => ?_) (fun v h => ?_)
  · rcases h with ⟨h1, h2⟩ | ⟨h1, h2⟩
    · cases h2
    · cases h2; exact Or.inl ⟨h1, rfl, rfl⟩
  · rcases h with ⟨h1, h2⟩ | ⟨h1, h2⟩
    · cases h2
      obtain ⟨j, hj, rfl⟩ := ok_nat (by omega) h1
      have hk3 := tcount_3 hj
      have hM := c_measure hs g1.1 g1.2.1 g1.2.2.1 g1.2.2.2.1 g1.2.2.2.2 j t1.1 t1.2.1 t1.2.2.1 t1.2.2.2 hT (by omega) hk3 hk hc
      rw [pk_canon t1.1 g1.2.2.1 hT.2.1 hk3 hk hj] at hM
      refine pm_J.run [] 40 (fun K hK => hK _ ?_)
      refine pm_J.ciwG [3, 4, 5, 6, 7, 8, 9, 23, 24, 25] (stN tx (gN t1.2.2.1 j g1 (pkS (grR t1.2.2.1 j g1.1 g1.2.1 g1.2.2.2.1).1.1 (grR t1.2.2.1 j g1.1 g1.2.1 g1.2.2.2.1).1.2.1 (grR t1.2.2.1 j g1.1 g1.2.1 g1.2.2.2.1).2 (seF t1.1 g1.2.2.1 t1.2.2.1) (t1.2.2.1 - 2)).2.2) g2 fn pg t1 t2) hM gRX5_127 vX4_growAndMeasure ?_
      refine pm_J.riG (Or.inr ⟨h1, ?_, _, gN_I hk hT, rfl⟩)
      rw [nI_clamp (by omega)]
      rfl
    · cases h2
theorem c_changes (hs : l.stackTraces = false) (tx : txP) (g1 g2 : trP) (fn : fnP) (pg : pgP) (t1 t2 : tbP) (x y : Int32) (hk : t1.2.2.1 ≤ 7) (hc : t1.2.2.2 ≤ 16) (hT : TI g1) :
    pm_Met l mX5_changes 7 2 12 [.ref 0, .int x, .int y] (stN tx g1 g2 fn pg t1 t2) (fun o w' => (¬ (okT t1.2.2.1 x ∧ okC t1.2.2.2 y) ∧ o = .inr eI ∧ w' = stN tx g1 g2 fn pg t1 t2) ∨ ((okT t1.2.2.1 x ∧ okC t1.2.2.2 y) ∧ o = .inl (some (.int (nI (lane (lenP t1.1 t1.2.2.1 x.toNatClampNeg) y.toNatClampNeg)))) ∧ onG tx g2 fn pg t1 t2 w')) := by
  have ht := tcount_le hk
  refine pm_Met.mk kX5_changes hs (pm_J.run [] 40 (fun K hK => hK _ ?_))
  refine pm_J.cP (List.range 29) (c_requireTree hs tx g1 g2 fn pg t1 t2 x hk) gRX5_112 vX5_requireTree (fun E h => ?_) (fun v h => ?_)
  · rcases h with ⟨h1, h2⟩ | ⟨h1, h2⟩
    · cases h2
    · cases h2; exact Or.inl ⟨fun z => h1 z.1, rfl, rfl⟩
  · rcases h with ⟨h1, h2⟩ | ⟨h1, h2⟩
    · cases h2
      refine pm_J.run [] 40 (fun K hK => hK _ ?_)
      refine pm_J.cP (List.range 29) (c_requireCharacter hs tx g1 g2 fn pg t1 t2 y) gRX5_96 vX5_requireCharacter (fun E h => ?_) (fun v h => ?_)
      · rcases h with ⟨h3, h2⟩ | ⟨h3, h2⟩
        · cases h2
        · cases h2; exact Or.inl ⟨fun z => h3 z.2, rfl, rfl⟩
      · rcases h with ⟨h3, h2⟩ | ⟨h3, h2⟩
        · cases h2
          obtain ⟨j, hj, rfl⟩ := ok_nat (by omega) h1
          obtain ⟨b, hb, rfl⟩ := ok_nat (by omega) h3
          have hk3 := tcount_3 hj
          have hT2 := gN_I (k := t1.2.2.1) (j := j) (se := g1.2.2.1) hk hT
          refine pm_J.run [] 40 (fun K hK => hK _ ?_)
          refine pm_J.cvG [3, 4, 5, 6, 7, 8, 9] (stN tx (gN t1.2.2.1 j g1 g1.2.2.1) g2 fn pg t1 t2) (gN_grow hs hT hj hk) gRX5_115 vX4_grow ?_
          have hM := c_packed hs (nA (gN t1.2.2.1 j g1 g1.2.2.1).1) (nA (gN t1.2.2.1 j g1 g1.2.2.1).2.1.2.2) (grR t1.2.2.1 j g1.1 g1.2.1 g1.2.2.2.1).1.1 (grR t1.2.2.1 j g1.1 g1.2.1 g1.2.2.2.1).1.2.1 (grR t1.2.2.1 j g1.1 g1.2.1 g1.2.2.2.1).2 g1.2.2.1 (t1.2.2.1 - 2) t1.1 t1.2.1 t1.2.2.1 t1.2.2.2 hk (by omega) hT2.2.2.1 hT2.2.2.2.1 hT2.2.2.2.2.2
          rw [pk_canon t1.1 g1.2.2.1 hT.2.1 hk3 hk hj] at hM
          refine pm_J.run [] 40 (fun K hK => hK _ ?_)
          refine pm_J.cLwG [3, 4, 5, 6, 7, 8, 9, 23, 24, 25] (stN tx (gN t1.2.2.1 j g1 (pkS (grR t1.2.2.1 j g1.1 g1.2.1 g1.2.2.2.1).1.1 (grR t1.2.2.1 j g1.1 g1.2.1 g1.2.2.2.1).1.2.1 (grR t1.2.2.1 j g1.1 g1.2.1 g1.2.2.2.1).2 (seF t1.1 g1.2.2.1 t1.2.2.1) (t1.2.2.1 - 2)).2.2) g2 fn pg t1 t2) hM gRX5_119 vX4_packedChanges ?_
          refine pm_J.run [] 40 (fun K hK => hK _ ?_)
          refine pm_J.cIG [23, 24, 25] (c_bitsOf hs (tbW t1.1 t1.2.1 t1.2.2.1 t1.2.2.2) (lenP t1.1 t1.2.2.1 j) b (by omega)) gRX5_123 vX2_bitsOf ?_
          refine pm_J.riG (Or.inr ⟨⟨h1, h3⟩, ?_, _, gN_I hk hT, rfl⟩)
          rw [nI_clamp (by omega), nI_clamp (by omega)]
        · cases h2
    · cases h2
theorem c_search (hs : l.stackTraces = false) (tx : txP) (g1 g2 : trP) (fn : fnP) (pg : pgP) (t1 t2 : tbP) (hk : t1.2.2.1 ≤ 7) (hc : t1.2.2.2 ≤ 16) (hw : Bd t1.2.1) (hT : TI g1) :
    pm_Met l mX5_search 7 1 6 [.ref 0] (stN tx g1 g2 fn pg t1 t2) (fun o w' => (t1.2.2.1 < 3 ∧ o = .inr eS ∧ w' = stN tx g1 g2 fn pg t1 t2) ∨ (3 ≤ t1.2.2.1 ∧ o = .inl (some (.int (nI (gaS (lenT t1.1 t1.2.1 t1.2.2.1 t1.2.2.2) fn.1 (tcount t1.2.2.1)).1))) ∧
      onG tx g2 ((gaS (lenT t1.1 t1.2.1 t1.2.2.1 t1.2.2.2) fn.1 (tcount t1.2.2.1)).2.2, taS t1.2.2.1 (gaS (lenT t1.1 t1.2.1 t1.2.2.1 t1.2.2.2) fn.1 (tcount t1.2.2.1)).2.2 (fun j => if j < 128 then 0 else fn.2.1 j) (gaS (lenT t1.1 t1.2.1 t1.2.2.1 t1.2.2.2) fn.1 (tcount t1.2.2.1)).2.1, (gaS (lenT t1.1 t1.2.1 t1.2.2.1 t1.2.2.2) fn.1 (tcount t1.2.2.1)).2.1) pg t1 t2 w')) := by
  have ht := tcount_le hk
  refine pm_Met.mk kX5_search hs (pm_J.run [] 40 (fun K hK => hK _ ?_))
  refine pm_J.cI [23, 24, 25] (c_treeCount hs t1.1 t1.2.1 t1.2.2.1 t1.2.2.2 hk) gRX5_109 vX2_treeCount ?_
  refine pm_J.run [] 40 (fun K hK => And.intro (fun q => hK _ ?_) (fun q => hK _ ?_))
  · have q' : ¬ nI (tcount t1.2.2.1) = 0 := q
    rw [nI_z (by omega)] at q'
    have hk3 : 3 ≤ t1.2.2.1 := tcount_3 (x := 0) (by omega)
    refine pm_J.cR [17, 18, 19, 23, 24, 25, 3, 4, 5, 6, 7, 8, 9] (c_gather hs fn.1 fn.2.1 (nI fn.2.2) t1.1 t1.2.1 t1.2.2.1 t1.2.2.2 g1.1 g1.2.1 g1.2.2.1 g1.2.2.2.1 g1.2.2.2.2 hT hk3 hk hc hw) gRX5_133 vX0_gather (fun E w1 h => by cases h.1) (fun v w1 h => ?_)
    obtain ⟨h1, ch2, s2, se2, od2, inn2, hT2, rfl⟩ := h
    cases h1
    exact pm_J.ri (Or.inr ⟨hk3, rfl, (ch2, s2, se2, od2, inn2), hT2, rfl⟩)
  · have q' : ¬ ¬ nI (tcount t1.2.2.1) = 0 := q
    rw [nI_z (by omega)] at q'
    refine pm_J.thS "fewer than three kinds" st_131 (Or.inl ⟨?_, rfl, rfl⟩)
    rcases Nat.lt_or_ge t1.2.2.1 3 with h | h
    · exact h
    · have h0 := Classical.not_not.mp q'
      have hk' : t1.2.2.1 = 3 ∨ t1.2.2.1 = 4 ∨ t1.2.2.1 = 5 ∨ t1.2.2.1 = 6 ∨ t1.2.2.1 = 7 := by omega
      rcases hk' with e | e | e | e | e <;> rw [e] at h0 <;> exact absurd h0 (by decide)
theorem hasS_c {be od sp : Nat → Nat} {x : Int32} : ∀ n, (∀ i, i < n → be (od i) = sp i) → hasS be od x n = hasS sp id x n
  | 0, _ => rfl
  | n + 1, h => by
    unfold hasS
    rw [hasS_c n (fun i hi => h i (by omega)), h n (by omega)]
    rfl
theorem notIn_c {be od sp be2 od2 sp2 : Nat → Nat} {m : Nat} (h2 : ∀ i, i < m → be2 (od2 i) = sp2 i) : ∀ n, (∀ i, i < n → be (od i) = sp i) → notIn be od be2 od2 m n = notIn sp id sp2 id m n
  | 0, _ => rfl
  | n + 1, h => by
    unfold notIn
    rw [notIn_c h2 n (fun i hi => h i (by omega)), h n (by omega), hasS_c m h2]
    rfl
theorem c_split (hs : l.stackTraces = false) (tx : txP) (g1 g2 : trP) (fn : fnP) (pg : pgP) (t1 t2 : tbP) (x y : Int32) (hk : t1.2.2.1 ≤ 7) (hT : TI g1) :
    pm_Met l mX5_split 7 1 6 [.ref 0, .int x, .int y] (stN tx g1 g2 fn pg t1 t2) (fun o w' => (¬ okT t1.2.2.1 x ∧ o = .inr eI ∧ w' = stN tx g1 g2 fn pg t1 t2) ∨ (okT t1.2.2.1 x ∧ o = .inl (some (.int (nI (b2n (hasS (spz t1.2.2.1 x.toNatClampNeg) id y (t1.2.2.1 - 3)))))) ∧ onG tx g2 fn pg t1 t2 w')) := by
  have ht := tcount_le hk
  refine pm_Met.mk kX5_split hs (pm_J.run [] 40 (fun K hK => hK _ ?_))
  refine pm_J.cP (List.range 29) (c_requireTree hs tx g1 g2 fn pg t1 t2 x hk) gRX5_112 vX5_requireTree (fun E h => ?_) (fun v h => ?_)
  · rcases h with ⟨h1, h2⟩ | ⟨h1, h2⟩
    · cases h2
    · cases h2; exact Or.inl ⟨h1, rfl, rfl⟩
  · rcases h with ⟨h1, h2⟩ | ⟨h1, h2⟩
    · cases h2
      obtain ⟨j, hj, rfl⟩ := ok_nat (by omega) h1
      have hk3 := tcount_3 hj
      have hT2 := gN_I (k := t1.2.2.1) (j := j) (se := g1.2.2.1) hk hT
      refine pm_J.run [] 40 (fun K hK => hK _ ?_)
      refine pm_J.cvG [3, 4, 5, 6, 7, 8, 9] (stN tx (gN t1.2.2.1 j g1 g1.2.2.1) g2 fn pg t1 t2) (gN_grow hs hT hj hk) gRX5_115 vX4_grow ?_
      refine pm_J.run [] 40 (fun K hK => hK _ ?_)
      have hM := c_hasSplit hs (nA (gN t1.2.2.1 j g1 g1.2.2.1).1) (nA (gN t1.2.2.1 j g1 g1.2.2.1).2.1.1) (nA (gN t1.2.2.1 j g1 g1.2.2.1).2.1.2.1) (grR t1.2.2.1 j g1.1 g1.2.1 g1.2.2.2.1).1.2.2 g1.2.2.1 (grR t1.2.2.1 j g1.1 g1.2.1 g1.2.2.2.1).2 (t1.2.2.1 - 2) y (by omega) (by omega) hT2.2.2.2.2.2
      rw [hasS_c (sp := spz t1.2.2.1 j) _ (fun i hi => grR_sp hT.2.1 hk (by omega)), show t1.2.2.1 - 2 - 1 = t1.2.2.1 - 3 by omega] at hM
      refine pm_J.cIG [3, 4, 5, 6, 7, 8, 9] hM gRX5_145 vX4_hasSplit ?_
      refine pm_J.riG (Or.inr ⟨h1, ?_, _, gN_I hk hT, rfl⟩) (hn := ?_)
      · rw [nI_clamp (by omega)]
      · cases hasS (spz t1.2.2.1 j) id y (t1.2.2.1 - 3) <;> rfl
    · cases h2
end SH2
