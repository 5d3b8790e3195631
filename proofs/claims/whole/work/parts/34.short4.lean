section SH4
variable {l : Launch}
def agF (sp gr : Nat → Nat) : Nat → (Nat → Nat)
  | 0 => gr
  | i + 1 => upN (agF sp gr i) i (sp i)
theorem agF_Bd {sp gr : Nat → Nat} (hs : ∀ i, sp i < 128) (hg : Bd gr) : ∀ i, Bd (agF sp gr i)
  | 0 => hg
  | i + 1 => (agF_Bd hs hg i).up (hs i)
set_option maxHeartbeats 1000000 in
theorem c_write (hs : l.stackTraces = false) (tx : txP) (g1 g2 : trP) (fn : fnP) (pg : pgP) (t1 t2 : tbP) (x : Int32) (hk : t1.2.2.1 ≤ 7) (hT : TI g1) (hg : Bd pg.2.1) :
    pm_Met l mX5_write 12 1 6 [.ref 0, .int x] (stN tx g1 g2 fn pg t1 t2) (fun o w' => (¬ okT t1.2.2.1 x ∧ o = .inr eI ∧ w' = stN tx g1 g2 fn pg t1 t2) ∨ (okT t1.2.2.1 x ∧ o = .inl (some (.int (nI (flF (agF (spz t1.2.2.1 x.toNatClampNeg) pg.2.1 (t1.2.2.1 - 3)) (t1.2.2.1 - 3) t1.2.2.1 pg.1.1).2))) ∧
      onG tx g2 fn (flF (agF (spz t1.2.2.1 x.toNatClampNeg) pg.2.1 (t1.2.2.1 - 3)) (t1.2.2.1 - 3) t1.2.2.1 pg.1.1, agF (spz t1.2.2.1 x.toNatClampNeg) pg.2.1 (t1.2.2.1 - 3), t1.2.2.1 - 3) t1 t2 w')) := by
  have ht := tcount_le hk
  refine pm_Met.mk kX5_write hs (pm_J.run [] 40 (fun K hK => hK _ ?_))
  refine pm_J.cP (List.range 29) (c_requireTree hs tx g1 g2 fn pg t1 t2 x hk) gRX5_112 vX5_requireTree (fun E h => ?_) (fun v h => ?_)
  · rcases h with ⟨h1, h2⟩ | ⟨h1, h2⟩
    · cases h2
    · cases h2; exact Or.inl ⟨h1, rfl, rfl⟩
  · rcases h with ⟨h1, h2⟩ | ⟨h1, h2⟩
    · cases h2
      obtain ⟨j, hj, rfl⟩ := ok_nat (by omega) h1
      have hk3 := tcount_3 hj
      have ej : (nI j).toNatClampNeg = j := nI_clamp (by omega)
      have hT2 := gN_I (k := t1.2.2.1) (j := j) (se := g1.2.2.1) hk hT
      have hBd := agF_Bd (sp := spz t1.2.2.1 j) (fun i => spz_lt hk) hg
      rw [ej]
      refine pm_J.run [] 40 (fun K hK => hK _ ?_)
      refine pm_J.cvG [3, 4, 5, 6, 7, 8, 9] (stN tx (gN t1.2.2.1 j g1 g1.2.2.1) g2 fn pg t1 t2) (gN_grow hs hT hj hk) gRX5_115 vX4_grow ?_
      refine pm_J.run [] 40 (fun K hK => hK _ ?_)
      refine pm_J.cvG [20, 21, 22] (stN tx (gN t1.2.2.1 j g1 g1.2.2.1) g2 fn (pg.1, agF (spz t1.2.2.1 j) pg.2.1 0, 0) t1 t2) (c_forgetGroups hs (nA pg.1.1) (nA pg.2.1) (nI pg.1.2) (nI pg.2.2)) gRX5_165 vX1_forgetGroups ?_
      refine pm_J.run [29] 40 (fun K hK => hK _ ?_)
      generalize hO : (fun (o : pm_O) (w' : List pm_E) => (¬ okT t1.2.2.1 (nI j) ∧ o = .inr eI ∧ w' = stN tx g1 g2 fn pg t1 t2) ∨ (okT t1.2.2.1 (nI j) ∧ o = .inl (some (.int (nI (flF (agF (spz t1.2.2.1 j) pg.2.1 (t1.2.2.1 - 3)) (t1.2.2.1 - 3) t1.2.2.1 pg.1.1).2))) ∧
        onG tx g2 fn (flF (agF (spz t1.2.2.1 j) pg.2.1 (t1.2.2.1 - 3)) (t1.2.2.1 - 3) t1.2.2.1 pg.1.1, agF (spz t1.2.2.1 j) pg.2.1 (t1.2.2.1 - 3), t1.2.2.1 - 3) t1 t2 w')) = O
      refine pm_up (b := t1.2.2.1 - 3) (P := fun i => pm_J l mX5_write iX5_write 12 1 6 29 O (0 + 1) (0 + 6) (29, [some (.ref 0), some (.int (nI j)), some (.int (nI i))], [], stN tx (gN t1.2.2.1 j g1 g1.2.2.1) g2 fn (pg.1, agF (spz t1.2.2.1 j) pg.2.1 i, i) t1 t2)) 0 (Nat.zero_le _) ?_ (fun i g1' g2' ih => ?_)
      · refine pm_J.run [] 40 (fun K hK => hK _ ?_)
        refine pm_J.cIG [3, 4, 5, 6, 7, 8, 9] (c_splitCount hs (nA (gN t1.2.2.1 j g1 g1.2.2.1).1) (nA (gN t1.2.2.1 j g1 g1.2.2.1).2.1.1) (nA (gN t1.2.2.1 j g1 g1.2.2.1).2.1.2.1) (nA (gN t1.2.2.1 j g1 g1.2.2.1).2.1.2.2) g1.2.2.1 (nA (gN t1.2.2.1 j g1 g1.2.2.1).2.2.2.1) (t1.2.2.1 - 2) (by omega)) gRX5_168 vX4_splitCount ?_
        refine pm_J.run [] 40 (fun K hK => br_t (nI_le (by omega) (by omega)) (hK _ ?_))
        refine pm_J.ciwG [20, 21, 22] (stN tx (gN t1.2.2.1 j g1 g1.2.2.1) g2 fn (flF (agF (spz t1.2.2.1 j) pg.2.1 (t1.2.2.1 - 3)) (t1.2.2.1 - 3) t1.2.2.1 pg.1.1, agF (spz t1.2.2.1 j) pg.2.1 (t1.2.2.1 - 3), t1.2.2.1 - 3) t1 t2) (c_fill hs (agF (spz t1.2.2.1 j) pg.2.1 (t1.2.2.1 - 3)) (t1.2.2.1 - 3) t1.2.2.1 pg.1.1 (nI pg.1.2) (hBd _) (by omega) hk3 hk) gRX5_178 vX1_fill ?_
        refine pm_J.riG ?_
        rw [← hO]
        exact Or.inr ⟨h1, rfl, _, hT2, rfl⟩
      · refine pm_J.run [] 40 (fun K hK => hK _ ?_)
        refine pm_J.cIG [3, 4, 5, 6, 7, 8, 9] (c_splitCount hs (nA (gN t1.2.2.1 j g1 g1.2.2.1).1) (nA (gN t1.2.2.1 j g1 g1.2.2.1).2.1.1) (nA (gN t1.2.2.1 j g1 g1.2.2.1).2.1.2.1) (nA (gN t1.2.2.1 j g1 g1.2.2.1).2.1.2.2) g1.2.2.1 (nA (gN t1.2.2.1 j g1 g1.2.2.1).2.2.2.1) (t1.2.2.1 - 2) (by omega)) gRX5_168 vX4_splitCount ?_
        refine pm_J.run [] 40 (fun K hK => br_f (nI_ge (a := i) (b := t1.2.2.1 - 2 - 1) (by omega) (by omega)) (hK _ ?_))
        have hM := c_splitAt hs (nA (gN t1.2.2.1 j g1 g1.2.2.1).1) (nA (gN t1.2.2.1 j g1 g1.2.2.1).2.1.1) (nA (gN t1.2.2.1 j g1 g1.2.2.1).2.1.2.1) (grR t1.2.2.1 j g1.1 g1.2.1 g1.2.2.2.1).1.2.2 g1.2.2.1 (grR t1.2.2.1 j g1.1 g1.2.1 g1.2.2.2.1).2 (nI (t1.2.2.1 - 2)) i (by omega) hT2.2.2.2.2.2
        rw [grR_sp hT.2.1 hk (by omega)] at hM
        refine pm_J.cIG [3, 4, 5, 6, 7, 8, 9] hM gRX5_171 vX4_splitAt ?_
        have hN := c_addGroup hs (nA pg.1.1) (agF (spz t1.2.2.1 j) pg.2.1 i) (nI pg.1.2) i (spz t1.2.2.1 j i) (by omega)
        rw [if_pos (show i < 7 by omega)] at hN
        refine pm_J.cvG [20, 21, 22] (stN tx (gN t1.2.2.1 j g1 g1.2.2.1) g2 fn (pg.1, agF (spz t1.2.2.1 j) pg.2.1 (i + 1), i + 1) t1 t2) hN gRX5_175 vX1_addGroup ?_
        refine pm_J.run [29] 40 (fun K hK => hK _ ?_)
        have e : (some (Value.int (nI (i + 1)))) = some (Value.int (nI i + nI 1)) := by rw [nI_add i 1]
        rw [e] at ih
        exact ih
    · cases h2
/-- is 'above' 0.5 to 1 -/
def okA (ab : UInt32) : Prop := ¬ Op.cmpValue (FP.fcmp ab 1056964608) .l < 0 ∧ Op.cmpValue (FP.fcmp ab FP.fconst1) .g ≤ 0
def cmB (ta : Nat → Nat) (cnt : Nat) (ab : UInt32) (s : Nat) : Bool := decide (0 < Op.cmpValue (FP.fcmp (shF ta cnt (nI s)) ab) .l) || decide (Op.cmpValue (FP.fcmp (shF ta cnt (nI s)) FP.fconst1) .l = 0)
def coS (ta : Nat → Nat) (cnt : Nat) (ab : UInt32) (gr : Nat → Nat) : Nat → (Nat → Nat) × Nat
  | 0 => (gr, 0)
  | s + 1 => if cmB ta cnt ab s = true then (if (coS ta cnt ab gr s).2 < 7 then (upN (coS ta cnt ab gr s).1 (coS ta cnt ab gr s).2 s, (coS ta cnt ab gr s).2 + 1) else coS ta cnt ab gr s) else coS ta cnt ab gr s
theorem coS_ok {ta : Nat → Nat} {cnt : Nat} {ab : UInt32} {gr : Nat → Nat} (hg : Bd gr) : ∀ s, s ≤ 128 → Bd (coS ta cnt ab gr s).1 ∧ (coS ta cnt ab gr s).2 ≤ 7
  | 0, _ => ⟨hg, Nat.zero_le _⟩
  | s + 1, hs => by
    have ih := coS_ok (ta := ta) (cnt := cnt) (ab := ab) hg s (by omega)
    unfold coS
    split
    · split
      · exact ⟨ih.1.up (by omega), by show _ + 1 ≤ 7; omega⟩
      · exact ih
    · exact ih
set_option maxHeartbeats 1000000 in
theorem c_common (hF : FPd) (hs : l.stackTraces = false) (tx : txP) (g1 g2 : trP) (fn : fnP) (pg : pgP) (t1 t2 : tbP) (ab : UInt32) (hk : t1.2.2.1 ≤ 7) (hc : fn.2.2 < 2 ^ 31) (hk3 : fn.2.2 ≠ 0 → 3 ≤ t1.2.2.1) (hg : Bd pg.2.1) :
    pm_Met l mX5_common 12 2 12 [.ref 0, .float ab] (stN tx g1 g2 fn pg t1 t2) (fun o w' => (fn.2.2 = 0 ∧ o = .inr eS ∧ w' = stN tx g1 g2 fn pg t1 t2) ∨ (fn.2.2 ≠ 0 ∧ ¬ okA ab ∧ o = .inr eA ∧ w' = stN tx g1 g2 fn pg t1 t2) ∨
      (fn.2.2 ≠ 0 ∧ okA ab ∧ o = .inl (some (.int (nI (flF (coS fn.2.1 fn.2.2 ab pg.2.1 128).1 (coS fn.2.1 fn.2.2 ab pg.2.1 128).2 t1.2.2.1 pg.1.1).2))) ∧ w' = stN tx g1 g2 fn (flF (coS fn.2.1 fn.2.2 ab pg.2.1 128).1 (coS fn.2.1 fn.2.2 ab pg.2.1 128).2 t1.2.2.1 pg.1.1, coS fn.2.1 fn.2.2 ab pg.2.1 128) t1 t2)) := by
  refine pm_Met.mk kX5_common hs (pm_J.run [] 40 (fun K hK => hK _ ?_))
  refine pm_J.cP (List.range 29) (c_requireFinds hs tx g1 g2 fn pg t1 t2 hc) gRX5_148 vX5_requireFinds (fun E h => ?_) (fun v h => ?_)
  · rcases h with ⟨h1, h2⟩ | ⟨h1, h2⟩
    · cases h2
    · cases h2; exact Or.inl ⟨h1, rfl, rfl⟩
  · rcases h with ⟨h1, h2⟩ | ⟨h1, h2⟩
    · cases h2
      have hk3' := hk3 h1
      generalize hO : (fun (o : pm_O) (w' : List pm_E) => (fn.2.2 = 0 ∧ o = .inr eS ∧ w' = stN tx g1 g2 fn pg t1 t2) ∨ (fn.2.2 ≠ 0 ∧ ¬ okA ab ∧ o = .inr eA ∧ w' = stN tx g1 g2 fn pg t1 t2) ∨
        (fn.2.2 ≠ 0 ∧ okA ab ∧ o = .inl (some (.int (nI (flF (coS fn.2.1 fn.2.2 ab pg.2.1 128).1 (coS fn.2.1 fn.2.2 ab pg.2.1 128).2 t1.2.2.1 pg.1.1).2))) ∧ w' = stN tx g1 g2 fn (flF (coS fn.2.1 fn.2.2 ab pg.2.1 128).1 (coS fn.2.1 fn.2.2 ab pg.2.1 128).2 t1.2.2.1 pg.1.1, coS fn.2.1 fn.2.2 ab pg.2.1 128) t1 t2)) = O
      have bad : ¬ okA ab → pm_J l mX5_common iX5_common 12 2 12 29 O (0 + 1) (0 + 6) (17, [some (.ref 0), some (.float ab), none, none], [], stN tx g1 g2 fn pg t1 t2) := fun ha => pm_J.thA "above is 0.5 to 1" st_182 (by rw [← hO]; exact Or.inr (Or.inl ⟨h1, ha, rfl, rfl⟩))
      refine pm_J.run [17] 40 (fun K hK => And.intro (fun q => hK _ ?_) (fun q => And.intro (fun q2 => hK _ ?_) (fun q2 => hK _ ?_)))
      · exact bad (fun z => z.1 q)
      · have ha : okA ab := ⟨q, q2⟩
        refine pm_J.run [] 40 (fun K hK => hK _ ?_)
        refine pm_J.cvG [20, 21, 22] (stN tx g1 g2 fn (pg.1, coS fn.2.1 fn.2.2 ab pg.2.1 0) t1 t2) (c_forgetGroups hs (nA pg.1.1) (nA pg.2.1) (nI pg.1.2) (nI pg.2.2)) gRX5_165 vX1_forgetGroups ?_
        refine pm_J.run [36] 40 (fun K hK => hK _ ?_)
        have key : ∀ x3, pm_J l mX5_common iX5_common 12 2 12 29 O (0 + 1) (0 + 6) (36, [some (.ref 0), some (.float ab), some (.int (nI 0)), x3], [], stN tx g1 g2 fn (pg.1, coS fn.2.1 fn.2.2 ab pg.2.1 0) t1 t2) := by
          refine pm_up (b := 128) (P := fun s => ∀ x3, pm_J l mX5_common iX5_common 12 2 12 29 O (0 + 1) (0 + 6) (36, [some (.ref 0), some (.float ab), some (.int (nI s)), x3], [], stN tx g1 g2 fn (pg.1, coS fn.2.1 fn.2.2 ab pg.2.1 s) t1 t2)) 0 (by decide) (fun x3 => ?_) (fun s s1 s2 ih x3 => ?_)
          · obtain ⟨o1, o2⟩ := coS_ok (ta := fn.2.1) (cnt := fn.2.2) (ab := ab) hg 128 (by decide)
            refine pm_J.run [] 40 (fun K hK => br_t (nI_le (a := 128) (b := 128) (by decide) (by decide)) (hK _ ?_))
            refine pm_J.ciwG [20, 21, 22] (stN tx g1 g2 fn (flF (coS fn.2.1 fn.2.2 ab pg.2.1 128).1 (coS fn.2.1 fn.2.2 ab pg.2.1 128).2 t1.2.2.1 pg.1.1, coS fn.2.1 fn.2.2 ab pg.2.1 128) t1 t2) (c_fill hs (coS fn.2.1 fn.2.2 ab pg.2.1 128).1 (coS fn.2.1 fn.2.2 ab pg.2.1 128).2 t1.2.2.1 pg.1.1 (nI pg.1.2) o1 o2 hk3' hk) gRX5_178 vX1_fill ?_
            refine pm_J.riG ?_
            rw [← hO]
            exact Or.inr (Or.inr ⟨h1, ha, rfl, rfl⟩)
          · obtain ⟨o1, o2⟩ := coS_ok (ta := fn.2.1) (cnt := fn.2.2) (ab := ab) hg s (by omega)
            have e : coS fn.2.1 fn.2.2 ab pg.2.1 (s + 1) = if cmB fn.2.1 fn.2.2 ab s = true then (if (coS fn.2.1 fn.2.2 ab pg.2.1 s).2 < 7 then (upN (coS fn.2.1 fn.2.2 ab pg.2.1 s).1 (coS fn.2.1 fn.2.2 ab pg.2.1 s).2 s, (coS fn.2.1 fn.2.2 ab pg.2.1 s).2 + 1) else coS fn.2.1 fn.2.2 ab pg.2.1 s) else coS fn.2.1 fn.2.2 ab pg.2.1 s := rfl
            rw [e, ← nI_add s 1] at ih
            clear e
            refine pm_J.run [] 40 (fun K hK => br_f (nI_ge (a := s) (b := 128) s2 (by decide)) (hK _ ?_))
            refine pm_J.cFG [17, 18, 19] (c_shareOf hs (nA fn.1) fn.2.1 fn.2.2 (nI s) hc (fun j hj h0 => hF _ _ (fun z => h0 ((nI_z hc).mp z)))) gRX5_151 vX0_shareOf ?_
            generalize hcs : coS fn.2.1 fn.2.2 ab pg.2.1 s = z at o1 o2 ih ⊢
            have yes : cmB fn.2.1 fn.2.2 ab s = true → pm_J l mX5_common iX5_common 12 2 12 29 O (0 + 1) (0 + 6) (64, [some (.ref 0), some (.float ab), some (.int (nI s)), some (.float (shF fn.2.1 fn.2.2 (nI s)))], [], stN tx g1 g2 fn (pg.1, z) t1 t2) := by
              intro hb
              have ih2 := ih (some (.float (shF fn.2.1 fn.2.2 (nI s))))
              rw [if_pos hb] at ih2
              refine pm_J.run [] 40 (fun K hK => hK _ ?_)
              have hN := c_addGroup hs (nA pg.1.1) z.1 (nI pg.1.2) z.2 s o2
              by_cases h7 : z.2 < 7
              · rw [if_pos h7] at hN ih2
                refine pm_J.cvG [20, 21, 22] (stN tx g1 g2 fn (pg.1, upN z.1 z.2 s, z.2 + 1) t1 t2) hN gRX5_175 vX1_addGroup ?_
                refine pm_J.run [36] 40 (fun K hK => hK _ ?_)
                exact ih2
              · rw [if_neg h7] at hN ih2
                refine pm_J.cvG [20, 21, 22] (stN tx g1 g2 fn (pg.1, z) t1 t2) hN gRX5_175 vX1_addGroup ?_
                refine pm_J.run [36] 40 (fun K hK => hK _ ?_)
                exact ih2
            refine pm_J.run [64, 36] 40 (fun K hK => And.intro (fun q3 => hK _ ?_) (fun q3 => And.intro (fun q4 => hK _ ?_) (fun q4 => hK _ ?_)))
            · exact yes (by unfold cmB; rw [decide_eq_true q3]; rfl)
            · have ih2 := ih (some (.float (shF fn.2.1 fn.2.2 (nI s))))
              rw [if_neg (by unfold cmB; rw [decide_eq_false q3, decide_eq_false q4]; decide)] at ih2
              exact ih2
            · exact yes (by unfold cmB; rw [decide_eq_true (Classical.not_not.mp q4), Bool.or_true])
        exact key none
      · exact bad (fun z => q2 z.2)
    · cases h2
end SH4
