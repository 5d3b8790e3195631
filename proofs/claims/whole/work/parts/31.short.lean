section SHT
variable {l : Launch}
abbrev txP : Type := (Nat → Nat) × Nat × Nat
abbrev trP : Type := (Nat → Nat) × trS × (Nat → Int64) × (Nat → Nat) × Nat
abbrev fnP : Type := (Nat → Nat) × (Nat → Nat) × Nat
abbrev pgP : Type := pgS × (Nat → Nat) × Nat
abbrev tbP : Type := (Nat → Int64) × (Nat → Nat) × Nat × Nat
abbrev txA (h : Nat) (p : txP) : List pm_E := [.inr (3, [.ref (h + 1), .int (nI p.2.1), .int (nI p.2.2)]), .inl (.char, 160, .inl (nA p.1))]
abbrev trA (h : Nat) (p : trP) : List pm_E := trAt' h p.1 p.2.1 p.2.2.1 p.2.2.2.1 p.2.2.2.2
abbrev fnA (h : Nat) (p : fnP) : List pm_E := [.inr (0, [.ref (h + 1), .ref (h + 2), .int (nI p.2.2)]), .inl (.int, 945, .inl (nA p.1)), .inl (.int, 128, .inl (nA p.2.1))]
abbrev pgA (h : Nat) (p : pgP) : List pm_E := [.inr (1, [.ref (h + 1), .ref (h + 2), .int (nI p.1.2), .int (nI p.2.2)]), .inl (.char, 24, .inl (nA p.1.1)), .inl (.int, 7, .inl (nA p.2.1))]
abbrev tbA (h : Nat) (p : tbP) : List pm_E := tbAt h p.1 p.2.1 p.2.2.1 p.2.2.2
/-- an object's cells; cu, sp: where the two tables stand -/
abbrev stW (cu sp : Nat) (tx : txP) (g1 g2 : trP) (fn : fnP) (pg : pgP) (t1 t2 : tbP) : List pm_E :=
  .inr (5, [.ref 1, .ref 3, .ref 10, .ref 17, .ref 20, .ref cu, .ref sp]) :: (txA 1 tx ++ (trA 3 g1 ++ (trA 10 g2 ++ (fnA 17 fn ++ (pgA 20 pg ++ (tbA 23 t1 ++ tbA 26 t2))))))
abbrev stN : txP → trP → trP → fnP → pgP → tbP → tbP → List pm_E := stW 23 26
def TI (p : trP) : Prop := TrI p.1 p.2.1 p.2.2.2.1
/-- is there such a tree, such a character -/
def okT (k : Nat) (x : Int32) : Prop := 0 ≤ x ∧ x < nI (tcount k)
def okC (c : Nat) (x : Int32) : Prop := 0 ≤ x ∧ x < nI c
theorem ok_nat {x : Int32} {m : Nat} (hm : m < 2 ^ 31) (h : 0 ≤ x ∧ x < nI m) : ∃ j, j < m ∧ x = nI j := by
  obtain ⟨j, hj, rfl⟩ := nI_of (Int32.not_lt.mpr h.1)
  exact ⟨j, (nI_ltI hj hm).mp h.2, rfl⟩
theorem tcount_le {k : Nat} (hk : k ≤ 7) : tcount k ≤ 945 := by
  have hk' : k = 0 ∨ k = 1 ∨ k = 2 ∨ k = 3 ∨ k = 4 ∨ k = 5 ∨ k = 6 ∨ k = 7 := by omega
  rcases hk' with rfl | rfl | rfl | rfl | rfl | rfl | rfl | rfl <;> decide
theorem tcount_3 {k x : Nat} (h : x < tcount k) : 3 ≤ k := by
  unfold tcount at h
  split at h
  · omega
  · omega
theorem c_requireTree (hs : l.stackTraces = false) (tx : txP) (g1 g2 : trP) (fn : fnP) (pg : pgP) (t1 t2 : tbP) (x : Int32) (hk : t1.2.2.1 ≤ 7) :
    pm_Met l mX5_requireTree 6 1 6 [.ref 0, .int x] (stN tx g1 g2 fn pg t1 t2) (fun o w' => w' = stN tx g1 g2 fn pg t1 t2 ∧ ((okT t1.2.2.1 x ∧ o = .inl none) ∨ (¬ okT t1.2.2.1 x ∧ o = .inr eI))) := by
  refine pm_Met.mk kX5_requireTree hs (pm_J.run [15] 40 (fun K hK => And.intro (fun q => hK _ ?_) (fun q => hK _ ?_)))
  · exact pm_J.thI "no such tree" st_188 ⟨rfl, Or.inr ⟨fun z => absurd q (Int32.not_lt.mpr z.1), rfl⟩⟩
  · refine pm_J.cI [23, 24, 25] (c_treeCount hs t1.1 t1.2.1 t1.2.2.1 t1.2.2.2 hk) gRX5_109 vX2_treeCount ?_
    refine pm_J.run [15] 40 (fun K hK => And.intro (fun q2 => hK _ ?_) (fun q2 => hK _ ?_))
    · exact pm_J.rv ⟨rfl, Or.inl ⟨⟨Int32.not_lt.mp q, q2⟩, rfl⟩⟩
    · exact pm_J.thI "no such tree" st_188 ⟨rfl, Or.inr ⟨fun z => q2 z.2, rfl⟩⟩
theorem c_requireCharacter (hs : l.stackTraces = false) (tx : txP) (g1 g2 : trP) (fn : fnP) (pg : pgP) (t1 t2 : tbP) (x : Int32) :
    pm_Met l mX5_requireCharacter 6 1 6 [.ref 0, .int x] (stN tx g1 g2 fn pg t1 t2) (fun o w' => w' = stN tx g1 g2 fn pg t1 t2 ∧ ((okC t1.2.2.2 x ∧ o = .inl none) ∨ (¬ okC t1.2.2.2 x ∧ o = .inr eI))) := by
  refine pm_Met.mk kX5_requireCharacter hs (pm_J.run [] 40 (fun K hK => hK _ ?_))
  refine pm_J.cI [23, 24, 25] (c_hasCharacter hs t1.1 t1.2.1 t1.2.2.1 t1.2.2.2 x) gRX5_83 vX2_hasCharacter ?_
  by_cases h : 0 ≤ x ∧ x < nI t1.2.2.2
  · rw [if_pos h]
    refine pm_J.run [] 40 (fun K hK => br_t (by decide) (hK _ ?_))
    exact pm_J.rv ⟨rfl, Or.inl ⟨h, rfl⟩⟩
  · rw [if_neg h]
    refine pm_J.run [] 40 (fun K hK => br_f (by decide) (hK _ ?_))
    exact pm_J.thI "no such character" st_190 ⟨rfl, Or.inr ⟨h, rfl⟩⟩
theorem c_requireFinds (hs : l.stackTraces = false) (tx : txP) (g1 g2 : trP) (fn : fnP) (pg : pgP) (t1 t2 : tbP) (hc : fn.2.2 < 2 ^ 31) :
    pm_Met l mX5_requireFinds 6 1 6 [.ref 0] (stN tx g1 g2 fn pg t1 t2) (fun o w' => w' = stN tx g1 g2 fn pg t1 t2 ∧ ((fn.2.2 ≠ 0 ∧ o = .inl none) ∨ (fn.2.2 = 0 ∧ o = .inr eS))) := by
  refine pm_Met.mk kX5_requireFinds hs (pm_J.run [] 40 (fun K hK => And.intro (fun q => hK _ ?_) (fun q => hK _ ?_)))
  · have q' : ¬ nI fn.2.2 = 0 := q
    rw [nI_z hc] at q'
    exact pm_J.rv ⟨rfl, Or.inl ⟨q', rfl⟩⟩
  · have q' : ¬ ¬ nI fn.2.2 = 0 := q
    rw [nI_z hc] at q'
    exact pm_J.thS "nothing is found" st_192 ⟨rfl, Or.inr ⟨Classical.not_not.mp q', rfl⟩⟩
theorem c_type (hs : l.stackTraces = false) (tx : txP) (g1 g2 : trP) (fn : fnP) (pg : pgP) (t1 t2 : tbP) (v : Nat) (hn : tx.2.1 ≤ 160) (hv : v < 65536) :
    pm_Met l mX5_type 6 1 6 [.ref 0, .int (nI v)] (stN tx g1 g2 fn pg t1 t2) (fun o w' => (tx.2.1 < 160 ∧ o = .inl (some (.int (nI (tx.2.1 + 1)))) ∧ w' = stN (upN tx.1 tx.2.1 v, tx.2.1 + 1, tx.2.2) g1 g2 fn pg t1 t2) ∨ (tx.2.1 = 160 ∧ o = .inr eS ∧ w' = stN tx g1 g2 fn pg t1 t2)) := by
  refine pm_Met.mk kX5_type hs (pm_J.run [] 40 (fun K hK => hK _ ?_))
  refine pm_J.cI [1, 2] (c_isFull hs (nA tx.1) tx.2.1 (nI tx.2.2) hn) gRX5_50 vX3_isFull ?_
  by_cases h : 160 ≤ tx.2.1
  · rw [decide_eq_true h]
    refine pm_J.run [] 40 (fun K hK => br_f (by decide) (hK _ ?_))
    exact pm_J.thS "the text is full" st_56 (Or.inr ⟨by omega, rfl, rfl⟩)
  · rw [decide_eq_false h]
    refine pm_J.run [] 40 (fun K hK => br_t (by decide) (hK _ ?_))
    refine pm_J.ciw [1, 2] (stN (upN tx.1 tx.2.1 v, tx.2.1 + 1, tx.2.2) g1 g2 fn pg t1 t2) (c_add hs tx.1 tx.2.1 v (nI tx.2.2) (by omega) hv) gRX5_61 vX3_add ?_
    exact pm_J.ri (Or.inl ⟨by omega, rfl, rfl⟩)
/-- what table() makes of a text -/
abbrev rdT (tx : txP) (t2 : tbP) : Bool × Nat × (Nat → Int64) × Nat × Nat := rdF tx.1 tx.2.1 7 0 0 (fun j => if j < 7 then 0 else t2.1 j) 0 0
abbrev nwT (tx : txP) (t2 : tbP) : tbP := ((rdT tx t2).2.2.1, (fun j => if j < 16 then 1 else t2.2.1 j), (rdT tx t2).2.2.2.1, (rdT tx t2).2.2.2.2)
set_option maxHeartbeats 1000000 in
theorem c_table (hs : l.stackTraces = false) (tx : txP) (g1 g2 : trP) (fn : fnP) (pg : pgP) (t1 t2 : tbP) (hn : tx.2.1 ≤ 160) (ht : Ch tx.1) :
    pm_Met l mX5_table 7 0 0 [.ref 0] (stN tx g1 g2 fn pg t1 t2) (fun o w' => ((rdT tx t2).1 = false ∧ o = .inl (some (.int (pm_k (-100) - nI (rdT tx t2).2.1))) ∧ w' = stN (tx.1, 0, (rdT tx t2).2.1) g1 g2 fn pg t1 (nwT tx t2)) ∨
      ((rdT tx t2).1 = true ∧ o = .inl (some (.int (nI (rdT tx t2).2.2.2.1))) ∧ w' = stW 26 23 (tx.1, 0, (rdT tx t2).2.1) g1 g2 (fn.1, fn.2.1, 0) pg t1 (nwT tx t2))) := by
  refine pm_Met.mk kX5_table hs (pm_J.run [] 40 (fun K hK => hK _ ?_))
  refine pm_J.ciw [1, 2, 26, 27, 28] (stN (tx.1, tx.2.1, (rdT tx t2).2.1) g1 g2 fn pg t1 (nwT tx t2)) (c_read hs tx.1 tx.2.1 (nI tx.2.2) t2.1 t2.2.1 t2.2.2.1 t2.2.2.2 hn ht) gRX5_65 vX3_readInto ?_
  refine pm_J.run [] 40 (fun K hK => hK _ ?_)
  refine pm_J.cI [1, 2] (c_place hs (nA tx.1) (nI tx.2.1) (nI (rdT tx t2).2.1)) gRX5_69 vX3_place ?_
  refine pm_J.run [] 40 (fun K hK => hK _ ?_)
  refine pm_J.cv [1, 2] (stN (tx.1, 0, (rdT tx t2).2.1) g1 g2 fn pg t1 (nwT tx t2)) (c_empty hs (nA tx.1) (nI tx.2.1) (nI (rdT tx t2).2.1)) gRX5_73 vX3_empty ?_
  cases hm : (rdT tx t2).1 with
  | false =>
    refine pm_J.run [] 40 (fun K hK => br_f (fun z => z (by decide)) (hK _ ?_))
    exact pm_J.ri (Or.inl ⟨rfl, rfl, rfl⟩)
  | true =>
    refine pm_J.run [] 40 (fun K hK => br_t (by decide) (hK _ ?_))
    refine pm_J.cv [17, 18, 19] (stW 26 23 (tx.1, 0, (rdT tx t2).2.1) g1 g2 (fn.1, fn.2.1, 0) pg t1 (nwT tx t2)) (c_forget hs (nA fn.1) (nA fn.2.1) (nI fn.2.2)) gRX5_76 vX0_forget ?_
    refine pm_J.run [] 40 (fun K hK => hK _ ?_)
    exact pm_J.ri (Or.inr ⟨rfl, rfl, rfl⟩)
theorem c_states (hs : l.stackTraces = false) (tx : txP) (g1 g2 : trP) (fn : fnP) (pg : pgP) (t1 t2 : tbP) (x y : Int32) (hk : t1.2.2.1 ≤ 7) (hc : t1.2.2.2 ≤ 16) :
    pm_Met l mX5_states 6 1 6 [.ref 0, .int x, .int y] (stN tx g1 g2 fn pg t1 t2) (fun o w' => w' = stN tx g1 g2 fn pg t1 t2 ∧ (((okC t1.2.2.1 x ∧ okC t1.2.2.2 y) ∧ o = .inl (some (.int (nI (lane (t1.1 x.toNatClampNeg) y.toNatClampNeg))))) ∨ (¬ (okC t1.2.2.1 x ∧ okC t1.2.2.2 y) ∧ o = .inr eI))) := by
  refine pm_Met.mk kX5_states hs (pm_J.run [26] 40 (fun K hK => And.intro (fun q => hK _ ?_) (fun q => And.intro (fun q2 => hK _ ?_) (fun q2 => hK _ ?_))))
  · exact pm_J.thI "no such kind or character" st_89 ⟨rfl, Or.inr ⟨fun z => absurd q (Int32.not_lt.mpr z.1.1), rfl⟩⟩
  · exact pm_J.thI "no such kind or character" st_89 ⟨rfl, Or.inr ⟨fun z => absurd z.1.2 (Int32.not_lt.mpr q2), rfl⟩⟩
  · refine pm_J.cI [23, 24, 25] (c_hasCharacter hs t1.1 t1.2.1 t1.2.2.1 t1.2.2.2 y) gRX5_83 vX2_hasCharacter ?_
    by_cases h : 0 ≤ y ∧ y < nI t1.2.2.2
    · rw [if_pos h]
      have hx : okC t1.2.2.1 x := ⟨Int32.not_lt.mp q, Int32.not_le.mp q2⟩
      obtain ⟨a, ha, rfl⟩ := ok_nat (by omega) hx
      obtain ⟨b, hb, rfl⟩ := ok_nat (by omega) h
      refine pm_J.run [26] 40 (fun K hK => br_t (by decide) (hK _ ?_))
      refine pm_J.cI [23, 24, 25] (c_setOf hs t1.1 t1.2.1 t1.2.2.1 t1.2.2.2 a b (by omega) (by omega)) gRX5_92 vX2_setOf ?_
      refine pm_J.ri ⟨rfl, Or.inl ⟨⟨hx, h⟩, ?_⟩⟩
      rw [nI_clamp (by omega), nI_clamp (by omega)]
    · rw [if_neg h]
      refine pm_J.run [26] 40 (fun K hK => br_f (by decide) (hK _ ?_))
      exact pm_J.thI "no such kind or character" st_89 ⟨rfl, Or.inr ⟨fun z => h z.2, rfl⟩⟩
theorem c_trees (hs : l.stackTraces = false) (tx : txP) (g1 g2 : trP) (fn : fnP) (pg : pgP) (t1 t2 : tbP) (hk : t1.2.2.1 ≤ 7) : pm_Met l mX5_trees 2 0 0 [.ref 0] (stN tx g1 g2 fn pg t1 t2) (isI (nI (tcount t1.2.2.1)) (stN tx g1 g2 fn pg t1 t2)) := by
  refine pm_Met.mk kX5_trees hs (pm_J.run [] 40 (fun K hK => hK _ ?_))
  refine pm_J.cI [23, 24, 25] (c_treeCount hs t1.1 t1.2.1 t1.2.2.1 t1.2.2.2 hk) gRX5_109 vX2_treeCount ?_
  exact pm_J.ri ⟨rfl, rfl⟩
theorem c_found (hs : l.stackTraces = false) (tx : txP) (g1 g2 : trP) (fn : fnP) (pg : pgP) (t1 t2 : tbP) : pm_Met l mX5_found 1 0 0 [.ref 0] (stN tx g1 g2 fn pg t1 t2) (isI (nI fn.2.2) (stN tx g1 g2 fn pg t1 t2)) := by
  refine pm_Met.mk kX5_found hs (pm_J.run [] 40 (fun K hK => hK _ ?_))
  exact pm_J.ri ⟨rfl, rfl⟩
theorem c_best (hs : l.stackTraces = false) (tx : txP) (g1 g2 : trP) (fn : fnP) (pg : pgP) (t1 t2 : tbP) (x : Int32) (hc : fn.2.2 ≤ 945) :
    pm_Met l mX5_best 6 1 6 [.ref 0, .int x] (stN tx g1 g2 fn pg t1 t2) (fun o w' => w' = stN tx g1 g2 fn pg t1 t2 ∧ ((okC fn.2.2 x ∧ o = .inl (some (.int (nI (fn.1 x.toNatClampNeg))))) ∨ (¬ okC fn.2.2 x ∧ o = .inr eI))) := by
  refine pm_Met.mk kX5_best hs (pm_J.run [15] 40 (fun K hK => And.intro (fun q => hK _ ?_) (fun q => And.intro (fun q2 => ?_) (fun q2 => hK _ ?_))))
  · exact pm_J.thI "no such tree was found" st_140 ⟨rfl, Or.inr ⟨fun z => absurd q (Int32.not_lt.mpr z.1), rfl⟩⟩
  · have hx : okC fn.2.2 x := ⟨Int32.not_lt.mp q, q2⟩
    obtain ⟨a, ha, rfl⟩ := ok_nat (by omega) hx
    refine And.intro (vp_in_nI (by omega) (by decide)) (hK _ ?_)
    exact pm_J.ri ⟨rfl, Or.inl ⟨hx, rfl⟩⟩
  · exact pm_J.thI "no such tree was found" st_140 ⟨rfl, Or.inr ⟨fun z => q2 z.2, rfl⟩⟩
theorem c_written (hs : l.stackTraces = false) (tx : txP) (g1 g2 : trP) (fn : fnP) (pg : pgP) (t1 t2 : tbP) (x : Int32) (h : pg.1.2 ≤ 24) (hb : ∀ j, pg.1.1 j < 65536) : pm_Met l mX5_written 2 0 0 [.ref 0, .int x] (stN tx g1 g2 fn pg t1 t2) (isI (nI (sgF pg.1 x)) (stN tx g1 g2 fn pg t1 t2)) := by
  refine pm_Met.mk kX5_written hs (pm_J.run [] 40 (fun K hK => hK _ ?_))
  refine pm_J.cI [20, 21, 22] (c_signAt hs pg.1 (nA pg.2.1) (nI pg.2.2) x h hb) gRX5_184 vX1_signAt ?_
  refine pm_J.ri ⟨rfl, rfl⟩ (hn := ?_)
  unfold sgF
  split
  · exact (pk_charN (hb _)).1
  · rfl
theorem c_weigh (hs : l.stackTraces = false) (tx : txP) (g1 g2 : trP) (fn : fnP) (pg : pgP) (t1 t2 : tbP) (x y : Int32) (hc : t1.2.2.2 ≤ 16) :
    pm_Met l mX5_weigh 7 2 12 [.ref 0, .int x, .int y] (stN tx g1 g2 fn pg t1 t2) (fun o w' => (¬ okC t1.2.2.2 x ∧ o = .inr eI ∧ w' = stN tx g1 g2 fn pg t1 t2) ∨ (okC t1.2.2.2 x ∧ ¬ (nI 1 ≤ y ∧ y ≤ nI 9) ∧ o = .inr eA ∧ w' = stN tx g1 g2 fn pg t1 t2) ∨
      (okC t1.2.2.2 x ∧ (nI 1 ≤ y ∧ y ≤ nI 9) ∧ o = .inl (some (.int (nI (t1.2.1 x.toNatClampNeg)))) ∧ w' = stN tx g1 g2 (fn.1, fn.2.1, 0) pg (t1.1, upN t1.2.1 x.toNatClampNeg y.toNatClampNeg, t1.2.2.1, t1.2.2.2) t2)) := by
  refine pm_Met.mk kX5_weigh hs (pm_J.run [] 40 (fun K hK => hK _ ?_))
  refine pm_J.cP (List.range 29) (c_requireCharacter hs tx g1 g2 fn pg t1 t2 x) gRX5_96 vX5_requireCharacter (fun E h => ?_) (fun v h => ?_)
  · rcases h with ⟨h1, h2⟩ | ⟨h1, h2⟩
    · cases h2
    · cases h2
      exact Or.inl ⟨h1, rfl, rfl⟩
  · rcases h with ⟨h1, h2⟩ | ⟨h1, h2⟩
    · cases h2
      obtain ⟨a, ha, rfl⟩ := ok_nat (by omega) h1
      have ea : (nI a).toNatClampNeg = a := nI_clamp (by omega)
      have bad : ¬ (nI 1 ≤ y ∧ y ≤ nI 9) → pm_J l mX5_weigh iX5_weigh 7 2 12 29 _ (0 + 1) (0 + 6) (16, [some (.ref 0), some (.int (nI a)), some (.int y), none], [], stN tx g1 g2 fn pg t1 t2) := fun hy => pm_J.thA (O := fun o w' => (¬ okC t1.2.2.2 (nI a) ∧ o = .inr eI ∧ w' = stN tx g1 g2 fn pg t1 t2) ∨ (okC t1.2.2.2 (nI a) ∧ ¬ (nI 1 ≤ y ∧ y ≤ nI 9) ∧ o = .inr eA ∧ w' = stN tx g1 g2 fn pg t1 t2) ∨
        (okC t1.2.2.2 (nI a) ∧ (nI 1 ≤ y ∧ y ≤ nI 9) ∧ o = .inl (some (.int (nI (t1.2.1 (nI a).toNatClampNeg)))) ∧ w' = stN tx g1 g2 (fn.1, fn.2.1, 0) pg (t1.1, upN t1.2.1 (nI a).toNatClampNeg y.toNatClampNeg, t1.2.2.1, t1.2.2.2) t2)) "a weight is 1 to 9" st_102 (Or.inr (Or.inl ⟨h1, hy, rfl, rfl⟩))
      refine pm_J.run [16] 40 (fun K hK => And.intro (fun q => hK _ ?_) (fun q => And.intro (fun q2 => ?_) (fun q2 => hK _ ?_)))
      · exact bad (fun z => absurd q (Int32.not_lt.mpr z.1))
      · have hy : nI 1 ≤ y ∧ y ≤ nI 9 := ⟨Int32.not_lt.mp q, q2⟩
        obtain ⟨b, hb, rfl⟩ : ∃ b, b ≤ 9 ∧ y = nI b := by
          obtain ⟨b, hb, rfl⟩ := nI_of (x := y) (Int32.not_lt.mpr (Int32.le_trans (by decide) hy.1))
          exact ⟨b, (nI_leI hb (by decide)).mp hy.2, rfl⟩
        refine And.intro (vp_in_nI (by omega) (by decide)) (And.intro (vp_in_nI (by omega) (by decide)) (hK _ ?_))
        rw [ea]
        have eb : (nI b).toNatClampNeg = b := nI_clamp (by omega)
        rw [eb]
        refine pm_J.cvG [17, 18, 19] (stN tx g1 g2 (fn.1, fn.2.1, 0) pg (t1.1, upN t1.2.1 a b, t1.2.2.1, t1.2.2.2) t2) (c_forget hs (nA fn.1) (nA fn.2.1) (nI fn.2.2)) gRX5_76 vX0_forget ?_ (hw2 := ?_)
        · refine pm_J.run [] 40 (fun K hK => hK _ ?_)
          exact pm_J.riG (Or.inr (Or.inr ⟨h1, hy, rfl, rfl⟩))
        · unfold stN stW tbA tbAt
          dsimp only
          rw [← nA_upd]
          rfl
      · exact bad (fun z => q2 z.2)
    · cases h2
end SHT
