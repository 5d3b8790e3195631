section MOD
variable {l : Launch}
abbrev mA : Type := (Nat → Nat) × Nat
abbrev mP : Type := Nat × Int32 × Nat × Nat × (Nat → Nat)
abbrev mT : Type := Nat × Nat × (Nat → Nat) × (Nat → Nat)
abbrev mF : Type := Nat × (Nat → Nat)
abbrev mG : Type := Nat × (Nat → Nat) × (Nat → Nat) × (Nat → Nat) × (Nat → Nat) × (Nat → Nat)
abbrev mS : Type := Nat × (Nat → Nat) × Nat × (Nat → Nat)
abbrev mW : Type := Nat × (Nat → Nat) × (Nat → Int32)
/-- the reference's cells: text; reading; table; what is found; tree; splits; writing; thrown -/
abbrev moW (A : mA) (P : mP) (T : mT) (F : mF) (G : mG) (S : mS) (W : mW) (th : Nat) : List pm_E :=
  [.inr (6, [.int (nI A.2), .ref 1, .int (nI P.1), .int P.2.1, .int (nI T.1), .int (nI T.2.1), .ref 2, .ref 3, .ref 4, .int (nI P.2.2.1), .int (nI P.2.2.2.1), .int (nI F.1), .ref 5, .int (nI G.1), .ref 6, .ref 7, .ref 8, .ref 9, .ref 10, .int (nI S.1), .ref 11, .int (nI S.2.2.1), .ref 12, .int (nI W.1), .ref 13, .ref 14, .int (nI th)]),
   .inl (.char, 160, .inl (nA A.1)), .inl (.int, 112, .inl (nA T.2.2.1)), .inl (.int, 16, .inl (nA T.2.2.2)), .inl (.int, 112, .inl (nA P.2.2.2.2)), .inl (.int, 945, .inl (nA F.2)), .inl (.int, 16, .inl (nA G.2.1)), .inl (.int, 16, .inl (nA G.2.2.1)), .inl (.int, 16, .inl (nA G.2.2.2.1)), .inl (.boolean, 16, .inl (nA G.2.2.2.2.1)), .inl (.int, 64, .inl (nA G.2.2.2.2.2)), .inl (.int, 8, .inl (nA S.2.1)), .inl (.int, 8, .inl (nA S.2.2.2)), .inl (.char, 64, .inl (nA W.2.1)), .inl (.int, 64, .inl W.2.2)]
abbrev q15 : List Nat := [0, 1, 2, 3, 4, 5, 6, 7, 8, 9, 10, 11, 12, 13, 14]
theorem d_thrown (hs : l.stackTraces = false) (A : mA) (P : mP) (T : mT) (F : mF) (G : mG) (S : mS) (W : mW) (th : Nat) : pm_Met l mX6_thrown 1 0 0 [.ref 0] (moW A P T F G S W th) (isI (nI th) (moW A P T F G S W th)) := by
  refine pm_Met.mk kX6_thrown hs (pm_J.run [] 20 (fun K hK => hK _ ?_))
  exact pm_J.ri ⟨rfl, rfl⟩
theorem d_type (hs : l.stackTraces = false) (A : mA) (P : mP) (T : mT) (F : mF) (G : mG) (S : mS) (W : mW) (th v : Nat) (hn : A.2 ≤ 160) (hv : v < 65536) : pm_Met l mX6_type 1 0 0 [.ref 0, .int (nI v)] (moW A P T F G S W th) (if A.2 = 160 then isI (nI 0) (moW A P T F G S W 1) else isI (nI (A.2 + 1)) (moW (upN A.1 A.2 v, A.2 + 1) P T F G S W 0)) := by
  refine pm_Met.mk kX6_type hs (pm_J.run [16] 20 (fun K hK => And.intro (fun q => hK _ ?_) (fun q => hK _ ?_)))
  · have q' : ¬ nI A.2 = nI 160 := q
    rw [nI_eq (by omega) (by decide)] at q'
    rw [if_neg q']
    refine pm_J.run [] 40 (fun K hK => br_t (by decide) (And.intro (vp_in_nI (by omega) (by decide)) (hK _ ?_)))
    rw [nar_char hv, nI_clamp (by omega)]
    refine pm_J.ri ⟨by rw [← nI_add A.2 1]; rfl, ?_⟩
    unfold moW
    dsimp only
    rw [← nA_upd, ← nI_add A.2 1]
    rfl
  · have q' : ¬ ¬ nI A.2 = nI 160 := q
    rw [nI_eq (by omega) (by decide)] at q'
    rw [if_pos (Classical.not_not.mp q')]
    refine pm_J.run [] 40 (fun K hK => br_f (by decide) (hK _ ?_))
    exact pm_J.ri ⟨rfl, rfl⟩
theorem d_isCharacter (hs : l.stackTraces = false) (A : mA) (P : mP) (T : mT) (F : mF) (G : mG) (S : mS) (W : mW) (th : Nat) (x : Int32) : pm_Met l mX6_isCharacter 1 0 0 [.ref 0, .int x] (moW A P T F G S W th) (isI (if 0 ≤ x ∧ x < nI T.2.1 then nI 1 else nI 0) (moW A P T F G S W th)) := by
  refine pm_Met.mk kX6_isCharacter hs (pm_J.run [] 20 (fun K hK => And.intro (fun h => hK _ ?_) (fun h => And.intro (fun h2 => hK _ ?_) (fun h2 => hK _ ?_))))
  · exact pm_J.ri ⟨by rw [if_neg (fun z => absurd h (Int32.not_lt.mpr z.1))]; rfl, rfl⟩
  · exact pm_J.ri ⟨by rw [if_neg (fun z => absurd z.2 (Int32.not_lt.mpr h2))]; rfl, rfl⟩
  · exact pm_J.ri ⟨by rw [if_pos ⟨Int32.not_lt.mp h, Int32.not_le.mp h2⟩]; rfl, rfl⟩
theorem d_states (hs : l.stackTraces = false) (A : mA) (P : mP) (T : mT) (F : mF) (G : mG) (S : mS) (W : mW) (th : Nat) (x y : Int32) (hk : T.1 ≤ 7) (hc : T.2.1 ≤ 16) : pm_Met l mX6_states 2 0 0 [.ref 0, .int x, .int y] (moW A P T F G S W th) (fun o w' => ((okC T.1 x ∧ okC T.2.1 y) ∧ o = .inl (some (.int (nI (T.2.2.1 (16 * x.toNatClampNeg + y.toNatClampNeg))))) ∧ w' = moW A P T F G S W 0) ∨ (¬ (okC T.1 x ∧ okC T.2.1 y) ∧ o = .inl (some (.int (nI 0))) ∧ w' = moW A P T F G S W 1)) := by
  generalize hO : (fun (o : pm_O) (w' : List pm_E) => ((okC T.1 x ∧ okC T.2.1 y) ∧ o = .inl (some (.int (nI (T.2.2.1 (16 * x.toNatClampNeg + y.toNatClampNeg))))) ∧ w' = moW A P T F G S W 0) ∨ (¬ (okC T.1 x ∧ okC T.2.1 y) ∧ o = .inl (some (.int (nI 0))) ∧ w' = moW A P T F G S W 1)) = O
  have bad : ¬ (okC T.1 x ∧ okC T.2.1 y) → pm_J l mX6_states iX6_states 2 0 0 15 O 0 0 (21, [some (.ref 0), some (.int x), some (.int y)], [.ref 0], moW A P T F G S W th) := by
    intro h
    refine pm_J.run [] 40 (fun K hK => br_t (by decide) (hK _ ?_))
    refine pm_J.ri ?_
    rw [← hO]
    exact Or.inr ⟨h, rfl, rfl⟩
  refine pm_Met.mk kX6_states hs (pm_J.run [21] 40 (fun K hK => And.intro (fun q => hK _ ?_) (fun q => And.intro (fun q2 => hK _ ?_) (fun q2 => hK _ ?_))))
  · exact bad (fun z => absurd q (Int32.not_lt.mpr z.1.1))
  · exact bad (fun z => absurd z.1.2 (Int32.not_lt.mpr q2))
  · refine pm_J.cI q15 (d_isCharacter hs A P T F G S W th y) gRX6_103 vX6_isCharacter ?_
    by_cases h : 0 ≤ y ∧ y < nI T.2.1
    · rw [if_pos h]
      have hx : okC T.1 x := ⟨Int32.not_lt.mp q, Int32.not_le.mp q2⟩
      obtain ⟨a, ha, rfl⟩ := ok_nat (by omega) hx
      obtain ⟨b, hb, rfl⟩ := ok_nat (by omega) h
      have e : nI 16 * nI a + nI b = nI (16 * a + b) := by rw [pk_mul, nI_add]
      have e' : pm_k 16 * nI a + nI b = nI (16 * a + b) := e
      refine pm_J.run [21] 40 (fun K hK => br_t (by decide) (br_f (by decide) (And.intro (by rw [e']; exact vp_in_nI (by omega) (by decide)) (hK _ ?_))))
      rw [e', nI_clamp (by omega)]
      refine pm_J.ri ?_
      rw [← hO]
      refine Or.inl ⟨⟨hx, h⟩, ?_, rfl⟩
      rw [nI_clamp (by omega), nI_clamp (by omega)]
    · rw [if_neg h]
      refine pm_J.run [21] 40 (fun K hK => br_f (by decide) (hK _ ?_))
      exact bad (fun z => h z.2)
theorem d_weigh (hs : l.stackTraces = false) (A : mA) (P : mP) (T : mT) (F : mF) (G : mG) (S : mS) (W : mW) (th : Nat) (x y : Int32) (hc : T.2.1 ≤ 16) : pm_Met l mX6_weigh 2 0 0 [.ref 0, .int x, .int y] (moW A P T F G S W th) (fun o w' => (¬ okC T.2.1 x ∧ o = .inl (some (.int (nI 0))) ∧ w' = moW A P T F G S W 1) ∨ (okC T.2.1 x ∧ ¬ (nI 1 ≤ y ∧ y ≤ nI 9) ∧ o = .inl (some (.int (nI 0))) ∧ w' = moW A P T F G S W 2) ∨
    (okC T.2.1 x ∧ (nI 1 ≤ y ∧ y ≤ nI 9) ∧ o = .inl (some (.int (nI (T.2.2.2 x.toNatClampNeg)))) ∧ w' = moW A P (T.1, T.2.1, T.2.2.1, upN T.2.2.2 x.toNatClampNeg y.toNatClampNeg) (0, F.2) G S W 0)) := by
  generalize hO : (fun (o : pm_O) (w' : List pm_E) => (¬ okC T.2.1 x ∧ o = .inl (some (.int (nI 0))) ∧ w' = moW A P T F G S W 1) ∨ (okC T.2.1 x ∧ ¬ (nI 1 ≤ y ∧ y ≤ nI 9) ∧ o = .inl (some (.int (nI 0))) ∧ w' = moW A P T F G S W 2) ∨
    (okC T.2.1 x ∧ (nI 1 ≤ y ∧ y ≤ nI 9) ∧ o = .inl (some (.int (nI (T.2.2.2 x.toNatClampNeg)))) ∧ w' = moW A P (T.1, T.2.1, T.2.2.1, upN T.2.2.2 x.toNatClampNeg y.toNatClampNeg) (0, F.2) G S W 0)) = O
  refine pm_Met.mk kX6_weigh hs (pm_J.run [] 40 (fun K hK => hK _ ?_))
  refine pm_J.cI q15 (d_isCharacter hs A P T F G S W th x) gRX6_103 vX6_isCharacter ?_
  by_cases h : 0 ≤ x ∧ x < nI T.2.1
  · rw [if_pos h]
    have bad : ¬ (nI 1 ≤ y ∧ y ≤ nI 9) → pm_J l mX6_weigh iX6_weigh 2 0 0 15 O 0 0 (24, [some (.ref 0), some (.int x), some (.int y), none], [.ref 0], moW A P T F G S W th) := by
      intro hy
      refine pm_J.run [] 40 (fun K hK => br_f (by decide) (hK _ ?_))
      refine pm_J.ri ?_
      rw [← hO]
      exact Or.inr (Or.inl ⟨h, hy, rfl, rfl⟩)
    refine pm_J.run [24] 40 (fun K hK => br_t (by decide) (And.intro (fun q => hK _ ?_) (fun q => And.intro (fun q2 => ?_) (fun q2 => hK _ ?_))))
    · exact bad (fun z => absurd q (Int32.not_lt.mpr z.1))
    · have hy : nI 1 ≤ y ∧ y ≤ nI 9 := ⟨Int32.not_lt.mp q, q2⟩
      obtain ⟨a, ha, rfl⟩ := ok_nat (by omega) h
      obtain ⟨b, hb, rfl⟩ : ∃ b, b ≤ 9 ∧ y = nI b := by
        obtain ⟨b, hb, rfl⟩ := nI_of (x := y) (Int32.not_lt.mpr (Int32.le_trans (by decide) hy.1))
        exact ⟨b, (nI_leI hb (by decide)).mp hy.2, rfl⟩
      have ea : (nI a).toNatClampNeg = a := nI_clamp (by omega)
      have eb : (nI b).toNatClampNeg = b := nI_clamp (by omega)
      refine br_t (by decide) (And.intro (vp_in_nI (by omega) (by decide)) (And.intro (vp_in_nI (by omega) (by decide)) (hK _ ?_)))
      refine pm_J.ri ?_
      rw [← hO]
      refine Or.inr (Or.inr ⟨h, hy, rfl, ?_⟩)
      rw [ea, eb]
      unfold moW
      dsimp only
      rw [← nA_upd]
      rfl
    · exact bad (fun z => q2 z.2)
  · rw [if_neg h]
    refine pm_J.run [] 40 (fun K hK => br_f (by decide) (br_f (by decide) (hK _ ?_)))
    refine pm_J.ri ?_
    rw [← hO]
    exact Or.inl ⟨h, rfl, rfl⟩
theorem d_many (hs : l.stackTraces = false) (A : mA) (P : mP) (T : mT) (F : mF) (G : mG) (S : mS) (W : mW) (th : Nat) (hk : T.1 ≤ 7) : pm_Met l mX6_many 1 0 0 [.ref 0] (moW A P T F G S W th) (isI (nI (tcount T.1)) (moW A P T F G S W th)) := by
  refine pm_Met.mk kX6_many hs (pm_J.run [13] 20 (fun K hK => And.intro (fun h => hK _ ?_) (fun h => hK _ ?_)))
  · have h3 : 3 ≤ T.1 := (nI_leI (a := 3) (b := T.1) (by omega) (by omega)).mp h
    refine pm_J.run [16] 20 (fun K hK => hK _ ?_)
    refine pm_up (b := T.1) (P := fun i => pm_J l mX6_many iX6_many 1 0 0 15 (isI (nI (tcount T.1)) (moW A P T F G S W th)) 0 0 (16, [some (.ref 0), some (.int (nI (tprod i))), some (.int (nI i))], [], moW A P T F G S W th)) 3 h3 ?_ (fun i h1 h2 ih => ?_)
    · refine pm_J.run [16] 40 (fun K hK => br_t (nI_le (Nat.le_refl _) (by omega)) (hK _ ?_))
      exact pm_J.ri ⟨by rw [tcount, if_neg (by omega)], rfl⟩
    · refine pm_J.run [16] 40 (fun K hK => br_f (nI_ge h2 (by omega)) (hK _ ?_))
      have e : nI (tprod (i + 1)) = nI (tprod i) * (nI 2 * nI i - nI 3) := by
        rw [pk_mul, pk_sub (by omega), pk_mul, tprod, if_neg (by omega)]
      rw [e, ← nI_add i 1] at ih
      exact ih
  · have h3 : ¬ 3 ≤ T.1 := fun z => h ((nI_leI (a := 3) (b := T.1) (by omega) (by omega)).mpr z)
    refine pm_J.run [16] 20 (fun K hK => hK _ ?_)
    refine pm_J.run [] 40 (fun K hK => br_t (nI_le (a := T.1) (b := 3) (by omega) (by omega)) (hK _ ?_))
    exact pm_J.ri ⟨by rw [tcount, if_pos (by omega)]; rfl, rfl⟩
theorem d_trees (hs : l.stackTraces = false) (A : mA) (P : mP) (T : mT) (F : mF) (G : mG) (S : mS) (W : mW) (th : Nat) (hk : T.1 ≤ 7) : pm_Met l mX6_trees 2 0 0 [.ref 0] (moW A P T F G S W th) (isI (nI (tcount T.1)) (moW A P T F G S W 0)) := by
  refine pm_Met.mk kX6_trees hs (pm_J.run [] 20 (fun K hK => hK _ ?_))
  refine pm_J.ciw q15 (moW A P T F G S W 0) (d_many hs A P T F G S W 0 hk) gRX6_106 vX6_many ?_
  exact pm_J.ri ⟨rfl, rfl⟩
theorem d_isTree (hs : l.stackTraces = false) (A : mA) (P : mP) (T : mT) (F : mF) (G : mG) (S : mS) (W : mW) (th : Nat) (x : Int32) (hk : T.1 ≤ 7) : pm_Met l mX6_isTree 2 0 0 [.ref 0, .int x] (moW A P T F G S W th) (isI (if 0 ≤ x ∧ x < nI (tcount T.1) then nI 1 else nI 0) (moW A P T F G S W th)) := by
  refine pm_Met.mk kX6_isTree hs (pm_J.run [16] 20 (fun K hK => And.intro (fun h => hK _ ?_) (fun h => hK _ ?_)))
  · refine pm_J.run [] 20 (fun K hK => hK _ ?_)
    exact pm_J.ri ⟨by rw [if_neg (fun z => absurd h (Int32.not_lt.mpr z.1))]; rfl, rfl⟩
  · refine pm_J.cI q15 (d_many hs A P T F G S W th hk) gRX6_106 vX6_many ?_
    refine pm_J.run [] 20 (fun K hK => And.intro (fun h2 => hK _ ?_) (fun h2 => hK _ ?_))
    · exact pm_J.ri ⟨by rw [if_neg (fun z => absurd z.2 (Int32.not_lt.mpr h2))]; rfl, rfl⟩
    · exact pm_J.ri ⟨by rw [if_pos ⟨Int32.not_lt.mp h, Int32.not_le.mp h2⟩]; rfl, rfl⟩
theorem d_found (hs : l.stackTraces = false) (A : mA) (P : mP) (T : mT) (F : mF) (G : mG) (S : mS) (W : mW) (th : Nat) : pm_Met l mX6_found 1 0 0 [.ref 0] (moW A P T F G S W th) (isI (nI F.1) (moW A P T F G S W 0)) := by
  refine pm_Met.mk kX6_found hs (pm_J.run [] 20 (fun K hK => hK _ ?_))
  exact pm_J.ri ⟨rfl, rfl⟩
theorem d_best (hs : l.stackTraces = false) (A : mA) (P : mP) (T : mT) (F : mF) (G : mG) (S : mS) (W : mW) (th : Nat) (x : Int32) (hc : F.1 ≤ 945) : pm_Met l mX6_best 1 0 0 [.ref 0, .int x] (moW A P T F G S W th) (fun o w' => (okC F.1 x ∧ o = .inl (some (.int (nI (F.2 x.toNatClampNeg)))) ∧ w' = moW A P T F G S W 0) ∨ (¬ okC F.1 x ∧ o = .inl (some (.int (nI 0))) ∧ w' = moW A P T F G S W 1)) := by
  generalize hO : (fun (o : pm_O) (w' : List pm_E) => (okC F.1 x ∧ o = .inl (some (.int (nI (F.2 x.toNatClampNeg)))) ∧ w' = moW A P T F G S W 0) ∨ (¬ okC F.1 x ∧ o = .inl (some (.int (nI 0))) ∧ w' = moW A P T F G S W 1)) = O
  have bad : ¬ okC F.1 x → pm_J l mX6_best iX6_best 1 0 0 15 O 0 0 (13, [some (.ref 0), some (.int x)], [.ref 0], moW A P T F G S W th) := by
    intro h
    refine pm_J.run [] 40 (fun K hK => br_t (by decide) (hK _ ?_))
    refine pm_J.ri ?_
    rw [← hO]
    exact Or.inr ⟨h, rfl, rfl⟩
  refine pm_Met.mk kX6_best hs (pm_J.run [13] 40 (fun K hK => And.intro (fun q => hK _ ?_) (fun q => And.intro (fun q2 => ?_) (fun q2 => hK _ ?_))))
  · exact bad (fun z => absurd q (Int32.not_lt.mpr z.1))
  · have hx : okC F.1 x := ⟨Int32.not_lt.mp q, q2⟩
    obtain ⟨a, ha, rfl⟩ := ok_nat (by omega) hx
    refine br_f (by decide) (And.intro (vp_in_nI (by omega) (by decide)) (hK _ ?_))
    refine pm_J.ri ?_
    rw [← hO]
    exact Or.inl ⟨hx, rfl, rfl⟩
  · exact bad (fun z => q2 z.2)
end MOD
