section MDA
variable {l : Launch}
/-- the changes that a character needs on a tree, as the reference reckons them -/
def ndV (T : mT) (x c : Nat) : Nat := ndF T (gwS T.1 x T.1).1 (gwS T.1 x T.1).2.1 (gwS T.1 x T.1).2.2 (fun _ => 0) c
/-- they do not hang on what stood in the costs -/
def NdOk (T : mT) : Prop := ∀ x, x < tcount T.1 → ∀ co, CB co → ∀ c, c < T.2.1 → ndF T (gwS T.1 x T.1).1 (gwS T.1 x T.1).2.1 (gwS T.1 x T.1).2.2 co c = ndV T x c
def GJ (G : mG) : Prop := GI G ∧ CB G.2.2.2.2.2
/-- the reference's world, whatever the tree, its sets and splits -/
def moE (A : mA) (P : mP) (T : mT) (F : mF) (W : mW) (th : Nat) (w : List pm_E) : Prop := ∃ G S, GJ G ∧ w = moW A P T F G S W th
/-- the table as it stands -/
def TbI (T : mT) : Prop := T.1 ≤ 7 ∧ T.2.1 ≤ 16 ∧ ∀ a c, a < T.1 → c < T.2.1 → T.2.2.1 (16 * a + c) < 16
theorem tc_lt {k : Nat} (hk : k ≤ 7) : tcount k ≤ 945 := by
  have : ∀ k, k ≤ 7 → tcount k ≤ 945 := by decide
  exact this k hk
theorem tc_3 {k x : Nat} (hx : x < tcount k) : 3 ≤ k := by
  unfold tcount at hx
  split at hx <;> omega
/-- a tree that is grown, costs and readiness apart -/
def gwD (k x : Nat) (rd co : Nat → Nat) : mG := ((gwS k x k).1, (gwS k x k).2.1, (gwS k x k).2.2, (gwR k x).2, rd, co)
theorem gwD_GJ {k x : Nat} {rd co : Nat → Nat} (hk : k ≤ 7) (hr : Bz 128 rd) (hc : CB co) : GJ (gwD k x rd co) := by
  obtain ⟨g1, g2, g3, g4⟩ := gwT_GI (x := x) co hk
  exact ⟨⟨g1, g2, g3, hr⟩, hc⟩
theorem d_neededD (hs : l.stackTraces = false) (A : mA) (P : mP) (T : mT) (F : mF) (S : mS) (W : mW) (th x c : Nat) (rd co : Nat → Nat) (hT : TbI T) (hN : NdOk T) (hx : x < tcount T.1) (hc : c < T.2.1) (hrd : Bz 128 rd) (hco : CB co) :
    pm_Met l mX6_needed 3 0 0 [.ref 0, .int (nI c)] (moW A P T F (gwD T.1 x rd co) S W th) (isI (nI (ndV T x c)) (moW A P T F (gwD T.1 x (ndR T (gwS T.1 x T.1).2.1 (gwS T.1 x T.1).2.2 co c).1 (ndR T (gwS T.1 x T.1).2.1 (gwS T.1 x T.1).2.2 co c).2) S W th)) := by
  obtain ⟨i1, i2, i3⟩ := gwS_ok T.1 x T.1 hT.1
  have := d_needed hs A P T F (gwS T.1 x T.1).1 (gwS T.1 x T.1).2.1 (gwS T.1 x T.1).2.2 (gwR T.1 x).2 rd co S W th c (tc_3 hx) hT.1 (by have := hT.2.1; omega) i1 i2.1 i3.1 hrd hco (fun k hk => hT.2.2 k c hk hc)
  rw [hN x hx co hco c hc] at this
  exact this
theorem ndR_BN {T : mT} {L R co : Nat → Nat} {c : Nat} (hk : T.1 ≤ 7) (h : CB co) : BN (ndR T L R co c) := nsO_BN hk ⟨rdK_Bz hk, ci_CB h _⟩ 6
theorem d_growD (hs : l.stackTraces = false) (A : mA) (P : mP) (T : mT) (F : mF) (G : mG) (S : mS) (W : mW) (th x : Nat) (hk : T.1 ≤ 7) (hx : x < tcount T.1) (hG : GJ G) :
    pm_Met l mX6_grow 2 0 0 [.ref 0, .int (nI x)] (moW A P T F G S W th) (isO none (moW A P T F (gwD T.1 x (gwR T.1 x).1 G.2.2.2.2.2) (gwP T.1 x S) W th)) :=
  d_grow hs A P T F G S W th x (tc_3 hx) hk (by have := tc_lt hk; omega) hG.1
theorem gwR_Bz {k x : Nat} (hk : k ≤ 7) : Bz 128 (gwR k x).1 := (gwT_GI (x := x) (fun _ => 0) hk).2.2.2
theorem d_changes (hs : l.stackTraces = false) (A : mA) (P : mP) (T : mT) (F : mF) (G : mG) (S : mS) (W : mW) (th : Nat) (x y : Int32) (hT : TbI T) (hN : NdOk T) (hG : GJ G) :
    pm_Met l mX6_changes 4 0 0 [.ref 0, .int x, .int y] (moW A P T F G S W th) (fun o w' => ((okC (tcount T.1) x ∧ okC T.2.1 y) ∧ o = .inl (some (.int (nI (ndV T x.toNatClampNeg y.toNatClampNeg)))) ∧ moE A P T F W 0 w') ∨ (¬ (okC (tcount T.1) x ∧ okC T.2.1 y) ∧ o = .inl (some (.int (nI 0))) ∧ w' = moW A P T F G S W 1)) := by
  generalize hO : (fun (o : pm_O) (w' : List pm_E) => ((okC (tcount T.1) x ∧ okC T.2.1 y) ∧ o = .inl (some (.int (nI (ndV T x.toNatClampNeg y.toNatClampNeg)))) ∧ moE A P T F W 0 w') ∨ (¬ (okC (tcount T.1) x ∧ okC T.2.1 y) ∧ o = .inl (some (.int (nI 0))) ∧ w' = moW A P T F G S W 1)) = O
  have hk := hT.1
  have hc := hT.2.1
  have htc := tc_lt hk
  have bad : ¬ (okC (tcount T.1) x ∧ okC T.2.1 y) → pm_J l mX6_changes iX6_changes 4 0 0 15 O 0 0 (17, [some (.ref 0), some (.int x), some (.int y)], [.ref 0], moW A P T F G S W th) := by
    intro h
    refine pm_J.run [] 40 (fun K hK => br_f (by decide) (hK _ ?_))
    refine pm_J.ri ?_
    rw [← hO]
    exact Or.inr ⟨h, rfl, rfl⟩
  refine pm_Met.mk kX6_changes hs (pm_J.run [] 40 (fun K hK => hK _ ?_))
  refine pm_J.cI q15 (d_isTree hs A P T F G S W th x hk) gRX6_132 vX6_isTree ?_
  by_cases h : 0 ≤ x ∧ x < nI (tcount T.1)
  · rw [if_pos h]
    refine pm_J.run [17] 40 (fun K hK => br_f (by decide) (hK _ ?_))
    refine pm_J.cI q15 (d_isCharacter hs A P T F G S W th y) gRX6_103 vX6_isCharacter ?_
    by_cases h2 : 0 ≤ y ∧ y < nI T.2.1
    · rw [if_pos h2]
      obtain ⟨a, ha, rfl⟩ := ok_nat (by omega) h
      obtain ⟨b, hb, rfl⟩ := ok_nat (by omega) h2
      refine pm_J.run [17] 40 (fun K hK => br_t (by decide) (br_t (by decide) (hK _ ?_)))
      refine pm_J.cv q15 (moW A P T F (gwD T.1 a (gwR T.1 a).1 G.2.2.2.2.2) (gwP T.1 a S) W 0) (d_growD hs A P T F G S W 0 a hk ha hG) gRX6_135 vX6_grow ?_
      refine pm_J.run [17] 40 (fun K hK => hK _ ?_)
      refine pm_J.ciw q15 _ (d_neededD hs A P T F (gwP T.1 a S) W 0 a b (gwR T.1 a).1 G.2.2.2.2.2 hT hN ha hb (gwR_Bz hk) hG.2) gRX6_138 vX6_needed ?_
      refine pm_J.ri ?_
      rw [← hO]
      refine Or.inl ⟨⟨h, h2⟩, ?_, _, _, ?_, rfl⟩
      · rw [nI_clamp (by omega), nI_clamp (by omega)]
      · have := ndR_BN (T := T) (L := (gwS T.1 a T.1).2.1) (R := (gwS T.1 a T.1).2.2) (c := b) hk hG.2
        exact gwD_GJ hk this.1 this.2
    · rw [if_neg h2]
      refine pm_J.run [17] 40 (fun K hK => br_f (by decide) (hK _ ?_))
      exact bad (fun z => h2 z.2)
  · rw [if_neg h]
    refine pm_J.run [17] 40 (fun K hK => br_t (by decide) (hK _ ?_))
    exact bad (fun z => h z.1)
def lnS (T : mT) (x : Nat) : Nat → Nat
  | 0 => 0
  | c + 1 => lnS T x c + T.2.2.2 c * ndV T x c
abbrev lnV (T : mT) (x : Nat) : Nat := lnS T x T.2.1
/-- the reference's world with the tree x grown -/
def moG (A : mA) (P : mP) (T : mT) (F : mF) (S : mS) (W : mW) (th x : Nat) (w : List pm_E) : Prop := ∃ rd co, Bz 128 rd ∧ CB co ∧ w = moW A P T F (gwD T.1 x rd co) S W th
theorem d_lengthOf (hs : l.stackTraces = false) (A : mA) (P : mP) (T : mT) (F : mF) (G : mG) (S : mS) (W : mW) (th x : Nat) (hT : TbI T) (hN : NdOk T) (hx : x < tcount T.1) (hG : GJ G) :
    pm_Met l mX6_lengthOf 4 0 0 [.ref 0, .int (nI x)] (moW A P T F G S W th) (fun o w' => o = .inl (some (.int (nI (lnV T x)))) ∧ moG A P T F (gwP T.1 x S) W th x w') := by
  generalize hO : (fun (o : pm_O) (w' : List pm_E) => o = .inl (some (.int (nI (lnV T x)))) ∧ moG A P T F (gwP T.1 x S) W th x w') = O
  have hk := hT.1
  have hc := hT.2.1
  refine pm_Met.mk kX6_lengthOf hs (pm_J.run [] 40 (fun K hK => hK _ ?_))
  refine pm_J.cv q15 (moW A P T F (gwD T.1 x (gwR T.1 x).1 G.2.2.2.2.2) (gwP T.1 x S) W th) (d_growD hs A P T F G S W th x hk hx hG) gRX6_135 vX6_grow ?_
  refine pm_J.run [9] 40 (fun K hK => hK _ ?_)
  have key : ∀ rd co, Bz 128 rd → CB co → pm_J l mX6_lengthOf iX6_lengthOf 4 0 0 15 O 0 0 (9, [some (.ref 0), some (.int (nI x)), some (.int (nI (lnS T x 0))), some (.int (nI 0))], [], moW A P T F (gwD T.1 x rd co) (gwP T.1 x S) W th) := by
    refine pm_up (b := T.2.1) (P := fun c => ∀ rd co, Bz 128 rd → CB co → pm_J l mX6_lengthOf iX6_lengthOf 4 0 0 15 O 0 0 (9, [some (.ref 0), some (.int (nI x)), some (.int (nI (lnS T x c))), some (.int (nI c))], [], moW A P T F (gwD T.1 x rd co) (gwP T.1 x S) W th)) 0 (Nat.zero_le _) (fun rd co hr hco => ?_) (fun c h1 h2 ih rd co hr hco => ?_)
    · refine pm_J.run [] 40 (fun K hK => br_t (nI_le (Nat.le_refl _) (by omega)) (hK _ ?_))
      refine pm_J.ri ?_
      rw [← hO]
      exact ⟨rfl, rd, co, hr, hco, rfl⟩
    · have hB := ndR_BN (T := T) (L := (gwS T.1 x T.1).2.1) (R := (gwS T.1 x T.1).2.2) (c := c) hk hco
      have ih2 := ih _ _ hB.1 hB.2
      have e : lnS T x (c + 1) = lnS T x c + T.2.2.2 c * ndV T x c := rfl
      rw [e, ← nI_add (lnS T x c), ← pk_mul, ← nI_add c 1] at ih2
      refine pm_J.run [] 40 (fun K hK => br_f (nI_ge h2 (by omega)) (And.intro (vp_in_nI (by omega) (by decide)) (hK _ ?_)))
      rw [nI_clamp (by omega)]
      refine pm_J.ciw q15 _ (d_neededD hs A P T F (gwP T.1 x S) W th x c rd co hT hN hx h2 hr hco) gRX6_138 vX6_needed ?_
      refine pm_J.run [9] 40 (fun K hK => hK _ ?_)
      exact ih2
  exact key _ _ (gwR_Bz hk) hG.2
end MDA
