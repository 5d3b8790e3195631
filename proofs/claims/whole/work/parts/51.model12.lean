section MDC
variable {l : Launch}
theorem spS_ag (st : Nat → Nat) (k : Nat) (s0 s1 : Nat → Nat) : ∀ n, (spS st k s0 n).1 = (spS st k s1 n).1 ∧ ∀ i, i < (spS st k s1 n).1 → (spS st k s0 n).2 i = (spS st k s1 n).2 i
  | 0 => ⟨rfl, fun i hi => absurd hi (Nat.not_lt_zero i)⟩
  | n + 1 => by
    obtain ⟨h1, h2⟩ := spS_ag st k s0 s1 n
    unfold spS
    split
    · exact ⟨rfl, fun i hi => absurd hi (Nat.not_lt_zero i)⟩
    · split
      · exact ⟨h1, h2⟩
      · dsimp only
        rw [h1]
        refine ⟨rfl, fun i hi => ?_⟩
        unfold upN
        split
        · rfl
        · exact h2 i (by omega)
theorem hasQ_ag {s0 s1 : Nat → Nat} {x : Int32} : ∀ n, (∀ i, i < n → s0 i = s1 i) → hasQ s0 x n = hasQ s1 x n
  | 0, _ => rfl
  | n + 1, h => by
    unfold hasQ
    rw [hasQ_ag n (fun i hi => h i (by omega)), h n (by omega)]
/-- a tree's splits, as the reference gathers them -/
def spW (k a : Nat) : Nat × (Nat → Nat) := spS (gwR k a).2 k (fun _ => 0) (8 + k)
def hasT (k a : Nat) (x : Int32) : Bool := hasQ (spW k a).2 x (spW k a).1
theorem gwP_n (k a : Nat) (S : mS) : (gwP k a S).1 = (spW k a).1 := (spS_ag _ _ _ _ _).1
theorem gwP_e {k a : Nat} (S : mS) {i : Nat} (hi : i < (spW k a).1) : (gwP k a S).2.1 i = (spW k a).2 i := (spS_ag _ _ _ _ _).2 i hi
theorem gwP_has (k a : Nat) (S : mS) (x : Int32) : hasQ (gwP k a S).2.1 x (gwP k a S).1 = hasT k a x := by
  rw [gwP_n]
  exact hasQ_ag _ (fun i hi => gwP_e S hi)
theorem spW_le {k a : Nat} (hk : k ≤ 7) : (spW k a).1 ≤ 8 := by
  have := spS_le (gwR k a).2 k (fun _ => 0) (8 + k)
  unfold spW
  omega
theorem d_hasP (hs : l.stackTraces = false) (A : mA) (P : mP) (T : mT) (F : mF) (G : mG) (S : mS) (W : mW) (th k a : Nat) (x : Int32) (hk : k ≤ 7) :
    pm_Met l mX6_hasSplit 1 0 0 [.ref 0, .int x] (moW A P T F G (gwP k a S) W th) (isI (nI (b2n (hasT k a x))) (moW A P T F G (gwP k a S) W th)) := by
  have := d_hasSplit hs A P T F G (gwP k a S) W th x (by rw [gwP_n]; exact spW_le hk)
  rw [gwP_has] at this
  exact this
theorem d_split (hs : l.stackTraces = false) (A : mA) (P : mP) (T : mT) (F : mF) (G : mG) (S : mS) (W : mW) (th : Nat) (x y : Int32) (hk : T.1 ≤ 7) (hG : GJ G) :
    pm_Met l mX6_split 3 0 0 [.ref 0, .int x, .int y] (moW A P T F G S W th) (fun o w' => (okC (tcount T.1) x ∧ o = .inl (some (.int (nI (b2n (hasT T.1 x.toNatClampNeg y))))) ∧ moE A P T F W 0 w') ∨ (¬ okC (tcount T.1) x ∧ o = .inl (some (.int (nI 0))) ∧ w' = moW A P T F G S W 1)) := by
  generalize hO : (fun (o : pm_O) (w' : List pm_E) => (okC (tcount T.1) x ∧ o = .inl (some (.int (nI (b2n (hasT T.1 x.toNatClampNeg y))))) ∧ moE A P T F W 0 w') ∨ (¬ okC (tcount T.1) x ∧ o = .inl (some (.int (nI 0))) ∧ w' = moW A P T F G S W 1)) = O
  have htc := tc_lt hk
  refine pm_Met.mk kX6_split hs (pm_J.run [] 40 (fun K hK => hK _ ?_))
  refine pm_J.cI q15 (d_isTree hs A P T F G S W th x hk) gRX6_132 vX6_isTree ?_
  by_cases h : 0 ≤ x ∧ x < nI (tcount T.1)
  · rw [if_pos h]
    obtain ⟨a, ha, rfl⟩ := ok_nat (by omega) h
    refine pm_J.run [] 40 (fun K hK => br_f (by decide) (br_t (by decide) (hK _ ?_)))
    refine pm_J.cv q15 (moW A P T F (gwD T.1 a (gwR T.1 a).1 G.2.2.2.2.2) (gwP T.1 a S) W 0) (d_growD hs A P T F G S W 0 a hk ha hG) gRX6_135 vX6_grow ?_
    refine pm_J.run [] 40 (fun K hK => hK _ ?_)
    refine pm_J.cI q15 (d_hasP hs A P T F (gwD T.1 a (gwR T.1 a).1 G.2.2.2.2.2) S W 0 T.1 a y hk) gRX6_145 vX6_hasSplit ?_
    refine pm_J.ri ?_ (hn := ?_)
    · rw [← hO]
      exact Or.inl ⟨h, by rw [nI_clamp (by omega)], _, _, gwD_GJ hk (gwR_Bz hk) hG.2, rfl⟩
    · cases hasT T.1 a y <;> rfl
  · rw [if_neg h]
    refine pm_J.run [] 40 (fun K hK => br_t (by decide) (br_f (by decide) (hK _ ?_)))
    refine pm_J.ri ?_ (hn := rfl)
    rw [← hO]
    exact Or.inr ⟨h, rfl, rfl⟩
def shQ (k : Nat) (be : Nat → Nat) (x : Int32) : Nat → Nat
  | 0 => 0
  | i + 1 => shQ k be x i + b2n (hasT k (be i) x)
theorem shQ_le (k : Nat) (be : Nat → Nat) (x : Int32) : ∀ n, shQ k be x n ≤ n
  | 0 => Nat.le_refl _
  | n + 1 => by
    have := shQ_le k be x n
    unfold shQ b2n
    split <;> omega
/-- what is found, as it stands -/
def FI (T : mT) (F : mF) : Prop := F.1 ≤ 945 ∧ (∀ i, i < F.1 → F.2 i < tcount T.1)
def moS (A : mA) (P : mP) (T : mT) (F : mF) (s2 : Nat × (Nat → Nat)) (W : mW) (th : Nat) (w : List pm_E) : Prop := ∃ G s1 e1, GJ G ∧ w = moW A P T F G (s1, e1, s2) W th
theorem d_sharing (hs : l.stackTraces = false) (A : mA) (P : mP) (T : mT) (F : mF) (G : mG) (S : mS) (W : mW) (th : Nat) (x : Int32) (hk : T.1 ≤ 7) (hF : FI T F) (hG : GJ G) :
    pm_Met l mX6_sharing 3 0 0 [.ref 0, .int x] (moW A P T F G S W th) (fun o w' => o = .inl (some (.int (nI (shQ T.1 F.2 x F.1)))) ∧ moS A P T F S.2.2 W th w') := by
  generalize hO : (fun (o : pm_O) (w' : List pm_E) => o = .inl (some (.int (nI (shQ T.1 F.2 x F.1)))) ∧ moS A P T F S.2.2 W th w') = O
  have htc := tc_lt hk
  refine pm_Met.mk kX6_sharing hs (pm_J.run [4] 40 (fun K hK => hK _ ?_))
  have key : ∀ (G : mG) s1 e1, GJ G → pm_J l mX6_sharing iX6_sharing 3 0 0 15 O 0 0 (4, [some (.ref 0), some (.int x), some (.int (nI (shQ T.1 F.2 x 0))), some (.int (nI 0))], [], moW A P T F G (s1, e1, S.2.2) W th) := by
    refine pm_up (b := F.1) (P := fun i => ∀ (G : mG) s1 e1, GJ G → pm_J l mX6_sharing iX6_sharing 3 0 0 15 O 0 0 (4, [some (.ref 0), some (.int x), some (.int (nI (shQ T.1 F.2 x i))), some (.int (nI i))], [], moW A P T F G (s1, e1, S.2.2) W th)) 0 (Nat.zero_le _) (fun G s1 e1 hG => ?_) (fun i h1 h2 ih G s1 e1 hG => ?_)
    · refine pm_J.run [] 40 (fun K hK => br_t (nI_le (Nat.le_refl _) (by have := hF.1; omega)) (hK _ ?_))
      refine pm_J.ri ?_
      rw [← hO]
      exact ⟨rfl, G, s1, e1, hG, rfl⟩
    · have h945 := hF.1
      have hb := hF.2 i h2
      refine pm_J.run [] 40 (fun K hK => br_f (nI_ge h2 (by omega)) (And.intro (vp_in_nI (by omega) (by decide)) (hK _ ?_)))
      rw [nI_clamp (by omega)]
      refine pm_J.cv q15 (moW A P T F (gwD T.1 (F.2 i) (gwR T.1 (F.2 i)).1 G.2.2.2.2.2) (gwP T.1 (F.2 i) (s1, e1, S.2.2)) W th) (d_growD hs A P T F G (s1, e1, S.2.2) W th (F.2 i) hk hb hG) gRX6_135 vX6_grow ?_
      refine pm_J.run [] 40 (fun K hK => hK _ ?_)
      refine pm_J.cI q15 (d_hasP hs A P T F (gwD T.1 (F.2 i) (gwR T.1 (F.2 i)).1 G.2.2.2.2.2) (s1, e1, S.2.2) W th T.1 (F.2 i) x hk) gRX6_145 vX6_hasSplit ?_
      have ih := ih (gwD T.1 (F.2 i) (gwR T.1 (F.2 i)).1 G.2.2.2.2.2) (gwP T.1 (F.2 i) (s1, e1, S.2.2)).1 (gwP T.1 (F.2 i) (s1, e1, S.2.2)).2.1 (gwD_GJ hk (gwR_Bz hk) hG.2)
      have e : shQ T.1 F.2 x (i + 1) = shQ T.1 F.2 x i + b2n (hasT T.1 (F.2 i) x) := rfl
      rw [e, ← nI_add i 1] at ih
      clear e
      cases hq : hasT T.1 (F.2 i) x with
      | true =>
        rw [hq] at ih
        have ih : pm_J l mX6_sharing iX6_sharing 3 0 0 15 O 0 0 (4, [some (.ref 0), some (.int x), some (.int (nI (shQ T.1 F.2 x i + 1))), some (.int (nI i + nI 1))], [], moW A P T F (gwD T.1 (F.2 i) (gwR T.1 (F.2 i)).1 G.2.2.2.2.2) (gwP T.1 (F.2 i) (s1, e1, S.2.2)) W th) := ih
        rw [← nI_add (shQ T.1 F.2 x i) 1] at ih
        refine pm_J.run [4] 40 (fun K hK => br_f (by decide) (hK _ ?_))
        exact ih
      | false =>
        rw [hq] at ih
        refine pm_J.run [4] 40 (fun K hK => br_t (by decide) (hK _ ?_))
        exact ih
  exact key G S.1 S.2.1 hG
theorem d_share (hFP : FPd) (hs : l.stackTraces = false) (A : mA) (P : mP) (T : mT) (F : mF) (G : mG) (S : mS) (W : mW) (th : Nat) (x : Int32) (hk : T.1 ≤ 7) (hF : FI T F) (hG : GJ G) :
    pm_Met l mX6_share 4 0 0 [.ref 0, .int x] (moW A P T F G S W th) (fun o w' => (F.1 = 0 ∧ o = .inl (some (.float FP.fconst0)) ∧ w' = moW A P T F G S W 1) ∨ (¬ F.1 = 0 ∧ o = .inl (some (.float (FP.fdiv (FP.i2f (nI (shQ T.1 F.2 x F.1))) (FP.i2f (nI F.1))))) ∧ moE A P T F W 0 w')) := by
  generalize hO : (fun (o : pm_O) (w' : List pm_E) => (F.1 = 0 ∧ o = .inl (some (.float FP.fconst0)) ∧ w' = moW A P T F G S W 1) ∨ (¬ F.1 = 0 ∧ o = .inl (some (.float (FP.fdiv (FP.i2f (nI (shQ T.1 F.2 x F.1))) (FP.i2f (nI F.1))))) ∧ moE A P T F W 0 w')) = O
  have h945 := hF.1
  refine pm_Met.mk kX6_share hs (pm_J.run [] 40 (fun K hK => And.intro (fun q => br_f (by decide) (hK _ ?_)) (fun q => br_t (by decide) (hK _ ?_))))
  · have q' : ¬ nI F.1 = 0 := q
    have q2 := q'
    rw [nI_z (by omega)] at q2
    refine pm_J.cR q15 (d_sharing hs A P T F G S W 0 x hk hF hG) gRX6_148 vX6_sharing (fun E w1 z => by cases z.1) (fun v w1 z => ?_)
    obtain ⟨z1, G2, s1, e1, hG2, rfl⟩ := z
    cases z1
    show pm_J l mX6_share iX6_share 4 0 0 15 O 0 0 (28, [some (.ref 0), some (.int x)], [.int (nI (shQ T.1 F.2 x F.1))], moW A P T F G2 (s1, e1, S.2.2) W 0)
    refine pm_J.run [] 40 (fun K hK => And.intro (hFP _ _ q') (hK _ ?_))
    refine pm_J.rf ?_
    rw [← hO]
    exact Or.inr ⟨q2, rfl, _, _, hG2, rfl⟩
  · have q' : ¬ ¬ nI F.1 = 0 := q
    rw [nI_z (by omega)] at q'
    refine pm_J.rf ?_
    rw [← hO]
    exact Or.inl ⟨Classical.not_not.mp q', rfl, rfl⟩
end MDC
