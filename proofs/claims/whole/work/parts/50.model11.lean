section MDB
variable {l : Launch}
theorem ndV_le (T : mT) (x c : Nat) : ndV T x c ≤ 99 := alS_le _ _ 4
theorem lnS_le {T : mT} {x : Nat} (hw : Bd T.2.2.2) : ∀ c, lnS T x c ≤ c * 12573
  | 0 => Nat.zero_le _
  | c + 1 => by
    have ih := lnS_le (x := x) hw c
    have h1 := ndV_le T x c
    have h2 := hw c
    have h3 : T.2.2.2 c * ndV T x c ≤ 127 * 99 := Nat.mul_le_mul (by omega) h1
    unfold lnS
    omega
theorem d_length (hs : l.stackTraces = false) (A : mA) (P : mP) (T : mT) (F : mF) (G : mG) (S : mS) (W : mW) (th : Nat) (x : Int32) (hT : TbI T) (hN : NdOk T) (hG : GJ G) :
    pm_Met l mX6_length 5 0 0 [.ref 0, .int x] (moW A P T F G S W th) (fun o w' => (okC (tcount T.1) x ∧ o = .inl (some (.int (nI (lnV T x.toNatClampNeg)))) ∧ moE A P T F W 0 w') ∨ (¬ okC (tcount T.1) x ∧ o = .inl (some (.int (nI 0))) ∧ w' = moW A P T F G S W 1)) := by
  generalize hO : (fun (o : pm_O) (w' : List pm_E) => (okC (tcount T.1) x ∧ o = .inl (some (.int (nI (lnV T x.toNatClampNeg)))) ∧ moE A P T F W 0 w') ∨ (¬ okC (tcount T.1) x ∧ o = .inl (some (.int (nI 0))) ∧ w' = moW A P T F G S W 1)) = O
  have hk := hT.1
  have htc := tc_lt hk
  refine pm_Met.mk kX6_length hs (pm_J.run [] 40 (fun K hK => hK _ ?_))
  refine pm_J.cI q15 (d_isTree hs A P T F G S W th x hk) gRX6_132 vX6_isTree ?_
  by_cases h : 0 ≤ x ∧ x < nI (tcount T.1)
  · rw [if_pos h]
    obtain ⟨a, ha, rfl⟩ := ok_nat (by omega) h
    refine pm_J.run [] 40 (fun K hK => br_f (by decide) (br_f (by decide) (hK _ ?_)))
    refine pm_J.cR q15 (d_lengthOf hs A P T F G S W 0 a hT hN ha hG) gRX6_142 vX6_lengthOf (fun E w1 z => by cases z.1) (fun v w1 z => ?_)
    obtain ⟨z1, rd, co, hr, hco, rfl⟩ := z
    cases z1
    show pm_J l mX6_length iX6_length 5 0 0 15 O 0 0 (29, [some (.ref 0), some (.int (nI a))], [.int (nI (lnV T a))], moW A P T F (gwD T.1 a rd co) (gwP T.1 a S) W 0)
    refine pm_J.run [] 40 (fun K hK => hK _ ?_)
    refine pm_J.ri ?_
    rw [← hO]
    exact Or.inl ⟨h, by rw [nI_clamp (by omega)], _, _, gwD_GJ hk hr hco, rfl⟩
  · rw [if_neg h]
    refine pm_J.run [] 40 (fun K hK => br_t (by decide) (br_t (by decide) (hK _ ?_)))
    refine pm_J.ri ?_
    rw [← hO]
    exact Or.inr ⟨h, rfl, rfl⟩
set_option maxHeartbeats 1000000 in
theorem d_search (hs : l.stackTraces = false) (A : mA) (P : mP) (T : mT) (F : mF) (G : mG) (S : mS) (W : mW) (th : Nat) (hT : TbI T) (hN : NdOk T) (hw : Bd T.2.2.2) (hG : GJ G) :
    pm_Met l mX6_search 5 0 0 [.ref 0] (moW A P T F G S W th) (fun o w' => (tcount T.1 = 0 ∧ o = .inl (some (.int (nI 0))) ∧ w' = moW A P T F G S W 1) ∨ (¬ tcount T.1 = 0 ∧ o = .inl (some (.int (nI (gaS (lnV T) F.2 (tcount T.1)).1))) ∧ moE A P T ((gaS (lnV T) F.2 (tcount T.1)).2.1, (gaS (lnV T) F.2 (tcount T.1)).2.2) W 0 w')) := by
  generalize hO : (fun (o : pm_O) (w' : List pm_E) => (tcount T.1 = 0 ∧ o = .inl (some (.int (nI 0))) ∧ w' = moW A P T F G S W 1) ∨ (¬ tcount T.1 = 0 ∧ o = .inl (some (.int (nI (gaS (lnV T) F.2 (tcount T.1)).1))) ∧ moE A P T ((gaS (lnV T) F.2 (tcount T.1)).2.1, (gaS (lnV T) F.2 (tcount T.1)).2.2) W 0 w')) = O
  have hk := hT.1
  have htc := tc_lt hk
  have hc := hT.2.1
  have hlB : ∀ x, lnV T x < 2 ^ 30 := fun x => by
    have := lnS_le (x := x) hw T.2.1
    have : T.2.1 * 12573 ≤ 16 * 12573 := Nat.mul_le_mul_right _ hc
    show lnS T x T.2.1 < 2 ^ 30
    omega
  refine pm_Met.mk kX6_search hs (pm_J.run [] 40 (fun K hK => hK _ ?_))
  refine pm_J.cI q15 (d_many hs A P T F G S W th hk) gRX6_106 vX6_many ?_
  refine pm_J.run [36] 60 (fun K hK => And.intro (fun q => br_t (by decide) (hK _ ?_)) (fun q => br_f (by decide) (hK _ ?_)))
  · have q' : ¬ nI (tcount T.1) = 0 := q
    rw [nI_z (by omega)] at q'
    have key : ∀ G S x4, GJ G → pm_J l mX6_search iX6_search 5 0 0 15 O 0 0 (36, [some (.ref 0), some (.int (nI (tcount T.1))), some (.int (nI (gaS (lnV T) F.2 0).1)), some (.int (nI 0)), x4], [], moW A P T ((gaS (lnV T) F.2 0).2.1, (gaS (lnV T) F.2 0).2.2) G S W 0) := by
      refine pm_up (b := tcount T.1) (P := fun i => ∀ G S x4, GJ G → pm_J l mX6_search iX6_search 5 0 0 15 O 0 0 (36, [some (.ref 0), some (.int (nI (tcount T.1))), some (.int (nI (gaS (lnV T) F.2 i).1)), some (.int (nI i)), x4], [], moW A P T ((gaS (lnV T) F.2 i).2.1, (gaS (lnV T) F.2 i).2.2) G S W 0)) 0 (Nat.zero_le _) (fun G S x4 hG => ?_) (fun i h1 h2 ih G S x4 hG => ?_)
      · refine pm_J.run [] 40 (fun K hK => br_t (nI_le (Nat.le_refl _) (by omega)) (hK _ ?_))
        refine pm_J.ri ?_
        rw [← hO]
        exact Or.inr ⟨q', rfl, G, S, hG, rfl⟩
      · have hle := gaS_le (lnV T) F.2 i
        have hmn := gaS_min (nu := F.2) (B := 2 ^ 30) (by decide) hlB i
        have hli := hlB i
        have e : gaS (lnV T) F.2 (i + 1) = if (gaS (lnV T) F.2 i).2.1 = 0 ∨ lnV T i < (gaS (lnV T) F.2 i).1 then (lnV T i, 1, upN (gaS (lnV T) F.2 i).2.2 0 i)
            else if lnV T i = (gaS (lnV T) F.2 i).1 then ((gaS (lnV T) F.2 i).1, (gaS (lnV T) F.2 i).2.1 + 1, upN (gaS (lnV T) F.2 i).2.2 (gaS (lnV T) F.2 i).2.1 i) else gaS (lnV T) F.2 i := rfl
        rw [e] at ih
        clear e
        generalize gaS (lnV T) F.2 i = z at ih hle hmn ⊢
        obtain ⟨z1, z2, z3⟩ := z
        dsimp only at ih hle hmn ⊢
        refine pm_J.run [] 40 (fun K hK => br_f (nI_ge h2 (by omega)) (hK _ ?_))
        refine pm_J.cR q15 (d_lengthOf hs A P T (z2, z3) G S W 0 i hT hN h2 hG) gRX6_142 vX6_lengthOf (fun E w1 z => by cases z.1) (fun v w1 z => ?_)
        obtain ⟨y1, rd, co, hr, hco, rfl⟩ := z
        cases y1
        have ih := ih (gwD T.1 i rd co) (gwP T.1 i S) (some (.int (nI (lnV T i)))) (gwD_GJ hk hr hco)
        generalize gwD T.1 i rd co = G2 at ih ⊢
        generalize gwP T.1 i S = S2 at ih ⊢
        generalize lnV T i = f at ih hli ⊢
        show pm_J l mX6_search iX6_search 5 0 0 15 O 0 0 (46, [some (.ref 0), some (.int (nI (tcount T.1))), some (.int (nI z1)), some (.int (nI i)), x4], [.int (nI f)], moW A P T (z2, z3) G2 S2 W 0)
        have new : (z2 = 0 ∨ f < z1) → pm_J l mX6_search iX6_search 5 0 0 15 O 0 0 (61, [some (.ref 0), some (.int (nI (tcount T.1))), some (.int (nI z1)), some (.int (nI i)), some (.int (nI f))], [], moW A P T (z2, z3) G2 S2 W 0) := by
          intro hq
          rw [if_pos hq] at ih
          unfold moW at ih
          dsimp only at ih
          rw [← nA_upd z3, ← nI_add i 1] at ih
          refine pm_J.run [36] 60 (fun K hK => br_f (fun z => z rfl) (And.intro (vp_in_nI (n := 0) (by decide) (by decide)) (hK _ ?_)))
          exact ih
        refine pm_J.run [61, 69] 60 (fun K hK => And.intro (fun g => hK _ ?_) (fun g => And.intro (fun g2 => hK _ ?_) (fun g2 => hK _ ?_)))
        · have g' : nI z2 = 0 := g
          rw [nI_z (by omega)] at g'
          exact new (Or.inl g')
        · have g' : ¬ nI z2 = 0 := g
          have g2' : nI z1 ≤ nI f := g2
          rw [nI_z (by omega)] at g'
          rw [nI_leI (by omega) (by omega)] at g2'
          rw [if_neg (show ¬ (z2 = 0 ∨ f < z1) by omega)] at ih
          refine pm_J.run [36, 95] 60 (fun K hK => And.intro (fun g3 => hK _ ?_) (fun g3 => And.intro (vp_in_nI (by omega) (by decide)) (hK _ ?_)))
          · have g3' : ¬ nI f = nI z1 := g3
            rw [nI_eq (by omega) (by omega)] at g3'
            rw [if_neg g3', ← nI_add i 1] at ih
            refine pm_J.run [36] 60 (fun K hK => hK _ ?_)
            exact ih
          · have g3' : ¬ ¬ nI f = nI z1 := g3
            rw [nI_eq (by omega) (by omega)] at g3'
            rw [if_pos (Classical.not_not.mp g3')] at ih
            unfold moW at ih
            dsimp only at ih
            rw [← nA_upd z3, ← nI_add i 1, ← nI_add z2 1] at ih
            rw [nI_clamp (by omega)]
            refine pm_J.run [36] 60 (fun K hK => hK _ ?_)
            exact ih
        · have g2' : ¬ nI z1 ≤ nI f := g2
          rw [nI_leI (by omega) (by omega)] at g2'
          exact new (Or.inr (by omega))
    exact key G S none hG
  · have q' : ¬ ¬ nI (tcount T.1) = 0 := q
    rw [nI_z (by omega)] at q'
    refine pm_J.ri ?_
    rw [← hO]
    exact Or.inl ⟨Classical.not_not.mp q', rfl, rfl⟩
def hasQ (ss : Nat → Nat) (x : Int32) : Nat → Bool
  | 0 => false
  | k + 1 => hasQ ss x k || decide (nI (ss k) = x)
theorem d_hasSplit (hs : l.stackTraces = false) (A : mA) (P : mP) (T : mT) (F : mF) (G : mG) (S : mS) (W : mW) (th : Nat) (x : Int32) (hS : S.1 ≤ 8) :
    pm_Met l mX6_hasSplit 1 0 0 [.ref 0, .int x] (moW A P T F G S W th) (isI (nI (b2n (hasQ S.2.1 x S.1))) (moW A P T F G S W th)) := by
  refine pm_Met.mk kX6_hasSplit hs (pm_J.run [4] 40 (fun K hK => hK _ ?_))
  refine pm_up (b := S.1) (P := fun k => pm_J l mX6_hasSplit iX6_hasSplit 1 0 0 15 (isI (nI (b2n (hasQ S.2.1 x S.1))) (moW A P T F G S W th)) 0 0 (4, [some (.ref 0), some (.int x), some (.int (nI (b2n (hasQ S.2.1 x k)))), some (.int (nI k))], [], moW A P T F G S W th)) 0 (Nat.zero_le _) ?_ (fun k h1 h2 ih => ?_)
  · refine pm_J.run [] 40 (fun K hK => br_t (nI_le (Nat.le_refl _) (by omega)) (hK _ ?_))
    refine pm_J.ri ⟨rfl, rfl⟩ (hn := ?_)
    cases hasQ S.2.1 x S.1 <;> rfl
  · have e : hasQ S.2.1 x (k + 1) = (hasQ S.2.1 x k || decide (nI (S.2.1 k) = x)) := rfl
    rw [e, ← nI_add k 1] at ih
    cases hq : hasQ S.2.1 x k with
    | true =>
      rw [hq, Bool.true_or] at ih
      refine pm_J.run [4] 40 (fun K hK => br_f (nI_ge h2 (by omega)) (br_t (by decide) (hK _ ?_)))
      exact ih
    | false =>
      rw [hq, Bool.false_or] at ih
      refine pm_J.run [4] 40 (fun K hK => br_f (nI_ge h2 (by omega)) (br_f (by decide) (And.intro (vp_in_nI (by omega) (by decide)) (And.intro (fun q => hK _ ?_) (fun q => hK _ ?_)))))
      · have q' : ¬ nI (S.2.1 (nI k).toNatClampNeg) = x := q
        rw [nI_clamp (by omega)] at q'
        rw [decide_eq_false q'] at ih
        exact ih
      · have q' : ¬ ¬ nI (S.2.1 (nI k).toNatClampNeg) = x := q
        rw [nI_clamp (by omega)] at q'
        rw [decide_eq_true (Classical.not_not.mp q')] at ih
        exact ih
end MDB
