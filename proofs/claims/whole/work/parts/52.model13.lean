section MDD
variable {l : Launch}
theorem cpF_lt {f g : Nat → Nat} {N n i : Nat} (h : i < n) : cpF f g N n i = f i := by unfold cpF; rw [if_pos h]
def boQ (k a : Nat) (e : Nat → Nat) : Nat → Nat
  | 0 => 0
  | i + 1 => boQ k a e i + b2n (hasT k a (nI (e i)))
def dsI (k a b : Nat) : Int32 := nI (spW k a).1 + nI (spW k b).1 - nI 2 * nI (boQ k a (spW k b).2 (spW k b).1)
theorem d_distance (hs : l.stackTraces = false) (A : mA) (P : mP) (T : mT) (F : mF) (G : mG) (S : mS) (W : mW) (th : Nat) (x y : Int32) (hk : T.1 ≤ 7) (hG : GJ G) :
    pm_Met l mX6_distance 3 0 0 [.ref 0, .int x, .int y] (moW A P T F G S W th) (fun o w' => ((okC (tcount T.1) x ∧ okC (tcount T.1) y) ∧ o = .inl (some (.int (dsI T.1 x.toNatClampNeg y.toNatClampNeg))) ∧ moE A P T F W 0 w') ∨ (¬ (okC (tcount T.1) x ∧ okC (tcount T.1) y) ∧ o = .inl (some (.int (nI 0))) ∧ w' = moW A P T F G S W 1)) := by
  generalize hO : (fun (o : pm_O) (w' : List pm_E) => ((okC (tcount T.1) x ∧ okC (tcount T.1) y) ∧ o = .inl (some (.int (dsI T.1 x.toNatClampNeg y.toNatClampNeg))) ∧ moE A P T F W 0 w') ∨ (¬ (okC (tcount T.1) x ∧ okC (tcount T.1) y) ∧ o = .inl (some (.int (nI 0))) ∧ w' = moW A P T F G S W 1)) = O
  have htc := tc_lt hk
  have bad : ¬ (okC (tcount T.1) x ∧ okC (tcount T.1) y) → pm_J l mX6_distance iX6_distance 3 0 0 15 O 0 0 (17, [some (.ref 0), some (.int x), some (.int y), none, none], [.ref 0], moW A P T F G S W th) := by
    intro h
    refine pm_J.run [] 40 (fun K hK => br_f (by decide) (hK _ ?_))
    refine pm_J.ri ?_
    rw [← hO]
    exact Or.inr ⟨h, rfl, rfl⟩
  refine pm_Met.mk kX6_distance hs (pm_J.run [] 40 (fun K hK => hK _ ?_))
  refine pm_J.cI q15 (d_isTree hs A P T F G S W th x hk) gRX6_132 vX6_isTree ?_
  by_cases h : 0 ≤ x ∧ x < nI (tcount T.1)
  · rw [if_pos h]
    refine pm_J.run [17] 40 (fun K hK => br_f (by decide) (hK _ ?_))
    refine pm_J.cI q15 (d_isTree hs A P T F G S W th y hk) gRX6_132 vX6_isTree ?_
    by_cases h2 : 0 ≤ y ∧ y < nI (tcount T.1)
    · rw [if_pos h2]
      obtain ⟨a, ha, rfl⟩ := ok_nat (by omega) h
      obtain ⟨b, hb, rfl⟩ := ok_nat (by omega) h2
      have hO2 : ∀ w', moE A P T F W 0 w' → O (.inl (some (.int (dsI T.1 a b)))) w' := fun w' hw => by
        rw [← hO]
        exact Or.inl ⟨⟨h, h2⟩, by rw [nI_clamp (by omega), nI_clamp (by omega)], hw⟩
      clear hO bad
      refine pm_J.run [17] 40 (fun K hK => br_t (by decide) (br_t (by decide) (hK _ ?_)))
      refine pm_J.cv q15 (moW A P T F (gwD T.1 b (gwR T.1 b).1 G.2.2.2.2.2) (gwP T.1 b S) W 0) (d_growD hs A P T F G S W 0 b hk hb hG) gRX6_135 vX6_grow ?_
      have hGb : GJ (gwD T.1 b (gwR T.1 b).1 G.2.2.2.2.2) := gwD_GJ hk (gwR_Bz hk) hG.2
      generalize gwD T.1 b (gwR T.1 b).1 G.2.2.2.2.2 = Gb at hGb ⊢
      have en := gwP_n T.1 b S
      have ee : ∀ i, i < (spW T.1 b).1 → (gwP T.1 b S).2.1 i = (spW T.1 b).2 i := fun i hi => gwP_e S hi
      have e2 : (gwP T.1 b S).2.2 = S.2.2 := rfl
      have hle := spW_le (a := b) hk
      generalize gwP T.1 b S = Sb at en ee e2 ⊢
      obtain ⟨n, e, os⟩ := Sb
      dsimp only at en ee e2
      subst e2 en
      generalize hSb : (spW T.1 b).1 = n at hle ee ⊢
      refine pm_J.run [49] 60 (fun K hK => hK _ ?_)
      have copy : pm_J l mX6_distance iX6_distance 3 0 0 15 O 0 0 (49, [some (.ref 0), some (.int (nI a)), some (.int (nI b)), some (.int (nI 0)), none], [], moW A P T F Gb (n, e, n, cpF e S.2.2.2 8 0) W 0) := by
        refine pm_up (b := n) (P := fun i => pm_J l mX6_distance iX6_distance 3 0 0 15 O 0 0 (49, [some (.ref 0), some (.int (nI a)), some (.int (nI b)), some (.int (nI i)), none], [], moW A P T F Gb (n, e, n, cpF e S.2.2.2 8 i) W 0)) 0 (Nat.zero_le _) ?_ (fun i g1 g2 ih => ?_)
        · refine pm_J.run [] 60 (fun K hK => br_t (nI_le (Nat.le_refl _) (by omega)) (hK _ ?_))
          generalize hes : cpF e S.2.2.2 8 n = es
          refine pm_J.cv q15 (moW A P T F (gwD T.1 a (gwR T.1 a).1 Gb.2.2.2.2.2) (gwP T.1 a (n, e, n, es)) W 0) (d_growD hs A P T F Gb (n, e, n, es) W 0 a hk ha hGb) gRX6_135 vX6_grow ?_
          have hGa : GJ (gwD T.1 a (gwR T.1 a).1 Gb.2.2.2.2.2) := gwD_GJ hk (gwR_Bz hk) hGb.2
          generalize gwD T.1 a (gwR T.1 a).1 Gb.2.2.2.2.2 = Ga at hGa ⊢
          refine pm_J.run [85] 60 (fun K hK => hK _ ?_)
          have cnt : pm_J l mX6_distance iX6_distance 3 0 0 15 O 0 0 (85, [some (.ref 0), some (.int (nI a)), some (.int (nI b)), some (.int (nI (boQ T.1 a (spW T.1 b).2 0))), some (.int (nI 0))], [], moW A P T F Ga (gwP T.1 a (n, e, n, es)) W 0) := by
            refine pm_up (b := n) (P := fun i => pm_J l mX6_distance iX6_distance 3 0 0 15 O 0 0 (85, [some (.ref 0), some (.int (nI a)), some (.int (nI b)), some (.int (nI (boQ T.1 a (spW T.1 b).2 i))), some (.int (nI i))], [], moW A P T F Ga (gwP T.1 a (n, e, n, es)) W 0)) 0 (Nat.zero_le _) ?_ (fun i f1 f2 ih2 => ?_)
            · refine pm_J.run [] 60 (fun K hK => br_t (nI_le (Nat.le_refl _) (by omega)) (hK _ ?_))
              refine pm_J.ri ?_
              have := hO2 (moW A P T F Ga (gwP T.1 a (n, e, n, es)) W 0) ⟨_, _, hGa, rfl⟩
              unfold dsI at this
              rw [hSb, ← gwP_n T.1 a (n, e, n, es)] at this
              exact this
            · have hh : es i = (spW T.1 b).2 i := by rw [← hes, cpF_lt f2, ee i f2]
              refine pm_J.run [] 60 (fun K hK => br_f (nI_ge (a := i) (b := n) f2 (by omega)) (And.intro (vp_in_nI (by omega) (by decide)) (hK _ ?_)))
              rw [nI_clamp (by omega)]
              refine pm_J.cI q15 (d_hasP hs A P T F Ga (n, e, n, es) W 0 T.1 a (nI (es i)) hk) gRX6_145 vX6_hasSplit ?_
              have e3 : boQ T.1 a (spW T.1 b).2 (i + 1) = boQ T.1 a (spW T.1 b).2 i + b2n (hasT T.1 a (nI (es i))) := by rw [hh]; rfl
              rw [e3, ← nI_add i 1] at ih2
              cases hq : hasT T.1 a (nI (es i)) with
              | true =>
                rw [hq] at ih2
                have ih2 : pm_J l mX6_distance iX6_distance 3 0 0 15 O 0 0 (85, [some (.ref 0), some (.int (nI a)), some (.int (nI b)), some (.int (nI (boQ T.1 a (spW T.1 b).2 i + 1))), some (.int (nI i + nI 1))], [], moW A P T F Ga (gwP T.1 a (n, e, n, es)) W 0) := ih2
                rw [← nI_add (boQ T.1 a (spW T.1 b).2 i) 1] at ih2
                refine pm_J.run [85] 40 (fun K hK => br_f (by decide) (hK _ ?_))
                exact ih2
              | false =>
                rw [hq] at ih2
                refine pm_J.run [85] 40 (fun K hK => br_t (by decide) (hK _ ?_))
                exact ih2
          exact cnt
        · have ii : vp_in (nI i) 8 := vp_in_nI (by omega) (by decide)
          rw [cpF_s _ _ _ i] at ih
          unfold moW at ih
          dsimp only at ih
          rw [← nA_upd (cpF e S.2.2.2 8 i), ← nI_add i 1] at ih
          refine pm_J.run [49] 60 (fun K hK => br_f (nI_ge g2 (by omega)) (And.intro ii (And.intro ii (hK _ ?_))))
          rw [nI_clamp (by omega)]
          exact ih
      rw [cpF_0] at copy
      exact copy
    · rw [if_neg h2]
      refine pm_J.run [17] 40 (fun K hK => br_f (by decide) (hK _ ?_))
      exact bad (fun z => h2 z.2)
  · rw [if_neg h]
    refine pm_J.run [17] 40 (fun K hK => br_t (by decide) (hK _ ?_))
    exact bad (fun z => h z.1)
theorem bit_gen {x k : Nat} (hx : x < 2 ^ 31) (hk : k < 31) : (nI x >>> (nI k &&& 31)) &&& pm_k 1 = nI (x / 2 ^ k % 2) := by
  show (nI x >>> (nI k &&& 31)) &&& nI 1 = nI (x / 2 ^ k % 2)
  rw [pk_shrN hx _ k (s_l k (by omega)), pk_andN (Nat.lt_of_le_of_lt (Nat.div_le_self _ _) (by omega)) 1 (by decide +kernel)]
def onS (s : Nat) : Nat → Nat
  | 0 => 0
  | k + 1 => onS s k + s / 2 ^ k % 2
theorem d_ones (hs : l.stackTraces = false) (s : Nat) (h : s < 2 ^ 31) : pm_Met l mX6_ones 1 0 0 [.int (nI s)] [] (isI (nI (onS s 8)) []) := by
  refine pm_Met.mk kX6_ones hs (pm_J.run [4] 40 (fun K hK => hK _ ?_))
  refine pm_up (b := 8) (P := fun k => pm_J l mX6_ones iX6_ones 1 0 0 0 (isI (nI (onS s 8)) []) 0 0 (4, [some (.int (nI s)), some (.int (nI (onS s k))), some (.int (nI k))], [], [])) 0 (by decide) ?_ (fun k h1 h2 ih => ?_)
  · refine pm_J.run [] 40 (fun K hK => br_t (nI_le (a := 8) (b := 8) (by decide) (by decide)) (hK _ ?_))
    exact pm_J.ri ⟨rfl, rfl⟩
  · have e : onS s (k + 1) = onS s k + s / 2 ^ k % 2 := rfl
    rw [e, ← nI_add (onS s k), ← bit_gen h (by omega), ← nI_add k 1] at ih
    refine pm_J.run [4] 40 (fun K hK => br_f (nI_ge (a := k) (b := 8) h2 (by decide)) (hK _ ?_))
    exact ih
end MDD
