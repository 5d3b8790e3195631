section LWJ
variable {p : Program} {l : Launch} {e : Env} {s : State} {m : MethodId} {below : List Frame} {meth : Method} {c : Code} {b Ln : Nat} {xs : Nat → Int32} {D : va_G} {cells slots : Nat}
theorem coF_n {le len : Nat} (h : len < 2 ^ 31) : vf_n32 (coF le len) := by
  unfold coF
  split
  · exact fl_c1
  · rename_i hz
    exact fp_d _ _ (by rw [nI_z h]; exact hz)
theorem reF_n (mo le len : Nat) : vf_n32 (reF mo le len) := by
  unfold reF
  split
  · exact fl_c1
  · rename_i hz
    exact fp_d _ _ hz
theorem lc_consistency (X : lwC p l e s m below meth c b Ln xs) {tx : txP} {g1 g2 : trP} {fn : fnP} {pg : pgP} {t1 t2 : tbP} {A : mA} {P : mP} {T : mT} {F : mF} {G : mG} {S : mS} {W : mW} {th i : Nat} {f : Nat → Int64} {g : Nat → UInt64} {x6 x7 : Option Value} (hI : lwI tx g1 g2 fn pg t1 t2 A T F G W) (h1 : vp_in (nI i + pm_k 1) Ln) (hc : cells + 2 ≤ 600128) (hs : slots + 12 ≤ 7301098) (nx : lwN p l e s m below meth c b D cells slots i) :
    lwJ p l e s m below meth c b D cells slots (810, lwL i x6 x7, [], lwV (stN tx g1 g2 fn pg t1 t2) (moW A P T F G S W th) f g) := by
  have ht := X.2.2.2.2.2.2.2
  obtain ⟨⟨iA, iT, iC⟩, ⟨iG1, iG2⟩, ⟨iR, iW1, iW2, iW3⟩, ⟨iF, iFI, iSh⟩, iGJ, ⟨iP1, iP2, iP3, iP4, iP5, iP6⟩⟩ := id hI
  have e1 : t1.2.2.1 = T.1 := iR.1.symm
  have e2 : t1.2.2.2 = T.2.1 := iR.2.1.symm
  have hk : t1.2.2.1 ≤ 7 := by rw [e1]; exact iR.2.2.1
  have hcc : t1.2.2.2 ≤ 16 := by rw [e2]; exact iR.2.2.2.1
  have hT := tbI_of iR
  have hN := ndOk_of iR
  refine lb_consistency X tx g1 g2 fn pg t1 t2 A P T F G S W th i f g x6 x7 h1 (l_consistency ht tx g1 g2 fn pg t1 t2 g _ (c_consistency fp_d ht tx g1 g2 fn pg t1 t2 _ hk hcc iW1 iG1) (fun o w1 h => by rcases h with ⟨_, _, h⟩ | ⟨_, _, g1', _, h⟩; exact ⟨tx, g1, g2, fn, pg, t1, t2, h⟩; exact ⟨tx, g1', g2, fn, pg, t1, t2, h⟩) (fun v w1 h => by rcases h with ⟨_, h, _⟩ | ⟨_, h, _⟩ <;> cases h; exact ⟨_, rfl, coF_n (by have := lenT_lt (r := t1.1) (wt := t1.2.1) (k := t1.2.2.1) (c := t1.2.2.2) (x := (xs (nI i + pm_k 1).toNatClampNeg).toNatClampNeg) iW1 hcc; omega)⟩) (fun E w1 h => by rcases h with ⟨_, h, _⟩ | ⟨_, h, _⟩ <;> cases h; rfl)) wrD_nE (by omega) (by omega) ?_
  have hD := d_consistency fp_d ht A P T F G S W th (xs (nI i + pm_k 1).toNatClampNeg) hT hN iW2 iGJ
  refine wrD_hr (J := fun k cl f' => lwJ p l e s m below meth c b D (cells + 1) (slots + 6) (822, lwL i x6 x7, [.int (nI k)], lwV cl (moW A P T F G S W th) f f')) (fun x0 w1 hO => ?_) (fun E w1 hO => ?_)
  · rcases hO with ⟨_, ho, _⟩ | ⟨hq, ho, g1', iG1', hw⟩
    · cases ho
    · cases ho
      subst hw
      refine ⟨tx, g1', g2, fn, pg, t1, t2, rfl, ?_⟩
      rw [e1] at hq
      refine ld_consistency X tx g1' g2 fn pg t1 t2 A P T F G S W th i f _ x6 x7 0 (by decide) h1 hD (fun E w1 h => by rcases h with ⟨_, h, _⟩ | ⟨_, h, _⟩ <;> cases h) (by omega) (by omega) ht (fun v w1 h => ?_)
      rcases h with ⟨_, h, G', S', hG', hw⟩ | ⟨hq2, _, _⟩
      · cases h
        have hI' : lwI tx g1' g2 fn pg t1 t2 A T F G' W := ⟨⟨iA, iT, iC⟩, ⟨iG1', iG2⟩, ⟨iR, iW1, iW2, iW3⟩, ⟨iF, iFI, iSh⟩, hG', ⟨iP1, iP2, iP3, iP4, iP5, iP6⟩⟩
        have q1 := okC_lt (by have := tc_lt iR.2.2.1; omega) hq
        have ev : coF (smQ T false T.2.1) (lnV T (xs (nI i + pm_k 1).toNatClampNeg).toNatClampNeg) = coF (leastS t1.1 t1.2.1 t1.2.2.1 t1.2.2.2) (lenT t1.1 t1.2.1 t1.2.2.1 t1.2.2.2 (xs (nI i + pm_k 1).toNatClampNeg).toNatClampNeg) := by rw [sm_least iR, ln_eq iR (tc_3 q1.1) q1.1]
        exact ⟨_, A, P, T, F, G', S', W, rfl, hw, (by rw [ev]; exact coF_n (by have := lenT_lt (r := t1.1) (wt := t1.2.1) (k := t1.2.2.1) (c := t1.2.2.2) (x := (xs (nI i + pm_k 1).toNatClampNeg).toNatClampNeg) iW1 hcc; omega)), (fun _ => by rw [ev]; exact if_pos rfl), nx _ _ _ _ _ _ _ _ _ _ _ _ _ _ _ _ _ _ _ _ _ hI' (by omega) (by omega)⟩
      · exact absurd hq hq2
  · rcases hO with ⟨hq, ho, hw⟩ | ⟨_, ho, _⟩
    · cases ho
      subst hw
      rw [e1] at hq
      refine ⟨1, tx, g1, g2, fn, pg, t1, t2, rfl, rfl, ?_⟩
      refine ld_consistency X tx g1 g2 fn pg t1 t2 A P T F G S W th i f _ x6 x7 1 (by decide) h1 hD (fun E w1 h => by rcases h with ⟨_, h, _⟩ | ⟨_, h, _⟩ <;> cases h) (by omega) (by omega) ht (fun v w1 h => ?_)
      rcases h with ⟨hq2, _, _⟩ | ⟨_, h, hw⟩
      · exact absurd hq2 hq
      · cases h
        exact ⟨_, A, P, T, F, G, S, W, rfl, hw, fl_c0, (fun h => absurd h (by decide)), nx _ _ _ _ _ _ _ _ _ _ _ _ _ _ _ _ _ _ _ _ _ hI (by omega) (by omega)⟩
    · cases ho
theorem lc_retention (X : lwC p l e s m below meth c b Ln xs) {tx : txP} {g1 g2 : trP} {fn : fnP} {pg : pgP} {t1 t2 : tbP} {A : mA} {P : mP} {T : mT} {F : mF} {G : mG} {S : mS} {W : mW} {th i : Nat} {f : Nat → Int64} {g : Nat → UInt64} {x6 x7 : Option Value} (hI : lwI tx g1 g2 fn pg t1 t2 A T F G W) (h1 : vp_in (nI i + pm_k 1) Ln) (hc : cells + 2 ≤ 600128) (hs : slots + 12 ≤ 7301098) (nx : lwN p l e s m below meth c b D cells slots i) :
    lwJ p l e s m below meth c b D cells slots (888, lwL i x6 x7, [], lwV (stN tx g1 g2 fn pg t1 t2) (moW A P T F G S W th) f g) := by
  have ht := X.2.2.2.2.2.2.2
  obtain ⟨⟨iA, iT, iC⟩, ⟨iG1, iG2⟩, ⟨iR, iW1, iW2, iW3⟩, ⟨iF, iFI, iSh⟩, iGJ, ⟨iP1, iP2, iP3, iP4, iP5, iP6⟩⟩ := id hI
  have e1 : t1.2.2.1 = T.1 := iR.1.symm
  have e2 : t1.2.2.2 = T.2.1 := iR.2.1.symm
  have hk : t1.2.2.1 ≤ 7 := by rw [e1]; exact iR.2.2.1
  have hcc : t1.2.2.2 ≤ 16 := by rw [e2]; exact iR.2.2.2.1
  have hT := tbI_of iR
  have hN := ndOk_of iR
  refine lb_retention X tx g1 g2 fn pg t1 t2 A P T F G S W th i f g x6 x7 h1 (l_retention ht tx g1 g2 fn pg t1 t2 g _ (c_retention fp_d ht tx g1 g2 fn pg t1 t2 _ hk hcc iG1) (fun o w1 h => by rcases h with ⟨_, _, h⟩ | ⟨_, _, g1', _, h⟩; exact ⟨tx, g1, g2, fn, pg, t1, t2, h⟩; exact ⟨tx, g1', g2, fn, pg, t1, t2, h⟩) (fun v w1 h => by rcases h with ⟨_, h, _⟩ | ⟨_, h, _⟩ <;> cases h; exact ⟨_, rfl, reF_n _ _ _⟩) (fun E w1 h => by rcases h with ⟨_, h, _⟩ | ⟨_, h, _⟩ <;> cases h; rfl)) wrD_nE (by omega) (by omega) ?_
  have hD := d_retention fp_d ht A P T F G S W th (xs (nI i + pm_k 1).toNatClampNeg) hT hN iGJ
  refine wrD_hr (J := fun k cl f' => lwJ p l e s m below meth c b D (cells + 1) (slots + 6) (900, lwL i x6 x7, [.int (nI k)], lwV cl (moW A P T F G S W th) f f')) (fun x0 w1 hO => ?_) (fun E w1 hO => ?_)
  · rcases hO with ⟨_, ho, _⟩ | ⟨hq, ho, g1', iG1', hw⟩
    · cases ho
    · cases ho
      subst hw
      refine ⟨tx, g1', g2, fn, pg, t1, t2, rfl, ?_⟩
      rw [e1] at hq
      refine ld_retention X tx g1' g2 fn pg t1 t2 A P T F G S W th i f _ x6 x7 0 (by decide) h1 hD (fun E w1 h => by rcases h with ⟨_, h, _⟩ | ⟨_, h, _⟩ <;> cases h) (by omega) (by omega) ht (fun v w1 h => ?_)
      rcases h with ⟨_, h, G', S', hG', hw⟩ | ⟨hq2, _, _⟩
      · cases h
        have hI' : lwI tx g1' g2 fn pg t1 t2 A T F G' W := ⟨⟨iA, iT, iC⟩, ⟨iG1', iG2⟩, ⟨iR, iW1, iW2, iW3⟩, ⟨iF, iFI, iSh⟩, hG', ⟨iP1, iP2, iP3, iP4, iP5, iP6⟩⟩
        have q1 := okC_lt (by have := tc_lt iR.2.2.1; omega) hq
        have ev : reF (smQ T true T.2.1) (smQ T false T.2.1) (lnV T (xs (nI i + pm_k 1).toNatClampNeg).toNatClampNeg) = reF (mostS t1.1 t1.2.1 t1.2.2.1 t1.2.2.2) (leastS t1.1 t1.2.1 t1.2.2.1 t1.2.2.2) (lenT t1.1 t1.2.1 t1.2.2.1 t1.2.2.2 (xs (nI i + pm_k 1).toNatClampNeg).toNatClampNeg) := by rw [sm_least iR, sm_most iR, ln_eq iR (tc_3 q1.1) q1.1]
        exact ⟨_, A, P, T, F, G', S', W, rfl, hw, (by rw [ev]; exact reF_n _ _ _), (fun _ => by rw [ev]; exact if_pos rfl), nx _ _ _ _ _ _ _ _ _ _ _ _ _ _ _ _ _ _ _ _ _ hI' (by omega) (by omega)⟩
      · exact absurd hq hq2
  · rcases hO with ⟨hq, ho, hw⟩ | ⟨_, ho, _⟩
    · cases ho
      subst hw
      rw [e1] at hq
      refine ⟨1, tx, g1, g2, fn, pg, t1, t2, rfl, rfl, ?_⟩
      refine ld_retention X tx g1 g2 fn pg t1 t2 A P T F G S W th i f _ x6 x7 1 (by decide) h1 hD (fun E w1 h => by rcases h with ⟨_, h, _⟩ | ⟨_, h, _⟩ <;> cases h) (by omega) (by omega) ht (fun v w1 h => ?_)
      rcases h with ⟨hq2, _, _⟩ | ⟨_, h, hw⟩
      · exact absurd hq2 hq
      · cases h
        exact ⟨_, A, P, T, F, G, S, W, rfl, hw, fl_c0, (fun h => absurd h (by decide)), nx _ _ _ _ _ _ _ _ _ _ _ _ _ _ _ _ _ _ _ _ _ hI (by omega) (by omega)⟩
    · cases ho
theorem lc_type (X : lwC p l e s m below meth c b Ln xs) {tx : txP} {g1 g2 : trP} {fn : fnP} {pg : pgP} {t1 t2 : tbP} {A : mA} {P : mP} {T : mT} {F : mF} {G : mG} {S : mS} {W : mW} {th i : Nat} {f : Nat → Int64} {g : Nat → UInt64} {x6 x7 : Option Value} (hI : lwI tx g1 g2 fn pg t1 t2 A T F G W) (h1 : vp_in (nI i + pm_k 1) Ln) (hc : cells + 2 ≤ 600128) (hs : slots + 12 ≤ 7301098) (nx : lwN p l e s m below meth c b D cells slots i) :
    lwJ p l e s m below meth c b D cells slots (132, lwL i x6 x7, [], lwV (stN tx g1 g2 fn pg t1 t2) (moW A P T F G S W th) f g) := by
  have ht := X.2.2.2.2.2.2.2
  obtain ⟨⟨iA, iT, iC⟩, ⟨iG1, iG2⟩, ⟨iR, iW1, iW2, iW3⟩, ⟨iF, iFI, iSh⟩, iGJ, ⟨iP1, iP2, iP3, iP4, iP5, iP6⟩⟩ := id hI
  have e1 : t1.2.2.1 = T.1 := iR.1.symm
  have e2 : t1.2.2.2 = T.2.1 := iR.2.1.symm
  have hk : t1.2.2.1 ≤ 7 := by rw [e1]; exact iR.2.2.1
  have hcc : t1.2.2.2 ≤ 16 := by rw [e2]; exact iR.2.2.2.1
  obtain ⟨v, hv, ev⟩ := nar_c (xs (nI i + pm_k 1).toNatClampNeg)
  subst iA
  refine lb_type X tx g1 g2 fn pg t1 t2 (tx.1, tx.2.1) P T F G S W th i f g x6 x7 h1 (by rw [ev]; exact l_type ht tx g1 g2 fn pg t1 t2 f v (c_type ht tx g1 g2 fn pg t1 t2 v iT hv) (fun o w1 h => by rcases h with ⟨_, _, h⟩ | ⟨_, _, h⟩; exact ⟨(upN tx.1 tx.2.1 v, tx.2.1 + 1, tx.2.2), g1, g2, fn, pg, t1, t2, h⟩; exact ⟨tx, g1, g2, fn, pg, t1, t2, h⟩) (fun v w1 h => by rcases h with ⟨_, h, _⟩ | ⟨_, h, _⟩ <;> cases h; exact ⟨_, rfl⟩) (fun E w1 h => by rcases h with ⟨_, h, _⟩ | ⟨_, h, _⟩ <;> cases h; rfl)) wrL_nE (by omega) (by omega) ?_
  have hD := d_type ht (tx.1, tx.2.1) P T F G S W th v iT hv
  refine wrL_hr (J := fun k cl f' => lwJ p l e s m below meth c b D (cells + 1) (slots + 6) (144, lwL i x6 x7, [.int (nI k)], lwV cl (moW (tx.1, tx.2.1) P T F G S W th) f' g)) (fun x0 w1 hO => ?_) (fun E w1 hO => ?_)
  · rcases hO with ⟨hq, ho, hw⟩ | ⟨_, ho, _⟩
    · cases ho
      subst hw
      refine ⟨(upN tx.1 tx.2.1 v, tx.2.1 + 1, tx.2.2), g1, g2, fn, pg, t1, t2, rfl, ?_⟩
      rw [if_neg (show ¬ tx.2.1 = 160 by omega)] at hD
      refine ld_type X (upN tx.1 tx.2.1 v, tx.2.1 + 1, tx.2.2) g1 g2 fn pg t1 t2 (tx.1, tx.2.1) P T F G S W th i _ g x6 x7 0 (by decide) h1 (by rw [ev]; exact hD) (fun E w1 h => by cases h.1) (by omega) (by omega) ht (fun v' w1 h => ?_)
      obtain ⟨h, hw⟩ := h
      cases h
      have hI' : lwI (upN tx.1 tx.2.1 v, tx.2.1 + 1, tx.2.2) g1 g2 fn pg t1 t2 (upN tx.1 tx.2.1 v, tx.2.1 + 1) T F G W := ⟨⟨rfl, by show tx.2.1 + 1 ≤ 160; omega, fun j => by
        show upN tx.1 tx.2.1 v j < 65536
        unfold upN
        split
        · exact hv
        · exact iC j⟩, ⟨iG1, iG2⟩, ⟨iR, iW1, iW2, iW3⟩, ⟨iF, iFI, iSh⟩, iGJ, ⟨iP1, iP2, iP3, iP4, iP5, iP6⟩⟩
      exact ⟨_, _, P, T, F, G, S, W, rfl, hw, (fun _ => if_pos rfl), nx _ _ _ _ _ _ _ _ _ _ _ _ _ _ _ _ _ _ _ _ _ hI' (by omega) (by omega)⟩
    · cases ho
  · rcases hO with ⟨_, ho, _⟩ | ⟨hq, ho, hw⟩
    · cases ho
    · cases ho
      subst hw
      refine ⟨1, tx, g1, g2, fn, pg, t1, t2, rfl, rfl, ?_⟩
      rw [if_pos (show tx.2.1 = 160 from hq)] at hD
      refine ld_type X tx g1 g2 fn pg t1 t2 (tx.1, tx.2.1) P T F G S W th i _ g x6 x7 1 (by decide) h1 (by rw [ev]; exact hD) (fun E w1 h => by cases h.1) (by omega) (by omega) ht (fun v' w1 h => ?_)
      obtain ⟨h, hw⟩ := h
      cases h
      exact ⟨_, _, P, T, F, G, S, W, rfl, hw, (fun h => absurd h (by decide)), nx _ _ _ _ _ _ _ _ _ _ _ _ _ _ _ _ _ _ _ _ _ hI (by omega) (by omega)⟩
theorem le9 {y : Int32} (h : nI 1 ≤ y ∧ y ≤ nI 9) : y.toNatClampNeg < 128 := by
  have a := Int32.le_iff_toInt_le.mp h.1
  have b := Int32.le_iff_toInt_le.mp h.2
  rw [nI_toInt (by decide)] at a b
  have e : y.toNatClampNeg = y.toInt.toNat := rfl
  rw [e]
  omega
theorem upN_Bd {f : Nat → Nat} {k v : Nat} (h : Bd f) (hv : v < 128) : Bd (upN f k v) := fun j => by
  unfold upN
  split
  · exact hv
  · exact h j
theorem lc_weigh (X : lwC p l e s m below meth c b Ln xs) {tx : txP} {g1 g2 : trP} {fn : fnP} {pg : pgP} {t1 t2 : tbP} {A : mA} {P : mP} {T : mT} {F : mF} {G : mG} {S : mS} {W : mW} {th i : Nat} {f : Nat → Int64} {g : Nat → UInt64} {x6 x7 : Option Value} (hI : lwI tx g1 g2 fn pg t1 t2 A T F G W) (h1 : vp_in (nI i + pm_k 1) Ln) (h2 : vp_in (nI i + pm_k 2) Ln) (hc : cells + 2 ≤ 600128) (hs : slots + 12 ≤ 7301098) (nx : lwN p l e s m below meth c b D cells slots i) :
    lwJ p l e s m below meth c b D cells slots (271, lwL i x6 x7, [], lwV (stN tx g1 g2 fn pg t1 t2) (moW A P T F G S W th) f g) := by
  have ht := X.2.2.2.2.2.2.2
  obtain ⟨⟨iA, iT, iC⟩, ⟨iG1, iG2⟩, ⟨iR, iW1, iW2, iW3⟩, ⟨iF, iFI, iSh⟩, iGJ, ⟨iP1, iP2, iP3, iP4, iP5, iP6⟩⟩ := id hI
  have e1 : t1.2.2.1 = T.1 := iR.1.symm
  have e2 : t1.2.2.2 = T.2.1 := iR.2.1.symm
  have hk : t1.2.2.1 ≤ 7 := by rw [e1]; exact iR.2.2.1
  have hcc : t1.2.2.2 ≤ 16 := by rw [e2]; exact iR.2.2.2.1
  refine lb_weigh X tx g1 g2 fn pg t1 t2 A P T F G S W th i f g x6 x7 h1 h2 (l_weigh ht tx g1 g2 fn pg t1 t2 f _ _ (c_weigh ht tx g1 g2 fn pg t1 t2 _ _ hcc) (fun o w1 h => by rcases h with ⟨_, _, h⟩ | ⟨_, _, _, h⟩ | ⟨_, _, _, h⟩; exact ⟨tx, g1, g2, fn, pg, t1, t2, h⟩; exact ⟨tx, g1, g2, fn, pg, t1, t2, h⟩; exact ⟨tx, g1, g2, (fn.1, fn.2.1, 0), pg, (t1.1, upN t1.2.1 (xs (nI i + pm_k 1).toNatClampNeg).toNatClampNeg (xs (nI i + pm_k 2).toNatClampNeg).toNatClampNeg, t1.2.2.1, t1.2.2.2), t2, h⟩) (fun v w1 h => by rcases h with ⟨_, h, _⟩ | ⟨_, _, h, _⟩ | ⟨_, _, h, _⟩ <;> cases h; exact ⟨_, rfl⟩) (fun E w1 h => by rcases h with ⟨_, h, _⟩ | ⟨_, _, h, _⟩ | ⟨_, _, h, _⟩ <;> cases h; exact Or.inl rfl; exact Or.inr rfl)) wrL_nE (by omega) (by omega) ?_
  have hD := d_weigh ht A P T F G S W th (xs (nI i + pm_k 1).toNatClampNeg) (xs (nI i + pm_k 2).toNatClampNeg) iR.2.2.2.1
  have nE : ∀ E w1, ¬ (¬ okC T.2.1 (xs (nI i + pm_k 1).toNatClampNeg) ∧ (Sum.inr E : pm_O) = .inl (some (.int (nI 0))) ∧ w1 = moW A P T F G S W 1 ∨ okC T.2.1 (xs (nI i + pm_k 1).toNatClampNeg) ∧ ¬ (nI 1 ≤ xs (nI i + pm_k 2).toNatClampNeg ∧ xs (nI i + pm_k 2).toNatClampNeg ≤ nI 9) ∧ (Sum.inr E : pm_O) = .inl (some (.int (nI 0))) ∧ w1 = moW A P T F G S W 2 ∨ okC T.2.1 (xs (nI i + pm_k 1).toNatClampNeg) ∧ (nI 1 ≤ xs (nI i + pm_k 2).toNatClampNeg ∧ xs (nI i + pm_k 2).toNatClampNeg ≤ nI 9) ∧ (Sum.inr E : pm_O) = .inl (some (.int (nI (T.2.2.2 (xs (nI i + pm_k 1).toNatClampNeg).toNatClampNeg)))) ∧ w1 = moW A P (T.1, T.2.1, T.2.2.1, upN T.2.2.2 (xs (nI i + pm_k 1).toNatClampNeg).toNatClampNeg (xs (nI i + pm_k 2).toNatClampNeg).toNatClampNeg) (0, F.2) G S W 0) := by
    intro E w1 h
    rcases h with ⟨_, h, _⟩ | ⟨_, _, h, _⟩ | ⟨_, _, h, _⟩ <;> cases h
  refine wrL_hr (J := fun k cl f' => lwJ p l e s m below meth c b D (cells + 2) (slots + 12) (288, lwL i x6 x7, [.int (nI k)], lwV cl (moW A P T F G S W th) f' g)) (fun x0 w1 hO => ?_) (fun E w1 hO => ?_)
  · rcases hO with ⟨_, ho, _⟩ | ⟨_, _, ho, _⟩ | ⟨hq, hy, ho, hw⟩
    · cases ho
    · cases ho
    · cases ho
      subst hw
      rw [e2] at hq
      have q1 := okC_lt (by have := iR.2.2.2.1; omega) hq
      refine ⟨tx, g1, g2, (fn.1, fn.2.1, 0), pg, (t1.1, upN t1.2.1 (xs (nI i + pm_k 1).toNatClampNeg).toNatClampNeg (xs (nI i + pm_k 2).toNatClampNeg).toNatClampNeg, t1.2.2.1, t1.2.2.2), t2, rfl, ?_⟩
      refine ld_weigh X tx g1 g2 (fn.1, fn.2.1, 0) pg (t1.1, upN t1.2.1 (xs (nI i + pm_k 1).toNatClampNeg).toNatClampNeg (xs (nI i + pm_k 2).toNatClampNeg).toNatClampNeg, t1.2.2.1, t1.2.2.2) t2 A P T F G S W th i _ g x6 x7 0 (by decide) h1 h2 hD nE (by omega) (by omega) ht (fun v w1 h => ?_)
      rcases h with ⟨hn, _, _⟩ | ⟨_, hn, _, _⟩ | ⟨_, _, h, hw⟩
      · exact absurd hq hn
      · exact absurd hy hn
      · cases h
        have hR' : TbR (t1.1, upN t1.2.1 (xs (nI i + pm_k 1).toNatClampNeg).toNatClampNeg (xs (nI i + pm_k 2).toNatClampNeg).toNatClampNeg, t1.2.2.1, t1.2.2.2) (T.1, T.2.1, T.2.2.1, upN T.2.2.2 (xs (nI i + pm_k 1).toNatClampNeg).toNatClampNeg (xs (nI i + pm_k 2).toNatClampNeg).toNatClampNeg) := by
          refine ⟨iR.1, iR.2.1, iR.2.2.1, iR.2.2.2.1, iR.2.2.2.2.1, fun c hc => ?_⟩
          show upN T.2.2.2 _ _ c = upN t1.2.1 _ _ c
          unfold upN
          split
          · rfl
          · exact iR.2.2.2.2.2 c hc
        have hI' : lwI tx g1 g2 (fn.1, fn.2.1, 0) pg (t1.1, upN t1.2.1 (xs (nI i + pm_k 1).toNatClampNeg).toNatClampNeg (xs (nI i + pm_k 2).toNatClampNeg).toNatClampNeg, t1.2.2.1, t1.2.2.2) t2 A (T.1, T.2.1, T.2.2.1, upN T.2.2.2 (xs (nI i + pm_k 1).toNatClampNeg).toNatClampNeg (xs (nI i + pm_k 2).toNatClampNeg).toNatClampNeg) (0, F.2) G W :=
          ⟨⟨iA, iT, iC⟩, ⟨iG1, iG2⟩, ⟨hR', upN_Bd iW1 (le9 hy), upN_Bd iW2 (le9 hy), iW3⟩, ⟨by rw [iF], ⟨by show 0 ≤ 945; decide, fun i hi => absurd hi (Nat.not_lt_zero _)⟩, fun h => absurd rfl h⟩, iGJ, ⟨iP1, iP2, iP3, iP4, iP5, iP6⟩⟩
        refine ⟨_, A, P, _, (0, F.2), G, S, W, rfl, hw, fun _ => ?_, nx _ _ _ _ _ _ _ _ _ _ _ _ _ _ _ _ _ _ _ _ _ hI' (by omega) (by omega)⟩
        rw [iR.2.2.2.2.2 _ q1.1]
        exact if_pos rfl
  · rcases hO with ⟨hq, ho, hw⟩ | ⟨hq, hy, ho, hw⟩ | ⟨_, _, ho, _⟩
    · cases ho
      subst hw
      rw [e2] at hq
      refine ⟨1, tx, g1, g2, fn, pg, t1, t2, rfl, rfl, ?_⟩
      refine ld_weigh X tx g1 g2 fn pg t1 t2 A P T F G S W th i _ g x6 x7 1 (by decide) h1 h2 hD nE (by omega) (by omega) ht (fun v w1 h => ?_)
      rcases h with ⟨_, h, hw⟩ | ⟨hn, _, _, _⟩ | ⟨hn, _, _, _⟩
      · cases h
        exact ⟨_, A, P, T, F, G, S, W, rfl, hw, (fun h => absurd h (by decide)), nx _ _ _ _ _ _ _ _ _ _ _ _ _ _ _ _ _ _ _ _ _ hI (by omega) (by omega)⟩
      · exact absurd hn hq
      · exact absurd hn hq
    · cases ho
      subst hw
      rw [e2] at hq
      refine ⟨2, tx, g1, g2, fn, pg, t1, t2, rfl, rfl, ?_⟩
      refine ld_weigh X tx g1 g2 fn pg t1 t2 A P T F G S W th i _ g x6 x7 2 (by decide) h1 h2 hD nE (by omega) (by omega) ht (fun v w1 h => ?_)
      rcases h with ⟨hn, _, _⟩ | ⟨_, _, h, hw⟩ | ⟨_, hn, _, _⟩
      · exact absurd hq hn
      · cases h
        exact ⟨_, A, P, T, F, G, S, W, rfl, hw, (fun h => absurd h (by decide)), nx _ _ _ _ _ _ _ _ _ _ _ _ _ _ _ _ _ _ _ _ _ hI (by omega) (by omega)⟩
      · exact absurd hn hy
    · cases ho
end LWJ
