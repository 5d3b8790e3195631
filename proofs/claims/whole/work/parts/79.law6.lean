section LWK
variable {p : Program} {l : Launch} {e : Env} {s : State} {m : MethodId} {below : List Frame} {meth : Method} {c : Code} {b Ln : Nat} {xs : Nat → Int32} {D : va_G} {cells slots : Nat}
theorem lc_search (X : lwC p l e s m below meth c b Ln xs) {tx : txP} {g1 g2 : trP} {fn : fnP} {pg : pgP} {t1 t2 : tbP} {A : mA} {P : mP} {T : mT} {F : mF} {G : mG} {S : mS} {W : mW} {th i : Nat} {f : Nat → Int64} {g : Nat → UInt64} {x6 x7 : Option Value} (hI : lwI tx g1 g2 fn pg t1 t2 A T F G W)  (hc : cells + 2 ≤ 600128) (hs : slots + 12 ≤ 7301098) (nx : lwN p l e s m below meth c b D cells slots i) :
    lwJ p l e s m below meth c b D cells slots (476, lwL i x6 x7, [], lwV (stN tx g1 g2 fn pg t1 t2) (moW A P T F G S W th) f g) := by
  have ht := X.2.2.2.2.2.2.2
  obtain ⟨⟨iA, iT, iC⟩, ⟨iG1, iG2⟩, ⟨iR, iW1, iW2, iW3⟩, ⟨iF, iFI, iSh⟩, iGJ, ⟨iP1, iP2, iP3, iP4, iP5, iP6⟩⟩ := id hI
  have e1 : t1.2.2.1 = T.1 := iR.1.symm
  have e2 : t1.2.2.2 = T.2.1 := iR.2.1.symm
  have hk : t1.2.2.1 ≤ 7 := by rw [e1]; exact iR.2.2.1
  have hcc : t1.2.2.2 ≤ 16 := by rw [e2]; exact iR.2.2.2.1
  have hT := tbI_of iR
  have hN := ndOk_of iR
  refine lb_search X tx g1 g2 fn pg t1 t2 A P T F G S W th i f g x6 x7 (l_search ht tx g1 g2 fn pg t1 t2 f (c_search ht tx g1 g2 fn pg t1 t2 hk hcc iW1 iG1) (fun o w1 h => by rcases h with ⟨_, _, h⟩ | ⟨_, _, g1', _, h⟩; exact ⟨tx, g1, g2, fn, pg, t1, t2, h⟩; exact ⟨tx, g1', g2, _, pg, t1, t2, h⟩) (fun v w1 h => by rcases h with ⟨_, h, _⟩ | ⟨_, h, _⟩ <;> cases h; exact ⟨_, rfl⟩) (fun E w1 h => by rcases h with ⟨_, h, _⟩ | ⟨_, h, _⟩ <;> cases h; rfl)) wrL_nE (by omega) (by omega) ?_
  have hD := d_search ht A P T F G S W th hT hN iW2 iGJ
  refine wrL_hr (J := fun k cl f' => lwJ p l e s m below meth c b D (cells + 1) (slots + 6) (481, lwL i x6 x7, [.int (nI k)], lwV cl (moW A P T F G S W th) f' g)) (fun x0 w1 hO => ?_) (fun E w1 hO => ?_)
  · rcases hO with ⟨_, ho, _⟩ | ⟨hq, ho, g1', iG1', hw⟩
    · cases ho
    · cases ho
      subst hw
      have hq3 : 3 ≤ T.1 := by rw [← e1]; exact hq
      refine ⟨tx, g1', g2, ((gaS (lenT t1.1 t1.2.1 t1.2.2.1 t1.2.2.2) fn.1 (tcount t1.2.2.1)).2.2, taS t1.2.2.1 (gaS (lenT t1.1 t1.2.1 t1.2.2.1 t1.2.2.2) fn.1 (tcount t1.2.2.1)).2.2 (fun j => if j < 128 then 0 else fn.2.1 j) (gaS (lenT t1.1 t1.2.1 t1.2.2.1 t1.2.2.2) fn.1 (tcount t1.2.2.1)).2.1, (gaS (lenT t1.1 t1.2.1 t1.2.2.1 t1.2.2.2) fn.1 (tcount t1.2.2.1)).2.1), pg, t1, t2, rfl, ?_⟩
      have eg : gaS (lnV T) F.2 (tcount T.1) = (gaS (lenT t1.1 t1.2.1 t1.2.2.1 t1.2.2.2) fn.1 (tcount t1.2.2.1)) := by
        rw [iF, ← e1]
        exact gaS_ext _ (fun i hi => ln_eq iR hq3 (by rw [← e1]; exact hi))
      refine ld_search X tx g1' g2 ((gaS (lenT t1.1 t1.2.1 t1.2.2.1 t1.2.2.2) fn.1 (tcount t1.2.2.1)).2.2, taS t1.2.2.1 (gaS (lenT t1.1 t1.2.1 t1.2.2.1 t1.2.2.2) fn.1 (tcount t1.2.2.1)).2.2 (fun j => if j < 128 then 0 else fn.2.1 j) (gaS (lenT t1.1 t1.2.1 t1.2.2.1 t1.2.2.2) fn.1 (tcount t1.2.2.1)).2.1, (gaS (lenT t1.1 t1.2.1 t1.2.2.1 t1.2.2.2) fn.1 (tcount t1.2.2.1)).2.1) pg t1 t2 A P T F G S W th i _ g x6 x7 0 (by decide) hD (fun E w1 h => by rcases h with ⟨_, h, _⟩ | ⟨_, h, _⟩ <;> cases h) (by omega) (by omega) ht (fun v w1 h => ?_)
      rcases h with ⟨hz, _, _⟩ | ⟨_, h, G', S', hG', hw⟩
      · have := (tc_0 iR.2.2.1).mp hz
        omega
      · cases h
        rw [eg] at hw ⊢
        have hn : ∀ i, i < (gaS (lenT t1.1 t1.2.1 t1.2.2.1 t1.2.2.2) fn.1 (tcount t1.2.2.1)).2.1 → (gaS (lenT t1.1 t1.2.1 t1.2.2.1 t1.2.2.2) fn.1 (tcount t1.2.2.1)).2.2 i < tcount T.1 := fun i hi => by rw [← e1]; exact gaS_num _ i hi
        have hle : (gaS (lenT t1.1 t1.2.1 t1.2.2.1 t1.2.2.2) fn.1 (tcount t1.2.2.1)).2.1 ≤ 945 := Nat.le_trans (gaS_le _ _ _) (tcount_le hk)
        have hI' : lwI tx g1' g2 ((gaS (lenT t1.1 t1.2.1 t1.2.2.1 t1.2.2.2) fn.1 (tcount t1.2.2.1)).2.2, taS t1.2.2.1 (gaS (lenT t1.1 t1.2.1 t1.2.2.1 t1.2.2.2) fn.1 (tcount t1.2.2.1)).2.2 (fun j => if j < 128 then 0 else fn.2.1 j) (gaS (lenT t1.1 t1.2.1 t1.2.2.1 t1.2.2.2) fn.1 (tcount t1.2.2.1)).2.1, (gaS (lenT t1.1 t1.2.1 t1.2.2.1 t1.2.2.2) fn.1 (tcount t1.2.2.1)).2.1) pg t1 t2 A T ((gaS (lenT t1.1 t1.2.1 t1.2.2.1 t1.2.2.2) fn.1 (tcount t1.2.2.1)).2.1, (gaS (lenT t1.1 t1.2.1 t1.2.2.1 t1.2.2.2) fn.1 (tcount t1.2.2.1)).2.2) G' W :=
          ⟨⟨iA, iT, iC⟩, ⟨iG1', iG2⟩, ⟨iR, iW1, iW2, iW3⟩, ⟨rfl, ⟨hle, hn⟩, fun _ => ⟨hq3, fun v hv => by
            show taS t1.2.2.1 (gaS (lenT t1.1 t1.2.1 t1.2.2.1 t1.2.2.2) fn.1 (tcount t1.2.2.1)).2.2 (fun j => if j < 128 then 0 else fn.2.1 j) (gaS (lenT t1.1 t1.2.1 t1.2.2.1 t1.2.2.2) fn.1 (tcount t1.2.2.1)).2.1 v = shQ T.1 (gaS (lenT t1.1 t1.2.1 t1.2.2.1 t1.2.2.2) fn.1 (tcount t1.2.2.1)).2.2 (nI v) (gaS (lenT t1.1 t1.2.1 t1.2.2.1 t1.2.2.2) fn.1 (tcount t1.2.2.1)).2.1
            rw [e1] at hn ⊢
            rw [ta_sh hq3 iR.2.2.1 hv _ (by rw [← e1] at hn ⊢; exact hn), if_pos hv, Nat.zero_add]⟩⟩, hG', ⟨iP1, iP2, iP3, iP4, iP5, iP6⟩⟩
        exact ⟨_, A, P, T, _, G', S', W, rfl, hw, (fun _ => if_pos rfl), nx _ _ _ _ _ _ _ _ _ _ _ _ _ _ _ _ _ _ _ _ _ hI' (by omega) (by omega)⟩
  · rcases hO with ⟨hq, ho, hw⟩ | ⟨_, ho, _⟩
    · cases ho
      subst hw
      rw [e1] at hq
      refine ⟨1, tx, g1, g2, fn, pg, t1, t2, rfl, rfl, ?_⟩
      refine ld_search X tx g1 g2 fn pg t1 t2 A P T F G S W th i _ g x6 x7 1 (by decide) hD (fun E w1 h => by rcases h with ⟨_, h, _⟩ | ⟨_, h, _⟩ <;> cases h) (by omega) (by omega) ht (fun v w1 h => ?_)
      rcases h with ⟨_, h, hw⟩ | ⟨hz, _, _⟩
      · cases h
        exact ⟨_, A, P, T, F, G, S, W, rfl, hw, (fun h => absurd h (by decide)), nx _ _ _ _ _ _ _ _ _ _ _ _ _ _ _ _ _ _ _ _ _ hI (by omega) (by omega)⟩
      · exact absurd ((tc_0 iR.2.2.1).mpr hq) hz
    · cases ho
theorem shF_n (ta : Nat → Nat) {cnt : Nat} (hc : cnt < 2 ^ 31) (x : Int32) : vf_n32 (shF ta cnt x) := by
  unfold shF fdv
  split
  · rename_i h
    exact fp_d _ _ (by rw [nI_z hc]; exact h.2)
  · exact fl_c0
theorem sh_eq {T : mT} {F : mF} {ta : Nat → Nat} (hk3 : 3 ≤ T.1) (hk : T.1 ≤ 7) (hF : FI T F) (h0 : ¬ F.1 = 0) (hta : ∀ v, v < 128 → ta v = shQ T.1 F.2 (nI v) F.1) (x : Int32) : shF ta F.1 x = FP.fdiv (FP.i2f (nI (shQ T.1 F.2 x F.1))) (FP.i2f (nI F.1)) := by
  unfold shF fdv
  by_cases hx : 0 ≤ x ∧ x < nI 128
  · rw [if_pos ⟨hx, h0⟩]
    obtain ⟨q1, q2⟩ := okC_lt (n := 128) (by decide) hx
    rw [hta _ q1, q2]
  · rw [if_neg (fun z => hx z.1)]
    have hz : shQ T.1 F.2 x F.1 = 0 := by
      apply sh_out hk3 hk _ F.1 hF.2
      rintro ⟨v, hv, rfl⟩
      exact hx ⟨nI_pos' (by omega), nI_lt hv (by decide)⟩
    rw [hz, fl_none F.1 (by omega) (by have := hF.1; omega)]
theorem lc_share (X : lwC p l e s m below meth c b Ln xs) {tx : txP} {g1 g2 : trP} {fn : fnP} {pg : pgP} {t1 t2 : tbP} {A : mA} {P : mP} {T : mT} {F : mF} {G : mG} {S : mS} {W : mW} {th i : Nat} {f : Nat → Int64} {g : Nat → UInt64} {x6 x7 : Option Value} (hI : lwI tx g1 g2 fn pg t1 t2 A T F G W) (h1 : vp_in (nI i + pm_k 1) Ln) (hc : cells + 2 ≤ 600128) (hs : slots + 12 ≤ 7301098) (nx : lwN p l e s m below meth c b D cells slots i) :
    lwJ p l e s m below meth c b D cells slots (664, lwL i x6 x7, [], lwV (stN tx g1 g2 fn pg t1 t2) (moW A P T F G S W th) f g) := by
  have ht := X.2.2.2.2.2.2.2
  obtain ⟨⟨iA, iT, iC⟩, ⟨iG1, iG2⟩, ⟨iR, iW1, iW2, iW3⟩, ⟨iF, iFI, iSh⟩, iGJ, ⟨iP1, iP2, iP3, iP4, iP5, iP6⟩⟩ := id hI
  have e1 : t1.2.2.1 = T.1 := iR.1.symm
  have e2 : t1.2.2.2 = T.2.1 := iR.2.1.symm
  have hk : t1.2.2.1 ≤ 7 := by rw [e1]; exact iR.2.2.1
  have hcc : t1.2.2.2 ≤ 16 := by rw [e2]; exact iR.2.2.2.1
  have hf2 : fn.2.2 = F.1 := by rw [iF]
  have hl : fn.2.2 < 2 ^ 31 := by have := iFI.1; omega
  refine lb_share X tx g1 g2 fn pg t1 t2 A P T F G S W th i f g x6 x7 h1 (l_share ht tx g1 g2 fn pg t1 t2 g _ (c_share fp_d ht tx g1 g2 fn pg t1 t2 _ hl) (fun o w1 h => ⟨tx, g1, g2, fn, pg, t1, t2, h.1⟩) (fun v w1 h => by rcases h.2 with ⟨_, h⟩ | ⟨_, h⟩ <;> cases h; exact ⟨_, rfl, shF_n _ hl _⟩) (fun E w1 h => by rcases h.2 with ⟨_, h⟩ | ⟨_, h⟩ <;> cases h; rfl)) wrD_nE (by omega) (by omega) ?_
  have hD := d_share fp_d ht A P T F G S W th (xs (nI i + pm_k 1).toNatClampNeg) iR.2.2.1 iFI iGJ
  refine wrD_hr (J := fun k cl f' => lwJ p l e s m below meth c b D (cells + 1) (slots + 6) (676, lwL i x6 x7, [.int (nI k)], lwV cl (moW A P T F G S W th) f f')) (fun x0 w1 hO => ?_) (fun E w1 hO => ?_)
  · obtain ⟨hw, hO⟩ := hO
    subst hw
    refine ⟨tx, g1, g2, fn, pg, t1, t2, rfl, ?_⟩
    rcases hO with ⟨_, ho⟩ | ⟨hq, ho⟩
    · cases ho
    · cases ho
      rw [hf2] at hq
      obtain ⟨k3, hta⟩ := iSh hq
      refine ld_share X tx g1 g2 fn pg t1 t2 A P T F G S W th i f _ x6 x7 0 (by decide) h1 hD (fun E w1 h => by rcases h with ⟨_, h, _⟩ | ⟨_, h, _⟩ <;> cases h) (by omega) (by omega) ht (fun v w1 h => ?_)
      rcases h with ⟨hz, _, _⟩ | ⟨_, h, G', S', hG', hw⟩
      · exact absurd hz hq
      · cases h
        have hI' : lwI tx g1 g2 fn pg t1 t2 A T F G' W := ⟨⟨iA, iT, iC⟩, ⟨iG1, iG2⟩, ⟨iR, iW1, iW2, iW3⟩, ⟨iF, iFI, iSh⟩, hG', ⟨iP1, iP2, iP3, iP4, iP5, iP6⟩⟩
        have ev := sh_eq k3 iR.2.2.1 iFI hq hta (xs (nI i + pm_k 1).toNatClampNeg)
        refine ⟨_, A, P, T, F, G', S', W, rfl, hw, (by rw [← ev]; exact shF_n _ (by rw [← hf2]; exact hl) _), (fun _ => ?_), nx _ _ _ _ _ _ _ _ _ _ _ _ _ _ _ _ _ _ _ _ _ hI' (by omega) (by omega)⟩
        rw [← ev, hf2]
        exact if_pos rfl
  · obtain ⟨hw, hO⟩ := hO
    subst hw
    rcases hO with ⟨hq, ho⟩ | ⟨_, ho⟩
    · cases ho
      rw [hf2] at hq
      refine ⟨1, tx, g1, g2, fn, pg, t1, t2, rfl, rfl, ?_⟩
      refine ld_share X tx g1 g2 fn pg t1 t2 A P T F G S W th i f _ x6 x7 1 (by decide) h1 hD (fun E w1 h => by rcases h with ⟨_, h, _⟩ | ⟨_, h, _⟩ <;> cases h) (by omega) (by omega) ht (fun v w1 h => ?_)
      rcases h with ⟨_, h, hw⟩ | ⟨hz, _, _⟩
      · cases h
        exact ⟨_, A, P, T, F, G, S, W, rfl, hw, fl_c0, (fun h => absurd h (by decide)), nx _ _ _ _ _ _ _ _ _ _ _ _ _ _ _ _ _ _ _ _ _ hI (by omega) (by omega)⟩
      · exact absurd hq hz
    · cases ho
theorem lc_distance (X : lwC p l e s m below meth c b Ln xs) {tx : txP} {g1 g2 : trP} {fn : fnP} {pg : pgP} {t1 t2 : tbP} {A : mA} {P : mP} {T : mT} {F : mF} {G : mG} {S : mS} {W : mW} {th i : Nat} {f : Nat → Int64} {g : Nat → UInt64} {x6 x7 : Option Value} (hI : lwI tx g1 g2 fn pg t1 t2 A T F G W) (h1 : vp_in (nI i + pm_k 1) Ln) (h2 : vp_in (nI i + pm_k 2) Ln) (hc : cells + 2 ≤ 600128) (hs : slots + 12 ≤ 7301098) (nx : lwN p l e s m below meth c b D cells slots i) :
    lwJ p l e s m below meth c b D cells slots (742, lwL i x6 x7, [], lwV (stN tx g1 g2 fn pg t1 t2) (moW A P T F G S W th) f g) := by
  have ht := X.2.2.2.2.2.2.2
  obtain ⟨⟨iA, iT, iC⟩, ⟨iG1, iG2⟩, ⟨iR, iW1, iW2, iW3⟩, ⟨iF, iFI, iSh⟩, iGJ, ⟨iP1, iP2, iP3, iP4, iP5, iP6⟩⟩ := id hI
  have e1 : t1.2.2.1 = T.1 := iR.1.symm
  have e2 : t1.2.2.2 = T.2.1 := iR.2.1.symm
  have hk : t1.2.2.1 ≤ 7 := by rw [e1]; exact iR.2.2.1
  have hcc : t1.2.2.2 ≤ 16 := by rw [e2]; exact iR.2.2.2.1
  refine lb_distance X tx g1 g2 fn pg t1 t2 A P T F G S W th i f g x6 x7 h1 h2 (l_distance ht tx g1 g2 fn pg t1 t2 f _ _ (c_distance ht tx g1 g2 fn pg t1 t2 _ _ hk iG1 iG2) (fun o w1 h => by rcases h with ⟨_, _, h⟩ | ⟨_, _, g1', g2', _, _, h⟩; exact ⟨tx, g1, g2, fn, pg, t1, t2, h⟩; exact ⟨tx, g1', g2', fn, pg, t1, t2, h⟩) (fun v w1 h => by rcases h with ⟨_, h, _⟩ | ⟨_, h, _⟩ <;> cases h; exact ⟨_, rfl⟩) (fun E w1 h => by rcases h with ⟨_, h, _⟩ | ⟨_, h, _⟩ <;> cases h; rfl)) wrL_nE (by omega) (by omega) ?_
  have hD := d_distance ht A P T F G S W th (xs (nI i + pm_k 1).toNatClampNeg) (xs (nI i + pm_k 2).toNatClampNeg) iR.2.2.1 iGJ
  refine wrL_hr (J := fun k cl f' => lwJ p l e s m below meth c b D (cells + 2) (slots + 12) (759, lwL i x6 x7, [.int (nI k)], lwV cl (moW A P T F G S W th) f' g)) (fun x0 w1 hO => ?_) (fun E w1 hO => ?_)
  · rcases hO with ⟨_, ho, _⟩ | ⟨hq, ho, g1', g2', iG1', iG2', hw⟩
    · cases ho
    · cases ho
      subst hw
      refine ⟨tx, g1', g2', fn, pg, t1, t2, rfl, ?_⟩
      rw [e1] at hq
      refine ld_distance X tx g1' g2' fn pg t1 t2 A P T F G S W th i _ g x6 x7 0 (by decide) h1 h2 hD (fun E w1 h => by rcases h with ⟨_, h, _⟩ | ⟨_, h, _⟩ <;> cases h) (by omega) (by omega) ht (fun v w1 h => ?_)
      rcases h with ⟨_, h, G', S', hG', hw⟩ | ⟨hq2, _, _⟩
      · cases h
        have hI' : lwI tx g1' g2' fn pg t1 t2 A T F G' W := ⟨⟨iA, iT, iC⟩, ⟨iG1', iG2'⟩, ⟨iR, iW1, iW2, iW3⟩, ⟨iF, iFI, iSh⟩, hG', ⟨iP1, iP2, iP3, iP4, iP5, iP6⟩⟩
        refine ⟨_, A, P, T, F, G', S', W, rfl, hw, fun _ => ?_, nx _ _ _ _ _ _ _ _ _ _ _ _ _ _ _ _ _ _ _ _ _ hI' (by omega) (by omega)⟩
        have q1 := okC_lt (by have := tc_lt iR.2.2.1; omega) hq.1
        have q2 := okC_lt (by have := tc_lt iR.2.2.1; omega) hq.2
        rw [ds_eq (tc_3 q1.1) iR.2.2.1 q1.1 q2.1, ← e1]
        exact if_pos rfl
      · exact absurd hq hq2
  · rcases hO with ⟨hq, ho, hw⟩ | ⟨_, ho, _⟩
    · cases ho
      subst hw
      rw [e1] at hq
      refine ⟨1, tx, g1, g2, fn, pg, t1, t2, rfl, rfl, ?_⟩
      refine ld_distance X tx g1 g2 fn pg t1 t2 A P T F G S W th i _ g x6 x7 1 (by decide) h1 h2 hD (fun E w1 h => by rcases h with ⟨_, h, _⟩ | ⟨_, h, _⟩ <;> cases h) (by omega) (by omega) ht (fun v w1 h => ?_)
      rcases h with ⟨hq2, _, _⟩ | ⟨_, h, hw⟩
      · exact absurd hq2 hq
      · cases h
        exact ⟨_, A, P, T, F, G, S, W, rfl, hw, (fun h => absurd h (by decide)), nx _ _ _ _ _ _ _ _ _ _ _ _ _ _ _ _ _ _ _ _ _ hI (by omega) (by omega)⟩
    · cases ho
end LWK
