section LWM
variable {p : Program} {l : Launch} {e : Env} {s : State} {m : MethodId} {below : List Frame} {meth : Method} {c : Code} {b Ln : Nat} {xs : Nat → Int32} {D : va_G} {cells slots : Nat}
def PgB (s : pgS) : Prop := ∀ j, s.1 j < 65536
theorem put_b {s : pgS} (h : PgB s) {v : Nat} (hv : v < 65536) : PgB (putF s v) := by
  unfold putF
  split
  · intro j
    show upN s.1 s.2 v j < 65536
    unfold upN
    split
    · exact hv
    · exact h j
  · exact h
theorem sbT_b {rec : Nat → pgS → pgS} (hr : ∀ S s, PgB s → PgB (rec S s)) (gr : Nat → Nat) (gc S : Nat) {z : Nat × pgS} (hz : PgB z.2) {kd : Nat} (hk : kd < 7) : PgB (sbT rec gr gc S z kd).2 := by
  unfold sbT
  have hc : PgB (if z.1 = S then z.2 else putF z.2 44) := by
    split
    · exact hz
    · exact put_b hz (by decide)
  split
  · exact hz
  · dsimp only
    split
    · exact put_b hc (by omega)
    · exact put_b (hr _ _ (put_b hc (by decide))) (by decide)
theorem sbL_b {rec : Nat → pgS → pgS} (hr : ∀ S s, PgB s → PgB (rec S s)) (gr : Nat → Nat) (gc S : Nat) {s : pgS} (hs : PgB s) : ∀ kd, kd ≤ 7 → PgB (sbL rec gr gc S s kd).2
  | 0, _ => hs
  | kd + 1, h => sbT_b hr gr gc S (sbL_b hr gr gc S hs kd (by omega)) (by omega)
theorem sbF_b (gr : Nat → Nat) (gc : Nat) : ∀ f S s, PgB s → PgB (sbF gr gc f S s)
  | 0, S, s, hs => hs
  | f + 1, S, s, hs => sbL_b (sbF_b gr gc f) gr gc S hs 7 (Nat.le_refl _)
theorem flF_b (gr : Nat → Nat) (gc k : Nat) {sg : Nat → Nat} (h : ∀ j, sg j < 65536) : PgB (flF gr gc k sg) := by
  have h0 : PgB (sg, 0) := h
  exact put_b (put_b (sbF_b gr gc 7 _ _ (put_b (put_b (put_b h0 (by decide)) (by decide)) (by decide))) (by decide)) (by decide)
theorem lc_write (X : lwC p l e s m below meth c b Ln xs) {tx : txP} {g1 g2 : trP} {fn : fnP} {pg : pgP} {t1 t2 : tbP} {A : mA} {P : mP} {T : mT} {F : mF} {G : mG} {S : mS} {W : mW} {th i : Nat} {f : Nat → Int64} {g : Nat → UInt64} {x6 x7 : Option Value} (hI : lwI tx g1 g2 fn pg t1 t2 A T F G W) (h1 : vp_in (nI i + pm_k 1) Ln) (hc : cells + 2 ≤ 600128) (hs : slots + 12 ≤ 7301098) (nx : lwN p l e s m below meth c b D cells slots i) :
    lwJ p l e s m below meth c b D cells slots (966, lwL i x6 x7, [], lwV (stN tx g1 g2 fn pg t1 t2) (moW A P T F G S W th) f g) := by
  have ht := X.2.2.2.2.2.2.2
  obtain ⟨⟨iA, iT, iC⟩, ⟨iG1, iG2⟩, ⟨iR, iW1, iW2, iW3⟩, ⟨iF, iFI, iSh⟩, iGJ, ⟨iP1, iP2, iP3, iP4, iP5, iP6⟩⟩ := id hI
  have e1 : t1.2.2.1 = T.1 := iR.1.symm
  have e2 : t1.2.2.2 = T.2.1 := iR.2.1.symm
  have hk : t1.2.2.1 ≤ 7 := by rw [e1]; exact iR.2.2.1
  have hcc : t1.2.2.2 ≤ 16 := by rw [e2]; exact iR.2.2.2.1
  refine lb_write X tx g1 g2 fn pg t1 t2 A P T F G S W th i f g x6 x7 h1 (l_write ht tx g1 g2 fn pg t1 t2 f _ (c_write ht tx g1 g2 fn pg t1 t2 _ hk iG1 iP6) (fun o w1 h => by rcases h with ⟨_, _, h⟩ | ⟨_, _, g1', _, h⟩; exact ⟨tx, g1, g2, fn, pg, t1, t2, h⟩; exact ⟨tx, g1', g2, fn, _, t1, t2, h⟩) (fun v w1 h => by rcases h with ⟨_, h, _⟩ | ⟨_, h, _⟩ <;> cases h; exact ⟨_, rfl⟩) (fun E w1 h => by rcases h with ⟨_, h, _⟩ | ⟨_, h, _⟩ <;> cases h; rfl)) wrL_nE (by omega) (by omega) ?_
  have hr : ∀ a, a < tcount T.1 → wrA (spW T.1 a).2 (spW T.1 a).1 T.1 100 zz zz = some ((fun a => (wrA (spW T.1 a).2 (spW T.1 a).1 T.1 100 zz zz).getD (0, zz, zz)) a) := by
    intro a ha
    obtain ⟨z, hz, -⟩ := wt_ok (tc_3 ha) iR.2.2.1 ha cz cz
    dsimp only
    rw [hz]
    rfl
  have hD := d_write ht A P T F G S W th (xs (nI i + pm_k 1).toNatClampNeg) iR.2.2.1 iGJ iP4 _ hr
  refine wrL_hr (J := fun k cl f' => lwJ p l e s m below meth c b D (cells + 1) (slots + 6) (977, lwL i x6 x7, [.int (nI k)], lwV cl (moW A P T F G S W th) f' g)) (fun x0 w1 hO => ?_) (fun E w1 hO => ?_)
  · rcases hO with ⟨_, ho, _⟩ | ⟨hq, ho, g1', iG1', hw⟩
    · cases ho
    · cases ho
      subst hw
      refine ⟨tx, g1', g2, fn, ((flF (agF (spz t1.2.2.1 (xs (nI i + pm_k 1).toNatClampNeg).toNatClampNeg) pg.2.1 (t1.2.2.1 - 3)) (t1.2.2.1 - 3) t1.2.2.1 pg.1.1), (agF (spz t1.2.2.1 (xs (nI i + pm_k 1).toNatClampNeg).toNatClampNeg) pg.2.1 (t1.2.2.1 - 3)), t1.2.2.1 - 3), t1, t2, rfl, ?_⟩
      have hq' : okC (tcount T.1) (xs (nI i + pm_k 1).toNatClampNeg) := by rw [← e1]; exact hq
      have q1 := okC_lt (by have := tc_lt iR.2.2.1; omega) hq'
      obtain ⟨z, hz, z1, z2, z3⟩ := wt_ok (tc_3 q1.1) iR.2.2.1 q1.1 pg.2.1 pg.1.1
      rw [← e1] at z1 z3
      refine ld_write X tx g1' g2 fn ((flF (agF (spz t1.2.2.1 (xs (nI i + pm_k 1).toNatClampNeg).toNatClampNeg) pg.2.1 (t1.2.2.1 - 3)) (t1.2.2.1 - 3) t1.2.2.1 pg.1.1), (agF (spz t1.2.2.1 (xs (nI i + pm_k 1).toNatClampNeg).toNatClampNeg) pg.2.1 (t1.2.2.1 - 3)), t1.2.2.1 - 3) t1 t2 A P T F G S W th i _ g x6 x7 0 (by decide) h1 hD (fun E w1 h => by rcases h with ⟨_, h, _⟩ | ⟨_, h, _⟩ <;> cases h) (by omega) (by omega) ht (fun v w1 h => ?_)
      rcases h with ⟨_, h, G', S', W', hG', ⟨w1', w2', w3'⟩, hw⟩ | ⟨hq2, _, _⟩
      · cases h
        rw [hz] at w1' w2'
        have w1' : W'.1 = z.1 := w1'
        have w2' : Ag z.1 W'.2.1 z.2.1 := w2'
        have hI' : lwI tx g1' g2 fn ((flF (agF (spz t1.2.2.1 (xs (nI i + pm_k 1).toNatClampNeg).toNatClampNeg) pg.2.1 (t1.2.2.1 - 3)) (t1.2.2.1 - 3) t1.2.2.1 pg.1.1), (agF (spz t1.2.2.1 (xs (nI i + pm_k 1).toNatClampNeg).toNatClampNeg) pg.2.1 (t1.2.2.1 - 3)), t1.2.2.1 - 3) t1 t2 A T F G' W' := ⟨⟨iA, iT, iC⟩, ⟨iG1', iG2⟩, ⟨iR, iW1, iW2, iW3⟩, ⟨iF, iFI, iSh⟩, hG', ⟨by rw [w1', z1], by rw [w1']; exact z2, fun j hj => by rw [w1'] at hj; rw [w2' j hj, (z3 j hj).1], w3', flF_b _ _ _ iP5, agF_Bd (fun i => spz_lt hk) iP6 _⟩⟩
        refine ⟨_, A, P, T, F, G', S', W', rfl, hw, (fun _ => ?_), nx _ _ _ _ _ _ _ _ _ _ _ _ _ _ _ _ _ _ _ _ _ hI' (by omega) (by omega)⟩
        rw [hz]
        show _ = (nI z.1).toInt64
        rw [z1]
        exact if_pos rfl
      · exact absurd hq' hq2
  · rcases hO with ⟨hq, ho, hw⟩ | ⟨_, ho, _⟩
    · cases ho
      subst hw
      rw [e1] at hq
      refine ⟨1, tx, g1, g2, fn, pg, t1, t2, rfl, rfl, ?_⟩
      refine ld_write X tx g1 g2 fn pg t1 t2 A P T F G S W th i _ g x6 x7 1 (by decide) h1 hD (fun E w1 h => by rcases h with ⟨_, h, _⟩ | ⟨_, h, _⟩ <;> cases h) (by omega) (by omega) ht (fun v w1 h => ?_)
      rcases h with ⟨hq2, _, _⟩ | ⟨_, h, hw⟩
      · exact absurd hq2 hq
      · cases h
        exact ⟨_, A, P, T, F, G, S, W, rfl, hw, (fun h => absurd h (by decide)), nx _ _ _ _ _ _ _ _ _ _ _ _ _ _ _ _ _ _ _ _ _ hI (by omega) (by omega)⟩
    · cases ho
theorem coS_g (ta : Nat → Nat) (cnt : Nat) (ab : UInt32) (gr : Nat → Nat) : ∀ n, coS ta cnt ab gr n = coSg (cmB ta cnt ab) gr n
  | 0 => rfl
  | n + 1 => by rw [coS, coSg, coS_g ta cnt ab gr n]
theorem coQ_g (T : mT) (F : mF) (ab : UInt32) (os : Nat → Nat) : ∀ n, coQ T F ab os n = coQg (cnB T F ab) os n
  | 0 => rfl
  | n + 1 => by rw [coQ, coQg, coQ_g T F ab os n]
/-- what both write of what the found trees have in common -/
theorem com_all {T : mT} {F : mF} {ta : Nat → Nat} (hk3 : 3 ≤ T.1) (hk : T.1 ≤ 7) (hF : FI T F) (h0 : ¬ F.1 = 0) (hta : ∀ v, v < 128 → ta v = shQ T.1 F.2 (nI v) F.1) {ab : UInt32} (hab : okA ab) (gr sg : Nat → Nat) :
    (coQ T F ab zz 64).1 ≤ 8 ∧ ∃ z, wrA (coQ T F ab zz 64).2 (coQ T F ab zz 64).1 T.1 100 zz zz = some z ∧ z.1 = (flF (coS ta F.1 ab gr 128).1 (coS ta F.1 ab gr 128).2 T.1 sg).2 ∧ z.1 ≤ 24 ∧ ∀ j, j < z.1 → z.2.1 j = (flF (coS ta F.1 ab gr 128).1 (coS ta F.1 ab gr 128).2 T.1 sg).1 j ∧ z.2.1 j < 65536 := by
  rw [coQ_g, coS_g]
  have hm : 0 < F.1 := by omega
  have h946 : F.1 < 946 := by have := hF.1; omega
  have tk := fun s => fl_take (n := shQ T.1 F.2 (nI s) F.1) hm h946 (shQ_le _ _ _ _) hab
  have z0 : (decide (0 = F.1) || (decide (0 < 0) && decide (0 < Op.cmpValue (FP.fcmp (FP.fdiv (FP.i2f (nI 0)) (FP.i2f (nI F.1))) ab) .l))) = false := by
    rw [decide_eq_false (show ¬ 0 = F.1 by omega), decide_eq_false (show ¬ 0 < 0 by decide)]
    rfl
  refine com_ok (P := fun s => okSp T.1 s && (decide (shQ T.1 F.2 (nI s) F.1 = F.1) || (decide (0 < shQ T.1 F.2 (nI s) F.1) && decide (0 < Op.cmpValue (FP.fcmp (FP.fdiv (FP.i2f (nI (shQ T.1 F.2 (nI s) F.1))) (FP.i2f (nI F.1))) ab) .l)))) hk3 hk hF.2 (fun s _ hs => (Bool.and_eq_true_iff.mp hs).1) (fun s _ hs => (tk s).2 (Bool.and_eq_true_iff.mp hs).2) (fun s hs => ?_) (fun i hi0 hi => ?_) gr sg
  · unfold cmB
    rw [sh_eq hk3 hk hF h0 hta, (tk s).1]
    cases ho : okSp T.1 s with
    | true => rfl
    | false => rw [sh_bad hk3 hk hs ho F.1 hF.2, z0]; rfl
  · unfold cnB
    have hs : 2 * i < 128 := by omega
    cases ho : okSp T.1 (2 * i) with
    | true =>
      have h := ho
      unfold okSp at h
      simp only [Bool.and_eq_true] at h
      have hn : cnN T F (2 * i) = shQ T.1 F.2 (nI (2 * i)) F.1 := if_pos ⟨Nat.blt_eq.mp h.2.1, Nat.eq_of_beq_eq_true h.2.2.1⟩
      rw [hn]
      rfl
    | false =>
      have hn : cnN T F (2 * i) = 0 := by
        unfold cnN
        split
        · exact sh_bad hk3 hk hs ho F.1 hF.2
        · rfl
      rw [hn, z0]
      rfl
theorem lc_common (X : lwC p l e s m below meth c b Ln xs) {tx : txP} {g1 g2 : trP} {fn : fnP} {pg : pgP} {t1 t2 : tbP} {A : mA} {P : mP} {T : mT} {F : mF} {G : mG} {S : mS} {W : mW} {th i : Nat} {f : Nat → Int64} {g : Nat → UInt64} {x6 x7 : Option Value} (hI : lwI tx g1 g2 fn pg t1 t2 A T F G W) (h1 : vp_in (nI i + pm_k 1) Ln) (hc : cells + 2 ≤ 600128) (hs : slots + 12 ≤ 7301098) (nx : lwN p l e s m below meth c b D cells slots i) :
    lwJ p l e s m below meth c b D cells slots (1022, lwL i x6 x7, [], lwV (stN tx g1 g2 fn pg t1 t2) (moW A P T F G S W th) f g) := by
  have ht := X.2.2.2.2.2.2.2
  obtain ⟨⟨iA, iT, iC⟩, ⟨iG1, iG2⟩, ⟨iR, iW1, iW2, iW3⟩, ⟨iF, iFI, iSh⟩, iGJ, ⟨iP1, iP2, iP3, iP4, iP5, iP6⟩⟩ := id hI
  have e1 : t1.2.2.1 = T.1 := iR.1.symm
  have e2 : t1.2.2.2 = T.2.1 := iR.2.1.symm
  have hk : t1.2.2.1 ≤ 7 := by rw [e1]; exact iR.2.2.1
  have hcc : t1.2.2.2 ≤ 16 := by rw [e2]; exact iR.2.2.2.1
  have hf2 : fn.2.2 = F.1 := by rw [iF]
  have hl : fn.2.2 < 2 ^ 31 := by have := iFI.1; omega
  refine lb_common X tx g1 g2 fn pg t1 t2 A P T F G S W th i f g x6 x7 h1 (l_common ht tx g1 g2 fn pg t1 t2 f _ (c_common fp_d ht tx g1 g2 fn pg t1 t2 _ hk hl (fun h => by rw [e1]; rw [hf2] at h; exact (iSh h).1) iP6) (fun o w1 h => by rcases h with ⟨_, _, h⟩ | ⟨_, _, _, h⟩ | ⟨_, _, _, h⟩; exact ⟨tx, g1, g2, fn, pg, t1, t2, h⟩; exact ⟨tx, g1, g2, fn, pg, t1, t2, h⟩; exact ⟨tx, g1, g2, fn, _, t1, t2, h⟩) (fun v w1 h => by rcases h with ⟨_, h, _⟩ | ⟨_, _, h, _⟩ | ⟨_, _, h, _⟩ <;> cases h; exact ⟨_, rfl⟩) (fun E w1 h => by rcases h with ⟨_, h, _⟩ | ⟨_, _, h, _⟩ | ⟨_, _, h, _⟩ <;> cases h; exact Or.inl rfl; exact Or.inr rfl)) wrL_nE (by omega) (by omega) ?_
  have hz : ∃ z : Nat × (Nat → Nat) × (Nat → Nat), (¬ F.1 = 0 → okA (FP.fmul (FP.i2f (xs (nI i + pm_k 1).toNatClampNeg)) 1040187392) → (coQ T F (FP.fmul (FP.i2f (xs (nI i + pm_k 1).toNatClampNeg)) 1040187392) zz 64).1 ≤ 8) ∧ (¬ F.1 = 0 → okA (FP.fmul (FP.i2f (xs (nI i + pm_k 1).toNatClampNeg)) 1040187392) → wrA (coQ T F (FP.fmul (FP.i2f (xs (nI i + pm_k 1).toNatClampNeg)) 1040187392) zz 64).2 (coQ T F (FP.fmul (FP.i2f (xs (nI i + pm_k 1).toNatClampNeg)) 1040187392) zz 64).1 T.1 100 zz zz = some z) ∧ (¬ F.1 = 0 → okA (FP.fmul (FP.i2f (xs (nI i + pm_k 1).toNatClampNeg)) 1040187392) → z.1 = (flF (coS fn.2.1 fn.2.2 (FP.fmul (FP.i2f (xs (nI i + pm_k 1).toNatClampNeg)) 1040187392) pg.2.1 128).1 (coS fn.2.1 fn.2.2 (FP.fmul (FP.i2f (xs (nI i + pm_k 1).toNatClampNeg)) 1040187392) pg.2.1 128).2 t1.2.2.1 pg.1.1).2 ∧ z.1 ≤ 24 ∧ ∀ j, j < z.1 → z.2.1 j = (flF (coS fn.2.1 fn.2.2 (FP.fmul (FP.i2f (xs (nI i + pm_k 1).toNatClampNeg)) 1040187392) pg.2.1 128).1 (coS fn.2.1 fn.2.2 (FP.fmul (FP.i2f (xs (nI i + pm_k 1).toNatClampNeg)) 1040187392) pg.2.1 128).2 t1.2.2.1 pg.1.1).1 j) := by
    by_cases h : ¬ F.1 = 0 ∧ okA (FP.fmul (FP.i2f (xs (nI i + pm_k 1).toNatClampNeg)) 1040187392)
    · obtain ⟨k3, hta⟩ := iSh h.1
      obtain ⟨z0, z, z1, z2, z3, z4⟩ := com_all k3 iR.2.2.1 iFI h.1 hta h.2 pg.2.1 pg.1.1
      rw [← hf2, ← e1] at z2 z4
      exact ⟨z, fun _ _ => z0, fun _ _ => z1, fun _ _ => ⟨z2, z3, fun j hj => (z4 j hj).1⟩⟩
    · exact ⟨(0, zz, zz), fun a b => absurd ⟨a, b⟩ h, fun a b => absurd ⟨a, b⟩ h, fun a b => absurd ⟨a, b⟩ h⟩
  obtain ⟨z, z0, zr, zz'⟩ := hz
  have hD := d_common fp_d ht A P T F G S W th (FP.fmul (FP.i2f (xs (nI i + pm_k 1).toNatClampNeg)) 1040187392) iR.2.2.1 iFI iGJ iP4 z z0 zr
  refine wrL_hr (J := fun k cl f' => lwJ p l e s m below meth c b D (cells + 2) (slots + 12) (1037, lwL i x6 x7, [.int (nI k)], lwV cl (moW A P T F G S W th) f' g)) (fun x0 w1 hO => ?_) (fun E w1 hO => ?_)
  · rcases hO with ⟨_, ho, _⟩ | ⟨_, _, ho, _⟩ | ⟨hq, ha, ho, hw⟩
    · cases ho
    · cases ho
    · cases ho
      subst hw
      rw [hf2] at hq
      refine ⟨tx, g1, g2, fn, ((flF (coS fn.2.1 fn.2.2 (FP.fmul (FP.i2f (xs (nI i + pm_k 1).toNatClampNeg)) 1040187392) pg.2.1 128).1 (coS fn.2.1 fn.2.2 (FP.fmul (FP.i2f (xs (nI i + pm_k 1).toNatClampNeg)) 1040187392) pg.2.1 128).2 t1.2.2.1 pg.1.1), (coS fn.2.1 fn.2.2 (FP.fmul (FP.i2f (xs (nI i + pm_k 1).toNatClampNeg)) 1040187392) pg.2.1 128)), t1, t2, rfl, ?_⟩
      obtain ⟨y1, y2, y3⟩ := zz' hq ha
      refine ld_common X tx g1 g2 fn ((flF (coS fn.2.1 fn.2.2 (FP.fmul (FP.i2f (xs (nI i + pm_k 1).toNatClampNeg)) 1040187392) pg.2.1 128).1 (coS fn.2.1 fn.2.2 (FP.fmul (FP.i2f (xs (nI i + pm_k 1).toNatClampNeg)) 1040187392) pg.2.1 128).2 t1.2.2.1 pg.1.1), (coS fn.2.1 fn.2.2 (FP.fmul (FP.i2f (xs (nI i + pm_k 1).toNatClampNeg)) 1040187392) pg.2.1 128)) t1 t2 A P T F G S W th i _ g x6 x7 0 (by decide) h1 hD (fun E w1 h => by rcases h with ⟨_, h, _⟩ | ⟨_, _, h, _⟩ | ⟨_, _, h, _⟩ <;> cases h) (by omega) (by omega) ht (fun v w1 h => ?_)
      rcases h with ⟨hn, _, _⟩ | ⟨_, hn, _, _⟩ | ⟨_, _, h, G', S', W', hG', ⟨w1', w2', w3'⟩, hw⟩
      · exact absurd hn hq
      · exact absurd ha hn
      · cases h
        have w1' : W'.1 = z.1 := w1'
        have w2' : Ag z.1 W'.2.1 z.2.1 := w2'
        have hI' : lwI tx g1 g2 fn ((flF (coS fn.2.1 fn.2.2 (FP.fmul (FP.i2f (xs (nI i + pm_k 1).toNatClampNeg)) 1040187392) pg.2.1 128).1 (coS fn.2.1 fn.2.2 (FP.fmul (FP.i2f (xs (nI i + pm_k 1).toNatClampNeg)) 1040187392) pg.2.1 128).2 t1.2.2.1 pg.1.1), (coS fn.2.1 fn.2.2 (FP.fmul (FP.i2f (xs (nI i + pm_k 1).toNatClampNeg)) 1040187392) pg.2.1 128)) t1 t2 A T F G' W' := ⟨⟨iA, iT, iC⟩, ⟨iG1, iG2⟩, ⟨iR, iW1, iW2, iW3⟩, ⟨iF, iFI, iSh⟩, hG', ⟨by rw [w1', y1], by rw [w1']; exact y2, fun j hj => by rw [w1'] at hj; rw [w2' j hj, y3 j hj], w3', flF_b _ _ _ iP5, (coS_ok iP6 128 (Nat.le_refl _)).1⟩⟩
        refine ⟨_, A, P, T, F, G', S', W', rfl, hw, (fun _ => ?_), nx _ _ _ _ _ _ _ _ _ _ _ _ _ _ _ _ _ _ _ _ _ hI' (by omega) (by omega)⟩
        rw [y1]
        exact if_pos rfl
  · rcases hO with ⟨hq, ho, hw⟩ | ⟨hq, ha, ho, hw⟩ | ⟨_, _, ho, _⟩
    · cases ho
      subst hw
      rw [hf2] at hq
      refine ⟨1, tx, g1, g2, fn, pg, t1, t2, rfl, rfl, ?_⟩
      refine ld_common X tx g1 g2 fn pg t1 t2 A P T F G S W th i _ g x6 x7 1 (by decide) h1 hD (fun E w1 h => by rcases h with ⟨_, h, _⟩ | ⟨_, _, h, _⟩ | ⟨_, _, h, _⟩ <;> cases h) (by omega) (by omega) ht (fun v w1 h => ?_)
      rcases h with ⟨_, h, hw⟩ | ⟨hn, _, _, _⟩ | ⟨hn, _, _, _⟩
      · cases h
        exact ⟨_, A, P, T, F, G, S, W, rfl, hw, (fun h => absurd h (by decide)), nx _ _ _ _ _ _ _ _ _ _ _ _ _ _ _ _ _ _ _ _ _ hI (by omega) (by omega)⟩
      · exact absurd hq hn
      · exact absurd hq hn
    · cases ho
      subst hw
      rw [hf2] at hq
      refine ⟨2, tx, g1, g2, fn, pg, t1, t2, rfl, rfl, ?_⟩
      refine ld_common X tx g1 g2 fn pg t1 t2 A P T F G S W th i _ g x6 x7 2 (by decide) h1 hD (fun E w1 h => by rcases h with ⟨_, h, _⟩ | ⟨_, _, h, _⟩ | ⟨_, _, h, _⟩ <;> cases h) (by omega) (by omega) ht (fun v w1 h => ?_)
      rcases h with ⟨hn, _, _⟩ | ⟨_, _, h, hw⟩ | ⟨_, hn, _, _⟩
      · exact absurd hn hq
      · cases h
        exact ⟨_, A, P, T, F, G, S, W, rfl, hw, (fun h => absurd h (by decide)), nx _ _ _ _ _ _ _ _ _ _ _ _ _ _ _ _ _ _ _ _ _ hI (by omega) (by omega)⟩
      · exact absurd hn ha
    · cases ho
end LWM
