section LWI
variable {p : Program} {l : Launch} {e : Env} {s : State} {m : MethodId} {below : List Frame} {meth : Method} {c : Code} {b Ln : Nat} {xs : Nat → Int32} {D : va_G} {cells slots : Nat}
/-- class and reference agree -/
def lwI (tx : txP) (g1 g2 : trP) (fn : fnP) (pg : pgP) (t1 t2 : tbP) (A : mA) (T : mT) (F : mF) (G : mG) (W : mW) : Prop :=
  (A = (tx.1, tx.2.1) ∧ tx.2.1 ≤ 160 ∧ Ch tx.1) ∧ (TI g1 ∧ TI g2) ∧ (TbR t1 T ∧ Bd t1.2.1 ∧ Bd T.2.2.2 ∧ Bd t2.2.1) ∧
  (F = (fn.2.2, fn.1) ∧ FI T F ∧ (¬ F.1 = 0 → 3 ≤ T.1 ∧ ∀ v, v < 128 → fn.2.1 v = shQ T.1 F.2 (nI v) F.1)) ∧ GJ G ∧
  (W.1 = pg.1.2 ∧ W.1 ≤ 24 ∧ (∀ j, j < W.1 → W.2.1 j = pg.1.1 j) ∧ (∃ op, W.2.2 = nA op) ∧ (∀ j, pg.1.1 j < 65536) ∧ Bd pg.2.1)
def lwN (p : Program) (l : Launch) (e : Env) (s : State) (m : MethodId) (below : List Frame) (meth : Method) (c : Code) (b : Nat) (D : va_G) (cells slots i : Nat) : Prop :=
  ∀ (tx : txP) (g1 g2 : trP) (fn : fnP) (pg : pgP) (t1 t2 : tbP) (A : mA) (P : mP) (T : mT) (F : mF) (G : mG) (S : mS) (W : mW) (th : Nat) (f : Nat → Int64) (g : Nat → UInt64) (x6 x7 : Option Value) (cells' slots' : Nat), lwI tx g1 g2 fn pg t1 t2 A T F G W → cells' ≤ cells + 2 → slots' ≤ slots + 12 →
    lwJ p l e s m below meth c b D cells' slots' (1111, lwL i x6 x7, [], lwV (stN tx g1 g2 fn pg t1 t2) (moW A P T F G S W th) f g)
theorem tbI_of {t : tbP} {T : mT} (h : TbR t T) : TbI T := ⟨h.2.2.1, h.2.2.2.1, fun a c ha hc => by rw [(h.2.2.2.2.1 a c ha hc).1]; exact lane_lt _ _⟩
theorem ndOk_of {t : tbP} {T : mT} (h : TbR t T) : NdOk T := by
  by_cases hk : 3 ≤ T.1
  · exact nd_ok h hk
  · intro x hx
    have := tc_3 hx
    omega
theorem wrL_nE {O' : pm_O → List pm_E → Prop} {f : Nat → Int64} {kE : String → Int32} : ∀ E w1, ¬ wrL O' f kE (.inr E) w1 := by
  rintro E w1 (⟨_, _, _, h, _⟩ | ⟨_, _, _, h, _⟩) <;> cases h
theorem wrZ_nE {O' : pm_O → List pm_E → Prop} {f : Nat → Int64} {kE : String → Int32} : ∀ E w1, ¬ wrZ O' f kE (.inr E) w1 := by
  rintro E w1 (⟨_, _, _, h, _⟩ | ⟨_, _, _, h, _⟩) <;> cases h
theorem wrD_nE {O' : pm_O → List pm_E → Prop} {f : Nat → UInt64} {kE : String → Int32} : ∀ E w1, ¬ wrD O' f kE (.inr E) w1 := by
  rintro E w1 (⟨_, _, _, h, _⟩ | ⟨_, _, _, h, _⟩) <;> cases h
theorem wrL_hr {O' : pm_O → List pm_E → Prop} {f : Nat → Int64} {kE : String → Int32} {J : Nat → List pm_E → (Nat → Int64) → Prop}
    (h1 : ∀ x0 w1, O' (.inl (some (.int x0))) w1 → ∃ tx' g1' g2' fn' pg' t1' t2', w1 = stN tx' g1' g2' fn' pg' t1' t2' ∧ J 0 w1 (vp_updL f 0 x0.toInt64))
    (h2 : ∀ E w1, O' (.inr E) w1 → ∃ k tx' g1' g2' fn' pg' t1' t2', kE E = nI k ∧ w1 = stN tx' g1' g2' fn' pg' t1' t2' ∧ J k w1 f) :
    ∀ v w1, wrL O' f kE (.inl v) w1 → ∃ (k : Nat) (tx' : txP) (g1' g2' : trP) (fn' : fnP) (pg' : pgP) (t1' t2' : tbP) (f' : Nat → Int64), v = some (.int (nI k)) ∧ w1 = stN tx' g1' g2' fn' pg' t1' t2' ++ [loA f'] ∧ J k (stN tx' g1' g2' fn' pg' t1' t2') f' := by
  rintro v w1 (⟨x0, w2, hO, ho, hw⟩ | ⟨E, w2, hO, ho, hw⟩)
  · cases ho
    obtain ⟨tx', g1', g2', fn', pg', t1', t2', rfl, hJ⟩ := h1 x0 w2 hO
    exact ⟨0, tx', g1', g2', fn', pg', t1', t2', _, rfl, hw, hJ⟩
  · obtain ⟨k, tx', g1', g2', fn', pg', t1', t2', hk, rfl, hJ⟩ := h2 E w2 hO
    rw [hk] at ho
    cases ho
    exact ⟨k, tx', g1', g2', fn', pg', t1', t2', _, rfl, hw, hJ⟩
theorem wrZ_hr {O' : pm_O → List pm_E → Prop} {f : Nat → Int64} {kE : String → Int32} {J : Nat → List pm_E → (Nat → Int64) → Prop}
    (h1 : ∀ x0 w1, O' (.inl (some (.int x0))) w1 → ∃ tx' g1' g2' fn' pg' t1' t2', w1 = stN tx' g1' g2' fn' pg' t1' t2' ∧ J 0 w1 (vp_updL f 0 (if x0 = 0 then lN 0 else lN 1)))
    (h2 : ∀ E w1, O' (.inr E) w1 → ∃ k tx' g1' g2' fn' pg' t1' t2', kE E = nI k ∧ w1 = stN tx' g1' g2' fn' pg' t1' t2' ∧ J k w1 f) :
    ∀ v w1, wrZ O' f kE (.inl v) w1 → ∃ (k : Nat) (tx' : txP) (g1' g2' : trP) (fn' : fnP) (pg' : pgP) (t1' t2' : tbP) (f' : Nat → Int64), v = some (.int (nI k)) ∧ w1 = stN tx' g1' g2' fn' pg' t1' t2' ++ [loA f'] ∧ J k (stN tx' g1' g2' fn' pg' t1' t2') f' := by
  rintro v w1 (⟨x0, w2, hO, ho, hw⟩ | ⟨E, w2, hO, ho, hw⟩)
  · cases ho
    obtain ⟨tx', g1', g2', fn', pg', t1', t2', rfl, hJ⟩ := h1 x0 w2 hO
    exact ⟨0, tx', g1', g2', fn', pg', t1', t2', _, rfl, hw, hJ⟩
  · obtain ⟨k, tx', g1', g2', fn', pg', t1', t2', hk, rfl, hJ⟩ := h2 E w2 hO
    rw [hk] at ho
    cases ho
    exact ⟨k, tx', g1', g2', fn', pg', t1', t2', _, rfl, hw, hJ⟩
theorem wrD_hr {O' : pm_O → List pm_E → Prop} {f : Nat → UInt64} {kE : String → Int32} {J : Nat → List pm_E → (Nat → UInt64) → Prop}
    (h1 : ∀ x0 w1, O' (.inl (some (.float x0))) w1 → ∃ tx' g1' g2' fn' pg' t1' t2', w1 = stN tx' g1' g2' fn' pg' t1' t2' ∧ J 0 w1 (vf_upd f 0 (FP.f2d x0)))
    (h2 : ∀ E w1, O' (.inr E) w1 → ∃ k tx' g1' g2' fn' pg' t1' t2', kE E = nI k ∧ w1 = stN tx' g1' g2' fn' pg' t1' t2' ∧ J k w1 f) :
    ∀ v w1, wrD O' f kE (.inl v) w1 → ∃ (k : Nat) (tx' : txP) (g1' g2' : trP) (fn' : fnP) (pg' : pgP) (t1' t2' : tbP) (f' : Nat → UInt64), v = some (.int (nI k)) ∧ w1 = stN tx' g1' g2' fn' pg' t1' t2' ++ [dbA f'] ∧ J k (stN tx' g1' g2' fn' pg' t1' t2') f' := by
  rintro v w1 (⟨x0, w2, hO, ho, hw⟩ | ⟨E, w2, hO, ho, hw⟩)
  · cases ho
    obtain ⟨tx', g1', g2', fn', pg', t1', t2', rfl, hJ⟩ := h1 x0 w2 hO
    exact ⟨0, tx', g1', g2', fn', pg', t1', t2', _, rfl, hw, hJ⟩
  · obtain ⟨k, tx', g1', g2', fn', pg', t1', t2', hk, rfl, hJ⟩ := h2 E w2 hO
    rw [hk] at ho
    cases ho
    exact ⟨k, tx', g1', g2', fn', pg', t1', t2', _, rfl, hw, hJ⟩
theorem okC_lt {n : Nat} {x : Int32} (hn : n < 2 ^ 31) (h : okC n x) : x.toNatClampNeg < n ∧ nI x.toNatClampNeg = x := by
  obtain ⟨h1, h2⟩ := h
  have e : nI x.toNatClampNeg = x := by
    apply Int32.toInt_inj.mp
    have hx : (0 : Int) ≤ x.toInt := by have := Int32.le_iff_toInt_le.mp h1; simpa using this
    have hb := x.toInt_le
    have h5 : Int32.maxValue.toInt = 2147483647 := by decide
    have e1 : x.toNatClampNeg = x.toInt.toNat := rfl
    rw [nI_toInt (by rw [e1]; omega), e1]
    omega
  refine ⟨?_, e⟩
  have h3 : nI x.toNatClampNeg < nI n := by rw [e]; exact h2
  have hc : x.toNatClampNeg < 2 ^ 31 := by
    have hb := x.toInt_le
    have h5 : Int32.maxValue.toInt = 2147483647 := by decide
    have e1 : x.toNatClampNeg = x.toInt.toNat := rfl
    rw [e1]; omega
  rw [Int32.lt_iff_toInt_lt, nI_toInt hn, nI_toInt hc] at h3
  omega
theorem nar_c (x : Int32) : ∃ v, v < 65536 ∧ vp_nar .char x = nI v := by
  refine ⟨x.toBitVec.toNat % 65536, Nat.mod_lt _ (by decide), ?_⟩
  apply Int32.toBitVec_inj.1
  apply BitVec.eq_of_toNat_eq
  show ((x.toBitVec.setWidth 16).setWidth 32).toNat = (BitVec.ofNat 32 (x.toBitVec.toNat % 65536)).toNat
  rw [BitVec.toNat_setWidth, BitVec.toNat_setWidth, BitVec.toNat_ofNat]
theorem gaS_ext {f f' nu : Nat → Nat} : ∀ n, (∀ i, i < n → f i = f' i) → gaS f nu n = gaS f' nu n
  | 0, _ => rfl
  | n + 1, h => by rw [gaS, gaS, gaS_ext n (fun i hi => h i (by omega)), h n (by omega)]
theorem tc_0 {k : Nat} (hk : k ≤ 7) : tcount k = 0 ↔ k < 3 := by
  have : ∀ k, k < 8 → (tcount k = 0 ↔ k < 3) := by decide +kernel
  exact this k (by omega)
theorem lc_states (X : lwC p l e s m below meth c b Ln xs) {tx : txP} {g1 g2 : trP} {fn : fnP} {pg : pgP} {t1 t2 : tbP} {A : mA} {P : mP} {T : mT} {F : mF} {G : mG} {S : mS} {W : mW} {th i : Nat} {f : Nat → Int64} {g : Nat → UInt64} {x6 x7 : Option Value} (hI : lwI tx g1 g2 fn pg t1 t2 A T F G W) (h1 : vp_in (nI i + pm_k 1) Ln) (h2 : vp_in (nI i + pm_k 2) Ln) (hc : cells + 2 ≤ 600128) (hs : slots + 12 ≤ 7301098) (nx : lwN p l e s m below meth c b D cells slots i) :
    lwJ p l e s m below meth c b D cells slots (203, lwL i x6 x7, [], lwV (stN tx g1 g2 fn pg t1 t2) (moW A P T F G S W th) f g) := by
  have ht := X.2.2.2.2.2.2.2
  obtain ⟨⟨iA, iT, iC⟩, ⟨iG1, iG2⟩, ⟨iR, iW1, iW2, iW3⟩, ⟨iF, iFI, iSh⟩, iGJ, ⟨iP1, iP2, iP3, iP4, iP5, iP6⟩⟩ := id hI
  have e1 : t1.2.2.1 = T.1 := iR.1.symm
  have e2 : t1.2.2.2 = T.2.1 := iR.2.1.symm
  have hk : t1.2.2.1 ≤ 7 := by rw [e1]; exact iR.2.2.1
  have hcc : t1.2.2.2 ≤ 16 := by rw [e2]; exact iR.2.2.2.1
  refine lb_states X tx g1 g2 fn pg t1 t2 A P T F G S W th i f g x6 x7 h1 h2 (l_states ht tx g1 g2 fn pg t1 t2 f _ _ (c_states ht tx g1 g2 fn pg t1 t2 _ _ hk hcc) (fun o w1 h => ⟨tx, g1, g2, fn, pg, t1, t2, h.1⟩) (fun v w1 h => by rcases h.2 with ⟨_, h⟩ | ⟨_, h⟩ <;> cases h; exact ⟨_, rfl⟩) (fun E w1 h => by rcases h.2 with ⟨_, h⟩ | ⟨_, h⟩ <;> cases h; rfl)) wrL_nE (by omega) (by omega) ?_
  have hD := d_states ht A P T F G S W th (xs (nI i + pm_k 1).toNatClampNeg) (xs (nI i + pm_k 2).toNatClampNeg) iR.2.2.1 iR.2.2.2.1
  refine wrL_hr (J := fun k cl f' => lwJ p l e s m below meth c b D (cells + 1) (slots + 6) (220, lwL i x6 x7, [.int (nI k)], lwV cl (moW A P T F G S W th) f' g)) (fun x0 w1 hO => ?_) (fun E w1 hO => ?_)
  · obtain ⟨hw, hO⟩ := hO
    subst hw
    refine ⟨tx, g1, g2, fn, pg, t1, t2, rfl, ?_⟩
    rcases hO with ⟨hq, ho⟩ | ⟨_, ho⟩
    · cases ho
      rw [e1, e2] at hq
      refine ld_states X tx g1 g2 fn pg t1 t2 A P T F G S W th i _ g x6 x7 0 (by decide) h1 h2 hD (fun E w1 h => by rcases h with ⟨_, h, _⟩ | ⟨_, h, _⟩ <;> cases h) (by omega) (by omega) ht (fun v w1 h => ?_)
      rcases h with ⟨_, h, hw⟩ | ⟨hq2, _, _⟩
      · cases h
        refine ⟨_, A, P, T, F, G, S, W, rfl, hw, fun _ => ?_, nx _ _ _ _ _ _ _ _ _ _ _ _ _ _ _ _ _ _ _ _ _ hI (by omega) (by omega)⟩
        have q1 := okC_lt (by have := iR.2.2.1; omega) hq.1
        have q2 := okC_lt (by have := iR.2.2.2.1; omega) hq.2
        rw [(iR.2.2.2.2.1 _ _ q1.1 q2.1).1]
        exact if_pos rfl
      · exact absurd hq hq2
    · cases ho
  · obtain ⟨hw, hO⟩ := hO
    subst hw
    rcases hO with ⟨_, ho⟩ | ⟨hq, ho⟩
    · cases ho
    · cases ho
      rw [e1, e2] at hq
      refine ⟨1, tx, g1, g2, fn, pg, t1, t2, rfl, rfl, ?_⟩
      refine ld_states X tx g1 g2 fn pg t1 t2 A P T F G S W th i _ g x6 x7 1 (by decide) h1 h2 hD (fun E w1 h => by rcases h with ⟨_, h, _⟩ | ⟨_, h, _⟩ <;> cases h) (by omega) (by omega) ht (fun v w1 h => ?_)
      rcases h with ⟨hq2, _, _⟩ | ⟨_, h, hw⟩
      · exact absurd hq2 hq
      · cases h
        exact ⟨_, A, P, T, F, G, S, W, rfl, hw, (fun h => absurd h (by decide)), nx _ _ _ _ _ _ _ _ _ _ _ _ _ _ _ _ _ _ _ _ _ hI (by omega) (by omega)⟩
theorem lc_best (X : lwC p l e s m below meth c b Ln xs) {tx : txP} {g1 g2 : trP} {fn : fnP} {pg : pgP} {t1 t2 : tbP} {A : mA} {P : mP} {T : mT} {F : mF} {G : mG} {S : mS} {W : mW} {th i : Nat} {f : Nat → Int64} {g : Nat → UInt64} {x6 x7 : Option Value} (hI : lwI tx g1 g2 fn pg t1 t2 A T F G W) (h1 : vp_in (nI i + pm_k 1) Ln) (hc : cells + 2 ≤ 600128) (hs : slots + 12 ≤ 7301098) (nx : lwN p l e s m below meth c b D cells slots i) :
    lwJ p l e s m below meth c b D cells slots (533, lwL i x6 x7, [], lwV (stN tx g1 g2 fn pg t1 t2) (moW A P T F G S W th) f g) := by
  have ht := X.2.2.2.2.2.2.2
  obtain ⟨⟨iA, iT, iC⟩, ⟨iG1, iG2⟩, ⟨iR, iW1, iW2, iW3⟩, ⟨iF, iFI, iSh⟩, iGJ, ⟨iP1, iP2, iP3, iP4, iP5, iP6⟩⟩ := id hI
  have e1 : t1.2.2.1 = T.1 := iR.1.symm
  have e2 : t1.2.2.2 = T.2.1 := iR.2.1.symm
  have hk : t1.2.2.1 ≤ 7 := by rw [e1]; exact iR.2.2.1
  have hcc : t1.2.2.2 ≤ 16 := by rw [e2]; exact iR.2.2.2.1
  have hf2 : fn.2.2 = F.1 := by rw [iF]
  have hf1 : fn.1 = F.2 := by rw [iF]
  refine lb_best X tx g1 g2 fn pg t1 t2 A P T F G S W th i f g x6 x7 h1 (l_best ht tx g1 g2 fn pg t1 t2 f _ (c_best ht tx g1 g2 fn pg t1 t2 _ (by rw [hf2]; exact iFI.1)) (fun o w1 h => ⟨tx, g1, g2, fn, pg, t1, t2, h.1⟩) (fun v w1 h => by rcases h.2 with ⟨_, h⟩ | ⟨_, h⟩ <;> cases h; exact ⟨_, rfl⟩) (fun E w1 h => by rcases h.2 with ⟨_, h⟩ | ⟨_, h⟩ <;> cases h; rfl)) wrL_nE (by omega) (by omega) ?_
  have hD := d_best ht A P T F G S W th (xs (nI i + pm_k 1).toNatClampNeg) iFI.1
  refine wrL_hr (J := fun k cl f' => lwJ p l e s m below meth c b D (cells + 1) (slots + 6) (544, lwL i x6 x7, [.int (nI k)], lwV cl (moW A P T F G S W th) f' g)) (fun x0 w1 hO => ?_) (fun E w1 hO => ?_)
  · obtain ⟨hw, hO⟩ := hO
    subst hw
    refine ⟨tx, g1, g2, fn, pg, t1, t2, rfl, ?_⟩
    rcases hO with ⟨hq, ho⟩ | ⟨_, ho⟩
    · cases ho
      rw [hf2] at hq
      refine ld_best X tx g1 g2 fn pg t1 t2 A P T F G S W th i _ g x6 x7 0 (by decide) h1 hD (fun E w1 h => by rcases h with ⟨_, h, _⟩ | ⟨_, h, _⟩ <;> cases h) (by omega) (by omega) ht (fun v w1 h => ?_)
      rcases h with ⟨_, h, hw⟩ | ⟨hq2, _, _⟩
      · cases h
        refine ⟨_, A, P, T, F, G, S, W, rfl, hw, fun _ => ?_, nx _ _ _ _ _ _ _ _ _ _ _ _ _ _ _ _ _ _ _ _ _ hI (by omega) (by omega)⟩
        rw [← hf1]
        exact if_pos rfl
      · exact absurd hq hq2
    · cases ho
  · obtain ⟨hw, hO⟩ := hO
    subst hw
    rcases hO with ⟨_, ho⟩ | ⟨hq, ho⟩
    · cases ho
    · cases ho
      rw [hf2] at hq
      refine ⟨1, tx, g1, g2, fn, pg, t1, t2, rfl, rfl, ?_⟩
      refine ld_best X tx g1 g2 fn pg t1 t2 A P T F G S W th i _ g x6 x7 1 (by decide) h1 hD (fun E w1 h => by rcases h with ⟨_, h, _⟩ | ⟨_, h, _⟩ <;> cases h) (by omega) (by omega) ht (fun v w1 h => ?_)
      rcases h with ⟨hq2, _, _⟩ | ⟨_, h, hw⟩
      · exact absurd hq2 hq
      · cases h
        exact ⟨_, A, P, T, F, G, S, W, rfl, hw, (fun h => absurd h (by decide)), nx _ _ _ _ _ _ _ _ _ _ _ _ _ _ _ _ _ _ _ _ _ hI (by omega) (by omega)⟩
theorem lc_changes (X : lwC p l e s m below meth c b Ln xs) {tx : txP} {g1 g2 : trP} {fn : fnP} {pg : pgP} {t1 t2 : tbP} {A : mA} {P : mP} {T : mT} {F : mF} {G : mG} {S : mS} {W : mW} {th i : Nat} {f : Nat → Int64} {g : Nat → UInt64} {x6 x7 : Option Value} (hI : lwI tx g1 g2 fn pg t1 t2 A T F G W) (h1 : vp_in (nI i + pm_k 1) Ln) (h2 : vp_in (nI i + pm_k 2) Ln) (hc : cells + 2 ≤ 600128) (hs : slots + 12 ≤ 7301098) (nx : lwN p l e s m below meth c b D cells slots i) :
    lwJ p l e s m below meth c b D cells slots (352, lwL i x6 x7, [], lwV (stN tx g1 g2 fn pg t1 t2) (moW A P T F G S W th) f g) := by
  have ht := X.2.2.2.2.2.2.2
  obtain ⟨⟨iA, iT, iC⟩, ⟨iG1, iG2⟩, ⟨iR, iW1, iW2, iW3⟩, ⟨iF, iFI, iSh⟩, iGJ, ⟨iP1, iP2, iP3, iP4, iP5, iP6⟩⟩ := id hI
  have e1 : t1.2.2.1 = T.1 := iR.1.symm
  have e2 : t1.2.2.2 = T.2.1 := iR.2.1.symm
  have hk : t1.2.2.1 ≤ 7 := by rw [e1]; exact iR.2.2.1
  have hcc : t1.2.2.2 ≤ 16 := by rw [e2]; exact iR.2.2.2.1
  have hT := tbI_of iR
  have hN := ndOk_of iR
  refine lb_changes X tx g1 g2 fn pg t1 t2 A P T F G S W th i f g x6 x7 h1 h2 (l_changes ht tx g1 g2 fn pg t1 t2 f _ _ (c_changes ht tx g1 g2 fn pg t1 t2 _ _ hk hcc iG1) (fun o w1 h => by rcases h with ⟨_, _, h⟩ | ⟨_, _, g1', _, h⟩; exact ⟨tx, g1, g2, fn, pg, t1, t2, h⟩; exact ⟨tx, g1', g2, fn, pg, t1, t2, h⟩) (fun v w1 h => by rcases h with ⟨_, h, _⟩ | ⟨_, h, _⟩ <;> cases h; exact ⟨_, rfl⟩) (fun E w1 h => by rcases h with ⟨_, h, _⟩ | ⟨_, h, _⟩ <;> cases h; rfl)) wrL_nE (by omega) (by omega) ?_
  have hD := d_changes ht A P T F G S W th (xs (nI i + pm_k 1).toNatClampNeg) (xs (nI i + pm_k 2).toNatClampNeg) hT hN iGJ
  refine wrL_hr (J := fun k cl f' => lwJ p l e s m below meth c b D (cells + 2) (slots + 12) (369, lwL i x6 x7, [.int (nI k)], lwV cl (moW A P T F G S W th) f' g)) (fun x0 w1 hO => ?_) (fun E w1 hO => ?_)
  · rcases hO with ⟨_, ho, _⟩ | ⟨hq, ho, g1', iG1', hw⟩
    · cases ho
    · cases ho
      subst hw
      refine ⟨tx, g1', g2, fn, pg, t1, t2, rfl, ?_⟩
      rw [e1, e2] at hq
      refine ld_changes X tx g1' g2 fn pg t1 t2 A P T F G S W th i _ g x6 x7 0 (by decide) h1 h2 hD (fun E w1 h => by rcases h with ⟨_, h, _⟩ | ⟨_, h, _⟩ <;> cases h) (by omega) (by omega) ht (fun v w1 h => ?_)
      rcases h with ⟨_, h, G', S', hG', hw⟩ | ⟨hq2, _, _⟩
      · cases h
        have hI' : lwI tx g1' g2 fn pg t1 t2 A T F G' W := ⟨⟨iA, iT, iC⟩, ⟨iG1', iG2⟩, ⟨iR, iW1, iW2, iW3⟩, ⟨iF, iFI, iSh⟩, hG', ⟨iP1, iP2, iP3, iP4, iP5, iP6⟩⟩
        refine ⟨_, A, P, T, F, G', S', W, rfl, hw, fun _ => ?_, nx _ _ _ _ _ _ _ _ _ _ _ _ _ _ _ _ _ _ _ _ _ hI' (by omega) (by omega)⟩
        have q1 := okC_lt (by have := tc_lt iR.2.2.1; omega) hq.1
        have q2 := okC_lt (by have := iR.2.2.2.1; omega) hq.2
        rw [nd_eq iR (tc_3 q1.1) q1.1 q2.1, ← e1]
        exact if_pos rfl
      · exact absurd hq hq2
  · rcases hO with ⟨hq, ho, hw⟩ | ⟨_, ho, _⟩
    · cases ho
      subst hw
      rw [e1, e2] at hq
      refine ⟨1, tx, g1, g2, fn, pg, t1, t2, rfl, rfl, ?_⟩
      refine ld_changes X tx g1 g2 fn pg t1 t2 A P T F G S W th i _ g x6 x7 1 (by decide) h1 h2 hD (fun E w1 h => by rcases h with ⟨_, h, _⟩ | ⟨_, h, _⟩ <;> cases h) (by omega) (by omega) ht (fun v w1 h => ?_)
      rcases h with ⟨hq2, _, _⟩ | ⟨_, h, hw⟩
      · exact absurd hq2 hq
      · cases h
        exact ⟨_, A, P, T, F, G, S, W, rfl, hw, (fun h => absurd h (by decide)), nx _ _ _ _ _ _ _ _ _ _ _ _ _ _ _ _ _ _ _ _ _ hI (by omega) (by omega)⟩
    · cases ho
theorem lc_length (X : lwC p l e s m below meth c b Ln xs) {tx : txP} {g1 g2 : trP} {fn : fnP} {pg : pgP} {t1 t2 : tbP} {A : mA} {P : mP} {T : mT} {F : mF} {G : mG} {S : mS} {W : mW} {th i : Nat} {f : Nat → Int64} {g : Nat → UInt64} {x6 x7 : Option Value} (hI : lwI tx g1 g2 fn pg t1 t2 A T F G W) (h1 : vp_in (nI i + pm_k 1) Ln) (hc : cells + 2 ≤ 600128) (hs : slots + 12 ≤ 7301098) (nx : lwN p l e s m below meth c b D cells slots i) :
    lwJ p l e s m below meth c b D cells slots (420, lwL i x6 x7, [], lwV (stN tx g1 g2 fn pg t1 t2) (moW A P T F G S W th) f g) := by
  have ht := X.2.2.2.2.2.2.2
  obtain ⟨⟨iA, iT, iC⟩, ⟨iG1, iG2⟩, ⟨iR, iW1, iW2, iW3⟩, ⟨iF, iFI, iSh⟩, iGJ, ⟨iP1, iP2, iP3, iP4, iP5, iP6⟩⟩ := id hI
  have e1 : t1.2.2.1 = T.1 := iR.1.symm
  have e2 : t1.2.2.2 = T.2.1 := iR.2.1.symm
  have hk : t1.2.2.1 ≤ 7 := by rw [e1]; exact iR.2.2.1
  have hcc : t1.2.2.2 ≤ 16 := by rw [e2]; exact iR.2.2.2.1
  have hT := tbI_of iR
  have hN := ndOk_of iR
  refine lb_length X tx g1 g2 fn pg t1 t2 A P T F G S W th i f g x6 x7 h1 (l_length ht tx g1 g2 fn pg t1 t2 f _ (c_length ht tx g1 g2 fn pg t1 t2 _ hk hcc iG1) (fun o w1 h => by rcases h with ⟨_, _, h⟩ | ⟨_, _, g1', _, h⟩; exact ⟨tx, g1, g2, fn, pg, t1, t2, h⟩; exact ⟨tx, g1', g2, fn, pg, t1, t2, h⟩) (fun v w1 h => by rcases h with ⟨_, h, _⟩ | ⟨_, h, _⟩ <;> cases h; exact ⟨_, rfl⟩) (fun E w1 h => by rcases h with ⟨_, h, _⟩ | ⟨_, h, _⟩ <;> cases h; rfl)) wrL_nE (by omega) (by omega) ?_
  have hD := d_length ht A P T F G S W th (xs (nI i + pm_k 1).toNatClampNeg) hT hN iGJ
  refine wrL_hr (J := fun k cl f' => lwJ p l e s m below meth c b D (cells + 1) (slots + 6) (431, lwL i x6 x7, [.int (nI k)], lwV cl (moW A P T F G S W th) f' g)) (fun x0 w1 hO => ?_) (fun E w1 hO => ?_)
  · rcases hO with ⟨_, ho, _⟩ | ⟨hq, ho, g1', iG1', hw⟩
    · cases ho
    · cases ho
      subst hw
      refine ⟨tx, g1', g2, fn, pg, t1, t2, rfl, ?_⟩
      rw [e1] at hq
      refine ld_length X tx g1' g2 fn pg t1 t2 A P T F G S W th i _ g x6 x7 0 (by decide) h1 hD (fun E w1 h => by rcases h with ⟨_, h, _⟩ | ⟨_, h, _⟩ <;> cases h) (by omega) (by omega) ht (fun v w1 h => ?_)
      rcases h with ⟨_, h, G', S', hG', hw⟩ | ⟨hq2, _, _⟩
      · cases h
        have hI' : lwI tx g1' g2 fn pg t1 t2 A T F G' W := ⟨⟨iA, iT, iC⟩, ⟨iG1', iG2⟩, ⟨iR, iW1, iW2, iW3⟩, ⟨iF, iFI, iSh⟩, hG', ⟨iP1, iP2, iP3, iP4, iP5, iP6⟩⟩
        refine ⟨_, A, P, T, F, G', S', W, rfl, hw, fun _ => ?_, nx _ _ _ _ _ _ _ _ _ _ _ _ _ _ _ _ _ _ _ _ _ hI' (by omega) (by omega)⟩
        have q1 := okC_lt (by have := tc_lt iR.2.2.1; omega) hq
        rw [ln_eq iR (tc_3 q1.1) q1.1]
        exact if_pos rfl
      · exact absurd hq hq2
  · rcases hO with ⟨hq, ho, hw⟩ | ⟨_, ho, _⟩
    · cases ho
      subst hw
      rw [e1] at hq
      refine ⟨1, tx, g1, g2, fn, pg, t1, t2, rfl, rfl, ?_⟩
      refine ld_length X tx g1 g2 fn pg t1 t2 A P T F G S W th i _ g x6 x7 1 (by decide) h1 hD (fun E w1 h => by rcases h with ⟨_, h, _⟩ | ⟨_, h, _⟩ <;> cases h) (by omega) (by omega) ht (fun v w1 h => ?_)
      rcases h with ⟨hq2, _, _⟩ | ⟨_, h, hw⟩
      · exact absurd hq2 hq
      · cases h
        exact ⟨_, A, P, T, F, G, S, W, rfl, hw, (fun h => absurd h (by decide)), nx _ _ _ _ _ _ _ _ _ _ _ _ _ _ _ _ _ _ _ _ _ hI (by omega) (by omega)⟩
    · cases ho
theorem lc_split (X : lwC p l e s m below meth c b Ln xs) {tx : txP} {g1 g2 : trP} {fn : fnP} {pg : pgP} {t1 t2 : tbP} {A : mA} {P : mP} {T : mT} {F : mF} {G : mG} {S : mS} {W : mW} {th i : Nat} {f : Nat → Int64} {g : Nat → UInt64} {x6 x7 : Option Value} (hI : lwI tx g1 g2 fn pg t1 t2 A T F G W) (h1 : vp_in (nI i + pm_k 1) Ln) (h2 : vp_in (nI i + pm_k 2) Ln) (hc : cells + 2 ≤ 600128) (hs : slots + 12 ≤ 7301098) (nx : lwN p l e s m below meth c b D cells slots i) :
    lwJ p l e s m below meth c b D cells slots (589, lwL i x6 x7, [], lwV (stN tx g1 g2 fn pg t1 t2) (moW A P T F G S W th) f g) := by
  have ht := X.2.2.2.2.2.2.2
  obtain ⟨⟨iA, iT, iC⟩, ⟨iG1, iG2⟩, ⟨iR, iW1, iW2, iW3⟩, ⟨iF, iFI, iSh⟩, iGJ, ⟨iP1, iP2, iP3, iP4, iP5, iP6⟩⟩ := id hI
  have e1 : t1.2.2.1 = T.1 := iR.1.symm
  have e2 : t1.2.2.2 = T.2.1 := iR.2.1.symm
  have hk : t1.2.2.1 ≤ 7 := by rw [e1]; exact iR.2.2.1
  have hcc : t1.2.2.2 ≤ 16 := by rw [e2]; exact iR.2.2.2.1
  have hT := tbI_of iR
  have hN := ndOk_of iR
  refine lb_split X tx g1 g2 fn pg t1 t2 A P T F G S W th i f g x6 x7 h1 h2 (l_split ht tx g1 g2 fn pg t1 t2 f _ _ (c_split ht tx g1 g2 fn pg t1 t2 _ _ hk iG1) (fun o w1 h => by rcases h with ⟨_, _, h⟩ | ⟨_, _, g1', _, h⟩; exact ⟨tx, g1, g2, fn, pg, t1, t2, h⟩; exact ⟨tx, g1', g2, fn, pg, t1, t2, h⟩) (fun v w1 h => by rcases h with ⟨_, h, _⟩ | ⟨_, h, _⟩ <;> cases h; exact ⟨_, rfl⟩) (fun E w1 h => by rcases h with ⟨_, h, _⟩ | ⟨_, h, _⟩ <;> cases h; rfl)) wrZ_nE (by omega) (by omega) ?_
  have hD := d_split ht A P T F G S W th (xs (nI i + pm_k 1).toNatClampNeg) (xs (nI i + pm_k 2).toNatClampNeg) iR.2.2.1 iGJ
  refine wrZ_hr (J := fun k cl f' => lwJ p l e s m below meth c b D (cells + 1) (slots + 6) (606, lwL i x6 x7, [.int (nI k)], lwV cl (moW A P T F G S W th) f' g)) (fun x0 w1 hO => ?_) (fun E w1 hO => ?_)
  · rcases hO with ⟨_, ho, _⟩ | ⟨hq, ho, g1', iG1', hw⟩
    · cases ho
    · cases ho
      subst hw
      refine ⟨tx, g1', g2, fn, pg, t1, t2, rfl, ?_⟩
      rw [e1] at hq
      refine ld_split X tx g1' g2 fn pg t1 t2 A P T F G S W th i _ g x6 x7 0 (by decide) h1 h2 hD (fun E w1 h => by rcases h with ⟨_, h, _⟩ | ⟨_, h, _⟩ <;> cases h) (by omega) (by omega) ht (fun v w1 h => ?_)
      rcases h with ⟨_, h, G', S', hG', hw⟩ | ⟨hq2, _, _⟩
      · cases h
        have hI' : lwI tx g1' g2 fn pg t1 t2 A T F G' W := ⟨⟨iA, iT, iC⟩, ⟨iG1', iG2⟩, ⟨iR, iW1, iW2, iW3⟩, ⟨iF, iFI, iSh⟩, hG', ⟨iP1, iP2, iP3, iP4, iP5, iP6⟩⟩
        refine ⟨_, A, P, T, F, G', S', W, rfl, hw, fun _ => ?_, nx _ _ _ _ _ _ _ _ _ _ _ _ _ _ _ _ _ _ _ _ _ hI' (by omega) (by omega)⟩
        have q1 := okC_lt (by have := tc_lt iR.2.2.1; omega) hq
        rw [← has_eq (tc_3 q1.1) iR.2.2.1 q1.1, ← e1]
        exact if_pos rfl
      · exact absurd hq hq2
  · rcases hO with ⟨hq, ho, hw⟩ | ⟨_, ho, _⟩
    · cases ho
      subst hw
      rw [e1] at hq
      refine ⟨1, tx, g1, g2, fn, pg, t1, t2, rfl, rfl, ?_⟩
      refine ld_split X tx g1 g2 fn pg t1 t2 A P T F G S W th i _ g x6 x7 1 (by decide) h1 h2 hD (fun E w1 h => by rcases h with ⟨_, h, _⟩ | ⟨_, h, _⟩ <;> cases h) (by omega) (by omega) ht (fun v w1 h => ?_)
      rcases h with ⟨hq2, _, _⟩ | ⟨_, h, hw⟩
      · exact absurd hq2 hq
      · cases h
        exact ⟨_, A, P, T, F, G, S, W, rfl, hw, (fun h => absurd h (by decide)), nx _ _ _ _ _ _ _ _ _ _ _ _ _ _ _ _ _ _ _ _ _ hI (by omega) (by omega)⟩
    · cases ho
end LWI
