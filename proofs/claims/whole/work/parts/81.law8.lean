section LWP
variable {p : Program} {l : Launch} {e : Env} {s : State} {m : MethodId} {below : List Frame} {meth : Method} {c : Code} {b Ln : Nat} {xs : Nat → Int32} {D : va_G} {cells slots : Nat}
/-- what a local held may be forgotten -/
theorem lwJ.forget {pc i : Nat} {x6 x7 : Option Value} {st : List Value} {w : List pm_E} (h : lwJ p l e s m below meth c b D cells slots (pc, lwL i none none, st, w)) : lwJ p l e s m below meth c b D cells slots (pc, lwL i x6 x7, st, w) := by
  intro ad tI h1 h2 H locs ls hP hD hS hL hK
  refine h ad tI h1 h2 H locs ls hP hD hS ⟨rfl, hL.2.1, hL.2.2.1, fun k v hk => hL.2.2.2 k v ?_⟩ hK
  match k, hk with
  | 0, hk => exact hk
  | 1, hk => exact hk
  | 2, hk => exact hk
  | 3, hk => exact hk
  | 4, hk => exact hk
  | 5, hk => exact hk
  | 6, hk => cases hk
  | 7, hk => cases hk
  | k + 8, hk => simp at hk
def swp (k : Nat) : Nat := if k = 23 then 26 else if k = 24 then 27 else if k = 25 then 28 else if k = 26 then 23 else if k = 27 then 24 else if k = 28 then 25 else k
theorem swp_inj : ∀ i, i < 46 → ∀ j, j < 46 → swp i = swp j → i = j := by decide +kernel
theorem swp_lt : ∀ i, i < 46 → swp i < 46 := by decide +kernel
theorem rcW (a1 : txP) (a2 a3 : trP) (a4 : fnP) (a5 : pgP) (a6 a7 : tbP) : (stW 26 23 a1 a2 a3 a4 a5 a6 a7).map (pm_rc (pm_rn q29)) = stW 26 23 a1 a2 a3 a4 a5 a6 a7 := rfl
set_option maxRecDepth 100000 in
theorem swp_w (tx : txP) (g1 g2 : trP) (fn : fnP) (pg : pgP) (t1 t2 : tbP) (A : mA) (P : mP) (T : mT) (F : mF) (G : mG) (S : mS) (W : mW) (th : Nat) (f : Nat → Int64) (g : Nat → UInt64) :
    (List.range 46).map (fun k => pm_nth (lwV (stW 26 23 tx g1 g2 fn pg t1 t2) (moW A P T F G S W th) f g) (swp k)) = (lwV (stN tx g1 g2 fn pg t2 t1) (moW A P T F G S W th) f g).map (fun c => some (pm_rc swp c)) := rfl
/-- the two tables change places -/
theorem lwJ.swap {pc i : Nat} {tx : txP} {g1 g2 : trP} {fn : fnP} {pg : pgP} {t1 t2 : tbP} {A : mA} {P : mP} {T : mT} {F : mF} {G : mG} {S : mS} {W : mW} {th : Nat} {f : Nat → Int64} {g : Nat → UInt64} (h : lwJ p l e s m below meth c b D cells slots (pc, lwL i none none, [], lwV (stN tx g1 g2 fn pg t2 t1) (moW A P T F G S W th) f g)) :
    lwJ p l e s m below meth c b D cells slots (pc, lwL i none none, [], lwV (stW 26 23 tx g1 g2 fn pg t1 t2) (moW A P T F G S W th) f g) := by
  have hw := swp_w tx g1 g2 fn pg t1 t2 A P T F G S W th f g
  have n1 : (lwV (stW 26 23 tx g1 g2 fn pg t1 t2) (moW A P T F G S W th) f g).length = 46 := rfl
  have n2 : (lwV (stN tx g1 g2 fn pg t2 t1) (moW A P T F G S W th) f g).length = 46 := rfl
  generalize lwV (stW 26 23 tx g1 g2 fn pg t1 t2) (moW A P T F G S W th) f g = w at *
  generalize lwV (stN tx g1 g2 fn pg t2 t1) (moW A P T F G S W th) f g = w' at *
  have hq : ∀ k c, w'[k]? = some c → w[swp k]? = some (pm_rc swp c) := by
    intro k c hk
    have hl := (List.getElem?_eq_some_iff.mp hk).1
    rw [n2] at hl
    have h9 := congrArg (fun z => z[k]?) hw
    rw [List.getElem?_map, List.getElem?_map, hk, List.getElem?_range hl] at h9
    simp only [Option.map_some, Option.some.injEq] at h9
    rw [pm_nth_eq] at h9
    exact h9
  intro ad tI h1 h2 H locs ls hP hD hS hL hK
  have h2' : ∀ k, k < 46 → s.heap.size ≤ ad (swp k) := fun k hk => h2 _ (swp_lt k hk)
  have hi : pm_inj ad 46 := by have := pm_D.inj hD; rw [show w.length = 46 from n1] at this; exact this
  have hP' : va_P D vwCl (pm_w (fun k => ad (swp k)) (fun k => tI (swp k)) w') H := by
    intro k x hx
    have hl := (List.getElem?_eq_some_iff.mp hx).1
    rw [pm_w_len] at hl
    have hg := List.getElem?_eq_getElem hl
    rw [pm_w_get hg] at hx
    cases hx
    have := hP _ _ (pm_w_get (hq k _ hg))
    rw [pm_c_comp] at this
    exact this
  have hK' : pm_K D vwCl (fun k => tI (swp k)) w' s := ⟨hK.1, fun k a hk => hK.2 (swp k) a (hq k _ hk)⟩
  have hD' : va_D (pm_A (fun k => ad (swp k)) 46 s.heap.size) (pm_w (fun k => ad (swp k)) (fun k => tI (swp k)) w') :=
    pm_D (fun i j hi' hj' hij => by rw [n2] at hi' hj'; exact swp_inj i hi' j hj' (hi _ _ (swp_lt i hi') (swp_lt j hj') hij)) (fun k hk => Or.inl ⟨k, by rw [n2] at hk; exact hk, rfl⟩)
  refine h (fun k => ad (swp k)) (fun k => tI (swp k)) h1 h2' H locs ls hP' hD' ?_ ⟨rfl, hL.2.1, hL.2.2.1, fun k v hk => ?_⟩ hK'
  · rw [lw_A h2']
    rw [lw_A h2] at hS
    exact hS
  · have h9 := hL.2.2.2 k v hk
    match k, hk with
    | 0, hk => cases hk; exact h9
    | 1, hk => cases hk; exact h9
    | 2, hk => cases hk; exact h9
    | 3, hk => cases hk; exact h9
    | 4, hk => cases hk; exact h9
    | 5, hk => cases hk; exact h9
    | 6, hk => cases hk
    | 7, hk => cases hk
    | k + 8, hk => simp at hk
set_option maxRecDepth 100000 in
theorem lc_trees (X : lwC p l e s m below meth c b Ln xs) {tx : txP} {g1 g2 : trP} {fn : fnP} {pg : pgP} {t1 t2 : tbP} {A : mA} {P : mP} {T : mT} {F : mF} {G : mG} {S : mS} {W : mW} {th i : Nat} {f : Nat → Int64} {g : Nat → UInt64} {x6 x7 : Option Value} (hI : lwI tx g1 g2 fn pg t1 t2 A T F G W)  (hc : cells + 2 ≤ 600128) (hs : slots + 12 ≤ 7301098) (nx : lwN p l e s m below meth c b D cells slots i) :
    lwJ p l e s m below meth c b D cells slots (339, lwL i x6 x7, [], lwV (stN tx g1 g2 fn pg t1 t2) (moW A P T F G S W th) f g) := by
  have ht := X.2.2.2.2.2.2.2
  obtain ⟨⟨iA, iT, iC⟩, ⟨iG1, iG2⟩, ⟨iR, iW1, iW2, iW3⟩, ⟨iF, iFI, iSh⟩, iGJ, ⟨iP1, iP2, iP3, iP4, iP5, iP6⟩⟩ := id hI
  have e1 : t1.2.2.1 = T.1 := iR.1.symm
  have e2 : t1.2.2.2 = T.2.1 := iR.2.1.symm
  have hk : t1.2.2.1 ≤ 7 := by rw [e1]; exact iR.2.2.1
  have hcc : t1.2.2.2 ≤ 16 := by rw [e2]; exact iR.2.2.2.1
  refine lwJ.run X [] 20 (fun K hK => hK _ ?_)
  have hJ := lw_call X (D := D) (cells := cells) (slots := slots) (pc := 340) (L := lwL i x6 x7) (rest := []) (pre := []) (mid := stN tx g1 g2 fn pg t1 t2) (suf := ((moW A P T F G S W th).map (pm_rc (pm_rn qM)) ++ [loA f, dbA g])) q29 rfl (c_trees ht tx g1 g2 fn pg t1 t2 hk) gRL_88 vX5_trees rfl (fun E w1 z => by cases z.1) (by omega) (by omega) (fun v w1 hO hl => ?_)
  · rw [rc29] at hJ
    exact hJ
  obtain ⟨z1, rfl⟩ := hO
  cases z1
  rw [rc29]
  refine lwJ.run X [] 20 (fun K hK => hK _ ?_)
  refine lw_call X (pre := stN tx g1 g2 fn pg t1 t2) (mid := moW A P T F G S W th) (suf := [loA f, dbA g]) qM rfl (d_trees ht A P T F G S W th iR.2.2.1) gRL_91 vX6_trees rfl (fun E w1 z => by cases z.1) (by omega) (by omega) (fun v w1 hO hl => ?_)
  obtain ⟨z1, rfl⟩ := hO
  cases z1
  refine lwJ.run X [1111] 20 (fun K hK => br_t ?_ (hK _ ?_))
  · show nI (tcount t1.2.2.1) = nI (tcount T.1)
    rw [e1]
  · exact nx _ _ _ _ _ _ _ _ _ _ _ _ _ _ _ _ _ _ _ _ _ hI (by omega) (by omega)
set_option maxRecDepth 100000 in
theorem lc_found (X : lwC p l e s m below meth c b Ln xs) {tx : txP} {g1 g2 : trP} {fn : fnP} {pg : pgP} {t1 t2 : tbP} {A : mA} {P : mP} {T : mT} {F : mF} {G : mG} {S : mS} {W : mW} {th i : Nat} {f : Nat → Int64} {g : Nat → UInt64} {x6 x7 : Option Value} (hI : lwI tx g1 g2 fn pg t1 t2 A T F G W)  (hc : cells + 2 ≤ 600128) (hs : slots + 12 ≤ 7301098) (nx : lwN p l e s m below meth c b D cells slots i) :
    lwJ p l e s m below meth c b D cells slots (520, lwL i x6 x7, [], lwV (stN tx g1 g2 fn pg t1 t2) (moW A P T F G S W th) f g) := by
  have ht := X.2.2.2.2.2.2.2
  obtain ⟨⟨iA, iT, iC⟩, ⟨iG1, iG2⟩, ⟨iR, iW1, iW2, iW3⟩, ⟨iF, iFI, iSh⟩, iGJ, ⟨iP1, iP2, iP3, iP4, iP5, iP6⟩⟩ := id hI
  have e1 : t1.2.2.1 = T.1 := iR.1.symm
  have e2 : t1.2.2.2 = T.2.1 := iR.2.1.symm
  have hk : t1.2.2.1 ≤ 7 := by rw [e1]; exact iR.2.2.1
  have hcc : t1.2.2.2 ≤ 16 := by rw [e2]; exact iR.2.2.2.1
  refine lwJ.run X [] 20 (fun K hK => hK _ ?_)
  have hJ := lw_call X (D := D) (cells := cells) (slots := slots) (pc := 521) (L := lwL i x6 x7) (rest := []) (pre := []) (mid := stN tx g1 g2 fn pg t1 t2) (suf := ((moW A P T F G S W th).map (pm_rc (pm_rn qM)) ++ [loA f, dbA g])) q29 rfl (c_found ht tx g1 g2 fn pg t1 t2) gRL_103 vX5_found rfl (fun E w1 z => by cases z.1) (by omega) (by omega) (fun v w1 hO hl => ?_)
  · rw [rc29] at hJ
    exact hJ
  obtain ⟨z1, rfl⟩ := hO
  cases z1
  rw [rc29]
  refine lwJ.run X [] 20 (fun K hK => hK _ ?_)
  refine lw_call X (pre := stN tx g1 g2 fn pg t1 t2) (mid := moW A P T F G S W th) (suf := [loA f, dbA g]) qM rfl (d_found ht A P T F G S W th) gRL_106 vX6_found rfl (fun E w1 z => by cases z.1) (by omega) (by omega) (fun v w1 hO hl => ?_)
  obtain ⟨z1, rfl⟩ := hO
  cases z1
  refine lwJ.run X [1111] 20 (fun K hK => br_t ?_ (hK _ ?_))
  · show nI fn.2.2 = nI F.1
    rw [iF]
  · exact nx _ _ _ _ _ _ _ _ _ _ _ _ _ _ _ _ _ _ _ _ _ hI (by omega) (by omega)
set_option maxRecDepth 100000 in
theorem lc_written (X : lwC p l e s m below meth c b Ln xs) {tx : txP} {g1 g2 : trP} {fn : fnP} {pg : pgP} {t1 t2 : tbP} {A : mA} {P : mP} {T : mT} {F : mF} {G : mG} {S : mS} {W : mW} {th i : Nat} {f : Nat → Int64} {g : Nat → UInt64} {x6 x7 : Option Value} (hI : lwI tx g1 g2 fn pg t1 t2 A T F G W) (h1 : vp_in (nI i + pm_k 1) Ln) (hc : cells + 2 ≤ 600128) (hs : slots + 12 ≤ 7301098) (nx : lwN p l e s m below meth c b D cells slots i) :
    lwJ p l e s m below meth c b D cells slots (1086, lwL i x6 x7, [], lwV (stN tx g1 g2 fn pg t1 t2) (moW A P T F G S W th) f g) := by
  have ht := X.2.2.2.2.2.2.2
  obtain ⟨⟨iA, iT, iC⟩, ⟨iG1, iG2⟩, ⟨iR, iW1, iW2, iW3⟩, ⟨iF, iFI, iSh⟩, iGJ, ⟨iP1, iP2, iP3, iP4, iP5, iP6⟩⟩ := id hI
  have e1 : t1.2.2.1 = T.1 := iR.1.symm
  have e2 : t1.2.2.2 = T.2.1 := iR.2.1.symm
  have hk : t1.2.2.1 ≤ 7 := by rw [e1]; exact iR.2.2.1
  have hcc : t1.2.2.2 ≤ 16 := by rw [e2]; exact iR.2.2.2.1
  refine lwJ.run X [] 20 (fun K hK => hK _ ?_)
  refine lwJ.sld X h1 ?_
  have hJ := lw_call X (D := D) (cells := cells) (slots := slots) (pc := 1093) (L := lwL i x6 x7) (rest := []) (pre := []) (mid := stN tx g1 g2 fn pg t1 t2) (suf := ((moW A P T F G S W th).map (pm_rc (pm_rn qM)) ++ [loA f, dbA g])) q29 rfl (c_written ht tx g1 g2 fn pg t1 t2 (xs (nI i + pm_k 1).toNatClampNeg) (by rw [← iP1]; exact iP2) iP5) gRL_134 vX5_written rfl (fun E w1 z => by cases z.1) (by omega) (by omega) (fun v w1 hO hl => ?_)
  · rw [rc29] at hJ
    exact hJ
  obtain ⟨z1, rfl⟩ := hO
  cases z1
  rw [rc29]
  refine lwJ.run X [] 20 (fun K hK => hK _ ?_)
  refine lwJ.sld X h1 ?_
  refine lw_call X (pre := stN tx g1 g2 fn pg t1 t2) (mid := moW A P T F G S W th) (suf := [loA f, dbA g]) qM rfl (d_written ht A P T F G S W th (xs (nI i + pm_k 1).toNatClampNeg) (by omega) (fun j hj => by rw [iP3 j hj]; exact iP5 j)) gRL_138 vX6_written rfl (fun E w1 z => by cases z.1) (by omega) (by omega) (fun v w1 hO hl => ?_)
  obtain ⟨z1, rfl⟩ := hO
  cases z1
  refine lwJ.run X [1111] 20 (fun K hK => br_t ?_ (hK _ ?_))
  · show nI (sgF pg.1 (xs (nI i + pm_k 1).toNatClampNeg)) = nI (wtQ W (xs (nI i + pm_k 1).toNatClampNeg))
    congr 1
    unfold sgF wtQ
    rw [← iP1]
    by_cases h : 0 ≤ xs (nI i + pm_k 1).toNatClampNeg ∧ xs (nI i + pm_k 1).toNatClampNeg < nI W.1
    · rw [if_pos h, if_pos h, iP3 _ (okC_lt (by omega) h).1]
    · rw [if_neg h, if_neg h]
  · exact nx _ _ _ _ _ _ _ _ _ _ _ _ _ _ _ _ _ _ _ _ _ hI (by omega) (by omega)
set_option maxRecDepth 100000 in
theorem lc_table (X : lwC p l e s m below meth c b Ln xs) {tx : txP} {g1 g2 : trP} {fn : fnP} {pg : pgP} {t1 t2 : tbP} {A : mA} {P : mP} {T : mT} {F : mF} {G : mG} {S : mS} {W : mW} {th i : Nat} {f : Nat → Int64} {g : Nat → UInt64} {x6 x7 : Option Value} (hI : lwI tx g1 g2 fn pg t1 t2 A T F G W)  (hc : cells + 2 ≤ 600128) (hs : slots + 12 ≤ 7301098) (nx : lwN p l e s m below meth c b D cells slots i) :
    lwJ p l e s m below meth c b D cells slots (190, lwL i x6 x7, [], lwV (stN tx g1 g2 fn pg t1 t2) (moW A P T F G S W th) f g) := by
  have ht := X.2.2.2.2.2.2.2
  obtain ⟨⟨iA, iT, iC⟩, ⟨iG1, iG2⟩, ⟨iR, iW1, iW2, iW3⟩, ⟨iF, iFI, iSh⟩, iGJ, ⟨iP1, iP2, iP3, iP4, iP5, iP6⟩⟩ := id hI
  have e1 : t1.2.2.1 = T.1 := iR.1.symm
  have e2 : t1.2.2.2 = T.2.1 := iR.2.1.symm
  have hk : t1.2.2.1 ≤ 7 := by rw [e1]; exact iR.2.2.1
  have hcc : t1.2.2.2 ≤ 16 := by rw [e2]; exact iR.2.2.2.1
  subst iA
  have hrd := rdF_eq (t := tx.1) (n := tx.2.1) 7 0 0 (fun j => if j < 7 then 0 else t2.1 j) P.2.2.2.2 0 0 rfl (by decide) (fun h => absurd h (by decide)) (fun a h => absurd h (Nat.not_lt_zero a)) (fun a j h1 h2 => by rw [if_pos h2, lane_nib]; show nib 0 j = 0; unfold nib; simp)
  have hD := d_table ht tx.1 tx.2.1 P T F G S W th iT iC
  have hCc := c_table ht tx g1 g2 fn pg t1 t2 iT iC
  obtain ⟨r1, r2, r3⟩ := hrd
  have bw : ∀ t : tbP, Bd t.2.1 → Bd (nwT tx t).2.1 := fun t h j => by
    show (if j < 16 then 1 else t.2.1 j) < 128
    split
    · decide
    · exact h j
  refine lwJ.run X [] 20 (fun K hK => hK _ ?_)
  have hJ := lw_call X (D := D) (cells := cells) (slots := slots) (pc := 191) (L := lwL i x6 x7) (rest := []) (pre := []) (mid := stN tx g1 g2 fn pg t1 t2) (suf := ((moW (tx.1, tx.2.1) P T F G S W th).map (pm_rc (pm_rn qM)) ++ [loA f, dbA g])) q29 rfl hCc gRL_77 vX5_table rfl (fun E w1 z => by rcases z with ⟨_, z, _⟩ | ⟨_, z, _⟩ <;> cases z) (by omega) (by omega) (fun v w1 hO hl => ?_)
  · rw [rc29] at hJ
    exact hJ
  rcases hO with ⟨hq, ho, hw⟩ | ⟨hq, ho, hw⟩
  · cases ho
    subst hw
    rw [rc29]
    refine lwJ.run X [] 20 (fun K hK => hK _ ?_)
    refine lw_call X (pre := stN (tx.1, 0, (rdT tx t2).2.1) g1 g2 fn pg t1 (nwT tx t2)) (mid := moW (tx.1, tx.2.1) P T F G S W th) (suf := [loA f, dbA g]) qM rfl hD gRL_80 vX6_table rfl (fun E w1 z => by rcases z with ⟨_, z, _⟩ | ⟨_, z, _⟩ <;> cases z) (by omega) (by omega) (fun v w1 hO hl => ?_)
    rcases hO with ⟨hz, _, _⟩ | ⟨_, ho, P', hw⟩
    · rw [← r1] at hz
      rw [show (rdT tx t2).1 = _ from hz] at hq
      cases hq
    · cases ho
      subst hw
      refine lwJ.run X [1111] 20 (fun K hK => br_t ?_ (hK _ ?_))
      · show pm_k (-100) - nI (rdT tx t2).2.1 = pm_k (-100) - nI (rdF2 tx.1 tx.2.1 7 0 0 P.2.2.2.2 0).2.1
        rw [show (rdT tx t2).2.1 = (rdF2 tx.1 tx.2.1 7 0 0 P.2.2.2.2 0).2.1 from r2]
      · have hI' : lwI (tx.1, 0, (rdT tx t2).2.1) g1 g2 fn pg t1 (nwT tx t2) (tx.1, 0) T F G W := ⟨⟨rfl, Nat.zero_le _, iC⟩, ⟨iG1, iG2⟩, ⟨iR, iW1, iW2, bw t2 iW3⟩, ⟨iF, iFI, iSh⟩, iGJ, ⟨iP1, iP2, iP3, iP4, iP5, iP6⟩⟩
        exact nx _ _ _ _ _ _ _ _ _ _ _ _ _ _ _ _ _ _ _ _ _ hI' (by omega) (by omega)
  · cases ho
    subst hw
    rw [rcW]
    refine lwJ.run X [] 20 (fun K hK => hK _ ?_)
    refine lw_call X (pre := stW 26 23 (tx.1, 0, (rdT tx t2).2.1) g1 g2 (fn.1, fn.2.1, 0) pg t1 (nwT tx t2)) (mid := moW (tx.1, tx.2.1) P T F G S W th) (suf := [loA f, dbA g]) qM rfl hD gRL_80 vX6_table rfl (fun E w1 z => by rcases z with ⟨_, z, _⟩ | ⟨_, z, _⟩ <;> cases z) (by omega) (by omega) (fun v w1 hO hl => ?_)
    rcases hO with ⟨_, ho, P', hw⟩ | ⟨hz, _, _⟩
    · cases ho
      subst hw
      obtain ⟨s1, s2, s3, s4, s5⟩ := r3 hq
      refine lwJ.run X [1111] 20 (fun K hK => br_t ?_ (hK _ ?_))
      · show nI (rdT tx t2).2.2.2.1 = nI (rdF2 tx.1 tx.2.1 7 0 0 P.2.2.2.2 0).2.2.2.1
        rw [show (rdT tx t2).2.2.2.1 = (rdF2 tx.1 tx.2.1 7 0 0 P.2.2.2.2 0).2.2.2.1 from s1]
      · have hR' : TbR (nwT tx t2) ((rdF2 tx.1 tx.2.1 7 0 0 P.2.2.2.2 0).2.2.2.1, (rdF2 tx.1 tx.2.1 7 0 0 P.2.2.2.2 0).2.2.2.2, cpF (rdF2 tx.1 tx.2.1 7 0 0 P.2.2.2.2 0).2.2.1 T.2.2.1 112 112, cpF (fun _ => 1) T.2.2.2 16 16) := by
          refine ⟨s1.symm, s2.symm, by show (rdF2 tx.1 tx.2.1 7 0 0 P.2.2.2.2 0).2.2.2.1 ≤ 7; rw [← s1]; exact s3, by show (rdF2 tx.1 tx.2.1 7 0 0 P.2.2.2.2 0).2.2.2.2 ≤ 16; rw [← s2]; exact s4, fun a c ha hc => ?_, fun c hc => ?_⟩
          · have ha : a < (rdF2 tx.1 tx.2.1 7 0 0 P.2.2.2.2 0).2.2.2.1 := ha
            have hc : c < (rdF2 tx.1 tx.2.1 7 0 0 P.2.2.2.2 0).2.2.2.2 := hc
            rw [← s1] at ha
            rw [← s2] at hc
            have := (s5 a ha).1 c hc
            show cpF (rdF2 tx.1 tx.2.1 7 0 0 P.2.2.2.2 0).2.2.1 T.2.2.1 112 112 (16 * a + c) = _ ∧ _
            unfold cpF
            rw [if_pos (by omega)]
            exact this
          · have hc : c < (rdF2 tx.1 tx.2.1 7 0 0 P.2.2.2.2 0).2.2.2.2 := hc
            show cpF (fun _ => 1) T.2.2.2 16 16 c = (if c < 16 then 1 else t2.2.1 c)
            unfold cpF
            rw [← s2] at hc
            rw [if_pos (by omega), if_pos (by omega)]
        have hI' : lwI (tx.1, 0, (rdT tx t2).2.1) g1 g2 (fn.1, fn.2.1, 0) pg (nwT tx t2) t1 (tx.1, 0) ((rdF2 tx.1 tx.2.1 7 0 0 P.2.2.2.2 0).2.2.2.1, (rdF2 tx.1 tx.2.1 7 0 0 P.2.2.2.2 0).2.2.2.2, cpF (rdF2 tx.1 tx.2.1 7 0 0 P.2.2.2.2 0).2.2.1 T.2.2.1 112 112, cpF (fun _ => 1) T.2.2.2 16 16) (0, F.2) G W :=
          ⟨⟨rfl, Nat.zero_le _, iC⟩, ⟨iG1, iG2⟩, ⟨hR', bw t2 iW3, fun j => by
            show cpF (fun _ => 1) T.2.2.2 16 16 j < 128
            unfold cpF
            split
            · show 1 < 128; decide
            · exact iW2 j, iW1⟩, ⟨by rw [iF], ⟨by show 0 ≤ 945; decide, fun i hi => absurd hi (Nat.not_lt_zero _)⟩, fun h => absurd rfl h⟩, iGJ, ⟨iP1, iP2, iP3, iP4, iP5, iP6⟩⟩
        exact lwJ.forget (lwJ.swap (nx _ _ _ _ _ _ _ _ _ _ _ _ _ _ _ _ _ _ _ _ _ hI' (by omega) (by omega)))
    · rw [← r1] at hz
      rw [show (rdT tx t2).1 = _ from hz] at hq
      cases hq
end LWP
