section MDH
variable {l : Launch}
theorem paS_ag {e e' : Nat → Nat} {wh kd : Nat} : ∀ n, (∀ i, i < n → e i = e' i) → paS e wh kd n = paS e' wh kd n
  | 0, _ => rfl
  | n + 1, h => by
    unfold paS
    rw [paS_ag n (fun i hi => h i (by omega)), h n (by omega)]
theorem sdP_ag {e e' : Nat → Nat} {ne : Nat} (h : ∀ i, i < ne → e i = e' i) (wh kd : Nat) : sdP e ne wh kd = sdP e' ne wh kd := by
  unfold sdP
  rw [paS_ag ne h]
/-- the same up to m -/
def Ag (m : Nat) (f g : Nat → Nat) : Prop := ∀ j, j < m → f j = g j
theorem Ag.up {m : Nat} {f g : Nat → Nat} (h : Ag m f g) (v : Nat) : Ag (m + 1) (upN f m v) (upN g m v) := fun j hj => by
  unfold upN
  split
  · rfl
  · exact h j (by omega)
theorem Ag.up' {m k : Nat} {f g : Nat → Nat} (h : Ag m f g) (v : Nat) : Ag m (upN f k v) (upN g k v) := fun j hj => by
  unfold upN
  split
  · rfl
  · exact h j hj
theorem Ag.mono {m k : Nat} {f g : Nat → Nat} (h : Ag m f g) (hk : k ≤ m) : Ag k f g := fun j hj => h j (by omega)
theorem sdS_ag {e e' : Nat → Nat} {ne : Nat} (h : ∀ i, i < ne → e i = e' i) (wh : Nat) : ∀ j m (op op' : Nat → Nat) z', Ag m op op' → sdS e' ne wh j m op' = some z' → ∃ z, sdS e ne wh j m op = some z ∧ z.1 = z'.1 ∧ Ag z'.1 z.2 z'.2
  | 0, m, op, op', z', ha, hz => by
    rw [sdS] at hz
    cases hz
    exact ⟨(m, op), rfl, rfl, ha⟩
  | j + 1, m, op, op', z', ha, hz => by
    rw [sdS_s] at hz ⊢
    rw [sdP_ag h]
    split at hz
    · rename_i q
      rw [if_pos q]
      split at hz
      · rename_i q2
        rw [if_pos q2]
        exact sdS_ag h wh j (m + 2) _ _ z' ((ha.up _).up _) hz
      · cases hz
    · rename_i q
      rw [if_neg q]
      exact sdS_ag h wh j m op op' z' ha hz
theorem wrS_ag {e e' : Nat → Nat} {ne : Nat} (h : ∀ i, i < ne → e i = e' i) : ∀ f n (op op' : Nat → Nat) sz (wr wr' : Nat → Nat) z', Ag n op op' → Ag sz wr wr' → wrS e' ne f n op' sz wr' = some z' → ∃ z, wrS e ne f n op sz wr = some z ∧ z.2.1 = z'.2.1 ∧ Ag z'.2.1 z.2.2 z'.2.2
  | 0, n, op, op', sz, wr, wr', z', _, _, hz => by rw [wrS] at hz; cases hz
  | f + 1, n, op, op', sz, wr, wr', z', ha, hw, hz => by
    rw [wrS_s] at hz ⊢
    by_cases hn : n = 0
    · rw [if_pos hn] at hz ⊢
      cases hz
      exact ⟨_, rfl, rfl, hw⟩
    · rw [if_neg hn] at hz ⊢
      by_cases hs : ¬ sz < 64
      · rw [if_pos hs] at hz; cases hz
      · rw [if_neg hs] at hz ⊢
        have e1 := ha (n - 1) (by omega)
        rw [e1]
        by_cases h1 : op' (n - 1) = 4294967295
        · rw [if_pos h1] at hz ⊢
          exact wrS_ag h f (n - 1) op op' (sz + 1) _ _ z' (ha.mono (by omega)) (hw.up _) hz
        · rw [if_neg h1] at hz ⊢
          by_cases h2 : op' (n - 1) = 4294967294
          · rw [if_pos h2] at hz ⊢
            exact wrS_ag h f (n - 1) op op' (sz + 1) _ _ z' (ha.mono (by omega)) (hw.up _) hz
          · rw [if_neg h2] at hz ⊢
            by_cases h3 : ¬ op' (n - 1) < 256
            · rw [if_pos h3] at hz; cases hz
            · rw [if_neg h3] at hz ⊢
              by_cases h4 : onS (op' (n - 1)) 8 = 1
              · rw [if_pos h4] at hz ⊢
                exact wrS_ag h f (n - 1) op op' (sz + 1) _ _ z' (ha.mono (by omega)) (hw.up _) hz
              · rw [if_neg h4] at hz ⊢
                generalize hy' : sdS e' ne (op' (n - 1)) 7 n (upN op' (n - 1) 4294967295) = q at hz
                cases q with
                | none => cases hz
                | some y' =>
                  obtain ⟨y, g1, g2, g3⟩ := sdS_ag h (op' (n - 1)) 7 n (upN op (n - 1) 4294967295) _ y' (ha.up' _) hy'
                  rw [g1]
                  dsimp only at hz ⊢
                  rw [g2]
                  by_cases h5 : y'.1 = 0
                  · rw [if_pos h5] at hz; cases hz
                  · rw [if_neg h5] at hz ⊢
                    exact wrS_ag h f (y'.1 - 1) y.2 y'.2 (sz + 1) _ _ z' (g3.mono (by omega)) (hw.up _) hz
theorem wrA_ag {e e' : Nat → Nat} {ne : Nat} (h : ∀ i, i < ne → e i = e' i) (kn f : Nat) (wr wr' op op' : Nat → Nat) (z' : Nat × (Nat → Nat) × (Nat → Nat)) (hz : wrA e' ne kn f wr' op' = some z') : ∃ z, wrA e ne kn f wr op = some z ∧ z.1 = z'.1 ∧ Ag z'.1 z.2.1 z'.2.1 := by
  unfold wrA at hz ⊢
  generalize hy' : sdS e' ne (2 ^ kn - 2) 7 0 op' = q at hz
  cases q with
  | none => cases hz
  | some y' =>
    obtain ⟨y, g1, g2, g3⟩ := sdS_ag h (2 ^ kn - 2) 7 0 op op' y' (fun j hj => absurd hj (Nat.not_lt_zero j)) hy'
    rw [g1]
    dsimp only at hz ⊢
    rw [g2]
    by_cases h5 : y'.1 = 0
    · rw [if_pos h5] at hz; cases hz
    · rw [if_neg h5] at hz ⊢
      generalize hu' : wrS e' ne f (y'.1 - 1) y'.2 3 (upN (upN (upN wr' 0 40) 1 97) 2 44) = q2 at hz
      cases q2 with
      | none => cases hz
      | some u' =>
        have a3 : Ag 3 (upN (upN (upN wr 0 40) 1 97) 2 44) (upN (upN (upN wr' 0 40) 1 97) 2 44) := by
          have a0 : Ag 0 wr wr' := fun j hj => absurd hj (Nat.not_lt_zero j)
          exact ((a0.up 40).up 97).up 44
        obtain ⟨u, k1, k2, k3⟩ := wrS_ag h f (y'.1 - 1) y.2 y'.2 3 _ _ u' (g3.mono (by omega)) a3 hu'
        rw [k1]
        dsimp only at hz ⊢
        rw [k2]
        split at hz
        · rename_i q3
          rw [if_pos q3]
          cases hz
          exact ⟨_, rfl, rfl, (k3.up _).up _⟩
        · cases hz
abbrev zz : Nat → Nat := fun _ => 0
/-- what is written is z -/
def WrI (z : Nat × (Nat → Nat)) (W : mW) : Prop := W.1 = z.1 ∧ Ag z.1 W.2.1 z.2 ∧ ∃ op, W.2.2 = nA op
def moX (A : mA) (P : mP) (T : mT) (F : mF) (z : Nat × (Nat → Nat)) (th : Nat) (w : List pm_E) : Prop := ∃ G S W, GJ G ∧ WrI z W ∧ w = moW A P T F G S W th
theorem gwR_256 {k x : Nat} (hk : k ≤ 7) : B8 (gwR k x).2 := (gwT_GI (x := x) (fun _ => 0) hk).2.2.1.1
theorem spS_256 {st : Nat → Nat} (h : B8 st) (k : Nat) (s0 : Nat → Nat) : ∀ n i, i < (spS st k s0 n).1 → (spS st k s0 n).2 i < 256
  | 0, i, hi => absurd hi (Nat.not_lt_zero i)
  | n + 1, i, hi => by
    have ih := spS_256 h k s0 n
    unfold spS at hi ⊢
    split at hi
    · exact absurd hi (Nat.not_lt_zero i)
    · rename_i q
      rw [if_neg q]
      split at hi
      · rename_i q2
        rw [if_pos q2]
        exact ih i hi
      · rename_i q2
        rw [if_neg q2]
        dsimp only at hi ⊢
        unfold upN
        split
        · exact h n
        · exact ih i (by omega)
theorem d_write (hs : l.stackTraces = false) (A : mA) (P : mP) (T : mT) (F : mF) (G : mG) (S : mS) (W : mW) (th : Nat) (x : Int32) (hk : T.1 ≤ 7) (hG : GJ G) (hW : ∃ op, W.2.2 = nA op) (wz : Nat → Nat × (Nat → Nat) × (Nat → Nat)) (hr : ∀ a, a < tcount T.1 → wrA (spW T.1 a).2 (spW T.1 a).1 T.1 100 zz zz = some (wz a)) :
    pm_Met l mX6_write 5 0 0 [.ref 0, .int x] (moW A P T F G S W th) (fun o w' => (okC (tcount T.1) x ∧ o = .inl (some (.int (nI (wz x.toNatClampNeg).1))) ∧ moX A P T F ((wz x.toNatClampNeg).1, (wz x.toNatClampNeg).2.1) 0 w') ∨ (¬ okC (tcount T.1) x ∧ o = .inl (some (.int (nI 0))) ∧ w' = moW A P T F G S W 1)) := by
  generalize hO : (fun (o : pm_O) (w' : List pm_E) => (okC (tcount T.1) x ∧ o = .inl (some (.int (nI (wz x.toNatClampNeg).1))) ∧ moX A P T F ((wz x.toNatClampNeg).1, (wz x.toNatClampNeg).2.1) 0 w') ∨ (¬ okC (tcount T.1) x ∧ o = .inl (some (.int (nI 0))) ∧ w' = moW A P T F G S W 1)) = O
  have htc := tc_lt hk
  refine pm_Met.mk kX6_write hs (pm_J.run [] 40 (fun K hK => hK _ ?_))
  refine pm_J.cI q15 (d_isTree hs A P T F G S W th x hk) gRX6_132 vX6_isTree ?_
  by_cases h : 0 ≤ x ∧ x < nI (tcount T.1)
  · rw [if_pos h]
    obtain ⟨a, ha, rfl⟩ := ok_nat (by omega) h
    have ea : (nI a).toNatClampNeg = a := nI_clamp (by omega)
    rw [ea] at hO
    obtain ⟨sz, wr, op0⟩ := W
    obtain ⟨op, hop⟩ := hW
    dsimp only at hop
    subst hop
    refine pm_J.run [] 40 (fun K hK => br_f (by decide) (br_t (by decide) (hK _ ?_)))
    refine pm_J.cv q15 (moW A P T F (gwD T.1 a (gwR T.1 a).1 G.2.2.2.2.2) (gwP T.1 a S) (sz, wr, nA op) 0) (d_growD hs A P T F G S (sz, wr, nA op) 0 a hk ha hG) gRX6_135 vX6_grow ?_
    have hn := gwP_n T.1 a S
    obtain ⟨z, z1, z2, z3⟩ := wrA_ag (e := (gwP T.1 a S).2.1) (fun i hi => gwP_e S hi) T.1 100 wr zz op zz (wz a) (hr a ha)
    rw [← hn] at z1
    refine pm_J.run [] 40 (fun K hK => hK _ ?_)
    refine pm_J.ciw q15 (moW A P T F (gwD T.1 a (gwR T.1 a).1 G.2.2.2.2.2) (gwP T.1 a S) (z.1, z.2.1, nA z.2.2) 0) (d_writeSplits hs A P T F (gwD T.1 a (gwR T.1 a).1 G.2.2.2.2.2) (gwP T.1 a S) sz wr op 0 100 z (tc_3 ha) hk (by rw [hn]; exact spW_le hk) (spS_256 (gwR_256 hk) _ _ _) z1) gRX6_179 vX6_writeSplits ?_
    refine pm_J.ri ?_
    rw [← hO]
    refine Or.inl ⟨h, by rw [z2], _, _, _, gwD_GJ hk (gwR_Bz hk) hG.2, ⟨z2, z3, _, rfl⟩, rfl⟩
  · rw [if_neg h]
    refine pm_J.run [] 40 (fun K hK => br_t (by decide) (br_f (by decide) (hK _ ?_)))
    refine pm_J.ri ?_
    rw [← hO]
    exact Or.inr ⟨h, rfl, rfl⟩
def wtQ (W : mW) (x : Int32) : Nat := if 0 ≤ x ∧ x < nI W.1 then W.2.1 x.toNatClampNeg else 0
theorem d_written (hs : l.stackTraces = false) (A : mA) (P : mP) (T : mT) (F : mF) (G : mG) (S : mS) (W : mW) (th : Nat) (x : Int32) (h64 : W.1 ≤ 64) (hb : ∀ j, j < W.1 → W.2.1 j < 65536) :
    pm_Met l mX6_written 1 0 0 [.ref 0, .int x] (moW A P T F G S W th) (isI (nI (wtQ W x)) (moW A P T F G S W 0)) := by
  refine pm_Met.mk kX6_written hs (pm_J.run [] 40 (fun K hK => And.intro (fun q => hK _ ?_) (fun q => And.intro (fun q2 => ?_) (fun q2 => hK _ ?_))))
  · exact pm_J.ri ⟨by rw [wtQ, if_neg (fun z => absurd q (Int32.not_lt.mpr z.1))]; rfl, rfl⟩ (hn := rfl)
  · have hx : 0 ≤ x ∧ x < nI W.1 := ⟨Int32.not_lt.mp q, q2⟩
    obtain ⟨a, ha, rfl⟩ := ok_nat (by omega) hx
    refine And.intro (vp_in_nI (by omega) (by decide)) (hK _ ?_)
    rw [wtQ, if_pos hx, nI_clamp (by omega)]
    refine pm_J.ri ⟨rfl, rfl⟩ (hn := ?_)
    exact (pk_charN (hb a ha)).1
  · exact pm_J.ri ⟨by rw [wtQ, if_neg (fun z => q2 z.2)]; rfl, rfl⟩ (hn := rfl)
end MDH
