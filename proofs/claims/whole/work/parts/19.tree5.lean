section TR5
variable {l : Launch}
def TrI (ch : Nat → Nat) (s : trS) (od : Nat → Nat) : Prop := Bd ch ∧ ch 2 = 0 ∧ Bn s.1 ∧ Bn s.2.1 ∧ Bd s.2.2 ∧ Bn od
theorem Bn.Bd {f : Nat → Nat} (h : Bn f) : Bd f := fun j => by have := h j; omega
theorem Bn.up {f : Nat → Nat} (h : Bn f) {k v : Nat} (hv : v < 14) : Bn (upN f k v) := fun j => by
  unfold upN
  split
  · exact hv
  · exact h j
theorem inS_Bn {od : Nat → Nat} {nd fr : Nat} {s0 : trS} (hf : fr < 14) (h : Bn s0.1 ∧ Bn s0.2.1) : ∀ i, Bn (inS od nd fr s0 i).1.1 ∧ Bn (inS od nd fr s0 i).1.2.1
  | 0 => h
  | i + 1 => by
    have ih := inS_Bn (od := od) (nd := nd) hf h i
    unfold inS
    split
    · exact ih
    · refine ⟨?_, ?_⟩
      · show Bn (mrO _ _ _ _)
        unfold mrO; split
        · exact ih.1.up hf
        · exact ih.1
      · show Bn (mrT _ _ _ _ _)
        unfold mrT; split
        · exact ih.2
        · split
          · exact ih.2.up hf
          · exact ih.2
theorem insR_I {k nd inn : Nat} {s0 : trS} {od : Nat → Nat} (hk : k < 7) (hn : nd < 14) (h : Bn s0.1 ∧ Bn s0.2.1 ∧ Bd s0.2.2 ∧ Bn od) : Bn (insR k nd s0 od inn).1.1 ∧ Bn (insR k nd s0 od inn).1.2.1 ∧ Bd (insR k nd s0 od inn).1.2.2 ∧ Bn (insR k nd s0 od inn).2 := by
  have hb := inS_Bd (od := od) (nd := nd) (fr := 7 + k) (s0 := s0) (by omega) ⟨h.1.Bd, h.2.1.Bd, h.2.2.1⟩ inn
  have hc := inS_Bn (od := od) (nd := nd) (fr := 7 + k) (s0 := s0) (by omega) ⟨h.1, h.2.1⟩ inn
  refine ⟨hc.1.up (by omega), hc.2.up (by omega), hb.2.2.up (or128 (hb.2.2 _) (hb.2.2 _)), fun j => ?_⟩
  show upN (va_cpy od od _ _ _) _ (7 + k) j < 14
  unfold upN va_cpy
  split
  · omega
  · split
    · exact h.2.2.2 _
    · exact h.2.2.2 _
theorem grS_I {k x : Nat} {ch : Nat → Nat} {s0 : trS} {od : Nat → Nat} (h2 : ch 2 = 0) (hk : k ≤ 7) (h : Bn s0.1 ∧ Bn s0.2.1 ∧ Bd s0.2.2 ∧ Bn od) : ∀ i, i ≤ k → Bn (grS (choF k x ch) s0 od i).1.1 ∧ Bn (grS (choF k x ch) s0 od i).1.2.1 ∧ Bd (grS (choF k x ch) s0 od i).1.2.2 ∧ Bn (grS (choF k x ch) s0 od i).2
  | 0, _ => h
  | i + 1, hi => by
    have ih := grS_I (x := x) h2 hk h i (by omega)
    unfold grS
    split
    · exact h
    · exact insR_I (by omega) (node_lt h2 i (by omega) (by omega) (by omega)) ih
theorem grR_I {k x : Nat} {ch : Nat → Nat} {s0 : trS} {od : Nat → Nat} (hk : k ≤ 7) (h : TrI ch s0 od) : TrI (choF k x ch) (grR k x ch s0 od).1 (grR k x ch s0 od).2 := by
  obtain ⟨h1, h2, h3, h4, h5, h6⟩ := h
  obtain ⟨g1, g2, g3, g4⟩ := grS_I (k := k) (x := x) (s0 := (s0.1, s0.2.1, leF s0.2.2 k)) h2 hk ⟨h3, h4, leF_Bd h5 hk, h6⟩ k (Nat.le_refl _)
  exact ⟨choF_Bd k hk x ch h1, (choF_2 k x ch).trans h2, g1, g2, g3, g4⟩
theorem c_splitCount (hs : l.stackTraces = false) (ch on ot be : Nat → Int32) (se : Nat → Int64) (od : Nat → Int32) (inn : Nat) (h : 1 ≤ inn) : pm_Met l mX4_splitCount 1 0 0 [.ref 0] (trW ch on ot be se od (nI inn)) (isI (nI (inn - 1)) (trW ch on ot be se od (nI inn))) := by
  refine pm_Met.mk kX4_splitCount hs (pm_J.run [] 20 (fun K hK => hK _ ?_))
  exact pm_J.ri ⟨by rw [← pk_sub h]; rfl, rfl⟩
theorem c_splitAt (hs : l.stackTraces = false) (ch on ot : Nat → Int32) (be : Nat → Nat) (se : Nat → Int64) (od : Nat → Nat) (inn : Int32) (i : Nat) (hi : i < 7) (ho : Bn od) : pm_Met l mX4_splitAt 1 0 0 [.ref 0, .int (nI i)] (trW ch on ot (nA be) se (nA od) inn) (isI (nI (be (od i))) (trW ch on ot (nA be) se (nA od) inn)) := by
  have ei : (nI i).toNatClampNeg = i := nI_clamp (by omega)
  have eo : (nI (od i)).toNatClampNeg = od i := nI_clamp (by have := ho i; omega)
  refine pm_Met.mk kX4_splitAt hs (pm_J.run [] 20 (fun K hK => And.intro (vp_in_nI hi (by decide)) (And.intro (by rw [ei]; exact vp_in_nI (ho i) (by decide)) (hK _ ?_))))
  rw [ei, eo]
  exact pm_J.ri ⟨rfl, rfl⟩
def hasS (be od : Nat → Nat) (x : Int32) : Nat → Bool
  | 0 => false
  | i + 1 => hasS be od x i || decide (nI (be (od i)) = x)
theorem hasS_yes {be od : Nat → Nat} {x : Int32} {i : Nat} (h : nI (be (od i)) = x) : ∀ n, i < n → hasS be od x n = true
  | 0, hn => by omega
  | n + 1, hn => by
    unfold hasS
    rcases Nat.lt_or_ge i n with h1 | h1
    · rw [hasS_yes h n h1]; rfl
    · have : i = n := by omega
      subst this
      simp [h]
theorem c_hasSplit (hs : l.stackTraces = false) (ch on ot : Nat → Int32) (be : Nat → Nat) (se : Nat → Int64) (od : Nat → Nat) (inn : Nat) (x : Int32) (h1 : 1 ≤ inn) (h7 : inn ≤ 7) (ho : Bn od) : pm_Met l mX4_hasSplit 2 0 0 [.ref 0, .int x] (trW ch on ot (nA be) se (nA od) (nI inn)) (isI (nI (b2n (hasS be od x (inn - 1)))) (trW ch on ot (nA be) se (nA od) (nI inn))) := by
  refine pm_Met.mk kX4_hasSplit hs (pm_J.run [2] 20 (fun K hK => hK _ ?_))
  have key : hasS be od x 0 = false → pm_J l mX4_hasSplit iX4_hasSplit 2 0 0 7 (isI (nI (b2n (hasS be od x (inn - 1)))) (trW ch on ot (nA be) se (nA od) (nI inn))) 0 0 (2, [some (.ref 0), some (.int x), some (.int (nI 0))], [], trW ch on ot (nA be) se (nA od) (nI inn)) := by
    refine pm_up (b := inn - 1) (P := fun i => hasS be od x i = false → pm_J l mX4_hasSplit iX4_hasSplit 2 0 0 7 (isI (nI (b2n (hasS be od x (inn - 1)))) (trW ch on ot (nA be) se (nA od) (nI inn))) 0 0 (2, [some (.ref 0), some (.int x), some (.int (nI i))], [], trW ch on ot (nA be) se (nA od) (nI inn))) 0 (Nat.zero_le _) (fun hm => ?_) (fun i g1 g2 ih hm => ?_)
    · refine pm_J.run [2] 20 (fun K hK => hK _ ?_)
      refine pm_J.cI [0, 1, 2, 3, 4, 5, 6] (c_splitCount hs ch on ot (nA be) se (nA od) inn h1) gRX4_89 vX4_splitCount ?_
      refine pm_J.run [2] 20 (fun K hK => br_t (nI_le (Nat.le_refl _) (by omega)) (hK _ ?_))
      exact pm_J.ri ⟨by rw [hm]; rfl, rfl⟩
    · refine pm_J.run [2] 20 (fun K hK => hK _ ?_)
      refine pm_J.cI [0, 1, 2, 3, 4, 5, 6] (c_splitCount hs ch on ot (nA be) se (nA od) inn h1) gRX4_89 vX4_splitCount ?_
      refine pm_J.run [2] 20 (fun K hK => br_f (nI_ge g2 (by omega)) (hK _ ?_))
      refine pm_J.cI [0, 1, 2, 3, 4, 5, 6] (c_splitAt hs ch on ot be se od (nI inn) i (by omega) ho) gRX4_93 vX4_splitAt ?_
      refine pm_J.run [2] 20 (fun K hK => And.intro (fun q => hK _ ?_) (fun q => hK _ ?_))
      · have q' : ¬ nI (be (od i)) = x := q
        have := ih (by unfold hasS; rw [hm]; simp [q'])
        rw [← nI_add i 1] at this
        exact this
      · have q' : ¬ ¬ nI (be (od i)) = x := q
        exact pm_J.ri ⟨by rw [hasS_yes (Classical.not_not.mp q') _ g2]; rfl, rfl⟩
  exact key rfl
/-- a tree's cells from the place h on -/
abbrev trAt (h : Nat) (ch on ot be : Nat → Int32) (se : Nat → Int64) (od : Nat → Int32) (inn : Int32) : List pm_E := [.inr (4, [.ref (h + 1), .ref (h + 2), .ref (h + 3), .ref (h + 4), .ref (h + 5), .ref (h + 6), .int inn]), .inl (.int, 7, .inl ch), .inl (.int, 14, .inl on), .inl (.int, 14, .inl ot), .inl (.int, 14, .inl be), .inl (.long, 14, .inr (.inl se)), .inl (.int, 7, .inl od)]
def notIn (be od be2 od2 : Nat → Nat) (n2 : Nat) : Nat → Nat
  | 0 => 0
  | i + 1 => notIn be od be2 od2 n2 i + (if hasS be2 od2 (nI (be (od i))) n2 then 0 else 1)
theorem c_notIn (hs : l.stackTraces = false) (ch on ot : Nat → Int32) (be : Nat → Nat) (se : Nat → Int64) (od : Nat → Nat) (ch2 on2 ot2 : Nat → Int32) (be2 : Nat → Nat) (se2 : Nat → Int64) (od2 : Nat → Nat) (inn : Nat) (h1 : 1 ≤ inn) (h7 : inn ≤ 7) (ho : Bn od) (ho2 : Bn od2) :
    pm_Met l mX4_splitsNotIn 3 0 0 [.ref 0, .ref 7] (trW ch on ot (nA be) se (nA od) (nI inn) ++ trAt 7 ch2 on2 ot2 (nA be2) se2 (nA od2) (nI inn)) (isI (nI (notIn be od be2 od2 (inn - 1) (inn - 1))) (trW ch on ot (nA be) se (nA od) (nI inn) ++ trAt 7 ch2 on2 ot2 (nA be2) se2 (nA od2) (nI inn))) := by
  refine pm_Met.mk kX4_splitsNotIn hs (pm_J.run [4] 20 (fun K hK => hK _ ?_))
  refine pm_up (b := inn - 1) (P := fun i => pm_J l mX4_splitsNotIn iX4_splitsNotIn 3 0 0 14 (isI (nI (notIn be od be2 od2 (inn - 1) (inn - 1))) (trW ch on ot (nA be) se (nA od) (nI inn) ++ trAt 7 ch2 on2 ot2 (nA be2) se2 (nA od2) (nI inn))) 0 0 (4, [some (.ref 0), some (.ref 7), some (.int (nI (notIn be od be2 od2 (inn - 1) i))), some (.int (nI i))], [], trW ch on ot (nA be) se (nA od) (nI inn) ++ trAt 7 ch2 on2 ot2 (nA be2) se2 (nA od2) (nI inn))) 0 (Nat.zero_le _) ?_ (fun i g1 g2 ih => ?_)
  · refine pm_J.run [4] 20 (fun K hK => hK _ ?_)
    refine pm_J.cI [0, 1, 2, 3, 4, 5, 6] (c_splitCount hs ch on ot (nA be) se (nA od) inn h1) gRX4_89 vX4_splitCount ?_
    refine pm_J.run [4] 20 (fun K hK => br_t (nI_le (Nat.le_refl _) (by omega)) (hK _ ?_))
    exact pm_J.ri ⟨rfl, rfl⟩
  · refine pm_J.run [4] 20 (fun K hK => hK _ ?_)
    refine pm_J.cI [0, 1, 2, 3, 4, 5, 6] (c_splitCount hs ch on ot (nA be) se (nA od) inn h1) gRX4_89 vX4_splitCount ?_
    refine pm_J.run [4] 20 (fun K hK => br_f (nI_ge g2 (by omega)) (hK _ ?_))
    refine pm_J.cI [0, 1, 2, 3, 4, 5, 6] (c_splitAt hs ch on ot be se od (nI inn) i (by omega) ho) gRX4_93 vX4_splitAt ?_
    refine pm_J.cI [7, 8, 9, 10, 11, 12, 13] (c_hasSplit hs ch2 on2 ot2 be2 se2 od2 inn (nI (be (od i))) h1 h7 ho2) gRX4_96 vX4_hasSplit ?_
    have e : notIn be od be2 od2 (inn - 1) (i + 1) = notIn be od be2 od2 (inn - 1) i + (if hasS be2 od2 (nI (be (od i))) (inn - 1) then 0 else 1) := rfl
    rw [e, ← nI_add i 1] at ih
    refine pm_J.run [4] 20 (fun K hK => And.intro (fun q => hK _ ?_) (fun q => hK _ ?_))
    · have q' : ¬ nI (b2n (hasS be2 od2 (nI (be (od i))) (inn - 1))) = 0 := q
      cases hm : hasS be2 od2 (nI (be (od i))) (inn - 1) with
      | false => rw [hm] at q'; exact absurd (by decide) q'
      | true =>
        rw [hm, if_pos rfl, Nat.add_zero] at ih
        exact ih
    · have q' : ¬ ¬ nI (b2n (hasS be2 od2 (nI (be (od i))) (inn - 1))) = 0 := q
      cases hm : hasS be2 od2 (nI (be (od i))) (inn - 1) with
      | true => rw [hm] at q'; exact absurd (by decide) q'
      | false =>
        rw [hm, if_neg (by decide), ← nI_add _ 1] at ih
        exact ih
/-- a tree grown and its length -/
theorem c_measure (hs : l.stackTraces = false) (ch : Nat → Nat) (s0 : trS) (se : Nat → Int64) (od : Nat → Nat) (inn x : Nat) (r : Nat → Int64) (wt : Nat → Nat) (k c : Nat) (hT : TrI ch s0 od) (hx : x < 2 ^ 31) (hk3 : 3 ≤ k) (hk : k ≤ 7) (hc : c ≤ 16) :
    pm_Met l mX4_growAndMeasure 4 0 0 [.ref 0, .int (nI x), .ref 7] (trW' ch s0 se od inn ++ tbAt 7 r wt k c)
      (isI (nI (wsum (pkR (grR k x ch s0 od).1.1 (grR k x ch s0 od).1.2.1 (grR k x ch s0 od).2 (seF r se k) (k - 2)) wt c)) (trW' (choF k x ch) (grR k x ch s0 od).1 (pkS (grR k x ch s0 od).1.1 (grR k x ch s0 od).1.2.1 (grR k x ch s0 od).2 (seF r se k) (k - 2)).2.2 (grR k x ch s0 od).2 (k - 2) ++ tbAt 7 r wt k c)) := by
  obtain ⟨t1, t2, t3, t4, t5, t6⟩ := grR_I (x := x) hk hT
  obtain ⟨u1, u2, u3, u4, u5, u6⟩ := hT
  refine pm_Met.mk kX4_growAndMeasure hs (pm_J.run [] 20 (fun K hK => hK _ ?_))
  refine pm_J.cv [0, 1, 2, 3, 4, 5, 6] (trW' (choF k x ch) (grR k x ch s0 od).1 se (grR k x ch s0 od).2 (k - 2) ++ tbAt 7 r wt k c) (c_grow hs ch s0 se od inn x k u1 u2 ⟨u3.Bd, u4.Bd, u5⟩ hx hk3 hk) gRX4_51 vX4_grow ?_
  refine pm_J.run [] 20 (fun K hK => hK _ ?_)
  refine pm_J.cLw [0, 1, 2, 3, 4, 5, 6, 7, 8, 9] (trW' (choF k x ch) (grR k x ch s0 od).1 (pkS (grR k x ch s0 od).1.1 (grR k x ch s0 od).1.2.1 (grR k x ch s0 od).2 (seF r se k) (k - 2)).2.2 (grR k x ch s0 od).2 (k - 2) ++ tbAt 7 r wt k c) (c_packed hs (nA (choF k x ch)) (nA (grR k x ch s0 od).1.2.2) (grR k x ch s0 od).1.1 (grR k x ch s0 od).1.2.1 (grR k x ch s0 od).2 se (k - 2) r wt k c hk (by omega) t3 t4 t6) gRX4_54 vX4_packedChanges ?_
  refine pm_J.cI [7, 8, 9] (c_weighed hs r wt k c hc _) gRX4_58 vX2_weighed ?_
  exact pm_J.ri ⟨rfl, rfl⟩
end TR5
