section MD6
variable {l : Launch}
def B8 (f : Nat → Nat) : Prop := ∀ j, f j < 256
theorem B8.up {f : Nat → Nat} (h : B8 f) {k v : Nat} (hv : v < 256) : B8 (upN f k v) := fun j => by
  unfold upN
  split
  · exact hv
  · exact h j
theorem nI_e256 {a b : Nat} (ha : a < 256) (hb : b < 256) : nI a = nI b ↔ a = b := nI_eq (by omega) (by omega)
abbrev rdsT : Type := (Nat → Nat) × (Nat → Nat)
def gsT (L R : Nat → Nat) (s : rdsT) (k : Nat) : rdsT := if s.1 k = 0 ∧ ¬ s.1 (L k) = 0 ∧ ¬ s.1 (R k) = 0 then (upN s.1 k 1, upN s.2 k (s.2 (L k) ||| s.2 (R k))) else s
def gsI (L R : Nat → Nat) (s : rdsT) : Nat → rdsT
  | 0 => s
  | k + 1 => if k < 10 then s else gsT L R (gsI L R s k) k
def gsO (L R : Nat → Nat) (kn : Nat) (s : rdsT) : Nat → rdsT
  | 0 => s
  | r + 1 => gsI L R (gsO L R kn s r) (8 + kn)
def BR (s : rdsT) : Prop := Bd s.1 ∧ B8 s.2
theorem gsT_BR {L R : Nat → Nat} {s : rdsT} {k : Nat} (h : BR s) : BR (gsT L R s k) := by
  unfold gsT
  split
  · exact ⟨h.1.up (by decide), h.2.up (Nat.or_lt_two_pow (n := 8) (h.2 _) (h.2 _))⟩
  · exact h
theorem gsI_BR {L R : Nat → Nat} {s : rdsT} (h : BR s) : ∀ k, BR (gsI L R s k)
  | 0 => h
  | k + 1 => by
    unfold gsI
    split
    · exact h
    · exact gsT_BR (gsI_BR h k)
theorem gsO_BR {L R : Nat → Nat} {kn : Nat} {s : rdsT} (h : BR s) : ∀ r, BR (gsO L R kn s r)
  | 0 => h
  | r + 1 => gsI_BR (gsO_BR h r) _
def spS (st : Nat → Nat) (kn : Nat) (ss0 : Nat → Nat) : Nat → Nat × (Nat → Nat)
  | 0 => (0, ss0)
  | k + 1 => if k < 10 then (0, ss0) else if st k = 2 ^ kn - 2 then spS st kn ss0 k else ((spS st kn ss0 k).1 + 1, upN (spS st kn ss0 k).2 (spS st kn ss0 k).1 (st k))
theorem spS_le (st : Nat → Nat) (kn : Nat) (ss0 : Nat → Nat) : ∀ k, (spS st kn ss0 k).1 ≤ k - 10
  | 0 => Nat.le_refl _
  | k + 1 => by
    have := spS_le st kn ss0 k
    unfold spS
    split
    · exact Nat.zero_le _
    · split
      · omega
      · show _ + 1 ≤ k + 1 - 10; omega
theorem cpF_Bd {f g : Nat → Nat} {n i : Nat} (hf : Bd f) (hg : Bd g) : Bd (cpF f g n i) := fun j => by
  unfold cpF; split
  · exact hf j
  · exact hg j
theorem cpF_B8 {f g : Nat → Nat} {n i : Nat} (hf : B8 f) (hg : B8 g) : B8 (cpF f g n i) := fun j => by
  unfold cpF; split
  · exact hf j
  · exact hg j
def rdI (k : Nat) : Nat := if k < 8 then 1 else 0
def stI (k : Nat) : Nat := if k < 8 then 2 ^ k else 0
theorem rdI_Bd : Bd rdI := fun j => by unfold rdI; split <;> omega
theorem stI_B8 : B8 stI := fun j => by
  unfold stI; split
  · have : 2 ^ j < 2 ^ 8 := Nat.pow_lt_pow_right (by decide) (by assumption)
    omega
  · decide
def gsR (L R : Nat → Nat) (kn : Nat) (rd st : Nat → Nat) : rdsT := gsO L R kn (cpF rdI rd 16 16, cpF stI st 16 16) 6
set_option maxHeartbeats 2000000 in
theorem d_gather (hs : l.stackTraces = false) (A : mA) (P : mP) (T : mT) (F : mF) (tp : Nat) (L R st rd co : Nat → Nat) (S : mS) (W : mW) (th : Nat) (hk3 : 3 ≤ T.1) (hk : T.1 ≤ 7) (hL : ∀ j, L j < 16) (hR : ∀ j, R j < 16) (hst : B8 st) (hrd : Bd rd) :
    pm_Met l mX6_gather 1 0 0 [.ref 0] (moW A P T F (tp, L, R, st, rd, co) S W th)
      (isO none (moW A P T F (tp, L, R, (gsR L R T.1 rd st).2, (gsR L R T.1 rd st).1, co) ((spS (gsR L R T.1 rd st).2 T.1 S.2.1 (8 + T.1)).1, (spS (gsR L R T.1 rd st).2 T.1 S.2.1 (8 + T.1)).2, S.2.2) W th)) := by
  generalize hO : isO none (moW A P T F (tp, L, R, (gsR L R T.1 rd st).2, (gsR L R T.1 rd st).1, co) ((spS (gsR L R T.1 rd st).2 T.1 S.2.1 (8 + T.1)).1, (spS (gsR L R T.1 rd st).2 T.1 S.2.1 (8 + T.1)).2, S.2.2) W th) = O
  have hB0 : BR (cpF rdI rd 16 16, cpF stI st 16 16) := ⟨cpF_Bd (n := 16) rdI_Bd hrd, cpF_B8 (n := 16) stI_B8 hst⟩
  have hBe : BR (gsR L R T.1 rd st) := gsO_BR hB0 6
  have ek8 : pm_k 8 + nI T.1 = nI (8 + T.1) := nI_add 8 T.1
  have hp7 : 2 ^ T.1 ≤ 2 ^ 7 := Nat.pow_le_pow_right (by decide) hk
  -- the splits
  have three : ∀ x1 x2, pm_J l mX6_gather iX6_gather 1 0 0 15 O 0 0 (157, [some (.ref 0), x1, x2], [], moW A P T F (tp, L, R, (gsR L R T.1 rd st).2, (gsR L R T.1 rd st).1, co) S W th) := by
    intro x1 x2
    generalize gsR L R T.1 rd st = z at hO hBe ⊢
    obtain ⟨rd1, st1⟩ := z
    dsimp only at hO hBe ⊢
    refine pm_J.run [165] 60 (fun K hK => hK _ ?_)
    have go : ∀ i, 10 ≤ i → i ≤ 8 + T.1 → pm_J l mX6_gather iX6_gather 1 0 0 15 O 0 0 (165, [some (.ref 0), some (.int (nI i)), x2], [], moW A P T F (tp, L, R, st1, rd1, co) ((spS st1 T.1 S.2.1 i).1, (spS st1 T.1 S.2.1 i).2, S.2.2) W th) := by
      intro i0 hi0 hi1
      refine pm_up (b := 8 + T.1) (P := fun i => pm_J l mX6_gather iX6_gather 1 0 0 15 O 0 0 (165, [some (.ref 0), some (.int (nI i)), x2], [], moW A P T F (tp, L, R, st1, rd1, co) ((spS st1 T.1 S.2.1 i).1, (spS st1 T.1 S.2.1 i).2, S.2.2) W th)) i0 hi1 ?_ (fun i h1 h2 ih => ?_)
      · refine pm_J.run [] 60 (fun K hK => br_t (by show pm_k 8 + nI T.1 ≤ nI (8 + T.1); rw [ek8]; exact Int32.le_refl _) (hK _ ?_))
        refine pm_J.rv ?_
        rw [← hO]
        exact ⟨rfl, rfl⟩
      · have ei : (nI i).toNatClampNeg = i := nI_clamp (by omega)
        have ii : vp_in (nI i) 16 := vp_in_nI (by omega) (by decide)
        have hle := spS_le st1 T.1 S.2.1 i
        have em : nI 1 <<< (nI T.1 &&& 31) - nI 2 = nI (2 ^ T.1 - 2) ∨ T.1 = 0 := by
          by_cases h0 : T.1 = 0
          · exact Or.inr h0
          · refine Or.inl ?_
            have : 2 ^ 1 ≤ 2 ^ T.1 := Nat.pow_le_pow_right (by decide) (by omega)
            rw [nI_shl1 (by omega), pk_sub (by omega)]
        have em' : pm_k 1 <<< (nI T.1 &&& 31) - pm_k 2 = nI (2 ^ T.1 - 2) := by
          rcases em with em | em
          · exact em
          · omega
        have e : spS st1 T.1 S.2.1 (i + 1) = if st1 i = 2 ^ T.1 - 2 then spS st1 T.1 S.2.1 i else ((spS st1 T.1 S.2.1 i).1 + 1, upN (spS st1 T.1 S.2.1 i).2 (spS st1 T.1 S.2.1 i).1 (st1 i)) := by rw [spS, if_neg (by omega)]
        rw [e, ← nI_add i 1] at ih
        clear e
        refine pm_J.run [165] 60 (fun K hK => br_f (by show ¬ pm_k 8 + nI T.1 ≤ nI i; rw [ek8]; exact nI_ge h2 (by omega)) (And.intro ii (And.intro (fun q => hK _ ?_) (fun q => And.intro ii (And.intro (vp_in_nI (by omega) (by decide)) (hK _ ?_))))))
        · have q' : nI (st1 (nI i).toNatClampNeg) = pm_k 1 <<< (nI T.1 &&& 31) - pm_k 2 := q
          rw [ei, em', nI_e256 (hBe.2 i) (by omega)] at q'
          rw [if_pos q'] at ih
          exact ih
        · have q' : ¬ nI (st1 (nI i).toNatClampNeg) = pm_k 1 <<< (nI T.1 &&& 31) - pm_k 2 := q
          rw [ei, em', nI_e256 (hBe.2 i) (by omega)] at q'
          rw [if_neg q'] at ih
          unfold moW at ih
          dsimp only at ih
          rw [← nA_upd, ← nI_add (spS st1 T.1 S.2.1 i).1 1] at ih
          rw [ei, nI_clamp (by omega)]
          exact ih
    by_cases h2 : 2 ≤ T.1
    · have := go 10 (Nat.le_refl _) (by omega)
      have e : spS st1 T.1 S.2.1 10 = (0, S.2.1) := by rw [spS, if_pos (by decide)]
      rw [e] at this
      exact this
    · have e : spS st1 T.1 S.2.1 (8 + T.1) = (0, S.2.1) := by
        rw [show 8 + T.1 = (7 + T.1) + 1 by omega, spS, if_pos (by omega)]
      rw [e] at hO
      refine pm_J.run [] 60 (fun K hK => br_t (by show pm_k 8 + nI T.1 ≤ nI 10; rw [ek8]; exact nI_le (by omega) (by omega)) (hK _ ?_))
      refine pm_J.rv ?_
      rw [← hO]
      exact ⟨rfl, rfl⟩
  -- the rounds
  have two : ∀ x2, pm_J l mX6_gather iX6_gather 1 0 0 15 O 0 0 (52, [some (.ref 0), some (.int (nI 0)), x2], [], moW A P T F (tp, L, R, (gsO L R T.1 (cpF rdI rd 16 16, cpF stI st 16 16) 0).2, (gsO L R T.1 (cpF rdI rd 16 16, cpF stI st 16 16) 0).1, co) S W th) := by
    refine pm_up (b := 6) (P := fun r => ∀ x2, pm_J l mX6_gather iX6_gather 1 0 0 15 O 0 0 (52, [some (.ref 0), some (.int (nI r)), x2], [], moW A P T F (tp, L, R, (gsO L R T.1 (cpF rdI rd 16 16, cpF stI st 16 16) r).2, (gsO L R T.1 (cpF rdI rd 16 16, cpF stI st 16 16) r).1, co) S W th)) 0 (by decide) (fun x2 => ?_) (fun r h1 h2 ih x2 => ?_)
    · refine pm_J.run [157] 60 (fun K hK => br_t (nI_le (a := 6) (b := 6) (by decide) (by decide)) (hK _ ?_))
      exact three _ _
    · have hB := gsO_BR (L := L) (R := R) (kn := T.1) hB0 r
      have e : gsO L R T.1 (cpF rdI rd 16 16, cpF stI st 16 16) (r + 1) = gsI L R (gsO L R T.1 (cpF rdI rd 16 16, cpF stI st 16 16) r) (8 + T.1) := rfl
      rw [e, ← nI_add r 1] at ih
      clear e three
      generalize gsO L R T.1 (cpF rdI rd 16 16, cpF stI st 16 16) r = s0 at hB ih ⊢
      refine pm_J.run [61] 60 (fun K hK => br_f (nI_ge (a := r) (b := 6) h2 (by decide)) (hK _ ?_))
      have inner : pm_J l mX6_gather iX6_gather 1 0 0 15 O 0 0 (61, [some (.ref 0), some (.int (nI r)), some (.int (nI 10))], [], moW A P T F (tp, L, R, (gsI L R s0 10).2, (gsI L R s0 10).1, co) S W th) := by
        refine pm_up (b := 8 + T.1) (P := fun k => pm_J l mX6_gather iX6_gather 1 0 0 15 O 0 0 (61, [some (.ref 0), some (.int (nI r)), some (.int (nI k))], [], moW A P T F (tp, L, R, (gsI L R s0 k).2, (gsI L R s0 k).1, co) S W th)) 10 (by omega) ?_ (fun k g1 g2 ih2 => ?_)
        · refine pm_J.run [52] 60 (fun K hK => br_t (by show pm_k 8 + nI T.1 ≤ nI (8 + T.1); rw [ek8]; exact Int32.le_refl _) (hK _ ?_))
          exact ih _
        · have hBk := gsI_BR (L := L) (R := R) hB k
          have e : gsI L R s0 (k + 1) = gsT L R (gsI L R s0 k) k := by rw [gsI, if_neg (by omega)]
          rw [e, ← nI_add k 1, gsT] at ih2
          clear e
          generalize gsI L R s0 k = s1 at hBk ih2 ⊢
          obtain ⟨rd1, st1⟩ := s1
          dsimp only at hBk ih2 ⊢
          have ek : (nI k).toNatClampNeg = k := nI_clamp (by omega)
          have eL : (nI (L k)).toNatClampNeg = L k := nI_clamp (by have := hL k; omega)
          have eR : (nI (R k)).toNatClampNeg = R k := nI_clamp (by have := hR k; omega)
          have ii : vp_in (nI k) 16 := vp_in_nI (by omega) (by decide)
          have iL : vp_in (nI (L (nI k).toNatClampNeg)) 16 := by rw [ek]; exact vp_in_nI (hL k) (by decide)
          have iR : vp_in (nI (R (nI k).toNatClampNeg)) 16 := by rw [ek]; exact vp_in_nI (hR k) (by decide)
          have hz : ∀ j, nI (rd1 j) = 0 ↔ rd1 j = 0 := fun j => nI_z (by have : rd1 j < 128 := hBk.1 j; omega)
          have skip : ¬ (rd1 k = 0 ∧ ¬ rd1 (L k) = 0 ∧ ¬ rd1 (R k) = 0) → pm_J l mX6_gather iX6_gather 1 0 0 15 O 0 0 (145, [some (.ref 0), some (.int (nI r)), some (.int (nI k))], [], moW A P T F (tp, L, R, st1, rd1, co) S W th) := by
            intro hq
            rw [if_neg hq] at ih2
            refine pm_J.run [61] 60 (fun K hK => hK _ ?_)
            exact ih2
          refine pm_J.run [61, 145] 80 (fun K hK => br_f (by show ¬ pm_k 8 + nI T.1 ≤ nI k; rw [ek8]; exact nI_ge g2 (by omega)) ?_)
          refine And.intro ii (And.intro (fun q => hK _ ?_) (fun q => And.intro ii (And.intro iL (And.intro (fun q2 => hK _ ?_) (fun q2 => And.intro ii (And.intro iR (And.intro (fun q3 => hK _ ?_) (fun q3 => ?_))))))))
          rotate_left 3
          refine And.intro ii (And.intro iL (And.intro ii (And.intro iR (And.intro ii (And.intro ii (hK _ ?_))))))
          rotate_left 1
          · have q' : ¬ nI (rd1 (nI k).toNatClampNeg) = 0 := q
            rw [ek, hz] at q'
            exact skip (fun z => q' z.1)
          · have q' : nI (rd1 (nI (L (nI k).toNatClampNeg)).toNatClampNeg) = 0 := q2
            rw [ek, eL, hz] at q'
            exact skip (fun z => z.2.1 q')
          · have q' : nI (rd1 (nI (R (nI k).toNatClampNeg)).toNatClampNeg) = 0 := q3
            rw [ek, eR, hz] at q'
            exact skip (fun z => z.2.2 q')
          · have q1' : ¬ ¬ nI (rd1 (nI k).toNatClampNeg) = 0 := q
            have q2' : ¬ nI (rd1 (nI (L (nI k).toNatClampNeg)).toNatClampNeg) = 0 := q2
            have q3' : ¬ nI (rd1 (nI (R (nI k).toNatClampNeg)).toNatClampNeg) = 0 := q3
            rw [ek, hz] at q1'
            rw [ek, eL, hz] at q2'
            rw [ek, eR, hz] at q3'
            rw [if_pos ⟨Classical.not_not.mp q1', q2', q3'⟩] at ih2
            unfold moW at ih2
            dsimp only at ih2
            rw [← nA_upd st1, ← nA_upd rd1, ← nx_or] at ih2
            rw [ek]
            show pm_J l mX6_gather iX6_gather 1 0 0 15 O 0 0 (145, [some (.ref 0), some (.int (nI r)), some (.int (nI k))], [], [_, _, _, _, _, _, _, _, .inl (.int, 16, .inl (upd (nA st1) k (nI (st1 (nI (L k)).toNatClampNeg) ||| nI (st1 (nI (R k)).toNatClampNeg)))), .inl (.boolean, 16, .inl (upd (nA rd1) k (nI 1))), _, _, _, _, _])
            rw [eL, eR]
            refine pm_J.run [61] 60 (fun K hK => hK _ ?_)
            exact ih2
      exact inner
  have one : pm_J l mX6_gather iX6_gather 1 0 0 15 O 0 0 (2, [some (.ref 0), some (.int (nI 0)), none], [], moW A P T F (tp, L, R, cpF stI st 16 0, cpF rdI rd 16 0, co) S W th) := by
    refine pm_up (b := 16) (P := fun k => pm_J l mX6_gather iX6_gather 1 0 0 15 O 0 0 (2, [some (.ref 0), some (.int (nI k)), none], [], moW A P T F (tp, L, R, cpF stI st 16 k, cpF rdI rd 16 k, co) S W th)) 0 (by decide) ?_ (fun k h1 h2 ih => ?_)
    · refine pm_J.run [52] 60 (fun K hK => br_t (nI_le (a := 16) (b := 16) (by decide) (by decide)) (hK _ ?_))
      exact two _
    · have ek : (nI k).toNatClampNeg = k := nI_clamp (by omega)
      have ii : vp_in (nI k) 16 := vp_in_nI (by omega) (by decide)
      rw [cpF_s _ _ _ k, cpF_s _ _ _ k] at ih
      unfold moW at ih
      dsimp only at ih
      rw [← nA_upd (cpF stI st 16 k), ← nA_upd (cpF rdI rd 16 k), ← nI_add k 1] at ih
      by_cases h8 : k < 8
      · rw [stI, rdI, if_pos h8, if_pos h8, ← nI_shl1 (by omega)] at ih
        refine pm_J.run [2] 60 (fun K hK => br_f (nI_ge (a := k) (b := 16) h2 (by decide)) (br_f (nI_ge (a := k) (b := 8) h8 (by decide)) (And.intro ii (br_f (nI_ge (a := k) (b := 8) h8 (by decide)) (And.intro ii (hK _ ?_))))))
        rw [ek]
        exact ih
      · rw [stI, rdI, if_neg h8, if_neg h8] at ih
        refine pm_J.run [2] 60 (fun K hK => br_f (nI_ge (a := k) (b := 16) h2 (by decide)) (br_t (nI_le (a := 8) (b := k) (by omega) (by omega)) (And.intro ii (br_t (nI_le (a := 8) (b := k) (by omega) (by omega)) (And.intro ii (hK _ ?_))))))
        rw [ek]
        exact ih
  refine pm_Met.mk kX6_gather hs (pm_J.run [2] 40 (fun K hK => hK _ ?_))
  rw [cpF_0, cpF_0] at one
  exact one
end MD6
