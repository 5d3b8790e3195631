section MD9
variable {l : Launch}
theorem bit_at16 {x st : Nat} (hx : x < 16) (hst : st < 4) : (nI x >>> (nI st &&& 31)) &&& pm_k 1 = nI (x / 2 ^ st % 2) := bit_at hx hst
theorem ciV_at {stt : Nat → Nat} {c k s : Nat} (hs : s < 4) : ciV stt c (4 * k + s) = if stt (16 * k + c) / 2 ^ s % 2 = 1 then 0 else 99 := by
  unfold ciV
  rw [show (4 * k + s) / 4 = k by omega, show (4 * k + s) % 4 = s by omega]
set_option maxHeartbeats 2000000 in
theorem d_needed (hs : l.stackTraces = false) (A : mA) (P : mP) (T : mT) (F : mF) (tp : Nat) (L R st rd co : Nat → Nat) (S : mS) (W : mW) (th c : Nat) (hk3 : 3 ≤ T.1) (hk : T.1 ≤ 7) (hc : c < 16) (htp : tp < 16) (hL : ∀ j, L j < 16) (hR : ∀ j, R j < 16) (hrd : Bz 128 rd) (hco : CB co) (hstt : ∀ k, k < T.1 → T.2.2.1 (16 * k + c) < 16) :
    pm_Met l mX6_needed 3 0 0 [.ref 0, .int (nI c)] (moW A P T F (tp, L, R, st, rd, co) S W th)
      (isI (nI (ndF T tp L R co c)) (moW A P T F (tp, L, R, st, (ndR T L R co c).1, (ndR T L R co c).2) S W th)) := by
  generalize hO : isI (nI (ndF T tp L R co c)) (moW A P T F (tp, L, R, st, (ndR T L R co c).1, (ndR T L R co c).2) S W th) = O
  have hB0 : BN (rdK T.1, cpF (ciV T.2.2.1 c) co 64 (4 * T.1)) := ⟨rdK_Bz hk, ci_CB hco _⟩
  have hBe : BN (ndR T L R co c) := nsO_BN hk hB0 6
  have ek8 : pm_k 8 + nI T.1 = nI (8 + T.1) := nI_add 8 T.1
  -- the end
  have three : ∀ x1 x2 x3 : Option Value, pm_J l mX6_needed iX6_needed 3 0 0 15 O 0 0 (218, [some (.ref 0), some (.int (nI c)), x1, x2, x3], [], moW A P T F (tp, L, R, st, (ndR T L R co c).1, (ndR T L R co c).2) S W th) := by
    intro x1 x2 x3
    unfold ndF at hO
    generalize ndR T L R co c = z at hO hBe ⊢
    obtain ⟨rd1, co1⟩ := z
    have hC1 : CB co1 := hBe.2
    dsimp only at hO ⊢
    refine pm_J.run [223] 60 (fun K hK => hK _ ?_)
    have go : pm_J l mX6_needed iX6_needed 3 0 0 15 O 0 0 (223, [some (.ref 0), some (.int (nI c)), some (.int (nI (alS co1 tp 0))), some (.int (nI 0)), x3], [], moW A P T F (tp, L, R, st, rd1, co1) S W th) := by
      refine pm_up (b := 4) (P := fun s => pm_J l mX6_needed iX6_needed 3 0 0 15 O 0 0 (223, [some (.ref 0), some (.int (nI c)), some (.int (nI (alS co1 tp s))), some (.int (nI s)), x3], [], moW A P T F (tp, L, R, st, rd1, co1) S W th)) 0 (by decide) ?_ (fun s h1 h2 ih => ?_)
      · refine pm_J.run [] 60 (fun K hK => br_t (nI_le (a := 4) (b := 4) (by decide) (by decide)) (hK _ ?_))
        refine pm_J.ri ?_
        rw [← hO]
        exact ⟨rfl, rfl⟩
      · have ha := alS_le co1 tp s
        have hcs := hC1 s
        have hf : frF co1 tp s ≤ 99 := fmS_le co1 tp s 4
        refine pm_J.run [223] 60 (fun K hK => br_f (nI_ge (a := s) (b := 4) h2 (by decide)) (And.intro (vp_in_nI (by omega) (by decide)) (hK _ ?_)))
        rw [nI_clamp (by omega)]
        refine pm_J.cI q15 (d_from hs A P T F (tp, L, R, st, rd1, co1) S W th s tp h2 htp hC1) gRX6_129 vX6_from ?_
        refine pm_J.run [] 60 (fun K hK => hK _ ?_)
        show pm_J l mX6_needed iX6_needed 3 0 0 15 O 0 0 (245, [some (.ref 0), some (.int (nI c)), some (.int (nI (alS co1 tp s))), some (.int (nI s)), x3], [.int (nI (co1 s) + nI (frF co1 tp s)), .int (nI (alS co1 tp s))], moW A P T F (tp, L, R, st, rd1, co1) S W th)
        rw [nI_add]
        refine pm_J.cis (d_least hs (alS co1 tp s) (co1 s + frF co1 tp s) (by omega) (by omega)) gRX6_126 vX6_least ?_
        have e : alS co1 tp (s + 1) = min (alS co1 tp s) (co1 s + frF co1 tp s) := rfl
        rw [e, ← nI_add s 1] at ih
        refine pm_J.run [223] 60 (fun K hK => hK _ ?_)
        exact ih
    exact go
  -- the rounds
  have two : ∀ x3 x4 : Option Value, pm_J l mX6_needed iX6_needed 3 0 0 15 O 0 0 (91, [some (.ref 0), some (.int (nI c)), some (.int (nI 0)), x3, x4], [], moW A P T F (tp, L, R, st, (nsO L R T.1 (rdK T.1, cpF (ciV T.2.2.1 c) co 64 (4 * T.1)) 0).1, (nsO L R T.1 (rdK T.1, cpF (ciV T.2.2.1 c) co 64 (4 * T.1)) 0).2) S W th) := by
    refine pm_up (b := 6) (P := fun r => ∀ x3 x4 : Option Value, pm_J l mX6_needed iX6_needed 3 0 0 15 O 0 0 (91, [some (.ref 0), some (.int (nI c)), some (.int (nI r)), x3, x4], [], moW A P T F (tp, L, R, st, (nsO L R T.1 (rdK T.1, cpF (ciV T.2.2.1 c) co 64 (4 * T.1)) r).1, (nsO L R T.1 (rdK T.1, cpF (ciV T.2.2.1 c) co 64 (4 * T.1)) r).2) S W th)) 0 (by decide) (fun x3 x4 => ?_) (fun r h1 h2 ih x3 x4 => ?_)
    · refine pm_J.run [218] 60 (fun K hK => br_t (nI_le (a := 6) (b := 6) (by decide) (by decide)) (hK _ ?_))
      exact three _ _ _
    · have hB := nsO_BN (L := L) (R := R) (kn := T.1) hk hB0 r
      have e : nsO L R T.1 (rdK T.1, cpF (ciV T.2.2.1 c) co 64 (4 * T.1)) (r + 1) = nsI L R (nsO L R T.1 (rdK T.1, cpF (ciV T.2.2.1 c) co 64 (4 * T.1)) r) (8 + T.1) := rfl
      rw [e, ← nI_add r 1] at ih
      clear e three
      generalize nsO L R T.1 (rdK T.1, cpF (ciV T.2.2.1 c) co 64 (4 * T.1)) r = s0 at hB ih ⊢
      refine pm_J.run [100] 60 (fun K hK => br_f (nI_ge (a := r) (b := 6) h2 (by decide)) (hK _ ?_))
      have inner : ∀ x4 : Option Value, pm_J l mX6_needed iX6_needed 3 0 0 15 O 0 0 (100, [some (.ref 0), some (.int (nI c)), some (.int (nI r)), some (.int (nI 10)), x4], [], moW A P T F (tp, L, R, st, (nsI L R s0 10).1, (nsI L R s0 10).2) S W th) := by
        refine pm_up (b := 8 + T.1) (P := fun k => ∀ x4 : Option Value, pm_J l mX6_needed iX6_needed 3 0 0 15 O 0 0 (100, [some (.ref 0), some (.int (nI c)), some (.int (nI r)), some (.int (nI k)), x4], [], moW A P T F (tp, L, R, st, (nsI L R s0 k).1, (nsI L R s0 k).2) S W th)) 10 (by omega) (fun x4 => ?_) (fun k g1 g2 ih2 x4 => ?_)
        · refine pm_J.run [91] 60 (fun K hK => br_t (by show pm_k 8 + nI T.1 ≤ nI (8 + T.1); rw [ek8]; exact Int32.le_refl _) (hK _ ?_))
          exact ih _ _
        · have hBk := nsI_BN (L := L) (R := R) hB k (by omega)
          have e : nsI L R s0 (k + 1) = nsT L R (nsI L R s0 k) k := by rw [nsI, if_neg (by omega)]
          rw [e, ← nI_add k 1, nsT] at ih2
          clear e
          generalize nsI L R s0 k = s1 at hBk ih2 ⊢
          obtain ⟨rd1, co1⟩ := s1
          have hR1 : Bz 128 rd1 := hBk.1
          have hC1 : CB co1 := hBk.2
          dsimp only at ih2 ⊢
          have ek : (nI k).toNatClampNeg = k := nI_clamp (by omega)
          have eL : (nI (L k)).toNatClampNeg = L k := nI_clamp (by have := hL k; omega)
          have eR : (nI (R k)).toNatClampNeg = R k := nI_clamp (by have := hR k; omega)
          have ii : vp_in (nI k) 16 := vp_in_nI (by omega) (by decide)
          have iL : vp_in (nI (L (nI k).toNatClampNeg)) 16 := by rw [ek]; exact vp_in_nI (hL k) (by decide)
          have iR : vp_in (nI (R (nI k).toNatClampNeg)) 16 := by rw [ek]; exact vp_in_nI (hR k) (by decide)
          have hz : ∀ j, nI (rd1 j) = 0 ↔ rd1 j = 0 := fun j => nI_z (by have : rd1 j < 128 := hR1.1 j; omega)
          have skip : ¬ (rd1 k = 0 ∧ ¬ rd1 (L k) = 0 ∧ ¬ rd1 (R k) = 0) → pm_J l mX6_needed iX6_needed 3 0 0 15 O 0 0 (206, [some (.ref 0), some (.int (nI c)), some (.int (nI r)), some (.int (nI k)), x4], [], moW A P T F (tp, L, R, st, rd1, co1) S W th) := by
            intro hq
            have ih3 := ih2 x4
            rw [if_neg hq] at ih3
            refine pm_J.run [100] 60 (fun K hK => hK _ ?_)
            exact ih3
          refine pm_J.run [151, 206] 80 (fun K hK => br_f (by show ¬ pm_k 8 + nI T.1 ≤ nI k; rw [ek8]; exact nI_ge g2 (by omega)) ?_)
          refine And.intro ii (And.intro (fun q => hK _ ?_) (fun q => And.intro ii (And.intro iL (And.intro (fun q2 => hK _ ?_) (fun q2 => And.intro ii (And.intro iR (And.intro (fun q3 => hK _ ?_) (fun q3 => hK _ ?_))))))))
          · have q' : ¬ nI (rd1 (nI k).toNatClampNeg) = 0 := q
            rw [ek, hz] at q'
            exact skip (fun z => q' z.1)
          · have q' : nI (rd1 (nI (L (nI k).toNatClampNeg)).toNatClampNeg) = 0 := q2
            rw [ek, eL, hz] at q'
            exact skip (fun z => z.2.1 q')
          · have q' : nI (rd1 (nI (R (nI k).toNatClampNeg)).toNatClampNeg) = 0 := q3
            rw [ek, eR, hz] at q'
            exact skip (fun z => z.2.2 q')
          · have q1' : ¬ ¬ nI (rd1 (nI k).toNatClampNeg) = 0 := q
            have q2' : ¬ nI (rd1 (nI (L (nI k).toNatClampNeg)).toNatClampNeg) = 0 := q2
            have q3' : ¬ nI (rd1 (nI (R (nI k).toNatClampNeg)).toNatClampNeg) = 0 := q3
            rw [ek, hz] at q1'
            rw [ek, eL, hz] at q2'
            rw [ek, eR, hz] at q3'
            have cell : pm_J l mX6_needed iX6_needed 3 0 0 15 O 0 0 (151, [some (.ref 0), some (.int (nI c)), some (.int (nI r)), some (.int (nI k)), some (.int (nI 0))], [], moW A P T F (tp, L, R, st, rd1, ncS L R k co1 0) S W th) := by
              refine pm_up (b := 4) (P := fun s => pm_J l mX6_needed iX6_needed 3 0 0 15 O 0 0 (151, [some (.ref 0), some (.int (nI c)), some (.int (nI r)), some (.int (nI k)), some (.int (nI s))], [], moW A P T F (tp, L, R, st, rd1, ncS L R k co1 s) S W th)) 0 (by decide) ?_ (fun s s1 s2 ih4 => ?_)
              · have ih3 := ih2 (some (.int (nI 4)))
                rw [if_pos ⟨Classical.not_not.mp q1', q2', q3'⟩] at ih3
                unfold moW at ih3
                dsimp only at ih3
                rw [← nA_upd rd1] at ih3
                refine pm_J.run [100] 60 (fun K hK => br_t (nI_le (a := 4) (b := 4) (by decide) (by decide)) (And.intro ii (hK _ ?_)))
                rw [ek]
                exact ih3
              · have hCs := ncS_CB (L := L) (R := R) (k := k) hC1 s
                have e4 : pm_k 4 * nI k + nI s = nI (4 * k + s) := by
                  show nI 4 * nI k + nI s = _
                  rw [pk_mul, nI_add]
                have e : ncS L R k co1 (s + 1) = upN (ncS L R k co1 s) (4 * k + s) (frF (ncS L R k co1 s) (L k) s + frF (ncS L R k co1 s) (R k) s) := rfl
                rw [e] at ih4
                unfold moW at ih4
                dsimp only at ih4
                rw [← nA_upd (ncS L R k co1 s), ← nI_add (frF (ncS L R k co1 s) (L k) s), ← nI_add s 1] at ih4
                refine pm_J.run [151] 60 (fun K hK => br_f (nI_ge (a := s) (b := 4) s2 (by decide)) (And.intro ii (hK _ ?_)))
                rw [ek, e4]
                refine pm_J.cI q15 (d_from hs A P T F (tp, L, R, st, rd1, ncS L R k co1 s) S W th s (L k) s2 (hL k) hCs) gRX6_129 vX6_from ?_
                refine pm_J.run [151] 60 (fun K hK => And.intro ii (hK _ ?_))
                rw [ek]
                refine pm_J.cI q15 (d_from hs A P T F (tp, L, R, st, rd1, ncS L R k co1 s) S W th s (R k) s2 (hR k) hCs) gRX6_129 vX6_from ?_
                refine pm_J.run [151] 60 (fun K hK => And.intro (vp_in_nI (by omega) (by decide)) (hK _ ?_))
                rw [nI_clamp (by omega)]
                exact ih4
            exact cell
      have i0 : nsI L R s0 10 = s0 := by rw [nsI, if_pos (by decide)]
      rw [i0] at inner
      exact inner _
  have one : ∀ x3 : Option Value, pm_J l mX6_needed iX6_needed 3 0 0 15 O 0 0 (2, [some (.ref 0), some (.int (nI c)), some (.int (nI 0)), x3, none], [], moW A P T F (tp, L, R, st, cpF (rdK T.1) rd 16 0, cpF (ciV T.2.2.1 c) co 64 (4 * min 0 T.1)) S W th) := by
    refine pm_up (b := 16) (P := fun k => ∀ x3 : Option Value, pm_J l mX6_needed iX6_needed 3 0 0 15 O 0 0 (2, [some (.ref 0), some (.int (nI c)), some (.int (nI k)), x3, none], [], moW A P T F (tp, L, R, st, cpF (rdK T.1) rd 16 k, cpF (ciV T.2.2.1 c) co 64 (4 * min k T.1)) S W th)) 0 (by decide) (fun x3 => ?_) (fun k h1 h2 ih x3 => ?_)
    · rw [cpF_z hrd (rdK_Bz hk).2, Nat.min_eq_right (by omega : T.1 ≤ 16)]
      refine pm_J.run [91] 60 (fun K hK => br_t (nI_le (a := 16) (b := 16) (by decide) (by decide)) (hK _ ?_))
      exact two _ _
    · have ek : (nI k).toNatClampNeg = k := nI_clamp (by omega)
      have ii : vp_in (nI k) 16 := vp_in_nI (by omega) (by decide)
      clear two three
      by_cases h8 : k < T.1
      · have ih := ih (some (.int (nI 4)))
        rw [cpF_s _ _ _ k, rdK, if_pos h8, Nat.min_eq_left (by omega : k + 1 ≤ T.1), ← nI_add k 1] at ih
        rw [Nat.min_eq_left (by omega : k ≤ T.1)]
        refine pm_J.run [29] 60 (fun K hK => br_f (nI_ge (a := k) (b := 16) h2 (by decide)) (br_f (nI_ge (a := k) (b := T.1) h8 (by omega)) (And.intro ii (hK _ ?_))))
        have inner : pm_J l mX6_needed iX6_needed 3 0 0 15 O 0 0 (29, [some (.ref 0), some (.int (nI c)), some (.int (nI k)), some (.int (nI 0)), none], [], moW A P T F (tp, L, R, st, upN (cpF (rdK T.1) rd 16 k) k 1, cpF (ciV T.2.2.1 c) co 64 (4 * k + 0)) S W th) := by
          refine pm_up (b := 4) (P := fun s => pm_J l mX6_needed iX6_needed 3 0 0 15 O 0 0 (29, [some (.ref 0), some (.int (nI c)), some (.int (nI k)), some (.int (nI s)), none], [], moW A P T F (tp, L, R, st, upN (cpF (rdK T.1) rd 16 k) k 1, cpF (ciV T.2.2.1 c) co 64 (4 * k + s)) S W th)) 0 (by decide) ?_ (fun s s1 s2 ih2 => ?_)
          · refine pm_J.run [2] 60 (fun K hK => br_t (nI_le (a := 4) (b := 4) (by decide) (by decide)) (hK _ ?_))
            exact ih
          · have e4 : pm_k 4 * nI k + nI s = nI (4 * k + s) := by
              show nI 4 * nI k + nI s = _
              rw [pk_mul, nI_add]
            have e16 : pm_k 16 * nI k + nI c = nI (16 * k + c) := by
              show nI 16 * nI k + nI c = _
              rw [pk_mul, nI_add]
            have hb := hstt k (by omega)
            rw [show 4 * k + (s + 1) = (4 * k + s) + 1 by omega, cpF_s _ _ _ (4 * k + s), ciV_at s2] at ih2
            unfold moW at ih2
            dsimp only at ih2
            rw [← nA_upd (cpF (ciV T.2.2.1 c) co 64 (4 * k + s)), ← nI_add s 1] at ih2
            have i1 : vp_in (pm_k 16 * nI k + nI c) 112 := by rw [e16]; exact vp_in_nI (by omega) (by decide)
            have i2 : vp_in (pm_k 4 * nI k + nI s) 64 := by rw [e4]; exact vp_in_nI (by omega) (by decide)
            refine pm_J.run [29] 80 (fun K hK => br_f (nI_ge (a := s) (b := 4) s2 (by decide)) (br_f (nI_ge (a := k) (b := T.1) h8 (by omega)) (And.intro i1 (And.intro (fun q => And.intro i2 (hK _ ?_)) (fun q => And.intro i2 (hK _ ?_))))))
            · have q' : ¬ (nI (T.2.2.1 (pm_k 16 * nI k + nI c).toNatClampNeg) >>> (nI s &&& 31)) &&& pm_k 1 = nI 1 := q
              rw [e16, nI_clamp (by omega), bit_at16 hb s2, nI_e128 (by omega) (by decide)] at q'
              rw [if_neg q'] at ih2
              rw [e4, nI_clamp (by omega)]
              exact ih2
            · have q' : ¬ ¬ (nI (T.2.2.1 (pm_k 16 * nI k + nI c).toNatClampNeg) >>> (nI s &&& 31)) &&& pm_k 1 = nI 1 := q
              rw [e16, nI_clamp (by omega), bit_at16 hb s2, nI_e128 (by omega) (by decide)] at q'
              rw [if_pos (Classical.not_not.mp q')] at ih2
              rw [e4, nI_clamp (by omega)]
              exact ih2
        unfold moW at inner
        dsimp only at inner
        rw [← nA_upd (cpF (rdK T.1) rd 16 k)] at inner
        rw [ek]
        exact inner
      · have ih := ih (some (.int (nI 0)))
        rw [cpF_s _ _ _ k, rdK, if_neg h8, Nat.min_eq_right (by omega : T.1 ≤ k + 1), ← nI_add k 1] at ih
        rw [Nat.min_eq_right (by omega : T.1 ≤ k)]
        unfold moW at ih
        dsimp only at ih
        rw [← nA_upd (cpF (rdK T.1) rd 16 k)] at ih
        refine pm_J.run [2] 60 (fun K hK => br_f (nI_ge (a := k) (b := 16) h2 (by decide)) (br_t (nI_le (a := T.1) (b := k) (by omega) (by omega)) (And.intro ii (br_f (by decide) (br_t (nI_le (a := T.1) (b := k) (by omega) (by omega)) (hK _ ?_))))))
        rw [ek]
        exact ih
  refine pm_Met.mk kX6_needed hs (pm_J.run [2] 40 (fun K hK => hK _ ?_))
  have := one none
  rw [cpF_0, Nat.zero_min, Nat.mul_zero, cpF_0] at this
  exact this
end MD9
