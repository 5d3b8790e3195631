section MDE
variable {l : Launch}
def meQ (stt : Nat → Nat) (c s : Nat) : Nat → Bool
  | 0 => true
  | k + 1 => meQ stt c s k && ((stt (16 * k + c) &&& s) != 0)
def fwQ (stt : Nat → Nat) (kn c : Nat) : Nat → Nat
  | 0 => 4
  | s + 1 => if s = 0 then 4 else if meQ stt c s kn then min (fwQ stt kn c s) (onS s 8) else fwQ stt kn c s
theorem fwQ_le (stt : Nat → Nat) (kn c : Nat) : ∀ s, fwQ stt kn c s ≤ 4
  | 0 => Nat.le_refl _
  | s + 1 => by
    have := fwQ_le stt kn c s
    unfold fwQ
    split
    · omega
    · split
      · exact Nat.le_trans (Nat.min_le_left _ _) this
      · exact this
theorem onS_pos {s : Nat} (h0 : 0 < s) (h : s < 16) : 0 < onS s 8 := by
  have hq : ∀ s, s < 16 → 0 < s → 0 < onS s 8 := by decide
  exact hq s h h0
theorem fwQ_pos (stt : Nat → Nat) (kn c : Nat) : ∀ s, s ≤ 16 → 1 ≤ fwQ stt kn c s
  | 0, _ => (by decide : 1 ≤ 4)
  | s + 1, h => by
    have := fwQ_pos stt kn c s (by omega)
    unfold fwQ
    split
    · omega
    · split
      · have := onS_pos (s := s) (by omega) (by omega)
        omega
      · exact this
theorem d_leastOf (hs : l.stackTraces = false) (A : mA) (P : mP) (T : mT) (F : mF) (G : mG) (S : mS) (W : mW) (th c : Nat) (hT : TbI T) (hcT : c < T.2.1) :
    pm_Met l mX6_leastOf 2 0 0 [.ref 0, .int (nI c)] (moW A P T F G S W th) (isI (nI (fwQ T.2.2.1 T.1 c 16 - 1)) (moW A P T F G S W th)) := by
  have hc : c < 16 := by have := hT.2.1; omega
  generalize hO : isI (nI (fwQ T.2.2.1 T.1 c 16 - 1)) (moW A P T F G S W th) = O
  have hk := hT.1
  refine pm_Met.mk kX6_leastOf hs (pm_J.run [4] 40 (fun K hK => hK _ ?_))
  have key : ∀ x4 x5 : Option Value, pm_J l mX6_leastOf iX6_leastOf 2 0 0 15 O 0 0 (4, [some (.ref 0), some (.int (nI c)), some (.int (nI (fwQ T.2.2.1 T.1 c 1))), some (.int (nI 1)), x4, x5], [], moW A P T F G S W th) := by
    refine pm_up (b := 16) (P := fun s => ∀ x4 x5 : Option Value, pm_J l mX6_leastOf iX6_leastOf 2 0 0 15 O 0 0 (4, [some (.ref 0), some (.int (nI c)), some (.int (nI (fwQ T.2.2.1 T.1 c s))), some (.int (nI s)), x4, x5], [], moW A P T F G S W th)) 1 (by decide) (fun x4 x5 => ?_) (fun s h1 h2 ih x4 x5 => ?_)
    · refine pm_J.run [] 40 (fun K hK => br_t (nI_le (a := 16) (b := 16) (by decide) (by decide)) (hK _ ?_))
      refine pm_J.ri ?_
      rw [← hO, ← pk_sub (fwQ_pos T.2.2.1 T.1 c 16 (by decide))]
      exact ⟨rfl, rfl⟩
    · have e : fwQ T.2.2.1 T.1 c (s + 1) = if meQ T.2.2.1 c s T.1 then min (fwQ T.2.2.1 T.1 c s) (onS s 8) else fwQ T.2.2.1 T.1 c s := by rw [fwQ, if_neg (by omega)]
      rw [e, ← nI_add s 1] at ih
      clear e
      have hle := fwQ_le T.2.2.1 T.1 c s
      have hon : onS s 8 < 2 ^ 31 := by
        have hq : ∀ s, s < 16 → onS s 8 < 2 ^ 31 := by decide
        exact hq s h2
      refine pm_J.run [16] 40 (fun K hK => br_f (nI_ge (a := s) (b := 16) h2 (by decide)) (hK _ ?_))
      refine pm_up (b := T.1) (P := fun k => pm_J l mX6_leastOf iX6_leastOf 2 0 0 15 O 0 0 (16, [some (.ref 0), some (.int (nI c)), some (.int (nI (fwQ T.2.2.1 T.1 c s))), some (.int (nI s)), some (.int (nI (b2n (meQ T.2.2.1 c s k)))), some (.int (nI k))], [], moW A P T F G S W th)) 0 (Nat.zero_le _) ?_ (fun k g1 g2 ih2 => ?_)
      · cases hm : meQ T.2.2.1 c s T.1 with
        | true =>
          rw [hm, if_pos rfl] at ih
          refine pm_J.run [4] 40 (fun K hK => br_t (nI_le (Nat.le_refl _) (by omega)) (br_f (by decide) (hK _ ?_)))
          refine pm_J.cis (d_ones hs s (by omega)) gRX6_154 vX6_ones ?_
          refine pm_J.cis (d_least hs (fwQ T.2.2.1 T.1 c s) (onS s 8) (by omega) hon) gRX6_126 vX6_least ?_
          refine pm_J.run [4] 40 (fun K hK => hK _ ?_)
          exact ih _ _
        | false =>
          rw [hm, if_neg Bool.false_ne_true] at ih
          refine pm_J.run [4] 40 (fun K hK => br_t (nI_le (Nat.le_refl _) (by omega)) (br_t (by decide) (hK _ ?_)))
          exact ih _ _
      · have e : meQ T.2.2.1 c s (k + 1) = (meQ T.2.2.1 c s k && ((T.2.2.1 (16 * k + c) &&& s) != 0)) := rfl
        rw [e, ← nI_add k 1] at ih2
        clear e
        cases hm : meQ T.2.2.1 c s k with
        | false =>
          rw [hm, Bool.false_and] at ih2
          refine pm_J.run [16] 40 (fun K hK => br_f (nI_ge g2 (by omega)) (br_t (by decide) (hK _ ?_)))
          exact ih2
        | true =>
          rw [hm, Bool.true_and] at ih2
          have e16 : pm_k 16 * nI k + nI c = nI (16 * k + c) := by
            show nI 16 * nI k + nI c = _
            rw [pk_mul, nI_add]
          have hb := hT.2.2 k c (by omega) hcT
          have hlt : T.2.2.1 (16 * k + c) &&& s < 2 ^ 31 := Nat.lt_of_le_of_lt Nat.and_le_left (by omega)
          refine pm_J.run [16] 40 (fun K hK => br_f (nI_ge g2 (by omega)) (br_f (by decide) (And.intro (by rw [e16]; exact vp_in_nI (by omega) (by decide)) (And.intro (fun q => hK _ ?_) (fun q => hK _ ?_)))))
          · have q' : (nI (T.2.2.1 (pm_k 16 * nI k + nI c).toNatClampNeg) &&& nI s) = 0 := q
            rw [e16, nI_clamp (by omega), nx_and, nI_z hlt] at q'
            rw [q'] at ih2
            exact ih2
          · have q' : ¬ (nI (T.2.2.1 (pm_k 16 * nI k + nI c).toNatClampNeg) &&& nI s) = 0 := q
            rw [e16, nI_clamp (by omega), nx_and, nI_z hlt] at q'
            have e : ((T.2.2.1 (16 * k + c) &&& s) != 0) = true := by simp [q']
            rw [e] at ih2
            exact ih2
  exact key none none
def hvQ (stt : Nat → Nat) (c st : Nat) : Nat → Nat
  | 0 => 0
  | k + 1 => hvQ stt c st k + stt (16 * k + c) / 2 ^ st % 2
theorem hvQ_le (stt : Nat → Nat) (c st : Nat) : ∀ k, hvQ stt c st k ≤ k
  | 0 => Nat.le_refl _
  | k + 1 => by have := hvQ_le stt c st k; unfold hvQ; omega
def mxQ (stt : Nat → Nat) (kn c : Nat) : Nat → Nat
  | 0 => 0
  | st + 1 => max (mxQ stt kn c st) (hvQ stt c st kn)
theorem mxQ_le (stt : Nat → Nat) (kn c : Nat) : ∀ st, mxQ stt kn c st ≤ kn
  | 0 => Nat.zero_le _
  | st + 1 => by have := mxQ_le stt kn c st; have := hvQ_le stt c st kn; unfold mxQ; omega
theorem d_mostOf (hs : l.stackTraces = false) (A : mA) (P : mP) (T : mT) (F : mF) (G : mG) (S : mS) (W : mW) (th c : Nat) (hT : TbI T) (hcT : c < T.2.1) :
    pm_Met l mX6_mostOf 2 0 0 [.ref 0, .int (nI c)] (moW A P T F G S W th) (isI (nI (T.1 - mxQ T.2.2.1 T.1 c 4)) (moW A P T F G S W th)) := by
  have hc : c < 16 := by have := hT.2.1; omega
  generalize hO : isI (nI (T.1 - mxQ T.2.2.1 T.1 c 4)) (moW A P T F G S W th) = O
  have hk := hT.1
  refine pm_Met.mk kX6_mostOf hs (pm_J.run [4] 40 (fun K hK => hK _ ?_))
  have key : ∀ x4 x5 : Option Value, pm_J l mX6_mostOf iX6_mostOf 2 0 0 15 O 0 0 (4, [some (.ref 0), some (.int (nI c)), some (.int (nI (mxQ T.2.2.1 T.1 c 0))), some (.int (nI 0)), x4, x5], [], moW A P T F G S W th) := by
    refine pm_up (b := 4) (P := fun s => ∀ x4 x5 : Option Value, pm_J l mX6_mostOf iX6_mostOf 2 0 0 15 O 0 0 (4, [some (.ref 0), some (.int (nI c)), some (.int (nI (mxQ T.2.2.1 T.1 c s))), some (.int (nI s)), x4, x5], [], moW A P T F G S W th)) 0 (by decide) (fun x4 x5 => ?_) (fun s h1 h2 ih x4 x5 => ?_)
    · refine pm_J.run [] 40 (fun K hK => br_t (nI_le (a := 4) (b := 4) (by decide) (by decide)) (hK _ ?_))
      refine pm_J.ri ?_
      rw [← hO, ← pk_sub (mxQ_le T.2.2.1 T.1 c 4)]
      exact ⟨rfl, rfl⟩
    · have e : mxQ T.2.2.1 T.1 c (s + 1) = max (mxQ T.2.2.1 T.1 c s) (hvQ T.2.2.1 c s T.1) := rfl
      rw [e, ← nI_add s 1] at ih
      clear e
      have hle := mxQ_le T.2.2.1 T.1 c s
      have hl2 := hvQ_le T.2.2.1 c s T.1
      refine pm_J.run [15] 40 (fun K hK => br_f (nI_ge (a := s) (b := 4) h2 (by decide)) (hK _ ?_))
      refine pm_up (b := T.1) (P := fun k => pm_J l mX6_mostOf iX6_mostOf 2 0 0 15 O 0 0 (15, [some (.ref 0), some (.int (nI c)), some (.int (nI (mxQ T.2.2.1 T.1 c s))), some (.int (nI s)), some (.int (nI (hvQ T.2.2.1 c s k))), some (.int (nI k))], [], moW A P T F G S W th)) 0 (Nat.zero_le _) ?_ (fun k g1 g2 ih2 => ?_)
      · refine pm_J.run [4] 40 (fun K hK => br_t (nI_le (Nat.le_refl _) (by omega)) (And.intro (fun q => hK _ ?_) (fun q => hK _ ?_)))
        · have q' : nI (hvQ T.2.2.1 c s T.1) ≤ nI (mxQ T.2.2.1 T.1 c s) := q
          rw [nI_leI (by omega) (by omega)] at q'
          rw [Nat.max_eq_left q'] at ih
          exact ih _ _
        · have q' : ¬ nI (hvQ T.2.2.1 c s T.1) ≤ nI (mxQ T.2.2.1 T.1 c s) := q
          rw [nI_leI (by omega) (by omega)] at q'
          rw [Nat.max_eq_right (by omega)] at ih
          exact ih _ _
      · have e16 : pm_k 16 * nI k + nI c = nI (16 * k + c) := by
          show nI 16 * nI k + nI c = _
          rw [pk_mul, nI_add]
        have hb := hT.2.2 k c (by omega) hcT
        have e : hvQ T.2.2.1 c s (k + 1) = hvQ T.2.2.1 c s k + T.2.2.1 (16 * k + c) / 2 ^ s % 2 := rfl
        rw [e, ← nI_add (hvQ T.2.2.1 c s k), ← bit_at16 hb h2, ← nI_add k 1] at ih2
        refine pm_J.run [15] 40 (fun K hK => br_f (nI_ge g2 (by omega)) (And.intro (by rw [e16]; exact vp_in_nI (by omega) (by decide)) (hK _ ?_)))
        rw [e16, nI_clamp (by omega)]
        exact ih2
  exact key none none
def smQ (T : mT) (m : Bool) : Nat → Nat
  | 0 => 0
  | c + 1 => smQ T m c + T.2.2.2 c * (if m then T.1 - mxQ T.2.2.1 T.1 c 4 else fwQ T.2.2.1 T.1 c 16 - 1)
theorem d_sum (hs : l.stackTraces = false) (A : mA) (P : mP) (T : mT) (F : mF) (G : mG) (S : mS) (W : mW) (th : Nat) (m : Bool) (hT : TbI T) :
    pm_Met l mX6_sum 3 0 0 [.ref 0, .int (nI (b2n m))] (moW A P T F G S W th) (isI (nI (smQ T m T.2.1)) (moW A P T F G S W th)) := by
  have hc := hT.2.1
  refine pm_Met.mk kX6_sum hs (pm_J.run [4] 40 (fun K hK => hK _ ?_))
  refine pm_up (b := T.2.1) (P := fun c => pm_J l mX6_sum iX6_sum 3 0 0 15 (isI (nI (smQ T m T.2.1)) (moW A P T F G S W th)) 0 0 (4, [some (.ref 0), some (.int (nI (b2n m))), some (.int (nI (smQ T m c))), some (.int (nI c))], [], moW A P T F G S W th)) 0 (Nat.zero_le _) ?_ (fun c h1 h2 ih => ?_)
  · refine pm_J.run [] 40 (fun K hK => br_t (nI_le (Nat.le_refl _) (by omega)) (hK _ ?_))
    exact pm_J.ri ⟨rfl, rfl⟩
  · have e : smQ T m (c + 1) = smQ T m c + T.2.2.2 c * (if m then T.1 - mxQ T.2.2.1 T.1 c 4 else fwQ T.2.2.1 T.1 c 16 - 1) := rfl
    rw [e, ← nI_add (smQ T m c), ← pk_mul, ← nI_add c 1] at ih
    clear e
    generalize smQ T m T.2.1 = r at ih ⊢
    cases m with
    | true =>
      rw [if_pos rfl] at ih
      refine pm_J.run [] 40 (fun K hK => br_f (nI_ge h2 (by omega)) (And.intro (vp_in_nI (by omega) (by decide)) (br_f (by decide) (hK _ ?_))))
      rw [nI_clamp (by omega)]
      refine pm_J.cI q15 (d_mostOf hs A P T F G S W th c hT (by omega)) gRX6_157 vX6_mostOf ?_
      refine pm_J.run [4] 40 (fun K hK => hK _ ?_)
      exact ih
    | false =>
      rw [if_neg Bool.false_ne_true] at ih
      refine pm_J.run [] 40 (fun K hK => br_f (nI_ge h2 (by omega)) (And.intro (vp_in_nI (by omega) (by decide)) (br_t (by decide) (hK _ ?_))))
      rw [nI_clamp (by omega)]
      refine pm_J.cI q15 (d_leastOf hs A P T F G S W th c hT (by omega)) gRX6_160 vX6_leastOf ?_
      refine pm_J.run [4] 40 (fun K hK => hK _ ?_)
      exact ih
theorem d_consistency (hFP : FPd) (hs : l.stackTraces = false) (A : mA) (P : mP) (T : mT) (F : mF) (G : mG) (S : mS) (W : mW) (th : Nat) (x : Int32) (hT : TbI T) (hN : NdOk T) (hw : Bd T.2.2.2) (hG : GJ G) :
    pm_Met l mX6_consistency 5 0 0 [.ref 0, .int x] (moW A P T F G S W th) (fun o w' => (okC (tcount T.1) x ∧ o = .inl (some (.float (coF (smQ T false T.2.1) (lnV T x.toNatClampNeg)))) ∧ moE A P T F W 0 w') ∨ (¬ okC (tcount T.1) x ∧ o = .inl (some (.float FP.fconst0)) ∧ w' = moW A P T F G S W 1)) := by
  generalize hO : (fun (o : pm_O) (w' : List pm_E) => (okC (tcount T.1) x ∧ o = .inl (some (.float (coF (smQ T false T.2.1) (lnV T x.toNatClampNeg)))) ∧ moE A P T F W 0 w') ∨ (¬ okC (tcount T.1) x ∧ o = .inl (some (.float FP.fconst0)) ∧ w' = moW A P T F G S W 1)) = O
  have hk := hT.1
  have htc := tc_lt hk
  refine pm_Met.mk kX6_consistency hs (pm_J.run [] 40 (fun K hK => hK _ ?_))
  refine pm_J.cI q15 (d_isTree hs A P T F G S W th x hk) gRX6_132 vX6_isTree ?_
  by_cases h : 0 ≤ x ∧ x < nI (tcount T.1)
  · rw [if_pos h]
    obtain ⟨a, ha, rfl⟩ := ok_nat (by omega) h
    refine pm_J.run [] 40 (fun K hK => br_f (by decide) (br_t (by decide) (hK _ ?_)))
    refine pm_J.cR q15 (d_lengthOf hs A P T F G S W 0 a hT hN ha hG) gRX6_142 vX6_lengthOf (fun E w1 z => by cases z.1) (fun v w1 z => ?_)
    obtain ⟨z1, rd, co, hr, hco, rfl⟩ := z
    cases z1
    show pm_J l mX6_consistency iX6_consistency 5 0 0 15 O 0 0 (31, [some (.ref 0), some (.int (nI a)), none], [.int (nI (lnV T a))], moW A P T F (gwD T.1 a rd co) (gwP T.1 a S) W 0)
    have hll : lnV T a < 2 ^ 31 := by
      have h1 := lnS_le (x := a) hw T.2.1
      have h2 : T.2.1 * 12573 ≤ 16 * 12573 := Nat.mul_le_mul_right _ hT.2.1
      show lnS T a T.2.1 < 2 ^ 31
      omega
    have hGd : GJ (gwD T.1 a rd co) := gwD_GJ hk hr hco
    have hO2 : ∀ v, coF (smQ T false T.2.1) (lnV T a) = v → O (.inl (some (.float v))) (moW A P T F (gwD T.1 a rd co) (gwP T.1 a S) W 0) := fun v hv => by
      rw [← hO]
      exact Or.inl ⟨h, by rw [nI_clamp (by omega), hv], _, _, hGd, rfl⟩
    refine pm_J.run [] 40 (fun K hK => And.intro (fun q => hK _ ?_) (fun q => hK _ ?_))
    · have q' : ¬ nI (lnV T a) = 0 := q
      have q2 := q'
      rw [nI_z hll] at q2
      refine pm_J.cI q15 (d_sum hs A P T F (gwD T.1 a rd co) (gwP T.1 a S) W 0 false hT) gRX6_163 vX6_sum ?_
      refine pm_J.run [] 40 (fun K hK => And.intro (hFP _ _ q') (hK _ ?_))
      refine pm_J.rf (hO2 _ ?_)
      rw [coF, if_neg q2]
    · have q' : ¬ ¬ nI (lnV T a) = 0 := q
      rw [nI_z hll] at q'
      refine pm_J.rf (hO2 _ ?_)
      rw [coF, if_pos (Classical.not_not.mp q')]
  · rw [if_neg h]
    refine pm_J.run [] 40 (fun K hK => br_t (by decide) (br_f (by decide) (hK _ ?_)))
    refine pm_J.rf ?_
    rw [← hO]
    exact Or.inr ⟨h, rfl, rfl⟩
theorem d_retention (hFP : FPd) (hs : l.stackTraces = false) (A : mA) (P : mP) (T : mT) (F : mF) (G : mG) (S : mS) (W : mW) (th : Nat) (x : Int32) (hT : TbI T) (hN : NdOk T) (hG : GJ G) :
    pm_Met l mX6_retention 5 0 0 [.ref 0, .int x] (moW A P T F G S W th) (fun o w' => (okC (tcount T.1) x ∧ o = .inl (some (.float (reF (smQ T true T.2.1) (smQ T false T.2.1) (lnV T x.toNatClampNeg)))) ∧ moE A P T F W 0 w') ∨ (¬ okC (tcount T.1) x ∧ o = .inl (some (.float FP.fconst0)) ∧ w' = moW A P T F G S W 1)) := by
  generalize hO : (fun (o : pm_O) (w' : List pm_E) => (okC (tcount T.1) x ∧ o = .inl (some (.float (reF (smQ T true T.2.1) (smQ T false T.2.1) (lnV T x.toNatClampNeg)))) ∧ moE A P T F W 0 w') ∨ (¬ okC (tcount T.1) x ∧ o = .inl (some (.float FP.fconst0)) ∧ w' = moW A P T F G S W 1)) = O
  have hk := hT.1
  have htc := tc_lt hk
  refine pm_Met.mk kX6_retention hs (pm_J.run [] 40 (fun K hK => hK _ ?_))
  refine pm_J.cI q15 (d_isTree hs A P T F G S W th x hk) gRX6_132 vX6_isTree ?_
  by_cases h : 0 ≤ x ∧ x < nI (tcount T.1)
  · rw [if_pos h]
    obtain ⟨a, ha, rfl⟩ := ok_nat (by omega) h
    refine pm_J.run [] 40 (fun K hK => br_f (by decide) (br_t (by decide) (hK _ ?_)))
    refine pm_J.cI q15 (d_sum hs A P T F G S W 0 true hT) gRX6_163 vX6_sum ?_
    refine pm_J.run [] 40 (fun K hK => hK _ ?_)
    refine pm_J.cI q15 (d_sum hs A P T F G S W 0 false hT) gRX6_163 vX6_sum ?_
    have hsub : ∀ y z : Int32, y - z = 0 ↔ y = z := fun y z => ⟨fun e => by rw [← Int32.sub_add_cancel y z, e, Int32.zero_add], fun e => by rw [e, Int32.sub_self]⟩
    refine pm_J.run [] 40 (fun K hK => And.intro (fun q => hK _ ?_) (fun q => hK _ ?_))
    · have q' : ¬ nI (smQ T true T.2.1) = nI (smQ T false T.2.1) := q
      have q2 : ¬ nI (smQ T true T.2.1) - nI (smQ T false T.2.1) = 0 := fun z => q' ((hsub _ _).mp z)
      refine pm_J.cR q15 (d_lengthOf hs A P T F G S W 0 a hT hN ha hG) gRX6_142 vX6_lengthOf (fun E w1 z => by cases z.1) (fun v w1 z => ?_)
      obtain ⟨z1, rd, co, hr, hco, rfl⟩ := z
      cases z1
      show pm_J l mX6_retention iX6_retention 5 0 0 15 O 0 0 (53, [some (.ref 0), some (.int (nI a)), some (.int (nI (smQ T true T.2.1))), some (.int (nI (smQ T false T.2.1)))], [.int (nI (lnV T a)), .int (nI (smQ T true T.2.1))], moW A P T F (gwD T.1 a rd co) (gwP T.1 a S) W 0)
      refine pm_J.run [] 40 (fun K hK => And.intro (hFP _ _ q2) (hK _ ?_))
      refine pm_J.rf ?_
      rw [← hO]
      exact Or.inl ⟨h, by rw [nI_clamp (by omega), reF, if_neg q2], _, _, gwD_GJ hk hr hco, rfl⟩
    · have q' : ¬ ¬ nI (smQ T true T.2.1) = nI (smQ T false T.2.1) := q
      have q2 : nI (smQ T true T.2.1) - nI (smQ T false T.2.1) = 0 := (hsub _ _).mpr (Classical.not_not.mp q')
      refine pm_J.rf ?_
      rw [← hO]
      exact Or.inl ⟨h, by rw [reF, if_pos q2], _, _, hG, rfl⟩
  · rw [if_neg h]
    refine pm_J.run [] 40 (fun K hK => br_t (by decide) (br_f (by decide) (hK _ ?_)))
    refine pm_J.rf ?_
    rw [← hO]
    exact Or.inr ⟨h, rfl, rfl⟩
end MDE
