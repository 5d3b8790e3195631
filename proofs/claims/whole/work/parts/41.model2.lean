section MD2
variable {l : Launch}
/-- what stands at the place, or -1 -/
def hrI (t : Nat → Nat) (n a : Nat) : Int32 := if a < n then nI (t a) else pm_k (-1)
theorem hr_pos {t : Nat → Nat} {n a v : Nat} (ht : Ch t) (hv : v < 65536) : hrI t n a = nI v ↔ hereB t n a v = true := by
  have := ht a
  unfold hrI hereB
  by_cases h : a < n
  · rw [if_pos h, nI_eq (by omega) (by omega), decide_eq_true_iff]
    exact ⟨fun z => ⟨h, z⟩, fun z => z.2⟩
  · rw [if_neg h, decide_eq_true_iff]
    refine ⟨fun z => ?_, fun z => absurd z.1 h⟩
    have h0 : 0 ≤ nI v := Int32.not_lt.mp (nI_pos (by omega))
    rw [← z] at h0
    exact absurd h0 (by decide)
theorem d_here (hs : l.stackTraces = false) (A : mA) (P : mP) (T : mT) (F : mF) (G : mG) (S : mS) (W : mW) (th : Nat) (hn : A.2 ≤ 160) (ha : P.1 ≤ 200) : pm_Met l mX6_here 1 0 0 [.ref 0] (moW A P T F G S W th) (isI (hrI A.1 A.2 P.1) (moW A P T F G S W th)) := by
  refine pm_Met.mk kX6_here hs (pm_J.run [24] 40 (fun K hK => And.intro (fun q => hK _ ?_) (fun q => ?_)))
  · have q' : nI A.2 ≤ nI P.1 := q
    rw [nI_leI (by omega) (by omega)] at q'
    rw [hrI, if_neg (by omega)]
    exact pm_J.ri ⟨rfl, rfl⟩
  · have q' : ¬ nI A.2 ≤ nI P.1 := q
    rw [nI_leI (by omega) (by omega)] at q'
    refine And.intro (vp_in_nI (by omega) (by decide)) (hK _ ?_)
    rw [hrI, if_pos (by omega), nI_clamp (by omega)]
    exact pm_J.ri ⟨rfl, rfl⟩
def wrP (P : mP) : mP := (P.1, if P.2.1 < 0 then nI P.1 else P.2.1, P.2.2)
theorem d_wrong (hs : l.stackTraces = false) (A : mA) (P : mP) (T : mT) (F : mF) (G : mG) (S : mS) (W : mW) (th : Nat) : pm_Met l mX6_wrong 1 0 0 [.ref 0] (moW A P T F G S W th) (isO none (moW A (wrP P) T F G S W th)) := by
  refine pm_Met.mk kX6_wrong hs (pm_J.run [] 40 (fun K hK => And.intro (fun q => hK _ ?_) (fun q => hK _ ?_)))
  · have q' : 0 ≤ P.2.1 := q
    rw [wrP, if_neg (Int32.not_lt.mpr q')]
    exact pm_J.rv ⟨rfl, rfl⟩
  · have q' : ¬ 0 ≤ P.2.1 := q
    rw [wrP, if_pos (Int32.not_le.mp q')]
    exact pm_J.rv ⟨rfl, rfl⟩
def muP (A : mA) (P : mP) (v : Nat) : mP := if hereB A.1 A.2 P.1 v then (P.1 + 1, P.2) else wrP P
theorem d_must (hs : l.stackTraces = false) (A : mA) (P : mP) (T : mT) (F : mF) (G : mG) (S : mS) (W : mW) (th v : Nat) (hn : A.2 ≤ 160) (ht : Ch A.1) (ha : P.1 ≤ 200) (hv : v < 65536) : pm_Met l mX6_must 2 0 0 [.ref 0, .int (nI v)] (moW A P T F G S W th) (isO none (moW A (muP A P v) T F G S W th)) := by
  refine pm_Met.mk kX6_must hs (pm_J.run [] 40 (fun K hK => hK _ ?_))
  refine pm_J.cI q15 (d_here hs A P T F G S W th hn ha) gRX6_67 vX6_here ?_
  refine pm_J.run [] 40 (fun K hK => And.intro (fun q => hK _ ?_) (fun q => hK _ ?_))
  · have q' : ¬ hrI A.1 A.2 P.1 = nI v := q
    rw [hr_pos ht hv] at q'
    rw [muP, if_neg q']
    refine pm_J.cv q15 (moW A (wrP P) T F G S W th) (d_wrong hs A P T F G S W th) gRX6_71 vX6_wrong ?_
    exact pm_J.rv ⟨rfl, rfl⟩
  · have q' : ¬ ¬ hrI A.1 A.2 P.1 = nI v := q
    rw [hr_pos ht hv] at q'
    rw [muP, if_pos (Classical.not_not.mp q')]
    refine pm_J.rv ⟨rfl, ?_⟩
    unfold moW
    dsimp only
    rw [← nI_add P.1 1]
    rfl
theorem d_isState (hs : l.stackTraces = false) (x : Int32) : pm_Met l mX6_isState 1 0 0 [.int x] [] (isI (if nI 48 ≤ x ∧ x ≤ nI 51 then nI 1 else nI 0) []) := by
  refine pm_Met.mk kX6_isState hs (pm_J.run [] 20 (fun K hK => And.intro (fun h => hK _ ?_) (fun h => And.intro (fun h2 => hK _ ?_) (fun h2 => hK _ ?_))))
  · exact pm_J.ri ⟨by rw [if_neg (fun z => absurd h (Int32.not_lt.mpr z.1))]; rfl, rfl⟩
  · exact pm_J.ri ⟨by rw [if_neg (fun z => absurd h2 (Int32.not_lt.mpr z.2))]; rfl, rfl⟩
  · exact pm_J.ri ⟨by rw [if_pos ⟨Int32.not_lt.mp h, Int32.not_lt.mp h2⟩]; rfl, rfl⟩
/-- a state stands here, or none -/
theorem hr_state {t : Nat → Nat} {n a : Nat} (ht : Ch t) (h : nI 48 ≤ hrI t n a ∧ hrI t n a ≤ nI 51) : ∃ s, s < 4 ∧ hereB t n a (48 + s) = true := by
  have hta := ht a
  unfold hrI at h
  unfold hereB
  by_cases q : a < n
  · rw [if_pos q, nI_leI (by decide) (by omega), nI_leI (by omega) (by decide)] at h
    exact ⟨t a - 48, by omega, decide_eq_true ⟨q, by omega⟩⟩
  · rw [if_neg q] at h
    exact absurd h.1 (by decide)
theorem hr_stateN {t : Nat → Nat} {n a s : Nat} (ht : Ch t) (hs : s < 4) (h : hereB t n a (48 + s) = true) : nI 48 ≤ hrI t n a ∧ hrI t n a ≤ nI 51 := by
  rw [(hr_pos ht (by omega)).mpr h]
  exact ⟨(nI_leI (by decide) (by omega)).mpr (by omega), (nI_leI (by omega) (by decide)).mpr (by omega)⟩
theorem here_uniq {t : Nat → Nat} {n a v u : Nat} (h : hereB t n a v = true) (hu : hereB t n a u = true) : v = u := by
  have h1 := (of_decide_eq_true h).2
  have h2 := (of_decide_eq_true hu).2
  omega
theorem rsS_skip {t : Nat → Nat} {n lm a0 i : Nat} : ∀ j, (∀ k, i ≤ k → k < i + j → hereB t n (rsS t n lm a0 i).2.2 (48 + k) = false) → rsS t n lm a0 (i + j) = rsS t n lm a0 i
  | 0, _ => rfl
  | j + 1, h => by
    have ih := rsS_skip (t := t) (n := n) (lm := lm) (a0 := a0) (i := i) j (fun k h1 h2 => h k h1 (by omega))
    rw [← Nat.add_assoc, rsS, ih, if_neg (fun z => ?_)]
    rw [h (i + j) (by omega) (by omega)] at z
    cases z.2
theorem rs1_yes {t : Nat → Nat} {n a s : Nat} (hs : s < 4) (h : hereB t n a (48 + s) = true) : rsS t n 1 a 4 = (2 ^ s, 1, a + 1) := by
  have e0 : rsS t n 1 a (0 + s) = (0, 0, a) := rsS_skip (i := 0) s (fun k h1 h2 => by
    cases q : hereB t n (rsS t n 1 a 0).2.2 (48 + k) with
    | false => rfl
    | true => have := here_uniq h q; omega)
  rw [Nat.zero_add] at e0
  have e1 : rsS t n 1 a (s + 1) = (2 ^ s, 1, a + 1) := by
    rw [rsS, e0, if_pos ⟨Nat.zero_lt_one, h⟩]
    simp
  have e2 := rsS_stop (t := t) (n := n) (lm := 1) (a0 := a) (i := s + 1) (by rw [e1]; exact Nat.lt_irrefl 1) (3 - s)
  rw [show s + 1 + (3 - s) = 4 by omega, e1] at e2
  exact e2
theorem rs1_no {t : Nat → Nat} {n a : Nat} (h : ∀ s, s < 4 → hereB t n a (48 + s) = false) : rsS t n 1 a 4 = (0, 0, a) :=
  rsS_skip (i := 0) 4 (fun k h1 h2 => h k (by omega))
/-- what entry() leaves -/
abbrev enO (A : mA) (P : mP) (T : mT) (F : mF) (G : mG) (S : mS) (W : mW) (th : Nat) : pm_O → List pm_E → Prop := fun o w' =>
  (¬ (enF A.1 A.2 P.1).1 = 0 ∧ o = .inl (some (.int (nI (enF A.1 A.2 P.1).1))) ∧ w' = moW A ((enF A.1 A.2 P.1).2, pm_k (-1), P.2.2) T F G S W th) ∨
  ((enF A.1 A.2 P.1).1 = 0 ∧ ∃ v pl, pl ≤ 200 ∧ o = .inl (some (.int (nI v))) ∧ w' = moW A (pl, nI (enF A.1 A.2 P.1).2, P.2.2) T F G S W th)
theorem d_entry (hs : l.stackTraces = false) (A : mA) (P : mP) (T : mT) (F : mF) (G : mG) (S : mS) (W : mW) (th : Nat) (hn : A.2 ≤ 160) (ht : Ch A.1) (ha : P.1 ≤ A.2) (hf : P.2.1 = pm_k (-1)) : pm_Met l mX6_entry 3 0 0 [.ref 0] (moW A P T F G S W th) (enO A P T F G S W th) := by
  obtain ⟨a, f, R⟩ := P
  dsimp only at ha hf
  subst hf
  obtain ⟨t, n⟩ := A
  dsimp only at hn ht ha
  generalize hO : enO (t, n) (a, pm_k (-1), R) T F G S W th = O
  refine pm_Met.mk kX6_entry hs (pm_J.run [] 40 (fun K hK => hK _ ?_))
  refine pm_J.cI q15 (d_here hs (t, n) (a, pm_k (-1), R) T F G S W th hn (by show a ≤ 200; omega)) gRX6_67 vX6_here ?_
  refine pm_J.run [] 40 (fun K hK => hK _ ?_)
  refine pm_J.cis (d_isState hs (hrI t n a)) gRX6_74 vX6_isState ?_
  by_cases hst : nI 48 ≤ hrI t n a ∧ hrI t n a ≤ nI 51
  · rw [if_pos hst]
    obtain ⟨s, hs4, hh⟩ := hr_state ht hst
    refine pm_J.run [] 40 (fun K hK => br_f (by decide) (hK _ ?_))
    have e : enF t n a = (2 ^ s, a + 1) := by
      have n1 : hereB t n a 63 = false := by
        cases q : hereB t n a 63 with
        | false => rfl
        | true => have := here_uniq hh q; omega
      have n2 : hereB t n a 123 = false := by
        cases q : hereB t n a 123 with
        | false => rfl
        | true => have := here_uniq hh q; omega
      rw [enF, n1, if_neg Bool.false_ne_true, n2, if_neg Bool.false_ne_true, rs1_yes hs4 hh]
    refine pm_J.ri ?_
    rw [← hO]
    have hp : 2 ^ s ≠ 0 := Nat.ne_of_gt (Nat.two_pow_pos s)
    refine Or.inl ⟨by show ¬ (enF t n a).1 = 0; rw [e]; exact hp, ?_, ?_⟩
    · show _ = Sum.inl (some (Value.int (nI (enF t n a).1)))
      rw [e, ← nI_shl1 (by omega : s < 30)]
      have e2 : nI s = hrI t n a - nI 48 := by rw [(hr_pos ht (by omega)).mpr hh, pk_sub (by omega)]; congr 1; omega
      rw [e2]
      rfl
    · show _ = moW (t, n) ((enF t n a).2, pm_k (-1), R) T F G S W th
      rw [e]
      unfold moW
      dsimp only
      rw [← nI_add a 1]
      rfl
  · rw [if_neg hst]
    have hno : ∀ s, s < 4 → hereB t n a (48 + s) = false := fun s h4 => by
      cases q : hereB t n a (48 + s) with
      | false => rfl
      | true => exact absurd (hr_stateN ht h4 q) hst
    refine pm_J.run [60] 40 (fun K hK => br_t (by decide) (And.intro (fun q => And.intro (fun q2 => hK _ ?_) (fun q2 => hK _ ?_)) (fun q => hK _ ?_)))
    · have q' : ¬ hrI t n a = nI 63 := q
      have q2' : hrI t n a = nI 123 := q2
      rw [hr_pos ht (by decide)] at q' q2'
      have n1 : hereB t n a 63 = false := by
        cases z : hereB t n a 63 with
        | false => rfl
        | true => exact absurd z q'
      have hlt := here_lt q2'
      have e : enF t n a = (if (rsS t n 4 (a + 1) 4).1 = 0 then (0, (rsS t n 4 (a + 1) 4).2.2) else if hereB t n (rsS t n 4 (a + 1) 4).2.2 125 then ((rsS t n 4 (a + 1) 4).1, (rsS t n 4 (a + 1) 4).2.2 + 1) else (0, (rsS t n 4 (a + 1) 4).2.2)) := by rw [enF, n1, if_neg Bool.false_ne_true, q2', if_pos rfl]
      generalize hE : enF t n a = en at hO e
      have hO2 : O = fun (o : pm_O) (w' : List pm_E) => (¬ en.1 = 0 ∧ o = .inl (some (.int (nI en.1))) ∧ w' = moW (t, n) (en.2, pm_k (-1), R) T F G S W th) ∨
          (en.1 = 0 ∧ ∃ v pl, pl ≤ 200 ∧ o = .inl (some (.int (nI v))) ∧ w' = moW (t, n) (pl, nI en.2, R) T F G S W th) := by
        rw [← hO, ← hE]
      -- at fault
      have bad : ∀ i x3, i ≤ 4 → rsS t n 4 (a + 1) 4 = rsS t n 4 (a + 1) i → ((rsS t n 4 (a + 1) i).1 = 0 ∨ hereB t n (rsS t n 4 (a + 1) i).2.2 125 = false) →
          pm_J l mX6_entry iX6_entry 3 0 0 15 O 0 0 (75, [some (.ref 0), some (.int (hrI t n a)), some (.int (nI (rsS t n 4 (a + 1) i).1)), x3], [], moW (t, n) ((rsS t n 4 (a + 1) i).2.2, nI (rsS t n 4 (a + 1) i).2.2, R) T F G S W th) := by
        intro i x3 hi he hq
        obtain ⟨h1, h2, h3⟩ := rsS_ok (t := t) (n := n) (lm := 4) (a0 := a + 1) (by omega) i hi
        have e2 : en = (0, (rsS t n 4 (a + 1) i).2.2) := by
          rw [e, he]
          rcases hq with g | g
          · rw [if_pos g]
          · rw [g, if_neg Bool.false_ne_true]
            split <;> rfl
        rw [e2] at hO2
        clear e e2 he hO
        generalize rsS t n 4 (a + 1) i = z at h1 h2 h3 hq hO2 ⊢
        obtain ⟨z1, z2, z3⟩ := z
        dsimp only at h1 h2 h3 hq hO2 ⊢
        refine pm_J.run [147] 40 (fun K hK => br_t (Int32.not_lt.mp (nI_pos (by omega))) (hK _ ?_))
        refine pm_J.run [] 40 (fun K hK => hK _ ?_)
        refine pm_J.cv q15 (moW (t, n) (muP (t, n) (z3, nI z3, R) 125) T F G S W th) (d_must hs (t, n) (z3, nI z3, R) T F G S W th 125 hn ht (by show z3 ≤ 200; omega) (by decide)) gRX6_78 vX6_must ?_
        refine pm_J.run [] 40 (fun K hK => hK _ ?_)
        refine pm_J.ri ?_
        rw [hO2]
        refine Or.inr ⟨rfl, z1, (muP (t, n) (z3, nI z3, R) 125).1, ?_, rfl, ?_⟩
        · unfold muP wrP
          split
          · show z3 + 1 ≤ 200; omega
          · show z3 ≤ 200; omega
        · have : muP (t, n) (z3, nI z3, R) 125 = ((muP (t, n) (z3, nI z3, R) 125).1, nI z3, R) := by
            unfold muP wrP
            split
            · rfl
            · show (z3, (if nI z3 < 0 then nI z3 else nI z3), R) = _
              rw [if_neg (nI_pos (by omega))]
          rw [← this]
      have loop : ∀ d i, i + d = 4 → pm_J l mX6_entry iX6_entry 3 0 0 15 O 0 0 (75, [some (.ref 0), some (.int (hrI t n a)), some (.int (nI (rsS t n 4 (a + 1) i).1)), some (.int (nI (47 + i)))], [], moW (t, n) ((rsS t n 4 (a + 1) i).2.2, pm_k (-1), R) T F G S W th) := by
        intro d
        induction d using Nat.strongRecOn with
        | _ d ih =>
        intro i hi
        obtain ⟨h1, h2, h3⟩ := rsS_ok (t := t) (n := n) (lm := 4) (a0 := a + 1) (by omega) i (by omega)
        have hp : 2 ^ i ≤ 2 ^ 4 := Nat.pow_le_pow_right (by decide) (by omega)
        have hM := d_here hs (t, n) ((rsS t n 4 (a + 1) i).2.2, pm_k (-1), R) T F G S W th hn (by show (rsS t n 4 (a + 1) i).2.2 ≤ 200; omega)
        refine pm_J.run [] 40 (fun K hK => br_f (show ¬ (0 : Int32) ≤ pm_k (-1) by decide) (hK _ ?_))
        refine pm_J.cI q15 hM gRX6_67 vX6_here ?_
        -- no end here
        have go : ¬ (hereB t n (rsS t n 4 (a + 1) i).2.2 125 = true ∧ ¬ (rsS t n 4 (a + 1) i).1 = 0) → pm_J l mX6_entry iX6_entry 3 0 0 15 O 0 0 (95, [some (.ref 0), some (.int (hrI t n a)), some (.int (nI (rsS t n 4 (a + 1) i).1)), some (.int (nI (47 + i)))], [], moW (t, n) ((rsS t n 4 (a + 1) i).2.2, pm_k (-1), R) T F G S W th) := by
          intro hq
          have hq' : (rsS t n 4 (a + 1) i).1 = 0 ∨ hereB t n (rsS t n 4 (a + 1) i).2.2 125 = false := by
            by_cases g : (rsS t n 4 (a + 1) i).1 = 0
            · exact Or.inl g
            · cases g2 : hereB t n (rsS t n 4 (a + 1) i).2.2 125 with
              | false => exact Or.inr rfl
              | true => exact absurd ⟨g2, g⟩ hq
          have stuck : (∀ k, i ≤ k → k < 4 → hereB t n (rsS t n 4 (a + 1) i).2.2 (48 + k) = false) → pm_J l mX6_entry iX6_entry 3 0 0 15 O 0 0 (113, [some (.ref 0), some (.int (hrI t n a)), some (.int (nI (rsS t n 4 (a + 1) i).1)), some (.int (nI (47 + i)))], [], moW (t, n) ((rsS t n 4 (a + 1) i).2.2, pm_k (-1), R) T F G S W th) := by
            intro hk
            have he := rsS_skip (t := t) (n := n) (lm := 4) (a0 := a + 1) (i := i) (4 - i) (fun k g1 g2 => hk k g1 (by omega))
            rw [show i + (4 - i) = 4 by omega] at he
            refine pm_J.run [] 40 (fun K hK => hK _ ?_)
            refine pm_J.cv q15 (moW (t, n) ((rsS t n 4 (a + 1) i).2.2, nI (rsS t n 4 (a + 1) i).2.2, R) T F G S W th) (d_wrong hs (t, n) ((rsS t n 4 (a + 1) i).2.2, pm_k (-1), R) T F G S W th) gRX6_71 vX6_wrong ?_
            refine pm_J.run [75] 40 (fun K hK => hK _ ?_)
            exact bad i _ (by omega) he hq'
          refine pm_J.run [] 40 (fun K hK => hK _ ?_)
          refine pm_J.cI q15 hM gRX6_67 vX6_here ?_
          refine pm_J.cis (d_isState hs (hrI t n (rsS t n 4 (a + 1) i).2.2)) gRX6_74 vX6_isState ?_
          by_cases hst2 : nI 48 ≤ hrI t n (rsS t n 4 (a + 1) i).2.2 ∧ hrI t n (rsS t n 4 (a + 1) i).2.2 ≤ nI 51
          · rw [if_pos hst2]
            obtain ⟨s, hs4, hh⟩ := hr_state ht hst2
            have hv := (hr_pos (n := n) (a := (rsS t n 4 (a + 1) i).2.2) ht (by omega)).mpr hh
            refine pm_J.run [113] 40 (fun K hK => br_f (by decide) (hK _ ?_))
            refine pm_J.cI q15 hM gRX6_67 vX6_here ?_
            refine pm_J.run [113, 120] 40 (fun K hK => And.intro (fun q => hK _ ?_) (fun q => hK _ ?_))
            · have q3 : nI (47 + i) < hrI t n (rsS t n 4 (a + 1) i).2.2 := q
              rw [hv, nI_ltI (by omega) (by omega)] at q3
              have he := rsS_skip (t := t) (n := n) (lm := 4) (a0 := a + 1) (i := i) (s - i) (fun k g1 g2 => by
                cases z : hereB t n (rsS t n 4 (a + 1) i).2.2 (48 + k) with
                | false => rfl
                | true => have := here_uniq hh z; omega)
              rw [show i + (s - i) = s by omega] at he
              have hns : rsS t n 4 (a + 1) (s + 1) = ((rsS t n 4 (a + 1) i).1 ||| 2 ^ s, (rsS t n 4 (a + 1) i).2.1 + 1, (rsS t n 4 (a + 1) i).2.2 + 1) := by
                rw [rsS, he, if_pos ⟨by omega, hh⟩]
              have nx := ih (3 - s) (by omega) (s + 1) (by omega)
              refine pm_J.run [] 40 (fun K hK => hK _ ?_)
              refine pm_J.cI q15 hM gRX6_67 vX6_here ?_
              refine pm_J.run [75] 60 (fun K hK => hK _ ?_)
              rw [hns] at nx
              dsimp only at nx
              have e2 : nI s = nI (48 + s) - nI 48 := by rw [pk_sub (by omega)]; congr 1; omega
              rw [← nx_or, ← nI_shl1 (by omega : s < 30), show 47 + (s + 1) = 48 + s by omega, e2] at nx
              unfold moW at nx
              dsimp only at nx
              rw [← nI_add (rsS t n 4 (a + 1) i).2.2 1] at nx
              rw [hv]
              exact nx
            · have q3 : ¬ nI (47 + i) < hrI t n (rsS t n 4 (a + 1) i).2.2 := q
              rw [hv, nI_ltI (by omega) (by omega)] at q3
              exact stuck (fun k g1 g2 => by
                cases z : hereB t n (rsS t n 4 (a + 1) i).2.2 (48 + k) with
                | false => rfl
                | true => have := here_uniq hh z; omega)
          · rw [if_neg hst2]
            refine pm_J.run [113] 40 (fun K hK => br_t (by decide) (hK _ ?_))
            exact stuck (fun k g1 g2 => by
              cases z : hereB t n (rsS t n 4 (a + 1) i).2.2 (48 + k) with
              | false => rfl
              | true => exact absurd (hr_stateN ht g2 z) hst2)
        refine pm_J.run [95, 147] 40 (fun K hK => And.intro (fun q => hK _ ?_) (fun q => And.intro (fun q2 => hK _ ?_) (fun q2 => hK _ ?_)))
        · have q3 : ¬ hrI t n (rsS t n 4 (a + 1) i).2.2 = nI 125 := q
          rw [hr_pos ht (by decide)] at q3
          exact go (fun z => q3 z.1)
        · have q3 : ¬ ¬ hrI t n (rsS t n 4 (a + 1) i).2.2 = nI 125 := q
          have q4 : ¬ nI (rsS t n 4 (a + 1) i).1 = 0 := q2
          rw [hr_pos ht (by decide)] at q3
          rw [nI_z (by omega)] at q4
          have hh := Classical.not_not.mp q3
          have he := rsS_skip (t := t) (n := n) (lm := 4) (a0 := a + 1) (i := i) (4 - i) (fun k g1 g2 => by
            cases z : hereB t n (rsS t n 4 (a + 1) i).2.2 (48 + k) with
            | false => rfl
            | true => have := here_uniq hh z; omega)
          rw [show i + (4 - i) = 4 by omega] at he
          have e2 : en = ((rsS t n 4 (a + 1) i).1, (rsS t n 4 (a + 1) i).2.2 + 1) := by
            rw [e, he, if_neg q4, if_pos hh]
          rw [e2] at hO2
          refine pm_J.run [] 40 (fun K hK => hK _ ?_)
          refine pm_J.cv q15 (moW (t, n) ((rsS t n 4 (a + 1) i).2.2 + 1, pm_k (-1), R) T F G S W th) (by
            have := d_must hs (t, n) ((rsS t n 4 (a + 1) i).2.2, pm_k (-1), R) T F G S W th 125 hn ht (by show (rsS t n 4 (a + 1) i).2.2 ≤ 200; omega) (by decide)
            rw [muP, if_pos hh] at this
            exact this) gRX6_78 vX6_must ?_
          refine pm_J.run [] 40 (fun K hK => hK _ ?_)
          refine pm_J.ri ?_
          rw [hO2]
          exact Or.inl ⟨q4, rfl, rfl⟩
        · have q4 : ¬ ¬ nI (rsS t n 4 (a + 1) i).1 = 0 := q2
          rw [nI_z (by omega)] at q4
          exact go (fun z => q4 z.2)
      refine pm_J.run [75] 60 (fun K hK => hK _ ?_)
      have st := loop 4 0 rfl
      unfold moW at st
      dsimp only [rsS] at st
      rw [← nI_add a 1] at st
      exact st
    · have q' : ¬ hrI t n a = nI 63 := q
      have q2' : ¬ hrI t n a = nI 123 := q2
      rw [hr_pos ht (by decide)] at q' q2'
      have e : enF t n a = (0, a) := by rw [enF, if_neg q', if_neg q2', rs1_no hno]
      refine pm_J.cv q15 (moW (t, n) (a, nI a, R) T F G S W th) (d_wrong hs (t, n) (a, pm_k (-1), R) T F G S W th) gRX6_71 vX6_wrong ?_
      refine pm_J.run [] 40 (fun K hK => hK _ ?_)
      refine pm_J.ri ?_
      rw [← hO]
      refine Or.inr ⟨by show (enF t n a).1 = 0; rw [e], 0, a, by omega, rfl, ?_⟩
      show _ = moW (t, n) (a, nI (enF t n a).2, R) T F G S W th
      rw [e]
    · have q' : ¬ ¬ hrI t n a = nI 63 := q
      rw [hr_pos ht (by decide)] at q'
      have e : enF t n a = (15, a + 1) := by rw [enF, if_pos (Classical.not_not.mp q')]
      refine pm_J.ri ?_
      rw [← hO]
      refine Or.inl ⟨by show ¬ (enF t n a).1 = 0; rw [e]; exact (by decide : ¬ 15 = 0), ?_, ?_⟩
      · show _ = Sum.inl (some (Value.int (nI (enF t n a).1)))
        rw [e]
        rfl
      · show _ = moW (t, n) ((enF t n a).2, pm_k (-1), R) T F G S W th
        rw [e]
        unfold moW
        dsimp only
        rw [← nI_add a 1]
        rfl
end MD2
