section MD5
variable {l : Launch}
def rv (L : Nat → Nat) (old node k : Nat) : Nat := if L k = old ∧ k ≠ node then node else L k
def rpS (old node : Nat) (L R : Nat → Nat) : Nat → (Nat → Nat) × (Nat → Nat)
  | 0 => (L, R)
  | k + 1 => if k < 10 then (L, R) else (upN (rpS old node L R k).1 k (rv (rpS old node L R k).1 old node k), upN (rpS old node L R k).2 k (rv (rpS old node L R k).2 old node k))
theorem rv_Bd {L : Nat → Nat} (h : Bd L) {old node k : Nat} (hn : node < 128) : rv L old node k < 128 := by
  unfold rv; split
  · exact hn
  · exact h k
theorem rpS_Bd {old node : Nat} {L R : Nat → Nat} (hL : Bd L) (hR : Bd R) (hn : node < 128) : ∀ k, Bd (rpS old node L R k).1 ∧ Bd (rpS old node L R k).2
  | 0 => ⟨hL, hR⟩
  | k + 1 => by
    have ih := rpS_Bd (old := old) hL hR hn k
    unfold rpS
    split
    · exact ⟨hL, hR⟩
    · exact ⟨ih.1.up (rv_Bd ih.1 hn), ih.2.up (rv_Bd ih.2 hn)⟩
theorem d_replace (hs : l.stackTraces = false) (A : mA) (P : mP) (T : mT) (F : mF) (tp : Nat) (L R : Nat → Nat) (G' : (Nat → Nat) × (Nat → Nat) × (Nat → Nat)) (S : mS) (W : mW) (th old node : Nat) (htp : tp < 128) (hL : Bd L) (hR : Bd R) (ho : old < 128) (hn : node < 128) :
    pm_Met l mX6_replace 1 0 0 [.ref 0, .int (nI old), .int (nI node)] (moW A P T F (tp, L, R, G') S W th) (isO none (moW A P T F (if tp = old then node else tp, (rpS old node L R 16).1, (rpS old node L R 16).2, G') S W th)) := by
  generalize hO : isO none (moW A P T F (if tp = old then node else tp, (rpS old node L R 16).1, (rpS old node L R 16).2, G') S W th) = O
  have key : ∀ tp', (if tp = old then node else tp) = tp' → pm_J l mX6_replace iX6_replace 1 0 0 15 O 0 0 (16, [some (.ref 0), some (.int (nI old)), some (.int (nI node)), some (.int (nI 10))], [], moW A P T F (tp', (rpS old node L R 10).1, (rpS old node L R 10).2, G') S W th) := by
    intro tp' htp'
    refine pm_up (b := 16) (P := fun k => pm_J l mX6_replace iX6_replace 1 0 0 15 O 0 0 (16, [some (.ref 0), some (.int (nI old)), some (.int (nI node)), some (.int (nI k))], [], moW A P T F (tp', (rpS old node L R k).1, (rpS old node L R k).2, G') S W th)) 10 (by decide) ?_ (fun k h1 h2 ih => ?_)
    · refine pm_J.run [] 60 (fun K hK => br_t (nI_le (a := 16) (b := 16) (by decide) (by decide)) (hK _ ?_))
      refine pm_J.rv ?_
      rw [← hO, htp']
      exact ⟨rfl, rfl⟩
    · obtain ⟨b1, b2⟩ := rpS_Bd (old := old) hL hR hn k
      have e : rpS old node L R (k + 1) = (upN (rpS old node L R k).1 k (rv (rpS old node L R k).1 old node k), upN (rpS old node L R k).2 k (rv (rpS old node L R k).2 old node k)) := by rw [rpS, if_neg (by omega)]
      rw [e] at ih
      dsimp only at ih
      clear e
      generalize rpS old node L R k = z at ih b1 b2 ⊢
      obtain ⟨L1, R1⟩ := z
      dsimp only at ih b1 b2 ⊢
      have ek : (nI k).toNatClampNeg = k := nI_clamp (by omega)
      have ii : vp_in (nI k) 16 := vp_in_nI (by omega) (by decide)
      have second : pm_J l mX6_replace iX6_replace 1 0 0 15 O 0 0 (53, [some (.ref 0), some (.int (nI old)), some (.int (nI node)), some (.int (nI k))], [], moW A P T F (tp', upN L1 k (rv L1 old node k), R1, G') S W th) := by
        have fin : ∀ v, v = rv R1 old node k → pm_J l mX6_replace iX6_replace 1 0 0 15 O 0 0 (83, [some (.ref 0), some (.int (nI old)), some (.int (nI node)), some (.int (nI k))], [.int (nI v), .int (nI k), .ref 7], moW A P T F (tp', upN L1 k (rv L1 old node k), R1, G') S W th) := by
          intro v hv
          refine pm_J.run [16] 60 (fun K hK => And.intro ii (hK _ ?_))
          unfold moW at ih
          dsimp only at ih
          rw [← nI_add k 1, ← nA_upd R1, ← hv] at ih
          rw [ek]
          exact ih
        refine pm_J.run [83] 60 (fun K hK => And.intro ii (And.intro (fun q => And.intro ii (hK _ ?_)) (fun q => And.intro (fun q2 => And.intro ii (hK _ ?_)) (fun q2 => hK _ ?_))))
        · have q' : ¬ nI (R1 (nI k).toNatClampNeg) = nI old := q
          rw [ek, nI_e128 (b2 k) ho] at q'
          rw [ek]
          exact fin (R1 k) (show R1 k = rv R1 old node k by rw [rv, if_neg (fun z => q' z.1)])
        · have q2' : nI k = nI node := q2
          rw [nI_e128 (by omega) hn] at q2'
          rw [ek]
          exact fin (R1 k) (show R1 k = rv R1 old node k by rw [rv, if_neg (fun z => z.2 q2')])
        · have q' : ¬ ¬ nI (R1 (nI k).toNatClampNeg) = nI old := q
          have q2' : ¬ nI k = nI node := q2
          rw [ek, nI_e128 (b2 k) ho] at q'
          rw [nI_e128 (by omega) hn] at q2'
          exact fin node (by rw [rv, if_pos ⟨Classical.not_not.mp q', q2'⟩])
      have fin : ∀ v, v = rv L1 old node k → pm_J l mX6_replace iX6_replace 1 0 0 15 O 0 0 (52, [some (.ref 0), some (.int (nI old)), some (.int (nI node)), some (.int (nI k))], [.int (nI v), .int (nI k), .ref 6], moW A P T F (tp', L1, R1, G') S W th) := by
        intro v hv
        refine pm_J.run [53] 60 (fun K hK => And.intro ii (hK _ ?_))
        unfold moW at second
        dsimp only at second
        rw [← nA_upd L1, ← hv] at second
        rw [ek]
        exact second
      refine pm_J.run [52] 60 (fun K hK => br_f (nI_ge (a := k) (b := 16) h2 (by decide)) (And.intro ii (And.intro (fun q => And.intro ii (hK _ ?_)) (fun q => And.intro (fun q2 => And.intro ii (hK _ ?_)) (fun q2 => hK _ ?_)))))
      · have q' : ¬ nI (L1 (nI k).toNatClampNeg) = nI old := q
        rw [ek, nI_e128 (b1 k) ho] at q'
        rw [ek]
        exact fin (L1 k) (show L1 k = rv L1 old node k by rw [rv, if_neg (fun z => q' z.1)])
      · have q2' : nI k = nI node := q2
        rw [nI_e128 (by omega) hn] at q2'
        rw [ek]
        exact fin (L1 k) (show L1 k = rv L1 old node k by rw [rv, if_neg (fun z => z.2 q2')])
      · have q' : ¬ ¬ nI (L1 (nI k).toNatClampNeg) = nI old := q
        have q2' : ¬ nI k = nI node := q2
        rw [ek, nI_e128 (b1 k) ho] at q'
        rw [nI_e128 (by omega) hn] at q2'
        exact fin node (by rw [rv, if_pos ⟨Classical.not_not.mp q', q2'⟩])
  have e10 : rpS old node L R 10 = (L, R) := by rw [rpS, if_pos (by decide)]
  rw [e10] at key
  refine pm_Met.mk kX6_replace hs (pm_J.run [16] 40 (fun K hK => And.intro (fun q => hK _ ?_) (fun q => hK _ ?_)))
  · have q' : ¬ nI tp = nI old := q
    rw [nI_e128 htp ho] at q'
    exact key tp (if_neg q')
  · have q' : ¬ ¬ nI tp = nI old := q
    rw [nI_e128 htp ho] at q'
    exact key node (if_pos (Classical.not_not.mp q'))
def dvS (j : Nat) : Nat → Nat → Nat
  | 0, x => x
  | m + 1, x => if m ≤ j then x else dvS j m (x / (2 * m - 3))
def chR (k x j : Nat) : Nat := if j < 3 then 0 else dvS j k x % (2 * j - 3)
theorem d_choice (hs : l.stackTraces = false) (A : mA) (P : mP) (T : mT) (F : mF) (G : mG) (S : mS) (W : mW) (th x j : Nat) (hk : T.1 ≤ 7) (hx : x < 2 ^ 31) (hj2 : 2 ≤ j) (hj : j < T.1) :
    pm_Met l mX6_choice 1 0 0 [.ref 0, .int (nI x), .int (nI j)] (moW A P T F G S W th) (isI (nI (chR T.1 x j)) (moW A P T F G S W th)) := by
  generalize hO : isI (nI (chR T.1 x j)) (moW A P T F G S W th) = O
  have loop : ∀ i, j ≤ i → i < 7 → ∀ y, y < 2 ^ 31 → dvS j (i + 1) y = dvS j T.1 x → pm_J l mX6_choice iX6_choice 1 0 0 15 O 0 0 (10, [some (.ref 0), some (.int (nI x)), some (.int (nI j)), some (.int (nI y)), some (.int (nI i))], [], moW A P T F G S W th) := by
    intro i
    induction i with
    | zero => intro h; omega
    | succ i ih =>
      intro h1 h2 y hy he
      rw [dvS] at he
      by_cases h3 : i + 1 ≤ j
      · rw [if_pos h3] at he
        refine pm_J.run [31] 40 (fun K hK => br_t (nI_le (a := i + 1) (b := j) h3 (by omega)) (hK _ ?_))
        by_cases h4 : j < 3
        · refine pm_J.run [] 40 (fun K hK => br_f (nI_ge (a := j) (b := 3) h4 (by decide)) (hK _ ?_))
          refine pm_J.ri ?_
          rw [← hO, chR, if_pos h4]
          exact ⟨rfl, rfl⟩
        · have e1 : nI 2 * nI j - nI 3 = nI (2 * j - 3) := by rw [pk_mul, pk_sub (by omega)]
          have hne : ¬ nI 2 * nI j - nI 3 = 0 := by rw [e1]; exact nI_ne0 (by omega) (by omega)
          refine pm_J.run [] 40 (fun K hK => br_t (nI_le (a := 3) (b := j) (by omega) (by omega)) (And.intro hne (hK _ ?_)))
          refine pm_J.ri ?_
          rw [← hO, chR, if_neg h4, ← he, ← pk_rem hy (by omega) (by omega), ← e1]
          exact ⟨rfl, rfl⟩
      · rw [if_neg h3] at he
        have e1 : nI 2 * nI (i + 1) - nI 3 = nI (2 * (i + 1) - 3) := by rw [pk_mul, pk_sub (by omega)]
        have hne : ¬ nI 2 * nI (i + 1) - nI 3 = 0 := by rw [e1]; exact nI_ne0 (by omega) (by omega)
        refine pm_J.run [10] 40 (fun K hK => br_f (nI_ge (a := j) (b := i + 1) (by omega) (by omega)) (And.intro hne (hK _ ?_)))
        have := ih (by omega) (by omega) _ (Nat.lt_of_le_of_lt (Nat.div_le_self _ _) hy) he
        rw [← pk_div hy (by omega) (by omega), ← nI_dn i, ← e1] at this
        exact this
  refine pm_Met.mk kX6_choice hs (pm_J.run [10] 40 (fun K hK => hK _ ?_))
  have := loop (T.1 - 1) (by omega) (by omega) x hx (by rw [show T.1 - 1 + 1 = T.1 by omega])
  rw [← pk_sub (a := T.1) (b := 1) (by omega)] at this
  exact this
end MD5
