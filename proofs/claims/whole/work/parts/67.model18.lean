section MDI
variable {l : Launch}
def cnN (T : mT) (F : mF) (s : Nat) : Nat := if 1 < onS s 8 ∧ s &&& ((2 ^ T.1 - 2) ^^^ 4294967295) = 0 then shQ T.1 F.2 (nI s) F.1 else 0
def cnB (T : mT) (F : mF) (ab : UInt32) (s : Nat) : Bool := decide (cnN T F s = F.1) || (decide (0 < cnN T F s) && decide (0 < Op.cmpValue (FP.fcmp (FP.fdiv (FP.i2f (nI (cnN T F s))) (FP.i2f (nI F.1))) ab) .l))
def coQ (T : mT) (F : mF) (ab : UInt32) (os0 : Nat → Nat) : Nat → Nat × (Nat → Nat)
  | 0 => (0, os0)
  | i + 1 => if i = 0 then (0, os0) else if cnB T F ab (2 * i) then ((coQ T F ab os0 i).1 + 1, upN (coQ T F ab os0 i).2 (coQ T F ab os0 i).1 (2 * i)) else coQ T F ab os0 i
theorem coQ_ag (T : mT) (F : mF) (ab : UInt32) (s0 s1 : Nat → Nat) : ∀ n, (coQ T F ab s0 n).1 = (coQ T F ab s1 n).1 ∧ Ag (coQ T F ab s1 n).1 (coQ T F ab s0 n).2 (coQ T F ab s1 n).2
  | 0 => ⟨rfl, fun i hi => absurd hi (Nat.not_lt_zero i)⟩
  | n + 1 => by
    obtain ⟨h1, h2⟩ := coQ_ag T F ab s0 s1 n
    unfold coQ
    split
    · exact ⟨rfl, fun i hi => absurd hi (Nat.not_lt_zero i)⟩
    · split
      · dsimp only
        rw [h1]
        exact ⟨rfl, h2.up _⟩
      · exact ⟨h1, h2⟩
theorem coQ_st (T : mT) (F : mF) (ab : UInt32) (s0 : Nat → Nat) (n : Nat) : (coQ T F ab s0 n).1 ≤ (coQ T F ab s0 (n + 1)).1 := by
  rw [show coQ T F ab s0 (n + 1) = if n = 0 then (0, s0) else if cnB T F ab (2 * n) then ((coQ T F ab s0 n).1 + 1, upN (coQ T F ab s0 n).2 (coQ T F ab s0 n).1 (2 * n)) else coQ T F ab s0 n from rfl]
  by_cases h : n = 0
  · subst h; rw [if_pos rfl]; exact Nat.le_refl 0
  · rw [if_neg h]
    split
    · exact Nat.le_succ _
    · exact Nat.le_refl _
theorem coQ_mono {T : mT} {F : mF} {ab : UInt32} {s0 : Nat → Nat} {i : Nat} : ∀ j, (coQ T F ab s0 i).1 ≤ (coQ T F ab s0 (i + j)).1
  | 0 => Nat.le_refl _
  | j + 1 => Nat.le_trans (coQ_mono j) (coQ_st T F ab s0 (i + j))
theorem coQ_256 {T : mT} {F : mF} {ab : UInt32} {s0 : Nat → Nat} : ∀ n, n ≤ 64 → ∀ i, i < (coQ T F ab s0 n).1 → (coQ T F ab s0 n).2 i < 256
  | 0, _, i, hi => absurd hi (Nat.not_lt_zero i)
  | n + 1, hn, i, hi => by
    have ih := coQ_256 (T := T) (F := F) (ab := ab) (s0 := s0) n (by omega)
    unfold coQ at hi ⊢
    split at hi
    · exact absurd hi (Nat.not_lt_zero i)
    · rename_i q
      rw [if_neg q]
      split at hi
      · rename_i q2
        rw [if_pos q2]
        dsimp only at hi ⊢
        unfold upN
        split
        · omega
        · exact ih i (by omega)
      · rename_i q2
        rw [if_neg q2]
        exact ih i hi
set_option maxHeartbeats 2000000 in
theorem d_common (hFP : FPd) (hs : l.stackTraces = false) (A : mA) (P : mP) (T : mT) (F : mF) (G : mG) (S : mS) (W : mW) (th : Nat) (ab : UInt32) (hk : T.1 ≤ 7) (hF : FI T F) (hG : GJ G) (hW : ∃ op, W.2.2 = nA op) (wz : Nat × (Nat → Nat) × (Nat → Nat)) (h8 : ¬ F.1 = 0 → okA ab → (coQ T F ab zz 64).1 ≤ 8) (hr : ¬ F.1 = 0 → okA ab → wrA (coQ T F ab zz 64).2 (coQ T F ab zz 64).1 T.1 100 zz zz = some wz) :
    pm_Met l mX6_common 6 0 0 [.ref 0, .float ab] (moW A P T F G S W th) (fun o w' => (F.1 = 0 ∧ o = .inl (some (.int (nI 0))) ∧ w' = moW A P T F G S W 1) ∨ (¬ F.1 = 0 ∧ ¬ okA ab ∧ o = .inl (some (.int (nI 0))) ∧ w' = moW A P T F G S W 2) ∨ (¬ F.1 = 0 ∧ okA ab ∧ o = .inl (some (.int (nI wz.1))) ∧ moX A P T F (wz.1, wz.2.1) 0 w')) := by
  generalize hO : (fun (o : pm_O) (w' : List pm_E) => (F.1 = 0 ∧ o = .inl (some (.int (nI 0))) ∧ w' = moW A P T F G S W 1) ∨ (¬ F.1 = 0 ∧ ¬ okA ab ∧ o = .inl (some (.int (nI 0))) ∧ w' = moW A P T F G S W 2) ∨ (¬ F.1 = 0 ∧ okA ab ∧ o = .inl (some (.int (nI wz.1))) ∧ moX A P T F (wz.1, wz.2.1) 0 w')) = O
  have h945 := hF.1
  have bad : ¬ F.1 = 0 → ¬ okA ab → pm_J l mX6_common iX6_common 6 0 0 15 O 0 0 (29, [some (.ref 0), some (.float ab), none, none], [.ref 0], moW A P T F G S W th) := by
    intro h0 h
    refine pm_J.run [] 40 (fun K hK => br_f (by decide) (hK _ ?_))
    refine pm_J.ri ?_
    rw [← hO]
    exact Or.inr (Or.inl ⟨h0, h, rfl, rfl⟩)
  refine pm_Met.mk kX6_common hs (pm_J.run [29, 42] 60 (fun K hK => And.intro (fun q => And.intro (fun q2 => hK _ ?_) (fun q2 => And.intro (fun q3 => hK _ ?_) (fun q3 => ?_))) (fun q => br_f (by decide) (hK _ ?_))))
  · have q' : ¬ nI F.1 = 0 := q
    rw [nI_z (by omega)] at q'
    exact bad q' (fun z => z.1 q2)
  · have q' : ¬ nI F.1 = 0 := q
    rw [nI_z (by omega)] at q'
    exact bad q' (fun z => absurd q3 (Int32.not_lt.mpr z.2))
  · have q' : ¬ nI F.1 = 0 := q
    have hf0 := q'
    rw [nI_z (by omega)] at hf0
    have hab : okA ab := ⟨q2, Int32.not_lt.mp q3⟩
    have h8 := h8 hf0 hab
    have hr := hr hf0 hab
    have hk3 : 3 ≤ T.1 := tc_3 (hF.2 0 (by omega))
    have hp7 : 2 ^ T.1 ≤ 2 ^ 7 := Nat.pow_le_pow_right (by decide) hk
    have hp1 : 2 ^ 1 ≤ 2 ^ T.1 := Nat.pow_le_pow_right (by decide) (by omega)
    have em : pm_k 1 <<< (nI T.1 &&& 31) - pm_k 2 = nI (2 ^ T.1 - 2) := by
      show nI 1 <<< (nI T.1 &&& 31) - nI 2 = _
      rw [nI_shl1 (by omega), pk_sub (by omega)]
    have hO2 : ∀ w', moX A P T F (wz.1, wz.2.1) 0 w' → O (.inl (some (.int (nI wz.1)))) w' := fun w' hw => by
      rw [← hO]
      exact Or.inr (Or.inr ⟨hf0, hab, rfl, hw⟩)
    obtain ⟨sz, wr, op0⟩ := W
    obtain ⟨op, hop⟩ := hW
    dsimp only at hop
    subst hop
    refine br_t (by decide) (hK _ ?_)
    clear hO bad
    refine pm_J.run [49] 60 (fun K hK => hK _ ?_)
    -- the end: copied and written
    have fin : ∀ (x3 : Option Value) (G : mG) s1 e1, GJ G → pm_J l mX6_common iX6_common 6 0 0 15 O 0 0 (140, [some (.ref 0), some (.float ab), some (.int (nI 128)), x3], [], moW A P T F G (s1, e1, coQ T F ab S.2.2.2 64) (sz, wr, nA op) 0) := by
      intro x3 G s1 e1 hG
      obtain ⟨a1, a2⟩ := coQ_ag T F ab S.2.2.2 zz 64
      have a3 : ∀ i, i < (coQ T F ab S.2.2.2 64).1 → (coQ T F ab S.2.2.2 64).2 i < 256 := coQ_256 64 (by decide)
      generalize coQ T F ab S.2.2.2 64 = cz at a1 a2 a3 ⊢
      generalize coQ T F ab zz 64 = c0 at a1 a2 h8 hr
      obtain ⟨n, es⟩ := cz
      dsimp only at a1 a2 a3 ⊢
      subst a1
      generalize hcn : c0.1 = n at a2 a3 h8 hr ⊢
      refine pm_J.run [150] 60 (fun K hK => hK _ ?_)
      have copy : pm_J l mX6_common iX6_common 6 0 0 15 O 0 0 (150, [some (.ref 0), some (.float ab), some (.int (nI 0)), x3], [], moW A P T F G (n, cpF es e1 8 0, n, es) (sz, wr, nA op) 0) := by
        refine pm_up (b := n) (P := fun i => pm_J l mX6_common iX6_common 6 0 0 15 O 0 0 (150, [some (.ref 0), some (.float ab), some (.int (nI i)), x3], [], moW A P T F G (n, cpF es e1 8 i, n, es) (sz, wr, nA op) 0)) 0 (Nat.zero_le _) ?_ (fun i g1 g2 ih => ?_)
        · refine pm_J.run [] 60 (fun K hK => br_t (nI_le (Nat.le_refl _) (by omega)) (hK _ ?_))
          obtain ⟨z, z1, z2, z3⟩ := wrA_ag (e := cpF es e1 8 n) (e' := c0.2) (ne := n) (fun i hi => by rw [cpF_lt hi]; exact a2 i hi) T.1 100 wr zz op zz wz hr
          refine pm_J.ciw q15 (moW A P T F G (n, cpF es e1 8 n, n, es) (z.1, z.2.1, nA z.2.2) 0) (d_writeSplits hs A P T F G (n, cpF es e1 8 n, n, es) sz wr op 0 100 z hk3 hk h8 (fun i hi => by
            show cpF es e1 8 n i < 256
            rw [cpF_lt hi]; exact a3 i hi) z1) gRX6_179 vX6_writeSplits ?_
          refine pm_J.ri ?_
          have hx : moX A P T F (wz.1, wz.2.1) 0 (moW A P T F G (n, cpF es e1 8 n, n, es) (z.1, z.2.1, nA z.2.2) 0) := ⟨G, (n, cpF es e1 8 n, n, es), (z.1, z.2.1, nA z.2.2), hG, ⟨z2, z3, z.2.2, rfl⟩, rfl⟩
          have hx2 := hO2 _ hx
          rw [← z2] at hx2
          exact hx2
        · have ii : vp_in (nI i) 8 := vp_in_nI (by omega) (by decide)
          rw [cpF_s _ _ _ i] at ih
          unfold moW at ih
          dsimp only at ih
          rw [← nA_upd (cpF es e1 8 i), ← nI_add i 1] at ih
          refine pm_J.run [150] 60 (fun K hK => br_f (nI_ge g2 (by omega)) (And.intro ii (And.intro ii (hK _ ?_))))
          rw [nI_clamp (by omega)]
          exact ih
      rw [cpF_0] at copy
      exact copy
    have key : ∀ (x3 : Option Value) (G : mG) s1 e1, GJ G → pm_J l mX6_common iX6_common 6 0 0 15 O 0 0 (49, [some (.ref 0), some (.float ab), some (.int (nI (2 * 1))), x3], [], moW A P T F G (s1, e1, coQ T F ab S.2.2.2 1) (sz, wr, nA op) 0) := by
      refine pm_up (b := 64) (P := fun i => ∀ (x3 : Option Value) (G : mG) s1 e1, GJ G → pm_J l mX6_common iX6_common 6 0 0 15 O 0 0 (49, [some (.ref 0), some (.float ab), some (.int (nI (2 * i))), x3], [], moW A P T F G (s1, e1, coQ T F ab S.2.2.2 i) (sz, wr, nA op) 0)) 1 (by decide) (fun x3 G s1 e1 hG => ?_) (fun i h1 h2 ih x3 G s1 e1 hG => ?_)
      · refine pm_J.run [140] 60 (fun K hK => br_t (nI_le (a := 128) (b := 2 * 64) (by decide) (by decide)) (hK _ ?_))
        exact fin x3 G s1 e1 hG
      · have e : coQ T F ab S.2.2.2 (i + 1) = if cnB T F ab (2 * i) then ((coQ T F ab S.2.2.2 i).1 + 1, upN (coQ T F ab S.2.2.2 i).2 (coQ T F ab S.2.2.2 i).1 (2 * i)) else coQ T F ab S.2.2.2 i := by rw [coQ, if_neg (by omega)]
        have hmo : (coQ T F ab S.2.2.2 (i + 1)).1 ≤ 8 := by
          have := coQ_mono (T := T) (F := F) (ab := ab) (s0 := S.2.2.2) (i := i + 1) (63 - i)
          rw [show i + 1 + (63 - i) = 64 by omega] at this
          have h9 := (coQ_ag T F ab S.2.2.2 zz 64).1
          omega
        have e2 : nI (2 * (i + 1)) = nI (2 * i) + pm_k 2 := (nI_add (2 * i) 2).symm
        rw [e2, e] at ih
        rw [e] at hmo
        clear e fin
        generalize coQ T F ab S.2.2.2 i = cz at ih hmo ⊢
        have o8 := onS_le (2 * i) 8
        -- after the number is known
        have aft : ∀ (G : mG) s1 e1 x3, GJ G → pm_J l mX6_common iX6_common 6 0 0 15 O 0 0 (88, [some (.ref 0), some (.float ab), some (.int (nI (2 * i))), x3], [.int (nI (cnN T F (2 * i)))], moW A P T F G (s1, e1, cz) (sz, wr, nA op) 0) := by
          intro G s1 e1 x3 hG
          have ih2 := ih (some (.int (nI (cnN T F (2 * i))))) G s1 e1 hG
          have hcl : cnN T F (2 * i) ≤ F.1 := by
            unfold cnN
            split
            · exact shQ_le _ _ _ _
            · exact Nat.zero_le _
          have yes : cnB T F ab (2 * i) = true → pm_J l mX6_common iX6_common 6 0 0 15 O 0 0 (114, [some (.ref 0), some (.float ab), some (.int (nI (2 * i))), some (.int (nI (cnN T F (2 * i))))], [], moW A P T F G (s1, e1, cz) (sz, wr, nA op) 0) := by
            intro hb
            rw [hb, if_pos rfl] at ih2 hmo
            dsimp only at hmo
            unfold moW at ih2
            dsimp only at ih2
            rw [← nA_upd cz.2, ← nI_add cz.1 1] at ih2
            have h7 : cz.1 < 8 := by omega
            refine pm_J.run [49] 60 (fun K hK => And.intro (vp_in_nI (n := cz.1) h7 (by decide)) (hK _ ?_))
            rw [show (nI (s1, e1, cz).2.2.1).toNatClampNeg = cz.1 from nI_clamp (n := cz.1) (by omega)]
            exact ih2
          have no : cnB T F ab (2 * i) = false → pm_J l mX6_common iX6_common 6 0 0 15 O 0 0 (134, [some (.ref 0), some (.float ab), some (.int (nI (2 * i))), some (.int (nI (cnN T F (2 * i))))], [], moW A P T F G (s1, e1, cz) (sz, wr, nA op) 0) := by
            intro hb
            rw [hb, if_neg Bool.false_ne_true] at ih2
            refine pm_J.run [49] 60 (fun K hK => hK _ ?_)
            exact ih2
          refine pm_J.run [114, 134] 60 (fun K hK => And.intro (fun g => hK _ ?_) (fun g => And.intro (fun g2 => hK _ ?_) (fun g2 => And.intro (hFP _ _ q') (And.intro (fun g3 => hK _ ?_) (fun g3 => hK _ ?_)))))
          · have g' : nI (cnN T F (2 * i)) = nI F.1 := g
            rw [nI_eq (by omega) (by omega)] at g'
            exact yes (by unfold cnB; rw [decide_eq_true g']; rfl)
          · have g' : ¬ nI (cnN T F (2 * i)) = nI F.1 := g
            rw [nI_eq (by omega) (by omega)] at g'
            have g2' : nI (cnN T F (2 * i)) ≤ 0 := g2
            rw [← nI_0, nI_leI (by omega) (by decide)] at g2'
            exact no (by unfold cnB; rw [decide_eq_false g', decide_eq_false (show ¬ 0 < cnN T F (2 * i) by omega)]; rfl)
          · have g' : ¬ nI (cnN T F (2 * i)) = nI F.1 := g
            rw [nI_eq (by omega) (by omega)] at g'
            exact no (by unfold cnB; rw [decide_eq_false g', decide_eq_false (show ¬ 0 < Op.cmpValue (FP.fcmp (FP.fdiv (FP.i2f (nI (cnN T F (2 * i)))) (FP.i2f (nI F.1))) ab) .l from Int32.not_lt.mpr g3), Bool.and_false]; rfl)
          · have g2' : ¬ nI (cnN T F (2 * i)) ≤ 0 := g2
            rw [← nI_0, nI_leI (by omega) (by decide)] at g2'
            exact yes (by unfold cnB; rw [decide_eq_true (show 0 < cnN T F (2 * i) by omega), decide_eq_true (show 0 < Op.cmpValue (FP.fcmp (FP.fdiv (FP.i2f (nI (cnN T F (2 * i)))) (FP.i2f (nI F.1))) ab) .l from Int32.not_le.mp g3), Bool.and_true, Bool.or_true])
        refine pm_J.run [] 60 (fun K hK => br_f (nI_ge (a := 2 * i) (b := 128) (by omega) (by decide)) (hK _ ?_))
        refine pm_J.cis (d_ones hs (2 * i) (by omega)) gRX6_154 vX6_ones ?_
        have none' : ¬ (1 < onS (2 * i) 8 ∧ 2 * i &&& ((2 ^ T.1 - 2) ^^^ 4294967295) = 0) → pm_J l mX6_common iX6_common 6 0 0 15 O 0 0 (87, [some (.ref 0), some (.float ab), some (.int (nI (2 * i))), x3], [], moW A P T F G (s1, e1, cz) (sz, wr, nA op) 0) := by
          intro hq
          have := aft G s1 e1 x3 hG
          rw [cnN, if_neg hq] at this
          refine pm_J.run [88] 60 (fun K hK => hK _ ?_)
          exact this
        refine pm_J.run [87] 60 (fun K hK => And.intro (fun g => hK _ ?_) (fun g => And.intro (fun g2 => hK _ ?_) (fun g2 => hK _ ?_)))
        · have g' : nI (onS (2 * i) 8) ≤ nI 1 := g
          rw [nI_leI (by omega) (by decide)] at g'
          exact none' (fun z => by omega)
        · have g' : ¬ (nI (2 * i) &&& ((pm_k 1 <<< (nI T.1 &&& 31) - pm_k 2) ^^^ pm_k (-1))) = 0 := g2
          rw [em, nI_not, nx_and, nI_z (Nat.lt_of_le_of_lt Nat.and_le_left (by omega))] at g'
          exact none' (fun z => g' z.2)
        · have g' : ¬ nI (onS (2 * i) 8) ≤ nI 1 := g
          rw [nI_leI (by omega) (by decide)] at g'
          have g2' : ¬ ¬ (nI (2 * i) &&& ((pm_k 1 <<< (nI T.1 &&& 31) - pm_k 2) ^^^ pm_k (-1))) = 0 := g2
          rw [em, nI_not, nx_and, nI_z (Nat.lt_of_le_of_lt Nat.and_le_left (by omega))] at g2'
          have hcn : cnN T F (2 * i) = shQ T.1 F.2 (nI (2 * i)) F.1 := by rw [cnN, if_pos ⟨by omega, Classical.not_not.mp g2'⟩]
          refine pm_J.cR q15 (d_sharing hs A P T F G (s1, e1, cz) (sz, wr, nA op) 0 (nI (2 * i)) hk hF hG) gRX6_148 vX6_sharing (fun E w1 z => by cases z.1) (fun v w1 z => ?_)
          obtain ⟨z1, G2, s2, e2', hG2, rfl⟩ := z
          cases z1
          show pm_J l mX6_common iX6_common 6 0 0 15 O 0 0 (84, [some (.ref 0), some (.float ab), some (.int (nI (2 * i))), x3], [.int (nI (shQ T.1 F.2 (nI (2 * i)) F.1))], moW A P T F G2 (s2, e2', cz) (sz, wr, nA op) 0)
          rw [← hcn]
          refine pm_J.run [88] 60 (fun K hK => hK _ ?_)
          exact aft G2 s2 e2' x3 hG2
    have e1 : coQ T F ab S.2.2.2 1 = (0, S.2.2.2) := by rw [coQ, if_pos rfl]
    have := key none G S.1 S.2.1 hG
    rw [e1] at this
    exact this
  · have q' : ¬ ¬ nI F.1 = 0 := q
    rw [nI_z (by omega)] at q'
    refine pm_J.ri ?_
    rw [← hO]
    exact Or.inl ⟨Classical.not_not.mp q', rfl, rfl⟩
end MDI
