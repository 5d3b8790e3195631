section MDG
variable {l : Launch}
def lbF (v : Nat) : Nat → Nat → Nat
  | 0, k => k
  | f + 1, k => if v / 2 ^ k % 2 = 1 then k else lbF v f (k + 1)
def wrS (e : Nat → Nat) (ne : Nat) : Nat → Nat → (Nat → Nat) → Nat → (Nat → Nat) → Option ((Nat → Nat) × Nat × (Nat → Nat))
  | 0, _, _, _, _ => none
  | f + 1, n, op, sz, wr => if n = 0 then some (op, sz, wr) else if ¬ sz < 64 then none else
    if op (n - 1) = 4294967295 then wrS e ne f (n - 1) op (sz + 1) (upN wr sz 41) else
    if op (n - 1) = 4294967294 then wrS e ne f (n - 1) op (sz + 1) (upN wr sz 44) else
    if ¬ op (n - 1) < 256 then none else
    if onS (op (n - 1)) 8 = 1 then wrS e ne f (n - 1) op (sz + 1) (upN wr sz (97 + lbF (op (n - 1)) 8 0)) else
    match sdS e ne (op (n - 1)) 7 n (upN op (n - 1) 4294967295) with
    | none => none
    | some z => if z.1 = 0 then none else wrS e ne f (z.1 - 1) z.2 (sz + 1) (upN wr sz 40)
theorem wrS_s (e : Nat → Nat) (ne f n : Nat) (op : Nat → Nat) (sz : Nat) (wr : Nat → Nat) : wrS e ne (f + 1) n op sz wr = if n = 0 then some (op, sz, wr) else if ¬ sz < 64 then none else
    if op (n - 1) = 4294967295 then wrS e ne f (n - 1) op (sz + 1) (upN wr sz 41) else
    if op (n - 1) = 4294967294 then wrS e ne f (n - 1) op (sz + 1) (upN wr sz 44) else
    if ¬ op (n - 1) < 256 then none else
    if onS (op (n - 1)) 8 = 1 then wrS e ne f (n - 1) op (sz + 1) (upN wr sz (97 + lbF (op (n - 1)) 8 0)) else
    match sdS e ne (op (n - 1)) 7 n (upN op (n - 1) 4294967295) with
    | none => none
    | some z => if z.1 = 0 then none else wrS e ne f (z.1 - 1) z.2 (sz + 1) (upN wr sz 40) := rfl
/-- writeSplits(): size, text, the row of what is open -/
def wrA (e : Nat → Nat) (ne kn f : Nat) (wr op : Nat → Nat) : Option (Nat × (Nat → Nat) × (Nat → Nat)) :=
  match sdS e ne (2 ^ kn - 2) 7 0 op with
  | none => none
  | some z => if z.1 = 0 then none else
    match wrS e ne f (z.1 - 1) z.2 3 (upN (upN (upN wr 0 40) 1 97) 2 44) with
    | none => none
    | some y => if y.2.1 + 1 < 64 then some (y.2.1 + 2, upN (upN y.2.2 y.2.1 41) (y.2.1 + 1) 59, y.1) else none
theorem sdS_le {e : Nat → Nat} {ne wh : Nat} : ∀ j m (op : Nat → Nat) z, m ≤ 64 → sdS e ne wh j m op = some z → z.1 ≤ 64
  | 0, m, op, z, hm, h => by rw [sdS] at h; cases h; exact hm
  | j + 1, m, op, z, hm, h => by
    rw [sdS_s] at h
    split at h
    · split at h
      · exact sdS_le j _ _ z (by omega) h
      · cases h
    · exact sdS_le j _ _ z hm h
theorem lb_ok : ∀ v, v < 256 → onS v 8 = 1 → lbF v 8 0 < 8 ∧ v / 2 ^ (lbF v 8 0) % 2 = 1 ∧ ∀ k, k < lbF v 8 0 → v / 2 ^ k % 2 = 0 := by decide +kernel
theorem nI_nn {x : Nat} (hx : x < 256) : ¬ nI x = pm_k (-1) ∧ ¬ nI x = pm_k (-2) := by
  have h0 : 0 ≤ nI x := Int32.not_lt.mp (nI_pos (by omega))
  refine ⟨fun z => ?_, fun z => ?_⟩
  · rw [z] at h0; exact absurd h0 (by decide)
  · rw [z] at h0; exact absurd h0 (by decide)
set_option maxHeartbeats 2000000 in
theorem d_writeSplits (hs : l.stackTraces = false) (A : mA) (P : mP) (T : mT) (F : mF) (G : mG) (S : mS) (sz : Nat) (wr op : Nat → Nat) (th f : Nat) (z : Nat × (Nat → Nat) × (Nat → Nat)) (hk3 : 3 ≤ T.1) (hk : T.1 ≤ 7) (hn : S.1 ≤ 8) (he : ∀ i, i < S.1 → S.2.1 i < 256) (hr : wrA S.2.1 S.1 T.1 f wr op = some z) :
    pm_Met l mX6_writeSplits 4 0 0 [.ref 0] (moW A P T F G S (sz, wr, nA op) th) (isI (nI z.1) (moW A P T F G S (z.1, z.2.1, nA z.2.2) th)) := by
  generalize hO : isI (nI z.1) (moW A P T F G S (z.1, z.2.1, nA z.2.2) th) = O
  have hp7 : 2 ^ T.1 ≤ 2 ^ 7 := Nat.pow_le_pow_right (by decide) hk
  have hp1 : 2 ^ 1 ≤ 2 ^ T.1 := Nat.pow_le_pow_right (by decide) (by omega)
  unfold wrA at hr
  generalize hsd : sdS S.2.1 S.1 (2 ^ T.1 - 2) 7 0 op = q1 at hr
  cases q1 with
  | none => cases hr
  | some y =>
  have hy64 := sdS_le 7 0 op y (by decide) hsd
  dsimp only at hr
  by_cases hy0 : y.1 = 0
  · rw [if_pos hy0] at hr; cases hr
  rw [if_neg hy0] at hr
  generalize hws : wrS S.2.1 S.1 f (y.1 - 1) y.2 3 (upN (upN (upN wr 0 40) 1 97) 2 44) = q2 at hr
  cases q2 with
  | none => cases hr
  | some u =>
  dsimp only at hr
  by_cases hu : u.2.1 + 1 < 64
  · rw [if_pos hu] at hr
    cases hr
    dsimp only at hO
    -- the end
    have fin : ∀ x1 x2 x3 : Option Value, pm_J l mX6_writeSplits iX6_writeSplits 4 0 0 15 O 0 0 (140, [some (.ref 0), x1, x2, x3], [], moW A P T F G S (u.2.1, u.2.2, nA u.1) th) := by
      intro x1 x2 x3
      refine pm_J.run [] 40 (fun K hK => hK _ ?_)
      refine pm_J.cv q15 (moW A P T F G S (u.2.1 + 1, upN u.2.2 u.2.1 41, nA u.1) th) (d_put hs A P T F G S u.2.1 u.2.2 (nA u.1) th 41 (by omega) (by decide)) gRX6_173 vX6_put ?_
      refine pm_J.run [] 40 (fun K hK => hK _ ?_)
      refine pm_J.cv q15 (moW A P T F G S (u.2.1 + 2, upN (upN u.2.2 u.2.1 41) (u.2.1 + 1) 59, nA u.1) th) (d_put hs A P T F G S (u.2.1 + 1) (upN u.2.2 u.2.1 41) (nA u.1) th 59 (by omega) (by decide)) gRX6_173 vX6_put ?_
      refine pm_J.run [] 40 (fun K hK => hK _ ?_)
      refine pm_J.ri ?_
      rw [← hO]
      exact ⟨rfl, rfl⟩
    have loop : ∀ f n o s w (x2 x3 : Option Value), n ≤ 64 → wrS S.2.1 S.1 f n o s w = some u → pm_J l mX6_writeSplits iX6_writeSplits 4 0 0 15 O 0 0 (37, [some (.ref 0), some (.int (nI n)), x2, x3], [], moW A P T F G S (s, w, nA o) th) := by
      intro f
      induction f with
      | zero => intro n o s w x2 x3 _ hz; rw [wrS] at hz; cases hz
      | succ f ih =>
        intro n o s w x2 x3 hn64 hz
        rw [wrS_s] at hz
        by_cases hn0 : n = 0
        · rw [if_pos hn0] at hz
          cases hz
          subst hn0
          refine pm_J.run [140] 40 (fun K hK => br_t (show nI 0 ≤ 0 by decide) (hK _ ?_))
          exact fin _ _ _
        · rw [if_neg hn0] at hz
          by_cases hs64 : s < 64
          · rw [if_neg (fun z => z hs64)] at hz
            obtain ⟨n', rfl⟩ : ∃ n', n = n' + 1 := ⟨n - 1, by omega⟩
            rw [Nat.add_sub_cancel] at hz
            refine pm_J.run [51] 40 (fun K hK => br_f (nI_nle (n := n' + 1) (by omega) (by omega)) (And.intro (by rw [nI_dn]; exact vp_in_nI (by omega) (by decide)) (hK _ ?_)))
            rw [nI_dn, nI_clamp (by omega)]
            show pm_J l mX6_writeSplits iX6_writeSplits 4 0 0 15 O 0 0 (51, [some (.ref 0), some (.int (nI n')), some (.int (nI (o n'))), x3], [], moW A P T F G S (s, w, nA o) th)
            by_cases h1 : o n' = 4294967295
            · rw [if_pos h1] at hz
              rw [h1]
              refine pm_J.run [] 40 (fun K hK => br_f (show ¬ ¬ nI 4294967295 = pm_k (-1) by decide +kernel) (hK _ ?_))
              refine pm_J.cv q15 (moW A P T F G S (s + 1, upN w s 41, nA o) th) (d_put hs A P T F G S s w (nA o) th 41 hs64 (by decide)) gRX6_173 vX6_put ?_
              refine pm_J.run [37] 40 (fun K hK => hK _ ?_)
              exact ih n' o (s + 1) (upN w s 41) _ _ (by omega) hz
            · rw [if_neg h1] at hz
              by_cases h2 : o n' = 4294967294
              · rw [if_pos h2] at hz
                rw [h2]
                refine pm_J.run [] 40 (fun K hK => br_t (show ¬ nI 4294967294 = pm_k (-1) by decide +kernel) (br_f (show ¬ ¬ nI 4294967294 = pm_k (-2) by decide +kernel) (hK _ ?_)))
                refine pm_J.cv q15 (moW A P T F G S (s + 1, upN w s 44, nA o) th) (d_put hs A P T F G S s w (nA o) th 44 hs64 (by decide)) gRX6_173 vX6_put ?_
                refine pm_J.run [37] 40 (fun K hK => hK _ ?_)
                exact ih n' o (s + 1) (upN w s 44) _ _ (by omega) hz
              · rw [if_neg h2] at hz
                by_cases h3 : o n' < 256
                · rw [if_neg (fun z => z h3)] at hz
                  obtain ⟨nn1, nn2⟩ := nI_nn h3
                  have ol := onS_le (o n') 8
                  refine pm_J.run [80] 40 (fun K hK => br_t nn1 (br_t nn2 (hK _ ?_)))
                  refine pm_J.run [] 40 (fun K hK => hK _ ?_)
                  refine pm_J.cis (d_ones hs (o n') (by omega)) gRX6_154 vX6_ones ?_
                  by_cases h4 : onS (o n') 8 = 1
                  · rw [if_pos h4] at hz
                    rw [h4]
                    obtain ⟨b1, b2, b3⟩ := lb_ok (o n') h3 h4
                    refine pm_J.run [90] 40 (fun K hK => br_f (fun z => z rfl) (hK _ ?_))
                    refine pm_up (b := lbF (o n') 8 0) (P := fun k => pm_J l mX6_writeSplits iX6_writeSplits 4 0 0 15 O 0 0 (90, [some (.ref 0), some (.int (nI n')), some (.int (nI (o n'))), some (.int (nI k))], [], moW A P T F G S (s, w, nA o) th)) 0 (Nat.zero_le _) ?_ (fun k g1 g2 ih2 => ?_)
                    · have hb := bit_gen (x := o n') (k := lbF (o n') 8 0) (by omega) (by omega)
                      refine pm_J.run [] 40 (fun K hK => br_t (by show ¬ (nI (o n') >>> (nI (lbF (o n') 8 0) &&& 31)) &&& pm_k 1 = 0; rw [hb, b2]; decide) (hK _ ?_))
                      rw [show pm_k 97 + nI (lbF (o n') 8 0) = nI (97 + lbF (o n') 8 0) from nI_add 97 _]
                      refine pm_J.cv q15 (moW A P T F G S (s + 1, upN w s (97 + lbF (o n') 8 0), nA o) th) (d_put hs A P T F G S s w (nA o) th (97 + lbF (o n') 8 0) hs64 (by omega)) gRX6_173 vX6_put ?_
                      refine pm_J.run [37] 40 (fun K hK => hK _ ?_)
                      exact ih n' o (s + 1) _ _ _ (by omega) hz
                    · have hb := bit_gen (x := o n') (k := k) (by omega) (by omega)
                      rw [← nI_add k 1] at ih2
                      refine pm_J.run [90] 40 (fun K hK => br_f (by show ¬ ¬ (nI (o n') >>> (nI k &&& 31)) &&& pm_k 1 = 0; rw [hb, b3 k g2]; decide) (hK _ ?_))
                      exact ih2
                  · rw [if_neg h4] at hz
                    generalize hsd2 : sdS S.2.1 S.1 (o n') 7 (n' + 1) (upN o n' 4294967295) = q3 at hz
                    cases q3 with
                    | none => cases hz
                    | some y2 =>
                      have hy2 := sdS_le 7 (n' + 1) _ y2 hn64 hsd2
                      dsimp only at hz
                      by_cases hy20 : y2.1 = 0
                      · rw [if_pos hy20] at hz; cases hz
                      · rw [if_neg hy20] at hz
                        have h4' : ¬ nI (onS (o n') 8) = nI 1 := fun z => h4 ((nI_e128 (by omega) (by decide)).mp z)
                        refine pm_J.run [] 40 (fun K hK => br_t h4' (hK _ ?_))
                        refine pm_J.cv q15 (moW A P T F G S (s + 1, upN w s 40, nA o) th) (d_put hs A P T F G S s w (nA o) th 40 hs64 (by decide)) gRX6_173 vX6_put ?_
                        refine pm_J.run [] 40 (fun K hK => And.intro (vp_in_nI (by omega) (by decide)) (hK _ ?_))
                        rw [nI_clamp (by omega)]
                        have hM := d_spread hs A P T F G S (s + 1) (upN w s 40) (upN o n' 4294967295) th (o n') (n' + 1) y2.1 y2.2 hn he h3 hn64 (by omega) hsd2
                        unfold moW at hM
                        dsimp only at hM
                        rw [← nA_upd o, ← nI_add n' 1, show nI 4294967295 = pm_k (-1) by decide +kernel] at hM
                        refine pm_J.ciw q15 (moW A P T F G S (s + 1, upN w s 40, nA y2.2) th) hM gRX6_176 vX6_spread ?_
                        refine pm_J.run [37] 40 (fun K hK => hK _ ?_)
                        exact ih (y2.1 - 1) y2.2 (s + 1) _ _ _ (by omega) hz
                · rw [if_pos h3] at hz; cases hz
          · rw [if_pos hs64] at hz; cases hz
    refine pm_Met.mk kX6_writeSplits hs (pm_J.run [] 40 (fun K hK => hK _ ?_))
    refine pm_J.cv q15 (moW A P T F G S (1, upN wr 0 40, nA op) th) (d_put hs A P T F G S 0 wr (nA op) th 40 (by decide) (by decide)) gRX6_173 vX6_put ?_
    refine pm_J.run [] 40 (fun K hK => hK _ ?_)
    refine pm_J.cv q15 (moW A P T F G S (2, upN (upN wr 0 40) 1 97, nA op) th) (d_put hs A P T F G S 1 (upN wr 0 40) (nA op) th 97 (by decide) (by decide)) gRX6_173 vX6_put ?_
    refine pm_J.run [] 40 (fun K hK => hK _ ?_)
    refine pm_J.cv q15 (moW A P T F G S (3, upN (upN (upN wr 0 40) 1 97) 2 44, nA op) th) (d_put hs A P T F G S 2 (upN (upN wr 0 40) 1 97) (nA op) th 44 (by decide) (by decide)) gRX6_173 vX6_put ?_
    refine pm_J.run [] 40 (fun K hK => hK _ ?_)
    have em : pm_k 1 <<< (nI T.1 &&& 31) - pm_k 2 = nI (2 ^ T.1 - 2) := by
      show nI 1 <<< (nI T.1 &&& 31) - nI 2 = _
      rw [nI_shl1 (by omega), pk_sub (by omega)]
    rw [em]
    refine pm_J.ciw q15 (moW A P T F G S (3, upN (upN (upN wr 0 40) 1 97) 2 44, nA y.2) th) (d_spread hs A P T F G S 3 (upN (upN (upN wr 0 40) 1 97) 2 44) op th (2 ^ T.1 - 2) 0 y.1 y.2 hn he (by omega) (by decide) (by omega) hsd) gRX6_176 vX6_spread ?_
    refine pm_J.run [37] 40 (fun K hK => hK _ ?_)
    exact loop f (y.1 - 1) y.2 3 _ none none (by omega) hws
  · rw [if_neg hu] at hr; cases hr
end MDG
