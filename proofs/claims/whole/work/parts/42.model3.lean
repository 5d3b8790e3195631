section MD3
variable {l : Launch}
def rwL2 (t : Nat → Nat) (n kd : Nat) : Nat → Nat → Nat → (Nat → Nat) → Bool × Nat × Nat × (Nat → Nat)
  | 0, e, a, r => (true, e, a, r)
  | f + 1, e, a, r => if (kd = 0 ∧ 0 < e) ∧ hereB t n a 59 = true then (true, e, a, r) else
    if (enF t n a).1 = 0 then (false, e, (enF t n a).2, r) else rwL2 t n kd f (e + 1) (enF t n a).2 (upN r (16 * kd + e) (enF t n a).1)
theorem rwL2_s (t : Nat → Nat) (n kd f e a : Nat) (r : Nat → Nat) : rwL2 t n kd (f + 1) e a r = if (kd = 0 ∧ 0 < e) ∧ hereB t n a 59 = true then (true, e, a, r) else
    if (enF t n a).1 = 0 then (false, e, (enF t n a).2, r) else rwL2 t n kd f (e + 1) (enF t n a).2 (upN r (16 * kd + e) (enF t n a).1) := rfl
def rwF2 (t : Nat → Nat) (n kd a : Nat) (r : Nat → Nat) (c : Nat) : Bool × Nat × (Nat → Nat) × Nat :=
  if hereB t n a (97 + kd) = false then (false, a, r, c) else
  if hereB t n (a + 1) 32 = false then (false, a + 1, r, c) else
  if (rwL2 t n kd (if kd = 0 then 16 else c) 0 (a + 2) r).1 = true then
    (hereB t n (rwL2 t n kd (if kd = 0 then 16 else c) 0 (a + 2) r).2.2.1 59, tkF t n (rwL2 t n kd (if kd = 0 then 16 else c) 0 (a + 2) r).2.2.1 59, (rwL2 t n kd (if kd = 0 then 16 else c) 0 (a + 2) r).2.2.2, (rwL2 t n kd (if kd = 0 then 16 else c) 0 (a + 2) r).2.1)
  else (false, (rwL2 t n kd (if kd = 0 then 16 else c) 0 (a + 2) r).2.2.1, (rwL2 t n kd (if kd = 0 then 16 else c) 0 (a + 2) r).2.2.2, c)
/-- what row() leaves -/
abbrev roO (A : mA) (kd : Nat) (z : Bool × Nat × (Nat → Nat) × Nat) (T : mT) (F : mF) (G : mG) (S : mS) (W : mW) (th : Nat) : pm_O → List pm_E → Prop := fun o w' =>
  (z.1 = true ∧ o = .inl none ∧ w' = moW A (z.2.1, pm_k (-1), kd + 1, z.2.2.2, z.2.2.1) T F G S W th) ∨
  (z.1 = false ∧ ∃ P' : mP, P'.2.1 = nI z.2.1 ∧ o = .inl none ∧ w' = moW A P' T F G S W th)
theorem d_row7 (hs : l.stackTraces = false) (A : mA) (a c : Nat) (fr : Nat → Nat) (T : mT) (F : mF) (G : mG) (S : mS) (W : mW) (th : Nat) : pm_Met l mX6_row 4 0 0 [.ref 0] (moW A (a, pm_k (-1), 7, c, fr) T F G S W th) (isO none (moW A (a, nI a, 7, c, fr) T F G S W th)) := by
  refine pm_Met.mk kX6_row hs (pm_J.run [] 40 (fun K hK => br_f (show ¬ ¬ nI 7 = pm_k 7 by decide) (hK _ ?_)))
  refine pm_J.cv q15 (moW A (a, nI a, 7, c, fr) T F G S W th) (d_wrong hs A (a, pm_k (-1), 7, c, fr) T F G S W th) gRX6_71 vX6_wrong ?_
  exact pm_J.rv ⟨rfl, rfl⟩
set_option maxHeartbeats 2000000 in
theorem d_row (hs : l.stackTraces = false) (t : Nat → Nat) (n a kd c : Nat) (fr : Nat → Nat) (T : mT) (F : mF) (G : mG) (S : mS) (W : mW) (th : Nat) (hn : n ≤ 160) (ht : Ch t) (ha : a ≤ n) (hkd : kd < 7) (hc : c ≤ 16) :
    pm_Met l mX6_row 4 0 0 [.ref 0] (moW (t, n) (a, pm_k (-1), kd, c, fr) T F G S W th) (roO (t, n) kd (rwF2 t n kd a fr c) T F G S W th) := by
  generalize hO : roO (t, n) kd (rwF2 t n kd a fr c) T F G S W th = O
  -- at fault
  have out : ∀ (P' : mP) (x : Nat) x1, x ≤ 200 → P'.2.1 = nI x → (rwF2 t n kd a fr c).1 = false → (rwF2 t n kd a fr c).2.1 = x → pm_J l mX6_row iX6_row 4 0 0 15 O 0 0 (40, [some (.ref 0), x1], [], moW (t, n) P' T F G S W th) := by
    intro P' x x1 hx hP h1 h2
    have h0 : (0 : Int32) ≤ P'.2.1 := by rw [hP]; exact Int32.not_lt.mp (nI_pos (by omega))
    refine pm_J.run [] 40 (fun K hK => br_t h0 (br_t h0 (hK _ ?_)))
    refine pm_J.rv ?_
    rw [← hO]
    exact Or.inr ⟨h1, P', by rw [h2]; exact hP, rfl, rfl⟩
  refine pm_Met.mk kX6_row hs (pm_J.run [] 40 (fun K hK => br_t (show ¬ nI kd = nI 7 by rw [nI_e128 (by omega) (by decide)]; omega) (hK _ ?_)))
  rw [show pm_k 97 + nI kd = nI (97 + kd) from nI_add 97 kd]
  have hM1 := d_must hs (t, n) (a, pm_k (-1), kd, c, fr) T F G S W th (97 + kd) hn ht (by show a ≤ 200; omega) (by omega)
  cases hm : hereB t n a (97 + kd) with
  | false =>
    have e : rwF2 t n kd a fr c = (false, a, fr, c) := by rw [rwF2, if_pos hm]
    rw [muP, if_neg (by show ¬ hereB t n a (97 + kd) = true; rw [hm]; exact Bool.false_ne_true)] at hM1
    refine pm_J.cv q15 (moW (t, n) (a, nI a, kd, c, fr) T F G S W th) hM1 gRX6_78 vX6_must ?_
    refine pm_J.run [40] 40 (fun K hK => br_t (show (0 : Int32) ≤ nI a from Int32.not_lt.mp (nI_pos (by omega))) (hK _ ?_))
    exact out _ a _ (by omega) rfl (by rw [e]) (by rw [e])
  | true =>
    have hlt := here_lt hm
    rw [muP, if_pos hm] at hM1
    refine pm_J.cv q15 (moW (t, n) (a + 1, pm_k (-1), kd, c, fr) T F G S W th) hM1 gRX6_78 vX6_must ?_
    refine pm_J.run [] 40 (fun K hK => br_f (show ¬ (0 : Int32) ≤ pm_k (-1) by decide) (hK _ ?_))
    have hM2 := d_must hs (t, n) (a + 1, pm_k (-1), kd, c, fr) T F G S W th 32 hn ht (by show a + 1 ≤ 200; omega) (by omega)
    cases hm2 : hereB t n (a + 1) 32 with
    | false =>
      have e : rwF2 t n kd a fr c = (false, a + 1, fr, c) := by rw [rwF2, if_neg (by rw [hm]; decide), if_pos hm2]
      rw [muP, if_neg (by show ¬ hereB t n (a + 1) 32 = true; rw [hm2]; exact Bool.false_ne_true)] at hM2
      refine pm_J.cv q15 (moW (t, n) (a + 1, nI (a + 1), kd, c, fr) T F G S W th) hM2 gRX6_78 vX6_must ?_
      refine pm_J.run [40] 40 (fun K hK => hK _ ?_)
      exact out _ (a + 1) _ (by omega) rfl (by rw [e]) (by rw [e])
    | true =>
      have hlt2 := here_lt hm2
      rw [muP, if_pos hm2] at hM2
      refine pm_J.cv q15 (moW (t, n) (a + 2, pm_k (-1), kd, c, fr) T F G S W th) hM2 gRX6_78 vX6_must ?_
      have e0 : rwF2 t n kd a fr c = if (rwL2 t n kd (if kd = 0 then 16 else c) 0 (a + 2) fr).1 = true then
          (hereB t n (rwL2 t n kd (if kd = 0 then 16 else c) 0 (a + 2) fr).2.2.1 59, tkF t n (rwL2 t n kd (if kd = 0 then 16 else c) 0 (a + 2) fr).2.2.1 59, (rwL2 t n kd (if kd = 0 then 16 else c) 0 (a + 2) fr).2.2.2, (rwL2 t n kd (if kd = 0 then 16 else c) 0 (a + 2) fr).2.1)
        else (false, (rwL2 t n kd (if kd = 0 then 16 else c) 0 (a + 2) fr).2.2.1, (rwL2 t n kd (if kd = 0 then 16 else c) 0 (a + 2) fr).2.2.2, c) := by rw [rwF2, if_neg (by rw [hm]; decide), if_neg (by rw [hm2]; decide)]
      generalize hmo : (if kd = 0 then 16 else c) = mo at e0
      have hmo16 : mo ≤ 16 := by rw [← hmo]; split <;> omega
      -- the row's end
      have fin : ∀ e a' r', e ≤ 16 → a' ≤ n → hereB t n a' 59 = true → rwL2 t n kd mo 0 (a + 2) fr = (true, e, a', r') → pm_J l mX6_row iX6_row 4 0 0 15 O 0 0 (126, [some (.ref 0), some (.int (nI e))], [], moW (t, n) (a', pm_k (-1), kd, c, r') T F G S W th) := by
        intro e a' r' he ha' hh hz
        refine pm_J.run [] 60 (fun K hK => br_f (show ¬ (0 : Int32) ≤ pm_k (-1) by decide) (hK _ ?_))
        refine pm_J.rv ?_
        rw [← hO, e0, hz]
        refine Or.inl ⟨hh, rfl, ?_⟩
        show _ = moW (t, n) (tkF t n a' 59, pm_k (-1), kd + 1, e, r') T F G S W th
        rw [tkF, hh, if_pos rfl]
        unfold moW
        dsimp only
        rw [← nI_add a' 1, ← nI_add kd 1]
        rfl
      have hme : ∀ e, (kd = 0 → 16 = e) → (¬ kd = 0 → c = e) → e = mo := fun e g1 g2 => by
        rw [← hmo]
        split
        · rename_i h; exact (g1 h).symm
        · rename_i h; exact (g2 h).symm
      -- too long
      have long : ∀ e a' r', e = mo → a' ≤ n → hereB t n a' 59 = false → rwL2 t n kd mo 0 (a + 2) fr = (true, e, a', r') → pm_J l mX6_row iX6_row 4 0 0 15 O 0 0 (75, [some (.ref 0), some (.int (nI e))], [], moW (t, n) (a', pm_k (-1), kd, c, r') T F G S W th) := by
        intro e a' r' he ha' hh hz
        have ew : pm_J l mX6_row iX6_row 4 0 0 15 O 0 0 (95, [some (.ref 0), some (.int (nI e))], [], moW (t, n) (a', pm_k (-1), kd, c, r') T F G S W th) := by
          refine pm_J.run [] 40 (fun K hK => hK _ ?_)
          refine pm_J.cv q15 (moW (t, n) (a', nI a', kd, c, r') T F G S W th) (d_wrong hs (t, n) (a', pm_k (-1), kd, c, r') T F G S W th) gRX6_71 vX6_wrong ?_
          refine pm_J.run [40] 40 (fun K hK => hK _ ?_)
          refine out _ a' _ (by omega) rfl ?_ ?_
          · rw [e0, hz, if_pos rfl]; exact hh
          · rw [e0, hz, if_pos rfl]
            show tkF t n a' 59 = a'
            rw [tkF, hh, if_neg Bool.false_ne_true]
        refine pm_J.run [95, 102] 40 (fun K hK => And.intro (fun q => br_f ?_ (hK _ ew)) (fun q => br_f ?_ (hK _ ew)))
        · have q' : ¬ nI kd = 0 := q
          rw [nI_z (by omega)] at q'
          rw [if_neg q'] at hmo
          show ¬ ¬ nI e = nI c
          rw [he, hmo]
          exact fun z => z rfl
        · have q' : ¬ ¬ nI kd = 0 := q
          rw [nI_z (by omega)] at q'
          rw [if_pos (Classical.not_not.mp q')] at hmo
          show ¬ ¬ nI e = nI 16
          rw [he, hmo]
          exact fun z => z rfl
      have loop : ∀ f e a' r', e + f = mo → a' ≤ n → rwL2 t n kd f e a' r' = rwL2 t n kd mo 0 (a + 2) fr → pm_J l mX6_row iX6_row 4 0 0 15 O 0 0 (40, [some (.ref 0), some (.int (nI e))], [], moW (t, n) (a', pm_k (-1), kd, c, r') T F G S W th) := by
        intro f
        induction f with
        | zero =>
          intro e a' r' hef ha' hz
          have hf := fin e a' r' (by omega) ha'
          refine pm_J.run [] 40 (fun K hK => br_f (show ¬ (0 : Int32) ≤ pm_k (-1) by decide) (hK _ ?_))
          refine pm_J.cI q15 (d_here hs (t, n) (a', pm_k (-1), kd, c, r') T F G S W th hn (by show a' ≤ 200; omega)) gRX6_67 vX6_here ?_
          refine pm_J.run [75, 126] 40 (fun K hK => And.intro (fun q => hK _ ?_) (fun q => And.intro (fun q2 => br_t ?_ (hK _ ?_)) (fun q2 => br_t ?_ (hK _ ?_))))
          · have q' : ¬ hrI t n a' = nI 59 := q
            rw [hr_pos ht (by decide)] at q'
            exact long e a' r' (by omega) ha' (Bool.eq_false_iff.mpr q') hz.symm
          · have q' : ¬ nI kd = 0 := q2
            rw [nI_z (by omega)] at q'
            rw [if_neg q'] at hmo
            exact nI_le (a := c) (b := e) (by omega) (by omega)
          · have q' : ¬ ¬ hrI t n a' = nI 59 := q
            rw [hr_pos ht (by decide)] at q'
            exact hf (Classical.not_not.mp q') hz.symm
          · have q' : ¬ ¬ nI kd = 0 := q2
            rw [nI_z (by omega)] at q'
            rw [if_pos (Classical.not_not.mp q')] at hmo
            exact nI_le (a := 1) (b := e) (by omega) (by omega)
          · have q' : ¬ ¬ hrI t n a' = nI 59 := q
            rw [hr_pos ht (by decide)] at q'
            exact hf (Classical.not_not.mp q') hz.symm
        | succ f ih =>
          intro e a' r' hef ha' hz
          rw [rwL2_s] at hz
          obtain ⟨n1, n2⟩ := enF_ok (t := t) ha'
          have ex : pm_k 16 * nI kd + nI e = nI (16 * kd + e) := by
            show nI 16 * nI kd + nI e = _
            rw [pk_mul, nI_add]
          have ent : ¬ ((kd = 0 ∧ 0 < e) ∧ hereB t n a' 59 = true) → pm_J l mX6_row iX6_row 4 0 0 15 O 0 0 (75, [some (.ref 0), some (.int (nI e))], [], moW (t, n) (a', pm_k (-1), kd, c, r') T F G S W th) := by
            intro hq
            rw [if_neg hq] at hz
            have go : pm_J l mX6_row iX6_row 4 0 0 15 O 0 0 (102, [some (.ref 0), some (.int (nI e))], [], moW (t, n) (a', pm_k (-1), kd, c, r') T F G S W th) := by
              refine pm_J.run [] 40 (fun K hK => hK _ ?_)
              rw [ex]
              refine pm_J.cR q15 (d_entry hs (t, n) (a', pm_k (-1), kd, c, r') T F G S W th hn ht ha' rfl) gRX6_88 vX6_entry (fun E w1 h => ?_) (fun v w1 h => ?_)
              · rcases h with ⟨_, h, _⟩ | ⟨_, v, pl, _, h, _⟩ <;> cases h
              · rcases h with ⟨g1, g2, g3⟩ | ⟨g1, v', pl, g4, g2, g3⟩
                · have g1' : ¬ (enF t n a').1 = 0 := g1
                  rw [if_neg g1'] at hz
                  cases g2
                  subst g3
                  show pm_J l mX6_row iX6_row 4 0 0 15 O 0 0 (119, [some (.ref 0), some (.int (nI e))], [.int (nI (enF t n a').1), .int (nI (16 * kd + e)), .ref 4], moW (t, n) ((enF t n a').2, pm_k (-1), kd, c, r') T F G S W th)
                  refine pm_J.run [40] 40 (fun K hK => And.intro (vp_in_nI (by omega) (by decide)) (hK _ ?_))
                  have := ih (e + 1) (enF t n a').2 (upN r' (16 * kd + e) (enF t n a').1) (by omega) n2 hz
                  unfold moW at this
                  dsimp only at this
                  rw [← nA_upd, ← nI_add e 1] at this
                  rw [nI_clamp (by omega)]
                  exact this
                · have g1' : (enF t n a').1 = 0 := g1
                  rw [if_pos g1'] at hz
                  cases g2
                  subst g3
                  show pm_J l mX6_row iX6_row 4 0 0 15 O 0 0 (119, [some (.ref 0), some (.int (nI e))], [.int (nI v'), .int (nI (16 * kd + e)), .ref 4], moW (t, n) (pl, nI (enF t n a').2, kd, c, r') T F G S W th)
                  refine pm_J.run [40] 40 (fun K hK => And.intro (vp_in_nI (by omega) (by decide)) (hK _ ?_))
                  rw [nI_clamp (by omega)]
                  have := out (pl, nI (enF t n a').2, kd, c, upN r' (16 * kd + e) v') (enF t n a').2 (some (.int (nI e + pm_k 1))) (by omega) rfl (by rw [e0, ← hz]; rfl) (by rw [e0, ← hz]; rfl)
                  unfold moW at this
                  dsimp only at this
                  rw [← nA_upd] at this
                  exact this
            refine pm_J.run [102] 40 (fun K hK => And.intro (fun q => br_t ?_ (hK _ go)) (fun q => br_t ?_ (hK _ go)))
            · have q' : ¬ nI kd = 0 := q
              rw [nI_z (by omega)] at q'
              rw [if_neg q'] at hmo
              show ¬ nI e = nI c
              rw [nI_e128 (by omega) (by omega)]
              omega
            · have q' : ¬ ¬ nI kd = 0 := q
              rw [nI_z (by omega)] at q'
              rw [if_pos (Classical.not_not.mp q')] at hmo
              show ¬ nI e = nI 16
              rw [nI_e128 (by omega) (by omega)]
              omega
          refine pm_J.run [] 40 (fun K hK => br_f (show ¬ (0 : Int32) ≤ pm_k (-1) by decide) (hK _ ?_))
          refine pm_J.cI q15 (d_here hs (t, n) (a', pm_k (-1), kd, c, r') T F G S W th hn (by show a' ≤ 200; omega)) gRX6_67 vX6_here ?_
          refine pm_J.run [75, 126] 40 (fun K hK => And.intro (fun q => hK _ ?_) (fun q => And.intro (fun q2 => br_f ?_ (hK _ ?_)) (fun q2 => And.intro (fun q3 => hK _ ?_) (fun q3 => hK _ ?_))))
          · have q' : ¬ hrI t n a' = nI 59 := q
            rw [hr_pos ht (by decide)] at q'
            exact ent (fun z => q' z.2)
          · have q' : ¬ nI kd = 0 := q2
            rw [nI_z (by omega)] at q'
            rw [if_neg q'] at hmo
            exact nI_ge (a := e) (b := c) (by omega) (by omega)
          · have q' : ¬ nI kd = 0 := q2
            rw [nI_z (by omega)] at q'
            exact ent (fun z => q' z.1.1)
          · have q' : ¬ ¬ nI kd = 0 := q2
            have q4 : nI 1 ≤ nI e := q3
            have q5 : ¬ ¬ hrI t n a' = nI 59 := q
            rw [nI_z (by omega)] at q'
            rw [nI_leI (by decide) (by omega)] at q4
            rw [hr_pos ht (by decide)] at q5
            have q6 := Classical.not_not.mp q5
            rw [if_pos ⟨⟨Classical.not_not.mp q', q4⟩, q6⟩] at hz
            exact fin e a' r' (by omega) ha' q6 hz.symm
          · have q4 : ¬ nI 1 ≤ nI e := q3
            rw [nI_leI (by decide) (by omega)] at q4
            exact ent (fun z => q4 z.1.2)
      have start := loop mo 0 (a + 2) fr (by omega) (by omega) rfl
      refine pm_J.run [40] 40 (fun K hK => hK _ ?_)
      exact start
end MD3
