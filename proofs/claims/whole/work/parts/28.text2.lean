section TX2
variable {l : Launch}
/-- a row's entries: whether all went well, how many, where the reading stands, the rows -/
def rwL (t : Nat → Nat) (n kd : Nat) : Nat → Nat → Nat → (Nat → Int64) → Bool × Nat × Nat × (Nat → Int64)
  | 0, e, a, r => (true, e, a, r)
  | f + 1, e, a, r => if (kd = 0 ∧ 0 < e) ∧ hereB t n a 59 = true then (true, e, a, r) else
    if (enF t n a).1 = 0 then (false, e, (enF t n a).2, r) else rwL t n kd f (e + 1) (enF t n a).2 (vp_updL r kd (r kd ||| lN ((enF t n a).1 * 16 ^ e)))
theorem rwL_s (t : Nat → Nat) (n kd f e a : Nat) (r : Nat → Int64) : rwL t n kd (f + 1) e a r = if (kd = 0 ∧ 0 < e) ∧ hereB t n a 59 = true then (true, e, a, r) else
    if (enF t n a).1 = 0 then (false, e, (enF t n a).2, r) else rwL t n kd f (e + 1) (enF t n a).2 (vp_updL r kd (r kd ||| lN ((enF t n a).1 * 16 ^ e))) := rfl
theorem rwL_ok {t : Nat → Nat} {n kd : Nat} : ∀ (f e a : Nat) (r : Nat → Int64), a ≤ n → (rwL t n kd f e a r).2.2.1 ≤ n ∧ (rwL t n kd f e a r).2.1 ≤ e + f
  | 0, e, a, r, h => ⟨h, Nat.le_refl _⟩
  | f + 1, e, a, r, h => by
    rw [rwL_s]
    split
    · exact ⟨h, by show e ≤ e + (f + 1); omega⟩
    · split
      · exact ⟨(enF_ok h).2, by show e ≤ e + (f + 1); omega⟩
      · have := rwL_ok (t := t) (n := n) (kd := kd) f (e + 1) (enF t n a).2 (vp_updL r kd (r kd ||| lN ((enF t n a).1 * 16 ^ e))) (enF_ok h).2
        exact ⟨this.1, by omega⟩
/-- a row: whether it is one, where the reading stands, the rows, how many characters -/
def rwF (t : Nat → Nat) (n kd a : Nat) (r : Nat → Int64) (c : Nat) : Bool × Nat × (Nat → Int64) × Nat :=
  if hereB t n a (97 + kd) = false then (false, a, r, c) else
  if hereB t n (a + 1) 32 = false then (false, a + 1, r, c) else
  if (rwL t n kd (if kd = 0 then 16 else c) 0 (a + 2) r).1 = true then
    (hereB t n (rwL t n kd (if kd = 0 then 16 else c) 0 (a + 2) r).2.2.1 59, tkF t n (rwL t n kd (if kd = 0 then 16 else c) 0 (a + 2) r).2.2.1 59, (rwL t n kd (if kd = 0 then 16 else c) 0 (a + 2) r).2.2.2, (rwL t n kd (if kd = 0 then 16 else c) 0 (a + 2) r).2.1)
  else (false, (rwL t n kd (if kd = 0 then 16 else c) 0 (a + 2) r).2.2.1, (rwL t n kd (if kd = 0 then 16 else c) 0 (a + 2) r).2.2.2, c)
set_option maxHeartbeats 2000000 in
theorem c_row (hs : l.stackTraces = false) (t : Nat → Nat) (n kd a : Nat) (r : Nat → Int64) (wt : Nat → Nat) (k c : Nat) (hn : n ≤ 160) (ha : a ≤ n) (ht : Ch t) (hkd : kd < 7) (hc : c ≤ 16) :
    pm_Met l mX3_takeRow 5 0 0 [.ref 0, .int (nI kd), .ref 2] (txW' t n a ++ tbAt 2 r wt k c) (isI (nI (b2n (rwF t n kd a r c).1)) (txW' t n (rwF t n kd a r c).2.1 ++ tbAt 2 (rwF t n kd a r c).2.2.1 wt k (rwF t n kd a r c).2.2.2)) := by
  refine pm_Met.mk kX3_takeRow hs (pm_J.run [] 40 (fun K hK => hK _ ?_))
  have ei : ((pm_k 97 + nI kd).toUInt32 % 65536).toInt32 = nI (97 + kd) := by
    show ((nI 97 + nI kd).toUInt32 % 65536).toInt32 = nI (97 + kd)
    rw [nI_add]; exact i2c_at (by omega)
  rw [ei]
  refine pm_J.ciw [0, 1] (txW' t n (tkF t n a (97 + kd)) ++ tbAt 2 r wt k c) (c_take hs t n a (97 + kd) hn ha ht (by omega)) gRX3_34 vX3_take ?_
  unfold tkF
  cases hm : hereB t n a (97 + kd) with
  | false =>
    have e : rwF t n kd a r c = (false, a, r, c) := by rw [rwF, if_pos hm]
    rw [e, if_neg Bool.false_ne_true]
    refine pm_J.run [] 40 (fun K hK => br_t (by decide) (hK _ ?_))
    exact pm_J.ri ⟨rfl, rfl⟩ (hn := rfl)
  | true =>
    have hlt := here_lt hm
    rw [if_pos rfl]
    refine pm_J.run [] 40 (fun K hK => br_f (by decide) (hK _ ?_))
    refine pm_J.ciw [0, 1] (txW' t n (tkF t n (a + 1) 32) ++ tbAt 2 r wt k c) (c_take hs t n (a + 1) 32 hn (by omega) ht (by decide)) gRX3_34 vX3_take ?_
    unfold tkF
    cases hm2 : hereB t n (a + 1) 32 with
    | false =>
      have e : rwF t n kd a r c = (false, a + 1, r, c) := by rw [rwF, if_neg (by rw [hm]; decide), if_pos hm2]
      rw [e, if_neg Bool.false_ne_true]
      refine pm_J.run [] 40 (fun K hK => br_f (by decide) (hK _ ?_))
      exact pm_J.ri ⟨rfl, rfl⟩ (hn := rfl)
    | true =>
      have hlt2 := here_lt hm2
      rw [if_pos rfl]
      have e0 : rwF t n kd a r c = if (rwL t n kd (if kd = 0 then 16 else c) 0 (a + 2) r).1 = true then
          (hereB t n (rwL t n kd (if kd = 0 then 16 else c) 0 (a + 2) r).2.2.1 59, tkF t n (rwL t n kd (if kd = 0 then 16 else c) 0 (a + 2) r).2.2.1 59, (rwL t n kd (if kd = 0 then 16 else c) 0 (a + 2) r).2.2.2, (rwL t n kd (if kd = 0 then 16 else c) 0 (a + 2) r).2.1)
        else (false, (rwL t n kd (if kd = 0 then 16 else c) 0 (a + 2) r).2.2.1, (rwL t n kd (if kd = 0 then 16 else c) 0 (a + 2) r).2.2.2, c) := by rw [rwF, if_neg (by rw [hm]; decide), if_neg (by rw [hm2]; decide)]
      generalize hmo : (if kd = 0 then 16 else c) = mo at e0
      have hmo16 : mo ≤ 16 := by rw [← hmo]; split <;> omega
      generalize hO : isI (nI (b2n (rwF t n kd a r c).1)) (txW' t n (rwF t n kd a r c).2.1 ++ tbAt 2 (rwF t n kd a r c).2.2.1 wt k (rwF t n kd a r c).2.2.2) = O
      -- the end of a row
      have fin : ∀ e a' r' x5, e ≤ 16 → a' ≤ n → rwL t n kd mo 0 (a + 2) r = (true, e, a', r') → pm_J l mX3_takeRow iX3_takeRow 5 0 0 5 O 0 0 (95, [some (.ref 0), some (.int (nI kd)), some (.ref 2), some (.int (nI mo)), some (.int (nI e)), x5], [], txW' t n a' ++ tbAt 2 r' wt k c) := by
        intro e a' r' x5 he ha' hz
        rw [← hO, e0, hz]
        refine pm_J.run [] 40 (fun K hK => hK _ ?_)
        refine pm_J.ciw [0, 1] (txW' t n (tkF t n a' 59) ++ tbAt 2 r' wt k e) (c_take hs t n a' 59 hn ha' ht (by decide)) gRX3_34 vX3_take ?_
        rw [if_pos rfl]
        refine pm_J.ri ⟨rfl, rfl⟩ (hn := ?_)
        cases hereB t n a' 59 <;> rfl
      have loop : ∀ f e a' r' x5, e + f = mo → a' ≤ n → rwL t n kd f e a' r' = rwL t n kd mo 0 (a + 2) r → pm_J l mX3_takeRow iX3_takeRow 5 0 0 5 O 0 0 (40, [some (.ref 0), some (.int (nI kd)), some (.ref 2), some (.int (nI mo)), some (.int (nI e)), x5], [], txW' t n a' ++ tbAt 2 r' wt k c) := by
        intro f
        induction f with
        | zero =>
          intro e a' r' x5 hef ha' hz
          refine pm_J.run [95] 40 (fun K hK => br_t (nI_le (a := mo) (b := e) (by omega) (by omega)) (hK _ ?_))
          exact fin e a' r' x5 (by omega) ha' hz.symm
        | succ f ih =>
          intro e a' r' x5 hef ha' hz
          rw [rwL_s] at hz
          obtain ⟨n1, n2⟩ := enF_ok (t := t) ha'
          have entry : ¬ ((kd = 0 ∧ 0 < e) ∧ hereB t n a' 59 = true) → pm_J l mX3_takeRow iX3_takeRow 5 0 0 5 O 0 0 (67, [some (.ref 0), some (.int (nI kd)), some (.ref 2), some (.int (nI mo)), some (.int (nI e)), x5], [], txW' t n a' ++ tbAt 2 r' wt k c) := by
            intro hq
            rw [if_neg hq] at hz
            refine pm_J.run [] 40 (fun K hK => hK _ ?_)
            refine pm_J.ciw [0, 1] (txW' t n (enF t n a').2 ++ tbAt 2 r' wt k c) (c_entry hs t n a' hn ha' ht) gRX3_44 vX3_takeEntry ?_
            refine pm_J.run [40] 40 (fun K hK => And.intro (fun q => hK _ ?_) (fun q => hK _ ?_))
            · have q' : ¬ nI (enF t n a').1 = 0 := q
              rw [nI_z (by omega)] at q'
              rw [if_neg q'] at hz
              refine pm_J.cv [2, 3, 4] (txW' t n (enF t n a').2 ++ tbAt 2 (vp_updL r' kd (r' kd ||| lN ((enF t n a').1 * 16 ^ e))) wt k c) (c_put hs r' wt k c kd e (enF t n a').1 hkd (by omega) n1) gRX3_48 vX2_put ?_
              refine pm_J.run [40] 40 (fun K hK => hK _ ?_)
              have := ih (e + 1) (enF t n a').2 (vp_updL r' kd (r' kd ||| lN ((enF t n a').1 * 16 ^ e))) (some (.int (nI (enF t n a').1))) (by omega) n2 hz
              rw [← nI_add e 1] at this
              exact this
            · have q' : ¬ ¬ nI (enF t n a').1 = 0 := q
              rw [nI_z (by omega)] at q'
              rw [if_pos (Classical.not_not.mp q')] at hz
              rw [← hO, e0, ← hz]
              exact pm_J.ri ⟨rfl, rfl⟩ (hn := rfl)
          refine pm_J.run [67, 95] 40 (fun K hK => br_f (nI_ge (a := e) (b := mo) (by omega) (by omega)) (And.intro (fun q => hK _ ?_) (fun q => And.intro (fun q2 => hK _ ?_) (fun q2 => hK _ ?_))))
          · have q' : ¬ nI kd = 0 := q
            rw [nI_z (by omega)] at q'
            exact entry (fun z => q' z.1.1)
          · have q2' : nI e ≤ 0 := q2
            rw [← nI_0, nI_leI (by omega) (by decide)] at q2'
            exact entry (fun z => by omega)
          · have q' : ¬ ¬ nI kd = 0 := q
            have q2' : ¬ nI e ≤ 0 := q2
            rw [nI_z (by omega)] at q'
            rw [← nI_0, nI_leI (by omega) (by decide)] at q2'
            refine pm_J.cI [0, 1] (c_isHere hs t n a' 59 hn ha' ht (by decide)) gRX3_41 vX3_isHere ?_
            cases hm3 : hereB t n a' 59 with
            | true =>
              refine pm_J.run [67, 95] 40 (fun K hK => br_f (by decide) (hK _ ?_))
              rw [if_pos ⟨⟨Classical.not_not.mp q', by omega⟩, hm3⟩] at hz
              exact fin e a' r' x5 (by omega) ha' hz.symm
            | false =>
              refine pm_J.run [67, 95] 40 (fun K hK => br_t (by decide) (hK _ ?_))
              exact entry (fun z => by rw [hm3] at z; cases z.2)
      have start := loop mo 0 (a + 2) r none (by omega) (by omega) rfl
      refine pm_J.run [40] 40 (fun K hK => br_t (by decide) (And.intro (fun q => hK _ ?_) (fun q => hK _ ?_)))
      · have q' : ¬ nI kd = 0 := q
        rw [nI_z (by omega)] at q'
        rw [if_neg q'] at hmo
        subst hmo
        exact start
      · have q' : ¬ ¬ nI kd = 0 := q
        rw [nI_z (by omega)] at q'
        rw [if_pos (Classical.not_not.mp q')] at hmo
        subst hmo
        exact start
/-- the whole text: whether it is a table, where the reading stands, rows, kinds, characters -/
def rdF (t : Nat → Nat) (n : Nat) : Nat → Nat → Nat → (Nat → Int64) → Nat → Nat → Bool × Nat × (Nat → Int64) × Nat × Nat
  | 0, _, a, r, k, c => (false, a, r, k, c)
  | f + 1, kd, a, r, k, c => if (rwF t n kd a r c).1 = false then (false, (rwF t n kd a r c).2.1, (rwF t n kd a r c).2.2.1, k, (rwF t n kd a r c).2.2.2) else
    if (rwF t n kd a r c).2.1 = n then (true, n, (rwF t n kd a r c).2.2.1, kd + 1, (rwF t n kd a r c).2.2.2) else rdF t n f (kd + 1) (rwF t n kd a r c).2.1 (rwF t n kd a r c).2.2.1 (kd + 1) (rwF t n kd a r c).2.2.2
theorem rdF_s (t : Nat → Nat) (n f kd a : Nat) (r : Nat → Int64) (k c : Nat) : rdF t n (f + 1) kd a r k c = if (rwF t n kd a r c).1 = false then (false, (rwF t n kd a r c).2.1, (rwF t n kd a r c).2.2.1, k, (rwF t n kd a r c).2.2.2) else
    if (rwF t n kd a r c).2.1 = n then (true, n, (rwF t n kd a r c).2.2.1, kd + 1, (rwF t n kd a r c).2.2.2) else rdF t n f (kd + 1) (rwF t n kd a r c).2.1 (rwF t n kd a r c).2.2.1 (kd + 1) (rwF t n kd a r c).2.2.2 := rfl
theorem rwF_ok {t : Nat → Nat} {n kd a : Nat} {r : Nat → Int64} {c : Nat} (ha : a ≤ n) (hc : c ≤ 16) : (rwF t n kd a r c).2.1 ≤ n ∧ (rwF t n kd a r c).2.2.2 ≤ 16 := by
  unfold rwF
  split
  · exact ⟨ha, hc⟩
  · rename_i h1
    have h1' : hereB t n a (97 + kd) = true := by
      cases h : hereB t n a (97 + kd) with
      | true => rfl
      | false => exact absurd h h1
    have := here_lt h1'
    split
    · exact ⟨by show a + 1 ≤ n; omega, hc⟩
    · rename_i h2
      have h2' : hereB t n (a + 1) 32 = true := by
        cases h : hereB t n (a + 1) 32 with
        | true => rfl
        | false => exact absurd h h2
      have := here_lt h2'
      have hm : (if kd = 0 then 16 else c) ≤ 16 := by split <;> omega
      have := rwL_ok (t := t) (n := n) (kd := kd) (if kd = 0 then 16 else c) 0 (a + 2) r (by omega)
      generalize (if kd = 0 then 16 else c) = mo at hm this ⊢
      split
      · exact ⟨tkF_le this.1, by show (rwL t n kd mo 0 (a + 2) r).2.1 ≤ 16; omega⟩
      · exact ⟨this.1, hc⟩
set_option maxHeartbeats 1000000 in
theorem c_read (hs : l.stackTraces = false) (t : Nat → Nat) (n : Nat) (a0 : Int32) (r0 : Nat → Int64) (wt0 : Nat → Nat) (k0 c0 : Nat) (hn : n ≤ 160) (ht : Ch t) :
    pm_Met l mX3_readInto 6 0 0 [.ref 0, .ref 2] (txW (nA t) (nI n) a0 ++ tbAt 2 r0 wt0 k0 c0)
      (isI (nI (b2n (rdF t n 7 0 0 (fun j => if j < 7 then 0 else r0 j) 0 0).1)) (txW' t n (rdF t n 7 0 0 (fun j => if j < 7 then 0 else r0 j) 0 0).2.1 ++ tbAt 2 (rdF t n 7 0 0 (fun j => if j < 7 then 0 else r0 j) 0 0).2.2.1 (fun j => if j < 16 then 1 else wt0 j) (rdF t n 7 0 0 (fun j => if j < 7 then 0 else r0 j) 0 0).2.2.2.1 (rdF t n 7 0 0 (fun j => if j < 7 then 0 else r0 j) 0 0).2.2.2.2)) := by
  refine pm_Met.mk kX3_readInto hs (pm_J.run [] 40 (fun K hK => hK _ ?_))
  generalize hr1 : (fun j => if j < 7 then (0 : Int64) else r0 j) = r1
  generalize hw1 : (fun j => if j < 16 then 1 else wt0 j) = w1
  have hM := c_clear hs r0 wt0 k0 c0
  rw [hr1, hw1] at hM
  refine pm_J.cv [2, 3, 4] (txW' t n 0 ++ tbAt 2 r1 w1 0 0) hM gRX3_22 vX2_clear ?_
  refine pm_J.run [11] 40 (fun K hK => hK _ ?_)
  generalize hO : isI (nI (b2n (rdF t n 7 0 0 r1 0 0).1)) (txW' t n (rdF t n 7 0 0 r1 0 0).2.1 ++ tbAt 2 (rdF t n 7 0 0 r1 0 0).2.2.1 w1 (rdF t n 7 0 0 r1 0 0).2.2.2.1 (rdF t n 7 0 0 r1 0 0).2.2.2.2) = O
  have loop : ∀ f kd a r k c, kd + f = 7 → a ≤ n → c ≤ 16 → rdF t n f kd a r k c = rdF t n 7 0 0 r1 0 0 → pm_J l mX3_readInto iX3_readInto 6 0 0 5 O 0 0 (11, [some (.ref 0), some (.ref 2), some (.int (nI kd))], [], txW' t n a ++ tbAt 2 r w1 k c) := by
    intro f
    induction f with
    | zero =>
      intro kd a r k c hkf ha hc hz
      refine pm_J.run [] 40 (fun K hK => br_t (nI_le (a := 7) (b := kd) (by omega) (by omega)) (hK _ ?_))
      rw [← hO, ← hz]
      exact pm_J.ri ⟨rfl, rfl⟩ (hn := rfl)
    | succ f ih =>
      intro kd a r k c hkf ha hc hz
      rw [rdF_s] at hz
      obtain ⟨o1, o2⟩ := rwF_ok (t := t) (kd := kd) (r := r) ha hc
      refine pm_J.run [] 40 (fun K hK => br_f (nI_ge (a := kd) (b := 7) (by omega) (by decide)) (hK _ ?_))
      refine pm_J.ciw [0, 1, 2, 3, 4] (txW' t n (rwF t n kd a r c).2.1 ++ tbAt 2 (rwF t n kd a r c).2.2.1 w1 k (rwF t n kd a r c).2.2.2) (c_row hs t n kd a r w1 k c hn ha ht (by omega) hc) gRX3_27 vX3_takeRow ?_
      generalize rwF t n kd a r c = z at hz o1 o2 ⊢
      obtain ⟨z1, z2, z3, z4⟩ := z
      dsimp only at hz o1 o2 ⊢
      cases z1 with
      | false =>
        rw [if_pos rfl] at hz
        refine pm_J.run [] 40 (fun K hK => br_f (fun z => z (by decide)) (hK _ ?_))
        rw [← hO, ← hz]
        exact pm_J.ri ⟨rfl, rfl⟩ (hn := rfl)
      | true =>
        rw [if_neg (by decide)] at hz
        refine pm_J.run [11] 40 (fun K hK => br_t (by decide) (And.intro (fun q => hK _ ?_) (fun q => hK _ ?_)))
        · have q' : ¬ nI z2 = nI n := q
          rw [nI_eq (by omega) (by omega)] at q'
          rw [if_neg q'] at hz
          have := ih (kd + 1) z2 z3 (kd + 1) z4 (by omega) o1 o2 hz
          have e : tbAt 2 z3 w1 (kd + 1) z4 = [.inr (2, [.ref (2 + 1), .ref (2 + 2), .int (nI kd + nI 1), .int (nI z4)]), .inl (.long, 7, .inr (.inl z3)), .inl (.int, 16, .inl (nA w1))] := by
            rw [nI_add kd 1]
          rw [e, ← nI_add kd 1] at this
          exact this
        · have q' : ¬ ¬ nI z2 = nI n := q
          rw [nI_eq (by omega) (by omega)] at q'
          have q2 := Classical.not_not.mp q'
          rw [if_pos q2] at hz
          rw [← hO, ← hz]
          subst q2
          refine pm_J.ri ⟨rfl, ?_⟩ (hn := rfl)
          have e : nI (kd + 1) = nI kd + nI 1 := (nI_add kd 1).symm
          show _ = txW' t z2 z2 ++ [.inr (2, [.ref (2 + 1), .ref (2 + 2), .int (nI (kd + 1)), .int (nI z4)]), .inl (.long, 7, .inr (.inl z3)), .inl (.int, 16, .inl (nA w1))]
          rw [e]
          rfl
  exact loop 7 0 0 r1 0 0 rfl (Nat.zero_le _) (by decide) rfl
end TX2
