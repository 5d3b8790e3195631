section TXT
variable {l : Launch}
abbrev txW (ty : Nat → Int32) (sz at' : Int32) : List pm_E := [.inr (3, [.ref 1, .int sz, .int at']), .inl (.char, 160, .inl ty)]
def Ch (t : Nat → Nat) : Prop := ∀ j, t j < 65536
theorem c_isFull (hs : l.stackTraces = false) (ty : Nat → Int32) (n : Nat) (a : Int32) (hn : n ≤ 160) : pm_Met l mX3_isFull 1 0 0 [.ref 0] (txW ty (nI n) a) (isI (nI (b2n (decide (160 ≤ n)))) (txW ty (nI n) a)) := by
  refine pm_Met.mk kX3_isFull hs (pm_J.run [] 20 (fun K hK => And.intro (fun q => hK _ ?_) (fun q => hK _ ?_)))
  · have q' : nI n < nI 160 := q
    rw [nI_ltI (by omega) (by decide)] at q'
    exact pm_J.ri ⟨by rw [decide_eq_false (by omega)]; rfl, rfl⟩ (hn := rfl)
  · have q' : ¬ nI n < nI 160 := q
    rw [nI_ltI (by omega) (by decide)] at q'
    exact pm_J.ri ⟨by rw [decide_eq_true (by omega)]; rfl, rfl⟩ (hn := rfl)
theorem c_add (hs : l.stackTraces = false) (t : Nat → Nat) (n v : Nat) (a : Int32) (hn : n < 160) (hv : v < 65536) : pm_Met l mX3_add 1 0 0 [.ref 0, .int (nI v)] (txW (nA t) (nI n) a) (isI (nI (n + 1)) (txW (nA (upN t n v)) (nI (n + 1)) a)) := by
  refine pm_Met.mk kX3_add hs (pm_J.run [] 40 (fun K hK => br_f (nI_ge (a := n) (b := 160) hn (by decide)) (And.intro (vp_in_nI hn (by decide)) (hK _ ?_))))
  rw [nar_char hv, nI_clamp (by omega)]
  refine pm_J.ri ⟨by rw [← nI_add n 1]; rfl, ?_⟩
  rw [← nA_upd, ← nI_add n 1]
  rfl
theorem c_empty (hs : l.stackTraces = false) (ty : Nat → Int32) (n a : Int32) : pm_Met l mX3_empty 1 0 0 [.ref 0] (txW ty n a) (isO none (txW ty (nI 0) a)) := by
  refine pm_Met.mk kX3_empty hs (pm_J.run [] 20 (fun K hK => hK _ ?_))
  exact pm_J.rv ⟨rfl, rfl⟩
theorem c_place (hs : l.stackTraces = false) (ty : Nat → Int32) (n a : Int32) : pm_Met l mX3_place 1 0 0 [.ref 0] (txW ty n a) (isI a (txW ty n a)) := by
  refine pm_Met.mk kX3_place hs (pm_J.run [] 20 (fun K hK => hK _ ?_))
  exact pm_J.ri ⟨rfl, rfl⟩
def hereB (t : Nat → Nat) (n a v : Nat) : Bool := decide (a < n ∧ t a = v)
abbrev txW' (t : Nat → Nat) (n a : Nat) : List pm_E := txW (nA t) (nI n) (nI a)
theorem c_isHere (hs : l.stackTraces = false) (t : Nat → Nat) (n a v : Nat) (hn : n ≤ 160) (ha : a ≤ n) (ht : Ch t) (hv : v < 65536) : pm_Met l mX3_isHere 1 0 0 [.ref 0, .int (nI v)] (txW' t n a) (isI (nI (b2n (hereB t n a v))) (txW' t n a)) := by
  have hta := ht a
  refine pm_Met.mk kX3_isHere hs (pm_J.run [] 40 (fun K hK => And.intro (fun q => hK _ ?_) (fun q => ?_)))
  · have q' : nI n ≤ nI a := q
    rw [nI_leI (by omega) (by omega)] at q'
    exact pm_J.ri ⟨by rw [hereB, decide_eq_false (by omega)]; rfl, rfl⟩ (hn := rfl)
  · have q' : ¬ nI n ≤ nI a := q
    rw [nI_leI (by omega) (by omega)] at q'
    have ea : (nI a).toNatClampNeg = a := nI_clamp (by omega)
    refine And.intro (vp_in_nI (by omega) (by decide)) (And.intro (fun g => hK _ ?_) (fun g => hK _ ?_))
    · have g' : ¬ nI (t (nI a).toNatClampNeg) = nI v := g
      rw [ea, nI_eq (by omega) (by omega)] at g'
      exact pm_J.ri ⟨by rw [hereB, decide_eq_false (fun z => g' z.2)]; rfl, rfl⟩ (hn := rfl)
    · have g' : ¬ ¬ nI (t (nI a).toNatClampNeg) = nI v := g
      rw [ea, nI_eq (by omega) (by omega)] at g'
      exact pm_J.ri ⟨by rw [hereB, decide_eq_true ⟨by omega, Classical.not_not.mp g'⟩]; rfl, rfl⟩ (hn := rfl)
def tkF (t : Nat → Nat) (n a v : Nat) : Nat := if hereB t n a v then a + 1 else a
theorem tkF_le {t : Nat → Nat} {n a v : Nat} (h : a ≤ n) : tkF t n a v ≤ n := by
  unfold tkF hereB
  split
  · rename_i q
    have := (of_decide_eq_true q).1
    omega
  · exact h
theorem c_take (hs : l.stackTraces = false) (t : Nat → Nat) (n a v : Nat) (hn : n ≤ 160) (ha : a ≤ n) (ht : Ch t) (hv : v < 65536) : pm_Met l mX3_take 2 0 0 [.ref 0, .int (nI v)] (txW' t n a) (isI (nI (b2n (hereB t n a v))) (txW' t n (tkF t n a v))) := by
  refine pm_Met.mk kX3_take hs (pm_J.run [] 40 (fun K hK => hK _ ?_))
  refine pm_J.cI [0, 1] (c_isHere hs t n a v hn ha ht hv) gRX3_41 vX3_isHere ?_
  unfold tkF
  cases hm : hereB t n a v with
  | true =>
    refine pm_J.run [] 40 (fun K hK => br_t (by decide) (hK _ ?_))
    refine pm_J.ri ⟨rfl, ?_⟩ (hn := rfl)
    rw [if_pos rfl]
    show _ = txW (nA t) (nI n) (nI (a + 1))
    rw [← nI_add a 1]
    rfl
  | false =>
    refine pm_J.run [] 40 (fun K hK => br_f (by decide) (hK _ ?_))
    refine pm_J.ri ⟨rfl, ?_⟩ (hn := rfl)
    rw [if_neg (by decide)]
def rsS (t : Nat → Nat) (n lm a0 : Nat) : Nat → Nat × Nat × Nat
  | 0 => (0, 0, a0)
  | i + 1 => if (rsS t n lm a0 i).2.1 < lm ∧ hereB t n (rsS t n lm a0 i).2.2 (48 + i) = true then ((rsS t n lm a0 i).1 ||| 2 ^ i, (rsS t n lm a0 i).2.1 + 1, (rsS t n lm a0 i).2.2 + 1) else rsS t n lm a0 i
theorem rsS_stop {t : Nat → Nat} {n lm a0 i : Nat} (h : ¬ (rsS t n lm a0 i).2.1 < lm) : ∀ j, rsS t n lm a0 (i + j) = rsS t n lm a0 i
  | 0 => rfl
  | j + 1 => by
    have ih := rsS_stop h j
    rw [← Nat.add_assoc, rsS, ih, if_neg (fun z => h z.1)]
theorem rsS_ok {t : Nat → Nat} {n lm a0 : Nat} (h : a0 ≤ n) : ∀ i, i ≤ 4 → (rsS t n lm a0 i).1 < 2 ^ i ∧ (rsS t n lm a0 i).2.1 ≤ i ∧ (rsS t n lm a0 i).2.2 ≤ n
  | 0, _ => ⟨(by decide : 0 < 1), Nat.le_refl _, h⟩
  | i + 1, hi => by
    obtain ⟨h1, h2, h3⟩ := rsS_ok (t := t) (lm := lm) h i (by omega)
    have hp : 2 ^ i < 2 ^ (i + 1) := Nat.pow_lt_pow_right (by decide) (by omega)
    unfold rsS
    split
    · rename_i q
      have := (of_decide_eq_true q.2).1
      refine ⟨Nat.or_lt_two_pow (by omega) hp, ?_, ?_⟩
      · show _ + 1 ≤ i + 1; omega
      · show _ + 1 ≤ n; omega
    · exact ⟨by omega, by omega, h3⟩
set_option maxHeartbeats 1000000 in
theorem c_rising (hs : l.stackTraces = false) (t : Nat → Nat) (n a lm : Nat) (hn : n ≤ 160) (ha : a ≤ n) (ht : Ch t) (hl : lm ≤ 4) : pm_Met l mX3_takeRisingStates 3 0 0 [.ref 0, .int (nI lm)] (txW' t n a) (isI (nI (rsS t n lm a 4).1) (txW' t n (rsS t n lm a 4).2.2)) := by
  refine pm_Met.mk kX3_takeRisingStates hs (pm_J.run [7] 40 (fun K hK => hK _ ?_))
  refine pm_up (b := 4) (P := fun i => pm_J l mX3_takeRisingStates iX3_takeRisingStates 3 0 0 2 (isI (nI (rsS t n lm a 4).1) (txW' t n (rsS t n lm a 4).2.2)) 0 0 (7, [some (.ref 0), some (.int (nI lm)), some (.int (nI (rsS t n lm a i).1)), some (.int (nI (rsS t n lm a i).2.1)), some (.int (nI i))], [], txW' t n (rsS t n lm a i).2.2)) 0 (by decide) ?_ (fun i h1 h2 ih => ?_)
  · refine pm_J.run [7] 40 (fun K hK => br_t (nI_le (a := 4) (b := 4) (by decide) (by decide)) (hK _ ?_))
    exact pm_J.ri ⟨rfl, rfl⟩
  · obtain ⟨r1, r2, r3⟩ := rsS_ok (t := t) (lm := lm) ha i (by omega)
    have hp : 2 ^ i ≤ 2 ^ 4 := Nat.pow_le_pow_right (by decide) (by omega)
    refine pm_J.run [7] 40 (fun K hK => br_f (nI_ge (a := i) (b := 4) h2 (by decide)) (And.intro (fun q => hK _ ?_) (fun q => hK _ ?_)))
    · have q' : nI lm ≤ nI (rsS t n lm a i).2.1 := q
      rw [nI_leI (by omega) (by omega)] at q'
      have e := rsS_stop (t := t) (n := n) (a0 := a) (i := i) (lm := lm) (by omega) (4 - i)
      rw [show i + (4 - i) = 4 by omega] at e
      rw [e]
      exact pm_J.ri ⟨rfl, rfl⟩
    · have q' : ¬ nI lm ≤ nI (rsS t n lm a i).2.1 := q
      rw [nI_leI (by omega) (by omega)] at q'
      have ei : ((pm_k 48 + nI i).toUInt32 % 65536).toInt32 = nI (48 + i) := by
        show ((nI 48 + nI i).toUInt32 % 65536).toInt32 = nI (48 + i)
        rw [nI_add]; exact i2c_at (by omega)
      rw [ei]
      refine pm_J.ciw [0, 1] (txW' t n (tkF t n (rsS t n lm a i).2.2 (48 + i))) (c_take hs t n (rsS t n lm a i).2.2 (48 + i) hn r3 ht (by omega)) gRX3_34 vX3_take ?_
      unfold tkF
      cases hm : hereB t n (rsS t n lm a i).2.2 (48 + i) with
      | true =>
        have e : rsS t n lm a (i + 1) = ((rsS t n lm a i).1 ||| 2 ^ i, (rsS t n lm a i).2.1 + 1, (rsS t n lm a i).2.2 + 1) := by rw [rsS, if_pos ⟨by omega, hm⟩]
        rw [e] at ih
        dsimp only at ih
        rw [← nx_or, ← nI_shl1 (by omega), ← nI_add i 1, ← nI_add (rsS t n lm a i).2.1 1] at ih
        rw [if_pos rfl]
        refine pm_J.run [7] 40 (fun K hK => br_f (by decide) (hK _ ?_))
        exact ih
      | false =>
        have e : rsS t n lm a (i + 1) = rsS t n lm a i := by rw [rsS, if_neg (fun z => by rw [hm] at z; cases z.2)]
        rw [e, ← nI_add i 1] at ih
        rw [if_neg (by decide)]
        refine pm_J.run [7] 40 (fun K hK => br_t (by decide) (hK _ ?_))
        exact ih
/-- an entry: its set (0: at fault), and where the reading stands -/
def enF (t : Nat → Nat) (n a : Nat) : Nat × Nat :=
  if hereB t n a 63 then (15, a + 1) else
  if hereB t n a 123 then
    (if (rsS t n 4 (a + 1) 4).1 = 0 then (0, (rsS t n 4 (a + 1) 4).2.2) else if hereB t n (rsS t n 4 (a + 1) 4).2.2 125 then ((rsS t n 4 (a + 1) 4).1, (rsS t n 4 (a + 1) 4).2.2 + 1) else (0, (rsS t n 4 (a + 1) 4).2.2))
  else ((rsS t n 1 a 4).1, (rsS t n 1 a 4).2.2)
theorem here_lt {t : Nat → Nat} {n a v : Nat} (h : hereB t n a v = true) : a < n := (of_decide_eq_true h).1
theorem enF_ok {t : Nat → Nat} {n a : Nat} (h : a ≤ n) : (enF t n a).1 < 16 ∧ (enF t n a).2 ≤ n := by
  unfold enF
  split
  · rename_i q
    exact ⟨(by decide : 15 < 16), here_lt q⟩
  · split
    · rename_i q
      have q1 := here_lt q
      obtain ⟨h1, h2, h3⟩ := rsS_ok (t := t) (n := n) (lm := 4) (a0 := a + 1) (by omega) 4 (by decide)
      split
      · exact ⟨(by decide : 0 < 16), h3⟩
      · split
        · rename_i q2
          exact ⟨h1, here_lt q2⟩
        · exact ⟨(by decide : 0 < 16), h3⟩
    · obtain ⟨h1, h2, h3⟩ := rsS_ok (t := t) (n := n) (lm := 1) (a0 := a) h 4 (by decide)
      exact ⟨h1, h3⟩
theorem c_entry (hs : l.stackTraces = false) (t : Nat → Nat) (n a : Nat) (hn : n ≤ 160) (ha : a ≤ n) (ht : Ch t) : pm_Met l mX3_takeEntry 4 0 0 [.ref 0] (txW' t n a) (isI (nI (enF t n a).1) (txW' t n (enF t n a).2)) := by
  refine pm_Met.mk kX3_takeEntry hs (pm_J.run [] 40 (fun K hK => hK _ ?_))
  refine pm_J.ciw [0, 1] (txW' t n (tkF t n a 63)) (c_take hs t n a 63 hn ha ht (by decide)) gRX3_34 vX3_take ?_
  unfold tkF
  cases hm : hereB t n a 63 with
  | true =>
    have e : enF t n a = (15, a + 1) := by rw [enF, hm, if_pos rfl]
    rw [e, if_pos rfl]
    refine pm_J.run [] 40 (fun K hK => br_f (by decide) (hK _ ?_))
    exact pm_J.ri ⟨rfl, rfl⟩
  | false =>
    rw [if_neg Bool.false_ne_true]
    refine pm_J.run [] 40 (fun K hK => br_t (by decide) (hK _ ?_))
    refine pm_J.ciw [0, 1] (txW' t n (tkF t n a 123)) (c_take hs t n a 123 hn ha ht (by decide)) gRX3_34 vX3_take ?_
    unfold tkF
    cases hm2 : hereB t n a 123 with
    | true =>
      have hlt := here_lt hm2
      have e : enF t n a = (if (rsS t n 4 (a + 1) 4).1 = 0 then (0, (rsS t n 4 (a + 1) 4).2.2) else if hereB t n (rsS t n 4 (a + 1) 4).2.2 125 then ((rsS t n 4 (a + 1) 4).1, (rsS t n 4 (a + 1) 4).2.2 + 1) else (0, (rsS t n 4 (a + 1) 4).2.2)) := by rw [enF, hm, if_neg Bool.false_ne_true, hm2, if_pos rfl]
      rw [e, if_pos rfl]
      refine pm_J.run [] 40 (fun K hK => br_f (by decide) (hK _ ?_))
      refine pm_J.ciw [0, 1] (txW' t n (rsS t n 4 (a + 1) 4).2.2) (c_rising hs t n (a + 1) 4 hn (by omega) ht (by decide)) gRX3_52 vX3_takeRisingStates ?_
      obtain ⟨h1, h2, h3⟩ := rsS_ok (t := t) (n := n) (lm := 4) (a0 := a + 1) (by omega) 4 (by decide)
      generalize rsS t n 4 (a + 1) 4 = z at h1 h2 h3 ⊢
      obtain ⟨z1, z2, z3⟩ := z
      dsimp only at h1 h2 h3 ⊢
      refine pm_J.run [] 40 (fun K hK => And.intro (fun q => hK _ ?_) (fun q => hK _ ?_))
      · have q' : nI z1 = 0 := q
        rw [nI_z (by omega)] at q'
        rw [if_pos q']
        exact pm_J.ri ⟨rfl, rfl⟩
      · have q' : ¬ nI z1 = 0 := q
        rw [nI_z (by omega)] at q'
        rw [if_neg q']
        refine pm_J.ciw [0, 1] (txW' t n (tkF t n z3 125)) (c_take hs t n z3 125 hn h3 ht (by decide)) gRX3_34 vX3_take ?_
        unfold tkF
        cases hm3 : hereB t n z3 125 with
        | true =>
          rw [if_pos rfl, if_pos rfl]
          refine pm_J.run [] 40 (fun K hK => br_f (by decide) (hK _ ?_))
          exact pm_J.ri ⟨rfl, rfl⟩
        | false =>
          rw [if_neg Bool.false_ne_true, if_neg Bool.false_ne_true]
          refine pm_J.run [] 40 (fun K hK => br_t (by decide) (hK _ ?_))
          exact pm_J.ri ⟨rfl, rfl⟩
    | false =>
      have e : enF t n a = ((rsS t n 1 a 4).1, (rsS t n 1 a 4).2.2) := by rw [enF, hm, if_neg Bool.false_ne_true, hm2, if_neg Bool.false_ne_true]
      rw [e, if_neg Bool.false_ne_true]
      refine pm_J.run [] 40 (fun K hK => br_t (by decide) (hK _ ?_))
      refine pm_J.ciw [0, 1] (txW' t n (rsS t n 1 a 4).2.2) (c_rising hs t n a 1 hn ha ht (by decide)) gRX3_52 vX3_takeRisingStates ?_
      exact pm_J.ri ⟨rfl, rfl⟩
end TXT
