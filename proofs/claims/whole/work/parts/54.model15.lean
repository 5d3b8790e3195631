section MDF
variable {l : Launch}
theorem onS_le (s : Nat) : ∀ k, onS s k ≤ k
  | 0 => Nat.le_refl _
  | k + 1 => by have := onS_le s k; unfold onS; omega
theorem d_put (hs : l.stackTraces = false) (A : mA) (P : mP) (T : mT) (F : mF) (G : mG) (S : mS) (sz : Nat) (wr : Nat → Nat) (op : Nat → Int32) (th v : Nat) (hz : sz < 64) (hv : v < 65536) :
    pm_Met l mX6_put 1 0 0 [.ref 0, .int (nI v)] (moW A P T F G S (sz, wr, op) th) (isO none (moW A P T F G S (sz + 1, upN wr sz v, op) th)) := by
  refine pm_Met.mk kX6_put hs (pm_J.run [] 40 (fun K hK => And.intro (vp_in_nI hz (by decide)) (hK _ ?_)))
  rw [i2c_at hv, nar_char hv, nI_clamp (by omega)]
  refine pm_J.rv ⟨rfl, ?_⟩
  unfold moW
  dsimp only
  rw [← nA_upd wr, ← nI_add sz 1]
  rfl
def paC (wh kd p s : Nat) : Bool := decide (s &&& (wh ^^^ 4294967295) = 0) && (decide (¬ s = wh) && (decide (s / 2 ^ kd % 2 = 1) && decide (onS p 8 < onS s 8)))
def paS (e : Nat → Nat) (wh kd : Nat) : Nat → Nat
  | 0 => 2 ^ kd
  | k + 1 => if paC wh kd (paS e wh kd k) (e k) then e k else paS e wh kd k
theorem paS_lt {e : Nat → Nat} {wh kd n : Nat} (he : ∀ i, i < n → e i < 256) (hk : kd < 7) : ∀ k, k ≤ n → paS e wh kd k < 256
  | 0, _ => by
    have : 2 ^ kd < 2 ^ 8 := Nat.pow_lt_pow_right (by decide) (by omega)
    show 2 ^ kd < 256
    omega
  | k + 1, h => by
    unfold paS
    split
    · exact he k (by omega)
    · exact paS_lt he hk k (by omega)
theorem nI_not (wh : Nat) : nI wh ^^^ pm_k (-1) = nI (wh ^^^ 4294967295) := by
  rw [show pm_k (-1) = nI 4294967295 by decide +kernel, nx_xor]
set_option maxHeartbeats 1000000 in
theorem d_part (hs : l.stackTraces = false) (A : mA) (P : mP) (T : mT) (F : mF) (G : mG) (S : mS) (W : mW) (th wh kd : Nat) (hn : S.1 ≤ 8) (he : ∀ i, i < S.1 → S.2.1 i < 256) (hw : wh < 256) (hk : kd < 7) :
    pm_Met l mX6_part 2 0 0 [.ref 0, .int (nI wh), .int (nI kd)] (moW A P T F G S W th) (isI (nI (paS S.2.1 wh kd S.1)) (moW A P T F G S W th)) := by
  generalize hO : isI (nI (paS S.2.1 wh kd S.1)) (moW A P T F G S W th) = O
  refine pm_Met.mk kX6_part hs (pm_J.run [7] 40 (fun K hK => hK _ ?_))
  have key : ∀ x5 : Option Value, pm_J l mX6_part iX6_part 2 0 0 15 O 0 0 (7, [some (.ref 0), some (.int (nI wh)), some (.int (nI kd)), some (.int (nI (paS S.2.1 wh kd 0))), some (.int (nI 0)), x5], [], moW A P T F G S W th) := by
    refine pm_up (b := S.1) (P := fun k => ∀ x5 : Option Value, pm_J l mX6_part iX6_part 2 0 0 15 O 0 0 (7, [some (.ref 0), some (.int (nI wh)), some (.int (nI kd)), some (.int (nI (paS S.2.1 wh kd k))), some (.int (nI k)), x5], [], moW A P T F G S W th)) 0 (Nat.zero_le _) (fun x5 => ?_) (fun k h1 h2 ih x5 => ?_)
    · refine pm_J.run [] 40 (fun K hK => br_t (nI_le (Nat.le_refl _) (by omega)) (hK _ ?_))
      refine pm_J.ri ?_
      rw [← hO]
      exact ⟨rfl, rfl⟩
    · have hp := paS_lt (wh := wh) he hk k (by omega)
      have hek := he k h2
      have e : paS S.2.1 wh kd (k + 1) = if paC wh kd (paS S.2.1 wh kd k) (S.2.1 k) then S.2.1 k else paS S.2.1 wh kd k := rfl
      rw [e, ← nI_add k 1] at ih
      clear e
      have ih := ih (some (.int (nI (S.2.1 k))))
      generalize paS S.2.1 wh kd k = p at ih hp ⊢
      generalize hsk : S.2.1 k = s at ih hek ⊢
      have skip : paC wh kd p s = false → pm_J l mX6_part iX6_part 2 0 0 15 O 0 0 (65, [some (.ref 0), some (.int (nI wh)), some (.int (nI kd)), some (.int (nI p)), some (.int (nI k)), some (.int (nI s))], [], moW A P T F G S W th) := by
        intro hq
        rw [hq, if_neg Bool.false_ne_true] at ih
        refine pm_J.run [7] 40 (fun K hK => hK _ ?_)
        exact ih
      refine pm_J.run [25] 40 (fun K hK => br_f (nI_ge h2 (by omega)) (And.intro (vp_in_nI (by omega) (by decide)) (hK _ ?_)))
      rw [nI_clamp (by omega)]
      show pm_J l mX6_part iX6_part 2 0 0 15 O 0 0 (25, [some (.ref 0), some (.int (nI wh)), some (.int (nI kd)), some (.int (nI p)), some (.int (nI k)), some (.int (nI (S.2.1 k)))], [], moW A P T F G S W th)
      rw [hsk]
      have o1 := onS_le s 8
      have o2 := onS_le p 8
      refine pm_J.run [65] 60 (fun K hK => And.intro (fun q => hK _ ?_) (fun q => And.intro (fun q2 => hK _ ?_) (fun q2 => And.intro (fun q3 => hK _ ?_) (fun q3 => hK _ ?_))))
      · have q' : ¬ (nI s &&& (nI wh ^^^ pm_k (-1))) = 0 := q
        rw [nI_not, nx_and, nI_z (Nat.lt_of_le_of_lt Nat.and_le_left (by omega))] at q'
        exact skip (by unfold paC; rw [decide_eq_false q']; rfl)
      · have q' : nI s = nI wh := q2
        rw [nI_e256 hek hw] at q'
        exact skip (by unfold paC; rw [decide_eq_false (show ¬ ¬ s = wh from fun z => z q')]; simp)
      · have q' : ¬ ((nI s >>> (nI kd &&& 31)) &&& pm_k 1) = nI 1 := q3
        rw [bit_gen (by omega) (by omega), nI_e128 (by omega) (by decide)] at q'
        exact skip (by unfold paC; rw [decide_eq_false q']; simp)
      · have q1' : ¬ ¬ (nI s &&& (nI wh ^^^ pm_k (-1))) = 0 := q
        rw [nI_not, nx_and, nI_z (Nat.lt_of_le_of_lt Nat.and_le_left (by omega))] at q1'
        have q2' : ¬ nI s = nI wh := q2
        rw [nI_e256 hek hw] at q2'
        have q3' : ¬ ¬ ((nI s >>> (nI kd &&& 31)) &&& pm_k 1) = nI 1 := q3
        rw [bit_gen (by omega) (by omega), nI_e128 (by omega) (by decide)] at q3'
        refine pm_J.cis (d_ones hs s (by omega)) gRX6_154 vX6_ones ?_
        refine pm_J.run [65] 60 (fun K hK => hK _ ?_)
        refine pm_J.cis (d_ones hs p (by omega)) gRX6_154 vX6_ones ?_
        refine pm_J.run [65, 7] 60 (fun K hK => And.intro (fun q4 => hK _ ?_) (fun q4 => hK _ ?_))
        · have q4' : nI (onS s 8) ≤ nI (onS p 8) := q4
          rw [nI_leI (by omega) (by omega)] at q4'
          exact skip (by unfold paC; rw [decide_eq_false (show ¬ onS p 8 < onS s 8 by omega)]; simp)
        · have q4' : ¬ nI (onS s 8) ≤ nI (onS p 8) := q4
          rw [nI_leI (by omega) (by omega)] at q4'
          have hc : paC wh kd p s = true := by unfold paC; rw [decide_eq_true (Classical.not_not.mp q1'), decide_eq_true q2', decide_eq_true (Classical.not_not.mp q3'), decide_eq_true (show onS p 8 < onS s 8 by omega)]; rfl
          rw [hc, if_pos rfl] at ih
          refine pm_J.run [7] 60 (fun K hK => hK _ ?_)
          exact ih
  have := key none
  have e0 : paS S.2.1 wh kd 0 = 2 ^ kd := rfl
  rw [e0, ← nI_shl1 (by omega)] at this
  exact this
/-- spread(): none where the row would be left -/
def sdP (e : Nat → Nat) (ne wh kd : Nat) : Nat := if wh / 2 ^ kd % 2 = 1 then paS e wh kd ne else 0
def sdS (e : Nat → Nat) (ne wh : Nat) : Nat → Nat → (Nat → Nat) → Option (Nat × (Nat → Nat))
  | 0, m, op => some (m, op)
  | j + 1, m, op => if ¬ sdP e ne wh j = 0 ∧ sdP e ne wh j &&& (2 ^ j - 1) = 0 then (if m + 1 < 64 then sdS e ne wh j (m + 2) (upN (upN op m (sdP e ne wh j)) (m + 1) 4294967294) else none) else sdS e ne wh j m op
theorem sdS_s (e : Nat → Nat) (ne wh j m : Nat) (op : Nat → Nat) : sdS e ne wh (j + 1) m op = if ¬ sdP e ne wh j = 0 ∧ sdP e ne wh j &&& (2 ^ j - 1) = 0 then (if m + 1 < 64 then sdS e ne wh j (m + 2) (upN (upN op m (sdP e ne wh j)) (m + 1) 4294967294) else none) else sdS e ne wh j m op := rfl
set_option maxHeartbeats 1000000 in
theorem d_spread (hs : l.stackTraces = false) (A : mA) (P : mP) (T : mT) (F : mF) (G : mG) (S : mS) (sz : Nat) (wr op : Nat → Nat) (th wh n m' : Nat) (op' : Nat → Nat) (hn : S.1 ≤ 8) (he : ∀ i, i < S.1 → S.2.1 i < 256) (hw : wh < 256) (hn64 : n ≤ 64) (hm : 1 ≤ m') (hr : sdS S.2.1 S.1 wh 7 n op = some (m', op')) :
    pm_Met l mX6_spread 3 0 0 [.ref 0, .int (nI wh), .int (nI n)] (moW A P T F G S (sz, wr, nA op) th) (isI (nI (m' - 1)) (moW A P T F G S (sz, wr, nA op') th)) := by
  generalize hO : isI (nI (m' - 1)) (moW A P T F G S (sz, wr, nA op') th) = O
  refine pm_Met.mk kX6_spread hs (pm_J.run [6] 40 (fun K hK => hK _ ?_))
  have key : ∀ r, r ≤ 7 → ∀ m o x5, m ≤ 64 → sdS S.2.1 S.1 wh r m o = some (m', op') → pm_J l mX6_spread iX6_spread 3 0 0 15 O 0 0 (6, [some (.ref 0), some (.int (nI wh)), some (.int (nI n)), some (.int (nI m)), some (.int (nI r + pm_k (-1))), x5], [], moW A P T F G S (sz, wr, nA o) th) := by
    intro r
    induction r with
    | zero =>
      intro _ m o x5 hm64 hz
      rw [sdS] at hz
      cases hz
      refine pm_J.run [] 40 (fun K hK => br_t (show nI 0 + pm_k (-1) < 0 by decide) (hK _ ?_))
      refine pm_J.ri ?_
      rw [← hO, ← pk_sub hm]
      exact ⟨rfl, rfl⟩
    | succ j ih =>
      intro hj m o x5 hm64 hz
      rw [sdS_s] at hz
      rw [nI_dn]
      have hpl : sdP S.2.1 S.1 wh j < 256 := by
        unfold sdP
        split
        · exact paS_lt he (by omega) S.1 (Nat.le_refl _)
        · decide
      have h2j : 2 ^ j ≤ 2 ^ 7 := Nat.pow_le_pow_right (by decide) (by omega)
      have h2p : 1 ≤ 2 ^ j := Nat.one_le_two_pow
      have em : (nI 1 <<< (nI j &&& 31)) - nI 1 = nI (2 ^ j - 1) := by rw [nI_shl1 (by omega), pk_sub h2p]
      have em' : (pm_k 1 <<< (nI j &&& 31)) - pm_k 1 = nI (2 ^ j - 1) := em
      have mid : ∀ p, p = sdP S.2.1 S.1 wh j → pm_J l mX6_spread iX6_spread 3 0 0 15 O 0 0 (32, [some (.ref 0), some (.int (nI wh)), some (.int (nI n)), some (.int (nI m)), some (.int (nI j)), x5], [.int (nI p)], moW A P T F G S (sz, wr, nA o) th) := by
        intro p hp
        rw [← hp] at hz hpl
        have hand : p &&& (2 ^ j - 1) < 2 ^ 31 := Nat.lt_of_le_of_lt Nat.and_le_left (by omega)
        have skip : ¬ (¬ p = 0 ∧ p &&& (2 ^ j - 1) = 0) → pm_J l mX6_spread iX6_spread 3 0 0 15 O 0 0 (72, [some (.ref 0), some (.int (nI wh)), some (.int (nI n)), some (.int (nI m)), some (.int (nI j)), some (.int (nI p))], [], moW A P T F G S (sz, wr, nA o) th) := by
          intro hq
          rw [if_neg hq] at hz
          refine pm_J.run [6] 40 (fun K hK => hK _ ?_)
          exact ih (by omega) m o _ hm64 hz
        refine pm_J.run [72] 60 (fun K hK => And.intro (fun q => hK _ ?_) (fun q => And.intro (fun q2 => hK _ ?_) (fun q2 => ?_)))
        · have q' : nI p = 0 := q
          rw [nI_z (by omega)] at q'
          exact skip (fun z => z.1 q')
        · have q' : ¬ (nI p &&& ((pm_k 1 <<< (nI j &&& 31)) - pm_k 1)) = 0 := q2
          rw [em', nx_and, nI_z hand] at q'
          exact skip (fun z => q' z.2)
        · have q1' : ¬ nI p = 0 := q
          rw [nI_z (by omega)] at q1'
          have q2' : ¬ ¬ (nI p &&& ((pm_k 1 <<< (nI j &&& 31)) - pm_k 1)) = 0 := q2
          rw [em', nx_and, nI_z hand] at q2'
          rw [if_pos ⟨q1', Classical.not_not.mp q2'⟩] at hz
          by_cases hmm : m + 1 < 64
          · rw [if_pos hmm] at hz
            have e1 : nI m + pm_k 1 = nI (m + 1) := nI_add m 1
            have e2 : nI m + pm_k 2 = nI (m + 2) := nI_add m 2
            refine And.intro (vp_in_nI (by omega) (by decide)) (And.intro (by rw [e1]; exact vp_in_nI hmm (by decide)) (hK _ ?_))
            rw [e1, nI_clamp (by omega), nI_clamp (by omega)]
            have ih2 := ih (by omega) (m + 2) _ (some (.int (nI p))) (by omega) hz
            unfold moW at ih2
            dsimp only at ih2
            rw [← nA_upd, ← nA_upd, ← e2, show nI 4294967294 = pm_k (-2) by decide +kernel] at ih2
            refine pm_J.run [6] 60 (fun K hK => hK _ ?_)
            exact ih2
          · rw [if_neg hmm] at hz
            cases hz
      refine pm_J.run [32] 60 (fun K hK => br_f (nI_pos (by omega)) (And.intro (fun q => hK _ ?_) (fun q => hK _ ?_)))
      · have q' : ¬ ((nI wh >>> (nI j &&& 31)) &&& pm_k 1) = nI 1 := q
        rw [bit_gen (by omega) (by omega), nI_e128 (by omega) (by decide)] at q'
        exact mid 0 (by rw [sdP, if_neg q'])
      · have q' : ¬ ¬ ((nI wh >>> (nI j &&& 31)) &&& pm_k 1) = nI 1 := q
        rw [bit_gen (by omega) (by omega), nI_e128 (by omega) (by decide)] at q'
        refine pm_J.cI q15 (d_part hs A P T F G S (sz, wr, nA o) th wh j hn he hw (by omega)) gRX6_170 vX6_part ?_
        refine pm_J.run [32] 60 (fun K hK => hK _ ?_)
        exact mid _ (by rw [sdP, if_pos (Classical.not_not.mp q')])
  have := key 7 (by decide) n op none hn64 hr
  rw [nI_dn] at this
  exact this
end MDF
