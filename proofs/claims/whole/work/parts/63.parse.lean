section MEA
theorem popc_on : ∀ s, s < 16 → popc s = onS s 8 := by decide +kernel
theorem me_eq {r : Nat → Int64} {stt : Nat → Nat} {c s : Nat} : ∀ k, (∀ a, a < k → stt (16 * a + c) = lane (r a) c) → meQ stt c s k = meets r c s k
  | 0, _ => rfl
  | k + 1, h => by rw [meQ, meets, me_eq k (fun a ha => h a (by omega)), h k (by omega)]
theorem fw_eq {r : Nat → Int64} {stt : Nat → Nat} {c k : Nat} (h : ∀ a, a < k → stt (16 * a + c) = lane (r a) c) : ∀ s, s ≤ 16 → fwQ stt k c s = fewS r c k s
  | 0, _ => rfl
  | s + 1, hs => by rw [fwQ, fewS, me_eq k h, fw_eq h s (by omega), popc_on s (by omega)]
theorem hv_eq {r : Nat → Int64} {stt : Nat → Nat} {c st : Nat} : ∀ k, (∀ a, a < k → stt (16 * a + c) = lane (r a) c) → hvQ stt c st k = alike r c st k
  | 0, _ => rfl
  | k + 1, h => by rw [hvQ, alike, hv_eq k (fun a ha => h a (by omega)), h k (by omega)]
theorem mx_eq {r : Nat → Int64} {stt : Nat → Nat} {c k : Nat} (h : ∀ a, a < k → stt (16 * a + c) = lane (r a) c) : ∀ st, mxQ stt k c st = mostA r c k st
  | 0 => rfl
  | st + 1 => by rw [mxQ, mostA, mx_eq h st, hv_eq k h]
theorem sm_least {t : tbP} {T : mT} (h : TbR t T) : smQ T false T.2.1 = leastS t.1 t.2.1 t.2.2.1 t.2.2.2 := by
  rw [← h.1, ← h.2.1]
  have : ∀ n, n ≤ T.2.1 → smQ T false n = leastS t.1 t.2.1 T.1 n := by
    intro n
    induction n with
    | zero => intro _; rfl
    | succ n ih =>
      intro hn
      rw [smQ, leastS, ih (by omega), fw_eq (fun a ha => (h.2.2.2.2.1 a n ha (by omega)).1) 16 (Nat.le_refl _), h.2.2.2.2.2 n (by omega), Nat.mul_comm]
      rfl
  exact this _ (Nat.le_refl _)
theorem sm_most {t : tbP} {T : mT} (h : TbR t T) : smQ T true T.2.1 = mostS t.1 t.2.1 t.2.2.1 t.2.2.2 := by
  rw [← h.1, ← h.2.1]
  have : ∀ n, n ≤ T.2.1 → smQ T true n = mostS t.1 t.2.1 T.1 n := by
    intro n
    induction n with
    | zero => intro _; rfl
    | succ n ih =>
      intro hn
      rw [smQ, mostS, ih (by omega), mx_eq (fun a ha => (h.2.2.2.2.1 a n ha (by omega)).1) 4, h.2.2.2.2.2 n (by omega), Nat.mul_comm]
      rfl
  exact this _ (Nat.le_refl _)
end MEA
section PAR
theorem nib_pow (v e j : Nat) (hv : v < 16) : nib (v * 16 ^ e) j = if j = e then v else 0 := by
  unfold nib
  by_cases h : j = e
  · subst h
    rw [if_pos rfl, Nat.mul_div_cancel _ (Nat.pow_pos (by decide)), Nat.mod_eq_of_lt hv]
  · rw [if_neg h]
    rcases Nat.lt_or_gt_of_ne h with h | h
    · obtain ⟨d, rfl⟩ : ∃ d, e = j + (d + 1) := ⟨e - j - 1, by omega⟩
      rw [Nat.pow_add, show v * (16 ^ j * 16 ^ (d + 1)) = 16 ^ j * (v * 16 ^ (d + 1)) by rw [Nat.mul_left_comm], Nat.mul_div_cancel_left _ (Nat.pow_pos (by decide)), Nat.pow_succ, ← Nat.mul_assoc, Nat.mul_mod_left]
    · rw [Nat.div_eq_of_lt]
      obtain ⟨d, rfl⟩ : ∃ d, j = e + (d + 1) := ⟨j - e - 1, by omega⟩
      rw [Nat.pow_add, Nat.mul_comm]
      apply Nat.mul_lt_mul_of_pos_left
      · exact Nat.lt_of_lt_of_le hv (by rw [Nat.pow_succ]; have := Nat.pow_pos (n := d) (show 0 < 16 by decide); omega)
      · exact Nat.pow_pos (by decide)
theorem lane_put (x : Int64) (v e j : Nat) (hv : v < 16) (he : e < 16) : lane (x ||| lN (v * 16 ^ e)) j = lane x j ||| (if j = e then v else 0) := by
  rw [lane_or]
  congr 1
  rw [lane_nib]
  have : (lN (v * 16 ^ e)).toBitVec.toNat = v * 16 ^ e := by
    show (BitVec.ofNat 64 (v * 16 ^ e)).toNat = _
    rw [BitVec.toNat_ofNat, Nat.mod_eq_of_lt]
    have : 16 ^ e ≤ 16 ^ 15 := Nat.pow_le_pow_right (by decide) (by omega)
    calc v * 16 ^ e ≤ 15 * 16 ^ 15 := Nat.mul_le_mul (by omega) this
      _ < 2 ^ 64 := by decide
  rw [this, nib_pow _ _ _ hv]
theorem rs_lt (t : Nat → Nat) (n lm a0 : Nat) : ∀ i, i ≤ 4 → (rsS t n lm a0 i).1 < 2 ^ i
  | 0, _ => by show 0 < 1; decide
  | i + 1, hi => by
    have := rs_lt t n lm a0 i (by omega)
    rw [rsS]
    split
    · exact Nat.or_lt_two_pow (Nat.lt_of_lt_of_le this (Nat.pow_le_pow_right (by decide) (by omega))) (Nat.pow_lt_pow_right (by decide) (by omega))
    · rw [Nat.pow_succ]; omega
theorem en_lt (t : Nat → Nat) (n a : Nat) : (enF t n a).1 < 16 := by
  have h1 := rs_lt t n 4 (a + 1) 4 (Nat.le_refl _)
  have h2 := rs_lt t n 1 a 4 (Nat.le_refl _)
  unfold enF
  split
  · show 15 < 16; decide
  · split
    · split
      · show 0 < 16; decide
      · split
        · exact h1
        · show 0 < 16; decide
    · exact h2
/-- rows alike: kind by kind, below a character -/
def RwR (r : Nat → Int64) (r2 : Nat → Nat) (kd e : Nat) : Prop := (∀ j, j < e → r2 (16 * kd + j) = lane (r kd) j ∧ ¬ lane (r kd) j = 0) ∧ ∀ j, e ≤ j → lane (r kd) j = 0
theorem rwL_eq {t : Nat → Nat} {n kd : Nat} : ∀ (f e a : Nat) (r : Nat → Int64) (r2 : Nat → Nat), e + f ≤ 16 → RwR r r2 kd e →
    (rwL t n kd f e a r).1 = (rwL2 t n kd f e a r2).1 ∧ (rwL t n kd f e a r).2.1 = (rwL2 t n kd f e a r2).2.1 ∧ (rwL t n kd f e a r).2.2.1 = (rwL2 t n kd f e a r2).2.2.1 ∧
    RwR (rwL t n kd f e a r).2.2.2 (rwL2 t n kd f e a r2).2.2.2 kd (rwL t n kd f e a r).2.1 ∧ (∀ a', a' ≠ kd → (rwL t n kd f e a r).2.2.2 a' = r a') ∧ (∀ a' j, a' ≠ kd → j < 16 → (rwL2 t n kd f e a r2).2.2.2 (16 * a' + j) = r2 (16 * a' + j)) ∧ e ≤ (rwL t n kd f e a r).2.1
  | 0, e, a, r, r2, _, h => ⟨rfl, rfl, rfl, h, fun _ _ => rfl, fun _ _ _ _ => rfl, Nat.le_refl _⟩
  | f + 1, e, a, r, r2, hf, h => by
    rw [rwL, rwL2]
    split
    · exact ⟨rfl, rfl, rfl, h, fun _ _ => rfl, fun _ _ _ _ => rfl, Nat.le_refl _⟩
    · split
      · exact ⟨rfl, rfl, rfl, h, fun _ _ => rfl, fun _ _ _ _ => rfl, Nat.le_refl _⟩
      · rename_i h2
        have hv := en_lt t n a
        have hR : RwR (vp_updL r kd (r kd ||| lN ((enF t n a).1 * 16 ^ e))) (upN r2 (16 * kd + e) (enF t n a).1) kd (e + 1) := by
          refine ⟨fun j hj => ?_, fun j hj => ?_⟩
          · rw [pk_uLs, lane_put _ _ _ _ hv (by omega)]
            by_cases hje : j = e
            · subst hje
              rw [upN_s, if_pos rfl, h.2 j (Nat.le_refl _), Nat.zero_or]
              exact ⟨rfl, h2⟩
            · rw [upN_n (by omega), if_neg hje, Nat.or_zero]
              exact h.1 j (by omega)
          · rw [pk_uLs, lane_put _ _ _ _ hv (by omega), if_neg (by omega), Nat.or_zero]
            exact h.2 j (by omega)
        obtain ⟨i1, i2, i3, i4, i5, i6, i7⟩ := rwL_eq (t := t) (n := n) (kd := kd) f (e + 1) (enF t n a).2 _ _ (by omega) hR
        refine ⟨i1, i2, i3, i4, fun a' ha' => ?_, fun a' j ha' hj => ?_, by omega⟩
        · rw [i5 a' ha', pk_uLn ha']
        · rw [i6 a' j ha' hj, upN_n (by omega)]
theorem rwL_le {t : Nat → Nat} {n kd : Nat} : ∀ (f e a : Nat) (r : Nat → Int64), (rwL t n kd f e a r).2.1 ≤ e + f ∧ ((rwL t n kd f e a r).1 = true → 0 < f → (kd ≠ 0 → (rwL t n kd f e a r).2.1 = e + f) ∧ 0 < (rwL t n kd f e a r).2.1)
  | 0, e, a, r => ⟨Nat.le_refl _, fun _ h => by omega⟩
  | f + 1, e, a, r => by
    rw [rwL]
    split
    · rename_i h
      exact ⟨by show e ≤ e + (f + 1); omega, fun _ _ => ⟨fun z => absurd h.1.1 z, h.1.2⟩⟩
    · split
      · exact ⟨by show e ≤ e + (f + 1); omega, fun z => by cases z⟩
      · obtain ⟨i1, i2⟩ := rwL_le (t := t) (n := n) (kd := kd) f (e + 1) (enF t n a).2 (vp_updL r kd (r kd ||| lN ((enF t n a).1 * 16 ^ e)))
        refine ⟨by omega, fun h1 _ => ?_⟩
        by_cases hf : f = 0
        · subst hf
          refine ⟨fun _ => ?_, ?_⟩
          · show e + 1 = _; omega
          · show 0 < e + 1; omega
        · have := i2 h1 (by omega)
          exact ⟨fun z => by have := this.1 z; omega, this.2⟩
theorem rwF_eq {t : Nat → Nat} {n kd a : Nat} {r : Nat → Int64} {r2 : Nat → Nat} {c : Nat} (hc : c ≤ 16) (h0 : ∀ j, lane (r kd) j = 0) :
    (rwF t n kd a r c).1 = (rwF2 t n kd a r2 c).1 ∧ (rwF t n kd a r c).2.1 = (rwF2 t n kd a r2 c).2.1 ∧ (rwF t n kd a r c).2.2.2 = (rwF2 t n kd a r2 c).2.2.2 ∧ (rwF t n kd a r c).2.2.2 ≤ 16 ∧ (kd ≠ 0 → (rwF t n kd a r c).1 = true → (rwF t n kd a r c).2.2.2 = c ∨ c = 0) ∧
    ((rwF t n kd a r c).1 = true → RwR (rwF t n kd a r c).2.2.1 (rwF2 t n kd a r2 c).2.2.1 kd (rwF t n kd a r c).2.2.2) ∧ (∀ a', a' ≠ kd → (rwF t n kd a r c).2.2.1 a' = r a') ∧ (∀ a' j, a' ≠ kd → j < 16 → (rwF2 t n kd a r2 c).2.2.1 (16 * a' + j) = r2 (16 * a' + j)) := by
  unfold rwF rwF2
  split
  · exact ⟨rfl, rfl, rfl, hc, (fun _ h => by cases h), (fun h => by cases h), fun _ _ => rfl, fun _ _ _ _ => rfl⟩
  · split
    · exact ⟨rfl, rfl, rfl, hc, (fun _ h => by cases h), (fun h => by cases h), fun _ _ => rfl, fun _ _ _ _ => rfl⟩
    · have hm : (if kd = 0 then 16 else c) ≤ 16 := by split <;> omega
      have hk : kd ≠ 0 → (if kd = 0 then 16 else c) = c := fun z => if_neg z
      generalize (if kd = 0 then 16 else c) = mo at *
      obtain ⟨i1, i2, i3, i4, i5, i6, i7⟩ := rwL_eq (t := t) (n := n) (kd := kd) mo 0 (a + 2) r r2 (by omega) ⟨fun j hj => by omega, fun j _ => h0 j⟩
      obtain ⟨l1, l2⟩ := rwL_le (t := t) (n := n) (kd := kd) mo 0 (a + 2) r
      rw [← i1, ← i2, ← i3]
      split
      · rename_i h1
        refine ⟨rfl, rfl, rfl, by show (rwL t n kd mo 0 (a + 2) r).2.1 ≤ 16; omega, fun hz _ => ?_, fun _ => i4, i5, i6⟩
        show (rwL t n kd mo 0 (a + 2) r).2.1 = c ∨ c = 0
        by_cases hmz : mo = 0
        · have := hk hz; omega
        · have := (l2 h1 (by omega)).1 hz
          have := hk hz
          omega
      · exact ⟨rfl, rfl, rfl, hc, (fun _ h => by cases h), (fun h => by cases h), i5, i6⟩
theorem rdF_eq {t : Nat → Nat} {n : Nat} : ∀ (f kd a : Nat) (r : Nat → Int64) (r2 : Nat → Nat) (k c : Nat), kd + f = 7 → c ≤ 16 → (0 < kd → 0 < c) → (∀ a', a' < kd → RwR r r2 a' c) → (∀ a' j, kd ≤ a' → a' < 7 → lane (r a') j = 0) →
    (rdF t n f kd a r k c).1 = (rdF2 t n f kd a r2 c).1 ∧ (rdF t n f kd a r k c).2.1 = (rdF2 t n f kd a r2 c).2.1 ∧ ((rdF t n f kd a r k c).1 = true → (rdF t n f kd a r k c).2.2.2.1 = (rdF2 t n f kd a r2 c).2.2.2.1 ∧ (rdF t n f kd a r k c).2.2.2.2 = (rdF2 t n f kd a r2 c).2.2.2.2 ∧ (rdF t n f kd a r k c).2.2.2.1 ≤ 7 ∧ (rdF t n f kd a r k c).2.2.2.2 ≤ 16 ∧
      ∀ a', a' < (rdF t n f kd a r k c).2.2.2.1 → RwR (rdF t n f kd a r k c).2.2.1 (rdF2 t n f kd a r2 c).2.2.1 a' (rdF t n f kd a r k c).2.2.2.2)
  | 0, kd, a, r, r2, k, c, _, _, _, _, _ => ⟨rfl, rfl, fun h => by cases h⟩
  | f + 1, kd, a, r, r2, k, c, hf, hc, hp, hR, h0 => by
    obtain ⟨j1, j2, j3, j4, j5, j6, j7, j8⟩ := rwF_eq (t := t) (n := n) (kd := kd) (a := a) (r := r) (r2 := r2) (c := c) hc (fun j => h0 kd j (Nat.le_refl _) (by omega))
    rw [rdF, rdF2, ← j1, ← j2, ← j3]
    by_cases h1 : (rwF t n kd a r c).1 = false
    · rw [if_pos h1, if_pos h1]
      exact ⟨rfl, rfl, fun h => by cases h⟩
    · rw [if_neg h1, if_neg h1]
      have h1 : (rwF t n kd a r c).1 = true := by
        cases h : (rwF t n kd a r c).1
        · exact absurd h h1
        · rfl
      have ec : kd ≠ 0 → (rwF t n kd a r c).2.2.2 = c := by
        intro z
        rcases j5 z h1 with h | h
        · exact h
        · have := hp (by omega); omega
      have hall : ∀ a', a' < kd + 1 → RwR (rwF t n kd a r c).2.2.1 (rwF2 t n kd a r2 c).2.2.1 a' (rwF t n kd a r c).2.2.2 := by
        intro a' ha'
        by_cases e : a' = kd
        · subst e; exact j6 h1
        · have g := hR a' (by omega)
          have e2 := ec (by omega)
          rw [e2]
          refine ⟨fun j hj => ?_, fun j hj => ?_⟩
          · rw [j7 a' e, j8 a' j e (by omega)]; exact g.1 j hj
          · rw [j7 a' e]; exact g.2 j hj
      by_cases h2 : (rwF t n kd a r c).2.1 = n
      · rw [if_pos h2, if_pos h2]
        exact ⟨rfl, rfl, fun _ => ⟨rfl, rfl, by show kd + 1 ≤ 7; omega, j4, hall⟩⟩
      · rw [if_neg h2, if_neg h2]
        refine rdF_eq f (kd + 1) _ _ _ (kd + 1) _ (by omega) j4 (fun _ => ?_) hall (fun a' j h3 h4 => ?_)
        · -- some character was read
          by_cases z : kd = 0
          · have hmo : 0 < (if kd = 0 then 16 else c) := by rw [if_pos z]; decide
            have : (rwF t n kd a r c).2.2.2 ≠ 0 := by
              intro e9
              unfold rwF at h1 e9
              generalize (if kd = 0 then 16 else c) = mo at h1 e9 hmo
              split at h1
              · cases h1
              · rename_i q1
                rw [if_neg q1] at e9
                split at h1
                · cases h1
                · rename_i q2
                  rw [if_neg q2] at e9
                  split at h1
                  · rename_i q3
                    rw [if_pos q3] at e9
                    have := ((rwL_le (t := t) (n := n) (kd := kd) mo 0 (a + 2) r).2 q3 hmo).2
                    have e9 : (rwL t n kd mo 0 (a + 2) r).2.1 = 0 := e9
                    omega
                  · cases h1
            omega
          · rw [ec z]; exact hp (by omega)
        · rw [j7 a' (by omega)]; exact h0 a' j (by omega) h4
end PAR
