section COM
def coSg (p : Nat → Bool) (gr : Nat → Nat) : Nat → (Nat → Nat) × Nat
  | 0 => (gr, 0)
  | s + 1 => if p s = true then (if (coSg p gr s).2 < 7 then (upN (coSg p gr s).1 (coSg p gr s).2 s, (coSg p gr s).2 + 1) else coSg p gr s) else coSg p gr s
def coQg (p : Nat → Bool) (os0 : Nat → Nat) : Nat → Nat × (Nat → Nat)
  | 0 => (0, os0)
  | i + 1 => if i = 0 then (0, os0) else if p (2 * i) then ((coQg p os0 i).1 + 1, upN (coQg p os0 i).2 (coQg p os0 i).1 (2 * i)) else coQg p os0 i
abbrev flt (p : Nat → Bool) (n : Nat) : List Nat := (List.range n).filter p
theorem flt_s (p : Nat → Bool) (n : Nat) : flt p (n + 1) = flt p n ++ (if p n then [n] else []) := by
  show (List.range (n + 1)).filter p = _
  rw [List.range_succ, List.filter_append]
  congr 1
  rw [List.filter_cons, List.filter_nil]
theorem flt_le (p : Nat → Bool) (n : Nat) : ∀ d, (flt p n).length ≤ (flt p (n + d)).length
  | 0 => Nat.le_refl _
  | d + 1 => by
    have := flt_le p n d
    rw [show n + (d + 1) = (n + d) + 1 by omega, flt_s, List.length_append]
    omega
theorem ltF_app {l m : List Nat} {i : Nat} (h : i < l.length) : ltF (l ++ m) i = ltF l i := by
  unfold ltF
  rw [List.getD_eq_getElem?_getD, List.getD_eq_getElem?_getD, List.getElem?_append_left h]
theorem ltF_last (l : List Nat) (s : Nat) : ltF (l ++ [s]) l.length = s := by
  unfold ltF
  simp
theorem coS_list {p : Nat → Bool} {gr : Nat → Nat} (h7 : (flt p 128).length ≤ 7) : ∀ n, n ≤ 128 → (coSg p gr n).2 = (flt p n).length ∧ ∀ i, i < (flt p n).length → (coSg p gr n).1 i = ltF (flt p n) i
  | 0, _ => ⟨rfl, fun i hi => absurd hi (Nat.not_lt_zero _)⟩
  | n + 1, hn => by
    obtain ⟨ih1, ih2⟩ := coS_list h7 n (by omega)
    rw [coSg]
    by_cases hp : p n = true
    · have e : flt p (n + 1) = flt p n ++ [n] := by rw [flt_s, if_pos hp]
      have hl : (flt p n).length < 7 := by
        have := flt_le p (n + 1) (127 - n)
        rw [show n + 1 + (127 - n) = 128 by omega, e, List.length_append] at this
        simp only [List.length_singleton] at this
        omega
      rw [if_pos hp, if_pos (show (coSg p gr n).2 < 7 by rw [ih1]; exact hl), e]
      refine ⟨by rw [ih1, List.length_append]; rfl, fun i hi => ?_⟩
      rw [List.length_append] at hi
      simp only [List.length_singleton] at hi
      dsimp only
      by_cases hi2 : i = (flt p n).length
      · rw [hi2, ih1, upN_s, ltF_last]
      · rw [upN_n (by omega), ltF_app (by omega)]
        exact ih2 i (by omega)
    · have e : flt p (n + 1) = flt p n := by rw [flt_s, if_neg hp, List.append_nil]
      rw [if_neg hp, e]
      exact ⟨ih1, ih2⟩
theorem coQ_list {p q : Nat → Bool} {os0 : Nat → Nat} (h0 : p 0 = false) (h1 : ∀ i, i < 64 → p (2 * i + 1) = false) (hq : ∀ i, 0 < i → i < 64 → q (2 * i) = p (2 * i)) : ∀ n, n ≤ 64 → (coQg q os0 n).1 = (flt p (2 * n)).length ∧ ∀ i, i < (flt p (2 * n)).length → (coQg q os0 n).2 i = ltF (flt p (2 * n)) i
  | 0, _ => ⟨rfl, fun i hi => absurd hi (Nat.not_lt_zero _)⟩
  | n + 1, hn => by
    obtain ⟨ih1, ih2⟩ := coQ_list h0 h1 hq n (by omega)
    have e : flt p (2 * (n + 1)) = flt p (2 * n) ++ (if p (2 * n) then [2 * n] else []) := by
      rw [show 2 * (n + 1) = (2 * n + 1) + 1 by omega, flt_s, h1 n (by omega), flt_s]
      simp
    rw [coQg]
    by_cases hz : n = 0
    · subst hz
      rw [if_pos rfl, e, h0]
      exact ⟨rfl, fun i hi => absurd hi (Nat.not_lt_zero _)⟩
    · rw [if_neg hz, hq n (by omega) (by omega), e]
      by_cases hp : p (2 * n) = true
      · rw [if_pos hp, if_pos hp]
        refine ⟨by rw [ih1, List.length_append]; rfl, fun i hi => ?_⟩
        rw [List.length_append] at hi
        simp only [List.length_singleton] at hi
        dsimp only
        by_cases hi2 : i = (flt p (2 * n)).length
        · rw [hi2, ih1, upN_s, ltF_last]
        · rw [upN_n (by omega), ltF_app (by omega)]
          exact ih2 i (by omega)
      · rw [if_neg hp, if_neg hp, List.append_nil]
        exact ⟨ih1, ih2⟩
/-- what both write of what most have in common: P tells which sets are taken -/
theorem com_ok {k n : Nat} {nu : Nat → Nat} (hk3 : 3 ≤ k) (hk : k ≤ 7) (hn : ∀ i, i < n → nu i < tcount k) {P q r : Nat → Bool} (hP1 : ∀ s, s < 128 → P s = true → okSp k s = true) (hP2 : ∀ s, s < 128 → P s = true → n < 2 * shQ k nu (nI s) n)
    (hr : ∀ s, s < 128 → r s = P s) (hq : ∀ i, 0 < i → i < 64 → q (2 * i) = P (2 * i)) (gr sg : Nat → Nat) :
    (coQg q zz 64).1 ≤ 8 ∧ ∃ z, wrA (coQg q zz 64).2 (coQg q zz 64).1 k 100 zz zz = some z ∧ z.1 = (flF (coSg r gr 128).1 (coSg r gr 128).2 k sg).2 ∧ z.1 ≤ 24 ∧ ∀ j, j < z.1 → z.2.1 j = (flF (coSg r gr 128).1 (coSg r gr 128).2 k sg).1 j ∧ z.2.1 j < 65536 := by
  have e1 : (cnd k).filter P = flt P 128 := by
    unfold cnd
    rw [List.filter_filter]
    apply List.filter_congr
    intro s hs
    have hs := List.mem_range.mp hs
    cases hp : P s
    · simp
    · rw [hP1 s hs hp]; rfl
  have e2 : flt r 128 = flt P 128 := List.filter_congr (fun s hs => hr s (List.mem_range.mp hs))
  have hd := dfs_use (p := P) (cnd k) [] (df_ok hk3 hk) (fun s t hs ht => by
    have a : ∀ s, (s ∈ ([] : List Nat) ∨ (s ∈ cnd k ∧ P s = true)) → s < 128 ∧ P s = true := by
      intro s hs
      rcases hs with hs | hs
      · cases hs
      · exact ⟨List.mem_range.mp (List.mem_filter.mp hs.1).1, hs.2⟩
    obtain ⟨s1, s2⟩ := a s hs
    obtain ⟨t1, t2⟩ := a t ht
    exact sh_cpt hk3 hk hn s1 t1 (hP2 s s1 s2) (hP2 t t1 t2))
  rw [List.nil_append, e1, Bool.and_eq_true] at hd
  have h7 := Nat.le_of_ble_eq_true hd.2
  have h0 : P 0 = false := by
    cases hp : P 0
    · rfl
    · have := hP1 0 (by decide) hp
      have h9 : okSp k 0 = false := by
        have : onS 0 8 = 0 := by decide
        unfold okSp
        rw [this]
        rfl
      rw [h9] at this
      cases this
  have h1 : ∀ i, i < 64 → P (2 * i + 1) = false := by
    intro i hi
    cases hp : P (2 * i + 1)
    · rfl
    · have := hP1 (2 * i + 1) (by omega) hp
      unfold okSp at this
      simp only [Bool.and_eq_true] at this
      have h3 := Nat.eq_of_beq_eq_true this.2.2.1
      exfalso
      have h4 := congrArg (fun n => n.testBit 0) h3
      simp only [Nat.testBit_and, Nat.testBit_xor, Nat.zero_testBit] at h4
      have b1 : (2 * i + 1).testBit 0 = true := by simp [Nat.testBit_zero]
      have b2 : (2 ^ k - 2).testBit 0 = false := by
        rw [Nat.testBit_zero]
        have : 2 ^ k = 2 * 2 ^ (k - 1) := by rw [← Nat.pow_succ']; congr 1; omega
        rw [decide_eq_false]; omega
      have b3 : (4294967295 : Nat).testBit 0 = true := by decide
      rw [b1, b2, b3] at h4
      cases h4
  obtain ⟨c1, c2⟩ := coS_list (p := r) (gr := gr) (by rw [e2]; exact h7) 128 (Nat.le_refl _)
  obtain ⟨d1, d2⟩ := coQ_list (p := P) (q := q) (os0 := zz) h0 h1 hq 64 (Nat.le_refl _)
  rw [e2] at c1 c2
  have d1 : (coQg q zz 64).1 = (flt P 128).length := d1
  have d2 : ∀ i, i < (flt P 128).length → (coQg q zz 64).2 i = ltF (flt P 128) i := d2
  refine ⟨by omega, wrC_use hd.1 c1 d1 (fun i hi => c2 i (by omega)) (fun i hi => d2 i (by omega))⟩
end COM
