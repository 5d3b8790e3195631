section TB2
variable {l : Launch}
/-! the library's own: Arrays.fill, Integer.bitCount -/
theorem fillL_go (hs : l.stackTraces = false) (f : Nat → Int64) (N : Nat) (hN : N < 1000) (v : Int64) : pm_Met l mJ7_fill_d0a16 1 0 0 [.ref 0, .long v] [.inl (.long, N, .inr (.inl f))] (isO none [.inl (.long, N, .inr (.inl (fun j => if j < N then v else f j)))]) := by
  refine pm_Met.mk kJ7_fill_d0a16 hs (pm_J.run [6] 20 (fun K hK => hK _ ?_))
  have key : pm_J l mJ7_fill_d0a16 iJ7_fill_d0a16 1 0 0 1 (isO none [.inl (.long, N, .inr (.inl (fun j => if j < N then v else f j)))]) 0 0 (6, [some (.ref 0), some (.long v), none, some (.int (nI 0)), some (.int (nI N))], [], [.inl (.long, N, .inr (.inl (fun j => if j < 0 then v else f j)))]) := by
    refine pm_up (b := N) (P := fun i => pm_J l mJ7_fill_d0a16 iJ7_fill_d0a16 1 0 0 1 (isO none [.inl (.long, N, .inr (.inl (fun j => if j < N then v else f j)))]) 0 0 (6, [some (.ref 0), some (.long v), none, some (.int (nI i)), some (.int (nI N))], [], [.inl (.long, N, .inr (.inl (fun j => if j < i then v else f j)))])) 0 (Nat.zero_le _) ?_ (fun i h1 h2 ih => ?_)
    · refine pm_J.run [6] 40 (fun K hK => br_t (nI_le (Nat.le_refl _) (by omega)) (hK _ ?_))
      exact pm_J.rv ⟨rfl, rfl⟩
    · refine pm_J.run [6] 40 (fun K hK => br_f (nI_ge h2 (by omega)) (And.intro (vp_in_nI h2 (by omega)) (hK _ ?_)))
      have e : (fun j => if j < i + 1 then v else f j) = vp_updL (fun j => if j < i then v else f j) (nI i).toNatClampNeg v := by
        rw [nI_clamp (by omega)]
        funext j
        by_cases hj : j = i
        · subst hj; rw [pk_uLs, if_pos (by omega)]
        · rw [pk_uLn hj]
          by_cases h3 : j < i
          · rw [if_pos h3, if_pos (by omega)]
          · rw [if_neg h3, if_neg (by omega)]
      rw [e, ← nI_add i 1] at ih
      exact ih
  have e0 : (fun j => if j < 0 then v else f j) = f := by funext j; simp
  rw [e0] at key
  exact key
theorem fillI_go (hs : l.stackTraces = false) (f : Nat → Nat) (N : Nat) (hN : N < 1000) (v : Nat) : pm_Met l mJ7_fill_53178 1 0 0 [.ref 0, .int (nI v)] [.inl (.int, N, .inl (nA f))] (isO none [.inl (.int, N, .inl (nA (fun j => if j < N then v else f j)))]) := by
  refine pm_Met.mk kJ7_fill_53178 hs (pm_J.run [5] 20 (fun K hK => hK _ ?_))
  have key : pm_J l mJ7_fill_53178 iJ7_fill_53178 1 0 0 1 (isO none [.inl (.int, N, .inl (nA (fun j => if j < N then v else f j)))]) 0 0 (5, [some (.ref 0), some (.int (nI v)), some (.int (nI 0)), some (.int (nI N))], [], [.inl (.int, N, .inl (nA (fun j => if j < 0 then v else f j)))]) := by
    refine pm_up (b := N) (P := fun i => pm_J l mJ7_fill_53178 iJ7_fill_53178 1 0 0 1 (isO none [.inl (.int, N, .inl (nA (fun j => if j < N then v else f j)))]) 0 0 (5, [some (.ref 0), some (.int (nI v)), some (.int (nI i)), some (.int (nI N))], [], [.inl (.int, N, .inl (nA (fun j => if j < i then v else f j)))])) 0 (Nat.zero_le _) ?_ (fun i h1 h2 ih => ?_)
    · refine pm_J.run [5] 40 (fun K hK => br_t (nI_le (Nat.le_refl _) (by omega)) (hK _ ?_))
      exact pm_J.rv ⟨rfl, rfl⟩
    · refine pm_J.run [5] 40 (fun K hK => br_f (nI_ge h2 (by omega)) (And.intro (vp_in_nI h2 (by omega)) (hK _ ?_)))
      have e : nA (fun j => if j < i + 1 then v else f j) = upd (nA (fun j => if j < i then v else f j)) (nI i).toNatClampNeg (nI v) := by
        rw [nI_clamp (by omega), nA_upd]
        congr 1
        funext j
        by_cases hj : j = i
        · subst hj; rw [upN_s, if_pos (by omega)]
        · rw [upN_n hj]
          by_cases h3 : j < i
          · rw [if_pos h3, if_pos (by omega)]
          · rw [if_neg h3, if_neg (by omega)]
      rw [e, ← nI_add i 1] at ih
      exact ih
  have e0 : (fun j => if j < 0 then v else f j) = f := by funext j; simp
  rw [e0] at key
  exact key
def popc (s : Nat) : Nat := s % 2 + s / 2 % 2 + s / 4 % 2 + s / 8 % 2
set_option maxRecDepth 10000 in
theorem c_bitCount (hs : l.stackTraces = false) (w : List pm_E) (s : Nat) (h : s < 16) : pm_Met l mJ6_bitCount_0f7a4 1 0 0 [.int (nI s)] w (isI (nI (popc s)) w) := by
  refine pm_Met.mk kJ6_bitCount_0f7a4 hs (pm_J.run [] 60 (fun K hK => hK _ ?_))
  refine pm_J.ri ⟨?_, rfl⟩
  congr 3
  clear hK
  revert s
  decide +kernel
/-! Table -/
theorem c_clear (hs : l.stackTraces = false) (r : Nat → Int64) (wt : Nat → Nat) (k c : Nat) : pm_Met l mX2_clear 2 0 0 [.ref 0] (tbW r wt k c) (isO none (tbW (fun j => if j < 7 then 0 else r j) (fun j => if j < 16 then 1 else wt j) 0 0)) := by
  refine pm_Met.mk kX2_clear hs (pm_J.run [] 20 (fun K hK => hK _ ?_))
  refine pm_J.cls [1] (fillL_go hs r 7 (by decide) (lN 0)) gRX2_26 vJ7_fill_d0a16 ?_
  refine pm_J.run [] 20 (fun K hK => hK _ ?_)
  refine pm_J.cls [2] (fillI_go hs wt 16 (by decide) 1) gRX2_32 vJ7_fill_53178 ?_
  exact pm_J.rv ⟨rfl, rfl⟩
theorem c_put (hs : l.stackTraces = false) (r : Nat → Int64) (wt : Nat → Nat) (k c a j s : Nat) (ha : a < 7) (hj : j < 16) (hsv : s < 16) : pm_Met l mX2_put 1 0 0 [.ref 0, .int (nI a), .int (nI j), .int (nI s)] (tbW r wt k c) (isO none (tbW (vp_updL r a (r a ||| lN (s * 16 ^ j))) wt k c)) := by
  refine pm_Met.mk kX2_put hs (pm_J.run [] 20 (fun K hK => And.intro (vp_in_nI ha (by decide)) (And.intro (vp_in_nI ha (by decide)) (hK _ ?_))))
  refine pm_J.rv ⟨rfl, ?_⟩
  have e : (nI s).toInt64 <<< ((nI 4 * nI j).toInt64 &&& 63) = lN (s * 16 ^ j) := by
    rw [nI_l (by omega), pk_mul, wb_shl _ (by omega), Nat.pow_mul]
  rw [← e]
  have e2 : (nI a).toNatClampNeg = a := nI_clamp (by omega)
  have : tbW (vp_updL r a (r a ||| (nI s).toInt64 <<< ((nI 4 * nI j).toInt64 &&& 63))) wt k c = tbW (vp_updL r (nI a).toNatClampNeg (r (nI a).toNatClampNeg ||| (nI s).toInt64 <<< ((nI 4 * nI j).toInt64 &&& 63))) wt k c := by rw [e2]
  rw [this]
  rfl
def wsum (x : Int64) (wt : Nat → Nat) : Nat → Nat
  | 0 => 0
  | c + 1 => wsum x wt c + lane x c * wt c
theorem c_weighed (hs : l.stackTraces = false) (r : Nat → Int64) (wt : Nat → Nat) (k c : Nat) (hc : c ≤ 16) (x : Int64) : pm_Met l mX2_weighed 2 0 0 [.ref 0, .long x] (tbW r wt k c) (isI (nI (wsum x wt c)) (tbW r wt k c)) := by
  refine pm_Met.mk kX2_weighed hs (pm_J.run [5] 20 (fun K hK => hK _ ?_))
  refine pm_up (b := c) (P := fun i => pm_J l mX2_weighed iX2_weighed 2 0 0 3 (isI (nI (wsum x wt c)) (tbW r wt k c)) 0 0 (5, [some (.ref 0), some (.long x), none, some (.int (nI (wsum x wt i))), some (.int (nI i))], [], tbW r wt k c)) 0 (Nat.zero_le _) ?_ (fun i h1 h2 ih => ?_)
  · refine pm_J.run [5] 40 (fun K hK => br_t (nI_le (Nat.le_refl _) (by omega)) (hK _ ?_))
    exact pm_J.ri ⟨rfl, rfl⟩
  · refine pm_J.run [5] 40 (fun K hK => br_f (nI_ge h2 (by omega)) (hK _ ?_))
    refine pm_J.cl [0, 1, 2] (c_bitsOf hs (tbW r wt k c) x i (by omega)) gRX2_35 vX2_bitsOf ?_
    refine pm_J.run [5] 40 (fun K hK => And.intro (vp_in_nI (by omega) (by decide)) (hK _ ?_))
    have e : nI (wsum x wt (i + 1)) = nI (wsum x wt i) + nI (lane x i) * nI (wt (nI i).toNatClampNeg) := by
      rw [nI_clamp (by omega), pk_mul, nI_add]; rfl
    rw [e, ← nI_add i 1] at ih
    exact ih
def meets (r : Nat → Int64) (j s : Nat) : Nat → Bool
  | 0 => true
  | k + 1 => meets r j s k && ((lane (r k) j &&& s) != 0)
theorem meets_no {r : Nat → Int64} {j s i : Nat} (h : (lane (r i) j &&& s) = 0) : ∀ k, i < k → meets r j s k = false
  | 0, hk => by omega
  | k + 1, hk => by
    unfold meets
    rcases Nat.lt_or_ge i k with h1 | h1
    · rw [meets_no h k h1]; rfl
    · have : i = k := by omega
      subst this
      simp [h]
theorem c_meets (hs : l.stackTraces = false) (r : Nat → Int64) (wt : Nat → Nat) (k c j s : Nat) (hk : k ≤ 7) (hj : j < 16) (hsv : s < 16) : pm_Met l mX2_meetsEveryKind 3 0 0 [.ref 0, .int (nI s), .int (nI j)] (tbW r wt k c) (isI (nI (b2n (meets r j s k))) (tbW r wt k c)) := by
  refine pm_Met.mk kX2_meetsEveryKind hs (pm_J.run [2] 20 (fun K hK => hK _ ?_))
  have key : meets r j s 0 = true → pm_J l mX2_meetsEveryKind iX2_meetsEveryKind 3 0 0 3 (isI (nI (b2n (meets r j s k))) (tbW r wt k c)) 0 0 (2, [some (.ref 0), some (.int (nI s)), some (.int (nI j)), some (.int (nI 0))], [], tbW r wt k c) := by
    refine pm_up (b := k) (P := fun i => meets r j s i = true → pm_J l mX2_meetsEveryKind iX2_meetsEveryKind 3 0 0 3 (isI (nI (b2n (meets r j s k))) (tbW r wt k c)) 0 0 (2, [some (.ref 0), some (.int (nI s)), some (.int (nI j)), some (.int (nI i))], [], tbW r wt k c)) 0 (Nat.zero_le _) (fun hm => ?_) (fun i h1 h2 ih hm => ?_)
    · refine pm_J.run [2] 40 (fun K hK => br_t (nI_le (Nat.le_refl _) (by omega)) (hK _ ?_))
      exact pm_J.ri ⟨by rw [hm]; rfl, rfl⟩
    · refine pm_J.run [2] 40 (fun K hK => br_f (nI_ge h2 (by omega)) (hK _ ?_))
      refine pm_J.cl [0, 1, 2] (c_setOf hs r wt k c i j (by omega) hj) gRX2_61 vX2_setOf ?_
      have hl := lane_lt (r i) j
      have hlt : lane (r i) j &&& s < 2 ^ 31 := Nat.lt_of_le_of_lt Nat.and_le_left (by omega)
      refine pm_J.run [2] 40 (fun K hK => And.intro (fun h => hK _ ?_) (fun h => hK _ ?_))
      · have h' : ¬ (nI (lane (r i) j) &&& nI s) = 0 := h
        rw [nx_and, nI_z hlt] at h'
        have := ih (by unfold meets; rw [hm]; simp [h'])
        rw [← nI_add i 1] at this
        exact this
      · have h' : ¬ ¬ (nI (lane (r i) j) &&& nI s) = 0 := h
        rw [nx_and, nI_z hlt] at h'
        exact pm_J.ri ⟨by rw [meets_no (Classical.not_not.mp h') k h2]; rfl, rfl⟩
  exact key rfl
end TB2
