section TB3
variable {l : Launch}
theorem gmin_RX2_55 : ∀ z ∈ [Cond.methodLink RX2 55 Lib.Math.min.name, Cond.static Lib.Math.min.name, Cond.initialized "java/lang/Math", Cond.code Lib.Math.min.name Lib.Math.min.code 2 (some .int)], z ∈ pm_tb := by decide +kernel
theorem gmax_RX2_64 : ∀ z ∈ [Cond.methodLink RX2 64 Lib.Math.max.name, Cond.static Lib.Math.max.name, Cond.initialized "java/lang/Math", Cond.code Lib.Math.max.name Lib.Math.max.code 2 (some .int)], z ∈ pm_tb := by decide +kernel
theorem nI_min {a b : Nat} (ha : a < 2 ^ 31) (hb : b < 2 ^ 31) : (if nI b < nI a then nI b else nI a) = nI (min a b) := by
  by_cases h : b < a
  · rw [if_pos ((nI_ltI hb ha).mpr h), Nat.min_eq_right (by omega)]
  · rw [if_neg (fun z => h ((nI_ltI hb ha).mp z)), Nat.min_eq_left (by omega)]
theorem nI_max {a b : Nat} (ha : a < 2 ^ 31) (hb : b < 2 ^ 31) : (if nI a < nI b then nI b else nI a) = nI (max a b) := by
  by_cases h : a < b
  · rw [if_pos ((nI_ltI ha hb).mpr h), Nat.max_eq_right (by omega)]
  · rw [if_neg (fun z => h ((nI_ltI ha hb).mp z)), Nat.max_eq_left (by omega)]
def fewS (r : Nat → Int64) (j k : Nat) : Nat → Nat
  | 0 => 4
  | s + 1 => if s = 0 then 4 else if meets r j s k then min (fewS r j k s) (popc s) else fewS r j k s
theorem fewS_le (r : Nat → Int64) (j k : Nat) : ∀ s, fewS r j k s ≤ 4
  | 0 => Nat.le_refl _
  | s + 1 => by
    have := fewS_le r j k s
    unfold fewS
    split
    · omega
    · split
      · exact Nat.le_trans (Nat.min_le_left _ _) this
      · exact this
theorem popc_pos {s : Nat} (h0 : 0 < s) (h : s < 16) : 0 < popc s := by
  have hq : ∀ s, s < 16 → 0 < s → 0 < popc s := by decide
  exact hq s h h0
theorem fewS_pos (r : Nat → Int64) (j k : Nat) : ∀ s, s ≤ 16 → 1 ≤ fewS r j k s
  | 0, _ => (by decide : 1 ≤ 4)
  | s + 1, h => by
    have := fewS_pos r j k s (by omega)
    unfold fewS
    split
    · omega
    · split
      · have := popc_pos (s := s) (by omega) (by omega)
        omega
      · exact this
theorem c_fewest (hs : l.stackTraces = false) (r : Nat → Int64) (wt : Nat → Nat) (k c j : Nat) (hk : k ≤ 7) (hj : j < 16) : pm_Met l mX2_fewestStates 4 0 0 [.ref 0, .int (nI j)] (tbW r wt k c) (isI (nI (fewS r j k 16)) (tbW r wt k c)) := by
  refine pm_Met.mk kX2_fewestStates hs (pm_J.run [4] 20 (fun K hK => hK _ ?_))
  refine pm_up (b := 16) (P := fun i => pm_J l mX2_fewestStates iX2_fewestStates 4 0 0 3 (isI (nI (fewS r j k 16)) (tbW r wt k c)) 0 0 (4, [some (.ref 0), some (.int (nI j)), some (.int (nI (fewS r j k i))), some (.int (nI i))], [], tbW r wt k c)) 1 (by decide) ?_ (fun i h1 h2 ih => ?_)
  · refine pm_J.run [4] 40 (fun K hK => br_t (nI_lt (a := 15) (b := 16) (by decide) (by decide)) (hK _ ?_))
    exact pm_J.ri ⟨rfl, rfl⟩
  · refine pm_J.run [4] 40 (fun K hK => br_f (nI_nlt (a := 15) (b := i) (by omega) (by decide)) (hK _ ?_))
    refine pm_J.cl [0, 1, 2] (c_meets hs r wt k c j i hk hj (by omega)) gRX2_46 vX2_meetsEveryKind ?_
    have ef : fewS r j k (i + 1) = if meets r j i k then min (fewS r j k i) (popc i) else fewS r j k i := by rw [fewS, if_neg (show ¬ i = 0 by omega)]
    rw [← nI_add i 1, ef] at ih
    have hf := fewS_le r j k i
    refine pm_J.run [4] 40 (fun K hK => And.intro (fun h => hK _ ?_) (fun h => hK _ ?_))
    · have h' : nI (b2n (meets r j i k)) = 0 := h
      cases hm : meets r j i k with
      | true => rw [hm] at h'; exact absurd h' (by decide)
      | false =>
        rw [hm, if_neg (by decide)] at ih
        exact ih
    · have h' : ¬ nI (b2n (meets r j i k)) = 0 := h
      cases hm : meets r j i k with
      | false => rw [hm] at h'; exact absurd (by decide) h'
      | true =>
        rw [hm, if_pos rfl] at ih
        refine pm_J.cls [] (c_bitCount hs [] i (by omega)) gRX2_50 vJ6_bitCount_0f7a4 ?_
        have hp : popc i < 2 ^ 31 := by unfold popc; omega
        refine pm_J.mmin rfl gmin_RX2_55 (Nat.le_of_ble_eq_true rfl) (by decide) (by decide) (by decide) ?_
        rw [nI_min (by omega) hp]
        refine pm_J.run [4] 40 (fun K hK => hK _ ?_)
        exact ih
def alike (r : Nat → Int64) (j st : Nat) : Nat → Nat
  | 0 => 0
  | a + 1 => alike r j st a + lane (r a) j / 2 ^ st % 2
theorem alike_le (r : Nat → Int64) (j st : Nat) : ∀ a, alike r j st a ≤ a
  | 0 => Nat.le_refl _
  | a + 1 => by have := alike_le r j st a; unfold alike; omega
def mostA (r : Nat → Int64) (j k : Nat) : Nat → Nat
  | 0 => 0
  | st + 1 => max (mostA r j k st) (alike r j st k)
theorem mostA_le (r : Nat → Int64) (j k : Nat) : ∀ st, mostA r j k st ≤ k
  | 0 => Nat.zero_le _
  | st + 1 => by have := mostA_le r j k st; have := alike_le r j st k; unfold mostA; omega
theorem bit_at {x st : Nat} (hx : x < 16) (hst : st < 4) : (nI x >>> (nI st &&& 31)) &&& nI 1 = nI (x / 2 ^ st % 2) := by
  rw [pk_shrN (by omega) _ st (s_l st (by omega)), pk_andN (Nat.lt_of_le_of_lt (Nat.div_le_self _ _) (by omega)) 1 (by decide +kernel)]
theorem c_mostAlike (hs : l.stackTraces = false) (r : Nat → Int64) (wt : Nat → Nat) (k c j : Nat) (hk : k ≤ 7) (hj : j < 16) : pm_Met l mX2_mostAlike 3 0 0 [.ref 0, .int (nI j)] (tbW r wt k c) (isI (nI (mostA r j k 4)) (tbW r wt k c)) := by
  refine pm_Met.mk kX2_mostAlike hs (pm_J.run [4] 20 (fun K hK => hK _ ?_))
  have key : ∀ x4 x5 : Option Value, pm_J l mX2_mostAlike iX2_mostAlike 3 0 0 3 (isI (nI (mostA r j k 4)) (tbW r wt k c)) 0 0 (4, [some (.ref 0), some (.int (nI j)), some (.int (nI (mostA r j k 0))), some (.int (nI 0)), x4, x5], [], tbW r wt k c) := by
    refine pm_up (b := 4) (P := fun st => ∀ x4 x5 : Option Value, pm_J l mX2_mostAlike iX2_mostAlike 3 0 0 3 (isI (nI (mostA r j k 4)) (tbW r wt k c)) 0 0 (4, [some (.ref 0), some (.int (nI j)), some (.int (nI (mostA r j k st))), some (.int (nI st)), x4, x5], [], tbW r wt k c)) 0 (by decide) (fun x4 x5 => ?_) (fun st h1 h2 ih x4 x5 => ?_)
    · refine pm_J.run [4] 40 (fun K hK => br_t (nI_le (a := 4) (b := 4) (by decide) (by decide)) (hK _ ?_))
      exact pm_J.ri ⟨rfl, rfl⟩
    · refine pm_J.run [15] 40 (fun K hK => br_f (nI_ge (a := st) (b := 4) h2 (by decide)) ?_)
      have inner : pm_J l mX2_mostAlike iX2_mostAlike 3 0 0 3 (isI (nI (mostA r j k 4)) (tbW r wt k c)) 0 0 (15, [some (.ref 0), some (.int (nI j)), some (.int (nI (mostA r j k st))), some (.int (nI st)), some (.int (nI (alike r j st 0))), some (.int (nI 0))], [], tbW r wt k c) := by
        refine pm_up (b := k) (P := fun a => pm_J l mX2_mostAlike iX2_mostAlike 3 0 0 3 (isI (nI (mostA r j k 4)) (tbW r wt k c)) 0 0 (15, [some (.ref 0), some (.int (nI j)), some (.int (nI (mostA r j k st))), some (.int (nI st)), some (.int (nI (alike r j st a))), some (.int (nI a))], [], tbW r wt k c)) 0 (Nat.zero_le _) ?_ (fun a g1 g2 ih2 => ?_)
        · have ha := alike_le r j st k
          have hm := mostA_le r j k st
          refine pm_J.run [15, 4] 40 (fun K hK => br_t (nI_le (Nat.le_refl _) (by omega)) (hK _ ?_))
          refine pm_J.mmax rfl gmax_RX2_64 (Nat.le_of_ble_eq_true rfl) (by decide) (by decide) (by decide) ?_
          rw [nI_max (by omega) (by omega)]
          refine pm_J.run [4] 40 (fun K hK => hK _ ?_)
          have := ih (some (.int (nI (alike r j st k)))) (some (.int (nI k)))
          rw [← nI_add st 1] at this
          exact this
        · refine pm_J.run [15] 40 (fun K hK => br_f (nI_ge g2 (by omega)) (hK _ ?_))
          refine pm_J.cl [0, 1, 2] (c_setOf hs r wt k c a j (by omega) hj) gRX2_61 vX2_setOf ?_
          refine pm_J.run [15] 40 (fun K hK => hK _ ?_)
          have e : nI (alike r j st (a + 1)) = nI (alike r j st a) + ((nI (lane (r a) j) >>> (nI st &&& 31)) &&& nI 1) := by
            rw [bit_at (lane_lt _ _) h2, nI_add]; rfl
          rw [e, ← nI_add a 1] at ih2
          exact ih2
      exact hK _ inner
  exact key none none
def leastS (r : Nat → Int64) (wt : Nat → Nat) (k : Nat) : Nat → Nat
  | 0 => 0
  | j + 1 => leastS r wt k j + (fewS r j k 16 - 1) * wt j
def mostS (r : Nat → Int64) (wt : Nat → Nat) (k : Nat) : Nat → Nat
  | 0 => 0
  | j + 1 => mostS r wt k j + (k - mostA r j k 4) * wt j
theorem c_least (hs : l.stackTraces = false) (r : Nat → Int64) (wt : Nat → Nat) (k c : Nat) (hk : k ≤ 7) (hc : c ≤ 16) : pm_Met l mX2_least 5 0 0 [.ref 0] (tbW r wt k c) (isI (nI (leastS r wt k c)) (tbW r wt k c)) := by
  refine pm_Met.mk kX2_least hs (pm_J.run [4] 20 (fun K hK => hK _ ?_))
  refine pm_up (b := c) (P := fun j => pm_J l mX2_least iX2_least 5 0 0 3 (isI (nI (leastS r wt k c)) (tbW r wt k c)) 0 0 (4, [some (.ref 0), some (.int (nI (leastS r wt k j))), some (.int (nI j))], [], tbW r wt k c)) 0 (Nat.zero_le _) ?_ (fun j h1 h2 ih => ?_)
  · refine pm_J.run [4] 40 (fun K hK => br_t (nI_le (Nat.le_refl _) (by omega)) (hK _ ?_))
    exact pm_J.ri ⟨rfl, rfl⟩
  · refine pm_J.run [4] 40 (fun K hK => br_f (nI_ge h2 (by omega)) (hK _ ?_))
    refine pm_J.cl [0, 1, 2] (c_fewest hs r wt k c j hk (by omega)) gRX2_39 vX2_fewestStates ?_
    refine pm_J.run [4] 40 (fun K hK => And.intro (vp_in_nI (by omega) (by decide)) (hK _ ?_))
    have e : nI (leastS r wt k (j + 1)) = nI (leastS r wt k j) + (nI (fewS r j k 16) - nI 1) * nI (wt (nI j).toNatClampNeg) := by
      rw [nI_clamp (by omega), pk_sub (fewS_pos r j k 16 (by decide)), pk_mul, nI_add]; rfl
    rw [e, ← nI_add j 1] at ih
    exact ih
theorem c_most (hs : l.stackTraces = false) (r : Nat → Int64) (wt : Nat → Nat) (k c : Nat) (hk : k ≤ 7) (hc : c ≤ 16) : pm_Met l mX2_most 4 0 0 [.ref 0] (tbW r wt k c) (isI (nI (mostS r wt k c)) (tbW r wt k c)) := by
  refine pm_Met.mk kX2_most hs (pm_J.run [4] 20 (fun K hK => hK _ ?_))
  refine pm_up (b := c) (P := fun j => pm_J l mX2_most iX2_most 4 0 0 3 (isI (nI (mostS r wt k c)) (tbW r wt k c)) 0 0 (4, [some (.ref 0), some (.int (nI (mostS r wt k j))), some (.int (nI j))], [], tbW r wt k c)) 0 (Nat.zero_le _) ?_ (fun j h1 h2 ih => ?_)
  · refine pm_J.run [4] 40 (fun K hK => br_t (nI_le (Nat.le_refl _) (by omega)) (hK _ ?_))
    exact pm_J.ri ⟨rfl, rfl⟩
  · refine pm_J.run [4] 40 (fun K hK => br_f (nI_ge h2 (by omega)) (hK _ ?_))
    refine pm_J.cl [0, 1, 2] (c_mostAlike hs r wt k c j hk (by omega)) gRX2_43 vX2_mostAlike ?_
    refine pm_J.run [4] 40 (fun K hK => And.intro (vp_in_nI (by omega) (by decide)) (hK _ ?_))
    have e : nI (mostS r wt k (j + 1)) = nI (mostS r wt k j) + (nI k - nI (mostA r j k 4)) * nI (wt (nI j).toNatClampNeg) := by
      rw [nI_clamp (by omega), pk_sub (mostA_le r j k 4), pk_mul, nI_add]; rfl
    rw [e, ← nI_add j 1] at ih
    exact ih
end TB3
