section TBL
variable {l : Launch}
def lane (x : Int64) (j : Nat) : Nat := x.toBitVec.toNat / 16 ^ j % 16
theorem lane_lt (x : Int64) (j : Nat) : lane x j < 16 := Nat.mod_lt _ (by decide)
theorem tb_bits {x : Int64} {j : Nat} (hj : j < 16) : (x.toUInt64 >>> ((nI 4 * nI j).toInt64.toUInt64 &&& Int64.toUInt64 63)).toInt64.toInt32 &&& nI 15 = nI (lane x j) := by
  obtain ⟨m, hm, rfl⟩ := wb_of x
  rw [pk_mul, wb_shr hm (by omega), lN_i, pk_and _ 4 (by decide +kernel)]
  unfold lane
  rw [wb_tn hm, show (nI (m / 2 ^ (4 * j))).toBitVec.toNat = m / 2 ^ (4 * j) % 2 ^ 32 from rfl, Nat.mod_mod_of_dvd _ (by decide), Nat.pow_mul]
/-- a table's cells: rows, weights, how many kinds and characters -/
abbrev tbW (r : Nat → Int64) (wt : Nat → Nat) (k c : Nat) : List pm_E := [.inr (2, [.ref 1, .ref 2, .int (nI k), .int (nI c)]), .inl (.long, 7, .inr (.inl r)), .inl (.int, 16, .inl (nA wt))]
theorem c_bitsOf (hs : l.stackTraces = false) (w : List pm_E) (x : Int64) (j : Nat) (hj : j < 16) : pm_Met l mX2_bitsOf 1 0 0 [.ref 0, .long x, .int (nI j)] w (isI (nI (lane x j)) w) := by
  refine pm_Met.mk kX2_bitsOf hs (pm_J.run [] 20 (fun K hK => hK _ ?_))
  exact pm_J.ri ⟨by rw [← tb_bits hj]; rfl, rfl⟩
theorem c_setOf (hs : l.stackTraces = false) (r : Nat → Int64) (wt : Nat → Nat) (k c a j : Nat) (ha : a < 7) (hj : j < 16) : pm_Met l mX2_setOf 2 0 0 [.ref 0, .int (nI a), .int (nI j)] (tbW r wt k c) (isI (nI (lane (r a) j)) (tbW r wt k c)) := by
  refine pm_Met.mk kX2_setOf hs (pm_J.run [] 20 (fun K hK => And.intro (vp_in_nI ha (by decide)) (hK _ ?_)))
  rw [nI_clamp (by omega)]
  exact pm_J.cl [0, 1, 2] (c_bitsOf hs (tbW r wt k c) (r a) j hj) gRX2_35 vX2_bitsOf (pm_J.ri ⟨rfl, rfl⟩)
theorem c_hasCharacter (hs : l.stackTraces = false) (r : Nat → Int64) (wt : Nat → Nat) (k c : Nat) (x : Int32) : pm_Met l mX2_hasCharacter 1 0 0 [.ref 0, .int x] (tbW r wt k c) (isI (if 0 ≤ x ∧ x < nI c then nI 1 else nI 0) (tbW r wt k c)) := by
  refine pm_Met.mk kX2_hasCharacter hs (pm_J.run [] 20 (fun K hK => And.intro (fun h => hK _ ?_) (fun h => And.intro (fun h2 => hK _ ?_) (fun h2 => hK _ ?_))))
  · exact pm_J.ri ⟨by rw [if_neg (fun z => absurd h (Int32.not_lt.mpr z.1))]; rfl, rfl⟩
  · exact pm_J.ri ⟨by rw [if_neg (fun z => absurd z.2 (Int32.not_lt.mpr h2))]; rfl, rfl⟩
  · exact pm_J.ri ⟨by rw [if_pos ⟨Int32.not_lt.mp h, Int32.not_le.mp h2⟩]; rfl, rfl⟩
def tprod : Nat → Nat
  | 0 => 1
  | i + 1 => if i < 3 then 1 else tprod i * (2 * i - 3)
def tcount (k : Nat) : Nat := if k < 3 then 0 else tprod k
theorem c_treeCount (hs : l.stackTraces = false) (r : Nat → Int64) (wt : Nat → Nat) (k c : Nat) (hk : k ≤ 7) : pm_Met l mX2_treeCount 1 0 0 [.ref 0] (tbW r wt k c) (isI (nI (tcount k)) (tbW r wt k c)) := by
  refine pm_Met.mk kX2_treeCount hs (pm_J.run [14] 20 (fun K hK => And.intro (fun h => hK _ ?_) (fun h => hK _ ?_)))
  · have h3 : 3 ≤ k := (nI_leI (a := 3) (b := k) (by omega) (by omega)).mp h
    refine pm_up (P := fun i => pm_J l mX2_treeCount iX2_treeCount 1 0 0 3 (isI (nI (tcount k)) (tbW r wt k c)) 0 0 (14, [some (.ref 0), some (.int (nI (tprod i))), some (.int (nI i))], [], tbW r wt k c)) 3 h3 ?_ (fun i h1 h2 ih => ?_)
    · refine pm_J.run [14] 40 (fun K hK => br_t (nI_le (Nat.le_refl _) (by omega)) (hK _ ?_))
      exact pm_J.ri ⟨by rw [tcount, if_neg (by omega)], rfl⟩
    · refine pm_J.run [14] 40 (fun K hK => br_f (nI_ge h2 (by omega)) (hK _ ?_))
      have e : nI (tprod (i + 1)) = nI (tprod i) * (nI 2 * nI i - nI 3) := by
        rw [pk_mul, pk_sub (by omega), pk_mul, tprod, if_neg (by omega)]
      have e2 : nI (i + 1) = nI i + nI 1 := (nI_add i 1).symm
      rw [e, e2] at ih
      exact ih
  · have h3 : ¬ 3 ≤ k := fun z => h ((nI_leI (a := 3) (b := k) (by omega) (by omega)).mpr z)
    exact pm_J.ri ⟨by rw [tcount, if_pos (by omega)]; rfl, rfl⟩
end TBL
