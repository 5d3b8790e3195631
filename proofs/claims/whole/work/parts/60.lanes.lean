/-! lanes -/
def nib (n j : Nat) : Nat := n / 16 ^ j % 16
theorem nib_bit (n j i : Nat) : (nib n j).testBit i = (decide (i < 4) && n.testBit (4 * j + i)) := by
  unfold nib
  rw [show (16 : Nat) ^ j = 2 ^ (4 * j) by rw [Nat.pow_mul]]
  rw [show (16 : Nat) = 2 ^ 4 from rfl, Nat.testBit_mod_two_pow, Nat.testBit_div_two_pow]
  rw [Nat.add_comm i (4 * j)]
theorem nib_lt (n j : Nat) : nib n j < 16 := Nat.mod_lt _ (by decide)
theorem nib_and (a b j : Nat) : nib (a &&& b) j = nib a j &&& nib b j := by
  apply Nat.eq_of_testBit_eq
  intro i
  rw [nib_bit, Nat.testBit_and, Nat.testBit_and, nib_bit, nib_bit]
  cases decide (i < 4) <;> simp
theorem nib_or (a b j : Nat) : nib (a ||| b) j = nib a j ||| nib b j := by
  apply Nat.eq_of_testBit_eq
  intro i
  rw [nib_bit, Nat.testBit_or, Nat.testBit_or, nib_bit, nib_bit]
  cases decide (i < 4) <;> simp
theorem nib_add : ∀ (j a b : Nat), (∀ i, i ≤ j → nib a i + nib b i < 16) → nib (a + b) j = nib a j + nib b j
  | 0, a, b, h => by
    have := h 0 (Nat.le_refl _)
    unfold nib at *
    simp only [Nat.pow_zero, Nat.div_one] at *
    omega
  | j + 1, a, b, h => by
    have e : ∀ n i, nib n (i + 1) = nib (n / 16) i := fun n i => by unfold nib; rw [Nat.pow_succ, Nat.mul_comm (16 ^ i) 16, Nat.div_div_eq_div_mul]
    have h0 := h 0 (Nat.zero_le _)
    have h0' : a % 16 + b % 16 < 16 := by unfold nib at h0; simpa using h0
    rw [e, e, e, show (a + b) / 16 = a / 16 + b / 16 by omega]
    exact nib_add j _ _ (fun i hi => by rw [← e, ← e]; exact h (i + 1) (by omega))
theorem nib_mul (m : Nat) : ∀ (j a : Nat), (∀ i, i ≤ j → m * nib a i < 16) → nib (m * a) j = m * nib a j
  | 0, a, h => by
    have := h 0 (Nat.le_refl _)
    unfold nib at *
    simp only [Nat.pow_zero, Nat.div_one] at *
    rw [← Nat.mul_mod_mod, Nat.mod_eq_of_lt this]
  | j + 1, a, h => by
    have e : ∀ n i, nib n (i + 1) = nib (n / 16) i := fun n i => by unfold nib; rw [Nat.pow_succ, Nat.mul_comm (16 ^ i) 16, Nat.div_div_eq_div_mul]
    have h0 := h 0 (Nat.zero_le _)
    have h0' : m * (a % 16) < 16 := by unfold nib at h0; simpa using h0
    have e2 : m * a / 16 = m * (a / 16) := by
      conv => lhs; rw [← Nat.div_add_mod a 16, Nat.mul_add, ← Nat.mul_assoc, Nat.mul_comm m 16, Nat.mul_assoc, Nat.mul_add_div (by decide)]
      rw [Nat.div_eq_of_lt h0', Nat.add_zero]
    rw [e, e, e2]
    exact nib_mul m j _ (fun i hi => by rw [← e]; exact h (i + 1) (by omega))
theorem lane_nib (x : Int64) (j : Nat) : lane x j = nib x.toBitVec.toNat j := rfl
theorem lane_and (a b : Int64) (j : Nat) : lane (a &&& b) j = lane a j &&& lane b j := by
  rw [lane_nib, Int64.toBitVec_and, BitVec.toNat_and, nib_and]; rfl
theorem lane_or (a b : Int64) (j : Nat) : lane (a ||| b) j = lane a j ||| lane b j := by
  rw [lane_nib, Int64.toBitVec_or, BitVec.toNat_or, nib_or]; rfl
theorem ushr_bit (x : Int64) (n : Nat) (hn : n < 4) (i : Nat) : (ushr x n).toBitVec.getLsbD i = x.toBitVec.getLsbD (n + i) := by
  unfold ushr
  show (x.toUInt64 >>> ((nI n).toInt64.toUInt64 &&& Int64.toUInt64 63)).toBitVec.getLsbD i = _
  rw [UInt64.toBitVec_shiftRight]
  show (x.toBitVec >>> (((nI n).toInt64.toUInt64 &&& Int64.toUInt64 63).toBitVec % 64).toNat).getLsbD i = _
  have : (((nI n).toInt64.toUInt64 &&& Int64.toUInt64 63).toBitVec % 64).toNat = n := by
    revert n; decide +kernel
  rw [this, BitVec.getLsbD_ushiftRight]
theorem mask_bit : ∀ i, i < 64 → (1229782938247303441 : Int64).toBitVec.getLsbD i = decide (i % 4 = 0) := by decide +kernel
theorem m1_bit : ∀ i, i < 64 → (-1 : Int64).toBitVec.getLsbD i = true := by decide +kernel
theorem torn_bit (a b : Int64) (i : Nat) (hi : i < 64) : (tornF a b).toBitVec.getLsbD i = (decide (i % 4 = 0) && !(((a &&& b).toBitVec.getLsbD i || (a &&& b).toBitVec.getLsbD (1 + i)) || (a &&& b).toBitVec.getLsbD (2 + i) || (a &&& b).toBitVec.getLsbD (3 + i))) := by
  unfold tornF
  rw [Int64.toBitVec_and, BitVec.getLsbD_and, mask_bit i hi, Int64.toBitVec_xor, BitVec.getLsbD_xor, m1_bit i hi, Int64.toBitVec_or, BitVec.getLsbD_or, Int64.toBitVec_or, BitVec.getLsbD_or, Int64.toBitVec_or, BitVec.getLsbD_or, ushr_bit _ 1 (by decide), ushr_bit _ 2 (by decide), ushr_bit _ 3 (by decide), Bool.xor_true, Bool.and_comm]
def tornN (a b : Nat) : Nat := if a &&& b = 0 then 1 else 0
def joinN (a b : Nat) : Nat := if a &&& b = 0 then a ||| b else a &&& b
theorem zero16 : ∀ y, y < 16 → ((y = 0) ↔ (y.testBit 0 || y.testBit 1 || y.testBit 2 || y.testBit 3) = false) := by decide +kernel
theorem of4 : ∀ y, y < 16 → (y.testBit 1 = false ∧ y.testBit 2 = false ∧ y.testBit 3 = false) → y = if y.testBit 0 then 1 else 0 := by decide +kernel
theorem lane_bit (x : Int64) (j i : Nat) (hi : i < 4) : (lane x j).testBit i = x.toBitVec.getLsbD (4 * j + i) := by
  rw [lane_nib, nib_bit, decide_eq_true hi, Bool.true_and]; rfl
theorem lane_torn (a b : Int64) (j : Nat) (hj : j < 16) : lane (tornF a b) j = tornN (lane a j) (lane b j) := by
  have h0 : (lane (tornF a b) j).testBit 0 = !((lane (a &&& b) j).testBit 0 || (lane (a &&& b) j).testBit 1 || (lane (a &&& b) j).testBit 2 || (lane (a &&& b) j).testBit 3) := by
    rw [lane_bit _ _ _ (by decide), lane_bit _ _ _ (by decide), lane_bit _ _ _ (by decide), lane_bit _ _ _ (by decide), lane_bit _ _ _ (by decide), torn_bit _ _ _ (by omega), decide_eq_true (by omega), Bool.true_and, Nat.add_comm 1, Nat.add_comm 2, Nat.add_comm 3]
  have hn : ∀ i, 0 < i → i < 4 → (lane (tornF a b) j).testBit i = false := by
    intro i h1 h2
    rw [lane_bit _ _ _ h2, torn_bit _ _ _ (by omega), decide_eq_false (by omega), Bool.false_and]
  rw [of4 (lane (tornF a b) j) (nib_lt _ _) ⟨hn 1 (by decide) (by decide), hn 2 (by decide) (by decide), hn 3 (by decide) (by decide)⟩, h0]
  unfold tornN
  rw [← lane_and]
  have := zero16 (lane (a &&& b) j) (nib_lt _ _)
  by_cases h : lane (a &&& b) j = 0
  · rw [this.mp h, if_pos h]; rfl
  · rw [if_neg h]
    cases hb : ((lane (a &&& b) j).testBit 0 || (lane (a &&& b) j).testBit 1 || (lane (a &&& b) j).testBit 2 || (lane (a &&& b) j).testBit 3)
    · exact absurd (this.mpr hb) h
    · rfl
theorem tornN_le (a b : Nat) : tornN a b ≤ 1 := by unfold tornN; split <;> omega
theorem nib_big (n : Nat) (h : n < 2 ^ 64) (j : Nat) (hj : 16 ≤ j) : nib n j = 0 := by
  unfold nib
  rw [Nat.div_eq_of_lt (Nat.lt_of_lt_of_le h (by rw [show (2:Nat)^64 = 16^16 from rfl]; exact Nat.pow_le_pow_right (by decide) hj))]
theorem nib_ext0 : ∀ (n a : Nat), a < 16 ^ n → (∀ j, j < n → nib a j ≤ 1) → 15 * a < 16 ^ n
  | 0, a, h, _ => by simp at h; subst h; decide
  | n + 1, a, h, hb => by
    have h0 := hb 0 (by omega)
    have := nib_ext0 n (a / 16) (by rw [Nat.pow_succ] at h; omega) (fun j hj => by
      have := hb (j + 1) (by omega)
      unfold nib at this ⊢
      rwa [Nat.pow_succ, Nat.mul_comm (16 ^ j) 16, ← Nat.div_div_eq_div_mul] at this)
    unfold nib at h0
    simp only [Nat.pow_zero, Nat.div_one] at h0
    rw [Nat.pow_succ]
    omega
theorem lane_15 (t : Int64) (h : ∀ j, lane t j ≤ 1) (j : Nat) : lane (t * 15) j = 15 * lane t j := by
  have hn : ∀ i, nib t.toBitVec.toNat i ≤ 1 := h
  have h15 : 15 * t.toBitVec.toNat < 2 ^ 64 := nib_ext0 16 _ t.toBitVec.isLt (fun j _ => hn j)
  rw [lane_nib, Int64.toBitVec_mul, BitVec.toNat_mul]
  show nib (t.toBitVec.toNat * 15 % 2 ^ 64) j = _
  rw [Nat.mul_comm, Nat.mod_eq_of_lt h15, nib_mul 15 j _ (fun i _ => by have := hn i; omega)]
  rfl
theorem torn_le (a b : Int64) (j : Nat) : lane (tornF a b) j ≤ 1 := by
  by_cases hj : j < 16
  · rw [lane_torn _ _ _ hj]; exact tornN_le _ _
  · rw [lane_nib, nib_big _ (BitVec.isLt _) j (by omega)]; omega
theorem and15 : ∀ y, y < 16 → y &&& 15 = y := by decide +kernel
theorem or_lt16 {a b : Nat} (ha : a < 16) (hb : b < 16) : a ||| b < 16 := Nat.or_lt_two_pow (n := 4) ha hb
theorem lane_join (a b : Int64) (j : Nat) (hj : j < 16) : lane (joinF a b (tornF a b)) j = joinN (lane a j) (lane b j) := by
  unfold joinF joinN
  rw [lane_or, lane_and, lane_and, lane_or, lane_15 _ (torn_le a b), lane_torn _ _ _ hj]
  unfold tornN
  split
  · rename_i h
    rw [h, Nat.zero_or, Nat.mul_one, and15 (lane a j ||| lane b j) (or_lt16 (nib_lt _ _) (nib_lt _ _))]
  · rw [Nat.mul_zero, Nat.and_zero, Nat.or_zero]
theorem lane_add (x y : Int64) (h : ∀ j, j < 16 → lane x j + lane y j < 16) (j : Nat) (hj : j < 16) : lane (x + y) j = lane x j + lane y j := by
  have hs : x.toBitVec.toNat + y.toBitVec.toNat < 2 ^ 64 := by
    have key : ∀ (n a b : Nat), a < 16 ^ n → b < 16 ^ n → (∀ j, j < n → nib a j + nib b j < 16) → a + b < 16 ^ n := by
      intro n
      induction n with
      | zero => intro a b h1 h2 _; simp at h1 h2 ⊢; omega
      | succ n ih =>
        intro a b h1 h2 h3
        have h0 := h3 0 (by omega)
        unfold nib at h0
        simp only [Nat.pow_zero, Nat.div_one] at h0
        have := ih (a / 16) (b / 16) (by rw [Nat.pow_succ] at h1; omega) (by rw [Nat.pow_succ] at h2; omega) (fun j hj => by
          have := h3 (j + 1) (by omega)
          unfold nib at this ⊢
          rwa [Nat.pow_succ, Nat.mul_comm (16 ^ j) 16, ← Nat.div_div_eq_div_mul, ← Nat.div_div_eq_div_mul] at this)
        rw [Nat.pow_succ]
        omega
    exact key 16 _ _ x.toBitVec.isLt y.toBitVec.isLt h
  rw [lane_nib, Int64.toBitVec_add, BitVec.toNat_add, Nat.mod_eq_of_lt hs, nib_add j _ _ (fun i hi => h i (by omega))]
  rfl
section FIT
def fX (on ot od s0 : Nat → Nat) : Nat → (Nat → Nat × Nat)
  | 0 => fun v => (s0 v, 0)
  | i + 1 => fun v => if v = od i then (joinN (fX on ot od s0 i (on (od i))).1 (fX on ot od s0 i (ot (od i))).1, (fX on ot od s0 i (on (od i))).2 + (fX on ot od s0 i (ot (od i))).2 + tornN (fX on ot od s0 i (on (od i))).1 (fX on ot od s0 i (ot (od i))).1) else fX on ot od s0 i v
def fT (on ot od s0 : Nat → Nat) (i : Nat) : Nat := tornN (fX on ot od s0 i (on (od i))).1 (fX on ot od s0 i (ot (od i))).1
def suN (f : Nat → Nat) : Nat → Nat
  | 0 => 0
  | i + 1 => suN f i + f i
theorem suN_le {f : Nat → Nat} (h : ∀ i, f i ≤ 1) : ∀ n, suN f n ≤ n
  | 0 => Nat.le_refl _
  | n + 1 => by have := suN_le h n; have := h n; rw [suN]; omega
theorem fT_le (on ot od s0 : Nat → Nat) (i : Nat) : fT on ot od s0 i ≤ 1 := tornN_le _ _
theorem lane_pk (on ot od : Nat → Nat) (se : Nat → Int64) : ∀ i, i ≤ 7 → (∀ c, c < 16 → lane (pkS on ot od se i).1 c = suN (fT on ot od (fun v => lane (se v) c)) i) ∧ (∀ c, c < 16 → ∀ v, lane ((pkS on ot od se i).2.2 v) c = (fX on ot od (fun v => lane (se v) c) i v).1)
  | 0, _ => ⟨fun c _ => by show lane 0 c = 0; rw [lane_nib]; show nib 0 c = 0; unfold nib; simp, fun c _ v => rfl⟩
  | i + 1, hi => by
    obtain ⟨h1, h2⟩ := lane_pk on ot od se i (by omega)
    have et : ∀ c, c < 16 → lane (tornF ((pkS on ot od se i).2.2 (on (od i))) ((pkS on ot od se i).2.2 (ot (od i)))) c = fT on ot od (fun v => lane (se v) c) i := by
      intro c hc
      rw [lane_torn _ _ _ hc, h2 c hc, h2 c hc]
      rfl
    refine ⟨fun c hc => ?_, fun c hc v => ?_⟩
    · rw [pkS]
      dsimp only
      rw [lane_add _ _ (fun j hj => ?_) c hc, et c hc, h1 c hc, suN]
      rw [et j hj, h1 j hj]
      have := suN_le (fT_le on ot od (fun v => lane (se v) j)) i
      have := fT_le on ot od (fun v => lane (se v) j) i
      omega
    · rw [pkS, fX]
      dsimp only
      by_cases hv : v = od i
      · subst hv
        rw [pk_uLs, if_pos rfl, lane_join _ _ _ hc, h2 c hc, h2 c hc]
      · rw [pk_uLn hv, if_neg hv, h2 c hc]
theorem lane_pkR (on ot od : Nat → Nat) (se : Nat → Int64) (n c : Nat) (hn : n < 7) (hc : c < 16) (h1 : 1 ≤ n) : lane (pkR on ot od se n) c = suN (fT on ot od (fun v => lane (se v) c)) n + tornN (fX on ot od (fun v => lane (se v) c) n 0).1 (fX on ot od (fun v => lane (se v) c) n (od (n - 1))).1 := by
  obtain ⟨g1, g2⟩ := lane_pk on ot od se n (by omega)
  have ht : (pkS on ot od se n).2.1 = od (n - 1) := by
    obtain ⟨m, rfl⟩ : ∃ m, n = m + 1 := ⟨n - 1, by omega⟩
    rfl
  unfold pkR
  rw [ht, lane_add _ _ (fun j hj => ?_) c hc, lane_torn _ _ _ hc, g1 c hc, g2 c hc, g2 c hc]
  rw [g1 j hj]
  have := suN_le (fT_le on ot od (fun v => lane (se v) j)) n
  have := torn_le ((pkS on ot od se n).2.2 0) ((pkS on ot od se n).2.2 (od (n - 1))) j
  omega
theorem joinN_ok {a b : Nat} (ha : a ≠ 0 ∧ a < 16) (hb : b ≠ 0 ∧ b < 16) : joinN a b ≠ 0 ∧ joinN a b < 16 := by
  unfold joinN
  split
  · refine ⟨fun h => ha.1 ?_, or_lt16 ha.2 hb.2⟩
    have := Nat.left_le_or (n := a) (m := b)
    omega
  · rename_i h
    exact ⟨h, Nat.lt_of_le_of_lt Nat.and_le_left ha.2⟩
theorem fX_ok {on ot od s0 : Nat → Nat} (h : ∀ v, s0 v ≠ 0 ∧ s0 v < 16) : ∀ i v, ((fX on ot od s0 i v).1 ≠ 0 ∧ (fX on ot od s0 i v).1 < 16) ∧ (fX on ot od s0 i v).2 < 2 ^ i
  | 0, v => ⟨h v, by show 0 < 2 ^ 0; decide⟩
  | i + 1, v => by
    rw [fX]
    dsimp only
    split
    · have a := fX_ok (on := on) (ot := ot) (od := od) h i (on (od i))
      have b := fX_ok (on := on) (ot := ot) (od := od) h i (ot (od i))
      refine ⟨joinN_ok a.1 b.1, ?_⟩
      have := tornN_le (fX on ot od s0 i (on (od i))).1 (fX on ot od s0 i (ot (od i))).1
      dsimp only
      rw [Nat.pow_succ]
      omega
    · have a := fX_ok (on := on) (ot := ot) (od := od) h i v
      refine ⟨a.1, ?_⟩
      rw [Nat.pow_succ]
      omega
/-- subtree sums by coefficients -/
def cfS (on ot od : Nat → Nat) : Nat → (Nat → Nat → Nat)
  | 0 => fun _ _ => 0
  | i + 1 => fun v j => if v = od i then cfS on ot od i (on (od i)) j + cfS on ot od i (ot (od i)) j + (if j = i then 1 else 0) else cfS on ot od i v j
theorem suN_add (f g : Nat → Nat) : ∀ n, suN (fun i => f i + g i) n = suN f n + suN g n
  | 0 => rfl
  | n + 1 => by rw [suN, suN, suN, suN_add f g n]; omega
theorem suN_ext {f g : Nat → Nat} : ∀ n, (∀ i, i < n → f i = g i) → suN f n = suN g n
  | 0, _ => rfl
  | n + 1, h => by rw [suN, suN, suN_ext n (fun i hi => h i (by omega)), h n (by omega)]
theorem suN_0 : ∀ n, suN (fun _ => 0) n = 0
  | 0 => rfl
  | n + 1 => by rw [suN, suN_0 n]
theorem suN_one (t : Nat → Nat) (i : Nat) : ∀ n, suN (fun j => (if j = i then 1 else 0) * t j) n = if i < n then t i else 0
  | 0 => by simp [suN]
  | n + 1 => by
    rw [suN, suN_one t i n]
    by_cases h : i < n
    · rw [if_pos h, if_neg (show ¬ n = i by omega), if_pos (show i < n + 1 by omega)]; omega
    · rw [if_neg h]
      by_cases h2 : n = i
      · subst h2; rw [if_pos rfl, if_pos (show n < n + 1 by omega)]; omega
      · rw [if_neg h2, if_neg (show ¬ i < n + 1 by omega)]; omega
theorem fX_cf (on ot od s0 : Nat → Nat) (n : Nat) : ∀ i, i ≤ n → ∀ v, (fX on ot od s0 i v).2 = suN (fun j => cfS on ot od i v j * fT on ot od s0 j) n
  | 0, _, v => by
    show 0 = suN (fun j => 0 * _) n
    rw [suN_ext n (g := fun _ => 0) (fun i _ => Nat.zero_mul _), suN_0]
  | i + 1, hi, v => by
    rw [fX]
    dsimp only
    by_cases hv : v = od i
    · rw [if_pos hv]
      dsimp only
      rw [fX_cf on ot od s0 n i (by omega), fX_cf on ot od s0 n i (by omega)]
      have e : suN (fun j => cfS on ot od (i + 1) v j * fT on ot od s0 j) n = suN (fun j => cfS on ot od i (on (od i)) j * fT on ot od s0 j + cfS on ot od i (ot (od i)) j * fT on ot od s0 j + (if j = i then 1 else 0) * fT on ot od s0 j) n := by
        apply suN_ext
        intro j _
        rw [cfS]
        dsimp only
        rw [if_pos hv, Nat.add_mul, Nat.add_mul]
      rw [e, suN_add, suN_add, suN_one, if_pos (by omega)]
      rfl
    · rw [if_neg hv, fX_cf on ot od s0 n i (by omega)]
      apply suN_ext
      intro j _
      rw [cfS]
      dsimp only
      rw [if_neg hv]
/-- once written, a node stays -/
def dist (od : Nat → Nat) (n : Nat) : Bool := (List.range n).all (fun i => (List.range i).all (fun j => !(Nat.beq (od i) (od j))))
theorem dist_use {od : Nat → Nat} {n : Nat} (h : dist od n = true) {i j : Nat} (hi : i < n) (hj : j < i) : od i ≠ od j := by
  have := List.all_eq_true.mp (List.all_eq_true.mp h i (List.mem_range.mpr hi)) j (List.mem_range.mpr hj)
  intro e
  rw [e] at this
  simp at this
theorem fX_stay (on ot od s0 : Nat → Nat) (v i : Nat) : ∀ d, (∀ j, i ≤ j → j < i + d → od j ≠ v) → fX on ot od s0 (i + d) v = fX on ot od s0 i v
  | 0, _ => rfl
  | d + 1, h => by
    rw [show i + (d + 1) = (i + d) + 1 by omega, fX]
    dsimp only
    rw [if_neg (fun e => h (i + d) (by omega) (by omega) e.symm)]
    exact fX_stay on ot od s0 v i d (fun j h1 h2 => h j h1 (by omega))
end FIT
section SAN
def Rel (co : Nat → Nat) (v X M : Nat) : Prop := ∀ s, s < 4 → if X.testBit s then co (4 * v + s) = M else M + 1 ≤ co (4 * v + s)
theorem bits4 {X : Nat} (h0 : X ≠ 0) (h : X < 16) : (X.testBit 0 || X.testBit 1 || X.testBit 2 || X.testBit 3) = true := by
  have := zero16 X h
  cases hb : (X.testBit 0 || X.testBit 1 || X.testBit 2 || X.testBit 3)
  · exact absurd (this.mpr hb) h0
  · rfl
theorem fr_aux {b0 b1 b2 b3 : Bool} {c0 c1 c2 c3 M : Nat} (hM : M ≤ 90) (b : (b0 || b1 || b2 || b3) = true) (a0 : if b0 then c0 = M else M + 1 ≤ c0) (a1 : if b1 then c1 = M else M + 1 ≤ c1) (a2 : if b2 then c2 = M else M + 1 ≤ c2) (a3 : if b3 then c3 = M else M + 1 ≤ c3) :
    (min (min (min (min 99 (c0 + 0)) (c1 + 1)) (c2 + 1)) (c3 + 1) = M + if b0 then 0 else 1) ∧ (min (min (min (min 99 (c0 + 1)) (c1 + 0)) (c2 + 1)) (c3 + 1) = M + if b1 then 0 else 1) ∧ (min (min (min (min 99 (c0 + 1)) (c1 + 1)) (c2 + 0)) (c3 + 1) = M + if b2 then 0 else 1) ∧ (min (min (min (min 99 (c0 + 1)) (c1 + 1)) (c2 + 1)) (c3 + 0) = M + if b3 then 0 else 1) := by
  cases b0 <;> cases b1 <;> cases b2 <;> cases b3 <;> simp only [if_true, if_false, Bool.false_eq_true, Bool.or_false, Bool.or_true, Bool.false_or] at a0 a1 a2 a3 b ⊢ <;> omega
theorem fr_rel {co : Nat → Nat} {v X M : Nat} (h : Rel co v X M) (h0 : X ≠ 0) (h16 : X < 16) (hM : M ≤ 90) {s : Nat} (hs : s < 4) : frF co v s = M + if X.testBit s then 0 else 1 := by
  have z := fr_aux hM (bits4 h0 h16) (h 0 (by decide)) (h 1 (by decide)) (h 2 (by decide)) (h 3 (by decide))
  have hs' : s = 0 ∨ s = 1 ∨ s = 2 ∨ s = 3 := by omega
  rcases hs' with rfl | rfl | rfl | rfl
  · exact z.1
  · exact z.2.1
  · exact z.2.2.1
  · exact z.2.2.2
theorem fr_congr {co co' : Nat → Nat} {v : Nat} (h : ∀ s, s < 4 → co (4 * v + s) = co' (4 * v + s)) (x : Nat) : frF co v x = frF co' v x := by
  have : ∀ s, s ≤ 4 → fmS co v x s = fmS co' v x s := by
    intro s
    induction s with
    | zero => intro _; rfl
    | succ s ih => intro hs; rw [fmS, fmS, ih (by omega), h s (by omega)]
  exact this 4 (Nat.le_refl _)
theorem nc_out (L R : Nat → Nat) (k : Nat) (co : Nat → Nat) (j : Nat) : ∀ s, (∀ t, t < s → j ≠ 4 * k + t) → ncS L R k co s j = co j
  | 0, _ => rfl
  | s + 1, h => by
    rw [ncS, upN_n (h s (by omega))]
    exact nc_out L R k co j s (fun t ht => h t (by omega))
theorem nc_other {L R : Nat → Nat} {k : Nat} {co : Nat → Nat} {v : Nat} (hv : v ≠ k) (n : Nat) (hn : n ≤ 4) : ∀ s, s < 4 → ncS L R k co n (4 * v + s) = co (4 * v + s) := fun s hs => nc_out L R k co _ n (fun t ht => by omega)
theorem nc_in {L R : Nat → Nat} {k : Nat} {co : Nat → Nat} (hL : L k ≠ k) (hR : R k ≠ k) : ∀ n, n ≤ 4 → ∀ s, s < n → ncS L R k co n (4 * k + s) = frF co (L k) s + frF co (R k) s
  | 0, _, s, h => by omega
  | n + 1, hn, s, h => by
    rw [ncS]
    by_cases e : s = n
    · subst e
      rw [upN_s, fr_congr (nc_other hL s (by omega)), fr_congr (nc_other hR s (by omega))]
    · rw [upN_n (by omega)]
      exact nc_in hL hR n (by omega) s (by omega)
theorem rel_step {co : Nat → Nat} {v x y k XL ML XR MR : Nat} (hv : v = k) {co' : Nat → Nat} (hl : Rel co x XL ML) (hr : Rel co y XR MR) (l0 : XL ≠ 0 ∧ XL < 16) (r0 : XR ≠ 0 ∧ XR < 16) (lM : ML ≤ 90) (rM : MR ≤ 90) (h : ∀ s, s < 4 → co' (4 * v + s) = frF co x s + frF co y s) : Rel co' v (joinN XL XR) (ML + MR + tornN XL XR) := by
  intro s hs
  rw [h s hs, fr_rel hl l0.1 l0.2 lM hs, fr_rel hr r0.1 r0.2 rM hs]
  unfold joinN tornN
  by_cases hz : XL &&& XR = 0
  · rw [if_pos hz, if_pos hz, Nat.testBit_or]
    have : (XL.testBit s && XR.testBit s) = false := by rw [← Nat.testBit_and, hz, Nat.zero_testBit]
    cases hb : XL.testBit s <;> cases hb2 : XR.testBit s <;> simp [hb, hb2] at this ⊢ <;> omega
  · rw [if_neg hz, if_neg hz, Nat.testBit_and]
    cases hb : XL.testBit s <;> cases hb2 : XR.testBit s <;> simp <;> omega
/-- which nodes are reckoned, the last first -/
def rqT (L R : Nat → Nat) (z : (Nat → Nat) × List Nat) (k : Nat) : (Nat → Nat) × List Nat := if z.1 k = 0 ∧ ¬ z.1 (L k) = 0 ∧ ¬ z.1 (R k) = 0 then (upN z.1 k 1, k :: z.2) else z
def rqI (L R : Nat → Nat) (s : (Nat → Nat) × List Nat) : Nat → (Nat → Nat) × List Nat
  | 0 => s
  | k + 1 => if k < 10 then s else rqT L R (rqI L R s k) k
def rqO (L R : Nat → Nat) (kn : Nat) (s : (Nat → Nat) × List Nat) : Nat → (Nat → Nat) × List Nat
  | 0 => s
  | r + 1 => rqI L R (rqO L R kn s r) (8 + kn)
def rqC (L R : Nat → Nat) (co : Nat → Nat) : List Nat → (Nat → Nat)
  | [] => co
  | k :: l => ncS L R k (rqC L R co l) 4
def rqP (L R : Nat → Nat) (co : Nat → Nat) (z : (Nat → Nat) × List Nat) : rdsT := (z.1, rqC L R co z.2)
theorem rq_T (L R : Nat → Nat) (co : Nat → Nat) (z : (Nat → Nat) × List Nat) (k : Nat) : nsT L R (rqP L R co z) k = rqP L R co (rqT L R z k) := by
  unfold nsT rqT
  by_cases h : z.1 k = 0 ∧ ¬ z.1 (L k) = 0 ∧ ¬ z.1 (R k) = 0
  · rw [if_pos h, if_pos (show (rqP L R co z).1 k = 0 ∧ ¬ (rqP L R co z).1 (L k) = 0 ∧ ¬ (rqP L R co z).1 (R k) = 0 from h)]; rfl
  · rw [if_neg h, if_neg (show ¬ ((rqP L R co z).1 k = 0 ∧ ¬ (rqP L R co z).1 (L k) = 0 ∧ ¬ (rqP L R co z).1 (R k) = 0) from h)]
theorem rq_I (L R : Nat → Nat) (co : Nat → Nat) (z : (Nat → Nat) × List Nat) : ∀ k, nsI L R (rqP L R co z) k = rqP L R co (rqI L R z k)
  | 0 => rfl
  | k + 1 => by
    rw [nsI, rqI]
    split
    · rfl
    · rw [rq_I L R co z k, rq_T]
theorem rq_O (L R : Nat → Nat) (co : Nat → Nat) (kn : Nat) (z : (Nat → Nat) × List Nat) : ∀ r, nsO L R kn (rqP L R co z) r = rqP L R co (rqO L R kn z r)
  | 0 => rfl
  | r + 1 => by rw [nsO, rqO, rq_O L R co kn z r, rq_I]
def sq (k x : Nat) : List Nat := (rqO (gwS k x k).2.1 (gwS k x k).2.2 k (rdK k, []) 6).2
def mp (c : Nat) : Nat := if c < 7 then c else c + 1
def mi (v : Nat) : Nat := if v < 8 then v else v - 1
theorem mi_mp (c : Nat) : mi (mp c) = c := by unfold mi mp; split <;> split <;> omega
def kidq (kn : Nat) (l : List Nat) (c : Nat) : Bool := Nat.blt c kn || l.any (Nat.beq c)
def okq (kn : Nat) (on ot od L R : Nat → Nat) : List Nat → Bool
  | [] => true
  | k :: l => okq kn on ot od L R l && (Nat.ble 10 k && (!(l.any (Nat.beq k)) && (kidq kn l (L k) && (kidq kn l (R k) && (Nat.beq (L k) (mp (on (k - 1))) && (Nat.beq (R k) (mp (ot (k - 1))) && (List.range (kn - 2)).any (fun i => Nat.beq (od i) (k - 1))))))))
theorem any_beq {l : List Nat} {c : Nat} : l.any (Nat.beq c) = true ↔ c ∈ l := by
  rw [List.any_eq_true]
  constructor
  · rintro ⟨x, hx, h⟩; rw [Nat.eq_of_beq_eq_true h]; exact hx
  · intro h; exact ⟨c, h, Nat.beq_refl c⟩
theorem kidq_use {kn : Nat} {l : List Nat} {c : Nat} (h : kidq kn l c = true) : c < kn ∨ c ∈ l := by
  unfold kidq at h
  rcases Bool.or_eq_true_iff.mp h with h | h
  · exact Or.inl (Nat.blt_eq.mp h)
  · exact Or.inr (any_beq.mp h)
theorem rel_run {kn : Nat} {on ot od L R : Nat → Nat} {X : Nat → Nat × Nat} {co : Nat → Nat} (hk : kn ≤ 7) (hX : ∀ v, ((X v).1 ≠ 0 ∧ (X v).1 < 16) ∧ (X v).2 ≤ 90)
    (hE : ∀ i, i < kn - 2 → X (od i) = (joinN (X (on (od i))).1 (X (ot (od i))).1, (X (on (od i))).2 + (X (ot (od i))).2 + tornN (X (on (od i))).1 (X (ot (od i))).1))
    (h0 : ∀ v, v < kn → Rel co v (X v).1 (X v).2) : ∀ l, okq kn on ot od L R l = true → ∀ v, v < kn ∨ v ∈ l → Rel (rqC L R co l) v (X (mi v)).1 (X (mi v)).2
  | [], _, v, hv => by
    rcases hv with hv | hv
    · have : mi v = v := if_pos (by omega)
      rw [this]
      exact h0 v hv
    · cases hv
  | k :: l, h, v, hv => by
    rw [okq] at h
    simp only [Bool.and_eq_true] at h
    obtain ⟨h1, h2, h3, h4, h5, h6, h7, h8⟩ := h
    have ih := rel_run hk hX hE h0 l h1
    have k10 := Nat.le_of_ble_eq_true h2
    have nk : k ∉ l := fun z => by rw [any_beq.mpr z] at h3; cases h3
    have e6 := Nat.eq_of_beq_eq_true h6
    have e7 := Nat.eq_of_beq_eq_true h7
    obtain ⟨i, hi, e8⟩ := List.any_eq_true.mp h8
    have hi := List.mem_range.mp hi
    have e8 := Nat.eq_of_beq_eq_true e8
    have c4 := kidq_use h4
    have c5 := kidq_use h5
    have nL : L k ≠ k := by
      intro e
      rw [e] at c4
      rcases c4 with c | c
      · omega
      · exact nk c
    have nR : R k ≠ k := by
      intro e
      rw [e] at c5
      rcases c5 with c | c
      · omega
      · exact nk c
    rw [rqC]
    by_cases e : v = k
    · subst e
      have hm : mi v = v - 1 := if_neg (by omega)
      have hE := hE i hi
      rw [e8] at hE
      rw [hm, hE]
      have rl := ih (L v) c4
      have rr := ih (R v) c5
      rw [e6, mi_mp] at rl
      rw [e7, mi_mp] at rr
      refine rel_step rfl rl rr (hX _).1 (hX _).1 (hX _).2 (hX _).2 (fun s hs => ?_)
      rw [nc_in nL nR 4 (Nat.le_refl _) s hs, e6, e7]
    · have hv' : v < kn ∨ v ∈ l := by
        rcases hv with hv | hv
        · exact Or.inl hv
        · rcases List.mem_cons.mp hv with h | h
          · exact absurd h e
          · exact Or.inr h
      intro s hs
      rw [nc_other e 4 (Nat.le_refl _) s hs]
      exact ih v hv' s hs
theorem al_aux {a0 a1 a2 a3 b0 b1 b2 b3 : Bool} {c0 c1 c2 c3 M : Nat} (hM : M ≤ 90) (ha : (a0 || a1 || a2 || a3) = true) (hb : (b0 || b1 || b2 || b3) = true) (h0 : if a0 then c0 = 0 else 0 + 1 ≤ c0) (h1 : if a1 then c1 = 0 else 0 + 1 ≤ c1) (h2 : if a2 then c2 = 0 else 0 + 1 ≤ c2) (h3 : if a3 then c3 = 0 else 0 + 1 ≤ c3) :
    min (min (min (min 99 (c0 + (M + if b0 then 0 else 1))) (c1 + (M + if b1 then 0 else 1))) (c2 + (M + if b2 then 0 else 1))) (c3 + (M + if b3 then 0 else 1)) = M + if ((a0 && b0) || (a1 && b1) || (a2 && b2) || (a3 && b3)) then 0 else 1 := by
  cases a0 <;> cases a1 <;> cases a2 <;> cases a3 <;> simp only [if_true, if_false, Bool.false_eq_true, Bool.or_false, Bool.or_true, Bool.false_or, Bool.true_or] at h0 h1 h2 h3 ha <;> cases b0 <;> cases b1 <;> cases b2 <;> cases b3 <;> simp only [if_true, if_false, Bool.false_eq_true, Bool.or_false, Bool.or_true, Bool.false_or, Bool.true_or, Bool.and_true, Bool.true_and, Bool.and_false, Bool.false_and] at hb ⊢ <;> omega
theorem al_rel {co : Nat → Nat} {tp X0 Xt M : Nat} (h : Rel co 0 X0 0) (ht : Rel co tp Xt M) (z0 : X0 ≠ 0 ∧ X0 < 16) (zt : Xt ≠ 0 ∧ Xt < 16) (hM : M ≤ 90) : alS co tp 4 = M + tornN X0 Xt := by
  have e : alS co tp 4 = min (min (min (min 99 (co 0 + frF co tp 0)) (co 1 + frF co tp 1)) (co 2 + frF co tp 2)) (co 3 + frF co tp 3) := rfl
  rw [e, fr_rel ht zt.1 zt.2 hM (by decide), fr_rel ht zt.1 zt.2 hM (by decide), fr_rel ht zt.1 zt.2 hM (by decide), fr_rel ht zt.1 zt.2 hM (by decide)]
  rw [al_aux hM (bits4 z0.1 z0.2) (bits4 zt.1 zt.2) (h 0 (by decide)) (h 1 (by decide)) (h 2 (by decide)) (h 3 (by decide))]
  unfold tornN
  have := zero16 (X0 &&& Xt) (Nat.lt_of_le_of_lt Nat.and_le_left z0.2)
  rw [Nat.testBit_and, Nat.testBit_and, Nat.testBit_and, Nat.testBit_and] at this
  cases hb : ((X0.testBit 0 && Xt.testBit 0) || (X0.testBit 1 && Xt.testBit 1) || (X0.testBit 2 && Xt.testBit 2) || (X0.testBit 3 && Xt.testBit 3))
  · rw [if_pos (this.mpr hb)]; rfl
  · rw [if_neg (show ¬ (X0 &&& Xt = 0) from fun z => by rw [this.mp z] at hb; cases hb)]; rfl
end SAN
