section FLO
/-- the bits of a number that is no NaN -/
theorem fl_t : FP.Core.b32.tails = 8388608 := by decide
theorem fl_x : FP.Core.b32.exps = 256 := by decide
theorem fl_q : FP.Core.b32.qmin = -149 := by decide
theorem fl_as (s : Bool) (e t : Nat) : FP.Core.assemble FP.Core.b32 s e t = (s.toNat * 256 + e) * 8388608 + t := by
  unfold FP.Core.assemble
  rw [fl_t, fl_x]
theorem fl_bits (s : Bool) (e t : Nat) (he : e ≤ 254) (ht : t < 8388608) : (UInt32.ofNat (FP.Core.assemble FP.Core.b32 s e t)).toNat = (s.toNat * 256 + e) * 8388608 + t ∧ vf_n32 (UInt32.ofNat (FP.Core.assemble FP.Core.b32 s e t)) := by
  have hs : s.toNat ≤ 1 := by cases s <;> decide
  have e1 : (UInt32.ofNat (FP.Core.assemble FP.Core.b32 s e t)).toNat = (s.toNat * 256 + e) * 8388608 + t := by
    rw [fl_as, UInt32.toNat_ofNat', Nat.mod_eq_of_lt]
    have : (2 : Nat) ^ 32 = 4294967296 := by decide
    omega
  refine ⟨e1, ?_⟩
  unfold vf_n32
  rw [UInt32.le_iff_toNat_le, UInt32.toNat_and, e1]
  have k1 : (0x7fffffff : UInt32).toNat = 2 ^ 31 - 1 := by decide
  have k2 : (0x7f800000 : UInt32).toNat = 2139095040 := by decide
  rw [k1, k2, Nat.and_two_pow_sub_one_eq_mod]
  have k3 : (2 : Nat) ^ 31 = 2147483648 := by decide
  rw [k3]
  have : ((s.toNat * 256 + e) * 8388608 + t) % 2147483648 = e * 8388608 + t := by
    have : s.toNat = 0 ∨ s.toNat = 1 := by omega
    rcases this with h | h <;> rw [h] <;> omega
  rw [this]
  omega
theorem fl_inf (s : Bool) : vf_n32 (UInt32.ofNat (FP.Core.encode FP.Core.b32 (.inf s))) := by cases s <;> (unfold vf_n32; decide)
/-- a datum that fits, by its own words -/
def flF0 (d : FP.Core.Datum) : Prop := match d with
  | .nan => False
  | .inf _ => True
  | .fin _ c q => c < 2 ^ 24 ∧ -149 ≤ q ∧ q ≤ 104
theorem fl_enc {d : FP.Core.Datum} (h : flF0 d) : vf_n32 (UInt32.ofNat (FP.Core.encode FP.Core.b32 d)) := by
  cases d with
  | nan => exact absurd h id
  | inf s => exact fl_inf s
  | fin s c q =>
    obtain ⟨h1, h2, h3⟩ := h
    show vf_n32 (UInt32.ofNat (if c < FP.Core.b32.tails then FP.Core.assemble FP.Core.b32 s 0 c else FP.Core.assemble FP.Core.b32 s ((q - FP.Core.b32.qmin).toNat + 1) (c - FP.Core.b32.tails)))
    rw [fl_t, fl_q]
    have h24 : (2 : Nat) ^ 24 = 16777216 := by decide
    rw [h24] at h1
    split
    · rename_i hc
      exact (fl_bits s 0 c (by decide) hc).2
    · exact (fl_bits s _ _ (by omega) (by omega)).2
theorem fl_settle (s : Bool) (c : Nat) (q : Int) (h : -149 ≤ q) : flF0 (FP.Core.settle FP.Core.b32 s c q) := by
  have e1 : FP.Core.b32.qmax = 104 := by decide
  have e2 : FP.Core.b32.tails = 8388608 := by decide
  have e3 : FP.Core.b32.p = 24 := rfl
  unfold FP.Core.settle FP.Core.bound
  rw [e1, e2, e3]
  split
  · rename_i hc
    split
    · exact ⟨hc, h, by omega⟩
    · trivial
  · split
    · exact ⟨by decide, by omega, by omega⟩
    · trivial
theorem fl_round (s : Bool) (A B : Nat) (e : Int) : flF0 (FP.Core.roundRatio FP.Core.b32 s A B e) := by
  have eq : FP.Core.b32.qmin = -149 := by decide
  unfold FP.Core.roundRatio
  split
  · rw [eq]; exact ⟨by decide, by decide, by decide⟩
  · unfold FP.Core.roundAt
    apply fl_settle
    unfold FP.Core.quantum
    rw [eq]
    omega
theorem fl_f (K X T : Nat) (h : T < K) : (X * K + T) / K = X ∧ (X * K + T) % K = T := by
  have hK : 0 < K := by omega
  constructor
  · rw [Nat.mul_comm, Nat.mul_add_div hK, Nat.div_eq_of_lt h, Nat.add_zero]
  · rw [Nat.mul_comm, Nat.mul_add_mod, Nat.mod_eq_of_lt h]
theorem fl_dec (s : Bool) (c : Nat) (q : Int) (h1 : 8388608 ≤ c) (h2 : c < 16777216) (h3 : -149 ≤ q) (h4 : q ≤ 104) : FP.Core.decode FP.Core.b32 (UInt32.ofNat (FP.Core.encode FP.Core.b32 (.fin s c q))).toNat = .fin s c q := by
  have e0 : FP.Core.encode FP.Core.b32 (.fin s c q) = FP.Core.assemble FP.Core.b32 s ((q + 149).toNat + 1) (c - 8388608) := by
    show (if c < FP.Core.b32.tails then FP.Core.assemble FP.Core.b32 s 0 c else FP.Core.assemble FP.Core.b32 s ((q - FP.Core.b32.qmin).toNat + 1) (c - FP.Core.b32.tails)) = _
    rw [fl_t, fl_q, if_neg (by omega)]
    rfl
  rw [e0, (fl_bits s _ _ (by omega) (by omega)).1]
  have hs : s.toNat = 0 ∨ s.toNat = 1 := by cases s <;> decide
  have hE : (q + 149).toNat + 1 < 256 ∧ 0 < (q + 149).toNat + 1 ∧ (q + 149).toNat + 1 ≠ 255 := by omega
  have hT : c - 8388608 < 8388608 := by omega
  have hc : 8388608 + (c - 8388608) = c := by omega
  have hq : (-149 : Int) + ((((q + 149).toNat + 1 : Nat) : Int) - 1) = q := by omega
  generalize (q + 149).toNat + 1 = E at hE hq ⊢
  generalize c - 8388608 = T at hT hc ⊢
  have g2 : (s.toNat * 256 + E) % 256 = E := by omega
  have g3 : (s.toNat * 256 + E) / 256 = s.toNat := by omega
  obtain ⟨g1, g4⟩ := fl_f 8388608 (s.toNat * 256 + E) T hT
  have fe : FP.Core.fieldE FP.Core.b32 ((s.toNat * 256 + E) * 8388608 + T) = E := by
    unfold FP.Core.fieldE; rw [fl_t, fl_x, g1, g2]
  have ft : FP.Core.fieldT FP.Core.b32 ((s.toNat * 256 + E) * 8388608 + T) = T := by
    unfold FP.Core.fieldT; rw [fl_t, g4]
  have fs : FP.Core.fieldS FP.Core.b32 ((s.toNat * 256 + E) * 8388608 + T) = s := by
    unfold FP.Core.fieldS; rw [fl_t, fl_x, g1, g3]; cases s <;> decide
  unfold FP.Core.decode
  rw [fe, ft, fs, fl_x, fl_t, fl_q, if_neg (show ¬ E = 256 - 1 by omega), if_neg (show ¬ E = 0 by omega), hc, hq]
theorem fl_near {a b M : Nat} (hb : 0 < b) (h : M * b ≤ a) : M ≤ FP.Core.nearest a b := by
  have : M ≤ a / b := (Nat.le_div_iff_mul_le hb).mpr h
  unfold FP.Core.nearest
  split
  · exact this
  · split <;> omega
theorem fl_lead (N : Nat) (h : N ≠ 0) : FP.Core.leading N 1 = (N.log2 : Int) := by
  have h1 : (1 : Nat).log2 = 0 := by decide
  unfold FP.Core.leading
  dsimp only
  rw [h1]
  have e1 : ((N.log2 : Int) - ((0 : Nat) : Int)).toNat = N.log2 := by omega
  have e2 : (-((N.log2 : Int) - ((0 : Nat) : Int))).toNat = 0 := by omega
  rw [e1, e2, if_pos]
  · omega
  · rw [Nat.one_mul, Nat.pow_zero, Nat.mul_one]; exact Nat.log2_self_le h
theorem fl_int0 (s : Bool) (N : Nat) (h : N ≠ 0) (hN : N.log2 ≤ 31) : ∃ c q, FP.Core.roundRatio FP.Core.b32 s N 1 0 = .fin s c q ∧ 8388608 ≤ c ∧ c < 16777216 ∧ -149 ≤ q ∧ q ≤ 104 := by
  have hp : FP.Core.b32.p = 24 := rfl
  have hm : FP.Core.b32.qmax = 104 := by decide
  unfold FP.Core.roundRatio
  rw [if_neg h]
  unfold FP.Core.roundAt FP.Core.quantum
  rw [fl_lead N h, fl_q, hp]
  have eq : max (-149 : Int) ((N.log2 : Int) + 0 - (((24 : Nat) : Int) - 1)) = (N.log2 : Int) - 23 := by omega
  rw [eq]
  have key : 8388608 ≤ FP.Core.nearest (FP.Core.unitsNum N 0 ((N.log2 : Int) - 23)) (FP.Core.unitsDen 1 0 ((N.log2 : Int) - 23)) := by
    apply fl_near
    · unfold FP.Core.unitsDen; rw [Nat.one_mul]; exact Nat.two_pow_pos _
    · unfold FP.Core.unitsDen FP.Core.unitsNum
      rw [Nat.one_mul]
      have hl := Nat.log2_self_le h
      by_cases hc : N.log2 ≤ 23
      · have a1 : ((N.log2 : Int) - 23 - 0).toNat = 0 := by omega
        have a2 : (0 - ((N.log2 : Int) - 23)).toNat = 23 - N.log2 := by omega
        rw [a1, a2, Nat.pow_zero, Nat.mul_one, show (8388608 : Nat) = 2 ^ N.log2 * 2 ^ (23 - N.log2) by rw [← Nat.pow_add, show N.log2 + (23 - N.log2) = 23 by omega]]
        exact Nat.mul_le_mul_right _ hl
      · have a1 : ((N.log2 : Int) - 23 - 0).toNat = N.log2 - 23 := by omega
        have a2 : (0 - ((N.log2 : Int) - 23)).toNat = 0 := by omega
        rw [a1, a2, Nat.pow_zero, Nat.mul_one, show (8388608 : Nat) = 2 ^ 23 by decide, ← Nat.pow_add, show 23 + (N.log2 - 23) = N.log2 by omega]
        exact hl
  generalize FP.Core.nearest (FP.Core.unitsNum N 0 ((N.log2 : Int) - 23)) (FP.Core.unitsDen 1 0 ((N.log2 : Int) - 23)) = c at key
  unfold FP.Core.settle FP.Core.bound
  rw [hp, hm, fl_t]
  have h24 : (2 : Nat) ^ 24 = 16777216 := by decide
  rw [h24]
  split
  · rw [if_pos (by omega)]
    exact ⟨c, _, rfl, key, by assumption, by omega, by omega⟩
  · rw [if_pos (by omega)]
    exact ⟨8388608, _, rfl, by omega, by omega, by omega, by omega⟩
theorem fl_int (x : Int32) (h : ¬ x = 0) : ∃ s c q, FP.Core.decode FP.Core.b32 (FP.i2f x).toNat = .fin s c q ∧ 8388608 ≤ c := by
  have hx : x.toInt ≠ 0 := fun z => h (Int32.toInt_inj.mp (by rw [z]; rfl))
  have hN : x.toInt.natAbs ≠ 0 := by omega
  have hb := x.toInt_le
  have hb2 := x.le_toInt
  have hl : x.toInt.natAbs.log2 ≤ 31 := by
    have h1 := Nat.log2_self_le hN
    have h2 : x.toInt.natAbs ≤ 2 ^ 31 := by
      have : (2 : Nat) ^ 31 = 2147483648 := by decide
      have h3 : (2 : Int) ^ 31 = 2147483648 := by decide
      have h5 : Int32.maxValue.toInt = 2147483647 := by decide
      omega
    exact (Nat.pow_le_pow_iff_right (by decide : 1 < 2)).mp (Nat.le_trans h1 h2)
  obtain ⟨c, q, e, h1, h2, h3, h4⟩ := fl_int0 (decide (x.toInt < 0)) x.toInt.natAbs hN hl
  refine ⟨decide (x.toInt < 0), c, q, ?_, h1⟩
  show FP.Core.decode FP.Core.b32 (UInt32.ofNat (FP.Core.encode FP.Core.b32 (FP.Core.roundRatio FP.Core.b32 (decide (x.toInt < 0)) x.toInt.natAbs 1 0))).toNat = _
  rw [e]
  exact fl_dec _ c q h1 h2 h3 h4
theorem fl_zero : FP.Core.decode FP.Core.b32 (FP.i2f 0).toNat = .fin false 0 (-149) := by decide +kernel
theorem fp_d : FPd := by
  intro x y hy
  obtain ⟨t, d, r, ey, hd⟩ := fl_int y hy
  have hx : ∃ s c q, FP.Core.decode FP.Core.b32 (FP.i2f x).toNat = .fin s c q := by
    by_cases h : x = 0
    · subst h; exact ⟨_, _, _, fl_zero⟩
    · obtain ⟨s, c, q, e, -⟩ := fl_int x h; exact ⟨s, c, q, e⟩
  obtain ⟨s, c, q, ex⟩ := hx
  show vf_n32 (UInt32.ofNat (FP.Core.encode FP.Core.b32 (FP.Core.quotient FP.Core.b32 (FP.Core.decode FP.Core.b32 (FP.i2f x).toNat) (FP.Core.decode FP.Core.b32 (FP.i2f y).toNat))))
  rw [ex, ey]
  show vf_n32 (UInt32.ofNat (FP.Core.encode FP.Core.b32 (if d = 0 then (if c = 0 then .nan else .inf (s != t)) else FP.Core.roundRatio FP.Core.b32 (s != t) c d (q - r))))
  rw [if_neg (by omega)]
  exact fl_enc (fl_round _ _ _ _)
/-- small whole numbers are exact -/
def flA (n : Nat) : Nat := n * 2 ^ (23 - n.log2)
theorem fl_small : ∀ n, n < 946 → 0 < n → FP.Core.decode FP.Core.b32 (FP.i2f (nI n)).toNat = .fin false (flA n) ((n.log2 : Int) - 23) ∧ 8388608 ≤ flA n ∧ flA n < 16777216 ∧ n.log2 ≤ 9 := by decide +kernel
theorem fl_log {A : Nat} (h1 : 8388608 ≤ A) (h2 : A < 16777216) : A.log2 = 23 := by
  have hA : A ≠ 0 := by omega
  have e1 : (2 : Nat) ^ 23 = 8388608 := by decide
  have e2 : (2 : Nat) ^ 24 = 16777216 := by decide
  have a := (Nat.le_log2 hA (k := 23)).mpr (by omega)
  have b := (Nat.log2_lt hA (k := 24)).mpr (by omega)
  omega
theorem fl_quot {A B : Nat} (e : Int) (a1 : 8388608 ≤ A) (a2 : A < 16777216) (b1 : 8388608 ≤ B) (b2 : B < 16777216) (he : -100 ≤ e) : FP.Core.roundRatio FP.Core.b32 false A B e = if B ≤ A then FP.Core.settle FP.Core.b32 false (FP.Core.nearest (A * 8388608) B) (e - 23) else FP.Core.settle FP.Core.b32 false (FP.Core.nearest (A * 16777216) B) (e - 24) := by
  have hp : FP.Core.b32.p = 24 := rfl
  unfold FP.Core.roundRatio
  rw [if_neg (show ¬ A = 0 by omega)]
  unfold FP.Core.roundAt FP.Core.quantum FP.Core.leading
  dsimp only
  rw [fl_log a1 a2, fl_log b1 b2, fl_q, hp]
  have e1 : (((23 : Nat) : Int) - ((23 : Nat) : Int)).toNat = 0 := by decide
  have e2 : (-(((23 : Nat) : Int) - ((23 : Nat) : Int))).toNat = 0 := by decide
  rw [e1, e2, Nat.pow_zero, Nat.mul_one, Nat.mul_one]
  unfold FP.Core.unitsNum FP.Core.unitsDen
  by_cases h : B ≤ A
  · rw [if_pos h, if_pos h]
    have q : max (-149 : Int) (((23 : Nat) : Int) - ((23 : Nat) : Int) + e - (((24 : Nat) : Int) - 1)) = e - 23 := by omega
    have k1 : (e - (e - 23)).toNat = 23 := by omega
    have k2 : (e - 23 - e).toNat = 0 := by omega
    rw [q, k1, k2, Nat.pow_zero, Nat.mul_one]
  · rw [if_neg h, if_neg h]
    have q : max (-149 : Int) (((23 : Nat) : Int) - ((23 : Nat) : Int) - 1 + e - (((24 : Nat) : Int) - 1)) = e - 24 := by omega
    have k1 : (e - (e - 24)).toNat = 24 := by omega
    have k2 : (e - 24 - e).toNat = 0 := by omega
    rw [q, k1, k2, Nat.pow_zero, Nat.mul_one]
theorem fl_nle {a b M : Nat} (hb : 0 < b) (h : a ≤ M * b) : FP.Core.nearest a b ≤ M := by
  have h1 : a / b ≤ M := by
    have := Nat.div_le_div_right (c := b) h
    rwa [Nat.mul_div_cancel _ hb] at this
  have hm := Nat.div_add_mod a b
  unfold FP.Core.nearest
  split
  · exact h1
  · rename_i h2
    have h3 : a / b < M := by
      apply Nat.lt_of_le_of_ne h1
      intro e
      rw [e, Nat.mul_comm b M] at hm
      omega
    split <;> omega
/-- a number by its bits, in units of 2 ^ -149 -/
theorem fl_settle2 {c : Nat} {q : Int} (h1 : 8388608 ≤ c) (h2 : c ≤ 16777216) (h3 : -149 ≤ q) (h4 : q ≤ 100) : ∃ c' q', FP.Core.settle FP.Core.b32 false c q = .fin false c' q' ∧ 8388608 ≤ c' ∧ c' < 16777216 ∧ -149 ≤ q' ∧ q' ≤ 104 ∧ c' * 2 ^ (q' + 149).toNat = c * 2 ^ (q + 149).toNat := by
  have hp : FP.Core.b32.p = 24 := rfl
  have hm : FP.Core.b32.qmax = 104 := by decide
  have h24 : (2 : Nat) ^ 24 = 16777216 := by decide
  unfold FP.Core.settle FP.Core.bound
  rw [hp, hm, fl_t, h24]
  by_cases hc : c < 16777216
  · rw [if_pos hc, if_pos (by omega)]
    exact ⟨c, q, rfl, h1, hc, h3, by omega, rfl⟩
  · rw [if_neg hc, if_pos (by omega)]
    have : c = 16777216 := by omega
    subst this
    refine ⟨8388608, q + 1, rfl, by omega, by omega, by omega, by omega, ?_⟩
    rw [show (q + 1 + 149).toNat = (q + 149).toNat + 1 by omega, Nat.pow_succ, show (16777216 : Nat) = 8388608 * 2 from rfl]
    generalize 2 ^ (q + 149).toNat = z
    omega
theorem fl_div (n m : Nat) (hn : 0 < n) (hm : 0 < m) (h1 : n < 946) (h2 : m < 946) : FP.fdiv (FP.i2f (nI n)) (FP.i2f (nI m)) = UInt32.ofNat (FP.Core.encode FP.Core.b32 (FP.Core.roundRatio FP.Core.b32 false (flA n) (flA m) ((n.log2 : Int) - (m.log2 : Int)))) := by
  obtain ⟨e1, a1, a2, -⟩ := fl_small n h1 hn
  obtain ⟨e2, b1, b2, -⟩ := fl_small m h2 hm
  show UInt32.ofNat (FP.Core.encode FP.Core.b32 (FP.Core.quotient FP.Core.b32 (FP.Core.decode FP.Core.b32 (FP.i2f (nI n)).toNat) (FP.Core.decode FP.Core.b32 (FP.i2f (nI m)).toNat))) = _
  rw [e1, e2]
  show UInt32.ofNat (FP.Core.encode FP.Core.b32 (if flA m = 0 then _ else FP.Core.roundRatio FP.Core.b32 (false != false) (flA n) (flA m) (((n.log2 : Int) - 23) - ((m.log2 : Int) - 23)))) = _
  rw [if_neg (by omega), show ((n.log2 : Int) - 23) - ((m.log2 : Int) - 23) = (n.log2 : Int) - (m.log2 : Int) by omega]
  rfl
theorem fl_k1 {K A B : Nat} (h : A ≤ 2 * B) : A * K ≤ 2 * K * B := by
  have := Nat.mul_le_mul_right K h
  rwa [Nat.mul_right_comm] at this
theorem fl_k2 {K J n m Y : Nat} (x2 : Y * 2 = m * K) (big : n * (2 * K) ≤ J * m) : n * K * K ≤ J * Y := by
  have h1 : n * (2 * K) * K ≤ J * m * K := Nat.mul_le_mul_right K big
  have h2 : n * (2 * K) * K = 2 * (n * K * K) := by ac_rfl
  have h3 : J * m * K = 2 * (J * Y) := by rw [Nat.mul_assoc, ← x2]; ac_rfl
  omega
theorem fl_k3 {K J n m : Nat} (big : n * (2 * K) ≤ J * m) : n * K * (2 * K) ≤ J * (m * K) := by
  have h1 : n * (2 * K) * K ≤ J * m * K := Nat.mul_le_mul_right K big
  have h2 : n * (2 * K) * K = n * K * (2 * K) := by ac_rfl
  rw [← h2, ← Nat.mul_assoc J]
  exact h1
/-- what a share is, in units of 2 ^ -149: at most a half's if it is no more than half of them, less than one's if it is not all of them -/
theorem fl_share (n m : Nat) (hn : 0 < n) (hnm : n < m) (h2 : m < 946) : ∃ c q, FP.Core.decode FP.Core.b32 (FP.fdiv (FP.i2f (nI n)) (FP.i2f (nI m))).toNat = .fin false c q ∧ -149 ≤ q ∧ c * 2 ^ (q + 149).toNat < 2 ^ 149 ∧ (2 * n ≤ m → c * 2 ^ (q + 149).toNat ≤ 2 ^ 148) := by
  obtain ⟨-, a1, a2, a3⟩ := fl_small n (by omega) hn
  obtain ⟨-, b1, b2, b3⟩ := fl_small m h2 (by omega)
  rw [fl_div n m hn (by omega) (by omega) h2, fl_quot _ a1 a2 b1 b2 (by omega)]
  have hA : flA n = n * 2 ^ (23 - n.log2) := rfl
  have hB : flA m = m * 2 ^ (23 - m.log2) := rfl
  have hlog : n.log2 ≤ m.log2 := by
    have hn0 : n ≠ 0 := by omega
    have hm0 : m ≠ 0 := by omega
    exact (Nat.le_log2 hm0).mpr (Nat.le_trans (Nat.log2_self_le hn0) (by omega))
  have big : n * 16777216 ≤ 16777215 * m := by omega
  -- A against B, on one scale
  have sc : flA n * 2 ^ n.log2 = n * 8388608 ∧ flA m * 2 ^ m.log2 = m * 8388608 := by
    have e23 : (8388608 : Nat) = 2 ^ 23 := by decide
    rw [hA, hB, Nat.mul_assoc, Nat.mul_assoc, ← Nat.pow_add, ← Nat.pow_add, show 23 - n.log2 + n.log2 = 23 by omega, show 23 - m.log2 + m.log2 = 23 by omega, e23]
    exact ⟨rfl, rfl⟩
  obtain ⟨s1, s2⟩ := sc
  generalize flA n = A at *
  generalize flA m = B at *
  have p1 := Nat.two_pow_pos n.log2
  have p2 := Nat.two_pow_pos m.log2
  obtain ⟨d, hd⟩ : ∃ d, m.log2 = n.log2 + d := ⟨m.log2 - n.log2, by omega⟩
  have s3 : B * 2 ^ d * 2 ^ n.log2 = m * 8388608 := by rw [Nat.mul_assoc, ← Nat.pow_add, Nat.add_comm d, ← hd]; exact s2
  have fin : ∀ (c : Nat) (q : Int), 8388608 ≤ c → c ≤ 16777216 → -149 ≤ q → q ≤ 100 → c * 2 ^ (q + 149).toNat < 2 ^ 149 → (2 * n ≤ m → c * 2 ^ (q + 149).toNat ≤ 2 ^ 148) →
      ∃ c' q', FP.Core.decode FP.Core.b32 (UInt32.ofNat (FP.Core.encode FP.Core.b32 (FP.Core.settle FP.Core.b32 false c q))).toNat = .fin false c' q' ∧ -149 ≤ q' ∧ c' * 2 ^ (q' + 149).toNat < 2 ^ 149 ∧ (2 * n ≤ m → c' * 2 ^ (q' + 149).toNat ≤ 2 ^ 148) := by
    intro c q g1 g2 g3 g4 g5 g6
    obtain ⟨c', q', e, k1, k2, k3, k4, k5⟩ := fl_settle2 g1 g2 g3 g4
    refine ⟨c', q', ?_, k3, by rw [k5]; exact g5, by rw [k5]; exact g6⟩
    rw [e]
    exact fl_dec false c' q' k1 k2 k3 k4
  -- A small exponent is far below
  have far : ∀ (c : Nat) (q : Int), c ≤ 16777216 → -149 ≤ q → q ≤ -25 → c * 2 ^ (q + 149).toNat ≤ 2 ^ 148 := by
    intro c q g1 g2 g3
    have : 2 ^ (q + 149).toNat ≤ 2 ^ 124 := Nat.pow_le_pow_right (by decide) (by omega)
    calc c * 2 ^ (q + 149).toNat ≤ 16777216 * 2 ^ 124 := Nat.mul_le_mul g1 this
      _ = 2 ^ 148 := by decide
  have lt148 : (2 : Nat) ^ 148 < 2 ^ 149 := by decide
  by_cases hBA : B ≤ A
  · rw [if_pos hBA]
    have hd1 : 1 ≤ d := by
      by_cases hz : d = 0
      · subst hz
        rw [Nat.pow_zero, Nat.mul_one] at s3
        have : B * 2 ^ n.log2 ≤ A * 2 ^ n.log2 := Nat.mul_le_mul_right _ hBA
        omega
      · omega
    have c1 : 8388608 ≤ FP.Core.nearest (A * 8388608) B := fl_near (by omega) (by rw [Nat.mul_comm]; exact Nat.mul_le_mul_right _ hBA)
    have c2 : FP.Core.nearest (A * 8388608) B ≤ 16777216 := fl_nle (by omega) (fl_k1 (K := 8388608) (by omega))
    by_cases hd2 : 2 ≤ d
    · have := far (FP.Core.nearest (A * 8388608) B) ((n.log2 : Int) - (m.log2 : Int) - 23) c2 (by omega) (by omega)
      exact fin _ _ c1 c2 (by omega) (by omega) (by omega) (fun _ => this)
    · have hd3 : d = 1 := by omega
      subst hd3
      have eq : (n.log2 : Int) - (m.log2 : Int) - 23 = -24 := by omega
      rw [eq]
      have e125 : ((-24 : Int) + 149).toNat = 125 := by decide
      -- 2 n / m = A / B
      have c3 : FP.Core.nearest (A * 8388608) B ≤ 16777215 := by
        apply fl_nle (by omega)
        have : A * 8388608 * 2 ^ n.log2 ≤ 16777215 * B * 2 ^ n.log2 := by
          have x1 : A * 8388608 * 2 ^ n.log2 = n * 8388608 * 8388608 := by rw [Nat.mul_right_comm, s1]
          have x2 : B * 2 ^ n.log2 * 2 = m * 8388608 := by rw [← s3, Nat.pow_one]; ac_rfl
          rw [x1, Nat.mul_assoc 16777215]
          exact fl_k2 (K := 8388608) x2 big
        exact Nat.le_of_mul_le_mul_right this p1
      refine fin _ _ c1 c2 (by decide) (by decide) ?_ ?_
      · rw [e125]
        calc FP.Core.nearest (A * 8388608) B * 2 ^ 125 ≤ 16777215 * 2 ^ 125 := Nat.mul_le_mul_right _ c3
          _ < 2 ^ 149 := by decide
      · intro h
        have hAB : A = B := by
          have x2 : B * 2 ^ n.log2 * 2 = m * 8388608 := by rw [← s3, Nat.pow_one]; ac_rfl
          have x3 : A * 2 ^ n.log2 ≤ B * 2 ^ n.log2 := by omega
          have := Nat.le_of_mul_le_mul_right x3 p1
          omega
        have c4 : FP.Core.nearest (A * 8388608) B ≤ 8388608 := fl_nle (by omega) (by rw [hAB, Nat.mul_comm]; exact Nat.le_refl _)
        rw [e125]
        calc FP.Core.nearest (A * 8388608) B * 2 ^ 125 ≤ 8388608 * 2 ^ 125 := Nat.mul_le_mul_right _ c4
          _ = 2 ^ 148 := by decide
  · rw [if_neg hBA]
    have c1 : 8388608 ≤ FP.Core.nearest (A * 16777216) B := fl_near (by omega) (by omega)
    have c2 : FP.Core.nearest (A * 16777216) B ≤ 16777216 := fl_nle (by omega) (by rw [Nat.mul_comm]; exact Nat.mul_le_mul_left _ (by omega))
    by_cases hd1 : 1 ≤ d
    · have := far (FP.Core.nearest (A * 16777216) B) ((n.log2 : Int) - (m.log2 : Int) - 24) c2 (by omega) (by omega)
      exact fin _ _ c1 c2 (by omega) (by omega) (by omega) (fun _ => this)
    · have hd3 : d = 0 := by omega
      subst hd3
      rw [Nat.pow_zero, Nat.mul_one] at s3
      have eq : (n.log2 : Int) - (m.log2 : Int) - 24 = -24 := by omega
      rw [eq]
      have e125 : ((-24 : Int) + 149).toNat = 125 := by decide
      have c3 : FP.Core.nearest (A * 16777216) B ≤ 16777215 := by
        apply fl_nle (by omega)
        have : A * 16777216 * 2 ^ n.log2 ≤ 16777215 * B * 2 ^ n.log2 := by
          rw [Nat.mul_right_comm, s1, Nat.mul_assoc 16777215, s3]
          exact fl_k3 (K := 8388608) big
        exact Nat.le_of_mul_le_mul_right this p1
      refine fin _ _ c1 c2 (by decide) (by decide) ?_ ?_
      · rw [e125]
        calc FP.Core.nearest (A * 16777216) B * 2 ^ 125 ≤ 16777215 * 2 ^ 125 := Nat.mul_le_mul_right _ c3
          _ < 2 ^ 149 := by decide
      · intro h
        exfalso
        have x3 : 2 * A * 2 ^ n.log2 ≤ B * 2 ^ n.log2 := by rw [Nat.mul_assoc, s1, s3]; omega
        have := Nat.le_of_mul_le_mul_right x3 p1
        omega
theorem fl_all (m : Nat) (h : 0 < m) (h2 : m < 946) : FP.fdiv (FP.i2f (nI m)) (FP.i2f (nI m)) = FP.fconst1 := by
  obtain ⟨-, a1, a2, a3⟩ := fl_small m h2 h
  rw [fl_div m m h h h2 h2, fl_quot _ a1 a2 a1 a2 (by omega), if_pos (Nat.le_refl _)]
  have e : FP.Core.nearest (flA m * 8388608) (flA m) = 8388608 := Nat.le_antisymm (fl_nle (by omega) (by rw [Nat.mul_comm]; exact Nat.le_refl _)) (fl_near (by omega) (by rw [Nat.mul_comm]; exact Nat.le_refl _))
  rw [e, show (m.log2 : Int) - (m.log2 : Int) - 23 = -23 by omega]
  decide
theorem fl_none (m : Nat) (h : 0 < m) (h2 : m < 946) : FP.fdiv (FP.i2f (nI 0)) (FP.i2f (nI m)) = FP.fconst0 := by
  obtain ⟨e2, b1, b2, -⟩ := fl_small m h2 h
  show UInt32.ofNat (FP.Core.encode FP.Core.b32 (FP.Core.quotient FP.Core.b32 (FP.Core.decode FP.Core.b32 (FP.i2f 0).toNat) (FP.Core.decode FP.Core.b32 (FP.i2f (nI m)).toNat))) = _
  rw [e2, fl_zero]
  show UInt32.ofNat (FP.Core.encode FP.Core.b32 (if flA m = 0 then _ else FP.Core.roundRatio FP.Core.b32 (false != false) 0 (flA m) (-149 - ((m.log2 : Int) - 23)))) = _
  rw [if_neg (by omega)]
  unfold FP.Core.roundRatio
  rw [if_pos rfl]
  decide
theorem fl_scale (a b : Int) (k : Nat) (hk : 0 < k) : compare (a * (k : Int)) (b * (k : Int)) = compare a b := by
  have hk' : (0 : Int) < (k : Int) := by omega
  show compareOfLessAndEq _ _ = compareOfLessAndEq _ _
  unfold compareOfLessAndEq
  by_cases h : a < b
  · rw [if_pos h, if_pos (Int.mul_lt_mul_of_pos_right h hk')]
  · have h1 : ¬ a * (k : Int) < b * (k : Int) := fun z => h (Int.lt_of_mul_lt_mul_right z (Int.le_of_lt hk'))
    rw [if_neg h, if_neg h1]
    by_cases h2 : a = b
    · rw [if_pos h2, if_pos (by rw [h2])]
    · rw [if_neg h2, if_neg (fun z => h2 (Int.eq_of_mul_eq_mul_right (by omega) z))]
/-- the order of two numbers, in units of 2 ^ -149 -/
theorem fl_ord (s t : Bool) (c d : Nat) (q r : Int) (hq : -149 ≤ q) (hr : -149 ≤ r) : FP.Core.order (.fin s c q) (.fin t d r) = some (compare (FP.Core.signed s (c * 2 ^ (q + 149).toNat)) (FP.Core.signed t (d * 2 ^ (r + 149).toNat))) := by
  have k : ∀ (u : Bool) (x : Nat) (y : Int), min q r ≤ y → -149 ≤ y → FP.Core.signed u (x * 2 ^ (y + 149).toNat) = FP.Core.signed u (FP.Core.inUnits x y (min q r)) * ((2 ^ (min q r + 149).toNat : Nat) : Int) := by
    intro u x y h1 h2
    have e : x * 2 ^ (y + 149).toNat = FP.Core.inUnits x y (min q r) * 2 ^ (min q r + 149).toNat := by
      unfold FP.Core.inUnits
      rw [Nat.mul_assoc, ← Nat.pow_add]
      congr 2
      omega
    rw [e]
    unfold FP.Core.signed
    cases u
    · simp
    · simp [Int.neg_mul]
  show some (compare _ _) = _
  rw [k s c q (by omega) hq, k t d r (by omega) hr, fl_scale _ _ _ (Nat.two_pow_pos _)]
theorem fl_half : FP.Core.decode FP.Core.b32 (1056964608 : UInt32).toNat = .fin false 8388608 (-24) := by decide +kernel
theorem fl_one : FP.Core.decode FP.Core.b32 FP.fconst1.toNat = .fin false 8388608 (-23) := by decide +kernel
theorem fl_q0 (n : Nat) {s : Bool} {c : Nat} {q : Int} (h : FP.Core.decode FP.Core.b32 n = .fin s c q) : -149 ≤ q := by
  unfold FP.Core.decode at h
  rw [fl_q] at h
  split at h
  · split at h <;> cases h
  · split at h
    · cases h; omega
    · cases h; omega
theorem fl_cg {a b : Int} (h : compare a b = .gt) : b < a := by
  have h : compareOfLessAndEq a b = .gt := h
  unfold compareOfLessAndEq at h
  split at h
  · cases h
  · split at h
    · cases h
    · omega
theorem fl_ce {a b : Int} (h : compare a b = .eq) : a = b := by
  have h : compareOfLessAndEq a b = .eq := h
  unfold compareOfLessAndEq at h
  split at h
  · cases h
  · split at h
    · assumption
    · cases h
theorem fl_cl {a b : Int} (h : compare a b = .lt) : a < b := by
  have h : compareOfLessAndEq a b = .lt := h
  unfold compareOfLessAndEq at h
  split at h
  · assumption
  · split at h <;> cases h
/-- an 'above' that is taken is a number, a half at least -/
theorem fl_ab {ab : UInt32} (h : okA ab) : ∃ s c q, FP.Core.decode FP.Core.b32 ab.toNat = .fin s c q ∧ -149 ≤ q ∧ (2 : Int) ^ 148 ≤ FP.Core.signed s (c * 2 ^ (q + 149).toNat) := by
  obtain ⟨h1, h2⟩ := h
  have e1 : FP.fcmp ab 1056964608 = FP.Core.order (FP.Core.decode FP.Core.b32 ab.toNat) (.fin false 8388608 (-24)) := by
    show FP.Core.order _ (FP.Core.decode FP.Core.b32 (1056964608 : UInt32).toNat) = _
    rw [fl_half]
  have e2 : FP.fcmp ab FP.fconst1 = FP.Core.order (FP.Core.decode FP.Core.b32 ab.toNat) (.fin false 8388608 (-23)) := by
    show FP.Core.order _ (FP.Core.decode FP.Core.b32 FP.fconst1.toNat) = _
    rw [fl_one]
  rw [e1] at h1
  rw [e2] at h2
  generalize hd : FP.Core.decode FP.Core.b32 ab.toNat = d at h1 h2
  cases d with
  | nan => exact absurd (by decide : Op.cmpValue (FP.Core.order .nan (.fin false 8388608 (-24))) .l < 0) h1
  | inf s =>
    cases s
    · exact absurd h2 (by decide)
    · exact absurd (by decide : Op.cmpValue (FP.Core.order (.inf true) (.fin false 8388608 (-24))) .l < 0) h1
  | fin s c q =>
    have hq := fl_q0 _ hd
    refine ⟨s, c, q, rfl, hq, ?_⟩
    rw [fl_ord _ _ _ _ _ _ hq (by decide)] at h1
    have e : FP.Core.signed false (8388608 * 2 ^ ((-24 : Int) + 149).toNat) = (2 : Int) ^ 148 := by decide
    rw [e] at h1
    cases hc : compare (FP.Core.signed s (c * 2 ^ (q + 149).toNat)) ((2 : Int) ^ 148) with
    | lt => rw [hc] at h1; exact absurd (by decide : Op.cmpValue (some .lt) .l < 0) h1
    | eq => exact Int.le_of_eq (fl_ce hc).symm
    | gt => exact Int.le_of_lt (fl_cg hc)
/-- not more than half of them: not above -/
theorem fl_no {ab v : UInt32} (h : okA ab) {c : Nat} {q : Int} (hv : FP.Core.decode FP.Core.b32 v.toNat = .fin false c q) (hq : -149 ≤ q) (hc : c * 2 ^ (q + 149).toNat ≤ 2 ^ 148) : ¬ 0 < Op.cmpValue (FP.fcmp v ab) .l := by
  obtain ⟨s, d, r, e, hr, hd⟩ := fl_ab h
  have e1 : FP.fcmp v ab = FP.Core.order (.fin false c q) (.fin s d r) := by
    show FP.Core.order (FP.Core.decode FP.Core.b32 v.toNat) (FP.Core.decode FP.Core.b32 ab.toNat) = _
    rw [hv, e]
  rw [e1, fl_ord _ _ _ _ _ _ hq hr]
  have e2 : FP.Core.signed false (c * 2 ^ (q + 149).toNat) = ((c * 2 ^ (q + 149).toNat : Nat) : Int) := rfl
  have e3 : ((2 ^ 148 : Nat) : Int) = (2 : Int) ^ 148 := by decide
  have h4 : FP.Core.signed false (c * 2 ^ (q + 149).toNat) ≤ (2 : Int) ^ 148 := by rw [e2, ← e3]; exact Int.ofNat_le.mpr hc
  have h5 := Int.le_trans h4 hd
  cases hx : compare (FP.Core.signed false (c * 2 ^ (q + 149).toNat)) (FP.Core.signed s (d * 2 ^ (r + 149).toNat)) with
  | lt => decide
  | eq => decide
  | gt => exact absurd h5 (Int.not_le.mpr (fl_cg hx))
theorem fl_ne1 {v : UInt32} {c : Nat} {q : Int} (hv : FP.Core.decode FP.Core.b32 v.toNat = .fin false c q) (hq : -149 ≤ q) (hc : c * 2 ^ (q + 149).toNat < 2 ^ 149) : ¬ Op.cmpValue (FP.fcmp v FP.fconst1) .l = 0 := by
  have e1 : FP.fcmp v FP.fconst1 = FP.Core.order (.fin false c q) (.fin false 8388608 (-23)) := by
    show FP.Core.order (FP.Core.decode FP.Core.b32 v.toNat) (FP.Core.decode FP.Core.b32 FP.fconst1.toNat) = _
    rw [hv, fl_one]
  rw [e1, fl_ord _ _ _ _ _ _ hq (by decide)]
  have e2 : FP.Core.signed false (c * 2 ^ (q + 149).toNat) = ((c * 2 ^ (q + 149).toNat : Nat) : Int) := rfl
  have e3 : FP.Core.signed false (8388608 * 2 ^ ((-23 : Int) + 149).toNat) = ((2 ^ 149 : Nat) : Int) := by decide
  rw [e2, e3]
  have h4 := Int.ofNat_lt.mpr hc
  cases hx : compare ((c * 2 ^ (q + 149).toNat : Nat) : Int) ((2 ^ 149 : Nat) : Int) with
  | lt => decide
  | eq => rw [fl_ce hx] at h4; exact absurd h4 (Int.lt_irrefl _)
  | gt => decide
theorem fl_eq1 : Op.cmpValue (FP.fcmp FP.fconst1 FP.fconst1) .l = 0 := by decide +kernel
/-- a share of n out of m: taken by the class, taken by the reference -/
theorem fl_take {n m : Nat} (hm : 0 < m) (h2 : m < 946) (hn : n ≤ m) {ab : UInt32} (h : okA ab) :
    (decide (0 < Op.cmpValue (FP.fcmp (FP.fdiv (FP.i2f (nI n)) (FP.i2f (nI m))) ab) .l) || decide (Op.cmpValue (FP.fcmp (FP.fdiv (FP.i2f (nI n)) (FP.i2f (nI m))) FP.fconst1) .l = 0)) = (decide (n = m) || (decide (0 < n) && decide (0 < Op.cmpValue (FP.fcmp (FP.fdiv (FP.i2f (nI n)) (FP.i2f (nI m))) ab) .l))) ∧
    ((decide (n = m) || (decide (0 < n) && decide (0 < Op.cmpValue (FP.fcmp (FP.fdiv (FP.i2f (nI n)) (FP.i2f (nI m))) ab) .l))) = true → m < 2 * n) := by
  by_cases e : n = m
  · subst e
    rw [fl_all n hm h2, decide_eq_true fl_eq1, Bool.or_true, decide_eq_true rfl, Bool.true_or]
    exact ⟨rfl, fun _ => by omega⟩
  · rw [decide_eq_false e, Bool.false_or]
    by_cases hz : n = 0
    · subst hz
      rw [fl_none m hm h2]
      have d0 : FP.Core.decode FP.Core.b32 FP.fconst0.toNat = .fin false 0 (-149) := by decide +kernel
      have a := fl_no h d0 (by decide) (by decide)
      have b := fl_ne1 d0 (by decide) (by decide)
      rw [decide_eq_false a, decide_eq_false b, Bool.and_false]
      exact ⟨rfl, fun z => by cases z⟩
    · obtain ⟨c, q, d, hq, k1, k2⟩ := fl_share n m (by omega) (by omega) h2
      have b := fl_ne1 d hq k1
      rw [decide_eq_false b, Bool.or_false, decide_eq_true (show 0 < n by omega), Bool.true_and]
      refine ⟨rfl, fun z => ?_⟩
      by_cases h9 : m < 2 * n
      · exact h9
      · exact absurd (of_decide_eq_true z) (fl_no h d hq (k2 (by omega)))
theorem fd_t : FP.Core.b64.tails = 4503599627370496 := by decide
theorem fd_x : FP.Core.b64.exps = 2048 := by decide
theorem fd_q : FP.Core.b64.qmin = -1074 := by decide
theorem fd_bits (s : Bool) (e t : Nat) (he : e ≤ 2046) (ht : t < 4503599627370496) : vf_n64 (UInt64.ofNat (FP.Core.assemble FP.Core.b64 s e t)) := by
  have hs : s.toNat = 0 ∨ s.toNat = 1 := by cases s <;> decide
  have e0 : FP.Core.assemble FP.Core.b64 s e t = (s.toNat * 2048 + e) * 4503599627370496 + t := by
    unfold FP.Core.assemble
    rw [fd_t, fd_x]
  have e1 : (UInt64.ofNat (FP.Core.assemble FP.Core.b64 s e t)).toNat = (s.toNat * 2048 + e) * 4503599627370496 + t := by
    rw [e0, UInt64.toNat_ofNat', Nat.mod_eq_of_lt]
    have : (2 : Nat) ^ 64 = 18446744073709551616 := by decide
    omega
  unfold vf_n64
  rw [UInt64.le_iff_toNat_le, UInt64.toNat_and, e1]
  have k1 : (0x7fffffffffffffff : UInt64).toNat = 2 ^ 63 - 1 := by decide
  have k2 : (0x7ff0000000000000 : UInt64).toNat = 9218868437227405312 := by decide
  rw [k1, k2, Nat.and_two_pow_sub_one_eq_mod]
  have k3 : (2 : Nat) ^ 63 = 9223372036854775808 := by decide
  rw [k3]
  have : ((s.toNat * 2048 + e) * 4503599627370496 + t) % 9223372036854775808 = e * 4503599627370496 + t := by
    rcases hs with h | h <;> rw [h] <;> omega
  rw [this]
  omega
theorem fd_inf (s : Bool) : vf_n64 (UInt64.ofNat (FP.Core.encode FP.Core.b64 (.inf s))) := by cases s <;> (unfold vf_n64; decide)
theorem fd_enc (s : Bool) (c : Nat) (q : Int) (h1 : c < 9007199254740992) (h2 : -1074 ≤ q) (h3 : q ≤ 971) : vf_n64 (UInt64.ofNat (FP.Core.encode FP.Core.b64 (.fin s c q))) := by
  show vf_n64 (UInt64.ofNat (if c < FP.Core.b64.tails then FP.Core.assemble FP.Core.b64 s 0 c else FP.Core.assemble FP.Core.b64 s ((q - FP.Core.b64.qmin).toNat + 1) (c - FP.Core.b64.tails)))
  rw [fd_t, fd_q]
  split
  · rename_i hc
    exact fd_bits s 0 c (by decide) hc
  · exact fd_bits s _ _ (by omega) (by omega)
theorem fd_settle (s : Bool) (c : Nat) (q : Int) (h : -1074 ≤ q) : vf_n64 (UInt64.ofNat (FP.Core.encode FP.Core.b64 (FP.Core.settle FP.Core.b64 s c q))) := by
  have e1 : FP.Core.b64.qmax = 971 := by decide
  have e3 : FP.Core.b64.p = 53 := rfl
  have e4 : (2 : Nat) ^ 53 = 9007199254740992 := by decide
  unfold FP.Core.settle FP.Core.bound
  rw [e1, fd_t, e3, e4]
  split
  · rename_i hc
    split
    · exact fd_enc s c q hc h (by omega)
    · exact fd_inf s
  · split
    · exact fd_enc s _ _ (by decide) (by omega) (by omega)
    · exact fd_inf s
theorem fd_round (s : Bool) (A B : Nat) (e : Int) : vf_n64 (UInt64.ofNat (FP.Core.encode FP.Core.b64 (FP.Core.roundRatio FP.Core.b64 s A B e))) := by
  unfold FP.Core.roundRatio
  split
  · rw [fd_q]; exact fd_enc s 0 _ (by decide) (by decide) (by decide)
  · unfold FP.Core.roundAt
    apply fd_settle
    unfold FP.Core.quantum
    rw [fd_q]
    omega
theorem fl_nn {v : UInt32} (h : vf_n32 v) : FP.Core.decode FP.Core.b32 v.toNat ≠ .nan := by
  intro hd
  unfold FP.Core.decode at hd
  split at hd
  · rename_i he
    split at hd
    · cases hd
    · rename_i ht
      unfold FP.Core.fieldE at he
      unfold FP.Core.fieldT at ht
      rw [fl_t, fl_x] at he
      rw [fl_t] at ht
      unfold vf_n32 at h
      rw [UInt32.le_iff_toNat_le, UInt32.toNat_and] at h
      have k1 : (0x7fffffff : UInt32).toNat = 2 ^ 31 - 1 := by decide
      have k2 : (0x7f800000 : UInt32).toNat = 2139095040 := by decide
      rw [k1, k2, Nat.and_two_pow_sub_one_eq_mod] at h
      have k3 : (2 : Nat) ^ 31 = 2147483648 := by decide
      rw [k3] at h
      generalize v.toNat = n at *
      omega
  · split at hd <;> cases hd
theorem fd_f2d {v : UInt32} (h : vf_n32 v) : vf_n64 (FP.f2d v) := by
  have hn := fl_nn h
  have e : FP.f2d v = FP.Core.f2d v := by
    unfold FP.f2d FP.Core.fIsNaN FP.Core.isNaN
    rw [decide_eq_false hn]
    rfl
  rw [e]
  show vf_n64 (UInt64.ofNat (FP.Core.encode FP.Core.b64 (FP.Core.round FP.Core.b64 (FP.Core.decode FP.Core.b32 v.toNat))))
  generalize FP.Core.decode FP.Core.b32 v.toNat = d at hn
  cases d with
  | nan => exact absurd rfl hn
  | inf s => exact fd_inf s
  | fin s c q => exact fd_round s c 1 q
theorem fd_nn {v : UInt64} (h : vf_n64 v) : FP.Core.decode FP.Core.b64 v.toNat ≠ .nan := by
  intro hd
  unfold FP.Core.decode at hd
  split at hd
  · rename_i he
    split at hd
    · cases hd
    · rename_i ht
      unfold FP.Core.fieldE at he
      unfold FP.Core.fieldT at ht
      rw [fd_t, fd_x] at he
      rw [fd_t] at ht
      unfold vf_n64 at h
      rw [UInt64.le_iff_toNat_le, UInt64.toNat_and] at h
      have k1 : (0x7fffffffffffffff : UInt64).toNat = 2 ^ 63 - 1 := by decide
      have k2 : (0x7ff0000000000000 : UInt64).toNat = 9218868437227405312 := by decide
      rw [k1, k2, Nat.and_two_pow_sub_one_eq_mod] at h
      have k3 : (2 : Nat) ^ 63 = 9223372036854775808 := by decide
      rw [k3] at h
      generalize v.toNat = n at *
      omega
  · split at hd <;> cases hd
theorem fl_cs (a : Int) : compare a a = .eq := by
  show compareOfLessAndEq a a = .eq
  unfold compareOfLessAndEq
  rw [if_neg (Int.lt_irrefl a), if_pos rfl]
theorem fd_self {v : UInt64} (h : vf_n64 v) : Op.cmpValue (FP.dcmp v v) .l = 0 := by
  have hn := fd_nn h
  have e : FP.dcmp v v = FP.Core.order (FP.Core.decode FP.Core.b64 v.toNat) (FP.Core.decode FP.Core.b64 v.toNat) := rfl
  rw [e]
  generalize FP.Core.decode FP.Core.b64 v.toNat = d at hn
  cases d with
  | nan => exact absurd rfl hn
  | inf s => show Op.cmpValue (some (compare _ _)) .l = 0; rw [fl_cs]; rfl
  | fin s c q => show Op.cmpValue (some (compare _ _)) .l = 0; rw [fl_cs]; rfl
theorem fl_eighth : FP.Core.decode FP.Core.b32 (1040187392 : UInt32).toNat = .fin false 8388608 (-26) := by decide +kernel
theorem fl_mul (x : Int32) : vf_n32 (FP.fmul (FP.i2f x) 1040187392) := by
  have hx : ∃ s c q, FP.Core.decode FP.Core.b32 (FP.i2f x).toNat = .fin s c q := by
    by_cases h : x = 0
    · subst h; exact ⟨_, _, _, fl_zero⟩
    · obtain ⟨s, c, q, e, -⟩ := fl_int x h; exact ⟨s, c, q, e⟩
  obtain ⟨s, c, q, ex⟩ := hx
  show vf_n32 (UInt32.ofNat (FP.Core.encode FP.Core.b32 (FP.Core.round FP.Core.b32 (FP.Core.exactProduct (FP.Core.decode FP.Core.b32 (FP.i2f x).toNat) (FP.Core.decode FP.Core.b32 (1040187392 : UInt32).toNat)))))
  rw [ex, fl_eighth]
  exact fl_enc (fl_round _ _ _ _)
theorem fl_c0 : vf_n32 FP.fconst0 := by unfold vf_n32; decide
theorem fl_c1 : vf_n32 FP.fconst1 := by unfold vf_n32; decide
end FLO
