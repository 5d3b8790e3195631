section TRE
variable {l : Launch}
theorem nx_or (a b : Nat) : nI a ||| nI b = nI (a ||| b) := by
  apply Int32.toBitVec_inj.mp
  apply BitVec.eq_of_toNat_eq
  simp [nI, Nat.or_mod_two_pow]
theorem nI_dn (n : Nat) : nI (n + 1) + pm_k (-1) = nI n := by
  rw [← nI_add n 1, Int32.add_assoc]
  have : nI 1 + pm_k (-1) = 0 := by decide +kernel
  rw [this, Int32.add_zero]
theorem nI_shl1 {k : Nat} (hk : k < 30) : nI 1 <<< (nI k &&& 31) = nI (2 ^ k) := by
  have h2 : 2 ^ k < 2 ^ 30 := Nat.pow_lt_pow_right (by decide) hk
  rw [pk_shlN _ k (s_l k (by omega)) (by omega), Nat.one_mul]
/-- a tree's cells -/
abbrev trW (ch on ot be : Nat → Int32) (se : Nat → Int64) (od : Nat → Int32) (inn : Int32) : List pm_E := [.inr (4, [.ref 1, .ref 2, .ref 3, .ref 4, .ref 5, .ref 6, .int inn]), .inl (.int, 7, .inl ch), .inl (.int, 14, .inl on), .inl (.int, 14, .inl ot), .inl (.int, 14, .inl be), .inl (.long, 14, .inr (.inl se)), .inl (.int, 7, .inl od)]
def Bd (f : Nat → Nat) : Prop := ∀ j, f j < 128
theorem Bd.up {f : Nat → Nat} (h : Bd f) {k v : Nat} (hv : v < 128) : Bd (upN f k v) := fun j => by
  unfold upN
  split
  · exact hv
  · exact h j
theorem nI_e128 {a b : Nat} (ha : a < 128) (hb : b < 128) : nI a = nI b ↔ a = b := nI_eq (by omega) (by omega)
def choF : Nat → Nat → (Nat → Nat) → (Nat → Nat)
  | 0, _, ch => ch
  | i + 1, rest, ch => if i < 3 then ch else choF i (rest / (2 * i - 3)) (upN ch i (rest % (2 * i - 3)))
theorem choF_s (i rest : Nat) (ch : Nat → Nat) : choF (i + 1) rest ch = if i < 3 then ch else choF i (rest / (2 * i - 3)) (upN ch i (rest % (2 * i - 3))) := rfl
theorem c_choose (hs : l.stackTraces = false) (ch on ot be : Nat → Nat) (se : Nat → Int64) (od : Nat → Nat) (inn : Int32) (x k : Nat) (hx : x < 2 ^ 31) (hk3 : 3 ≤ k) (hk : k ≤ 7) : pm_Met l mX4_choose 1 0 0 [.ref 0, .int (nI x), .int (nI k)] (trW (nA ch) (nA on) (nA ot) (nA be) se (nA od) inn) (isO none (trW (nA (choF k x ch)) (nA on) (nA ot) (nA be) se (nA od) inn)) := by
  refine pm_Met.mk kX4_choose hs (pm_J.run [7] 20 (fun K hK => hK _ ?_))
  have key : ∀ i, 2 ≤ i → i < 7 → ∀ rest c0 x5, rest < 2 ^ 31 → choF (i + 1) rest c0 = choF k x ch → pm_J l mX4_choose iX4_choose 1 0 0 7 (isO none (trW (nA (choF k x ch)) (nA on) (nA ot) (nA be) se (nA od) inn)) 0 0 (7, [some (.ref 0), some (.int (nI x)), some (.int (nI k)), some (.int (nI rest)), some (.int (nI i)), x5], [], trW (nA c0) (nA on) (nA ot) (nA be) se (nA od) inn) := by
    intro i
    induction i with
    | zero => intro h; omega
    | succ i ih =>
      intro h1 h2 rest c0 x5 hr he
      rw [choF_s] at he
      by_cases h3 : i + 1 < 3
      · rw [if_pos h3] at he
        subst he
        refine pm_J.run [7] 40 (fun K hK => br_t (nI_lt (a := i + 1) (b := 3) h3 (by decide)) (hK _ ?_))
        exact pm_J.rv ⟨rfl, rfl⟩
      · rw [if_neg h3] at he
        have e1 : nI 2 * nI (i + 1) - nI 3 = nI (2 * (i + 1) - 3) := by rw [pk_mul, pk_sub (by omega)]
        have hpos : 0 < 2 * (i + 1) - 3 := by omega
        have hne : ¬ nI 2 * nI (i + 1) - nI 3 = 0 := by rw [e1]; exact nI_ne0 hpos (by omega)
        refine pm_J.run [7] 40 (fun K hK => br_f (nI_nlt (a := i + 1) (b := 3) (by omega) (by omega)) (And.intro hne (And.intro (vp_in_nI (by omega) (by decide)) (And.intro hne (hK _ ?_)))))
        have := ih (by omega) (by omega) _ _ (some (.int (nI 2 * nI (i + 1) - nI 3))) (Nat.lt_of_le_of_lt (Nat.div_le_self _ _) hr) he
        rw [← nA_upd, ← pk_rem hr hpos (by omega), ← pk_div hr hpos (by omega), ← nI_dn i, ← e1] at this
        rw [nI_clamp (by omega)]
        exact this
  have := key (k - 1) (by omega) (by omega) x ch none hx (by rw [show k - 1 + 1 = k by omega])
  rw [← pk_sub (a := k) (b := 1) (by omega)] at this
  exact this
end TRE
