section GRW
variable {l : Launch}
def leF (be : Nat → Nat) (i : Nat) : Nat → Nat := fun j => if j < i then 2 ^ j else be j
theorem leF_s (be : Nat → Nat) (i : Nat) : leF be (i + 1) = upN (leF be i) i (2 ^ i) := by
  funext j
  unfold leF upN
  by_cases h : j = i
  · subst h; rw [if_pos (by omega), if_pos rfl]
  · rw [if_neg h]
    by_cases h2 : j < i
    · rw [if_pos (by omega)]; exact (if_pos h2).symm
    · rw [if_neg (by omega)]; exact (if_neg h2).symm
theorem leF_0 (be : Nat → Nat) : leF be 0 = be := by funext j; simp [leF]
theorem leF_Bd {be : Nat → Nat} (h : Bd be) {i : Nat} (hi : i ≤ 7) : Bd (leF be i) := fun j => by
  unfold leF
  split
  · have : 2 ^ j < 2 ^ 7 := Nat.pow_lt_pow_right (by decide) (by omega)
    omega
  · exact h j
def grS (ch : Nat → Nat) (s0 : trS) (od : Nat → Nat) : Nat → trS × (Nat → Nat)
  | 0 => (s0, od)
  | i + 1 => if i < 2 then (s0, od) else insR i (nodeF ch i) (grS ch s0 od i).1 (grS ch s0 od i).2 (i - 2)
theorem insR_Bd {k nd inn : Nat} {s0 : trS} {od : Nat → Nat} (hk : k < 7) (hn : nd < 14) (h : Bd s0.1 ∧ Bd s0.2.1 ∧ Bd s0.2.2) : Bd (insR k nd s0 od inn).1.1 ∧ Bd (insR k nd s0 od inn).1.2.1 ∧ Bd (insR k nd s0 od inn).1.2.2 := by
  have hb := inS_Bd (od := od) (nd := nd) (fr := 7 + k) (s0 := s0) (by omega) h inn
  exact ⟨hb.1.up (by omega), hb.2.1.up (by omega), hb.2.2.up (or128 (hb.2.2 _) (hb.2.2 _))⟩
theorem insR_od {k nd inn : Nat} {s0 : trS} {od : Nat → Nat} (hk : k < 7) (h : ∀ j, j < inn → od j < 14) : ∀ j, j < inn + 1 → (insR k nd s0 od inn).2 j < 14 := by
  intro j hj
  have hp := inS_le od nd (7 + k) s0 inn
  show upN (va_cpy od od _ _ _) _ (7 + k) j < 14
  generalize (inS od nd (7 + k) s0 inn).2 = pl at hp ⊢
  unfold upN va_cpy
  split
  · omega
  · split
    · exact h _ (by omega)
    · exact h _ (by omega)
theorem grS_inv {ch : Nat → Nat} {s0 : trS} {od : Nat → Nat} (hB : Bd s0.1 ∧ Bd s0.2.1 ∧ Bd s0.2.2) (hn : ∀ i, 2 ≤ i → i < 7 → nodeF ch i < 14) : ∀ i, i ≤ 7 → (Bd (grS ch s0 od i).1.1 ∧ Bd (grS ch s0 od i).1.2.1 ∧ Bd (grS ch s0 od i).1.2.2) ∧ ∀ j, j < i - 2 → (grS ch s0 od i).2 j < 14
  | 0, _ => ⟨hB, fun j hj => by omega⟩
  | i + 1, hi => by
    have ih := grS_inv (od := od) hB hn i (by omega)
    unfold grS
    split
    · exact ⟨hB, fun j hj => by omega⟩
    · refine ⟨insR_Bd (by omega) (hn i (by omega) (by omega)) ih.1, fun j hj => ?_⟩
      exact insR_od (by omega) ih.2 j (by omega)
theorem choF_lt (k : Nat) : ∀ (x : Nat) (ch : Nat → Nat) (i : Nat), 3 ≤ i → i < k → choF k x ch i < 2 * i - 3 := by
  induction k with
  | zero => intro x ch i h1 h2; omega
  | succ k ih =>
    intro x ch i h1 h2
    rw [choF_s]
    have hout : ∀ (n : Nat) (x : Nat) (c : Nat → Nat) (i : Nat), n ≤ i → choF n x c i = c i := by
      intro n
      induction n with
      | zero => intro x c i _; rfl
      | succ n ih2 =>
        intro x c i hi
        rw [choF_s]
        split
        · rfl
        · rw [ih2 _ _ _ (by omega), upN_n (by omega)]
    rw [if_neg (by omega)]
    by_cases h3 : i = k
    · subst h3
      rw [hout i _ _ i (Nat.le_refl _), upN_s]
      exact Nat.mod_lt _ (by omega)
    · exact ih _ _ i h1 (by omega)
theorem choF_2 (k : Nat) : ∀ (x : Nat) (ch : Nat → Nat), choF k x ch 2 = ch 2 := by
  induction k with
  | zero => intro x ch; rfl
  | succ k ih =>
    intro x ch
    rw [choF_s]
    split
    · rfl
    · rw [ih, upN_n (by omega)]
theorem choF_Bd (k : Nat) (hk : k ≤ 7) : ∀ (x : Nat) (ch : Nat → Nat), Bd ch → Bd (choF k x ch) := by
  induction k with
  | zero => intro x ch h; exact h
  | succ k ih =>
    intro x ch h
    rw [choF_s]
    split
    · exact h
    · have hm : x % (2 * k - 3) < 2 * k - 3 := Nat.mod_lt _ (by omega)
      exact ih (by omega) _ _ (h.up (by omega))
theorem node_lt {k x : Nat} {ch : Nat → Nat} (h2 : ch 2 = 0) (i : Nat) (hi2 : 2 ≤ i) (hik : i < k) (hi : i < 7) : nodeF (choF k x ch) i < 14 := by
  unfold nodeF
  by_cases h : i = 2
  · subst h
    rw [choF_2, h2]
    decide
  · have := choF_lt k x ch i (by omega) hik
    split <;> omega
theorem grS_inv' {k x : Nat} {ch : Nat → Nat} {s0 : trS} {od : Nat → Nat} (h2 : ch 2 = 0) (hk : k ≤ 7) (hB : Bd s0.1 ∧ Bd s0.2.1 ∧ Bd s0.2.2) : ∀ i, i ≤ k → (Bd (grS (choF k x ch) s0 od i).1.1 ∧ Bd (grS (choF k x ch) s0 od i).1.2.1 ∧ Bd (grS (choF k x ch) s0 od i).1.2.2) ∧ ∀ j, j < i - 2 → (grS (choF k x ch) s0 od i).2 j < 14
  | 0, _ => ⟨hB, fun j hj => by omega⟩
  | i + 1, hi => by
    have ih := grS_inv' (x := x) (od := od) h2 hk hB i (by omega)
    unfold grS
    split
    · exact ⟨hB, fun j hj => by omega⟩
    · refine ⟨insR_Bd (by omega) (node_lt h2 i (by omega) (by omega) (by omega)) ih.1, fun j hj => ?_⟩
      exact insR_od (by omega) ih.2 j (by omega)
/-- what grow makes -/
abbrev grR (k x : Nat) (ch : Nat → Nat) (s0 : trS) (od : Nat → Nat) : trS × (Nat → Nat) := grS (choF k x ch) (s0.1, s0.2.1, leF s0.2.2 k) od k
abbrev trW' (ch : Nat → Nat) (s : trS) (se : Nat → Int64) (od : Nat → Nat) (inn : Nat) : List pm_E := trW (nA ch) (nA s.1) (nA s.2.1) (nA s.2.2) se (nA od) (nI inn)
set_option maxHeartbeats 1000000 in
theorem c_grow (hs : l.stackTraces = false) (ch : Nat → Nat) (s0 : trS) (se : Nat → Int64) (od : Nat → Nat) (inn x k : Nat) (hc : Bd ch) (hc2 : ch 2 = 0) (hB : Bd s0.1 ∧ Bd s0.2.1 ∧ Bd s0.2.2) (hx : x < 2 ^ 31) (hk3 : 3 ≤ k) (hk : k ≤ 7) :
    pm_Met l mX4_grow 3 0 0 [.ref 0, .int (nI x), .int (nI k)] (trW' ch s0 se od inn) (isO none (trW' (choF k x ch) (grR k x ch s0 od).1 se (grR k x ch s0 od).2 (k - 2))) := by
  refine pm_Met.mk kX4_grow hs (pm_J.run [] 40 (fun K hK => hK _ ?_))
  refine pm_J.cl [0, 1, 2, 3, 4, 5, 6] (c_choose hs ch s0.1 s0.2.1 s0.2.2 se od (nI inn) x k hx hk3 hk) gRX4_31 vX4_choose ?_
  refine pm_J.run [13] 40 (fun K hK => hK _ ?_)
  have second : ∀ x3, pm_J l mX4_grow iX4_grow 3 0 0 7 (isO none (trW' (choF k x ch) (grR k x ch s0 od).1 se (grR k x ch s0 od).2 (k - 2))) 0 0 (33, [some (.ref 0), some (.int (nI x)), some (.int (nI k)), x3], [], trW' (choF k x ch) (s0.1, s0.2.1, leF s0.2.2 k) se od 0) := by
    intro x3
    refine pm_J.run [35] 40 (fun K hK => hK _ ?_)
    have hB' : Bd s0.1 ∧ Bd s0.2.1 ∧ Bd (leF s0.2.2 k) := ⟨hB.1, hB.2.1, leF_Bd hB.2.2 hk⟩
    have key : pm_J l mX4_grow iX4_grow 3 0 0 7 (isO none (trW' (choF k x ch) (grR k x ch s0 od).1 se (grR k x ch s0 od).2 (k - 2))) 0 0 (35, [some (.ref 0), some (.int (nI x)), some (.int (nI k)), some (.int (nI 2))], [], trW' (choF k x ch) (grS (choF k x ch) (s0.1, s0.2.1, leF s0.2.2 k) od 2).1 se (grS (choF k x ch) (s0.1, s0.2.1, leF s0.2.2 k) od 2).2 (2 - 2)) := by
      refine pm_up (b := k) (P := fun i => pm_J l mX4_grow iX4_grow 3 0 0 7 (isO none (trW' (choF k x ch) (grR k x ch s0 od).1 se (grR k x ch s0 od).2 (k - 2))) 0 0 (35, [some (.ref 0), some (.int (nI x)), some (.int (nI k)), some (.int (nI i))], [], trW' (choF k x ch) (grS (choF k x ch) (s0.1, s0.2.1, leF s0.2.2 k) od i).1 se (grS (choF k x ch) (s0.1, s0.2.1, leF s0.2.2 k) od i).2 (i - 2))) 2 (by omega) ?_ (fun i h1 h2 ih => ?_)
      · refine pm_J.run [35] 40 (fun K hK => br_t (nI_le (Nat.le_refl _) (by omega)) (hK _ ?_))
        exact pm_J.rv ⟨rfl, rfl⟩
      · obtain ⟨hBi, hodi⟩ := grS_inv' (x := x) (od := od) (s0 := (s0.1, s0.2.1, leF s0.2.2 k)) hc2 hk hB' i (by omega)
        refine pm_J.run [35] 40 (fun K hK => br_f (nI_ge h2 (by omega)) (hK _ ?_))
        refine pm_J.cl [0, 1, 2, 3, 4, 5, 6] (c_chosenNode hs (choF k x ch) _ _ _ se _ _ i h1 (by omega) (choF_Bd k hk x ch hc)) gRX4_39 vX4_chosenNode ?_
        refine pm_J.cl [0, 1, 2, 3, 4, 5, 6] (c_insert hs (nA (choF k x ch)) (grS (choF k x ch) (s0.1, s0.2.1, leF s0.2.2 k) od i).1 se (grS (choF k x ch) (s0.1, s0.2.1, leF s0.2.2 k) od i).2 (i - 2) i (nodeF (choF k x ch) i) hBi hodi (by omega) (by omega) (node_lt hc2 i h1 h2 (by omega))) gRX4_43 vX4_insert ?_
        refine pm_J.run [35] 40 (fun K hK => hK _ ?_)
        have e : grS (choF k x ch) (s0.1, s0.2.1, leF s0.2.2 k) od (i + 1) = insR i (nodeF (choF k x ch) i) (grS (choF k x ch) (s0.1, s0.2.1, leF s0.2.2 k) od i).1 (grS (choF k x ch) (s0.1, s0.2.1, leF s0.2.2 k) od i).2 (i - 2) := by rw [grS, if_neg (by omega)]
        rw [e, ← nI_add i 1, show i + 1 - 2 = i - 2 + 1 by omega] at ih
        exact ih
    exact key
  have first : pm_J l mX4_grow iX4_grow 3 0 0 7 (isO none (trW' (choF k x ch) (grR k x ch s0 od).1 se (grR k x ch s0 od).2 (k - 2))) 0 0 (13, [some (.ref 0), some (.int (nI x)), some (.int (nI k)), some (.int (nI 0))], [], trW' (choF k x ch) (s0.1, s0.2.1, leF s0.2.2 0) se od 0) := by
    refine pm_up (b := k) (P := fun i => pm_J l mX4_grow iX4_grow 3 0 0 7 (isO none (trW' (choF k x ch) (grR k x ch s0 od).1 se (grR k x ch s0 od).2 (k - 2))) 0 0 (13, [some (.ref 0), some (.int (nI x)), some (.int (nI k)), some (.int (nI i))], [], trW' (choF k x ch) (s0.1, s0.2.1, leF s0.2.2 i) se od 0)) 0 (Nat.zero_le _) ?_ (fun i h1 h2 ih => ?_)
    · refine pm_J.run [33] 40 (fun K hK => br_t (nI_le (Nat.le_refl _) (by omega)) (hK _ ?_))
      exact second _
    · refine pm_J.run [13] 40 (fun K hK => br_f (nI_ge h2 (by omega)) (And.intro (vp_in_nI (by omega) (by decide)) (hK _ ?_)))
      rw [leF_s] at ih
      unfold trW' at ih
      dsimp only at ih
      rw [← nA_upd, ← nI_shl1 (by omega), ← nI_add i 1] at ih
      rw [nI_clamp (by omega)]
      exact ih
  rw [leF_0] at first
  exact first
end GRW
