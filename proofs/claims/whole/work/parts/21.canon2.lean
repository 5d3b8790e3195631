section CA2
/-- children stand before their parents in the order -/
def kidOk (k : Nat) (od : Nat → Nat) (i c : Nat) : Bool := decide (c < k) || (List.range i).any (fun j => decide (od j = c))
def wfz (k x : Nat) : Bool := (List.range (k - 2)).all (fun i => kidOk k (gz k x).2 i ((gz k x).1.1 ((gz k x).2 i)) && kidOk k (gz k x).2 i ((gz k x).1.2.1 ((gz k x).2 i)))
theorem wfz_3 : (List.range 1).all (wfz 3) = true := by decide +kernel
theorem wfz_4 : (List.range 3).all (wfz 4) = true := by decide +kernel
theorem wfz_5 : (List.range 15).all (wfz 5) = true := by decide +kernel
theorem wfz_6 : (List.range 105).all (wfz 6) = true := by decide +kernel
theorem wfz_7 : (List.range 945).all (wfz 7) = true := by decide +kernel
/-- a thing that is checked for all trees -/
theorem all_trees {P : Nat → Nat → Bool} (h3 : (List.range 1).all (P 3) = true) (h4 : (List.range 3).all (P 4) = true) (h5 : (List.range 15).all (P 5) = true) (h6 : (List.range 105).all (P 6) = true) (h7 : (List.range 945).all (P 7) = true) {k x : Nat} (hk3 : 3 ≤ k) (hk : k ≤ 7) (hx : x < tcount k) : P k x = true := by
  have hk' : k = 3 ∨ k = 4 ∨ k = 5 ∨ k = 6 ∨ k = 7 := by omega
  rcases hk' with rfl | rfl | rfl | rfl | rfl
  · exact List.all_eq_true.mp h3 x (List.mem_range.mpr hx)
  · exact List.all_eq_true.mp h4 x (List.mem_range.mpr hx)
  · exact List.all_eq_true.mp h5 x (List.mem_range.mpr hx)
  · exact List.all_eq_true.mp h6 x (List.mem_range.mpr hx)
  · exact List.all_eq_true.mp h7 x (List.mem_range.mpr hx)
theorem wfz_ok {k x : Nat} (hk3 : 3 ≤ k) (hk : k ≤ 7) (hx : x < tcount k) : wfz k x = true := all_trees wfz_3 wfz_4 wfz_5 wfz_6 wfz_7 hk3 hk hx
theorem kid_use {k i c : Nat} {od : Nat → Nat} (h : kidOk k od i c = true) : c < k ∨ ∃ j, j < i ∧ od j = c := by
  unfold kidOk at h
  simp only [Bool.or_eq_true, decide_eq_true_eq, List.any_eq_true, List.mem_range] at h
  exact h
theorem wfz_kids {k x i : Nat} (h : wfz k x = true) (hi : i < k - 2) : ((gz k x).1.1 ((gz k x).2 i) < k ∨ ∃ j, j < i ∧ (gz k x).2 j = (gz k x).1.1 ((gz k x).2 i)) ∧ ((gz k x).1.2.1 ((gz k x).2 i) < k ∨ ∃ j, j < i ∧ (gz k x).2 j = (gz k x).1.2.1 ((gz k x).2 i)) := by
  have := List.all_eq_true.mp h i (List.mem_range.mpr hi)
  simp only [Bool.and_eq_true] at this
  exact ⟨kid_use this.1, kid_use this.2⟩
theorem pk_agree {k x : Nat} {s : trS} {od : Nat → Nat} {se se' : Nat → Int64} (hk3 : 3 ≤ k) (hk : k ≤ 7) (hx : x < tcount k) (hT : AgT k k s (gz k x).1) (hO : AgO k od (gz k x).2) (hse : ∀ j, j < k → se j = se' j) :
    ∀ i, i ≤ k - 2 → (pkS s.1 s.2.1 od se i).1 = (pkS (gz k x).1.1 (gz k x).1.2.1 (gz k x).2 se' i).1 ∧ (pkS s.1 s.2.1 od se i).2.1 = (pkS (gz k x).1.1 (gz k x).1.2.1 (gz k x).2 se' i).2.1 ∧
      (∀ j, j < k → (pkS s.1 s.2.1 od se i).2.2 j = (pkS (gz k x).1.1 (gz k x).1.2.1 (gz k x).2 se' i).2.2 j) ∧ ∀ j, j < i → (pkS s.1 s.2.1 od se i).2.2 ((gz k x).2 j) = (pkS (gz k x).1.1 (gz k x).1.2.1 (gz k x).2 se' i).2.2 ((gz k x).2 j)
  | 0, _ => ⟨rfl, rfl, hse, fun j hj => by omega⟩
  | i + 1, hi => by
    obtain ⟨ih1, ih2, ih3, ih4⟩ := pk_agree hk3 hk hx hT hO hse i (by omega)
    obtain ⟨o1, o2, o3⟩ := hO i (by omega)
    obtain ⟨t1, t2, -⟩ := hT.1 _ o2 o3
    obtain ⟨c1, c2⟩ := wfz_kids (wfz_ok hk3 hk hx) (i := i) (by omega)
    have kid : ∀ c, (c < k ∨ ∃ j, j < i ∧ (gz k x).2 j = c) → (pkS s.1 s.2.1 od se i).2.2 c = (pkS (gz k x).1.1 (gz k x).1.2.1 (gz k x).2 se' i).2.2 c := by
      intro c hc
      rcases hc with hc | ⟨j, hj, rfl⟩
      · exact ih3 c hc
      · exact ih4 j hj
    have e1 := kid _ c1
    have e2 := kid _ c2
    unfold pkS
    rw [o1, t1, t2, e1, e2, ih1]
    refine ⟨rfl, rfl, fun j hj => ?_, fun j hj => ?_⟩
    · dsimp only
      rw [pk_uLn (by omega), pk_uLn (by omega)]
      exact ih3 j hj
    · dsimp only
      by_cases e : (gz k x).2 j = (gz k x).2 i
      · rw [e, pk_uLs, pk_uLs]
      · rw [pk_uLn e, pk_uLn e]
        rcases Nat.lt_or_ge j i with h | h
        · exact ih4 j h
        · exact absurd (by rw [show j = i by omega]) e
/-- a tree's changes, packed, on bare rows -/
def lenP (r : Nat → Int64) (k x : Nat) : Int64 := pkR (gz k x).1.1 (gz k x).1.2.1 (gz k x).2 (seF r (fun _ => 0) k) (k - 2)
theorem pk_canon {k x : Nat} {ch : Nat → Nat} {s0 : trS} {od : Nat → Nat} (r se : Nat → Int64) (h2 : ch 2 = 0) (hk3 : 3 ≤ k) (hk : k ≤ 7) (hx : x < tcount k) : pkR (grR k x ch s0 od).1.1 (grR k x ch s0 od).1.2.1 (grR k x ch s0 od).2 (seF r se k) (k - 2) = lenP r k x := by
  obtain ⟨g1, g2⟩ := grR_gz (x := x) (s0 := s0) (od := od) h2 hk
  have hse : ∀ j, j < k → seF r se k j = seF r (fun _ => 0) k j := fun j hj => by unfold seF; rw [if_pos hj, if_pos hj]
  obtain ⟨a1, a2, a3, a4⟩ := pk_agree hk3 hk hx g1 g2 hse (k - 2) (Nat.le_refl _)
  unfold lenP pkR
  rw [a1, a2, a3 0 (by omega)]
  congr 2
  have ht : (pkS (gz k x).1.1 (gz k x).1.2.1 (gz k x).2 (seF r (fun _ => 0) k) (k - 2)).2.1 = (gz k x).2 (k - 3) := by
    have : k - 2 = (k - 3) + 1 := by omega
    rw [this]
    rfl
  rw [ht]
  exact a4 (k - 3) (by omega)
end CA2
