section CAN
/-- the live parts of two growing trees agree: inner nodes 9 .. 6 + i, the leaves, the order -/
def AgT (k i : Nat) (s t : trS) : Prop := (∀ j, 9 ≤ j → j < 7 + i → s.1 j = t.1 j ∧ s.2.1 j = t.2.1 j ∧ s.2.2 j = t.2.2 j) ∧ ∀ j, j < k → s.2.2 j = t.2.2 j
def AgO (i : Nat) (od od' : Nat → Nat) : Prop := ∀ j, j < i - 2 → od j = od' j ∧ 9 ≤ od' j ∧ od' j < 7 + i
theorem AgT.mr {k i : Nat} {s t : trS} (h : AgT k i s t) {hd nd : Nat} (hh : 9 ≤ hd) (hh2 : hd < 7 + i) (hn : nd < k ∨ (9 ≤ nd ∧ nd < 7 + i)) (hi : i < k) (hk : k ≤ 7) :
    AgT k i (mrO s.1 hd nd (7 + i), mrT s.1 s.2.1 hd nd (7 + i), mrB s.2.2 hd nd (7 + i)) (mrO t.1 hd nd (7 + i), mrT t.1 t.2.1 hd nd (7 + i), mrB t.2.2 hd nd (7 + i)) := by
  obtain ⟨a1, a2, a3⟩ := h.1 hd hh hh2
  have hnd : s.2.2 nd = t.2.2 nd := by
    rcases hn with hn | hn
    · exact h.2 nd hn
    · exact (h.1 nd hn.1 hn.2).2.2
  have hlf : s.2.2 (7 + i - 7) = t.2.2 (7 + i - 7) := by rw [show 7 + i - 7 = i by omega]; exact h.2 i hi
  have eo : ∀ j, 9 ≤ j → j < 7 + i → mrO s.1 hd nd (7 + i) j = mrO t.1 hd nd (7 + i) j := by
    intro j h1 h2
    unfold mrO
    rw [a1]
    split
    · unfold upN; split
      · rfl
      · exact (h.1 j h1 h2).1
    · exact (h.1 j h1 h2).1
  have et : ∀ j, 9 ≤ j → j < 7 + i → mrT s.1 s.2.1 hd nd (7 + i) j = mrT t.1 t.2.1 hd nd (7 + i) j := by
    intro j h1 h2
    unfold mrT
    rw [a1, a2]
    split
    · exact (h.1 j h1 h2).2.1
    · split
      · unfold upN; split
        · rfl
        · exact (h.1 j h1 h2).2.1
      · exact (h.1 j h1 h2).2.1
  have eb : ∀ j, s.2.2 j = t.2.2 j → mrB s.2.2 hd nd (7 + i) j = mrB t.2.2 hd nd (7 + i) j := by
    intro j hj
    unfold mrB
    rw [a3, hnd, hlf]
    split
    · unfold upN; split
      · rfl
      · exact hj
    · exact hj
  exact ⟨fun j h1 h2 => ⟨eo j h1 h2, et j h1 h2, eb j (h.1 j h1 h2).2.2⟩, fun j hj => eb j (h.2 j hj)⟩
theorem agT_inS {k i : Nat} {s t : trS} {od od' : Nat → Nat} (h : AgT k i s t) (ho : AgO i od od') {nd : Nat} (hn : nd < k ∨ (9 ≤ nd ∧ nd < 7 + i)) (hi : i < k) (hk : k ≤ 7) :
    ∀ p, p ≤ i - 2 → AgT k i (inS od nd (7 + i) s p).1 (inS od' nd (7 + i) t p).1 ∧ (inS od nd (7 + i) s p).2 = (inS od' nd (7 + i) t p).2
  | 0, _ => ⟨h, rfl⟩
  | p + 1, hp => by
    obtain ⟨ih1, ih2⟩ := agT_inS h ho hn hi hk p (by omega)
    obtain ⟨o1, o2, o3⟩ := ho p (by omega)
    rw [inS, inS, o1]
    split
    · exact ⟨ih1, rfl⟩
    · exact ⟨ih1.mr o2 o3 hn hi hk, ih2⟩
theorem agT_insR {k i : Nat} {s t : trS} {od od' : Nat → Nat} (h : AgT k i s t) (ho : AgO i od od') {nd : Nat} (hn : nd < k ∨ (9 ≤ nd ∧ nd < 7 + i)) (hi2 : 2 ≤ i) (hi : i < k) (hk : k ≤ 7) :
    AgT k (i + 1) (insR i nd s od (i - 2)).1 (insR i nd t od' (i - 2)).1 ∧ AgO (i + 1) (insR i nd s od (i - 2)).2 (insR i nd t od' (i - 2)).2 := by
  obtain ⟨g1, g2⟩ := agT_inS h ho hn hi hk (i - 2) (Nat.le_refl _)
  have hp := inS_le od' nd (7 + i) t (i - 2)
  unfold insR
  dsimp only
  rw [g2]
  generalize inS od nd (7 + i) s (i - 2) = a at g1 ⊢
  generalize inS od' nd (7 + i) t (i - 2) = b at g1 hp ⊢
  obtain ⟨a, pa⟩ := a
  obtain ⟨b, pl⟩ := b
  dsimp only at g1 hp ⊢
  have hnd : a.2.2 nd = b.2.2 nd := by
    rcases hn with hn | hn
    · exact g1.2 nd hn
    · exact (g1.1 nd hn.1 hn.2).2.2
  have hlf : a.2.2 i = b.2.2 i := g1.2 i hi
  refine ⟨⟨fun j h1 h2 => ?_, fun j hj => ?_⟩, fun j hj => ?_⟩
  · unfold upN
    dsimp only
    by_cases e : j = 7 + i
    · subst e; simp only [if_true, hnd, hlf, and_self]
    · simp only [e, if_false]
      exact g1.1 j h1 (by omega)
  · unfold upN
    dsimp only
    rw [if_neg (by omega), if_neg (by omega)]
    exact g1.2 j hj
  · unfold upN va_cpy
    by_cases e : j = pl
    · subst e; rw [if_pos rfl, if_pos rfl]; omega
    · rw [if_neg e, if_neg e]
      split
      · have := ho (pl + (j - (pl + 1))) (by omega)
        omega
      · have := ho j (by omega)
        omega
def cz : Nat → Nat := fun _ => 0
theorem choF_at (k : Nat) : ∀ (x : Nat) (ch ch' : Nat → Nat) (i : Nat), 3 ≤ i → i < k → choF k x ch i = choF k x ch' i := by
  induction k with
  | zero => intro x ch ch' i h1 h2; omega
  | succ k ih =>
    intro x ch ch' i h1 h2
    have hout : ∀ (n : Nat) (x : Nat) (c : Nat → Nat) (i : Nat), n ≤ i → choF n x c i = c i := by
      intro n
      induction n with
      | zero => intro x c i _; rfl
      | succ n ih2 =>
        intro x c i hi
        rw [choF_s]
        split
        · rfl
        · rw [ih2 _ _ _ (by omega), upN_n (by omega)]
    rw [choF_s, choF_s, if_neg (by omega), if_neg (by omega)]
    by_cases h3 : i = k
    · subst h3
      rw [hout i _ _ i (Nat.le_refl _), hout i _ _ i (Nat.le_refl _), upN_s, upN_s]
    · exact ih _ _ _ i h1 (by omega)
theorem node_at {k x : Nat} {ch : Nat → Nat} (h2 : ch 2 = 0) (i : Nat) (hi2 : 2 ≤ i) (hik : i < k) : nodeF (choF k x ch) i = nodeF (choF k x cz) i := by
  have : choF k x ch i = choF k x cz i := by
    by_cases h : i = 2
    · subst h; rw [choF_2, choF_2, h2]; rfl
    · exact choF_at k x ch cz i (by omega) hik
  unfold nodeF
  rw [this]
theorem node_live {k x : Nat} (i : Nat) (hi2 : 2 ≤ i) (hik : i < k) : nodeF (choF k x cz) i < k ∨ (9 ≤ nodeF (choF k x cz) i ∧ nodeF (choF k x cz) i < 7 + i) := by
  unfold nodeF
  by_cases h : i = 2
  · subst h
    rw [choF_2]
    left
    show (if cz 2 < 2 - 1 then cz 2 + 1 else 10 + cz 2 - 2) < k
    rw [if_pos (by decide)]
    show 1 < k
    omega
  · have := choF_lt k x cz i (by omega) hik
    split
    · left; omega
    · right; omega
abbrev tz : trS := (cz, cz, cz)
/-- the tree of a number, grown on bare rows -/
abbrev gz (k x : Nat) : trS × (Nat → Nat) := grR k x cz tz cz
theorem agT_grS {k x : Nat} {ch : Nat → Nat} {s0 t0 : trS} {od od' : Nat → Nat} (h2 : ch 2 = 0) (hk : k ≤ 7) (h0 : ∀ j, j < k → s0.2.2 j = t0.2.2 j) :
    ∀ i, i ≤ k → AgT k i (grS (choF k x ch) s0 od i).1 (grS (choF k x cz) t0 od' i).1 ∧ AgO i (grS (choF k x ch) s0 od i).2 (grS (choF k x cz) t0 od' i).2
  | 0, _ => ⟨⟨fun j h1 h2 => by omega, h0⟩, fun j hj => by omega⟩
  | i + 1, hi => by
    obtain ⟨ih1, ih2⟩ := agT_grS (x := x) (od := od) (od' := od') h2 hk h0 i (by omega)
    by_cases h : i < 2
    · rw [grS, grS, if_pos h, if_pos h]
      exact ⟨⟨fun j h1 h2 => by omega, h0⟩, fun j hj => by omega⟩
    · rw [grS, grS, if_neg h, if_neg h, node_at h2 i (by omega) (by omega)]
      exact agT_insR ih1 ih2 (node_live i (by omega) (by omega)) (by omega) (by omega) hk
theorem grR_gz {k x : Nat} {ch : Nat → Nat} {s0 : trS} {od : Nat → Nat} (h2 : ch 2 = 0) (hk : k ≤ 7) : AgT k k (grR k x ch s0 od).1 (gz k x).1 ∧ AgO k (grR k x ch s0 od).2 (gz k x).2 :=
  agT_grS h2 hk (fun j hj => by show leF _ k j = leF _ k j; unfold leF; rw [if_pos hj, if_pos hj]) k (Nat.le_refl _)
/-- the splits of a tree, as grow has them -/
def spz (k x i : Nat) : Nat := (gz k x).1.2.2 ((gz k x).2 i)
theorem grR_sp {k x : Nat} {ch : Nat → Nat} {s0 : trS} {od : Nat → Nat} (h2 : ch 2 = 0) (hk : k ≤ 7) {i : Nat} (hi : i < k - 2) : (grR k x ch s0 od).1.2.2 ((grR k x ch s0 od).2 i) = spz k x i := by
  obtain ⟨g1, g2⟩ := grR_gz (x := x) (s0 := s0) (od := od) h2 hk
  obtain ⟨o1, o2, o3⟩ := g2 i hi
  rw [o1]
  exact (g1.1 _ o2 o3).2.2
end CAN
