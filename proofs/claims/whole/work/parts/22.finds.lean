section FND
variable {l : Launch}
abbrev fnW (nu ta : Nat → Int32) (cnt : Int32) : List pm_E := [.inr (0, [.ref 1, .ref 2, .int cnt]), .inl (.int, 945, .inl nu), .inl (.int, 128, .inl ta)]
theorem c_forget (hs : l.stackTraces = false) (nu ta : Nat → Int32) (cnt : Int32) : pm_Met l mX0_forget 1 0 0 [.ref 0] (fnW nu ta cnt) (isO none (fnW nu ta (nI 0))) := by
  refine pm_Met.mk kX0_forget hs (pm_J.run [] 20 (fun K hK => hK _ ?_))
  exact pm_J.rv ⟨rfl, rfl⟩
theorem wsum_lt {x : Int64} {wt : Nat → Nat} (hw : Bd wt) : ∀ c, wsum x wt c ≤ c * 2048
  | 0 => Nat.le_refl _
  | c + 1 => by
    have ih := wsum_lt (x := x) hw c
    have h1 := lane_lt x c
    have h2 := hw c
    have h3 : lane x c * wt c ≤ 15 * 127 := Nat.mul_le_mul (by omega) (by omega)
    unfold wsum
    omega
/-- a tree's length -/
def lenT (r : Nat → Int64) (wt : Nat → Nat) (k c x : Nat) : Nat := wsum (lenP r k x) wt c
theorem lenT_lt {r : Nat → Int64} {wt : Nat → Nat} {k c x : Nat} (hw : Bd wt) (hc : c ≤ 16) : lenT r wt k c x < 2 ^ 30 := by
  have := wsum_lt (x := lenP r k x) hw c
  unfold lenT
  omega
/-- any tree's cells -/
def isTr (w : List pm_E) : Prop := ∃ ch s se od inn, TrI ch s od ∧ w = trW' ch s se od inn
abbrev trAt' (h : Nat) (ch : Nat → Nat) (s : trS) (se : Nat → Int64) (od : Nat → Nat) (inn : Nat) : List pm_E := trAt h (nA ch) (nA s.1) (nA s.2.1) (nA s.2.2) se (nA od) (nI inn)
def gaS (f : Nat → Nat) (nu : Nat → Nat) : Nat → Nat × Nat × (Nat → Nat)
  | 0 => (0, 0, nu)
  | i + 1 => if (gaS f nu i).2.1 = 0 ∨ f i < (gaS f nu i).1 then (f i, 1, upN (gaS f nu i).2.2 0 i)
    else if f i = (gaS f nu i).1 then ((gaS f nu i).1, (gaS f nu i).2.1 + 1, upN (gaS f nu i).2.2 (gaS f nu i).2.1 i) else gaS f nu i
theorem gaS_le (f nu : Nat → Nat) : ∀ i, (gaS f nu i).2.1 ≤ i
  | 0 => Nat.le_refl _
  | i + 1 => by
    have := gaS_le f nu i
    unfold gaS
    split
    · show 1 ≤ i + 1; omega
    · split
      · show (gaS f nu i).2.1 + 1 ≤ i + 1; omega
      · omega
theorem gaS_min {f nu : Nat → Nat} {B : Nat} (hB : 0 < B) (h : ∀ i, f i < B) : ∀ i, (gaS f nu i).1 < B
  | 0 => hB
  | i + 1 => by
    have := gaS_min (nu := nu) hB h i
    unfold gaS
    split
    · exact h i
    · split
      · exact this
      · exact this
theorem gaS_num {f nu : Nat → Nat} : ∀ i j, j < (gaS f nu i).2.1 → (gaS f nu i).2.2 j < i
  | 0, j, h => absurd h (Nat.not_lt_zero _)
  | i + 1, j, h => by
    have ih := gaS_num (f := f) (nu := nu) i
    unfold gaS at h ⊢
    split at h
    · rename_i hq
      rw [if_pos hq]
      have : j = 0 := by have h' : j < 1 := h; omega
      subst this
      show upN (gaS f nu i).2.2 0 i 0 < i + 1
      rw [upN_s]; omega
    · rename_i hq
      rw [if_neg hq]
      split at h
      · rename_i hq2
        rw [if_pos hq2]
        show upN (gaS f nu i).2.2 (gaS f nu i).2.1 i j < i + 1
        have h' : j < (gaS f nu i).2.1 + 1 := h
        by_cases e : j = (gaS f nu i).2.1
        · rw [e, upN_s]; omega
        · rw [upN_n e]
          have := ih j (by omega)
          omega
      · rename_i hq2
        rw [if_neg hq2]
        have := ih j h
        omega
def taI (sp : Nat → Nat) (t : Nat → Nat) : Nat → (Nat → Nat)
  | 0 => t
  | j + 1 => upN (taI sp t j) (sp j) (taI sp t j (sp j) + 1)
def taS (k : Nat) (nu t : Nat → Nat) : Nat → (Nat → Nat)
  | 0 => t
  | i + 1 => taI (spz k (nu i)) (taS k nu t i) (k - 3)
theorem spz_lt {k x i : Nat} (hk : k ≤ 7) : spz k x i < 128 := by
  have := (grR_I (x := x) hk (ch := cz) (s0 := tz) (od := cz) ⟨fun _ => (by decide : 0 < 128), rfl, fun _ => (by decide : 0 < 14), fun _ => (by decide : 0 < 14), fun _ => (by decide : 0 < 128), fun _ => (by decide : 0 < 14)⟩).2.2.2.2.1
  exact this _
set_option maxHeartbeats 1000000 in
theorem c_tally (hs : l.stackTraces = false) (nu ta : Nat → Nat) (cnt k : Nat) (ch : Nat → Nat) (s : trS) (se : Nat → Int64) (od : Nat → Nat) (inn : Nat) (hT : TrI ch s od) (hk3 : 3 ≤ k) (hk : k ≤ 7) (hc : cnt ≤ 945) (hnu : ∀ i, i < cnt → nu i < 945) :
    pm_Met l mX0_tallySplits 4 0 0 [.ref 0, .int (nI k), .ref 3] (fnW (nA nu) (nA ta) (nI cnt) ++ trAt' 3 ch s se od inn)
      (fun o w' => o = .inl none ∧ ∃ ch2 s2 se2 od2 inn2, TrI ch2 s2 od2 ∧ w' = fnW (nA nu) (nA (taS k nu (fun j => if j < 128 then 0 else ta j) cnt)) (nI cnt) ++ trAt' 3 ch2 s2 se2 od2 inn2) := by
  refine pm_Met.mk kX0_tallySplits hs (pm_J.run [] 20 (fun K hK => hK _ ?_))
  refine pm_J.cls [2] (fillI_go hs ta 128 (by decide) 0) gRX0_41 vJ7_fill_53178 ?_
  refine pm_J.run [10] 20 (fun K hK => hK _ ?_)
  generalize hO : (fun (o : pm_O) (w' : List pm_E) => o = .inl none ∧ ∃ ch2 s2 se2 od2 inn2, TrI ch2 s2 od2 ∧ w' = fnW (nA nu) (nA (taS k nu (fun j => if j < 128 then 0 else ta j) cnt)) (nI cnt) ++ trAt' 3 ch2 s2 se2 od2 inn2) = O
  have key : ∀ ch s se od inn, TrI ch s od → ∀ x4, pm_J l mX0_tallySplits iX0_tallySplits 4 0 0 10 O 0 0 (10, [some (.ref 0), some (.int (nI k)), some (.ref 3), some (.int (nI 0)), x4], [], fnW (nA nu) (nA (taS k nu (fun j => if j < 128 then 0 else ta j) 0)) (nI cnt) ++ trAt' 3 ch s se od inn) := by
    refine pm_up (b := cnt) (P := fun i => ∀ ch s se od inn, TrI ch s od → ∀ x4, pm_J l mX0_tallySplits iX0_tallySplits 4 0 0 10 O 0 0 (10, [some (.ref 0), some (.int (nI k)), some (.ref 3), some (.int (nI i)), x4], [], fnW (nA nu) (nA (taS k nu (fun j => if j < 128 then 0 else ta j) i)) (nI cnt) ++ trAt' 3 ch s se od inn)) 0 (Nat.zero_le _) (fun ch s se od inn hT x4 => ?_) (fun i h1 h2 ih ch s se od inn hT x4 => ?_)
    · refine pm_J.run [10] 20 (fun K hK => br_t (nI_le (Nat.le_refl _) (by omega)) (hK _ ?_))
      refine pm_J.rv ?_
      rw [← hO]
      exact ⟨rfl, ch, s, se, od, inn, hT, rfl⟩
    · have hni := hnu i h2
      have hT2 := grR_I (x := nu i) hk hT
      obtain ⟨u1, u2, u3, u4, u5, u6⟩ := id hT
      refine pm_J.run [10] 20 (fun K hK => br_f (nI_ge h2 (by omega)) (And.intro (vp_in_nI (by omega) (by decide)) (hK _ ?_)))
      rw [nI_clamp (by omega)]
      refine pm_J.cv [3, 4, 5, 6, 7, 8, 9] (fnW (nA nu) (nA (taS k nu (fun j => if j < 128 then 0 else ta j) i)) (nI cnt) ++ trAt' 3 (choF k (nu i) ch) (grR k (nu i) ch s od).1 se (grR k (nu i) ch s od).2 (k - 2)) (c_grow hs ch s se od inn (nu i) k u1 u2 ⟨u3.Bd, u4.Bd, u5⟩ (by omega) hk3 hk) gRX0_47 vX4_grow ?_
      refine pm_J.run [32] 20 (fun K hK => hK _ ?_)
      have inner : pm_J l mX0_tallySplits iX0_tallySplits 4 0 0 10 O 0 0 (32, [some (.ref 0), some (.int (nI k)), some (.ref 3), some (.int (nI i)), some (.int (nI 0))], [], fnW (nA nu) (nA (taI (spz k (nu i)) (taS k nu (fun j => if j < 128 then 0 else ta j) i) 0)) (nI cnt) ++ trAt' 3 (choF k (nu i) ch) (grR k (nu i) ch s od).1 se (grR k (nu i) ch s od).2 (k - 2)) := by
        refine pm_up (b := k - 3) (P := fun j => pm_J l mX0_tallySplits iX0_tallySplits 4 0 0 10 O 0 0 (32, [some (.ref 0), some (.int (nI k)), some (.ref 3), some (.int (nI i)), some (.int (nI j))], [], fnW (nA nu) (nA (taI (spz k (nu i)) (taS k nu (fun j => if j < 128 then 0 else ta j) i) j)) (nI cnt) ++ trAt' 3 (choF k (nu i) ch) (grR k (nu i) ch s od).1 se (grR k (nu i) ch s od).2 (k - 2))) 0 (Nat.zero_le _) ?_ (fun j g1 g2 ih2 => ?_)
        · refine pm_J.run [32] 20 (fun K hK => hK _ ?_)
          refine pm_J.cI [3, 4, 5, 6, 7, 8, 9] (c_splitCount hs (nA (choF k (nu i) ch)) (nA (grR k (nu i) ch s od).1.1) (nA (grR k (nu i) ch s od).1.2.1) (nA (grR k (nu i) ch s od).1.2.2) se (nA (grR k (nu i) ch s od).2) (k - 2) (by omega)) gRX0_51 vX4_splitCount ?_
          refine pm_J.run [10] 20 (fun K hK => br_t (nI_le (by omega) (by omega)) (hK _ ?_))
          have := ih _ _ se _ (k - 2) hT2 (some (.int (nI (k - 3))))
          rw [← nI_add i 1] at this
          exact this
        · refine pm_J.run [32] 20 (fun K hK => hK _ ?_)
          refine pm_J.cI [3, 4, 5, 6, 7, 8, 9] (c_splitCount hs (nA (choF k (nu i) ch)) (nA (grR k (nu i) ch s od).1.1) (nA (grR k (nu i) ch s od).1.2.1) (nA (grR k (nu i) ch s od).1.2.2) se (nA (grR k (nu i) ch s od).2) (k - 2) (by omega)) gRX0_51 vX4_splitCount ?_
          refine pm_J.run [32] 20 (fun K hK => br_f (nI_ge (a := j) (b := k - 2 - 1) (by omega) (by omega)) (hK _ ?_))
          refine pm_J.cI [3, 4, 5, 6, 7, 8, 9] (c_splitAt hs (nA (choF k (nu i) ch)) (nA (grR k (nu i) ch s od).1.1) (nA (grR k (nu i) ch s od).1.2.1) (grR k (nu i) ch s od).1.2.2 se (grR k (nu i) ch s od).2 (nI (k - 2)) j (by omega) hT2.2.2.2.2.2) gRX0_54 vX4_splitAt ?_
          rw [grR_sp u2 hk (by omega)]
          have hsp := spz_lt (k := k) (x := nu i) (i := j) hk
          refine pm_J.run [32] 20 (fun K hK => And.intro (vp_in_nI hsp (by decide)) (And.intro (vp_in_nI hsp (by decide)) (hK _ ?_)))
          rw [nI_clamp (by omega)]
          have e : taI (spz k (nu i)) (taS k nu (fun j => if j < 128 then 0 else ta j) i) (j + 1) = upN (taI (spz k (nu i)) (taS k nu (fun j => if j < 128 then 0 else ta j) i) j) (spz k (nu i) j) (taI (spz k (nu i)) (taS k nu (fun j => if j < 128 then 0 else ta j) i) j (spz k (nu i) j) + 1) := rfl
          rw [e, ← nA_upd, ← nI_add j 1, ← nI_add (taI (spz k (nu i)) (taS k nu (fun j => if j < 128 then 0 else ta j) i) j (spz k (nu i) j)) 1] at ih2
          exact ih2
      exact inner
  exact key ch s se od inn hT none
end FND
