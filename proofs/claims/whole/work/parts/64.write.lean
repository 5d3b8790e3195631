section WRI
def frcN (n : Nat) (f : Nat → Bool) : Bool := match n with
  | 0 => f 0
  | m + 1 => f (m + 1)
theorem frcN_eq (n : Nat) (f : Nat → Bool) : frcN n f = f n := by cases n <;> rfl
def frc : List Nat → (List Nat → Bool) → Bool
  | [], f => f []
  | a :: l, f => frcN a (fun a' => frc l (fun l' => f (a' :: l')))
theorem frc_eq : ∀ (l : List Nat) (f : List Nat → Bool), frc l f = f l
  | [], f => rfl
  | a :: l, f => by rw [frc, frcN_eq, frc_eq l]
def ltF (F : List Nat) : Nat → Nat := fun i => F.getD i 0
def wrC (k : Nat) (A B : List Nat) : Bool := match wrA (ltF B) B.length k 100 zz zz with
  | none => false
  | some z => Nat.beq z.1 (flF (ltF A) A.length k cz).2 && (Nat.ble z.1 24 && (List.range z.1).all (fun j => Nat.beq (z.2.1 j) ((flF (ltF A) A.length k cz).1 j) && Nat.blt (z.2.1 j) 65536))
def wtC (k x : Nat) : Bool := frc (spl (spz k x) (k - 3)) (fun A => frc (spl (spW k x).2 (k - 3)) (fun B => wrC k A B))
/-- all families of splits that go together, smallest first -/
def dfs (k : Nat) : List Nat → List Nat → Bool
  | [], F => wrC k F F && Nat.ble F.length 7
  | s :: l, F => dfs k l F && (if F.all (cpt s) then frc (F ++ [s]) (fun F' => dfs k l F') else true)
def cnd (k : Nat) : List Nat := (List.range 128).filter (okSp k)
theorem dfs_use {k : Nat} {p : Nat → Bool} : ∀ (l F : List Nat), dfs k l F = true → (∀ s t, s ∈ F ∨ (s ∈ l ∧ p s = true) → t ∈ F ∨ (t ∈ l ∧ p t = true) → cpt s t = true) → (wrC k (F ++ l.filter p) (F ++ l.filter p) && Nat.ble (F ++ l.filter p).length 7) = true
  | [], F, h, _ => by rw [List.filter_nil, List.append_nil]; exact h
  | s :: l, F, h, hc => by
    rw [dfs, Bool.and_eq_true] at h
    rw [List.filter_cons]
    by_cases hp : p s = true
    · rw [if_pos hp]
      have hF : F.all (cpt s) = true := List.all_eq_true.mpr (fun t ht => hc s t (Or.inr ⟨List.mem_cons_self, hp⟩) (Or.inl ht))
      have h2 := h.2
      rw [if_pos hF, frc_eq] at h2
      have := dfs_use (p := p) l (F ++ [s]) h2 (fun a b ha hb => hc a b ?_ ?_)
      · rw [List.append_assoc] at this
        exact this
      · rcases ha with ha | ha
        · rcases List.mem_append.mp ha with ha | ha
          · exact Or.inl ha
          · exact Or.inr ⟨List.mem_cons.mpr (Or.inl (List.mem_singleton.mp ha)), by rw [List.mem_singleton.mp ha]; exact hp⟩
        · exact Or.inr ⟨List.mem_cons_of_mem _ ha.1, ha.2⟩
      · rcases hb with ha | ha
        · rcases List.mem_append.mp ha with ha | ha
          · exact Or.inl ha
          · exact Or.inr ⟨List.mem_cons.mpr (Or.inl (List.mem_singleton.mp ha)), by rw [List.mem_singleton.mp ha]; exact hp⟩
        · exact Or.inr ⟨List.mem_cons_of_mem _ ha.1, ha.2⟩
    · rw [if_neg hp]
      exact dfs_use l F h.1 (fun a b ha hb => hc a b (ha.imp id (fun z => ⟨List.mem_cons_of_mem _ z.1, z.2⟩)) (hb.imp id (fun z => ⟨List.mem_cons_of_mem _ z.1, z.2⟩)))
/-- pages alike as far as they are written -/
def PgA (s s' : pgS) : Prop := s.2 = s'.2 ∧ Ag s.2 s.1 s'.1
theorem put_ag {s s' : pgS} (h : PgA s s') (v : Nat) : PgA (putF s v) (putF s' v) := by
  obtain ⟨h1, h2⟩ := h
  unfold putF
  rw [← h1]
  split
  · exact ⟨rfl, h2.up v⟩
  · exact ⟨h1, h2⟩
theorem wg_ag {gr gr' : Nat → Nat} {S kd : Nat} : ∀ n, (∀ i, i < n → gr i = gr' i) → wgF gr S kd n = wgF gr' S kd n
  | 0, _ => rfl
  | n + 1, h => by rw [wgF, wgF, wg_ag n (fun i hi => h i (by omega)), h n (by omega)]
theorem sbT_ag {rec rec' : Nat → pgS → pgS} (hr : ∀ S s s', PgA s s' → PgA (rec S s) (rec' S s')) {gr gr' : Nat → Nat} {gc : Nat} (h : ∀ i, i < gc → gr i = gr' i) (S : Nat) {z z' : Nat × pgS} (hz : z.1 = z'.1 ∧ PgA z.2 z'.2) (kd : Nat) : (sbT rec gr gc S z kd).1 = (sbT rec' gr' gc S z' kd).1 ∧ PgA (sbT rec gr gc S z kd).2 (sbT rec' gr' gc S z' kd).2 := by
  unfold sbT
  rw [wg_ag gc h, hz.1]
  have hc : PgA (if z'.1 = S then z.2 else putF z.2 44) (if z'.1 = S then z'.2 else putF z'.2 44) := by
    split
    · exact hz.2
    · exact put_ag hz.2 44
  split
  · exact ⟨hz.1, hz.2⟩
  · refine ⟨rfl, ?_⟩
    dsimp only
    split
    · exact put_ag hc _
    · exact put_ag (hr _ _ _ (put_ag hc 40)) 41
theorem sbL_ag {rec rec' : Nat → pgS → pgS} (hr : ∀ S s s', PgA s s' → PgA (rec S s) (rec' S s')) {gr gr' : Nat → Nat} {gc : Nat} (h : ∀ i, i < gc → gr i = gr' i) (S : Nat) {s s' : pgS} (hs : PgA s s') : ∀ kd, (sbL rec gr gc S s kd).1 = (sbL rec' gr' gc S s' kd).1 ∧ PgA (sbL rec gr gc S s kd).2 (sbL rec' gr' gc S s' kd).2
  | 0 => ⟨rfl, hs⟩
  | kd + 1 => sbT_ag hr h S (sbL_ag hr h S hs kd) kd
theorem sbF_ag {gr gr' : Nat → Nat} {gc : Nat} (h : ∀ i, i < gc → gr i = gr' i) : ∀ f S s s', PgA s s' → PgA (sbF gr gc f S s) (sbF gr' gc f S s')
  | 0, S, s, s', hs => hs
  | f + 1, S, s, s', hs => (sbL_ag (sbF_ag h f) h S hs 7).2
theorem flF_ag {gr gr' : Nat → Nat} {gc : Nat} (h : ∀ i, i < gc → gr i = gr' i) (k : Nat) (sg sg' : Nat → Nat) : PgA (flF gr gc k sg) (flF gr' gc k sg') := by
  have h0 : PgA (sg, 0) (sg', 0) := ⟨rfl, fun j hj => by omega⟩
  exact put_ag (put_ag (sbF_ag h 7 _ _ _ (put_ag (put_ag (put_ag h0 40) 97) 44)) 41) 59
/-- what both write -/
theorem wrC_use {k : Nat} {A B : List Nat} (h : wrC k A B = true) {gr e sg : Nat → Nat} {gc ne : Nat} (hg : gc = A.length) (hn : ne = B.length) (ha : ∀ i, i < gc → gr i = ltF A i) (hb : ∀ i, i < ne → e i = ltF B i) :
    ∃ z, wrA e ne k 100 zz zz = some z ∧ z.1 = (flF gr gc k sg).2 ∧ z.1 ≤ 24 ∧ ∀ j, j < z.1 → z.2.1 j = (flF gr gc k sg).1 j ∧ z.2.1 j < 65536 := by
  subst hg hn
  unfold wrC at h
  split at h
  · cases h
  · rename_i z hz
    simp only [Bool.and_eq_true, List.all_eq_true, List.mem_range] at h
    obtain ⟨h1, h2, h3⟩ := h
    obtain ⟨y, g1, g2, g3⟩ := wrA_ag hb k 100 zz zz zz zz z hz
    have h1 := Nat.eq_of_beq_eq_true h1
    obtain ⟨p1, p2⟩ := flF_ag ha k sg cz
    refine ⟨y, g1, by rw [g2, h1, p1], by rw [g2]; exact Nat.le_of_ble_eq_true h2, fun j hj => ?_⟩
    rw [g2] at hj
    have h4 := h3 j hj
    have h5 := Nat.eq_of_beq_eq_true h4.1
    rw [g3 j hj]
    exact ⟨by rw [h5, p2 j (by rw [p1, ← h1]; exact hj)], Nat.blt_eq.mp h4.2⟩
/-- all 945 trees of seven kinds, in nine parts -/
theorem all_945 {P : Nat → Bool} (h0 : (List.range 105).all (fun j => P (0 + j)) = true) (h1 : (List.range 105).all (fun j => P (105 + j)) = true) (h2 : (List.range 105).all (fun j => P (210 + j)) = true) (h3 : (List.range 105).all (fun j => P (315 + j)) = true) (h4 : (List.range 105).all (fun j => P (420 + j)) = true) (h5 : (List.range 105).all (fun j => P (525 + j)) = true) (h6 : (List.range 105).all (fun j => P (630 + j)) = true) (h7 : (List.range 105).all (fun j => P (735 + j)) = true) (h8 : (List.range 105).all (fun j => P (840 + j)) = true) : (List.range 945).all P = true := by
  rw [List.all_eq_true]
  intro x hx
  have hx := List.mem_range.mp hx
  have key : ∀ b, (List.range 105).all (fun j => P (b + j)) = true → b ≤ x → x < b + 105 → P x = true := by
    intro b h g1 g2
    have := List.all_eq_true.mp h (x - b) (List.mem_range.mpr (by omega))
    rwa [show b + (x - b) = x by omega] at this
  by_cases a0 : x < 105
  · exact key 0 h0 (by omega) (by omega)
  by_cases a1 : x < 210
  · exact key 105 h1 (by omega) (by omega)
  by_cases a2 : x < 315
  · exact key 210 h2 (by omega) (by omega)
  by_cases a3 : x < 420
  · exact key 315 h3 (by omega) (by omega)
  by_cases a4 : x < 525
  · exact key 420 h4 (by omega) (by omega)
  by_cases a5 : x < 630
  · exact key 525 h5 (by omega) (by omega)
  by_cases a6 : x < 735
  · exact key 630 h6 (by omega) (by omega)
  by_cases a7 : x < 840
  · exact key 735 h7 (by omega) (by omega)
  exact key 840 h8 (by omega) (by omega)
theorem wt_3 : (List.range 1).all (wtC 3) = true := by decide +kernel
theorem wt_4 : (List.range 3).all (wtC 4) = true := by decide +kernel
theorem wt_5 : (List.range 15).all (wtC 5) = true := by decide +kernel
theorem wt_6 : (List.range 105).all (wtC 6) = true := by decide +kernel
theorem wq_0 : (List.range 105).all (fun j => wtC 7 (0 + j)) = true := by decide +kernel
theorem wq_1 : (List.range 105).all (fun j => wtC 7 (105 + j)) = true := by decide +kernel
theorem wq_2 : (List.range 105).all (fun j => wtC 7 (210 + j)) = true := by decide +kernel
theorem wq_3 : (List.range 105).all (fun j => wtC 7 (315 + j)) = true := by decide +kernel
theorem wq_4 : (List.range 105).all (fun j => wtC 7 (420 + j)) = true := by decide +kernel
theorem wq_5 : (List.range 105).all (fun j => wtC 7 (525 + j)) = true := by decide +kernel
theorem wq_6 : (List.range 105).all (fun j => wtC 7 (630 + j)) = true := by decide +kernel
theorem wq_7 : (List.range 105).all (fun j => wtC 7 (735 + j)) = true := by decide +kernel
theorem wq_8 : (List.range 105).all (fun j => wtC 7 (840 + j)) = true := by decide +kernel
theorem wt_7 : (List.range 945).all (wtC 7) = true := all_945 wq_0 wq_1 wq_2 wq_3 wq_4 wq_5 wq_6 wq_7 wq_8
theorem df_3 : frc (cnd 3) (fun c => dfs 3 c []) = true := by decide +kernel
theorem df_4 : frc (cnd 4) (fun c => dfs 4 c []) = true := by decide +kernel
theorem df_5 : frc (cnd 5) (fun c => dfs 5 c []) = true := by decide +kernel
theorem df_6 : frc (cnd 6) (fun c => dfs 6 c []) = true := by decide +kernel
theorem dfs_c {k c : Nat} {l F : List Nat} (h1 : dfs k l F = true) (h2 : dfs k l (F ++ [c]) = true) : dfs k (c :: l) F = true := by
  rw [dfs, h1, Bool.true_and]
  split
  · rw [frc_eq]; exact h2
  · rfl
theorem x7_0 : dfs 7 [10, 12, 14, 18, 20, 22, 24, 26, 28, 30, 34, 36, 38, 40, 42, 44, 46, 48, 50, 52, 54, 56, 58, 60, 62, 66, 68, 70, 72, 74, 76, 78, 80, 82, 84, 86, 88, 90, 92, 94, 96, 98, 100, 102, 104, 106, 108, 110, 112, 114, 116, 118, 120, 122, 124] [6] = true := by decide +kernel
theorem x7_1 : dfs 7 [12, 14, 18, 20, 22, 24, 26, 28, 30, 34, 36, 38, 40, 42, 44, 46, 48, 50, 52, 54, 56, 58, 60, 62, 66, 68, 70, 72, 74, 76, 78, 80, 82, 84, 86, 88, 90, 92, 94, 96, 98, 100, 102, 104, 106, 108, 110, 112, 114, 116, 118, 120, 122, 124] [10] = true := by decide +kernel
theorem x7_2 : dfs 7 [14, 18, 20, 22, 24, 26, 28, 30, 34, 36, 38, 40, 42, 44, 46, 48, 50, 52, 54, 56, 58, 60, 62, 66, 68, 70, 72, 74, 76, 78, 80, 82, 84, 86, 88, 90, 92, 94, 96, 98, 100, 102, 104, 106, 108, 110, 112, 114, 116, 118, 120, 122, 124] [12] = true := by decide +kernel
theorem x7_3 : dfs 7 [18, 20, 22, 24, 26, 28, 30, 34, 36, 38, 40, 42, 44, 46, 48, 50, 52, 54, 56, 58, 60, 62, 66, 68, 70, 72, 74, 76, 78, 80, 82, 84, 86, 88, 90, 92, 94, 96, 98, 100, 102, 104, 106, 108, 110, 112, 114, 116, 118, 120, 122, 124] [14] = true := by decide +kernel
theorem x7_4 : dfs 7 [20, 22, 24, 26, 28, 30, 34, 36, 38, 40, 42, 44, 46, 48, 50, 52, 54, 56, 58, 60, 62, 66, 68, 70, 72, 74, 76, 78, 80, 82, 84, 86, 88, 90, 92, 94, 96, 98, 100, 102, 104, 106, 108, 110, 112, 114, 116, 118, 120, 122, 124] [18] = true := by decide +kernel
theorem x7_5 : dfs 7 [22, 24, 26, 28, 30, 34, 36, 38, 40, 42, 44, 46, 48, 50, 52, 54, 56, 58, 60, 62, 66, 68, 70, 72, 74, 76, 78, 80, 82, 84, 86, 88, 90, 92, 94, 96, 98, 100, 102, 104, 106, 108, 110, 112, 114, 116, 118, 120, 122, 124] [20] = true := by decide +kernel
theorem x7_6 : dfs 7 [24, 26, 28, 30, 34, 36, 38, 40, 42, 44, 46, 48, 50, 52, 54, 56, 58, 60, 62, 66, 68, 70, 72, 74, 76, 78, 80, 82, 84, 86, 88, 90, 92, 94, 96, 98, 100, 102, 104, 106, 108, 110, 112, 114, 116, 118, 120, 122, 124] [22] = true := by decide +kernel
theorem x7_7 : dfs 7 [26, 28, 30, 34, 36, 38, 40, 42, 44, 46, 48, 50, 52, 54, 56, 58, 60, 62, 66, 68, 70, 72, 74, 76, 78, 80, 82, 84, 86, 88, 90, 92, 94, 96, 98, 100, 102, 104, 106, 108, 110, 112, 114, 116, 118, 120, 122, 124] [24] = true := by decide +kernel
theorem x7_8 : dfs 7 [28, 30, 34, 36, 38, 40, 42, 44, 46, 48, 50, 52, 54, 56, 58, 60, 62, 66, 68, 70, 72, 74, 76, 78, 80, 82, 84, 86, 88, 90, 92, 94, 96, 98, 100, 102, 104, 106, 108, 110, 112, 114, 116, 118, 120, 122, 124] [26] = true := by decide +kernel
theorem x7_9 : dfs 7 [30, 34, 36, 38, 40, 42, 44, 46, 48, 50, 52, 54, 56, 58, 60, 62, 66, 68, 70, 72, 74, 76, 78, 80, 82, 84, 86, 88, 90, 92, 94, 96, 98, 100, 102, 104, 106, 108, 110, 112, 114, 116, 118, 120, 122, 124] [28] = true := by decide +kernel
theorem x7_10 : dfs 7 [34, 36, 38, 40, 42, 44, 46, 48, 50, 52, 54, 56, 58, 60, 62, 66, 68, 70, 72, 74, 76, 78, 80, 82, 84, 86, 88, 90, 92, 94, 96, 98, 100, 102, 104, 106, 108, 110, 112, 114, 116, 118, 120, 122, 124] [30] = true := by decide +kernel
theorem x7_11 : dfs 7 [36, 38, 40, 42, 44, 46, 48, 50, 52, 54, 56, 58, 60, 62, 66, 68, 70, 72, 74, 76, 78, 80, 82, 84, 86, 88, 90, 92, 94, 96, 98, 100, 102, 104, 106, 108, 110, 112, 114, 116, 118, 120, 122, 124] [34] = true := by decide +kernel
theorem x7_12 : dfs 7 [38, 40, 42, 44, 46, 48, 50, 52, 54, 56, 58, 60, 62, 66, 68, 70, 72, 74, 76, 78, 80, 82, 84, 86, 88, 90, 92, 94, 96, 98, 100, 102, 104, 106, 108, 110, 112, 114, 116, 118, 120, 122, 124] [36] = true := by decide +kernel
theorem x7_13 : dfs 7 [40, 42, 44, 46, 48, 50, 52, 54, 56, 58, 60, 62, 66, 68, 70, 72, 74, 76, 78, 80, 82, 84, 86, 88, 90, 92, 94, 96, 98, 100, 102, 104, 106, 108, 110, 112, 114, 116, 118, 120, 122, 124] [38] = true := by decide +kernel
theorem x7_14 : dfs 7 [42, 44, 46, 48, 50, 52, 54, 56, 58, 60, 62, 66, 68, 70, 72, 74, 76, 78, 80, 82, 84, 86, 88, 90, 92, 94, 96, 98, 100, 102, 104, 106, 108, 110, 112, 114, 116, 118, 120, 122, 124] [40] = true := by decide +kernel
theorem x7_15 : dfs 7 [44, 46, 48, 50, 52, 54, 56, 58, 60, 62, 66, 68, 70, 72, 74, 76, 78, 80, 82, 84, 86, 88, 90, 92, 94, 96, 98, 100, 102, 104, 106, 108, 110, 112, 114, 116, 118, 120, 122, 124] [42] = true := by decide +kernel
theorem x7_16 : dfs 7 [46, 48, 50, 52, 54, 56, 58, 60, 62, 66, 68, 70, 72, 74, 76, 78, 80, 82, 84, 86, 88, 90, 92, 94, 96, 98, 100, 102, 104, 106, 108, 110, 112, 114, 116, 118, 120, 122, 124] [44] = true := by decide +kernel
theorem x7_17 : dfs 7 [48, 50, 52, 54, 56, 58, 60, 62, 66, 68, 70, 72, 74, 76, 78, 80, 82, 84, 86, 88, 90, 92, 94, 96, 98, 100, 102, 104, 106, 108, 110, 112, 114, 116, 118, 120, 122, 124] [46] = true := by decide +kernel
theorem x7_18 : dfs 7 [50, 52, 54, 56, 58, 60, 62, 66, 68, 70, 72, 74, 76, 78, 80, 82, 84, 86, 88, 90, 92, 94, 96, 98, 100, 102, 104, 106, 108, 110, 112, 114, 116, 118, 120, 122, 124] [48] = true := by decide +kernel
theorem x7_19 : dfs 7 [52, 54, 56, 58, 60, 62, 66, 68, 70, 72, 74, 76, 78, 80, 82, 84, 86, 88, 90, 92, 94, 96, 98, 100, 102, 104, 106, 108, 110, 112, 114, 116, 118, 120, 122, 124] [50] = true := by decide +kernel
theorem x7_20 : dfs 7 [54, 56, 58, 60, 62, 66, 68, 70, 72, 74, 76, 78, 80, 82, 84, 86, 88, 90, 92, 94, 96, 98, 100, 102, 104, 106, 108, 110, 112, 114, 116, 118, 120, 122, 124] [52] = true := by decide +kernel
theorem x7_21 : dfs 7 [56, 58, 60, 62, 66, 68, 70, 72, 74, 76, 78, 80, 82, 84, 86, 88, 90, 92, 94, 96, 98, 100, 102, 104, 106, 108, 110, 112, 114, 116, 118, 120, 122, 124] [54] = true := by decide +kernel
theorem x7_22 : dfs 7 [58, 60, 62, 66, 68, 70, 72, 74, 76, 78, 80, 82, 84, 86, 88, 90, 92, 94, 96, 98, 100, 102, 104, 106, 108, 110, 112, 114, 116, 118, 120, 122, 124] [56] = true := by decide +kernel
theorem x7_23 : dfs 7 [60, 62, 66, 68, 70, 72, 74, 76, 78, 80, 82, 84, 86, 88, 90, 92, 94, 96, 98, 100, 102, 104, 106, 108, 110, 112, 114, 116, 118, 120, 122, 124] [58] = true := by decide +kernel
theorem x7_24 : dfs 7 [62, 66, 68, 70, 72, 74, 76, 78, 80, 82, 84, 86, 88, 90, 92, 94, 96, 98, 100, 102, 104, 106, 108, 110, 112, 114, 116, 118, 120, 122, 124] [60] = true := by decide +kernel
theorem x7_25 : dfs 7 [66, 68, 70, 72, 74, 76, 78, 80, 82, 84, 86, 88, 90, 92, 94, 96, 98, 100, 102, 104, 106, 108, 110, 112, 114, 116, 118, 120, 122, 124] [62] = true := by decide +kernel
theorem x7_26 : dfs 7 [68, 70, 72, 74, 76, 78, 80, 82, 84, 86, 88, 90, 92, 94, 96, 98, 100, 102, 104, 106, 108, 110, 112, 114, 116, 118, 120, 122, 124] [66] = true := by decide +kernel
theorem x7_27 : dfs 7 [70, 72, 74, 76, 78, 80, 82, 84, 86, 88, 90, 92, 94, 96, 98, 100, 102, 104, 106, 108, 110, 112, 114, 116, 118, 120, 122, 124] [68] = true := by decide +kernel
theorem x7_28 : dfs 7 [72, 74, 76, 78, 80, 82, 84, 86, 88, 90, 92, 94, 96, 98, 100, 102, 104, 106, 108, 110, 112, 114, 116, 118, 120, 122, 124] [70] = true := by decide +kernel
theorem x7_29 : dfs 7 [74, 76, 78, 80, 82, 84, 86, 88, 90, 92, 94, 96, 98, 100, 102, 104, 106, 108, 110, 112, 114, 116, 118, 120, 122, 124] [72] = true := by decide +kernel
theorem x7_30 : dfs 7 [76, 78, 80, 82, 84, 86, 88, 90, 92, 94, 96, 98, 100, 102, 104, 106, 108, 110, 112, 114, 116, 118, 120, 122, 124] [74] = true := by decide +kernel
theorem x7_31 : dfs 7 [78, 80, 82, 84, 86, 88, 90, 92, 94, 96, 98, 100, 102, 104, 106, 108, 110, 112, 114, 116, 118, 120, 122, 124] [76] = true := by decide +kernel
theorem x7_32 : dfs 7 [80, 82, 84, 86, 88, 90, 92, 94, 96, 98, 100, 102, 104, 106, 108, 110, 112, 114, 116, 118, 120, 122, 124] [78] = true := by decide +kernel
theorem x7_33 : dfs 7 [82, 84, 86, 88, 90, 92, 94, 96, 98, 100, 102, 104, 106, 108, 110, 112, 114, 116, 118, 120, 122, 124] [80] = true := by decide +kernel
theorem x7_34 : dfs 7 [84, 86, 88, 90, 92, 94, 96, 98, 100, 102, 104, 106, 108, 110, 112, 114, 116, 118, 120, 122, 124] [82] = true := by decide +kernel
theorem x7_35 : dfs 7 [86, 88, 90, 92, 94, 96, 98, 100, 102, 104, 106, 108, 110, 112, 114, 116, 118, 120, 122, 124] [84] = true := by decide +kernel
theorem x7_36 : dfs 7 [88, 90, 92, 94, 96, 98, 100, 102, 104, 106, 108, 110, 112, 114, 116, 118, 120, 122, 124] [86] = true := by decide +kernel
theorem x7_37 : dfs 7 [90, 92, 94, 96, 98, 100, 102, 104, 106, 108, 110, 112, 114, 116, 118, 120, 122, 124] [88] = true := by decide +kernel
theorem x7_38 : dfs 7 [92, 94, 96, 98, 100, 102, 104, 106, 108, 110, 112, 114, 116, 118, 120, 122, 124] [90] = true := by decide +kernel
theorem x7_39 : dfs 7 [94, 96, 98, 100, 102, 104, 106, 108, 110, 112, 114, 116, 118, 120, 122, 124] [92] = true := by decide +kernel
theorem x7_40 : dfs 7 [96, 98, 100, 102, 104, 106, 108, 110, 112, 114, 116, 118, 120, 122, 124] [94] = true := by decide +kernel
theorem x7_41 : dfs 7 [98, 100, 102, 104, 106, 108, 110, 112, 114, 116, 118, 120, 122, 124] [96] = true := by decide +kernel
theorem x7_42 : dfs 7 [100, 102, 104, 106, 108, 110, 112, 114, 116, 118, 120, 122, 124] [98] = true := by decide +kernel
theorem x7_43 : dfs 7 [102, 104, 106, 108, 110, 112, 114, 116, 118, 120, 122, 124] [100] = true := by decide +kernel
theorem x7_44 : dfs 7 [104, 106, 108, 110, 112, 114, 116, 118, 120, 122, 124] [102] = true := by decide +kernel
theorem x7_45 : dfs 7 [106, 108, 110, 112, 114, 116, 118, 120, 122, 124] [104] = true := by decide +kernel
theorem x7_46 : dfs 7 [108, 110, 112, 114, 116, 118, 120, 122, 124] [106] = true := by decide +kernel
theorem x7_47 : dfs 7 [110, 112, 114, 116, 118, 120, 122, 124] [108] = true := by decide +kernel
theorem x7_48 : dfs 7 [112, 114, 116, 118, 120, 122, 124] [110] = true := by decide +kernel
theorem x7_49 : dfs 7 [114, 116, 118, 120, 122, 124] [112] = true := by decide +kernel
theorem x7_50 : dfs 7 [116, 118, 120, 122, 124] [114] = true := by decide +kernel
theorem x7_51 : dfs 7 [118, 120, 122, 124] [116] = true := by decide +kernel
theorem x7_52 : dfs 7 [120, 122, 124] [118] = true := by decide +kernel
theorem x7_53 : dfs 7 [122, 124] [120] = true := by decide +kernel
theorem x7_54 : dfs 7 [124] [122] = true := by decide +kernel
theorem x7_55 : dfs 7 [] [124] = true := by decide +kernel
theorem x7_e : dfs 7 [] [] = true := by decide +kernel
theorem cnd_7 : cnd 7 = [6, 10, 12, 14, 18, 20, 22, 24, 26, 28, 30, 34, 36, 38, 40, 42, 44, 46, 48, 50, 52, 54, 56, 58, 60, 62, 66, 68, 70, 72, 74, 76, 78, 80, 82, 84, 86, 88, 90, 92, 94, 96, 98, 100, 102, 104, 106, 108, 110, 112, 114, 116, 118, 120, 122, 124] := by decide +kernel
theorem x7_all : dfs 7 [6, 10, 12, 14, 18, 20, 22, 24, 26, 28, 30, 34, 36, 38, 40, 42, 44, 46, 48, 50, 52, 54, 56, 58, 60, 62, 66, 68, 70, 72, 74, 76, 78, 80, 82, 84, 86, 88, 90, 92, 94, 96, 98, 100, 102, 104, 106, 108, 110, 112, 114, 116, 118, 120, 122, 124] [] = true := (dfs_c (dfs_c (dfs_c (dfs_c (dfs_c (dfs_c (dfs_c (dfs_c (dfs_c (dfs_c (dfs_c (dfs_c (dfs_c (dfs_c (dfs_c (dfs_c (dfs_c (dfs_c (dfs_c (dfs_c (dfs_c (dfs_c (dfs_c (dfs_c (dfs_c (dfs_c (dfs_c (dfs_c (dfs_c (dfs_c (dfs_c (dfs_c (dfs_c (dfs_c (dfs_c (dfs_c (dfs_c (dfs_c (dfs_c (dfs_c (dfs_c (dfs_c (dfs_c (dfs_c (dfs_c (dfs_c (dfs_c (dfs_c (dfs_c (dfs_c (dfs_c (dfs_c (dfs_c (dfs_c (dfs_c (dfs_c x7_e x7_55) x7_54) x7_53) x7_52) x7_51) x7_50) x7_49) x7_48) x7_47) x7_46) x7_45) x7_44) x7_43) x7_42) x7_41) x7_40) x7_39) x7_38) x7_37) x7_36) x7_35) x7_34) x7_33) x7_32) x7_31) x7_30) x7_29) x7_28) x7_27) x7_26) x7_25) x7_24) x7_23) x7_22) x7_21) x7_20) x7_19) x7_18) x7_17) x7_16) x7_15) x7_14) x7_13) x7_12) x7_11) x7_10) x7_9) x7_8) x7_7) x7_6) x7_5) x7_4) x7_3) x7_2) x7_1) x7_0)
theorem df_7 : frc (cnd 7) (fun c => dfs 7 c []) = true := by rw [frc_eq, cnd_7]; exact x7_all
theorem spl_len (f : Nat → Nat) (n : Nat) : (spl f n).length = n := by simp [spl]
theorem spl_at {f : Nat → Nat} {n i : Nat} (h : i < n) : ltF (spl f n) i = f i := by simp [ltF, spl, h]
theorem agF_at (sp gr : Nat → Nat) : ∀ n i, i < n → agF sp gr n i = sp i
  | n + 1, i, h => by
    rw [agF]
    by_cases e : i = n
    · subst e; rw [upN_s]
    · rw [upN_n e, agF_at sp gr n i (by omega)]
theorem wt_ok {k x : Nat} (hk3 : 3 ≤ k) (hk : k ≤ 7) (hx : x < tcount k) (gr sg : Nat → Nat) :
    ∃ z, wrA (spW k x).2 (spW k x).1 k 100 zz zz = some z ∧ z.1 = (flF (agF (spz k x) gr (k - 3)) (k - 3) k sg).2 ∧ z.1 ≤ 24 ∧ ∀ j, j < z.1 → z.2.1 j = (flF (agF (spz k x) gr (k - 3)) (k - 3) k sg).1 j ∧ z.2.1 j < 65536 := by
  have h := all_trees wt_3 wt_4 wt_5 wt_6 wt_7 hk3 hk hx
  unfold wtC at h
  rw [frc_eq, frc_eq] at h
  obtain ⟨f1, -⟩ := spf hk3 hk hx
  rw [f1]
  exact wrC_use h (spl_len _ _).symm (spl_len _ _).symm (fun i hi => by rw [spl_at hi, agF_at _ _ _ _ hi]) (fun i hi => by rw [spl_at hi])
theorem df_ok {k : Nat} (hk3 : 3 ≤ k) (hk : k ≤ 7) : dfs k (cnd k) [] = true := by
  have hk' : k = 3 ∨ k = 4 ∨ k = 5 ∨ k = 6 ∨ k = 7 := by omega
  rcases hk' with rfl | rfl | rfl | rfl | rfl
  · have := df_3; rwa [frc_eq] at this
  · have := df_4; rwa [frc_eq] at this
  · have := df_5; rwa [frc_eq] at this
  · have := df_6; rwa [frc_eq] at this
  · have := df_7; rwa [frc_eq] at this
end WRI
