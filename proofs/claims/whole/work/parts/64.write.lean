section WRI
def frcN (n : Nat) (f : Nat → Bool) : Bool := match n with
  | 0 => f 0
  | m + 1 => f (m + 1)
theorem frcN_eq (n : Nat) (f : Nat → Bool) : frcN n f = f n := by cases n <;> rfl
def frc : List Nat → (List Nat → Bool) → Bool
  | [], f => f []
  | a :: l, f => frcN a (fun a' => frc l (fun l' => f (a' :: l')))
theorem frc_eq : ∀ (l : List Nat) (f : List Nat → Bool), frc l f = f l
  | [], f => rfl
  | a :: l, f => by rw [frc, frcN_eq, frc_eq l]
def ltF (F : List Nat) : Nat → Nat := fun i => F.getD i 0
def wrC (k : Nat) (A B : List Nat) : Bool := match wrA (ltF B) B.length k 100 zz zz with
  | none => false
  | some z => Nat.beq z.1 (flF (ltF A) A.length k cz).2 && (Nat.ble z.1 24 && (List.range z.1).all (fun j => Nat.beq (z.2.1 j) ((flF (ltF A) A.length k cz).1 j) && Nat.blt (z.2.1 j) 65536))
def wtC (k x : Nat) : Bool := frc (spl (spz k x) (k - 3)) (fun A => frc (spl (spW k x).2 (k - 3)) (fun B => wrC k A B))
/-- all families of splits that go together, smallest first -/
def dfs (k : Nat) : List Nat → List Nat → Bool
  | [], F => wrC k F F && Nat.ble F.length 7
  | s :: l, F => dfs k l F && (if F.all (cpt s) then frc (F ++ [s]) (fun F' => dfs k l F') else true)
def cnd (k : Nat) : List Nat := (List.range 128).filter (okSp k)
theorem dfs_use {k : Nat} {p : Nat → Bool} : ∀ (l F : List Nat), dfs k l F = true → (∀ s t, s ∈ F ∨ (s ∈ l ∧ p s = true) → t ∈ F ∨ (t ∈ l ∧ p t = true) → cpt s t = true) → (wrC k (F ++ l.filter p) (F ++ l.filter p) && Nat.ble (F ++ l.filter p).length 7) = true
  | [], F, h, _ => by rw [List.filter_nil, List.append_nil]; exact h
  | s :: l, F, h, hc => by
    rw [dfs, Bool.and_eq_true] at h
    rw [List.filter_cons]
    by_cases hp : p s = true
    · rw [if_pos hp]
      have hF : F.all (cpt s) = true := List.all_eq_true.mpr (fun t ht => hc s t (Or.inr ⟨List.mem_cons_self, hp⟩) (Or.inl ht))
      have h2 := h.2
      rw [if_pos hF, frc_eq] at h2
      have := dfs_use (p := p) l (F ++ [s]) h2 (fun a b ha hb => hc a b ?_ ?_)
      · rw [List.append_assoc] at this
        exact this
      · rcases ha with ha | ha
        · rcases List.mem_append.mp ha with ha | ha
          · exact Or.inl ha
          · exact Or.inr ⟨List.mem_cons.mpr (Or.inl (List.mem_singleton.mp ha)), by rw [List.mem_singleton.mp ha]; exact hp⟩
        · exact Or.inr ⟨List.mem_cons_of_mem _ ha.1, ha.2⟩
      · rcases hb with ha | ha
        · rcases List.mem_append.mp ha with ha | ha
          · exact Or.inl ha
          · exact Or.inr ⟨List.mem_cons.mpr (Or.inl (List.mem_singleton.mp ha)), by rw [List.mem_singleton.mp ha]; exact hp⟩
        · exact Or.inr ⟨List.mem_cons_of_mem _ ha.1, ha.2⟩
    · rw [if_neg hp]
      exact dfs_use l F h.1 (fun a b ha hb => hc a b (ha.imp id (fun z => ⟨List.mem_cons_of_mem _ z.1, z.2⟩)) (hb.imp id (fun z => ⟨List.mem_cons_of_mem _ z.1, z.2⟩)))
/-- pages alike as far as they are written -/
def PgA (s s' : pgS) : Prop := s.2 = s'.2 ∧ Ag s.2 s.1 s'.1
theorem put_ag {s s' : pgS} (h : PgA s s') (v : Nat) : PgA (putF s v) (putF s' v) := by
  obtain ⟨h1, h2⟩ := h
  unfold putF
  rw [← h1]
  split
  · exact ⟨rfl, h2.up v⟩
  · exact ⟨h1, h2⟩
theorem wg_ag {gr gr' : Nat → Nat} {S kd : Nat} : ∀ n, (∀ i, i < n → gr i = gr' i) → wgF gr S kd n = wgF gr' S kd n
  | 0, _ => rfl
  | n + 1, h => by rw [wgF, wgF, wg_ag n (fun i hi => h i (by omega)), h n (by omega)]
theorem sbT_ag {rec rec' : Nat → pgS → pgS} (hr : ∀ S s s', PgA s s' → PgA (rec S s) (rec' S s')) {gr gr' : Nat → Nat} {gc : Nat} (h : ∀ i, i < gc → gr i = gr' i) (S : Nat) {z z' : Nat × pgS} (hz : z.1 = z'.1 ∧ PgA z.2 z'.2) (kd : Nat) : (sbT rec gr gc S z kd).1 = (sbT rec' gr' gc S z' kd).1 ∧ PgA (sbT rec gr gc S z kd).2 (sbT rec' gr' gc S z' kd).2 := by
  unfold sbT
  rw [wg_ag gc h, hz.1]
  have hc : PgA (if z'.1 = S then z.2 else putF z.2 44) (if z'.1 = S then z'.2 else putF z'.2 44) := by
    split
    · exact hz.2
    · exact put_ag hz.2 44
  split
  · exact ⟨hz.1, hz.2⟩
  · refine ⟨rfl, ?_⟩
    dsimp only
    split
    · exact put_ag hc _
    · exact put_ag (hr _ _ _ (put_ag hc 40)) 41
theorem sbL_ag {rec rec' : Nat → pgS → pgS} (hr : ∀ S s s', PgA s s' → PgA (rec S s) (rec' S s')) {gr gr' : Nat → Nat} {gc : Nat} (h : ∀ i, i < gc → gr i = gr' i) (S : Nat) {s s' : pgS} (hs : PgA s s') : ∀ kd, (sbL rec gr gc S s kd).1 = (sbL rec' gr' gc S s' kd).1 ∧ PgA (sbL rec gr gc S s kd).2 (sbL rec' gr' gc S s' kd).2
  | 0 => ⟨rfl, hs⟩
  | kd + 1 => sbT_ag hr h S (sbL_ag hr h S hs kd) kd
theorem sbF_ag {gr gr' : Nat → Nat} {gc : Nat} (h : ∀ i, i < gc → gr i = gr' i) : ∀ f S s s', PgA s s' → PgA (sbF gr gc f S s) (sbF gr' gc f S s')
  | 0, S, s, s', hs => hs
  | f + 1, S, s, s', hs => (sbL_ag (sbF_ag h f) h S hs 7).2
theorem flF_ag {gr gr' : Nat → Nat} {gc : Nat} (h : ∀ i, i < gc → gr i = gr' i) (k : Nat) (sg sg' : Nat → Nat) : PgA (flF gr gc k sg) (flF gr' gc k sg') := by
  have h0 : PgA (sg, 0) (sg', 0) := ⟨rfl, fun j hj => by omega⟩
  exact put_ag (put_ag (sbF_ag h 7 _ _ _ (put_ag (put_ag (put_ag h0 40) 97) 44)) 41) 59
/-- what both write -/
theorem wrC_use {k : Nat} {A B : List Nat} (h : wrC k A B = true) {gr e sg : Nat → Nat} {gc ne : Nat} (hg : gc = A.length) (hn : ne = B.length) (ha : ∀ i, i < gc → gr i = ltF A i) (hb : ∀ i, i < ne → e i = ltF B i) :
    ∃ z, wrA e ne k 100 zz zz = some z ∧ z.1 = (flF gr gc k sg).2 ∧ z.1 ≤ 24 ∧ ∀ j, j < z.1 → z.2.1 j = (flF gr gc k sg).1 j ∧ z.2.1 j < 65536 := by
  subst hg hn
  unfold wrC at h
  split at h
  · cases h
  · rename_i z hz
    simp only [Bool.and_eq_true, List.all_eq_true, List.mem_range] at h
    obtain ⟨h1, h2, h3⟩ := h
    obtain ⟨y, g1, g2, g3⟩ := wrA_ag hb k 100 zz zz zz zz z hz
    have h1 := Nat.eq_of_beq_eq_true h1
    obtain ⟨p1, p2⟩ := flF_ag ha k sg cz
    refine ⟨y, g1, by rw [g2, h1, p1], by rw [g2]; exact Nat.le_of_ble_eq_true h2, fun j hj => ?_⟩
    rw [g2] at hj
    have h4 := h3 j hj
    have h5 := Nat.eq_of_beq_eq_true h4.1
    rw [g3 j hj]
    exact ⟨by rw [h5, p2 j (by rw [p1, ← h1]; exact hj)], Nat.blt_eq.mp h4.2⟩
theorem wt_3 : (List.range 1).all (wtC 3) = true := by decide +kernel
theorem wt_4 : (List.range 3).all (wtC 4) = true := by decide +kernel
theorem wt_5 : (List.range 15).all (wtC 5) = true := by decide +kernel
theorem wt_6 : (List.range 105).all (wtC 6) = true := by decide +kernel
theorem wt_7 : (List.range 945).all (wtC 7) = true := by decide +kernel
theorem df_3 : frc (cnd 3) (fun c => dfs 3 c []) = true := by decide +kernel
theorem df_4 : frc (cnd 4) (fun c => dfs 4 c []) = true := by decide +kernel
theorem df_5 : frc (cnd 5) (fun c => dfs 5 c []) = true := by decide +kernel
theorem df_6 : frc (cnd 6) (fun c => dfs 6 c []) = true := by decide +kernel
theorem df_7 : frc (cnd 7) (fun c => dfs 7 c []) = true := by decide +kernel
theorem spl_len (f : Nat → Nat) (n : Nat) : (spl f n).length = n := by simp [spl]
theorem spl_at {f : Nat → Nat} {n i : Nat} (h : i < n) : ltF (spl f n) i = f i := by simp [ltF, spl, h]
theorem agF_at (sp gr : Nat → Nat) : ∀ n i, i < n → agF sp gr n i = sp i
  | n + 1, i, h => by
    rw [agF]
    by_cases e : i = n
    · subst e; rw [upN_s]
    · rw [upN_n e, agF_at sp gr n i (by omega)]
theorem wt_ok {k x : Nat} (hk3 : 3 ≤ k) (hk : k ≤ 7) (hx : x < tcount k) (gr sg : Nat → Nat) :
    ∃ z, wrA (spW k x).2 (spW k x).1 k 100 zz zz = some z ∧ z.1 = (flF (agF (spz k x) gr (k - 3)) (k - 3) k sg).2 ∧ z.1 ≤ 24 ∧ ∀ j, j < z.1 → z.2.1 j = (flF (agF (spz k x) gr (k - 3)) (k - 3) k sg).1 j ∧ z.2.1 j < 65536 := by
  have h := all_trees wt_3 wt_4 wt_5 wt_6 wt_7 hk3 hk hx
  unfold wtC at h
  rw [frc_eq, frc_eq] at h
  obtain ⟨f1, -⟩ := spf hk3 hk hx
  rw [f1]
  exact wrC_use h (spl_len _ _).symm (spl_len _ _).symm (fun i hi => by rw [spl_at hi, agF_at _ _ _ _ hi]) (fun i hi => by rw [spl_at hi])
theorem df_ok {k : Nat} (hk3 : 3 ≤ k) (hk : k ≤ 7) : dfs k (cnd k) [] = true := by
  have hk' : k = 3 ∨ k = 4 ∨ k = 5 ∨ k = 6 ∨ k = 7 := by omega
  rcases hk' with rfl | rfl | rfl | rfl | rfl
  · have := df_3; rwa [frc_eq] at this
  · have := df_4; rwa [frc_eq] at this
  · have := df_5; rwa [frc_eq] at this
  · have := df_6; rwa [frc_eq] at this
  · have := df_7; rwa [frc_eq] at this
end WRI
