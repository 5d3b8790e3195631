section SPL
def spl (f : Nat → Nat) (n : Nat) : List Nat := (List.range n).map f
def okSp (k s : Nat) : Bool := Nat.blt s 128 && (Nat.blt 1 (onS s 8) && (Nat.beq (s &&& ((2 ^ k - 2) ^^^ 4294967295)) 0 && !(Nat.beq s (2 ^ k - 2))))
def cpt (s t : Nat) : Bool := Nat.beq (s &&& t) 0 || (Nat.beq (s &&& t) s || Nat.beq (s &&& t) t)
def spC (k x : Nat) : Bool := Nat.beq (spW k x).1 (k - 3) && ((spl (spz k x) (k - 3)).isPerm (spl (spW k x).2 (k - 3)) && (dist (spz k x) (k - 3) && ((spl (spz k x) (k - 3)).all (okSp k) && (spl (spz k x) (k - 3)).all (fun s => (spl (spz k x) (k - 3)).all (cpt s)))))
theorem sp_3 : (List.range 1).all (spC 3) = true := by decide +kernel
theorem sp_4 : (List.range 3).all (spC 4) = true := by decide +kernel
theorem sp_5 : (List.range 15).all (spC 5) = true := by decide +kernel
theorem sp_6 : (List.range 105).all (spC 6) = true := by decide +kernel
theorem sp_7 : (List.range 945).all (spC 7) = true := by decide +kernel
theorem sp_ok {k x : Nat} (hk3 : 3 ≤ k) (hk : k ≤ 7) (hx : x < tcount k) : spC k x = true := all_trees sp_3 sp_4 sp_5 sp_6 sp_7 hk3 hk hx
theorem spl_mem {f : Nat → Nat} {n s : Nat} : s ∈ spl f n ↔ ∃ i, i < n ∧ f i = s := by
  unfold spl
  rw [List.mem_map]
  constructor
  · rintro ⟨i, hi, e⟩; exact ⟨i, List.mem_range.mp hi, e⟩
  · rintro ⟨i, hi, e⟩; exact ⟨i, List.mem_range.mpr hi, e⟩
/-- what is checked of a tree's splits -/
theorem spf {k x : Nat} (hk3 : 3 ≤ k) (hk : k ≤ 7) (hx : x < tcount k) : (spW k x).1 = k - 3 ∧ List.Perm (spl (spz k x) (k - 3)) (spl (spW k x).2 (k - 3)) ∧ (∀ i j, i < k - 3 → j < i → spz k x i ≠ spz k x j) ∧ (∀ i, i < k - 3 → okSp k (spz k x i) = true) ∧ (∀ i j, i < k - 3 → j < k - 3 → cpt (spz k x i) (spz k x j) = true) := by
  have h := sp_ok hk3 hk hx
  unfold spC at h
  simp only [Bool.and_eq_true] at h
  obtain ⟨h1, h2, h3, h4, h5⟩ := h
  refine ⟨Nat.eq_of_beq_eq_true h1, List.isPerm_iff.mp h2, fun i j hi hj => dist_use h3 hi hj, fun i hi => List.all_eq_true.mp h4 _ (spl_mem.mpr ⟨i, hi, rfl⟩), fun i j hi hj => List.all_eq_true.mp (List.all_eq_true.mp h5 _ (spl_mem.mpr ⟨i, hi, rfl⟩)) _ (spl_mem.mpr ⟨j, hj, rfl⟩)⟩
theorem okSp_lt {k s : Nat} (h : okSp k s = true) : s < 128 := by
  unfold okSp at h
  simp only [Bool.and_eq_true] at h
  exact Nat.blt_eq.mp h.1
theorem hasS_iff (be od : Nat → Nat) (x : Int32) : ∀ n, hasS be od x n = true ↔ ∃ i, i < n ∧ nI (be (od i)) = x
  | 0 => by
    constructor
    · intro h; cases h
    · rintro ⟨i, hi, _⟩; omega
  | n + 1 => by
    rw [hasS, Bool.or_eq_true_iff, hasS_iff be od x n, decide_eq_true_eq]
    constructor
    · rintro (⟨i, hi, e⟩ | e)
      · exact ⟨i, by omega, e⟩
      · exact ⟨n, by omega, e⟩
    · rintro ⟨i, hi, e⟩
      by_cases h : i = n
      · subst h; exact Or.inr e
      · exact Or.inl ⟨i, by omega, e⟩
theorem hasQ_iff (ss : Nat → Nat) (x : Int32) : ∀ n, hasQ ss x n = true ↔ ∃ i, i < n ∧ nI (ss i) = x
  | 0 => by
    constructor
    · intro h; cases h
    · rintro ⟨i, hi, _⟩; omega
  | n + 1 => by
    rw [hasQ, Bool.or_eq_true_iff, hasQ_iff ss x n, decide_eq_true_eq]
    constructor
    · rintro (⟨i, hi, e⟩ | e)
      · exact ⟨i, by omega, e⟩
      · exact ⟨n, by omega, e⟩
    · rintro ⟨i, hi, e⟩
      by_cases h : i = n
      · subst h; exact Or.inr e
      · exact Or.inl ⟨i, by omega, e⟩
theorem has_eq {k x : Nat} (hk3 : 3 ≤ k) (hk : k ≤ 7) (hx : x < tcount k) (y : Int32) : hasS (spz k x) id y (k - 3) = hasT k x y := by
  obtain ⟨f1, f2, -⟩ := spf hk3 hk hx
  rw [Bool.eq_iff_iff]
  unfold hasT
  rw [f1, hasS_iff, hasQ_iff]
  constructor
  · rintro ⟨i, hi, e⟩
    have := f2.mem_iff.mp (spl_mem.mpr ⟨i, hi, rfl⟩)
    obtain ⟨j, hj, e2⟩ := spl_mem.mp this
    exact ⟨j, hj, by rw [e2]; exact e⟩
  · rintro ⟨i, hi, e⟩
    have := f2.mem_iff.mpr (spl_mem.mpr ⟨i, hi, rfl⟩)
    obtain ⟨j, hj, e2⟩ := spl_mem.mp this
    exact ⟨j, hj, by show nI (spz k x j) = y; rw [e2]; exact e⟩
theorem suN_swap (f : Nat → Nat → Nat) (n : Nat) : ∀ m, suN (fun i => suN (f i) n) m = suN (fun j => suN (fun i => f i j) m) n
  | 0 => (suN_0 n).symm
  | m + 1 => by
    rw [suN, suN_swap f n m]
    rw [← suN_add]
    rfl
theorem suN_dist {f : Nat → Nat} (v : Nat) : ∀ n, (∀ i j, i < n → j < i → f i ≠ f j) → suN (fun j => if f j = v then 1 else 0) n = if (∃ i, i < n ∧ f i = v) then 1 else 0
  | 0, _ => by rw [if_neg (by rintro ⟨i, hi, _⟩; omega)]; rfl
  | n + 1, h => by
    rw [suN, suN_dist v n (fun i j hi hj => h i j (by omega) hj)]
    by_cases e : f n = v
    · have hno : ¬ ∃ i, i < n ∧ f i = v := by
        rintro ⟨i, hi, e2⟩
        exact h n i (by omega) hi (by rw [e, e2])
      rw [if_pos e, if_neg hno, if_pos (show ∃ i, i < n + 1 ∧ f i = v from ⟨n, by omega, e⟩)]
    · rw [if_neg e]
      by_cases e2 : ∃ i, i < n ∧ f i = v
      · rw [if_pos e2, if_pos (by obtain ⟨i, hi, e3⟩ := e2; exact ⟨i, by omega, e3⟩)]
      · rw [if_neg e2, if_neg]
        rintro ⟨i, hi, e3⟩
        by_cases hin : i = n
        · subst hin; exact e e3
        · exact e2 ⟨i, by omega, e3⟩
/-- which of a's splits are in b: the same count both ways -/
def inN (f g : Nat → Nat) (n : Nat) : Nat := suN (fun i => suN (fun j => if g j = f i then 1 else 0) n) n
theorem inN_comm (f g : Nat → Nat) (n : Nat) : inN f g n = inN g f n := by
  unfold inN
  rw [suN_swap]
  apply suN_ext
  intro i _
  apply suN_ext
  intro j _
  by_cases h : g i = f j
  · rw [if_pos h, if_pos h.symm]
  · rw [if_neg h, if_neg (fun z => h z.symm)]
theorem inN_le {f g : Nat → Nat} {n : Nat} (hg : ∀ i j, i < n → j < i → g i ≠ g j) : inN f g n ≤ n := by
  have : ∀ m, suN (fun i => suN (fun j => if g j = f i then 1 else 0) n) m ≤ m := by
    intro m
    apply suN_le
    intro i
    rw [suN_dist (f i) n hg]
    split <;> omega
  exact this n
theorem notIn_eq {f g : Nat → Nat} {n : Nat} (hf : ∀ i, i < n → f i < 128) (hg : ∀ i, i < n → g i < 128) (hd : ∀ i j, i < n → j < i → g i ≠ g j) : notIn f id g id n n + inN f g n = n := by
  have : ∀ m, m ≤ n → notIn f id g id n m + suN (fun i => suN (fun j => if g j = f i then 1 else 0) n) m = m := by
    intro m
    induction m with
    | zero => intro _; rfl
    | succ m ih =>
      intro hm
      have ih := ih (by omega)
      rw [notIn, suN, suN_dist (f m) n hd]
      by_cases h : ∃ i, i < n ∧ g i = f m
      · rw [if_pos h, if_pos]
        · omega
        · rw [hasS_iff]
          obtain ⟨i, hi, e⟩ := h
          exact ⟨i, hi, by show nI (g i) = nI (f m); rw [e]⟩
      · rw [if_neg h, if_neg]
        · omega
        · intro z
          rw [hasS_iff] at z
          obtain ⟨i, hi, e⟩ := z
          have e : nI (g i) = nI (f m) := e
          rw [nI_eq (by have := hg i hi; omega) (by have := hf m (by omega); omega)] at e
          exact h ⟨i, hi, e⟩
  exact this n (Nat.le_refl _)
theorem suN_len (p : Nat → Bool) (f : Nat → Nat) : ∀ n, suN (fun i => b2n (p (f i))) n = (spl f n).countP p
  | 0 => rfl
  | n + 1 => by
    rw [suN, suN_len p f n]
    unfold spl
    rw [List.range_succ, List.map_append, List.countP_append]
    congr 1
    show b2n (p (f n)) = List.countP p [f n]
    rw [List.countP_cons, List.countP_nil]
    unfold b2n
    omega
theorem boQ_su (k a : Nat) (e : Nat → Nat) : ∀ n, boQ k a e n = suN (fun i => b2n (hasT k a (nI (e i)))) n
  | 0 => rfl
  | n + 1 => by rw [boQ, suN, boQ_su k a e n]
theorem ds_eq {k a b : Nat} (hk3 : 3 ≤ k) (hk : k ≤ 7) (ha : a < tcount k) (hb : b < tcount k) : dsI k a b = nI (notIn (spz k a) id (spz k b) id (k - 3) (k - 3) + notIn (spz k b) id (spz k a) id (k - 3) (k - 3)) := by
  obtain ⟨a1, a2, a3, a4, -⟩ := spf hk3 hk ha
  obtain ⟨b1, b2, b3, b4, -⟩ := spf hk3 hk hb
  have la := fun i hi => okSp_lt (a4 i hi)
  have lb := fun i hi => okSp_lt (b4 i hi)
  have n1 := notIn_eq la lb b3
  have n2 := notIn_eq lb la a3
  rw [inN_comm] at n2
  have hbo : boQ k a (spW k b).2 (k - 3) = inN (spz k a) (spz k b) (k - 3) := by
    rw [boQ_su, suN_len (fun s => hasT k a (nI s)), ← b2.countP_eq, ← suN_len (fun s => hasT k a (nI s)), inN_comm]
    unfold inN
    apply suN_ext
    intro i hi
    rw [suN_dist (spz k b i) (k - 3) a3, ← has_eq hk3 hk ha]
    unfold b2n
    by_cases h : ∃ j, j < k - 3 ∧ spz k a j = spz k b i
    · rw [if_pos h, if_pos]
      rw [hasS_iff]
      obtain ⟨j, hj, e⟩ := h
      exact ⟨j, hj, by show nI (spz k a j) = _; rw [e]⟩
    · rw [if_neg h, if_neg]
      intro z
      rw [hasS_iff] at z
      obtain ⟨j, hj, e⟩ := z
      have e : nI (spz k a j) = nI (spz k b i) := e
      rw [nI_eq (by have := la j hj; omega) (by have := lb i hi; omega)] at e
      exact h ⟨j, hj, e⟩
  unfold dsI
  rw [a1, b1, hbo]
  have := inN_le (f := spz k a) b3
  generalize inN (spz k a) (spz k b) (k - 3) = q at *
  have e1 : notIn (spz k a) id (spz k b) id (k - 3) (k - 3) = (k - 3) - q := by omega
  have e2 : notIn (spz k b) id (spz k a) id (k - 3) (k - 3) = (k - 3) - q := by omega
  rw [e1, e2]
  have h4 : k - 3 ≤ 4 := by omega
  generalize k - 3 = m at *
  clear e1 e2 n1 n2 hbo la lb a1 a2 a3 a4 b1 b2 b3 b4
  have : ∀ m, m ≤ 4 → ∀ q, q ≤ m → nI m + nI m - nI 2 * nI q = nI (m - q + (m - q)) := by decide +kernel
  exact this m h4 q (by omega)
/-- the tally -/
theorem taI_su (sp t : Nat → Nat) (v : Nat) : ∀ n, taI sp t n v = t v + suN (fun j => if sp j = v then 1 else 0) n
  | 0 => rfl
  | n + 1 => by
    rw [taI, suN]
    by_cases h : v = sp n
    · rw [← h, upN_s, taI_su sp t v n, if_pos rfl]; omega
    · rw [upN_n h, taI_su sp t v n, if_neg (fun z => h z.symm)]; omega
theorem ta_sh {k : Nat} {nu t : Nat → Nat} (hk3 : 3 ≤ k) (hk : k ≤ 7) {v : Nat} (hv : v < 128) : ∀ n, (∀ i, i < n → nu i < tcount k) → taS k nu t n v = t v + shQ k nu (nI v) n
  | 0, _ => rfl
  | n + 1, h => by
    obtain ⟨f1, f2, f3, f4, -⟩ := spf hk3 hk (h n (by omega))
    rw [taS, shQ, taI_su, ta_sh hk3 hk hv n (fun i hi => h i (by omega)), suN_dist v (k - 3) f3, ← has_eq hk3 hk (h n (by omega))]
    rw [Nat.add_assoc]
    congr 2
    unfold b2n
    by_cases h2 : ∃ j, j < k - 3 ∧ spz k (nu n) j = v
    · rw [if_pos h2, if_pos]
      rw [hasS_iff]
      obtain ⟨j, hj, e⟩ := h2
      exact ⟨j, hj, by show nI (spz k (nu n) j) = _; rw [e]⟩
    · rw [if_neg h2, if_neg]
      intro z
      rw [hasS_iff] at z
      obtain ⟨j, hj, e⟩ := z
      have e : nI (spz k (nu n) j) = nI v := e
      rw [nI_eq (by have := okSp_lt (f4 j hj); omega) (by omega)] at e
      exact h2 ⟨j, hj, e⟩
/-- no split outside 0 .. 127 -/
theorem has_out {k x : Nat} (hk3 : 3 ≤ k) (hk : k ≤ 7) (hx : x < tcount k) {y : Int32} (hy : ¬ ∃ v, v < 128 ∧ nI v = y) : hasT k x y = false := by
  obtain ⟨f1, f2, f3, f4, -⟩ := spf hk3 hk hx
  rw [← has_eq hk3 hk hx]
  cases h : hasS (spz k x) id y (k - 3)
  · rfl
  · rw [hasS_iff] at h
    obtain ⟨j, hj, e⟩ := h
    exact absurd ⟨spz k x j, okSp_lt (f4 j hj), e⟩ hy
theorem sh_out {k : Nat} {nu : Nat → Nat} (hk3 : 3 ≤ k) (hk : k ≤ 7) {y : Int32} (hy : ¬ ∃ v, v < 128 ∧ nI v = y) : ∀ n, (∀ i, i < n → nu i < tcount k) → shQ k nu y n = 0
  | 0, _ => rfl
  | n + 1, h => by rw [shQ, sh_out hk3 hk hy n (fun i hi => h i (by omega)), has_out hk3 hk (h n (by omega)) hy]; rfl
/-- a set that is no split is in no tree -/
theorem has_bad {k x v : Nat} (hk3 : 3 ≤ k) (hk : k ≤ 7) (hx : x < tcount k) (hv : v < 128) (hy : okSp k v = false) : hasT k x (nI v) = false := by
  obtain ⟨f1, f2, f3, f4, -⟩ := spf hk3 hk hx
  rw [← has_eq hk3 hk hx]
  cases h : hasS (spz k x) id (nI v) (k - 3)
  · rfl
  · rw [hasS_iff] at h
    obtain ⟨j, hj, e⟩ := h
    have e : nI (spz k x j) = nI v := e
    rw [nI_eq (by have := okSp_lt (f4 j hj); omega) (by omega)] at e
    have := f4 j hj
    rw [e, hy] at this
    cases this
theorem sh_bad {k : Nat} {nu : Nat → Nat} (hk3 : 3 ≤ k) (hk : k ≤ 7) {v : Nat} (hv : v < 128) (hy : okSp k v = false) : ∀ n, (∀ i, i < n → nu i < tcount k) → shQ k nu (nI v) n = 0
  | 0, _ => rfl
  | n + 1, h => by rw [shQ, sh_bad hk3 hk hv hy n (fun i hi => h i (by omega)), has_bad hk3 hk (h n (by omega)) hv hy]; rfl
/-- two splits that most trees have are in one tree: they go together -/
theorem sh_two {k : Nat} {nu : Nat → Nat} (y z : Int32) : ∀ n, (∀ i, i < n → ¬ (hasT k (nu i) y = true ∧ hasT k (nu i) z = true)) → shQ k nu y n + shQ k nu z n ≤ n
  | 0, _ => Nat.le_refl _
  | n + 1, h => by
    have := sh_two (k := k) (nu := nu) y z n (fun i hi => h i (by omega))
    have h2 := h n (by omega)
    rw [shQ, shQ]
    unfold b2n
    cases h3 : hasT k (nu n) y <;> cases h4 : hasT k (nu n) z <;> simp [h3, h4] at h2 ⊢ <;> omega
theorem sh_cpt {k n : Nat} {nu : Nat → Nat} (hk3 : 3 ≤ k) (hk : k ≤ 7) (hn : ∀ i, i < n → nu i < tcount k) {s t : Nat} (hs : s < 128) (ht : t < 128) (h1 : n < 2 * shQ k nu (nI s) n) (h2 : n < 2 * shQ k nu (nI t) n) : cpt s t = true := by
  by_cases h : ∀ i, i < n → ¬ (hasT k (nu i) (nI s) = true ∧ hasT k (nu i) (nI t) = true)
  · have := sh_two (k := k) (nu := nu) (nI s) (nI t) n h
    omega
  · have ⟨i, hi, h3, h4⟩ : ∃ i, i < n ∧ hasT k (nu i) (nI s) = true ∧ hasT k (nu i) (nI t) = true := by
      by_cases h9 : ∃ i, i < n ∧ hasT k (nu i) (nI s) = true ∧ hasT k (nu i) (nI t) = true
      · exact h9
      · exact absurd (fun i hi z => h9 ⟨i, hi, z.1, z.2⟩) h
    obtain ⟨f1, f2, f3, f4, f5⟩ := spf hk3 hk (hn i hi)
    rw [← has_eq hk3 hk (hn i hi), hasS_iff] at h3 h4
    obtain ⟨a, ha, e1⟩ := h3
    obtain ⟨b, hb, e2⟩ := h4
    have e1 : nI (spz k (nu i) a) = nI s := e1
    have e2 : nI (spz k (nu i) b) = nI t := e2
    rw [nI_eq (by have := okSp_lt (f4 a ha); omega) (by omega)] at e1
    rw [nI_eq (by have := okSp_lt (f4 b hb); omega) (by omega)] at e2
    rw [← e1, ← e2]
    exact f5 a b ha hb
end SPL
