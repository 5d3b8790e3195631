/-! THE SMALL MACHINE: a frame over a small world, values with handles (places of the world) in the stead of addresses; what a stretch of instructions asks is computed (pm_wp) -/
section PMA
def pm_v (ad : Nat → Nat) : Value → Value
  | .ref k => .ref (ad k)
  | .int x => .int x
  | .long x => .long x
  | .float x => .float x
  | .double x => .double x
  | .null => .null
  | .retAddr x => .retAddr x
abbrev pm_E : Type := (FieldType × vp_A) ⊕ (Nat × List Value)
def pm_c (ad : Nat → Nat) (t : ClassId) : pm_E → va_E
  | .inl a => .inl (t, a.2)
  | .inr o => .inr (o.1, o.2.map (pm_v ad))
def pm_w (ad : Nat → Nat) (tI : Nat → ClassId) (w : List pm_E) : va_W := w.mapIdx (fun k c => (ad k, pm_c ad (tI k) c))
def pm_nth {α : Type} : List α → Nat → Option α
  | [], _ => none
  | a :: _, 0 => some a
  | _ :: l, i + 1 => pm_nth l i
theorem pm_nth_eq {α : Type} : ∀ (l : List α) (i : Nat), pm_nth l i = l[i]?
  | [], i => by simp [pm_nth]
  | a :: l, 0 => by simp [pm_nth]
  | a :: l, i + 1 => by simp [pm_nth, pm_nth_eq l i]
theorem pm_cat (ad : Nat → Nat) (v : Value) : (pm_v ad v).category = v.category := by cases v <;> rfl
theorem pm_w_get {ad : Nat → Nat} {tI : Nat → ClassId} {w : List pm_E} {k : Nat} {c : pm_E} (h : w[k]? = some c) : (pm_w ad tI w)[k]? = some (ad k, pm_c ad (tI k) c) := by
  simp [pm_w, List.getElem?_mapIdx, h]
theorem pm_w_set (ad : Nat → Nat) (tI : Nat → ClassId) (w : List pm_E) (k : Nat) (c : pm_E) : pm_w ad tI (w.set k c) = (pm_w ad tI w).set k (ad k, pm_c ad (tI k) c) := by
  apply List.ext_getElem?
  intro i
  simp only [pm_w, List.getElem?_mapIdx, List.getElem?_set]
  by_cases h : k = i
  · subst h
    by_cases h2 : k < w.length
    · simp [h2]
    · simp [h2]
  · simp [h]
theorem pm_w_len (ad : Nat → Nat) (tI : Nat → ClassId) (w : List pm_E) : (pm_w ad tI w).length = w.length := by simp [pm_w]
/-- the arrays' own words of the tables, and the classes' -/
def pm_K (D : va_G) (cl : List vw_C) (tI : Nat → ClassId) (w : List pm_E) (U : State) : Prop := (∀ (c : Nat) (q : vw_C), cl[c]? = some q → u_Kn U q.1 q.2.1 q.2.2 (D.1 c) (D.2 c)) ∧ ∀ (k : Nat) (a : FieldType × vp_A), w[k]? = some (.inl a) → ArrOfT U (tI k) a.1 ∧ va_RA U (tI k) a.1
theorem pm_K.moved {D : va_G} {cl : List vw_C} {tI : Nat → ClassId} {w : List pm_E} {u U : State} (hvm : u.vm.Alike U.vm) (h : pm_K D cl tI w u) : pm_K D cl tI w U := ⟨fun c q hq => u_Kn_moved hvm (h.1 c q hq), fun k a hk => ⟨arrOfT_moved hvm (h.2 k a hk).1, (h.2 k a hk).2.moved hvm⟩⟩
theorem pm_K.at {D : va_G} {cl : List vw_C} {tI : Nat → ClassId} {w : List pm_E} {U : State} (h : pm_K D cl tI w U) {k : Nat} {t : FieldType} {a : vp_A} (hk : w[k]? = some (.inl (t, a))) : va_K D cl [(tI k, t)] U := by
  refine ⟨h.1, fun i q hq => ?_⟩
  cases i with
  | zero => cases hq; exact h.2 k _ hk
  | succ i => simp at hq
theorem pm_K.obj {D : va_G} {cl : List vw_C} {tI : Nat → ClassId} {w : List pm_E} {U : State} (h : pm_K D cl tI w U) : va_K D cl [] U := ⟨h.1, fun i q hq => by simp at hq⟩
/-- a cell of the same kind in its place -/
theorem pm_K.setA {D : va_G} {cl : List vw_C} {tI : Nat → ClassId} {w : List pm_E} {U : State} (h : pm_K D cl tI w U) {k : Nat} {t : FieldType} {a b : vp_A} (hk : w[k]? = some (.inl (t, a))) : pm_K D cl tI (w.set k (.inl (t, b))) U := by
  refine ⟨h.1, fun i q hq => ?_⟩
  rw [List.getElem?_set] at hq
  by_cases hi : k = i
  · subst hi
    have hl := (List.getElem?_eq_some_iff.mp hk).1
    simp only [if_true, hl] at hq
    cases hq
    exact h.2 k (t, a) hk
  · rw [if_neg hi] at hq
    exact h.2 i q hq
theorem pm_K.setO {D : va_G} {cl : List vw_C} {tI : Nat → ClassId} {w : List pm_E} {U : State} (h : pm_K D cl tI w U) {k : Nat} {o : Nat × List Value} : pm_K D cl tI (w.set k (.inr o)) U := by
  refine ⟨h.1, fun i q hq => ?_⟩
  rw [List.getElem?_set] at hq
  by_cases hi : k = i
  · subst hi
    simp only [if_true] at hq
    split at hq
    · cases hq
    · cases hq
  · rw [if_neg hi] at hq
    exact h.2 i q hq
/-- locals by their places -/
def pm_L (ad : Nat → Nat) (nL : Nat) (ls : Array Slot) (L : List (Option Value)) : Prop := L.length = nL ∧ ls.size = nL ∧ lv_wf ls ∧ ∀ (i : Nat) (v : Value), L[i]? = some (some v) → ls[i]? = some (.val (pm_v ad v))
def pm_lv (ad : Nat → Nat) (L : List (Option Value)) : List (Nat × Value) := (List.range L.length).filterMap (fun i => (L[i]?.join).map (fun v => (i, pm_v ad v)))
theorem pm_lv_mem {ad : Nat → Nat} {L : List (Option Value)} {i : Nat} {x : Value} : (i, x) ∈ pm_lv ad L ↔ ∃ v, L[i]? = some (some v) ∧ x = pm_v ad v := by
  simp only [pm_lv, List.mem_filterMap, List.mem_range, Option.map_eq_some_iff, Prod.mk.injEq, Option.join_eq_some_iff]
  constructor
  · rintro ⟨j, -, v, hv, rfl, rfl⟩
    exact ⟨v, hv, rfl⟩
  · rintro ⟨v, hv, rfl⟩
    exact ⟨i, (List.getElem?_eq_some_iff.mp hv).1, v, hv, rfl, rfl⟩
theorem pm_L.has {ad : Nat → Nat} {nL : Nat} {ls : Array Slot} {L : List (Option Value)} (h : pm_L ad nL ls L) : lv_has ls nL (pm_lv ad L) := by
  refine ⟨h.2.1, h.2.2.1, fun q hq => ?_⟩
  obtain ⟨i, x⟩ := q
  obtain ⟨v, hv, rfl⟩ := pm_lv_mem.mp hq
  exact h.2.2.2 i v hv
def pm_dr (L : List (Option Value)) (i : Nat) : List (Option Value) := match i with
  | 0 => L
  | j + 1 => match pm_nth L j with
    | some (some u) => match Nat.beq u.category 2 with
      | true => L.set j none
      | false => L
    | _ => L
def pm_s1 (L : List (Option Value)) (i : Nat) (v : Value) : List (Option Value) := (pm_dr L i).set i (some v)
def pm_s2 (L : List (Option Value)) (i : Nat) (v : Value) : List (Option Value) := ((pm_dr L i).set i (some v)).set (i + 1) none
theorem pm_dr_len (L : List (Option Value)) (i : Nat) : (pm_dr L i).length = L.length := by
  unfold pm_dr
  split
  · rfl
  · split
    · split
      · simp
      · rfl
    · rfl
theorem pm_dr_get {L : List (Option Value)} {i j : Nat} {v : Value} (h : (pm_dr L i)[j]? = some (some v)) : L[j]? = some (some v) ∧ ¬ (j + 1 = i ∧ v.category = 2) := by
  unfold pm_dr at h
  split at h
  · exact ⟨h, fun q => by omega⟩
  · rename_i k
    split at h
    · rename_i u hu
      rw [pm_nth_eq] at hu
      split at h
      · rw [List.getElem?_set] at h
        by_cases hk : k = j
        · subst hk
          simp only [if_true] at h
          split at h <;> simp at h
        · rw [if_neg hk] at h
          exact ⟨h, fun q => hk (by omega)⟩
      · rename_i hc
        refine ⟨h, fun q => ?_⟩
        have hkj : k = j := by omega
        subst hkj
        rw [hu] at h
        cases h
        rw [q.2] at hc
        cases hc
    · rename_i hu
      refine ⟨h, fun q => ?_⟩
      have hkj : k = j := by omega
      subst hkj
      rw [pm_nth_eq] at hu
      exact hu v h
theorem pm_L.s1 {ad : Nat → Nat} {nL : Nat} {ls ls' : Array Slot} {L : List (Option Value)} {i : Nat} {v : Value} (h : pm_L ad nL ls L)
    (h' : lv_has ls' nL ((i, pm_v ad v) :: (pm_lv ad L).filter (fun q => !(q.1 == i) && !(q.1 + 1 == i && q.2.category == 2)))) : pm_L ad nL ls' (pm_s1 L i v) := by
  refine ⟨by simp [pm_s1, pm_dr_len, h.1], h'.1, h'.2.1, fun j u hu => ?_⟩
  unfold pm_s1 at hu
  rw [List.getElem?_set] at hu
  by_cases hij : i = j
  · subst hij
    simp only [if_true] at hu
    split at hu
    · cases hu
      exact h'.2.2 _ List.mem_cons_self
    · cases hu
  · rw [if_neg hij] at hu
    obtain ⟨h1, h2⟩ := pm_dr_get hu
    refine h'.2.2 (j, pm_v ad u) (List.mem_cons_of_mem _ (List.mem_filter.mpr ⟨pm_lv_mem.mpr ⟨u, h1, rfl⟩, ?_⟩))
    simp only [pm_cat, Bool.and_eq_true, Bool.not_eq_true', beq_eq_false_iff_ne, ne_eq, Bool.and_eq_false_iff, beq_iff_eq]
    refine ⟨fun q => hij q.symm, ?_⟩
    by_cases q : j + 1 = i
    · exact Or.inr (fun z => h2 ⟨q, z⟩)
    · exact Or.inl q
theorem pm_L.s2 {ad : Nat → Nat} {nL : Nat} {ls ls' : Array Slot} {L : List (Option Value)} {i : Nat} {v : Value} (h : pm_L ad nL ls L)
    (h' : lv_has ls' nL ((i, pm_v ad v) :: (pm_lv ad L).filter (fun q => !(q.1 == i) && (!(q.1 == i + 1) && !(q.1 + 1 == i && q.2.category == 2))))) : pm_L ad nL ls' (pm_s2 L i v) := by
  refine ⟨by simp [pm_s2, pm_dr_len, h.1], h'.1, h'.2.1, fun j u hu => ?_⟩
  unfold pm_s2 at hu
  rw [List.getElem?_set] at hu
  by_cases hij1 : i + 1 = j
  · subst hij1
    simp only [if_true] at hu
    split at hu <;> simp at hu
  rw [if_neg hij1, List.getElem?_set] at hu
  by_cases hij : i = j
  · subst hij
    simp only [if_true] at hu
    split at hu
    · cases hu
      exact h'.2.2 _ List.mem_cons_self
    · cases hu
  · rw [if_neg hij] at hu
    obtain ⟨h1, h2⟩ := pm_dr_get hu
    refine h'.2.2 (j, pm_v ad u) (List.mem_cons_of_mem _ (List.mem_filter.mpr ⟨pm_lv_mem.mpr ⟨u, h1, rfl⟩, ?_⟩))
    simp only [pm_cat, Bool.and_eq_true, Bool.not_eq_true', beq_eq_false_iff_ne, ne_eq, Bool.and_eq_false_iff, beq_iff_eq]
    refine ⟨fun q => hij q.symm, fun q => hij1 q.symm, ?_⟩
    by_cases q : j + 1 = i
    · exact Or.inr (fun z => h2 ⟨q, z⟩)
    · exact Or.inl q
end PMA
