section TR4
variable {l : Launch}
def ushr (x : Int64) (k : Nat) : Int64 := (x.toUInt64 >>> ((nI k).toInt64.toUInt64 &&& Int64.toUInt64 63)).toInt64
def tornF (a b : Int64) : Int64 := (((((a &&& b) ||| ushr (a &&& b) 1) ||| ushr (a &&& b) 2) ||| ushr (a &&& b) 3) ^^^ (-1)) &&& 1229782938247303441
def joinF (a b t : Int64) : Int64 := (a &&& b) ||| ((a ||| b) &&& (t * 15))
theorem c_tornAt (hs : l.stackTraces = false) (ch on ot be : Nat → Int32) (se : Nat → Int64) (od : Nat → Int32) (inn : Int32) (a b : Nat) (ha : a < 14) (hb : b < 14) : pm_Met l mX4_tornAt 1 0 0 [.ref 0, .int (nI a), .int (nI b)] (trW ch on ot be se od inn) (isO (some (.long (tornF (se a) (se b)))) (trW ch on ot be se od inn)) := by
  refine pm_Met.mk kX4_tornAt hs (pm_J.run [] 60 (fun K hK => And.intro (vp_in_nI ha (by decide)) (And.intro (vp_in_nI hb (by decide)) (hK _ ?_))))
  rw [nI_clamp (by omega), nI_clamp (by omega)]
  exact pm_J.rl ⟨rfl, rfl⟩
theorem c_joined (hs : l.stackTraces = false) (ch on ot be : Nat → Int32) (se : Nat → Int64) (od : Nat → Int32) (inn : Int32) (a b : Nat) (t : Int64) (ha : a < 14) (hb : b < 14) : pm_Met l mX4_joined 1 0 0 [.ref 0, .int (nI a), .int (nI b), .long t] (trW ch on ot be se od inn) (isO (some (.long (joinF (se a) (se b) t))) (trW ch on ot be se od inn)) := by
  have i1 : vp_in (nI a) 14 := vp_in_nI ha (by decide)
  have i2 : vp_in (nI b) 14 := vp_in_nI hb (by decide)
  refine pm_Met.mk kX4_joined hs (pm_J.run [] 60 (fun K hK => And.intro i1 (And.intro i2 (And.intro i1 (And.intro i2 (hK _ ?_))))))
  rw [nI_clamp (by omega), nI_clamp (by omega)]
  exact pm_J.rl ⟨rfl, rfl⟩
/-- a table's cells from the place h on -/
abbrev tbAt (h : Nat) (r : Nat → Int64) (wt : Nat → Nat) (k c : Nat) : List pm_E := [.inr (2, [.ref (h + 1), .ref (h + 2), .int (nI k), .int (nI c)]), .inl (.long, 7, .inr (.inl r)), .inl (.int, 16, .inl (nA wt))]
def seF (r se : Nat → Int64) (i : Nat) : Nat → Int64 := fun j => if j < i then r j else se j
theorem seF_0 (r se : Nat → Int64) : seF r se 0 = se := by funext j; simp [seF]
theorem seF_s (r se : Nat → Int64) (i : Nat) : seF r se (i + 1) = vp_updL (seF r se i) i (r i) := by
  funext j
  unfold seF
  by_cases h : j = i
  · subst h; rw [pk_uLs, if_pos (by omega)]
  · rw [pk_uLn h]
    by_cases h2 : j < i
    · rw [if_pos (by omega), if_pos h2]
    · rw [if_neg (by omega), if_neg h2]
def pkS (on ot od : Nat → Nat) (se0 : Nat → Int64) : Nat → Int64 × Nat × (Nat → Int64)
  | 0 => (0, 0, se0)
  | i + 1 => ((pkS on ot od se0 i).1 + tornF ((pkS on ot od se0 i).2.2 (on (od i))) ((pkS on ot od se0 i).2.2 (ot (od i))), od i,
      vp_updL (pkS on ot od se0 i).2.2 (od i) (joinF ((pkS on ot od se0 i).2.2 (on (od i))) ((pkS on ot od se0 i).2.2 (ot (od i))) (tornF ((pkS on ot od se0 i).2.2 (on (od i))) ((pkS on ot od se0 i).2.2 (ot (od i))))))
def Bn (f : Nat → Nat) : Prop := ∀ j, f j < 14
theorem pkS_top {on ot od : Nat → Nat} {se0 : Nat → Int64} (h : Bn od) : ∀ i, (pkS on ot od se0 i).2.1 < 14
  | 0 => (by decide : 0 < 14)
  | i + 1 => h i
def pkR (on ot od : Nat → Nat) (se0 : Nat → Int64) (inn : Nat) : Int64 := (pkS on ot od se0 inn).1 + tornF ((pkS on ot od se0 inn).2.2 0) ((pkS on ot od se0 inn).2.2 (pkS on ot od se0 inn).2.1)
set_option maxHeartbeats 1000000 in
theorem c_packed (hs : l.stackTraces = false) (ch be : Nat → Int32) (on ot od : Nat → Nat) (se : Nat → Int64) (inn : Nat) (r : Nat → Int64) (wt : Nat → Nat) (k c : Nat) (hk : k ≤ 7) (hi : inn ≤ 7) (hon : Bn on) (hot : Bn ot) (hod : Bn od) :
    pm_Met l mX4_packedChanges 2 0 0 [.ref 0, .ref 7] (trW ch (nA on) (nA ot) be se (nA od) (nI inn) ++ tbAt 7 r wt k c)
      (isO (some (.long (pkR on ot od (seF r se k) inn))) (trW ch (nA on) (nA ot) be (pkS on ot od (seF r se k) inn).2.2 (nA od) (nI inn) ++ tbAt 7 r wt k c)) := by
  refine pm_Met.mk kX4_packedChanges hs (pm_J.run [2] 40 (fun K hK => hK _ ?_))
  have loop2 : ∀ x6 x7 : Option Value, pm_J l mX4_packedChanges iX4_packedChanges 2 0 0 10 (isO (some (.long (pkR on ot od (seF r se k) inn))) (trW ch (nA on) (nA ot) be (pkS on ot od (seF r se k) inn).2.2 (nA od) (nI inn) ++ tbAt 7 r wt k c)) 0 0
      (36, [some (.ref 0), some (.ref 7), some (.long (pkS on ot od (seF r se k) 0).1), none, some (.int (nI (pkS on ot od (seF r se k) 0).2.1)), some (.int (nI 0)), x6, x7], [], trW ch (nA on) (nA ot) be (pkS on ot od (seF r se k) 0).2.2 (nA od) (nI inn) ++ tbAt 7 r wt k c) := by
    refine pm_up (b := inn) (P := fun i => ∀ x6 x7 : Option Value, pm_J l mX4_packedChanges iX4_packedChanges 2 0 0 10 (isO (some (.long (pkR on ot od (seF r se k) inn))) (trW ch (nA on) (nA ot) be (pkS on ot od (seF r se k) inn).2.2 (nA od) (nI inn) ++ tbAt 7 r wt k c)) 0 0
      (36, [some (.ref 0), some (.ref 7), some (.long (pkS on ot od (seF r se k) i).1), none, some (.int (nI (pkS on ot od (seF r se k) i).2.1)), some (.int (nI i)), x6, x7], [], trW ch (nA on) (nA ot) be (pkS on ot od (seF r se k) i).2.2 (nA od) (nI inn) ++ tbAt 7 r wt k c)) 0 (Nat.zero_le _) (fun x6 x7 => ?_) (fun i h1 h2 ih x6 x7 => ?_)
    · have ht := pkS_top (on := on) (ot := ot) (se0 := seF r se k) hod inn
      refine pm_J.run [] 40 (fun K hK => br_t (nI_le (Nat.le_refl _) (by omega)) (hK _ ?_))
      refine pm_J.cl [0, 1, 2, 3, 4, 5, 6] (c_tornAt hs ch (nA on) (nA ot) be (pkS on ot od (seF r se k) inn).2.2 (nA od) (nI inn) 0 (pkS on ot od (seF r se k) inn).2.1 (by decide) ht) gRX4_75 vX4_tornAt ?_
      refine pm_J.run [] 40 (fun K hK => hK _ ?_)
      exact pm_J.rl ⟨rfl, rfl⟩
    · have ei : (nI i).toNatClampNeg = i := nI_clamp (by omega)
      have eo : (nI (od i)).toNatClampNeg = od i := nI_clamp (by have := hod i; omega)
      have j1 : vp_in (nI i) 7 := vp_in_nI (by omega) (by decide)
      have j2 : vp_in (nI (od (nI i).toNatClampNeg)) 14 := by rw [ei]; exact vp_in_nI (hod i) (by decide)
      refine pm_J.run [36] 60 (fun K hK => br_f (nI_ge h2 (by omega)) (And.intro j1 (And.intro j2 (And.intro j2 (hK _ ?_)))))
      rw [ei, eo]
      refine pm_J.cl [0, 1, 2, 3, 4, 5, 6] (c_tornAt hs ch (nA on) (nA ot) be (pkS on ot od (seF r se k) i).2.2 (nA od) (nI inn) (on (od i)) (ot (od i)) (hon _) (hot _)) gRX4_75 vX4_tornAt ?_
      refine pm_J.run [36] 60 (fun K hK => And.intro (vp_in_nI (hod i) (by decide)) (And.intro (vp_in_nI (hod i) (by decide)) (hK _ ?_)))
      rw [eo]
      refine pm_J.cl [0, 1, 2, 3, 4, 5, 6] (c_joined hs ch (nA on) (nA ot) be (pkS on ot od (seF r se k) i).2.2 (nA od) (nI inn) (on (od i)) (ot (od i)) (tornF ((pkS on ot od (seF r se k) i).2.2 (on (od i))) ((pkS on ot od (seF r se k) i).2.2 (ot (od i)))) (hon _) (hot _)) gRX4_79 vX4_joined ?_
      refine pm_J.run [36] 60 (fun K hK => And.intro (vp_in_nI (hod i) (by decide)) (hK _ ?_))
      have := ih (some (.long (tornF ((pkS on ot od (seF r se k) i).2.2 (on (od i))) ((pkS on ot od (seF r se k) i).2.2 (ot (od i)))))) none
      rw [← nI_add i 1] at this
      rw [eo]
      exact this
  have loop1 : pm_J l mX4_packedChanges iX4_packedChanges 2 0 0 10 (isO (some (.long (pkR on ot od (seF r se k) inn))) (trW ch (nA on) (nA ot) be (pkS on ot od (seF r se k) inn).2.2 (nA od) (nI inn) ++ tbAt 7 r wt k c)) 0 0
      (2, [some (.ref 0), some (.ref 7), some (.int (nI 0)), none, none, none, none, none], [], trW ch (nA on) (nA ot) be (seF r se 0) (nA od) (nI inn) ++ tbAt 7 r wt k c) := by
    refine pm_up (b := k) (P := fun i => pm_J l mX4_packedChanges iX4_packedChanges 2 0 0 10 (isO (some (.long (pkR on ot od (seF r se k) inn))) (trW ch (nA on) (nA ot) be (pkS on ot od (seF r se k) inn).2.2 (nA od) (nI inn) ++ tbAt 7 r wt k c)) 0 0
      (2, [some (.ref 0), some (.ref 7), some (.int (nI i)), none, none, none, none, none], [], trW ch (nA on) (nA ot) be (seF r se i) (nA od) (nI inn) ++ tbAt 7 r wt k c)) 0 (Nat.zero_le _) ?_ (fun i h1 h2 ih => ?_)
    · refine pm_J.run [36] 40 (fun K hK => br_t (nI_le (Nat.le_refl _) (by omega)) (hK _ ?_))
      exact loop2 none none
    · have ei : (nI i).toNatClampNeg = i := nI_clamp (by omega)
      refine pm_J.run [2] 40 (fun K hK => br_f (nI_ge h2 (by omega)) (And.intro (vp_in_nI (by omega) (by decide)) (And.intro (vp_in_nI (by omega) (by decide)) (hK _ ?_))))
      rw [ei]
      rw [seF_s, ← nI_add i 1] at ih
      exact ih
  rw [seF_0] at loop1
  exact loop1
end TR4
