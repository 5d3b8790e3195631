section FSN
def ones1 (on ot od : Nat → Nat) (n : Nat) : Bool := (List.range n).all (fun j => Nat.beq (cfS on ot od n (od (n - 1)) j) 1)
def fsC (k x : Nat) : Bool := okq k (gz k x).1.1 (gz k x).1.2.1 (gz k x).2 (gwS k x k).2.1 (gwS k x k).2.2 (sq k x) && (kidq 0 (sq k x) (gwS k x k).1 && (Nat.beq (gwS k x k).1 ((gz k x).2 (k - 3) + 1) && (dist (gz k x).2 (k - 2) && ones1 (gz k x).1.1 (gz k x).1.2.1 (gz k x).2 (k - 2))))
theorem fs_3 : (List.range 1).all (fsC 3) = true := by decide +kernel
theorem fs_4 : (List.range 3).all (fsC 4) = true := by decide +kernel
theorem fs_5 : (List.range 15).all (fsC 5) = true := by decide +kernel
theorem fs_6 : (List.range 105).all (fsC 6) = true := by decide +kernel
theorem fs_7 : (List.range 945).all (fsC 7) = true := by decide +kernel
theorem fs_ok {k x : Nat} (hk3 : 3 ≤ k) (hk : k ≤ 7) (hx : x < tcount k) : fsC k x = true := all_trees fs_3 fs_4 fs_5 fs_6 fs_7 hk3 hk hx
/-- the two tables alike -/
def TbR (t : tbP) (T : mT) : Prop := T.1 = t.2.2.1 ∧ T.2.1 = t.2.2.2 ∧ T.1 ≤ 7 ∧ T.2.1 ≤ 16 ∧ (∀ a c, a < T.1 → c < T.2.1 → T.2.2.1 (16 * a + c) = lane (t.1 a) c ∧ ¬ lane (t.1 a) c = 0) ∧ ∀ c, c < T.2.1 → T.2.2.2 c = t.2.1 c
theorem nd_all {t : tbP} {T : mT} (h : TbR t T) (hk3 : 3 ≤ T.1) {x c : Nat} (hx : x < tcount T.1) (hc : c < T.2.1) (co : Nat → Nat) : ndF T (gwS T.1 x T.1).1 (gwS T.1 x T.1).2.1 (gwS T.1 x T.1).2.2 co c = lane (lenP t.1 T.1 x) c := by
  obtain ⟨-, -, hk, h16, hst, -⟩ := h
  obtain ⟨k, cn, stt, wt⟩ := T
  dsimp only at *
  have hc16 : c < 16 := by omega
  rw [← pk_canon (ch := cz) (s0 := tz) (od := cz) t.1 (fun _ => -1) rfl hk3 hk hx]
  have F := fs_ok hk3 hk hx
  unfold fsC at F
  simp only [Bool.and_eq_true] at F
  obtain ⟨f1, f2, f3, f4, f5⟩ := F
  have W := wfz_ok hk3 hk hx
  have O := (grR_gz (k := k) (x := x) (ch := cz) (s0 := tz) (od := cz) rfl hk).2
  have kids := fun i hi => wfz_kids (k := k) (x := x) W (i := i) hi
  have e3 := Nat.eq_of_beq_eq_true f3
  rw [lane_pkR _ _ _ _ (k - 2) c (by omega) hc16 (by omega)]
  show ndF (k, cn, stt, wt) _ _ _ co c = suN (fT (gz k x).1.1 (gz k x).1.2.1 (gz k x).2 _) (k - 2) + tornN (fX (gz k x).1.1 (gz k x).1.2.1 (gz k x).2 _ (k - 2) 0).1 (fX (gz k x).1.1 (gz k x).1.2.1 (gz k x).2 _ (k - 2) ((gz k x).2 (k - 2 - 1))).1
  unfold ndF ndR
  have e0 : nsO (gwS k x k).2.1 (gwS k x k).2.2 k (rdK k, cpF (ciV stt c) co 64 (4 * k)) 6 = rqP (gwS k x k).2.1 (gwS k x k).2.2 (cpF (ciV stt c) co 64 (4 * k)) (rqO (gwS k x k).2.1 (gwS k x k).2.2 k (rdK k, []) 6) := rq_O _ _ (cpF (ciV stt c) co 64 (4 * k)) k (rdK k, []) 6
  show alS (nsO (gwS k x k).2.1 (gwS k x k).2.2 k (rdK k, cpF (ciV stt c) co 64 (4 * k)) 6).2 (gwS k x k).1 4 = _
  rw [e0]
  show alS (rqC (gwS k x k).2.1 (gwS k x k).2.2 (cpF (ciV stt c) co 64 (4 * k)) (sq k x)) (gwS k x k).1 4 = _
  rw [e3] at f2 ⊢
  rw [show k - 2 - 1 = k - 3 by omega]
  clear e0 e3 f3 W
  have O9 : ∀ i, i < k - 2 → 9 ≤ (gz k x).2 i := fun i hi => (O i hi).2.1
  clear O
  generalize (gwS k x k).2.1 = L at *
  generalize (gwS k x k).2.2 = R at *
  generalize sq k x = l at *
  generalize (gz k x).1.1 = on at *
  generalize (gz k x).1.2.1 = ot at *
  generalize (gz k x).2 = od at *
  have hs0 : ∀ v, lane (seF t.1 (fun _ => -1) k v) c ≠ 0 ∧ lane (seF t.1 (fun _ => -1) k v) c < 16 := by
    intro v
    refine ⟨?_, nib_lt _ _⟩
    unfold seF
    split
    · rename_i hv; exact (hst v c hv hc).2
    · exact (by decide +kernel : ∀ c, c < 16 → lane (-1) c ≠ 0) c hc16
  generalize hs : (fun v => lane (seF t.1 (fun _ => -1) k v) c) = s0
  have hs0' : ∀ v, s0 v ≠ 0 ∧ s0 v < 16 := by rw [← hs]; exact hs0
  have hX : ∀ v, ((fX on ot od s0 (k - 2) v).1 ≠ 0 ∧ (fX on ot od s0 (k - 2) v).1 < 16) ∧ (fX on ot od s0 (k - 2) v).2 ≤ 90 := by
    intro v
    have a := fX_ok (on := on) (ot := ot) (od := od) hs0' (k - 2) v
    refine ⟨a.1, ?_⟩
    have : 2 ^ (k - 2) ≤ 2 ^ 5 := Nat.pow_le_pow_right (by decide) (by omega)
    omega
  have leaf : ∀ v, v < k → ∀ i, i ≤ k - 2 → fX on ot od s0 i v = (s0 v, 0) := by
    intro v hv i hi
    have := fX_stay on ot od s0 v 0 i (fun j _ h2 => by have := O9 j (by omega); omega)
    rw [Nat.zero_add] at this
    rw [this]
    rfl
  have stay : ∀ i, i < k - 2 → ∀ n, i < n → n ≤ k - 2 → fX on ot od s0 n (od i) = fX on ot od s0 (i + 1) (od i) := by
    intro i hi n h1 h2
    have := fX_stay on ot od s0 (od i) (i + 1) (n - (i + 1)) (fun j h3 h4 => dist_use f4 (by omega) (by omega))
    rwa [show i + 1 + (n - (i + 1)) = n by omega] at this
  have kid : ∀ i, i < k - 2 → ∀ v, (v < k ∨ ∃ j, j < i ∧ od j = v) → fX on ot od s0 i v = fX on ot od s0 (k - 2) v := by
    intro i hi v hv
    rcases hv with hv | ⟨j, hj, rfl⟩
    · rw [leaf v hv i (by omega), leaf v hv (k - 2) (Nat.le_refl _)]
    · rw [stay j (by omega) i hj (by omega), stay j (by omega) (k - 2) (by omega) (Nat.le_refl _)]
  have hE : ∀ i, i < k - 2 → fX on ot od s0 (k - 2) (od i) = (joinN (fX on ot od s0 (k - 2) (on (od i))).1 (fX on ot od s0 (k - 2) (ot (od i))).1, (fX on ot od s0 (k - 2) (on (od i))).2 + (fX on ot od s0 (k - 2) (ot (od i))).2 + tornN (fX on ot od s0 (k - 2) (on (od i))).1 (fX on ot od s0 (k - 2) (ot (od i))).1) := by
    intro i hi
    rw [stay i hi (k - 2) hi (Nat.le_refl _), ← kid i hi _ (kids i hi).1, ← kid i hi _ (kids i hi).2, fX]
    dsimp only
    rw [if_pos rfl]
  have h0 : ∀ v, v < k → Rel (cpF (ciV stt c) co 64 (4 * k)) v (fX on ot od s0 (k - 2) v).1 (fX on ot od s0 (k - 2) v).2 := by
    intro v hv s hsl
    rw [leaf v hv (k - 2) (Nat.le_refl _)]
    have es : s0 v = stt (16 * v + c) := by
      rw [← hs]
      show lane (seF t.1 (fun _ => -1) k v) c = _
      rw [(hst v c hv hc).1]
      unfold seF
      rw [if_pos hv]
    dsimp only
    unfold cpF
    rw [if_pos (show 4 * v + s < 4 * k by omega), es]
    unfold ciV
    rw [show (4 * v + s) / 4 = v by omega, show (4 * v + s) % 4 = s by omega, Nat.testBit_eq_decide_div_mod_eq]
    by_cases hb : stt (16 * v + c) / 2 ^ s % 2 = 1
    · rw [if_pos hb, if_pos (by simp [hb])]
    · rw [if_neg hb, if_neg (by simp [hb])]
      decide
  have RR := rel_run hk hX hE h0 l f1
  have htop : od (k - 3) + 1 ∈ l := by
    rcases kidq_use f2 with h | h
    · omega
    · exact h
  have r0 := RR 0 (Or.inl (by omega))
  have rt := RR _ (Or.inr htop)
  have m0 : mi 0 = 0 := rfl
  have mt : mi (od (k - 3) + 1) = od (k - 3) := by
    have := O9 (k - 3) (by omega)
    unfold mi
    rw [if_neg (by omega)]
    omega
  rw [m0, leaf 0 (by omega) (k - 2) (Nat.le_refl _)] at r0
  rw [mt] at rt
  rw [al_rel r0 rt (hs0' 0) (hX _).1 (hX _).2, leaf 0 (by omega) (k - 2) (Nat.le_refl _)]
  congr 1
  rw [fX_cf on ot od s0 (k - 2) (k - 2) (Nat.le_refl _)]
  apply suN_ext
  intro j hj
  have := List.all_eq_true.mp f5 j (List.mem_range.mpr hj)
  rw [show k - 2 - 1 = k - 3 by omega] at this
  rw [Nat.eq_of_beq_eq_true this, Nat.one_mul]
theorem nd_ok {t : tbP} {T : mT} (h : TbR t T) (hk3 : 3 ≤ T.1) : NdOk T := fun x hx co _ c hc => by
  unfold ndV
  rw [nd_all h hk3 hx hc, nd_all h hk3 hx hc]
theorem nd_eq {t : tbP} {T : mT} (h : TbR t T) (hk3 : 3 ≤ T.1) {x c : Nat} (hx : x < tcount T.1) (hc : c < T.2.1) : ndV T x c = lane (lenP t.1 T.1 x) c := nd_all h hk3 hx hc _
theorem ln_eq {t : tbP} {T : mT} (h : TbR t T) (hk3 : 3 ≤ T.1) {x : Nat} (hx : x < tcount T.1) : lnV T x = lenT t.1 t.2.1 t.2.2.1 t.2.2.2 x := by
  unfold lenT
  show lnS T x T.2.1 = _
  rw [← h.1, ← h.2.1]
  have : ∀ n, n ≤ T.2.1 → lnS T x n = wsum (lenP t.1 T.1 x) t.2.1 n := by
    intro n
    induction n with
    | zero => intro _; rfl
    | succ n ih => intro hn; rw [lnS, wsum, ih (by omega), nd_eq h hk3 hx (by omega), h.2.2.2.2.2 n (by omega), Nat.mul_comm]
  exact this _ (Nat.le_refl _)
end FSN
