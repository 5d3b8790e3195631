section MD4
variable {l : Launch}
theorem rwL2_ok {t : Nat → Nat} {n kd : Nat} : ∀ (f e a : Nat) (r : Nat → Nat), a ≤ n → (rwL2 t n kd f e a r).2.2.1 ≤ n ∧ (rwL2 t n kd f e a r).2.1 ≤ e + f
  | 0, e, a, r, h => ⟨h, Nat.le_refl _⟩
  | f + 1, e, a, r, h => by
    rw [rwL2_s]
    split
    · exact ⟨h, by show e ≤ e + (f + 1); omega⟩
    · split
      · exact ⟨(enF_ok h).2, by show e ≤ e + (f + 1); omega⟩
      · have := rwL2_ok (t := t) (n := n) (kd := kd) f (e + 1) (enF t n a).2 (upN r (16 * kd + e) (enF t n a).1) (enF_ok h).2
        exact ⟨this.1, by omega⟩
theorem rwF2_ok {t : Nat → Nat} {n kd a : Nat} {r : Nat → Nat} {c : Nat} (ha : a ≤ n) (hc : c ≤ 16) : (rwF2 t n kd a r c).2.1 ≤ n ∧ (rwF2 t n kd a r c).2.2.2 ≤ 16 := by
  unfold rwF2
  split
  · exact ⟨ha, hc⟩
  · rename_i h1
    have h1' : hereB t n a (97 + kd) = true := by
      cases h : hereB t n a (97 + kd) with
      | true => rfl
      | false => exact absurd h h1
    have := here_lt h1'
    split
    · exact ⟨by show a + 1 ≤ n; omega, hc⟩
    · rename_i h2
      have h2' : hereB t n (a + 1) 32 = true := by
        cases h : hereB t n (a + 1) 32 with
        | true => rfl
        | false => exact absurd h h2
      have := here_lt h2'
      have hm : (if kd = 0 then 16 else c) ≤ 16 := by split <;> omega
      have := rwL2_ok (t := t) (n := n) (kd := kd) (if kd = 0 then 16 else c) 0 (a + 2) r (by omega)
      generalize (if kd = 0 then 16 else c) = mo at hm this ⊢
      split
      · exact ⟨tkF_le this.1, by show (rwL2 t n kd mo 0 (a + 2) r).2.1 ≤ 16; omega⟩
      · exact ⟨this.1, hc⟩
def rdF2 (t : Nat → Nat) (n : Nat) : Nat → Nat → Nat → (Nat → Nat) → Nat → Bool × Nat × (Nat → Nat) × Nat × Nat
  | 0, kd, a, r, c => (false, a, r, kd, c)
  | f + 1, kd, a, r, c => if (rwF2 t n kd a r c).1 = false then (false, (rwF2 t n kd a r c).2.1, (rwF2 t n kd a r c).2.2.1, kd, (rwF2 t n kd a r c).2.2.2) else
    if (rwF2 t n kd a r c).2.1 = n then (true, n, (rwF2 t n kd a r c).2.2.1, kd + 1, (rwF2 t n kd a r c).2.2.2) else rdF2 t n f (kd + 1) (rwF2 t n kd a r c).2.1 (rwF2 t n kd a r c).2.2.1 (rwF2 t n kd a r c).2.2.2
theorem rdF2_s (t : Nat → Nat) (n f kd a : Nat) (r : Nat → Nat) (c : Nat) : rdF2 t n (f + 1) kd a r c = if (rwF2 t n kd a r c).1 = false then (false, (rwF2 t n kd a r c).2.1, (rwF2 t n kd a r c).2.2.1, kd, (rwF2 t n kd a r c).2.2.2) else
    if (rwF2 t n kd a r c).2.1 = n then (true, n, (rwF2 t n kd a r c).2.2.1, kd + 1, (rwF2 t n kd a r c).2.2.2) else rdF2 t n f (kd + 1) (rwF2 t n kd a r c).2.1 (rwF2 t n kd a r c).2.2.1 (rwF2 t n kd a r c).2.2.2 := rfl
def cpF (f g : Nat → Nat) (n i : Nat) : Nat → Nat := fun j => if j < i then f j else g j
theorem cpF_s (f g : Nat → Nat) (n i : Nat) : cpF f g n (i + 1) = upN (cpF f g n i) i (f i) := by
  funext j
  unfold cpF upN
  by_cases h : j = i
  · subst h; rw [if_pos (by omega), if_pos rfl]
  · rw [if_neg h]
    by_cases h2 : j < i
    · rw [if_pos (by omega)]; exact (if_pos h2).symm
    · rw [if_neg (by omega)]; exact (if_neg h2).symm
theorem cpF_0 (f g : Nat → Nat) (n : Nat) : cpF f g n 0 = g := by funext j; simp [cpF]
/-- what table() leaves -/
abbrev taO (t : Nat → Nat) (z : Bool × Nat × (Nat → Nat) × Nat × Nat) (T : mT) (F : mF) (G : mG) (S : mS) (W : mW) : pm_O → List pm_E → Prop := fun o w' =>
  (z.1 = true ∧ o = .inl (some (.int (nI z.2.2.2.1))) ∧ ∃ P' : mP, w' = moW (t, 0) P' (z.2.2.2.1, z.2.2.2.2, cpF z.2.2.1 T.2.2.1 112 112, cpF (fun _ => 1) T.2.2.2 16 16) (0, F.2) G S W 0) ∨
  (z.1 = false ∧ o = .inl (some (.int (pm_k (-100) - nI z.2.1))) ∧ ∃ P' : mP, w' = moW (t, 0) P' T F G S W 0)
set_option maxHeartbeats 2000000 in
theorem d_table (hs : l.stackTraces = false) (t : Nat → Nat) (n : Nat) (P : mP) (T : mT) (F : mF) (G : mG) (S : mS) (W : mW) (th : Nat) (hn : n ≤ 160) (ht : Ch t) :
    pm_Met l mX6_table 5 0 0 [.ref 0] (moW (t, n) P T F G S W th) (taO t (rdF2 t n 7 0 0 P.2.2.2.2 0) T F G S W) := by
  generalize hO : taO t (rdF2 t n 7 0 0 P.2.2.2.2 0) T F G S W = O
  have bad : ∀ (P' : mP) x, x ≤ 200 → P'.2.1 = nI x → (rdF2 t n 7 0 0 P.2.2.2.2 0).1 = false → (rdF2 t n 7 0 0 P.2.2.2.2 0).2.1 = x → pm_J l mX6_table iX6_table 5 0 0 15 O 0 0 (29, [some (.ref 0), none], [], moW (t, n) P' T F G S W 0) := by
    intro P' x hx hP h1 h2
    have h0 : (0 : Int32) ≤ P'.2.1 := by rw [hP]; exact Int32.not_lt.mp (nI_pos (by omega))
    refine pm_J.run [] 40 (fun K hK => br_t h0 (br_f (show ¬ P'.2.1 < 0 from Int32.not_lt.mpr h0) (hK _ ?_)))
    refine pm_J.ri ?_
    rw [← hO]
    exact Or.inr ⟨h1, by rw [h2, ← hP], P', rfl⟩
  have good : ∀ a kd c fr, kd ≤ 7 → a ≤ n → rdF2 t n 7 0 0 P.2.2.2.2 0 = (true, a, fr, kd, c) → pm_J l mX6_table iX6_table 5 0 0 15 O 0 0 (54, [some (.ref 0), none], [], moW (t, n) (a, pm_k (-1), kd, c, fr) T F G S W 0) := by
    intro a kd c fr hk ha hz
    rw [hz] at hO
    clear bad hz
    refine pm_J.run [92] 60 (fun K hK => br_t (show pm_k (-1) < 0 by decide) (hK _ ?_))
    have two : ∀ x1, pm_J l mX6_table iX6_table 5 0 0 15 O 0 0 (116, [some (.ref 0), x1], [], moW (t, 0) (a, pm_k (-1), kd, c, fr) (kd, c, cpF fr T.2.2.1 112 112, T.2.2.2) F G S W 0) := by
      intro x1
      refine pm_J.run [118] 40 (fun K hK => hK _ ?_)
      have key : pm_J l mX6_table iX6_table 5 0 0 15 O 0 0 (118, [some (.ref 0), some (.int (nI 0))], [], moW (t, 0) (a, pm_k (-1), kd, c, fr) (kd, c, cpF fr T.2.2.1 112 112, cpF (fun _ => 1) T.2.2.2 16 0) F G S W 0) := by
        refine pm_up (b := 16) (P := fun i => pm_J l mX6_table iX6_table 5 0 0 15 O 0 0 (118, [some (.ref 0), some (.int (nI i))], [], moW (t, 0) (a, pm_k (-1), kd, c, fr) (kd, c, cpF fr T.2.2.1 112 112, cpF (fun _ => 1) T.2.2.2 16 i) F G S W 0)) 0 (by decide) ?_ (fun i h1 h2 ih => ?_)
        · refine pm_J.run [] 60 (fun K hK => br_t (nI_le (a := 16) (b := 16) (by decide) (by decide)) (hK _ ?_))
          refine pm_J.ri ?_
          rw [← hO]
          exact Or.inl ⟨rfl, rfl, _, rfl⟩
        · refine pm_J.run [118] 60 (fun K hK => br_f (nI_ge (a := i) (b := 16) h2 (by decide)) (And.intro (vp_in_nI (by omega) (by decide)) (hK _ ?_)))
          rw [cpF_s _ _ _ i] at ih
          unfold moW at ih
          dsimp only at ih
          rw [← nA_upd, ← nI_add i 1] at ih
          rw [nI_clamp (by omega)]
          exact ih
      rw [cpF_0] at key
      exact key
    have key : pm_J l mX6_table iX6_table 5 0 0 15 O 0 0 (92, [some (.ref 0), some (.int (nI 0))], [], moW (t, 0) (a, pm_k (-1), kd, c, fr) (kd, c, cpF fr T.2.2.1 112 0, T.2.2.2) F G S W 0) := by
      refine pm_up (b := 112) (P := fun i => pm_J l mX6_table iX6_table 5 0 0 15 O 0 0 (92, [some (.ref 0), some (.int (nI i))], [], moW (t, 0) (a, pm_k (-1), kd, c, fr) (kd, c, cpF fr T.2.2.1 112 i, T.2.2.2) F G S W 0)) 0 (by decide) ?_ (fun i h1 h2 ih => ?_)
      · refine pm_J.run [116] 60 (fun K hK => br_t (nI_le (a := 112) (b := 112) (by decide) (by decide)) (hK _ ?_))
        exact two _
      · refine pm_J.run [92] 60 (fun K hK => br_f (nI_ge (a := i) (b := 112) h2 (by decide)) (And.intro (vp_in_nI (by omega) (by decide)) (And.intro (vp_in_nI (by omega) (by decide)) (hK _ ?_))))
        rw [cpF_s _ _ _ i] at ih
        unfold moW at ih
        dsimp only at ih
        rw [← nA_upd, ← nI_add i 1] at ih
        rw [nI_clamp (by omega)]
        exact ih
    rw [cpF_0] at key
    exact key
  have aft : ∀ f kd a fr c, kd + f = 6 → a ≤ n → c ≤ 16 → rdF2 t n (f + 1) kd a fr c = rdF2 t n 7 0 0 P.2.2.2.2 0 → ∀ w1, roO (t, n) kd (rwF2 t n kd a fr c) T F G S W 0 (.inl none) w1 → pm_J l mX6_table iX6_table 5 0 0 15 O 0 0 (29, [some (.ref 0), none], [], w1) := by
    intro f
    induction f with
    | zero =>
      intro kd a fr c hkf ha hc hz w1 hw
      obtain ⟨o1, o2⟩ := rwF2_ok (t := t) (kd := kd) (r := fr) ha hc
      rw [rdF2_s] at hz
      generalize rwF2 t n kd a fr c = y at hw hz o1 o2
      obtain ⟨y1, y2, y3, y4⟩ := y
      dsimp only at hw hz o1 o2
      rcases hw with ⟨g1, _, g3⟩ | ⟨g1, P', g2, _, g3⟩
      · subst g1 g3
        rw [if_neg (by decide)] at hz
        refine pm_J.run [54] 40 (fun K hK => br_f (show ¬ (0 : Int32) ≤ pm_k (-1) by decide) (And.intro (fun q => hK _ ?_) (fun q => hK _ ?_)))
        · have q' : nI n ≤ nI y2 := q
          rw [nI_leI (by omega) (by omega)] at q'
          have e : y2 = n := by omega
          rw [if_pos e] at hz
          subst e
          exact good y2 (kd + 1) y4 y3 (by omega) (Nat.le_refl _) hz.symm
        · have q' : ¬ nI n ≤ nI y2 := q
          rw [nI_leI (by omega) (by omega)] at q'
          rw [if_neg (by omega)] at hz
          have e7 : kd + 1 = 7 := by omega
          rw [e7] at hz ⊢
          refine pm_J.cv q15 (moW (t, n) (y2, nI y2, 7, y4, y3) T F G S W 0) (d_row7 hs (t, n) y2 y4 y3 T F G S W 0) gRX6_91 vX6_row ?_
          refine pm_J.run [29] 40 (fun K hK => hK _ ?_)
          exact bad _ y2 (by omega) rfl (by rw [← hz]; rfl) (by rw [← hz]; rfl)
      · subst g1 g3
        rw [if_pos rfl] at hz
        exact bad P' y2 (by omega) g2 (by rw [← hz]) (by rw [← hz])
    | succ f ih =>
      intro kd a fr c hkf ha hc hz w1 hw
      obtain ⟨o1, o2⟩ := rwF2_ok (t := t) (kd := kd) (r := fr) ha hc
      rw [rdF2_s] at hz
      generalize rwF2 t n kd a fr c = y at hw hz o1 o2
      obtain ⟨y1, y2, y3, y4⟩ := y
      dsimp only at hw hz o1 o2
      rcases hw with ⟨g1, _, g3⟩ | ⟨g1, P', g2, _, g3⟩
      · subst g1 g3
        rw [if_neg (by decide)] at hz
        refine pm_J.run [54] 40 (fun K hK => br_f (show ¬ (0 : Int32) ≤ pm_k (-1) by decide) (And.intro (fun q => hK _ ?_) (fun q => hK _ ?_)))
        · have q' : nI n ≤ nI y2 := q
          rw [nI_leI (by omega) (by omega)] at q'
          have e : y2 = n := by omega
          rw [if_pos e] at hz
          subst e
          exact good y2 (kd + 1) y4 y3 (by omega) (Nat.le_refl _) hz.symm
        · have q' : ¬ nI n ≤ nI y2 := q
          rw [nI_leI (by omega) (by omega)] at q'
          rw [if_neg (by omega)] at hz
          refine pm_J.cR q15 (d_row hs t n y2 (kd + 1) y4 y3 T F G S W 0 hn ht o1 (by omega) o2) gRX6_91 vX6_row (fun E w1 h => ?_) (fun v w1 h => ?_)
          · rcases h with ⟨_, h, _⟩ | ⟨_, _, _, h, _⟩ <;> cases h
          · have hv : v = none := by rcases h with ⟨_, h, _⟩ | ⟨_, _, _, h, _⟩ <;> (cases h; rfl)
            subst hv
            have e : pm_bk (pm_rn q15) (moW (t, n) (y2, pm_k (-1), kd + 1, y4, y3) T F G S W 0) q15 w1 = w1 := by
              rcases h with ⟨_, _, h⟩ | ⟨_, _, _, _, h⟩ <;> (subst h; rfl)
            have := ih (kd + 1) y2 y3 y4 (by omega) o1 o2 hz w1 h
            refine pm_J.run [29] 40 (fun K hK => hK _ ?_)
            show pm_J l mX6_table iX6_table 5 0 0 15 O 0 0 (29, [some (.ref 0), none], [], pm_bk (pm_rn q15) (moW (t, n) (y2, pm_k (-1), kd + 1, y4, y3) T F G S W 0) q15 w1)
            rw [e]
            exact this
      · subst g1 g3
        rw [if_pos rfl] at hz
        exact bad P' y2 (by omega) g2 (by rw [← hz]) (by rw [← hz])
  refine pm_Met.mk kX6_table hs (pm_J.run [] 40 (fun K hK => hK _ ?_))
  refine pm_J.cR q15 (d_row hs t n 0 0 0 P.2.2.2.2 T F G S W 0 hn ht (Nat.zero_le _) (by decide) (by decide)) gRX6_91 vX6_row (fun E w1 h => ?_) (fun v w1 h => ?_)
  · rcases h with ⟨_, h, _⟩ | ⟨_, _, _, h, _⟩ <;> cases h
  · have hv : v = none := by rcases h with ⟨_, h, _⟩ | ⟨_, _, _, h, _⟩ <;> (cases h; rfl)
    subst hv
    have e : pm_bk (pm_rn q15) (moW (t, n) (0, pm_k (-1), 0, 0, P.2.2.2.2) T F G S W 0) q15 w1 = w1 := by
      rcases h with ⟨_, _, h⟩ | ⟨_, _, _, _, h⟩ <;> (subst h; rfl)
    have := aft 6 0 0 P.2.2.2.2 0 rfl (Nat.zero_le _) (by decide) rfl w1 h
    rw [← e] at this
    exact this
end MD4
