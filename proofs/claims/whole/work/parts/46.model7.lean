section MD7
variable {l : Launch}
/-- below N, and nothing past 16 -/
def Bz (N : Nat) (f : Nat → Nat) : Prop := (∀ j, f j < N) ∧ ∀ j, 16 ≤ j → f j = 0
theorem Bz.up {N : Nat} {f : Nat → Nat} (h : Bz N f) {k v : Nat} (hv : v < N) (hk : k < 16) : Bz N (upN f k v) := by
  refine ⟨fun j => ?_, fun j hj => ?_⟩
  · unfold upN
    split
    · exact hv
    · exact h.1 j
  · unfold upN
    rw [if_neg (by omega)]
    exact h.2 j hj
theorem Bz.mono {N M : Nat} {f : Nat → Nat} (h : Bz N f) (hm : N ≤ M) : Bz M f := ⟨fun j => Nat.lt_of_lt_of_le (h.1 j) hm, h.2⟩
theorem rpS_Bz {N old node : Nat} {L R : Nat → Nat} (hL : Bz N L) (hR : Bz N R) (hn : node < N) : ∀ k, k ≤ 16 → Bz N (rpS old node L R k).1 ∧ Bz N (rpS old node L R k).2
  | 0, _ => ⟨hL, hR⟩
  | k + 1, hk => by
    have ih := rpS_Bz (old := old) hL hR hn k (by omega)
    have h : ∀ f : Nat → Nat, Bz N f → rv f old node k < N := fun f hf => by
      unfold rv; split
      · exact hn
      · exact hf.1 k
    unfold rpS
    split
    · exact ⟨hL, hR⟩
    · exact ⟨ih.1.up (h _ ih.1) (by omega), ih.2.up (h _ ih.2) (by omega)⟩
def olN (k x j : Nat) : Nat := if chR k x j ≤ j - 2 then 1 + chR k x j else 10 + chR k x j - (j - 1)
theorem chR_lt {k x j : Nat} (h2 : 2 ≤ j) : chR k x j < 2 * j - 2 := by
  unfold chR
  split
  · omega
  · have := Nat.mod_lt (dvS j k x) (show 0 < 2 * j - 3 by omega)
    omega
theorem chR_2 {k x : Nat} : chR k x 2 = 0 := by unfold chR; rfl
theorem olN_lt {k x j : Nat} (h2 : 2 ≤ j) : olN k x j < 8 + j := by
  by_cases h3 : j = 2
  · subst h3
    unfold olN
    rw [chR_2]
    decide
  · have : chR k x j < 2 * j - 3 := by
      unfold chR
      rw [if_neg (by omega)]
      exact Nat.mod_lt _ (by omega)
    unfold olN
    split <;> omega
def gwS (k x : Nat) : Nat → Nat × (Nat → Nat) × (Nat → Nat)
  | 0 => (1, fun _ => 0, fun _ => 0)
  | j + 1 => if j < 2 then (1, fun _ => 0, fun _ => 0) else
    (if (gwS k x j).1 = olN k x j then 8 + j else (gwS k x j).1, upN (rpS (olN k x j) (8 + j) (gwS k x j).2.1 (gwS k x j).2.2 16).1 (8 + j) (olN k x j), upN (rpS (olN k x j) (8 + j) (gwS k x j).2.1 (gwS k x j).2.2 16).2 (8 + j) j)
theorem gwS_ok (k x : Nat) : ∀ j, j ≤ 7 → (gwS k x j).1 < 16 ∧ Bz 16 (gwS k x j).2.1 ∧ Bz 16 (gwS k x j).2.2
  | 0, _ => ⟨(by decide : 1 < 16), ⟨fun _ => (by decide : 0 < 16), fun _ _ => rfl⟩, ⟨fun _ => (by decide : 0 < 16), fun _ _ => rfl⟩⟩
  | j + 1, hj => by
    obtain ⟨i1, i2, i3⟩ := gwS_ok k x j (by omega)
    unfold gwS
    split
    · exact ⟨(by decide : 1 < 16), ⟨fun _ => (by decide : 0 < 16), fun _ _ => rfl⟩, ⟨fun _ => (by decide : 0 < 16), fun _ _ => rfl⟩⟩
    · have ho := olN_lt (k := k) (x := x) (j := j) (by omega)
      obtain ⟨b1, b2⟩ := rpS_Bz (old := olN k x j) (node := 8 + j) i2 i3 (by omega) 16 (by decide)
      refine ⟨?_, b1.up (by omega) (by omega), b2.up (by omega) (by omega)⟩
      show (if (gwS k x j).1 = olN k x j then 8 + j else (gwS k x j).1) < 16
      split
      · omega
      · exact i1
/-- the sets of a tree's nodes -/
def gwR (k x : Nat) : rdsT := gsO (gwS k x k).2.1 (gwS k x k).2.2 k (rdI, stI) 6
def gwT (k x : Nat) (co : Nat → Nat) : mG := ((gwS k x k).1, (gwS k x k).2.1, (gwS k x k).2.2, (gwR k x).2, (gwR k x).1, co)
def gwP (k x : Nat) (S : mS) : mS := ((spS (gwR k x).2 k S.2.1 (8 + k)).1, (spS (gwR k x).2 k S.2.1 (8 + k)).2, S.2.2)
def GI (G : mG) : Prop := Bz 16 G.2.1 ∧ Bz 16 G.2.2.1 ∧ Bz 256 G.2.2.2.1 ∧ Bz 128 G.2.2.2.2.1
theorem gsT_Bz {L R : Nat → Nat} {s : rdsT} {k : Nat} (hk : k < 16) (h : Bz 128 s.1 ∧ Bz 256 s.2) : Bz 128 (gsT L R s k).1 ∧ Bz 256 (gsT L R s k).2 := by
  unfold gsT
  split
  · exact ⟨h.1.up (by decide) hk, h.2.up (Nat.or_lt_two_pow (n := 8) (h.2.1 _) (h.2.1 _)) hk⟩
  · exact h
theorem gsI_Bz {L R : Nat → Nat} {s : rdsT} (h : Bz 128 s.1 ∧ Bz 256 s.2) : ∀ k, k ≤ 16 → Bz 128 (gsI L R s k).1 ∧ Bz 256 (gsI L R s k).2
  | 0, _ => h
  | k + 1, hk => by
    unfold gsI
    split
    · exact h
    · exact gsT_Bz (by omega) (gsI_Bz h k (by omega))
theorem gsO_Bz {L R : Nat → Nat} {kn : Nat} {s : rdsT} (hk : kn ≤ 7) (h : Bz 128 s.1 ∧ Bz 256 s.2) : ∀ r, Bz 128 (gsO L R kn s r).1 ∧ Bz 256 (gsO L R kn s r).2
  | 0 => h
  | r + 1 => gsI_Bz (gsO_Bz hk h r) _ (by omega)
theorem I_Bz : Bz 128 rdI ∧ Bz 256 stI := ⟨⟨rdI_Bd, fun j hj => by unfold rdI; rw [if_neg (by omega)]⟩, ⟨stI_B8, fun j hj => by unfold stI; rw [if_neg (by omega)]⟩⟩
theorem gwT_GI {k x : Nat} (co : Nat → Nat) (hk : k ≤ 7) : GI (gwT k x co) := by
  obtain ⟨i1, i2, i3⟩ := gwS_ok k x k hk
  obtain ⟨j1, j2⟩ := gsO_Bz (L := (gwS k x k).2.1) (R := (gwS k x k).2.2) (kn := k) (s := (rdI, stI)) hk I_Bz 6
  exact ⟨i2, i3, j2, j1⟩
theorem cpF_z {N : Nat} {f g : Nat → Nat} (hg : Bz N g) (hf : ∀ j, 16 ≤ j → f j = 0) : cpF f g 16 16 = f := by
  funext j
  unfold cpF
  split
  · rfl
  · rw [hg.2 j (by omega), hf j (by omega)]
set_option maxHeartbeats 2000000 in
theorem d_grow (hs : l.stackTraces = false) (A : mA) (P : mP) (T : mT) (F : mF) (G : mG) (S : mS) (W : mW) (th x : Nat) (hk3 : 3 ≤ T.1) (hk : T.1 ≤ 7) (hx : x < 2 ^ 31) (hG : GI G) :
    pm_Met l mX6_grow 2 0 0 [.ref 0, .int (nI x)] (moW A P T F G S W th) (isO none (moW A P T F (gwT T.1 x G.2.2.2.2.2) (gwP T.1 x S) W th)) := by
  generalize hO : isO none (moW A P T F (gwT T.1 x G.2.2.2.2.2) (gwP T.1 x S) W th) = O
  obtain ⟨tp, L, R, st, rd, co⟩ := G
  obtain ⟨hL, hR, hst, hrd⟩ := hG
  dsimp only at hL hR hst hrd hO ⊢
  have last : ∀ x3 x4, pm_J l mX6_grow iX6_grow 2 0 0 15 O 0 0 (110, [some (.ref 0), some (.int (nI x)), some (.int (nI T.1)), x3, x4], [], moW A P T F ((gwS T.1 x T.1).1, (gwS T.1 x T.1).2.1, (gwS T.1 x T.1).2.2, st, rd, co) S W th) := by
    intro x3 x4
    obtain ⟨i1, i2, i3⟩ := gwS_ok T.1 x T.1 hk
    refine pm_J.run [] 40 (fun K hK => hK _ ?_)
    have e1 : gsR (gwS T.1 x T.1).2.1 (gwS T.1 x T.1).2.2 T.1 rd st = gwR T.1 x := by
      unfold gsR gwR
      rw [cpF_z hrd I_Bz.1.2, cpF_z hst I_Bz.2.2]
    have hM := d_gather hs A P T F (gwS T.1 x T.1).1 (gwS T.1 x T.1).2.1 (gwS T.1 x T.1).2.2 st rd co S W th hk3 hk i2.1 i3.1 hst.1 hrd.1
    rw [e1] at hM
    refine pm_J.cv q15 (moW A P T F (gwT T.1 x co) (gwP T.1 x S) W th) hM gRX6_120 vX6_gather ?_
    refine pm_J.rv ?_
    rw [← hO]
    exact ⟨rfl, rfl⟩
  have loop : ∀ x3 x4, pm_J l mX6_grow iX6_grow 2 0 0 15 O 0 0 (35, [some (.ref 0), some (.int (nI x)), some (.int (nI 2)), x3, x4], [], moW A P T F ((gwS T.1 x 2).1, (gwS T.1 x 2).2.1, (gwS T.1 x 2).2.2, st, rd, co) S W th) := by
    refine pm_up (b := T.1) (P := fun j => ∀ x3 x4, pm_J l mX6_grow iX6_grow 2 0 0 15 O 0 0 (35, [some (.ref 0), some (.int (nI x)), some (.int (nI j)), x3, x4], [], moW A P T F ((gwS T.1 x j).1, (gwS T.1 x j).2.1, (gwS T.1 x j).2.2, st, rd, co) S W th)) 2 (by omega) (fun x3 x4 => ?_) (fun j h1 h2 ih x3 x4 => ?_)
    · refine pm_J.run [110] 40 (fun K hK => br_t (nI_le (Nat.le_refl _) (by omega)) (hK _ ?_))
      exact last _ _
    · obtain ⟨i1, i2, i3⟩ := gwS_ok T.1 x j (by omega)
      have ho := olN_lt (k := T.1) (x := x) (j := j) h1
      have hc := chR_lt (k := T.1) (x := x) (j := j) h1
      have e : gwS T.1 x (j + 1) = (if (gwS T.1 x j).1 = olN T.1 x j then 8 + j else (gwS T.1 x j).1, upN (rpS (olN T.1 x j) (8 + j) (gwS T.1 x j).2.1 (gwS T.1 x j).2.2 16).1 (8 + j) (olN T.1 x j), upN (rpS (olN T.1 x j) (8 + j) (gwS T.1 x j).2.1 (gwS T.1 x j).2.2 16).2 (8 + j) j) := by rw [gwS, if_neg (by omega)]
      rw [e, ← nI_add j 1] at ih
      clear e last
      dsimp only at ih
      have e8 : nI 8 + nI j = nI (8 + j) := nI_add 8 j
      have e8' : pm_k 8 + nI j = nI (8 + j) := nI_add 8 j
      refine pm_J.run [35] 40 (fun K hK => br_f (nI_ge h2 (by omega)) (hK _ ?_))
      refine pm_J.cI q15 (d_choice hs A P T F ((gwS T.1 x j).1, (gwS T.1 x j).2.1, (gwS T.1 x j).2.2, st, rd, co) S W th x j hk hx h1 h2) gRX6_112 vX6_choice ?_
      have mid : ∀ v, v = olN T.1 x j → pm_J l mX6_grow iX6_grow 2 0 0 15 O 0 0 (71, [some (.ref 0), some (.int (nI x)), some (.int (nI j)), some (.int (nI (chR T.1 x j))), x4], [.int (nI v)], moW A P T F ((gwS T.1 x j).1, (gwS T.1 x j).2.1, (gwS T.1 x j).2.2, st, rd, co) S W th) := by
        intro v hv
        subst hv
        have ih2 := ih (some (.int (nI (chR T.1 x j)))) (some (.int (nI (olN T.1 x j))))
        refine pm_J.run [] 40 (fun K hK => hK _ ?_)
        rw [e8']
        have hM := d_replace hs A P T F (gwS T.1 x j).1 (gwS T.1 x j).2.1 (gwS T.1 x j).2.2 (st, rd, co) S W th (olN T.1 x j) (8 + j) (by omega) (fun j => by have := i2.1 j; omega) (fun j => by have := i3.1 j; omega) (by omega) (by omega)
        generalize rpS (olN T.1 x j) (8 + j) (gwS T.1 x j).2.1 (gwS T.1 x j).2.2 16 = z at ih2 hM
        generalize (if (gwS T.1 x j).1 = olN T.1 x j then 8 + j else (gwS T.1 x j).1) = tp2 at ih2 hM
        refine pm_J.cv q15 (moW A P T F (tp2, z.1, z.2, st, rd, co) S W th) hM gRX6_116 vX6_replace ?_
        have ii : vp_in (pm_k 8 + nI j) 16 := by rw [e8']; exact vp_in_nI (by omega) (by decide)
        refine pm_J.run [35] 60 (fun K hK => And.intro ii (And.intro ii (hK _ ?_)))
        rw [e8', nI_clamp (by omega)]
        unfold moW at ih2
        dsimp only at ih2
        rw [← nA_upd z.1, ← nA_upd z.2] at ih2
        exact ih2
      refine pm_J.run [71] 40 (fun K hK => And.intro (fun q => hK _ ?_) (fun q => hK _ ?_))
      · have q' : nI j - nI 2 < nI (chR T.1 x j) := q
        rw [pk_sub (by omega), nI_ltI (by omega) (by omega)] at q'
        have := mid (10 + chR T.1 x j - (j - 1)) (by rw [olN, if_neg (by omega)])
        rw [← pk_sub (by omega), ← nI_add 10 _, ← pk_sub (a := j) (b := 1) (by omega)] at this
        exact this
      · have q' : ¬ nI j - nI 2 < nI (chR T.1 x j) := q
        rw [pk_sub (by omega), nI_ltI (by omega) (by omega)] at q'
        have := mid (1 + chR T.1 x j) (by rw [olN, if_pos (by omega)])
        rw [← nI_add 1 _] at this
        exact this
  have zero : pm_J l mX6_grow iX6_grow 2 0 0 15 O 0 0 (7, [some (.ref 0), some (.int (nI x)), some (.int (nI 0)), none, none], [], moW A P T F (1, cpF (fun _ => 0) L 16 0, cpF (fun _ => 0) R 16 0, st, rd, co) S W th) := by
    refine pm_up (b := 16) (P := fun i => pm_J l mX6_grow iX6_grow 2 0 0 15 O 0 0 (7, [some (.ref 0), some (.int (nI x)), some (.int (nI i)), none, none], [], moW A P T F (1, cpF (fun _ => 0) L 16 i, cpF (fun _ => 0) R 16 i, st, rd, co) S W th)) 0 (by decide) ?_ (fun i h1 h2 ih => ?_)
    · rw [cpF_z hL (fun _ _ => rfl), cpF_z hR (fun _ _ => rfl)]
      have e2 : gwS T.1 x 2 = (1, fun _ => 0, fun _ => 0) := by rw [gwS, if_pos (by decide)]
      rw [e2] at loop
      refine pm_J.run [35] 40 (fun K hK => br_t (nI_le (a := 16) (b := 16) (by decide) (by decide)) (hK _ ?_))
      exact loop none none
    · have ii : vp_in (nI i) 16 := vp_in_nI (by omega) (by decide)
      rw [cpF_s _ _ _ i, cpF_s _ _ _ i] at ih
      unfold moW at ih
      dsimp only at ih
      rw [← nA_upd (cpF (fun _ => 0) L 16 i), ← nA_upd (cpF (fun _ => 0) R 16 i), ← nI_add i 1] at ih
      refine pm_J.run [7] 40 (fun K hK => br_f (nI_ge (a := i) (b := 16) h2 (by decide)) (And.intro ii (And.intro ii (hK _ ?_))))
      rw [nI_clamp (by omega)]
      exact ih
  refine pm_Met.mk kX6_grow hs (pm_J.run [7] 40 (fun K hK => hK _ ?_))
  rw [cpF_0, cpF_0] at zero
  exact zero
end MD7
