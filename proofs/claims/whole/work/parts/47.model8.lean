section MD8
variable {l : Launch}
theorem d_least (hs : l.stackTraces = false) (a b : Nat) (ha : a < 2 ^ 31) (hb : b < 2 ^ 31) : pm_Met l mX6_least 1 0 0 [.int (nI a), .int (nI b)] [] (isI (nI (min a b)) []) := by
  refine pm_Met.mk kX6_least hs (pm_J.run [] 20 (fun K hK => And.intro (fun q => hK _ ?_) (fun q => hK _ ?_)))
  · have q' : nI b ≤ nI a := q
    rw [nI_leI hb ha] at q'
    exact pm_J.ri ⟨by rw [Nat.min_eq_right q'], rfl⟩
  · have q' : ¬ nI b ≤ nI a := q
    rw [nI_leI hb ha] at q'
    exact pm_J.ri ⟨by rw [Nat.min_eq_left (by omega)], rfl⟩
def CB (co : Nat → Nat) : Prop := ∀ j, co j < 1000
theorem CB.up {f : Nat → Nat} (h : CB f) {k v : Nat} (hv : v < 1000) : CB (upN f k v) := fun j => by
  unfold upN
  split
  · exact hv
  · exact h j
def fmS (co : Nat → Nat) (nd x : Nat) : Nat → Nat
  | 0 => 99
  | s + 1 => min (fmS co nd x s) (co (4 * nd + s) + (if s = x then 0 else 1))
theorem fmS_le (co : Nat → Nat) (nd x : Nat) : ∀ s, fmS co nd x s ≤ 99
  | 0 => Nat.le_refl _
  | s + 1 => Nat.le_trans (Nat.min_le_left _ _) (fmS_le co nd x s)
abbrev frF (co : Nat → Nat) (nd x : Nat) : Nat := fmS co nd x 4
theorem d_from (hs : l.stackTraces = false) (A : mA) (P : mP) (T : mT) (F : mF) (G : mG) (S : mS) (W : mW) (th x nd : Nat) (hx : x < 4) (hn : nd < 16) (hc : CB G.2.2.2.2.2) :
    pm_Met l mX6_from 2 0 0 [.ref 0, .int (nI x), .int (nI nd)] (moW A P T F G S W th) (isI (nI (frF G.2.2.2.2.2 nd x)) (moW A P T F G S W th)) := by
  refine pm_Met.mk kX6_from hs (pm_J.run [6] 20 (fun K hK => hK _ ?_))
  refine pm_up (b := 4) (P := fun s => pm_J l mX6_from iX6_from 2 0 0 15 (isI (nI (frF G.2.2.2.2.2 nd x)) (moW A P T F G S W th)) 0 0 (6, [some (.ref 0), some (.int (nI x)), some (.int (nI nd)), some (.int (nI (fmS G.2.2.2.2.2 nd x s))), some (.int (nI s))], [], moW A P T F G S W th)) 0 (by decide) ?_ (fun s h1 h2 ih => ?_)
  · refine pm_J.run [6] 40 (fun K hK => br_t (nI_le (a := 4) (b := 4) (by decide) (by decide)) (hK _ ?_))
    exact pm_J.ri ⟨rfl, rfl⟩
  · have hl := fmS_le G.2.2.2.2.2 nd x s
    have hcv := hc (4 * nd + s)
    have e4 : pm_k 4 * nI nd + nI s = nI (4 * nd + s) := by
      show nI 4 * nI nd + nI s = _
      rw [pk_mul, nI_add]
    have go : ∀ d, (if s = x then 0 else 1) = d → pm_J l mX6_from iX6_from 2 0 0 15 (isI (nI (frF G.2.2.2.2.2 nd x)) (moW A P T F G S W th)) 0 0 (36, [some (.ref 0), some (.int (nI x)), some (.int (nI nd)), some (.int (nI (fmS G.2.2.2.2.2 nd x s))), some (.int (nI s))], [.int (nI (G.2.2.2.2.2 (4 * nd + s)) + nI d), .int (nI (fmS G.2.2.2.2.2 nd x s))], moW A P T F G S W th) := by
      intro d hd
      have hd1 : d ≤ 1 := by rw [← hd]; split <;> omega
      rw [nI_add]
      refine pm_J.cis (d_least hs (fmS G.2.2.2.2.2 nd x s) (G.2.2.2.2.2 (4 * nd + s) + d) (by omega) (by omega)) gRX6_126 vX6_least ?_
      have e : fmS G.2.2.2.2.2 nd x (s + 1) = min (fmS G.2.2.2.2.2 nd x s) (G.2.2.2.2.2 (4 * nd + s) + d) := by rw [fmS, hd]
      rw [e, ← nI_add s 1] at ih
      refine pm_J.run [6] 40 (fun K hK => hK _ ?_)
      exact ih
    refine pm_J.run [36] 40 (fun K hK => br_f (nI_ge (a := s) (b := 4) h2 (by decide)) (And.intro (by rw [e4]; exact vp_in_nI (by omega) (by decide)) (And.intro (fun q => hK _ ?_) (fun q => hK _ ?_))))
    · have q' : ¬ nI s = nI x := q
      rw [nI_e128 (by omega) (by omega)] at q'
      rw [e4, nI_clamp (by omega)]
      exact go 1 (if_neg q')
    · have q' : ¬ ¬ nI s = nI x := q
      rw [nI_e128 (by omega) (by omega)] at q'
      rw [e4, nI_clamp (by omega)]
      exact go 0 (if_pos (Classical.not_not.mp q'))
def rdK (kn k : Nat) : Nat := if k < kn then 1 else 0
def ciV (stt : Nat → Nat) (c j : Nat) : Nat := if stt (16 * (j / 4) + c) / 2 ^ (j % 4) % 2 = 1 then 0 else 99
def ncS (L R : Nat → Nat) (k : Nat) (co : Nat → Nat) : Nat → Nat → Nat
  | 0 => co
  | s + 1 => upN (ncS L R k co s) (4 * k + s) (frF (ncS L R k co s) (L k) s + frF (ncS L R k co s) (R k) s)
def nsT (L R : Nat → Nat) (s : rdsT) (k : Nat) : rdsT := if s.1 k = 0 ∧ ¬ s.1 (L k) = 0 ∧ ¬ s.1 (R k) = 0 then (upN s.1 k 1, ncS L R k s.2 4) else s
def nsI (L R : Nat → Nat) (s : rdsT) : Nat → rdsT
  | 0 => s
  | k + 1 => if k < 10 then s else nsT L R (nsI L R s k) k
def nsO (L R : Nat → Nat) (kn : Nat) (s : rdsT) : Nat → rdsT
  | 0 => s
  | r + 1 => nsI L R (nsO L R kn s r) (8 + kn)
def alS (co : Nat → Nat) (tp : Nat) : Nat → Nat
  | 0 => 99
  | s + 1 => min (alS co tp s) (co s + frF co tp s)
theorem alS_le (co : Nat → Nat) (tp : Nat) : ∀ s, alS co tp s ≤ 99
  | 0 => Nat.le_refl _
  | s + 1 => Nat.le_trans (Nat.min_le_left _ _) (alS_le co tp s)
theorem ncS_CB {L R : Nat → Nat} {k : Nat} {co : Nat → Nat} (h : CB co) : ∀ s, CB (ncS L R k co s)
  | 0 => h
  | s + 1 => (ncS_CB h s).up (by
      have h1 := fmS_le (ncS L R k co s) (L k) s 4
      have h2 := fmS_le (ncS L R k co s) (R k) s 4
      show fmS _ _ _ _ + fmS _ _ _ _ < 1000
      omega)
def BN (s : rdsT) : Prop := Bz 128 s.1 ∧ CB s.2
theorem nsT_BN {L R : Nat → Nat} {s : rdsT} {k : Nat} (hk : k < 16) (h : BN s) : BN (nsT L R s k) := by
  unfold nsT
  split
  · exact ⟨h.1.up (by decide) hk, ncS_CB h.2 4⟩
  · exact h
theorem nsI_BN {L R : Nat → Nat} {s : rdsT} (h : BN s) : ∀ k, k ≤ 16 → BN (nsI L R s k)
  | 0, _ => h
  | k + 1, hk => by
    unfold nsI
    split
    · exact h
    · exact nsT_BN (by omega) (nsI_BN h k (by omega))
theorem nsO_BN {L R : Nat → Nat} {kn : Nat} {s : rdsT} (hk : kn ≤ 7) (h : BN s) : ∀ r, BN (nsO L R kn s r)
  | 0 => h
  | r + 1 => nsI_BN (nsO_BN hk h r) _ (by omega)
theorem rdK_Bz {kn : Nat} (hk : kn ≤ 7) : Bz 128 (rdK kn) := ⟨fun j => by unfold rdK; split <;> omega, fun j hj => by unfold rdK; rw [if_neg (by omega)]⟩
theorem ci_CB {stt : Nat → Nat} {c : Nat} {co : Nat → Nat} (h : CB co) (i : Nat) : CB (cpF (ciV stt c) co 64 i) := fun j => by
  unfold cpF
  split
  · unfold ciV; split <;> omega
  · exact h j
/-- what the rounds of needed() leave -/
def ndR (T : mT) (L R : Nat → Nat) (co : Nat → Nat) (c : Nat) : rdsT := nsO L R T.1 (rdK T.1, cpF (ciV T.2.2.1 c) co 64 (4 * T.1)) 6
def ndF (T : mT) (tp : Nat) (L R : Nat → Nat) (co : Nat → Nat) (c : Nat) : Nat := alS (ndR T L R co c).2 tp 4
end MD8
