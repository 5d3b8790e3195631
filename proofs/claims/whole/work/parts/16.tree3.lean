section TR3
variable {l : Launch}
abbrev trS : Type := (Nat → Nat) × (Nat → Nat) × (Nat → Nat)
def inS (od : Nat → Nat) (nd fr : Nat) (s0 : trS) : Nat → trS × Nat
  | 0 => (s0, 0)
  | i + 1 => if od i = nd then ((inS od nd fr s0 i).1, i + 1) else ((mrO (inS od nd fr s0 i).1.1 (od i) nd fr, mrT (inS od nd fr s0 i).1.1 (inS od nd fr s0 i).1.2.1 (od i) nd fr, mrB (inS od nd fr s0 i).1.2.2 (od i) nd fr), (inS od nd fr s0 i).2)
theorem inS_le (od : Nat → Nat) (nd fr : Nat) (s0 : trS) : ∀ i, (inS od nd fr s0 i).2 ≤ i
  | 0 => Nat.le_refl _
  | i + 1 => by
    have := inS_le od nd fr s0 i
    unfold inS
    split
    · exact Nat.le_refl _
    · show (inS od nd fr s0 i).2 ≤ i + 1
      omega
theorem inS_Bd {od : Nat → Nat} {nd fr : Nat} {s0 : trS} (hf : fr < 128) (h : Bd s0.1 ∧ Bd s0.2.1 ∧ Bd s0.2.2) : ∀ i, Bd (inS od nd fr s0 i).1.1 ∧ Bd (inS od nd fr s0 i).1.2.1 ∧ Bd (inS od nd fr s0 i).1.2.2
  | 0 => h
  | i + 1 => by
    have ih := inS_Bd (od := od) (nd := nd) hf h i
    unfold inS
    split
    · exact ih
    · exact ⟨mrO_Bd ih.1 hf, mrT_Bd ih.2.1 hf, mrB_Bd ih.2.2⟩
def insR (k nd : Nat) (s0 : trS) (od : Nat → Nat) (inn : Nat) : trS × (Nat → Nat) :=
  ((upN (inS od nd (7 + k) s0 inn).1.1 (7 + k) nd, upN (inS od nd (7 + k) s0 inn).1.2.1 (7 + k) k, upN (inS od nd (7 + k) s0 inn).1.2.2 (7 + k) ((inS od nd (7 + k) s0 inn).1.2.2 nd ||| (inS od nd (7 + k) s0 inn).1.2.2 k)),
    upN (va_cpy od od (inS od nd (7 + k) s0 inn).2 ((inS od nd (7 + k) s0 inn).2 + 1) (inn - (inS od nd (7 + k) s0 inn).2)) (inS od nd (7 + k) s0 inn).2 (7 + k))
theorem nA_cpy (f g : Nat → Nat) (sp dp n : Nat) : va_cpy (nA f) (nA g) sp dp n = nA (va_cpy f g sp dp n) := by
  funext j
  show va_cpy (nA f) (nA g) sp dp n j = nI (va_cpy f g sp dp n j)
  unfold va_cpy
  split <;> rfl
theorem gcopy_RX4_66 : ∀ z ∈ [Cond.methodLink RX4 66 arraycopyName, Cond.native arraycopyName, Cond.static arraycopyName, Cond.initialized "java/lang/System"], z ∈ pm_tb := by decide +kernel
set_option maxHeartbeats 1000000 in
theorem c_insert (hs : l.stackTraces = false) (ch : Nat → Int32) (s0 : trS) (se : Nat → Int64) (od : Nat → Nat) (inn k nd : Nat) (hB : Bd s0.1 ∧ Bd s0.2.1 ∧ Bd s0.2.2) (hod : ∀ i, i < inn → od i < 14) (hinn : inn < 6) (hk : k < 7) (hn : nd < 14) :
    pm_Met l mX4_insert 2 0 0 [.ref 0, .int (nI k), .int (nI nd)] (trW ch (nA s0.1) (nA s0.2.1) (nA s0.2.2) se (nA od) (nI inn))
      (isO none (trW ch (nA (insR k nd s0 od inn).1.1) (nA (insR k nd s0 od inn).1.2.1) (nA (insR k nd s0 od inn).1.2.2) se (nA (insR k nd s0 od inn).2) (nI (inn + 1)))) := by
  refine pm_Met.mk kX4_insert hs (pm_J.run [11] 40 (fun K hK => hK _ ?_))
  have hBi := inS_Bd (od := od) (nd := nd) (fr := 7 + k) (s0 := s0) (by omega) hB
  have key : pm_J l mX4_insert iX4_insert 2 0 0 7 (isO none (trW ch (nA (insR k nd s0 od inn).1.1) (nA (insR k nd s0 od inn).1.2.1) (nA (insR k nd s0 od inn).1.2.2) se (nA (insR k nd s0 od inn).2) (nI (inn + 1)))) 0 0
      (11, [some (.ref 0), some (.int (nI k)), some (.int (nI nd)), some (.int (nI (7 + k))), some (.int (nI (inS od nd (7 + k) s0 0).2)), some (.int (nI 0))], [], trW ch (nA (inS od nd (7 + k) s0 0).1.1) (nA (inS od nd (7 + k) s0 0).1.2.1) (nA (inS od nd (7 + k) s0 0).1.2.2) se (nA od) (nI inn)) := by
    refine pm_up (b := inn) (P := fun i => pm_J l mX4_insert iX4_insert 2 0 0 7 (isO none (trW ch (nA (insR k nd s0 od inn).1.1) (nA (insR k nd s0 od inn).1.2.1) (nA (insR k nd s0 od inn).1.2.2) se (nA (insR k nd s0 od inn).2) (nI (inn + 1)))) 0 0
      (11, [some (.ref 0), some (.int (nI k)), some (.int (nI nd)), some (.int (nI (7 + k))), some (.int (nI (inS od nd (7 + k) s0 i).2)), some (.int (nI i))], [], trW ch (nA (inS od nd (7 + k) s0 i).1.1) (nA (inS od nd (7 + k) s0 i).1.2.1) (nA (inS od nd (7 + k) s0 i).1.2.2) se (nA od) (nI inn))) 0 (Nat.zero_le _) ?_ (fun i h1 h2 ih => ?_)
    · have hp := inS_le od nd (7 + k) s0 inn
      have hB1 := hBi inn
      unfold insR
      generalize inS od nd (7 + k) s0 inn = z at hp hB1 ⊢
      obtain ⟨⟨o1, t1, b1⟩, pl⟩ := z
      dsimp only at hp hB1 ⊢
      have e1 : (nI (7 + k)).toNatClampNeg = 7 + k := nI_clamp (by omega)
      have e2 : (nI nd).toNatClampNeg = nd := nI_clamp (by omega)
      have e3 : (nI k).toNatClampNeg = k := nI_clamp (by omega)
      have e4 : (nI pl).toNatClampNeg = pl := nI_clamp (by omega)
      have e5 : nI pl + nI 1 = nI (pl + 1) := nI_add pl 1
      have e6 : nI inn - nI pl = nI (inn - pl) := pk_sub hp
      refine pm_J.run [] 60 (fun K hK => br_t (nI_le (Nat.le_refl _) (by omega)) (And.intro (vp_in_nI (by omega) (by decide)) (And.intro (vp_in_nI (by omega) (by decide)) (And.intro (vp_in_nI (by omega) (by decide)) (And.intro (vp_in_nI (by omega) (by decide)) (And.intro (vp_in_nI (by omega) (by decide)) (hK _ ?_)))))))
      refine pm_J.copyi (h0 := 6) (h1 := 6) (n0 := 7) (n1 := 7) (sp := nI pl) (dp := nI pl + nI 1) (k := nI inn - nI pl) (f := nA od) (g := nA od) rfl gcopy_RX4_66 (Nat.le_of_ble_eq_true rfl) (by decide) rfl rfl (nI_pos (by omega)) (by rw [e5]; exact nI_pos (by omega)) (by rw [e6]; exact nI_pos (by omega)) (by rw [e6, nI_clamp (by omega), nI_clamp (by omega)]; omega) (by rw [e5, e6, nI_clamp (by omega), nI_clamp (by omega)]; omega) ?_
      refine pm_J.run [] 60 (fun K hK => And.intro (vp_in_nI (by omega) (by decide)) (hK _ ?_))
      refine pm_J.rv ⟨rfl, ?_⟩
      rw [← nA_upd, ← nA_upd, ← nA_upd, ← nA_upd, ← nA_cpy, ← nx_or, ← nI_add inn 1]
      show trW ch (upd (nA o1) (nI (7 + k)).toNatClampNeg (nI nd)) (upd (nA t1) (nI (7 + k)).toNatClampNeg (nI k)) (upd (nA b1) (nI (7 + k)).toNatClampNeg (nI (b1 (nI nd).toNatClampNeg) ||| nI (b1 (nI k).toNatClampNeg))) se (upd (va_cpy (nA od) (nA od) (nI pl).toNatClampNeg (nI pl + nI 1).toNatClampNeg (nI inn - nI pl).toNatClampNeg) (nI pl).toNatClampNeg (nI (7 + k))) _ = _
      rw [e1, e2, e3, e4, e5, e6, nI_clamp (by omega : pl + 1 < 2 ^ 31), nI_clamp (by omega : inn - pl < 2 ^ 31)]
      rfl
    · have ei : (nI i).toNatClampNeg = i := nI_clamp (by omega)
      have hoi := hod i h2
      have hBi' := hBi i
      have ii : vp_in (nI i) 7 := vp_in_nI (by omega) (by decide)
      refine pm_J.run [11] 60 (fun K hK => br_f (nI_ge h2 (by omega)) (And.intro ii (And.intro (fun q => And.intro ii (hK _ ?_)) (fun q => hK _ ?_))))
      · have q' : ¬ nI (od (nI i).toNatClampNeg) = nI nd := q
        rw [ei, nI_e128 (by omega) (by omega)] at q'
        rw [ei]
        refine pm_J.cl [0, 1, 2, 3, 4, 5, 6] (c_makeRoom hs ch (inS od nd (7 + k) s0 i).1.1 (inS od nd (7 + k) s0 i).1.2.1 (inS od nd (7 + k) s0 i).1.2.2 se (nA od) (nI inn) (od i) nd (7 + k) hBi'.1 hBi'.2.1 hBi'.2.2 hoi hn (by omega) (by omega)) gRX4_62 vX4_makeRoom ?_
        refine pm_J.run [11] 60 (fun K hK => hK _ ?_)
        have e : inS od nd (7 + k) s0 (i + 1) = ((mrO (inS od nd (7 + k) s0 i).1.1 (od i) nd (7 + k), mrT (inS od nd (7 + k) s0 i).1.1 (inS od nd (7 + k) s0 i).1.2.1 (od i) nd (7 + k), mrB (inS od nd (7 + k) s0 i).1.2.2 (od i) nd (7 + k)), (inS od nd (7 + k) s0 i).2) := by rw [inS, if_neg q']
        rw [e, ← nI_add i 1] at ih
        exact ih
      · have q' : ¬ ¬ nI (od (nI i).toNatClampNeg) = nI nd := q
        rw [ei, nI_e128 (by omega) (by omega)] at q'
        have e : inS od nd (7 + k) s0 (i + 1) = ((inS od nd (7 + k) s0 i).1, i + 1) := by rw [inS, if_pos (Classical.not_not.mp q')]
        rw [e] at ih
        dsimp only at ih
        rw [← nI_add i 1] at ih
        exact ih
  rw [← nI_add 7 k] at key
  exact key
end TR3
