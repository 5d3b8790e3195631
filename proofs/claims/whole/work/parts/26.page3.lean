section PG3
variable {l : Launch}
def flF (gr : Nat → Nat) (gc k : Nat) (sg : Nat → Nat) : pgS := putF (putF (sbF gr gc 7 (2 ^ k - 2) (putF (putF (putF (sg, 0) 40) 97) 44)) 41) 59
theorem c_fill (hs : l.stackTraces = false) (gr : Nat → Nat) (gc k : Nat) (sg : Nat → Nat) (sz : Int32) (hg : Bd gr) (hc : gc ≤ 7) (hk3 : 3 ≤ k) (hk : k ≤ 7) : pm_Met l mX1_fill 11 0 0 [.ref 0, .int (nI k)] (pgW (nA sg) (nA gr) sz (nI gc)) (isI (nI (flF gr gc k sg).2) (pgW' (flF gr gc k sg) (nA gr) (nI gc))) := by
  have h0 : (putF (putF (putF (sg, 0) 40) 97) 44).2 ≤ 24 := putF_le (putF_le (putF_le (Nat.zero_le _)))
  have hp : 2 ^ k ≤ 2 ^ 7 := Nat.pow_le_pow_right (by decide) hk
  have hp2 : 2 ^ 3 ≤ 2 ^ k := Nat.pow_le_pow_right (by decide) hk3
  have hS : 2 ^ k - 2 < 128 := by omega
  have hsb := sbF_ok gr gc 7 (2 ^ k - 2) _ hS h0
  refine pm_Met.mk kX1_fill hs (pm_J.run [] 20 (fun K hK => hK _ ?_))
  refine pm_J.cv [0, 1, 2] (pgW' (putF (sg, 0) 40) (nA gr) (nI gc)) (c_pput hs (sg, 0) (nA gr) (nI gc) 40 (Nat.zero_le _) (by decide)) gRX1_26 vX1_put ?_
  refine pm_J.run [] 20 (fun K hK => hK _ ?_)
  refine pm_J.cv [0, 1, 2] (pgW' (putF (putF (sg, 0) 40) 97) (nA gr) (nI gc)) (c_pput hs (putF (sg, 0) 40) (nA gr) (nI gc) 97 (putF_le (Nat.zero_le _)) (by decide)) gRX1_26 vX1_put ?_
  refine pm_J.run [] 20 (fun K hK => hK _ ?_)
  refine pm_J.cv [0, 1, 2] (pgW' (putF (putF (putF (sg, 0) 40) 97) 44) (nA gr) (nI gc)) (c_pput hs (putF (putF (sg, 0) 40) 97) (nA gr) (nI gc) 44 (putF_le (putF_le (Nat.zero_le _))) (by decide)) gRX1_26 vX1_put ?_
  refine pm_J.run [] 20 (fun K hK => hK _ ?_)
  have e : nI 1 <<< (nI k &&& 31) - nI 2 = nI (2 ^ k - 2) := by rw [nI_shl1 (by omega), pk_sub (by omega)]
  have e' : pm_k 1 <<< (nI k &&& 31) - pm_k 2 = nI (2 ^ k - 2) := e
  rw [e']
  refine pm_J.cv [0, 1, 2] (pgW' (sbF gr gc 7 (2 ^ k - 2) (putF (putF (putF (sg, 0) 40) 97) 44)) (nA gr) (nI gc)) (c_side hs gr gc hg hc 7 0 (2 ^ k - 2) _ rfl hS h0) gRX1_30 vX1_putSideBySide ?_
  refine pm_J.run [] 20 (fun K hK => hK _ ?_)
  refine pm_J.cv [0, 1, 2] (pgW' (putF (sbF gr gc 7 (2 ^ k - 2) (putF (putF (putF (sg, 0) 40) 97) 44)) 41) (nA gr) (nI gc)) (c_pput hs _ (nA gr) (nI gc) 41 hsb (by decide)) gRX1_26 vX1_put ?_
  refine pm_J.run [] 20 (fun K hK => hK _ ?_)
  refine pm_J.cv [0, 1, 2] (pgW' (flF gr gc k sg) (nA gr) (nI gc)) (c_pput hs _ (nA gr) (nI gc) 59 (putF_le hsb) (by decide)) gRX1_26 vX1_put ?_
  refine pm_J.run [] 20 (fun K hK => hK _ ?_)
  exact pm_J.ri ⟨rfl, rfl⟩
def sgF (s : pgS) (x : Int32) : Nat := if 0 ≤ x ∧ x < nI s.2 then s.1 x.toNatClampNeg else 0
theorem c_signAt (hs : l.stackTraces = false) (s : pgS) (gr : Nat → Int32) (gc : Int32) (x : Int32) (h : s.2 ≤ 24) (hb : ∀ j, s.1 j < 65536) : pm_Met l mX1_signAt 1 0 0 [.ref 0, .int x] (pgW' s gr gc) (isI (nI (sgF s x)) (pgW' s gr gc)) := by
  refine pm_Met.mk kX1_signAt hs (pm_J.run [] 20 (fun K hK => And.intro (fun q => hK _ ?_) (fun q => And.intro (fun q2 => hK _ ?_) (fun q2 => ?_))))
  · exact pm_J.ri ⟨by rw [sgF, if_neg (fun z => absurd q (Int32.not_lt.mpr z.1))]; rfl, rfl⟩ (hn := rfl)
  · exact pm_J.ri ⟨by rw [sgF, if_neg (fun z => absurd z.2 (Int32.not_lt.mpr q2))]; rfl, rfl⟩ (hn := rfl)
  · have a1 := Int32.not_lt.mp q
    have a2 : x < nI s.2 := Int32.not_le.mp q2
    obtain ⟨j, hj, rfl⟩ : ∃ j : Nat, j < s.2 ∧ x = nI j := by
      obtain ⟨j, hj, rfl⟩ := nI_of q
      exact ⟨j, (nI_ltI (by omega) (by omega)).mp a2, rfl⟩
    refine And.intro (vp_in_nI (by omega) (by decide)) (hK _ ?_)
    rw [sgF, if_pos ⟨a1, a2⟩]
    exact pm_J.ri ⟨rfl, rfl⟩ (hn := (pk_charN (hb _)).1)
end PG3
