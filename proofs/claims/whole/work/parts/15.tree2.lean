section TR2
variable {l : Launch}
def nodeF (ch : Nat → Nat) (k : Nat) : Nat := if ch k < k - 1 then ch k + 1 else 10 + ch k - k
theorem c_chosenNode (hs : l.stackTraces = false) (ch : Nat → Nat) (on ot be : Nat → Int32) (se : Nat → Int64) (od : Nat → Int32) (inn : Int32) (k : Nat) (hk2 : 2 ≤ k) (hk : k < 7) (hc : Bd ch) : pm_Met l mX4_chosenNode 1 0 0 [.ref 0, .int (nI k)] (trW (nA ch) on ot be se od inn) (isI (nI (nodeF ch k)) (trW (nA ch) on ot be se od inn)) := by
  have hck := hc k
  have ek : (nI k).toNatClampNeg = k := nI_clamp (by omega)
  refine pm_Met.mk kX4_chosenNode hs (pm_J.run [] 40 (fun K hK => And.intro (vp_in_nI (by omega) (by decide)) (And.intro (fun h => hK _ ?_) (fun h => hK _ ?_))))
  · have h1 : nI k - nI 1 ≤ nI (ch (nI k).toNatClampNeg) := h
    rw [pk_sub (by omega), ek, nI_leI (by omega) (by omega)] at h1
    refine pm_J.ri ⟨?_, rfl⟩
    rw [nodeF, if_neg (by omega)]
    show _ = Sum.inl (some (Value.int _))
    congr 3
    show nI 7 + nI (ch (nI k).toNatClampNeg) - nI k + nI 3 = _
    rw [ek, nI_add, pk_sub (by omega), nI_add]
    congr 1
    omega
  · have h1 : ¬ nI k - nI 1 ≤ nI (ch (nI k).toNatClampNeg) := h
    rw [pk_sub (by omega), ek, nI_leI (by omega) (by omega)] at h1
    refine pm_J.ri ⟨?_, rfl⟩
    rw [nodeF, if_pos (by omega)]
    show _ = Sum.inl (some (Value.int _))
    congr 3
    show nI (ch (nI k).toNatClampNeg) + nI 1 = _
    rw [ek, nI_add]
def mrO (on : Nat → Nat) (h nd fr : Nat) : Nat → Nat := if on h = nd then upN on h fr else on
def mrT (on ot : Nat → Nat) (h nd fr : Nat) : Nat → Nat := if on h = nd then ot else if ot h = nd then upN ot h fr else ot
def mrB (be : Nat → Nat) (h nd fr : Nat) : Nat → Nat := if be h &&& be nd = be nd then upN be h (be h ||| be (fr - 7)) else be
theorem or128 {a b : Nat} (ha : a < 128) (hb : b < 128) : a ||| b < 128 := Nat.or_lt_two_pow (n := 7) ha hb
theorem mrO_Bd {on : Nat → Nat} {h nd fr : Nat} (ho : Bd on) (hf : fr < 128) : Bd (mrO on h nd fr) := by
  unfold mrO; split
  · exact ho.up hf
  · exact ho
theorem mrT_Bd {on ot : Nat → Nat} {h nd fr : Nat} (ho : Bd ot) (hf : fr < 128) : Bd (mrT on ot h nd fr) := by
  unfold mrT; split
  · exact ho
  · split
    · exact ho.up hf
    · exact ho
theorem mrB_Bd {be : Nat → Nat} {h nd fr : Nat} (ho : Bd be) : Bd (mrB be h nd fr) := by
  unfold mrB; split
  · exact ho.up (or128 (ho _) (ho _))
  · exact ho
theorem c_makeRoom (hs : l.stackTraces = false) (ch : Nat → Int32) (on ot be : Nat → Nat) (se : Nat → Int64) (od : Nat → Int32) (inn : Int32) (h nd fr : Nat) (ho : Bd on) (ht : Bd ot) (hb : Bd be) (hh : h < 14) (hn : nd < 14) (hf7 : 7 ≤ fr) (hf : fr < 14) :
    pm_Met l mX4_makeRoom 1 0 0 [.ref 0, .int (nI h), .int (nI nd), .int (nI fr)] (trW ch (nA on) (nA ot) (nA be) se od inn) (isO none (trW ch (nA (mrO on h nd fr)) (nA (mrT on ot h nd fr)) (nA (mrB be h nd fr)) se od inn)) := by
  have eh : (nI h).toNatClampNeg = h := nI_clamp (by omega)
  have en : (nI nd).toNatClampNeg = nd := nI_clamp (by omega)
  have ef : (nI fr - nI 7).toNatClampNeg = fr - 7 := by rw [pk_sub hf7]; exact nI_clamp (by omega)
  have i1 : vp_in (nI h) 14 := vp_in_nI hh (by decide)
  have i2 : vp_in (nI nd) 14 := vp_in_nI hn (by decide)
  have i3 : vp_in (nI fr - nI 7) 14 := by rw [pk_sub hf7]; exact vp_in_nI (by omega) (by decide)
  have half : ∀ o2 t2 : Nat → Nat, mrO on h nd fr = o2 → mrT on ot h nd fr = t2 → pm_J l mX4_makeRoom iX4_makeRoom 1 0 0 7 (isO none (trW ch (nA (mrO on h nd fr)) (nA (mrT on ot h nd fr)) (nA (mrB be h nd fr)) se od inn)) 0 0 (37, [some (.ref 0), some (.int (nI h)), some (.int (nI nd)), some (.int (nI fr))], [], trW ch (nA o2) (nA t2) (nA be) se od inn) := by
    intro o2 t2 e1 e2
    rw [e1, e2]
    refine pm_J.run [] 40 (fun K hK => And.intro i1 (And.intro i2 (And.intro i2 (And.intro (fun q => hK _ ?_) (fun q => And.intro i1 (And.intro i3 (And.intro i1 (hK _ ?_))))))))
    · have q' : ¬ (nI (be (nI h).toNatClampNeg) &&& nI (be (nI nd).toNatClampNeg)) = nI (be (nI nd).toNatClampNeg) := q
      rw [eh, en, nx_and, nI_e128 (Nat.lt_of_le_of_lt Nat.and_le_left (hb h)) (hb nd)] at q'
      refine pm_J.rv ⟨rfl, ?_⟩
      rw [mrB, if_neg q']
    · have q' : ¬ ¬ (nI (be (nI h).toNatClampNeg) &&& nI (be (nI nd).toNatClampNeg)) = nI (be (nI nd).toNatClampNeg) := q
      rw [eh, en, nx_and, nI_e128 (Nat.lt_of_le_of_lt Nat.and_le_left (hb h)) (hb nd)] at q'
      refine pm_J.rv ⟨rfl, ?_⟩
      rw [mrB, if_pos (Classical.not_not.mp q'), ← nA_upd, ← nx_or]
      show trW ch (nA o2) (nA t2) (upd (nA be) (nI h).toNatClampNeg (nI (be (nI h).toNatClampNeg) ||| nI (be (nI fr - nI 7).toNatClampNeg))) se od inn = _
      rw [eh, ef]
  refine pm_Met.mk kX4_makeRoom hs (pm_J.run [37] 40 (fun K hK => And.intro i1 (And.intro (fun q => And.intro i1 (And.intro (fun q2 => hK _ ?_) (fun q2 => And.intro i1 (hK _ ?_)))) (fun q => And.intro i1 (hK _ ?_)))))
  · have q' : ¬ nI (on (nI h).toNatClampNeg) = nI nd := q
    have q2' : ¬ nI (ot (nI h).toNatClampNeg) = nI nd := q2
    rw [eh, nI_e128 (ho h) (by omega)] at q'
    rw [eh, nI_e128 (ht h) (by omega)] at q2'
    exact half on ot (by rw [mrO, if_neg q']) (by rw [mrT, if_neg q', if_neg q2'])
  · have q' : ¬ nI (on (nI h).toNatClampNeg) = nI nd := q
    have q2' : ¬ ¬ nI (ot (nI h).toNatClampNeg) = nI nd := q2
    rw [eh, nI_e128 (ho h) (by omega)] at q'
    rw [eh, nI_e128 (ht h) (by omega)] at q2'
    have := half on (upN ot h fr) (by rw [mrO, if_neg q']) (by rw [mrT, if_neg q', if_pos (Classical.not_not.mp q2')])
    rw [← nA_upd ot h fr] at this
    rw [eh]
    exact this
  · have q' : ¬ ¬ nI (on (nI h).toNatClampNeg) = nI nd := q
    rw [eh, nI_e128 (ho h) (by omega)] at q'
    have := half (upN on h fr) ot (by rw [mrO, if_pos (Classical.not_not.mp q')]) (by rw [mrT, if_pos (Classical.not_not.mp q')])
    rw [← nA_upd on h fr] at this
    rw [eh]
    exact this
end TR2
