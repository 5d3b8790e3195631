section PG2
variable {l : Launch}
theorem andn_at : ∀ a, a < 128 → ∀ b, b < 128 → nI a &&& (nI b ^^^ pm_k (-1)) = nI (a &&& (127 ^^^ b)) := by decide +kernel
theorem and_lt {a b : Nat} (h : a < 128) : a &&& b < 128 := Nat.lt_of_le_of_lt Nat.and_le_left h
/-- one kind's turn: what is left, what is written -/
def sbT (rec : Nat → pgS → pgS) (gr : Nat → Nat) (gc S : Nat) (z : Nat × pgS) (kd : Nat) : Nat × pgS :=
  if z.1 / 2 ^ kd % 2 = 0 then z else
    (z.1 &&& (127 ^^^ (wgF gr S kd gc ||| 2 ^ kd)),
      if wgF gr S kd gc = 0 then putF (if z.1 = S then z.2 else putF z.2 44) (97 + kd) else putF (rec (wgF gr S kd gc) (putF (if z.1 = S then z.2 else putF z.2 44) 40)) 41)
def sbL (rec : Nat → pgS → pgS) (gr : Nat → Nat) (gc S : Nat) (st : pgS) : Nat → Nat × pgS
  | 0 => (S, st)
  | kd + 1 => sbT rec gr gc S (sbL rec gr gc S st kd) kd
def sbF (gr : Nat → Nat) (gc : Nat) : Nat → Nat → pgS → pgS
  | 0, _, st => st
  | f + 1, S, st => (sbL (sbF gr gc f) gr gc S st 7).2
theorem sbT_ok {rec : Nat → pgS → pgS} {gr : Nat → Nat} {gc S kd : Nat} {z : Nat × pgS} (hr : ∀ g st, st.2 ≤ 24 → (rec g st).2 ≤ 24) (h : z.1 < 128 ∧ z.2.2 ≤ 24) : (sbT rec gr gc S z kd).1 < 128 ∧ (sbT rec gr gc S z kd).2.2 ≤ 24 := by
  unfold sbT
  split
  · exact h
  · refine ⟨and_lt h.1, ?_⟩
    have h1 : (if z.1 = S then z.2 else putF z.2 44).2 ≤ 24 := by
      split
      · exact h.2
      · exact putF_le h.2
    dsimp only
    split
    · exact putF_le h1
    · exact putF_le (hr _ _ (putF_le h1))
theorem sbL_ok {rec : Nat → pgS → pgS} {gr : Nat → Nat} {gc S : Nat} {st : pgS} (hr : ∀ g st, st.2 ≤ 24 → (rec g st).2 ≤ 24) (hS : S < 128) (h : st.2 ≤ 24) : ∀ kd, (sbL rec gr gc S st kd).1 < 128 ∧ (sbL rec gr gc S st kd).2.2 ≤ 24
  | 0 => ⟨hS, h⟩
  | kd + 1 => sbT_ok hr (sbL_ok hr hS h kd)
theorem sbF_ok (gr : Nat → Nat) (gc : Nat) : ∀ f S st, S < 128 → st.2 ≤ 24 → (sbF gr gc f S st).2 ≤ 24
  | 0, _, st, _, h => h
  | f + 1, S, st, hS, h => by
    -- the sets that recur are groups: below 128 or not, what is written stays within the page
    have hr : ∀ g st, st.2 ≤ 24 → (sbF gr gc f g st).2 ≤ 24 := by
      clear h hS
      induction f with
      | zero => intro g st h; exact h
      | succ f ih =>
        intro g st h
        have : ∀ kd, (sbL (sbF gr gc f) gr gc g st kd).2.2 ≤ 24 := by
          intro kd
          induction kd with
          | zero => exact h
          | succ kd ih2 =>
            unfold sbL sbT
            split
            · exact ih2
            · have h1 : (if (sbL (sbF gr gc f) gr gc g st kd).1 = g then (sbL (sbF gr gc f) gr gc g st kd).2 else putF (sbL (sbF gr gc f) gr gc g st kd).2 44).2 ≤ 24 := by
                split
                · exact ih2
                · exact putF_le ih2
              dsimp only
              split
              · exact putF_le h1
              · exact putF_le (ih _ _ (putF_le h1))
        exact this 7
    exact (sbL_ok hr hS h 7).2
theorem i2c_at {v : Nat} (h : v < 65536) : ((nI v).toUInt32 % 65536).toInt32 = nI v := by
  rw [pk_char, pk_tn (by omega), Nat.mod_eq_of_lt h]
set_option maxHeartbeats 2000000 in
theorem c_side (hs : l.stackTraces = false) (gr : Nat → Nat) (gc : Nat) (hg : Bd gr) (hc : gc ≤ 7) : ∀ (f dp S : Nat) (st : pgS), dp + f = 7 → S < 128 → st.2 ≤ 24 → pm_Met l mX1_putSideBySide (f + 3) 0 0 [.ref 0, .int (nI S), .int (nI dp)] (pgW' st (nA gr) (nI gc)) (isO none (pgW' (sbF gr gc f S st) (nA gr) (nI gc))) := by
  intro f
  induction f with
  | zero =>
    intro dp S st hdp hS hst
    refine pm_Met.mk kX1_putSideBySide hs (pm_J.run [] 20 (fun K hK => br_f (nI_nlt (a := dp) (b := 7) (by omega) (by omega)) (hK _ ?_)))
    exact pm_J.rv ⟨rfl, rfl⟩
  | succ f ihf =>
    intro dp S st hdp hS hst
    have hr : ∀ g st, st.2 ≤ 24 → (sbF gr gc f g st).2 ≤ 24 := by
      intro g st h
      by_cases hgl : g < 128
      · exact sbF_ok gr gc f g st hgl h
      · -- a set beyond the kinds does not come up; the bound holds all the same
        have := sbF_ok gr gc (f + 1) 0 st (by decide) h
        clear this
        have gen : ∀ f g (st : pgS), st.2 ≤ 24 → (sbF gr gc f g st).2 ≤ 24 := by
          intro f
          induction f with
          | zero => intro g st h; exact h
          | succ f ih =>
            intro g st h
            have : ∀ kd, (sbL (sbF gr gc f) gr gc g st kd).2.2 ≤ 24 := by
              intro kd
              induction kd with
              | zero => exact h
              | succ kd ih2 =>
                unfold sbL sbT
                split
                · exact ih2
                · have h1 : (if (sbL (sbF gr gc f) gr gc g st kd).1 = g then (sbL (sbF gr gc f) gr gc g st kd).2 else putF (sbL (sbF gr gc f) gr gc g st kd).2 44).2 ≤ 24 := by
                    split
                    · exact ih2
                    · exact putF_le ih2
                  dsimp only
                  split
                  · exact putF_le h1
                  · exact putF_le (ih _ _ (putF_le h1))
            exact this 7
        exact gen f g st h
    refine pm_Met.mk kX1_putSideBySide hs (pm_J.run [12] 20 (fun K hK => br_t (nI_lt (a := dp) (b := 7) (by omega) (by decide)) (hK _ ?_)))
    have key : ∀ x5, pm_J l mX1_putSideBySide iX1_putSideBySide (f + 1 + 3) 0 0 3 (isO none (pgW' (sbF gr gc (f + 1) S st) (nA gr) (nI gc))) 0 0 (12, [some (.ref 0), some (.int (nI S)), some (.int (nI dp)), some (.int (nI (sbL (sbF gr gc f) gr gc S st 0).1)), some (.int (nI 0)), x5], [], pgW' (sbL (sbF gr gc f) gr gc S st 0).2 (nA gr) (nI gc)) := by
      refine pm_up (b := 7) (P := fun kd => ∀ x5, pm_J l mX1_putSideBySide iX1_putSideBySide (f + 1 + 3) 0 0 3 (isO none (pgW' (sbF gr gc (f + 1) S st) (nA gr) (nI gc))) 0 0 (12, [some (.ref 0), some (.int (nI S)), some (.int (nI dp)), some (.int (nI (sbL (sbF gr gc f) gr gc S st kd).1)), some (.int (nI kd)), x5], [], pgW' (sbL (sbF gr gc f) gr gc S st kd).2 (nA gr) (nI gc))) 0 (by decide) (fun x5 => ?_) (fun kd h1 h2 ih x5 => ?_)
      · refine pm_J.run [12] 20 (fun K hK => br_t (nI_le (a := 7) (b := 7) (by decide) (by decide)) (hK _ ?_))
        exact pm_J.rv ⟨rfl, rfl⟩
      · obtain ⟨z1, z2⟩ := sbL_ok (gr := gr) (gc := gc) (S := S) (st := st) hr hS hst kd
        have hwg := wgF_lt (S := S) (kd := kd) hg gc
        have ef : sbL (sbF gr gc f) gr gc S st (kd + 1) = sbT (sbF gr gc f) gr gc S (sbL (sbF gr gc f) gr gc S st kd) kd := rfl
        rw [ef, ← nI_add kd 1] at ih
        generalize sbL (sbF gr gc f) gr gc S st kd = z at z1 z2 ih ⊢
        obtain ⟨lf, s0⟩ := z
        dsimp only at z1 z2 ⊢
        have hbit : lf / 2 ^ kd % 2 < 2 := Nat.mod_lt _ (by decide)
        have hpw : 2 ^ kd < 128 := Nat.pow_lt_pow_right (a := 2) (by decide) (show kd < 7 from h2)
        refine pm_J.run [31, 12] 20 (fun K hK => br_f (nI_ge (a := kd) (b := 7) h2 (by decide)) (And.intro (fun q => hK _ ?_) (fun q => hK _ ?_)))
        · have q' : ¬ (nI lf >>> (nI kd &&& 31)) &&& nI 1 = 0 := q
          rw [bit_at2 z1 h2, nI_z (by omega)] at q'
          unfold sbT at ih
          rw [if_neg q'] at ih
          dsimp only at ih
          -- behind the comma
          have rest : ∀ s1 : pgS, (if lf = S then s0 else putF s0 44) = s1 → pm_J l mX1_putSideBySide iX1_putSideBySide (f + 1 + 3) 0 0 3 (isO none (pgW' (sbF gr gc (f + 1) S st) (nA gr) (nI gc))) 0 0 (42, [some (.ref 0), some (.int (nI S)), some (.int (nI dp)), some (.int (nI lf)), some (.int (nI kd)), x5], [], pgW' s1 (nA gr) (nI gc)) := by
            intro s1 e1
            have hs1 : s1.2 ≤ 24 := by
              rw [← e1]; split
              · exact z2
              · exact putF_le z2
            rw [e1] at ih
            refine pm_J.run [] 20 (fun K hK => hK _ ?_)
            refine pm_J.cI [0, 1, 2] (c_widest hs (nA s1.1) gr (nI s1.2) gc S kd hg hc hS h2) gRX1_34 vX1_widestGroup ?_ (hdd := Nat.ble_eq.mpr (by omega))
            have last : ∀ s2 : pgS, (if wgF gr S kd gc = 0 then putF s1 (97 + kd) else putF (sbF gr gc f (wgF gr S kd gc) (putF s1 40)) 41) = s2 → pm_J l mX1_putSideBySide iX1_putSideBySide (f + 1 + 3) 0 0 3 (isO none (pgW' (sbF gr gc (f + 1) S st) (nA gr) (nI gc))) 0 0 (90, [some (.ref 0), some (.int (nI S)), some (.int (nI dp)), some (.int (nI lf)), some (.int (nI kd)), some (.int (nI (wgF gr S kd gc)))], [], pgW' s2 (nA gr) (nI gc)) := by
              intro s2 e2
              refine pm_J.run [12] 20 (fun K hK => hK _ ?_)
              have := ih (some (.int (nI (wgF gr S kd gc))))
              rw [e2, ← andn_at lf z1 (wgF gr S kd gc ||| 2 ^ kd) (or128 hwg hpw), ← nx_or, ← nI_shl1 (by omega)] at this
              exact this
            refine pm_J.run [] 20 (fun K hK => And.intro (fun g => hK _ ?_) (fun g => hK _ ?_))
            · have g' : ¬ nI (wgF gr S kd gc) = 0 := g
              rw [nI_z (by omega)] at g'
              rw [if_neg g'] at last
              refine pm_J.cv [0, 1, 2] (pgW' (putF s1 40) (nA gr) (nI gc)) (c_pput hs s1 (nA gr) (nI gc) 40 hs1 (by decide)) gRX1_26 vX1_put ?_ (hdd := Nat.ble_eq.mpr (by omega))
              refine pm_J.run [] 20 (fun K hK => hK _ ?_)
              have hM := ihf (dp + 1) (wgF gr S kd gc) (putF s1 40) (by omega) hwg (putF_le hs1)
              rw [← nI_add dp 1] at hM
              refine pm_J.cv [0, 1, 2] (pgW' (sbF gr gc f (wgF gr S kd gc) (putF s1 40)) (nA gr) (nI gc)) hM gRX1_30 vX1_putSideBySide ?_ (hdd := Nat.ble_eq.mpr (by omega))
              refine pm_J.run [] 20 (fun K hK => hK _ ?_)
              refine pm_J.cv [0, 1, 2] (pgW' (putF (sbF gr gc f (wgF gr S kd gc) (putF s1 40)) 41) (nA gr) (nI gc)) (c_pput hs (sbF gr gc f (wgF gr S kd gc) (putF s1 40)) (nA gr) (nI gc) 41 (hr _ _ (putF_le hs1)) (by decide)) gRX1_26 vX1_put ?_ (hdd := Nat.ble_eq.mpr (by omega))
              exact last _ rfl
            · have g' : ¬ ¬ nI (wgF gr S kd gc) = 0 := g
              rw [nI_z (by omega)] at g'
              rw [if_pos (Classical.not_not.mp g')] at last
              have ei : ((nI 97 + nI kd).toUInt32 % 65536).toInt32 = nI (97 + kd) := by rw [nI_add]; exact i2c_at (by omega)
              have ei2 : ((pm_k 97 + nI kd).toUInt32 % 65536).toInt32 = nI (97 + kd) := ei
              rw [ei2]
              refine pm_J.cv [0, 1, 2] (pgW' (putF s1 (97 + kd)) (nA gr) (nI gc)) (c_pput hs s1 (nA gr) (nI gc) (97 + kd) hs1 (by omega)) gRX1_26 vX1_put ?_ (hdd := Nat.ble_eq.mpr (by omega))
              refine pm_J.run [90] 20 (fun K hK => hK _ ?_)
              exact last _ rfl
          refine pm_J.run [42] 20 (fun K hK => And.intro (fun g => hK _ ?_) (fun g => hK _ ?_))
          · have g' : nI lf = nI S := g
            rw [nI_e128 z1 hS] at g'
            exact rest s0 (if_pos g')
          · have g' : ¬ nI lf = nI S := g
            rw [nI_e128 z1 hS] at g'
            refine pm_J.cv [0, 1, 2] (pgW' (putF s0 44) (nA gr) (nI gc)) (c_pput hs s0 (nA gr) (nI gc) 44 z2 (by decide)) gRX1_26 vX1_put ?_ (hdd := Nat.ble_eq.mpr (by omega))
            exact rest (putF s0 44) (if_neg g')
        · have q' : ¬ ¬ (nI lf >>> (nI kd &&& 31)) &&& nI 1 = 0 := q
          rw [bit_at2 z1 h2, nI_z (by omega)] at q'
          unfold sbT at ih
          rw [if_pos (Classical.not_not.mp q')] at ih
          have := ih x5
          exact this
    exact key none
end PG2
