section PAG
variable {l : Launch}
/-! Finds.shareOf -/
def fdv (a b : Nat) : UInt32 := FP.fdiv (FP.i2f (nI a)) (FP.i2f (nI b))
def shF (ta : Nat → Nat) (cnt : Nat) (x : Int32) : UInt32 := if (0 ≤ x ∧ x < nI 128) ∧ cnt ≠ 0 then fdv (ta x.toNatClampNeg) cnt else FP.fconst0
theorem c_shareOf (hs : l.stackTraces = false) (nu : Nat → Int32) (ta : Nat → Nat) (cnt : Nat) (x : Int32) (hc : cnt < 2 ^ 31) (hn : ∀ j, j < 128 → cnt ≠ 0 → vf_n32 (fdv (ta j) cnt)) : pm_Met l mX0_shareOf 1 0 0 [.ref 0, .int x] (fnW nu (nA ta) (nI cnt)) (isO (some (.float (shF ta cnt x))) (fnW nu (nA ta) (nI cnt))) := by
  refine pm_Met.mk kX0_shareOf hs (pm_J.run [] 20 (fun K hK => And.intro (fun h => hK _ ?_) (fun h => And.intro (fun h2 => hK _ ?_) (fun h2 => And.intro (fun h3 => ?_) (fun h3 => hK _ ?_)))))
  · exact pm_J.rf ⟨by rw [shF, if_neg (fun z => absurd h (Int32.not_lt.mpr z.1.1))], rfl⟩
  · exact pm_J.rf ⟨by rw [shF, if_neg (fun z => absurd z.1.2 (Int32.not_lt.mpr h2))], rfl⟩
  · have h3' : ¬ nI cnt = 0 := h3
    rw [nI_z hc] at h3'
    have a1 := Int32.not_lt.mp h
    have a2 : x < nI 128 := Int32.not_le.mp h2
    obtain ⟨j, hj, rfl⟩ : ∃ j : Nat, j < 128 ∧ x = nI j := by
      obtain ⟨j, hj, rfl⟩ := nI_of h
      exact ⟨j, (nI_ltI (by omega) (by decide)).mp a2, rfl⟩
    have ej : (nI j).toNatClampNeg = j := nI_clamp (by omega)
    refine And.intro (vp_in_nI hj (by decide)) (And.intro ?_ (hK _ ?_))
    · have := hn j hj h3'
      unfold fdv at this
      rw [ej]
      exact this
    · exact pm_J.rf ⟨by rw [shF, if_pos ⟨⟨a1, a2⟩, h3'⟩]; rfl, rfl⟩
  · have h3' : ¬ ¬ nI cnt = 0 := h3
    rw [nI_z hc] at h3'
    exact pm_J.rf ⟨by rw [shF, if_neg (fun z => h3' z.2)], rfl⟩
/-! Page -/
abbrev pgW (si gr : Nat → Int32) (sz gc : Int32) : List pm_E := [.inr (1, [.ref 1, .ref 2, .int sz, .int gc]), .inl (.char, 24, .inl si), .inl (.int, 7, .inl gr)]
theorem c_forgetGroups (hs : l.stackTraces = false) (si gr : Nat → Int32) (sz gc : Int32) : pm_Met l mX1_forgetGroups 1 0 0 [.ref 0] (pgW si gr sz gc) (isO none (pgW si gr sz (nI 0))) := by
  refine pm_Met.mk kX1_forgetGroups hs (pm_J.run [] 20 (fun K hK => hK _ ?_))
  exact pm_J.rv ⟨rfl, rfl⟩
theorem c_addGroup (hs : l.stackTraces = false) (si : Nat → Int32) (gr : Nat → Nat) (sz : Int32) (gc v : Nat) (hg : gc ≤ 7) : pm_Met l mX1_addGroup 1 0 0 [.ref 0, .int (nI v)] (pgW si (nA gr) sz (nI gc)) (isO none (if gc < 7 then pgW si (nA (upN gr gc v)) sz (nI (gc + 1)) else pgW si (nA gr) sz (nI gc))) := by
  refine pm_Met.mk kX1_addGroup hs (pm_J.run [] 20 (fun K hK => And.intro (fun h => hK _ ?_) (fun h => ?_)))
  · have h' : nI 7 ≤ nI gc := h
    rw [nI_leI (by decide) (by omega)] at h'
    exact pm_J.rv ⟨rfl, by rw [if_neg (by omega)]⟩
  · have h' : ¬ nI 7 ≤ nI gc := h
    rw [nI_leI (by decide) (by omega)] at h'
    refine And.intro (vp_in_nI (by omega) (by decide)) (hK _ ?_)
    refine pm_J.rv ⟨rfl, ?_⟩
    rw [if_pos (by omega), ← nA_upd, ← nI_add gc 1, nI_clamp (by omega)]
    rfl
theorem nar_char {v : Nat} (h : v < 65536) : vp_nar .char (nI v) = nI v := by
  unfold vp_nar
  rw [(pk_charN h).1]
abbrev pgS : Type := (Nat → Nat) × Nat
def putF (s : pgS) (v : Nat) : pgS := if s.2 < 24 then (upN s.1 s.2 v, s.2 + 1) else s
theorem putF_le {s : pgS} {v : Nat} (h : s.2 ≤ 24) : (putF s v).2 ≤ 24 := by
  unfold putF
  split
  · show s.2 + 1 ≤ 24; omega
  · exact h
abbrev pgW' (s : pgS) (gr : Nat → Int32) (gc : Int32) : List pm_E := pgW (nA s.1) gr (nI s.2) gc
theorem c_pput (hs : l.stackTraces = false) (s : pgS) (gr : Nat → Int32) (gc : Int32) (v : Nat) (h : s.2 ≤ 24) (hv : v < 65536) : pm_Met l mX1_put 1 0 0 [.ref 0, .int (nI v)] (pgW' s gr gc) (isO none (pgW' (putF s v) gr gc)) := by
  refine pm_Met.mk kX1_put hs (pm_J.run [] 20 (fun K hK => And.intro (fun q => hK _ ?_) (fun q => ?_)))
  · have q' : nI 24 ≤ nI s.2 := q
    rw [nI_leI (by decide) (by omega)] at q'
    exact pm_J.rv ⟨rfl, by rw [putF, if_neg (by omega)]⟩
  · have q' : ¬ nI 24 ≤ nI s.2 := q
    rw [nI_leI (by decide) (by omega)] at q'
    refine And.intro (vp_in_nI (by omega) (by decide)) (hK _ ?_)
    refine pm_J.rv ⟨rfl, ?_⟩
    rw [putF, if_pos (by omega)]
    show _ = pgW (nA (upN s.1 s.2 v)) gr (nI (s.2 + 1)) gc
    rw [← nA_upd, ← nI_add s.2 1, nar_char hv, nI_clamp (by omega)]
    rfl
def wgF (gr : Nat → Nat) (S kd : Nat) : Nat → Nat
  | 0 => 0
  | i + 1 => if ((gr i &&& S) = gr i ∧ ¬ gr i = S) ∧ ¬ gr i / 2 ^ kd % 2 = 0 then max (wgF gr S kd i) (gr i) else wgF gr S kd i
theorem wgF_lt {gr : Nat → Nat} {S kd : Nat} (h : Bd gr) : ∀ i, wgF gr S kd i < 128
  | 0 => (by decide : 0 < 128)
  | i + 1 => by
    have := wgF_lt (S := S) (kd := kd) h i
    have := h i
    unfold wgF
    split <;> omega
theorem gmax_RX1_38 : ∀ z ∈ [Cond.methodLink RX1 38 Lib.Math.max.name, Cond.static Lib.Math.max.name, Cond.initialized "java/lang/Math", Cond.code Lib.Math.max.name Lib.Math.max.code 2 (some .int)], z ∈ pm_tb := by decide +kernel
theorem bit_at2 {x st : Nat} (hx : x < 128) (hst : st < 7) : (nI x >>> (nI st &&& 31)) &&& nI 1 = nI (x / 2 ^ st % 2) := by
  rw [pk_shrN (by omega) _ st (s_l st (by omega)), pk_andN (Nat.lt_of_le_of_lt (Nat.div_le_self _ _) (by omega)) 1 (by decide +kernel)]
set_option maxHeartbeats 1000000 in
theorem c_widest (hs : l.stackTraces = false) (si : Nat → Int32) (gr : Nat → Nat) (sz : Int32) (gc S kd : Nat) (hg : Bd gr) (hc : gc ≤ 7) (hS : S < 128) (hkd : kd < 7) : pm_Met l mX1_widestGroup 1 0 0 [.ref 0, .int (nI kd), .int (nI S)] (pgW si (nA gr) sz (nI gc)) (isI (nI (wgF gr S kd gc)) (pgW si (nA gr) sz (nI gc))) := by
  refine pm_Met.mk kX1_widestGroup hs (pm_J.run [5] 20 (fun K hK => hK _ ?_))
  have key : ∀ x5 x6, pm_J l mX1_widestGroup iX1_widestGroup 1 0 0 3 (isI (nI (wgF gr S kd gc)) (pgW si (nA gr) sz (nI gc))) 0 0 (5, [some (.ref 0), some (.int (nI kd)), some (.int (nI S)), some (.int (nI (wgF gr S kd 0))), some (.int (nI 0)), x5, x6], [], pgW si (nA gr) sz (nI gc)) := by
    refine pm_up (b := gc) (P := fun i => ∀ x5 x6, pm_J l mX1_widestGroup iX1_widestGroup 1 0 0 3 (isI (nI (wgF gr S kd gc)) (pgW si (nA gr) sz (nI gc))) 0 0 (5, [some (.ref 0), some (.int (nI kd)), some (.int (nI S)), some (.int (nI (wgF gr S kd i))), some (.int (nI i)), x5, x6], [], pgW si (nA gr) sz (nI gc))) 0 (Nat.zero_le _) (fun x5 x6 => ?_) (fun i h1 h2 ih x5 x6 => ?_)
    · refine pm_J.run [5] 20 (fun K hK => br_t (nI_le (Nat.le_refl _) (by omega)) (hK _ ?_))
      exact pm_J.ri ⟨rfl, rfl⟩
    · have ei : (nI i).toNatClampNeg = i := nI_clamp (by omega)
      have hgi := hg i
      have hwl := wgF_lt (S := S) (kd := kd) hg i
      have hand : gr i &&& S < 128 := Nat.lt_of_le_of_lt Nat.and_le_left hgi
      have hbit : gr i / 2 ^ kd % 2 < 2 := Nat.mod_lt _ (by decide)
      have ef : wgF gr S kd (i + 1) = if ((gr i &&& S) = gr i ∧ ¬ gr i = S) ∧ ¬ gr i / 2 ^ kd % 2 = 0 then max (wgF gr S kd i) (gr i) else wgF gr S kd i := rfl
      rw [ef, ← nI_add i 1] at ih
      have skip : ∀ x6, ¬ (((gr i &&& S) = gr i ∧ ¬ gr i = S) ∧ ¬ gr i / 2 ^ kd % 2 = 0) → pm_J l mX1_widestGroup iX1_widestGroup 1 0 0 3 (isI (nI (wgF gr S kd gc)) (pgW si (nA gr) sz (nI gc))) 0 0 (66, [some (.ref 0), some (.int (nI kd)), some (.int (nI S)), some (.int (nI (wgF gr S kd i))), some (.int (nI i)), some (.int (nI (gr i))), x6], [], pgW si (nA gr) sz (nI gc)) := by
        intro x6 hq
        refine pm_J.run [5] 20 (fun K hK => hK _ ?_)
        have := ih (some (.int (nI (gr i)))) x6
        rw [if_neg hq] at this
        exact this
      have take : ((gr i &&& S) = gr i ∧ ¬ gr i = S) → pm_J l mX1_widestGroup iX1_widestGroup 1 0 0 3 (isI (nI (wgF gr S kd gc)) (pgW si (nA gr) sz (nI gc))) 0 0 (43, [some (.ref 0), some (.int (nI kd)), some (.int (nI S)), some (.int (nI (wgF gr S kd i))), some (.int (nI i)), some (.int (nI (gr i))), x6], [.int (nI 1)], pgW si (nA gr) sz (nI gc)) := by
        intro hq
        refine pm_J.run [66] 20 (fun K hK => br_f (by decide) (And.intro (fun q => hK _ ?_) (fun q => hK _ ?_)))
        · have q' : (nI (gr i) >>> (nI kd &&& 31)) &&& nI 1 = 0 := q
          rw [bit_at2 hgi hkd, nI_z (by omega)] at q'
          exact skip _ (fun z => z.2 q')
        · have q' : ¬ (nI (gr i) >>> (nI kd &&& 31)) &&& nI 1 = 0 := q
          rw [bit_at2 hgi hkd, nI_z (by omega)] at q'
          refine pm_J.mmax rfl gmax_RX1_38 (Nat.le_of_ble_eq_true rfl) (by decide) (by decide) (by decide) ?_
          rw [nI_max (by omega) (by omega)]
          refine pm_J.run [5] 20 (fun K hK => hK _ ?_)
          have := ih (some (.int (nI (gr i)))) (some (.int (nI 1)))
          rw [if_pos ⟨hq, q'⟩] at this
          exact this
      have none' : ¬ ((gr i &&& S) = gr i ∧ ¬ gr i = S) → pm_J l mX1_widestGroup iX1_widestGroup 1 0 0 3 (isI (nI (wgF gr S kd gc)) (pgW si (nA gr) sz (nI gc))) 0 0 (43, [some (.ref 0), some (.int (nI kd)), some (.int (nI S)), some (.int (nI (wgF gr S kd i))), some (.int (nI i)), some (.int (nI (gr i))), x6], [.int (nI 0)], pgW si (nA gr) sz (nI gc)) := by
        intro hq
        refine pm_J.run [66] 20 (fun K hK => br_t (by decide) (hK _ ?_))
        exact skip _ (fun z => hq z.1)
      refine pm_J.run [43] 40 (fun K hK => br_f (nI_ge h2 (by omega)) (And.intro (vp_in_nI (by omega) (by decide)) (And.intro (fun q => hK _ ?_) (fun q => And.intro (fun q2 => hK _ ?_) (fun q2 => hK _ ?_)))))
      · have q' : ¬ (nI (gr (nI i).toNatClampNeg) &&& nI S) = nI (gr (nI i).toNatClampNeg) := q
        rw [ei, nx_and, nI_e128 hand hgi] at q'
        rw [ei]
        exact none' (fun z => q' z.1)
      · have q2' : nI (gr (nI i).toNatClampNeg) = nI S := q2
        rw [ei, nI_e128 hgi hS] at q2'
        rw [ei]
        exact none' (fun z => z.2 q2')
      · have q' : ¬ ¬ (nI (gr (nI i).toNatClampNeg) &&& nI S) = nI (gr (nI i).toNatClampNeg) := q
        have q2' : ¬ nI (gr (nI i).toNatClampNeg) = nI S := q2
        rw [ei, nx_and, nI_e128 hand hgi] at q'
        rw [ei, nI_e128 hgi hS] at q2'
        rw [ei]
        exact take ⟨Classical.not_not.mp q', q2'⟩
  exact key none none
end PAG
