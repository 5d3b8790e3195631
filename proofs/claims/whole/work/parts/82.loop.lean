section LWQ
variable {p : Program} {l : Launch} {e : Env} {s : State} {m : MethodId} {below : List Frame} {meth : Method} {c : Code} {b Ln : Nat} {xs : Nat → Int32} {D : va_G} {cells slots : Nat}
theorem lw_gt : ∀ n, n < 193 → ∀ i, i < 200 → ((nI n - pm_k 3 < nI i) ↔ n < i + 3) := by decide +kernel
theorem lw_31 (x : Int32) : ∃ v, v < 32 ∧ x &&& pm_k 31 = nI v := by
  have e : x = nI x.toBitVec.toNat := by
    apply Int32.toBitVec_inj.1
    show x.toBitVec = BitVec.ofNat 32 x.toBitVec.toNat
    simp
  refine ⟨x.toBitVec.toNat &&& 31, Nat.lt_of_le_of_lt Nat.and_le_right (by decide), ?_⟩
  rw [← nx_and, ← e]
  rfl
set_option maxRecDepth 100000 in
theorem lw_loop (X : lwC p l e s m below meth c b Ln xs) (hL : Ln ≤ 192) : ∀ (n i cells slots : Nat), Ln ≤ i + 3 * n → i ≤ 194 → cells + 2 * (n + 1) ≤ 600128 → slots + 12 * (n + 1) ≤ 7301098 →
    ∀ (tx : txP) (g1 g2 : trP) (fn : fnP) (pg : pgP) (t1 t2 : tbP) (A : mA) (P : mP) (T : mT) (F : mF) (G : mG) (S : mS) (W : mW) (th : Nat) (f : Nat → Int64) (g : Nat → UInt64) (x6 x7 : Option Value), lwI tx g1 g2 fn pg t1 t2 A T F G W →
      lwJ p l e s m below meth c b D cells slots (28, lwL i x6 x7, [], lwV (stN tx g1 g2 fn pg t1 t2) (moW A P T F G S W th) f g) := by
  intro n
  induction n with
  | zero =>
    intro i cells slots hi h194 hc hs tx g1 g2 fn pg t1 t2 A P T F G S W th f g x6 x7 hI
    refine lwJ.run X [] 20 (fun K hK => hK _ ?_)
    refine lwJ.slen X ?_
    refine lwJ.run X [1117] 20 (fun K hK => br_t ?_ (hK _ ?_))
    · show nI Ln - pm_k 3 < nI i
      rw [lw_gt Ln (by omega) i (by omega)]
      omega
    · exact lwJ.fin X (by omega) (by omega)
  | succ n ih =>
    intro i cells slots hi h194 hc hs tx g1 g2 fn pg t1 t2 A P T F G S W th f g x6 x7 hI
    refine lwJ.run X [] 20 (fun K hK => hK _ ?_)
    refine lwJ.slen X ?_
    refine lwJ.run X [1117] 20 (fun K hK => And.intro (fun q => hK _ ?_) (fun q => hK _ ?_))
    · exact lwJ.fin X (by omega) (by omega)
    · have q' : ¬ nI Ln - pm_k 3 < nI i := q
      rw [lw_gt Ln (by omega) i (by omega)] at q'
      have e1 : nI i + pm_k 1 = nI (i + 1) := nI_add i 1
      have e2 : nI i + pm_k 2 = nI (i + 2) := nI_add i 2
      have h0 : vp_in (nI i) Ln := vp_in_nI (by omega) (by omega)
      have h1 : vp_in (nI i + pm_k 1) Ln := by rw [e1]; exact vp_in_nI (by omega) (by omega)
      have h2 : vp_in (nI i + pm_k 2) Ln := by rw [e2]; exact vp_in_nI (by omega) (by omega)
      have nx : lwN p l e s m below meth c b D cells slots i := by
        intro tx g1 g2 fn pg t1 t2 A P T F G S W th f g x6 x7 cells' slots' hI' hc' hs'
        refine lwJ.run X [28] 20 (fun K hK => hK _ ?_)
        have := ih (i + 3) cells' slots' (by omega) (by omega) (by omega) (by omega) tx g1 g2 fn pg t1 t2 A P T F G S W th f g x6 x7 hI'
        unfold lwL at this
        rw [← nI_add i 3] at this
        exact this
      have hc2 : cells + 2 ≤ 600128 := by omega
      have hs2 : slots + 12 ≤ 7301098 := by omega
      refine lwJ.sld X h0 ?_
      refine lwJ.run X [] 20 (fun K hK => hK _ ?_)
      obtain ⟨v, hv, ev⟩ := lw_31 (xs (nI i).toNatClampNeg)
      rw [ev]
      have tv : (nI v).toInt = (v : Int) := nI_toInt (by omega)
      by_cases h17 : v < 18
      · have hv' : v = 0 ∨ v = 1 ∨ v = 2 ∨ v = 3 ∨ v = 4 ∨ v = 5 ∨ v = 6 ∨ v = 7 ∨ v = 8 ∨ v = 9 ∨ v = 10 ∨ v = 11 ∨ v = 12 ∨ v = 13 ∨ v = 14 ∨ v = 15 ∨ v = 16 ∨ v = 17 := by omega
        rcases hv' with rfl | rfl | rfl | rfl | rfl | rfl | rfl | rfl | rfl | rfl | rfl | rfl | rfl | rfl | rfl | rfl | rfl | rfl
        · exact lwJ.sw X (tgt := 132) 88 (by rw [tv]; decide) (by rw [tv]; decide) (by rw [tv]; rfl) (by decide) (lc_type X hI h1 hc2 hs2 nx)
        · exact lwJ.sw X (tgt := 190) 146 (by rw [tv]; decide) (by rw [tv]; decide) (by rw [tv]; rfl) (by decide) (lc_table X hI hc2 hs2 nx)
        · exact lwJ.sw X (tgt := 203) 159 (by rw [tv]; decide) (by rw [tv]; decide) (by rw [tv]; rfl) (by decide) (lc_states X hI h1 h2 hc2 hs2 nx)
        · exact lwJ.sw X (tgt := 271) 227 (by rw [tv]; decide) (by rw [tv]; decide) (by rw [tv]; rfl) (by decide) (lc_weigh X hI h1 h2 hc2 hs2 nx)
        · exact lwJ.sw X (tgt := 339) 295 (by rw [tv]; decide) (by rw [tv]; decide) (by rw [tv]; rfl) (by decide) (lc_trees X hI hc2 hs2 nx)
        · exact lwJ.sw X (tgt := 352) 308 (by rw [tv]; decide) (by rw [tv]; decide) (by rw [tv]; rfl) (by decide) (lc_changes X hI h1 h2 hc2 hs2 nx)
        · exact lwJ.sw X (tgt := 420) 376 (by rw [tv]; decide) (by rw [tv]; decide) (by rw [tv]; rfl) (by decide) (lc_length X hI h1 hc2 hs2 nx)
        · exact lwJ.sw X (tgt := 476) 432 (by rw [tv]; decide) (by rw [tv]; decide) (by rw [tv]; rfl) (by decide) (lc_search X hI hc2 hs2 nx)
        · exact lwJ.sw X (tgt := 520) 476 (by rw [tv]; decide) (by rw [tv]; decide) (by rw [tv]; rfl) (by decide) (lc_found X hI hc2 hs2 nx)
        · exact lwJ.sw X (tgt := 533) 489 (by rw [tv]; decide) (by rw [tv]; decide) (by rw [tv]; rfl) (by decide) (lc_best X hI h1 hc2 hs2 nx)
        · exact lwJ.sw X (tgt := 589) 545 (by rw [tv]; decide) (by rw [tv]; decide) (by rw [tv]; rfl) (by decide) (lc_split X hI h1 h2 hc2 hs2 nx)
        · exact lwJ.sw X (tgt := 664) 620 (by rw [tv]; decide) (by rw [tv]; decide) (by rw [tv]; rfl) (by decide) (lc_share X hI h1 hc2 hs2 nx)
        · exact lwJ.sw X (tgt := 742) 698 (by rw [tv]; decide) (by rw [tv]; decide) (by rw [tv]; rfl) (by decide) (lc_distance X hI h1 h2 hc2 hs2 nx)
        · exact lwJ.sw X (tgt := 810) 766 (by rw [tv]; decide) (by rw [tv]; decide) (by rw [tv]; rfl) (by decide) (lc_consistency X hI h1 hc2 hs2 nx)
        · exact lwJ.sw X (tgt := 888) 844 (by rw [tv]; decide) (by rw [tv]; decide) (by rw [tv]; rfl) (by decide) (lc_retention X hI h1 hc2 hs2 nx)
        · exact lwJ.sw X (tgt := 966) 922 (by rw [tv]; decide) (by rw [tv]; decide) (by rw [tv]; rfl) (by decide) (lc_write X hI h1 hc2 hs2 nx)
        · exact lwJ.sw X (tgt := 1022) 978 (by rw [tv]; decide) (by rw [tv]; decide) (by rw [tv]; rfl) (by decide) (lc_common X hI h1 hc2 hs2 nx)
        · exact lwJ.sw X (tgt := 1086) 1042 (by rw [tv]; decide) (by rw [tv]; decide) (by rw [tv]; rfl) (by decide) (lc_written X hI h1 hc2 hs2 nx)
      · exact lwJ.swd X (Or.inr (by rw [tv]; omega)) (nx _ _ _ _ _ _ _ _ _ _ _ _ _ _ _ _ _ _ _ _ _ hI (by omega) (by omega))
end LWQ
