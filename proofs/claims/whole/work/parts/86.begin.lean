section BEG
variable {p : Program} {l : Launch} {e : Env} {s : State} {m : MethodId} {below : List Frame} {meth : Method} {c : Code} {b Ln : Nat} {xs : Nat → Int32} {D : va_G}
theorem nw_5 : Cond.classLink RL 8 RX5 ∈ pm_tb ∧ Cond.instantiable RX5 7 ∈ pm_tb ∧ Cond.initialized RX5 ∈ pm_tb ∧ Cond.methodLink RL 64 yX5_init ∈ pm_tb := by decide +kernel
theorem nw_6 : Cond.classLink RL 65 RX6 ∈ pm_tb ∧ Cond.instantiable RX6 27 ∈ pm_tb ∧ Cond.initialized RX6 ∈ pm_tb ∧ Cond.methodLink RL 67 yX6_init ∈ pm_tb := by decide +kernel
theorem nf_5 : ∀ j, j < 7 → defaultValue (pm_ty 5 j) = vp_V [.null, .null, .null, .null, .null, .null, .null] j := by decide +kernel
theorem nf_6 : ∀ j, j < 27 → defaultValue (pm_ty 6 j) = vp_V [.int (nI 0), .null, .int (nI 0), .int (nI 0), .int (nI 0), .int (nI 0), .null, .null, .null, .int (nI 0), .int (nI 0), .int (nI 0), .null, .int (nI 0), .null, .null, .null, .null, .null, .int (nI 0), .null, .int (nI 0), .null, .int (nI 0), .null, .null, .int (nI 0)] j := by decide +kernel
abbrev mo0 : List pm_E := moW (z0, 0) (0, nI 0, 0, 0, z0) (0, 0, z0, z0) (0, z0) (0, z0, z0, z0, z0, z0) (0, z0, 0, z0) (0, z0, nA z0) 0
theorem lwI0 : lwI tx0 tr0 tr0 fn0 pg0 tb0 tb0 (z0, 0) (0, 0, z0, z0) (0, z0) (0, z0, z0, z0, z0, z0) (0, z0, nA z0) := by
  have hz : ∀ N, 0 < N → Bz N z0 := fun N h => ⟨fun _ => h, fun _ _ => rfl⟩
  have hn : Bn z0 := fun _ => (by decide : 0 < 14)
  have hd : Bd z0 := fun _ => (by decide : 0 < 128)
  have ht : TI tr0 := ⟨hd, rfl, hn, hn, hd, hn⟩
  refine ⟨⟨rfl, Nat.zero_le _, fun _ => (by decide : 0 < 65536)⟩, ⟨ht, ht⟩, ⟨⟨rfl, rfl, Nat.zero_le _, Nat.zero_le _, fun a c ha => absurd ha (Nat.not_lt_zero _), fun c hc => absurd hc (Nat.not_lt_zero _)⟩, hd, hd, hd⟩, ⟨rfl, ⟨Nat.zero_le _, fun i hi => absurd hi (Nat.not_lt_zero _)⟩, fun h => absurd rfl h⟩, ⟨⟨hz _ (by decide), hz _ (by decide), hz _ (by decide), hz _ (by decide)⟩, fun _ => (by decide : 0 < 1000)⟩, ⟨rfl, Nat.zero_le _, fun j hj => absurd hj (Nat.not_lt_zero _), ⟨z0, rfl⟩, fun _ => (by decide : 0 < 65536), hd⟩⟩
theorem fx_u {ad : Nat → Nat} {n q : Nat} (hn : n ≠ 99) (h : ad 99 = b) : updA ad n q 99 = b := (updA_n (fun z => hn z.symm)).trans h
theorem fx_N {ad ad1 : Nat → Nat} {n k : Nat} (hn : n + k ≤ 99) (h : ad 99 = b) : adN ad ad1 n (k + 1) 99 = b := by
  unfold adN
  rw [if_neg (by omega), if_neg (by omega)]
  exact h
set_option maxRecDepth 100000 in
theorem lw_begin (X : lwC p l e s m below meth c b Ln xs) (hL : Ln ≤ 192) : gW (fun ad => ad 99 = b) p l e room_1 s m #[Value.ref b] below meth c 8 D (fun q => s.heap.size ≤ q) 0 0 (lw_Z below #[Value.ref b] s) (0, [some (.ref 99), none, none, none, none, none, none, none], [], []) := by
  have hnG : pm_nG s := X.2.2.2.2.2.2.1.1
  refine gW.new X.1 (ci := 5) (N := 7) [.null, .null, .null, .null, .null, .null, .null] (fun _ h => h) (fun ad q h => fx_u (by decide) h) (lw_sub _ nw_5.1) (lw_sub _ nw_5.2.1) (lw_sub _ nw_5.2.2.1) nf_5 (fun _ => rfl) (Nat.le_of_ble_eq_true rfl) (Nat.le_of_ble_eq_true rfl) ?_
  refine gW.run X.1 [] 20 (fun K hK => hK _ ?_)
  refine gW.callI X.1 lw_sub X.2.1 hnG (fun _ h => h) n_Short (fun _ => rfl) (fun ad ad1 h => fx_N (Nat.le_of_ble_eq_true rfl) h) iw_5 (Or.inl nw_5.2.2.2) iy_5 (Nat.le_of_ble_eq_true rfl) (Nat.le_of_ble_eq_true rfl) (Nat.le_of_ble_eq_true rfl) (Nat.le_of_ble_eq_true rfl) ?_
  refine gW.run X.1 [] 20 (fun K hK => hK _ ?_)
  refine gW.new X.1 (ci := 6) (N := 27) [.int (nI 0), .null, .int (nI 0), .int (nI 0), .int (nI 0), .int (nI 0), .null, .null, .null, .int (nI 0), .int (nI 0), .int (nI 0), .null, .int (nI 0), .null, .null, .null, .null, .null, .int (nI 0), .null, .int (nI 0), .null, .int (nI 0), .null, .null, .int (nI 0)] (fun _ h => h) (fun ad q h => fx_u (by decide) h) (lw_sub _ nw_6.1) (lw_sub _ nw_6.2.1) (lw_sub _ nw_6.2.2.1) nf_6 (fun _ => rfl) (Nat.le_of_ble_eq_true rfl) (Nat.le_of_ble_eq_true rfl) ?_
  refine gW.run X.1 [] 20 (fun K hK => hK _ ?_)
  refine gW.callI X.1 lw_sub X.2.1 hnG (fun _ h => h) n_Model (fun _ => rfl) (fun ad ad1 h => fx_N (Nat.le_of_ble_eq_true rfl) h) iw_6 (Or.inl nw_6.2.2.2) iy_6 (Nat.le_of_ble_eq_true rfl) (Nat.le_of_ble_eq_true rfl) (Nat.le_of_ble_eq_true rfl) (Nat.le_of_ble_eq_true rfl) ?_
  refine gW.run X.1 [] 20 (fun K hK => hK _ ?_)
  refine gW.newa X.1 (N := 1) (atype := .long) .long (1, .inr (.inl (fun _ => 0))) (fun _ h => h) (fun ad q h => fx_u (by decide) h) (lw_sub _ ac_long) (fun _ => rfl) (by decide) (by decide) (Nat.le_of_ble_eq_true rfl) (Nat.le_of_ble_eq_true rfl) (Nat.le_of_ble_eq_true rfl) ?_
  refine gW.run X.1 [] 20 (fun K hK => hK _ ?_)
  refine gW.newa X.1 (N := 1) (atype := .double) .double (1, .inr (.inr (.inr (.inl (fun _ => 0))))) (fun _ h => h) (fun ad q h => fx_u (by decide) h) (lw_sub _ ac_double) (fun _ => rfl) (by decide) (by decide) (Nat.le_of_ble_eq_true rfl) (Nat.le_of_ble_eq_true rfl) (Nat.le_of_ble_eq_true rfl) ?_
  refine gW.run X.1 [28] 20 (fun K hK => hK _ ?_)
  intro ad tI hF H locs ls hP hD hS hL' hK
  have hge : ∀ k, k < 46 → s.heap.size ≤ ad k := fun k hk => hD.2 k _ (pm_w_get (List.getElem?_eq_getElem hk))
  have key := lw_loop (D := D) X hL 64 0 46 3135 (by omega) (by omega) (by omega) (by omega) tx0 tr0 tr0 fn0 pg0 tb0 tb0 (z0, 0) (0, nI 0, 0, 0, z0) (0, 0, z0, z0) (0, z0) (0, z0, z0, z0, z0, z0) (0, z0, 0, z0) (0, z0, nA z0) 0 (fun _ => 0) (fun _ => 0) none none lwI0 ad tI hF hge H locs ls hP (by rw [lw_A hge]; exact hD) (by rw [lw_A hge]; exact hS) hL' hK
  exact key
end BEG
