section STA
variable {s : State} {b : Nat}
theorem st_str : ∀ q ∈ pm_strs, Cond.stringRef q.1 q.2.1 q.2.2 ∈ lw_tbl := by decide +kernel
theorem st_own : ∀ q ∈ pm_strs, q.1 = RX5 := by decide +kernel
theorem st_one : ∀ q ∈ pm_strs, ∀ r ∈ pm_strs, q.2.1 = r.2.1 → q = r := by decide +kernel
theorem st_lay : Cond.laysStatic Bundle.tN "UNASSIGNED_STACK" Bundle.steD ∈ lw_tbl ∧ Cond.laysStatic Bundle.tN "SUPPRESSED_SENTINEL" Bundle.listD ∈ lw_tbl ∧ Cond.initialized Bundle.tN ∈ lw_tbl := by decide +kernel
theorem st_ins : ∀ q ∈ vwCl, Cond.instantiable q.1 q.2.2 ∈ pm_tb := by decide +kernel
theorem st_D {args : Array Value} (hts : ∀ w ∈ lw_tbl, w.before args s = true) : ∃ D : va_G, ∀ (k : Nat) (q : vw_C), vwCl[k]? = some q → u_Kn s q.1 q.2.1 q.2.2 (D.1 k) (D.2 k) := by
  have key : ∀ k : Nat, ∃ z : ClassId × (Nat → Nat), ∀ q : vw_C, vwCl[k]? = some q → u_Kn s q.1 q.2.1 q.2.2 z.1 z.2 := by
    intro k
    cases hk : vwCl[k]? with
    | none => exact ⟨(0, fun _ => 0), fun q hq => by cases hq⟩
    | some q0 =>
      obtain ⟨cC, iS, h⟩ := u_known (C := q0.1) (T := q0.2.1) (N := q0.2.2) (n := q0.2.2) hts (fun w hw => lw_sub _ (pm_lay k q0 hk w hw)) (hts _ (lw_sub _ (st_ins q0 (List.mem_of_getElem? hk))))
      exact ⟨(cC, iS), fun q hq => by cases hq; exact h⟩
  exact ⟨(fun k => (key k).choose.1, fun k => (key k).choose.2), fun k q hq => (key k).choose_spec q hq⟩
theorem st_nw {args : Array Value} (hts : ∀ w ∈ lw_tbl, w.before args s = true) : ∀ w ∈ pm_ng, va_Nw w s := fun w hw => by
  obtain ⟨h1, h2⟩ := List.mem_filter.mp hw
  refine va_Nw.of ?_ (hts w h1)
  unfold pm_kind at h2
  split at h2
  · rfl
  · rfl
  · rfl
  · rfl
  · cases h2
theorem st_strs {args : Array Value} {c5 : ClassId} (h5 : s.vm.findClass RX5 = some c5) (hts : ∀ w ∈ lw_tbl, w.before args s = true) : ∃ sa : Nat → Nat, ∀ q ∈ pm_strs, vk_R q.1 q.2.1 q.2.2 (sa q.2.1) s := by
  have key : ∀ k : Nat, ∃ a : Nat, ∀ q ∈ pm_strs, q.2.1 = k → vk_R q.1 q.2.1 q.2.2 a s := by
    intro k
    by_cases hk : ∃ q ∈ pm_strs, q.2.1 = k
    · obtain ⟨q0, hq0, rfl⟩ := hk
      have h1 : (Cond.stringRef q0.1 q0.2.1 q0.2.2).before args s = true := hts _ (st_str q0 hq0)
      obtain ⟨-, -, -, a, -, -, -, -, -, h2⟩ := Cond.stringRef_spec (by rw [st_own q0 hq0]; exact h5) h1
      refine ⟨a, fun q hq e => ?_⟩
      rw [st_one q hq q0 hq0 e]
      exact vk_R.of h1 h2
    · exact ⟨0, fun q hq e => absurd ⟨q, hq, e⟩ hk⟩
  exact ⟨fun k => (key k).choose, fun q hq => (key q.2.1).choose_spec q hq rfl⟩
theorem st_ncs {args : Array Value} (hgv : (Jvm.Cond.and given_1 narrow_1).before args s = true) : ∀ q ∈ pm_ncs, va_Nc q.1 q.2 s := by
  have hf := flat_of_before _ hgv
  refine List.forall_mem_cons.mpr ⟨va_Nc.of (hf _ (by decide +kernel)), List.forall_mem_cons.mpr ⟨va_Nc.of (hf _ (by decide +kernel)), fun _ h => absurd h List.not_mem_nil⟩⟩
theorem st_G {args : Array Value} {c5 : ClassId} (h5 : s.vm.findClass RX5 = some c5) (hts : ∀ w ∈ lw_tbl, w.before args s = true) (hgv : (Jvm.Cond.and given_1 narrow_1).before args s = true) : pm_G (fun q => s.heap.size ≤ q) s s.heap := by
  have hf := flat_of_before _ hgv
  have hA : ∀ a : Nat, a < s.heap.size → ¬ (fun q : Nat => s.heap.size ≤ q) a := fun a h => Nat.not_le.mpr h
  refine ⟨st_nw hts, st_strs h5 hts, st_ncs hgv, vx_Zqof (hts _ st_lay.1) (hts _ st_lay.2.2) (hf _ (by decide +kernel)) hA, vx_Zqof (hts _ st_lay.2.1) (hts _ st_lay.2.2) (hf _ (by decide +kernel)) hA⟩
theorem whole_start {p : Program} {e : Env} {s : State} {m : MethodId} {below : List Frame} {meth : Method} {c : Code} (l : Launch) (ht : l.stackTraces = false) {b L : Nat} {xs : Nat → Int32} (hL : L ≤ 192) (C0 : lw_At p s m meth c b L xs) : W p l e room_1 s m #[Value.ref b] below meth c s.heap [] 0 0 (lw_Z below #[Value.ref b] s) (entryFrame m ([Value.ref b] : List Value).toArray 8) := by
  obtain ⟨hx, hb, hr, hml, hown, hts, hX, hbl, hlocks, hgv⟩ := id C0
  obtain ⟨D, hD⟩ := st_D hts
  have h5 : s.vm.findClass RX5 = some (D.1 5) := (hD 5 _ rfl).2.1
  have hG := st_G h5 hts hgv
  have X : pm_X p s m #[Value.ref b] c cL_law RL lw_tbl iL_law := pm_Ib_Y kL_law lw_sub hx hb hown hts hG
  have XC : lwC p l e s m below meth c b L xs := ⟨X, hml, hr, hlocks, hX, hbl, hG, ht⟩
  have hl := lv_entry ([.ref b]) (n := 8) (Nat.le_of_ble_eq_true rfl)
  rw [lg_entry_eq]
  generalize (lg_sl ([.ref b]) ++ List.replicate (8 - (lg_sl ([.ref b])).length) Slot.unset).toArray = ls at hl ⊢
  have hl : lv_has ls 8 [(0, .ref b)] := hl
  refine lw_begin (D := D) XC hL (fun k => if k = 99 then b else 0) (fun _ => 0) rfl s.heap [] ls (fun k q h => by simp [pm_w] at h) ⟨fun i j x y h => by simp [pm_w] at h, fun k q h => by simp [pm_w] at h⟩ va_S.rf ⟨rfl, hl.1, hl.2.1, fun i v hv => ?_⟩ ⟨hD, fun k a h => by simp at h⟩
  match i, hv with
  | 0, hv => cases hv; exact hl.2.2 (0, .ref b) (by simp)
  | 1, hv => cases hv
  | 2, hv => cases hv
  | 3, hv => cases hv
  | 4, hv => cases hv
  | 5, hv => cases hv
  | 6, hv => cases hv
  | 7, hv => cases hv
  | k + 8, hv => simp at hv
end STA
set_option maxHeartbeats 4000000 in
theorem lw_walk (l : Launch) (ht : l.stackTraces = false) (b : Addr) (xs : List Int32) : MetFree l x (headSpec (Jvm.Cond.code x code maxLocals ret :: tables_1) room_1) (lw_P b xs) (fun _ _ _ _ _ => True) lw_Q := by
  refine MetFree.of_bodyS (code := code) (maxLocals := maxLocals) (ret := ret) (by decide) ?_ ?_
  · intro args s m h hn
    obtain ⟨meth, c, h1, h2, h3, h4, h5, h6, -, -⟩ := Cond.code_spec hn (atoms_spec (ws := Jvm.Cond.code x code maxLocals ret :: tables_1) h _ List.mem_cons_self)
    exact ⟨meth, c, h1, h2, h3, h4, h5, h6⟩
  · intro p e s m args below meth c s₁ B hml0 hP _
    obtain ⟨rfl, hx, hbd, hgv⟩ := hP
    obtain ⟨scr, harrAt, hlist, hof, hsmall⟩ := hx
    obtain ⟨hcb, hkn, -, -⟩ := State.arrayAt?_spec harrAt
    have hown : s.vm.findClass R_law = some m.cls := findClass_of_methodNamed B.named
    have hts0 : ∀ c ∈ (Jvm.Cond.code x code maxLocals ret :: tables_1), c.before #[Value.ref b] s = true := atoms_spec (ws := Jvm.Cond.code x code maxLocals ret :: tables_1) B.pre
    have hts : ∀ w ∈ lw_tbl, w.before #[Value.ref b] s = true := k2_hts_sels lw_privs (fun w hw => hts0 w (List.mem_cons_of_mem _ hw)) lw_privs_ok
    have hml : c.maxLocals = 8 := B.maxLocals_eq (hts0 _ List.mem_cons_self)
    have X₀ : Stand p l e room_1 s m #[Value.ref b] below meth c s₁ [] 0 0 := Stand.of_body B
    have hh0 : s₁.heap = s.heap := by rw [B.state]; rfl
    have hsz : scr.slots.size = xs.length := by rw [← Array.length_toList, hlist, List.length_map]
    have hval : ∀ j : Nat, j < xs.length → scr.slots[j]? = some (.int (xs.getD j 0)) := fun j hj => by
      rw [← Array.getElem?_toList, hlist]
      simp [hj]
    have hbl : b < s.heap.size := (Array.getElem?_eq_some_iff.mp hcb).1
    have hX : va_X b xs.length (fun j => xs.getD j 0) s s.heap := ⟨scr, hcb, hof, hkn, hsz, hval⟩
    have K : W p l e room_1 s m #[Value.ref b] below meth c s₁.heap [] 0 0 (lw_Z below #[Value.ref b] s) (entryFrame m ([Value.ref b] : List Value).toArray 8) := by
      rw [hh0]
      exact whole_start l ht hbd ⟨B.exec, B.bytes, B.returns, hml, hown, hts, hX, hbl, B.notSynchronized, hgv⟩
    obtain ⟨t, a1, o, b1, b2, b3⟩ := K s₁ rfl X₀
    exact ⟨t, o, a1, b1, b2, b3⟩
theorem lw_pre_spec {args : Array Value} {s : State} (h : (Jvm.Cond.and given_1 narrow_1).before args s = true) (hr : rest_1_c.before args s = true) : ∃ (b : Addr) (xs : List Int32), lw_P b xs args s := by
  have hs := flat_of_before _ h
  have hq := flat_of_before _ hr
  have hc : (Cond.count 1).before args s = true := hs _ (by decide +kernel)
  have harr : (Cond.arrayOf (.arg 0) .int).before args s = true := hs _ (by decide +kernel)
  have hle : (Cond.le (.length (.arg 0)) (.int 192)).before args s = true := hs _ (by decide +kernel)
  have hlen : (Cond.isInt (.length (.arg 0))).before args s = true := hq _ (by decide +kernel)
  have hall : (Cond.all (.arg 0) (.isInt (.elem (.arg 0) (.index 0)))).before args s = true := hq _ (by decide +kernel)
  obtain ⟨b, xs, hb, hx⟩ := State.ints_of_pre rfl harr hlen hall
  have hsm : xs.length < 2 ^ 31 := hx.choose_spec.2.2.2
  have hev : (Term.length (.arg 0)).eval args s none [] s = some (.int xs.length.toInt32) := hx.length_eval hb
  have hv := Cond.le_ints hev (show (Term.int 192).eval args s none [] s = some (.int 192) from rfl)
  have hd : xs.length.toInt32 ≤ 192 := by
    simpa [Cond.before, Cond.holds, hv] using hle
  have hN : xs.length ≤ 192 := (Int32.ofNat_le_ofNat hsm (by decide)).mp (show Int32.ofNat xs.length ≤ Int32.ofNat 192 from hd)
  exact ⟨b, xs, Cond.one_arg hc (show args[0]? = some (.ref b) from hb), hx, hN, h⟩
theorem lw_comes (l : Launch) (ht : l.stackTraces = false) : Comes l x (Jvm.Cond.code x code maxLocals ret :: tables_1) room_1 (fun tb e args s => Calls_1 tb e args s ∧ rest_1 tb e args s ∧ Pre_1 tb e args s)
    (fun _ _ args s o t => lw_Q args s o t) := by
  intro p e ha hc hk s m args below hf hfit hheap happ hpre
  obtain ⟨b, xs, hP⟩ := lw_pre_spec hpre.2.2 hpre.2.1
  obtain ⟨k, o, h1, h2, h3, hQ⟩ := lw_walk l ht b xs p e ha hc hk s m args below hf ((Spec.applies_iff_loose hf).mp happ).1 hP trivial
  exact ⟨k, o, h1, h2, h3, hQ⟩
theorem lw_frame {s t : State} {o : Outcome} {args : Array Value} (h : Framed s o t [] 600128 7301098) :
    Framed s o t (fieldLocs frame_1_writes args s ++ arrayLocs frame_1_arrays args s ++ staticLocs frame_1_statics s) 600128 7301098 := h
theorem lw_limb (L : Cond) (hL : ∀ (args : Array Value) (s t : State), L.after args s (.returned (some (.int 1))) t = true) :
    ArmFor flags0 classFile x code maxLocals ret World_1 tables_1 room_1 Calls_1 rest_1 Pre_1
      (fun tb e a s o t => postC L tb e a s o t ∧ Framed s o t (fieldLocs frame_1_writes a s ++ arrayLocs frame_1_arrays a s ++ staticLocs frame_1_statics s) 600128 7301098) := by
  intro l hfl _ _ p e ha hc hk s m args below hf hfit hheap happ hpre
  have ht : l.stackTraces = false := by unfold Launch.stackTraces; rw [hfl]; decide
  obtain ⟨k, o, h1, h2, h3, rfl, hF⟩ := lw_comes l ht p e ha hc hk s m args below hf hfit hheap happ hpre
  exact ⟨k, _, h1, h2, h3, hL args s _, lw_frame hF⟩
theorem i_vc : Claimed_1_1 ∧ Claimed_1_2 := ⟨lw_limb limb_1_1 (fun args s t => by simp [limb_1_1, Cond.after, Cond.holds, Cond.value]), lw_limb limb_1_2 (fun args s t => Cond.after_iff.mpr (by
  first | (rw [show limb_1_2 = Cond.eq .result (.int 1) from rfl, Cond.eq_ints (x := 1) (y := 1) rfl rfl]; simp; done) | (simp [limb_1_2, Cond.value, Term.eval]; done)))⟩
