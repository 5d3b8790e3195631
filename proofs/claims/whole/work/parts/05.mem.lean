section PMC
def pm_kd (v : Value) : Nat := match v with
  | .int _ => 0
  | .long _ => 1
  | .float _ => 2
  | .double _ => 3
  | .ref _ => 4
  | _ => 5
def pm_ldi (i : Instr) : Option (Nat × Nat × Nat) := match i with
  | .iload n => some (0, n, 2)
  | .iload_n n => some (0, n.val, 1)
  | .lload n => some (1, n, 2)
  | .lload_n n => some (1, n.val, 1)
  | .fload n => some (2, n, 2)
  | .fload_n n => some (2, n.val, 1)
  | .dload n => some (3, n, 2)
  | .dload_n n => some (3, n.val, 1)
  | .aload n => some (4, n, 2)
  | .aload_n n => some (4, n.val, 1)
  | _ => none
def pm_sti (i : Instr) : Option (Nat × Nat × Nat) := match i with
  | .istore n => some (0, n, 2)
  | .istore_n n => some (0, n.val, 1)
  | .lstore n => some (1, n, 2)
  | .lstore_n n => some (1, n.val, 1)
  | .fstore n => some (2, n, 2)
  | .fstore_n n => some (2, n.val, 1)
  | .astore n => some (4, n, 2)
  | .astore_n n => some (4, n.val, 1)
  | _ => none
abbrev pm_C : Type := Nat × List (Option Value) × List Value × List pm_E
/-- code by places; field entries (pool entry, a nest mate's or not, the owner's number, the field's); constants -/
abbrev pm_I : Type := List (Nat × Instr × Nat) × List (Nat × Bool × Nat × Nat) × List (Nat × Value)
/-- it stands; a step; a step with a guard; a branch -/
abbrev pm_R : Type := Unit ⊕ pm_C ⊕ (Prop × pm_C) ⊕ (Prop × pm_C × pm_C)
def pm_find {α : Type} : List (Nat × α) → Nat → Option α
  | [], _ => none
  | a :: l, k => match Nat.beq a.1 k with
    | true => some a.2
    | false => pm_find l k
theorem pm_find_mem {α : Type} : ∀ (l : List (Nat × α)) (k : Nat) (x : α), pm_find l k = some x → (k, x) ∈ l
  | [], k, x, h => by simp [pm_find] at h
  | a :: l, k, x, h => by
    unfold pm_find at h
    split at h
    · rename_i hb
      cases h
      have hk := Nat.eq_of_beq_eq_true hb
      subst hk
      exact List.mem_cons_self
    · exact List.mem_cons_of_mem _ (pm_find_mem l k x h)
def pm_ty (ci : Nat) : Nat → FieldType := match ci with
  | 0 => tyX0
  | 1 => tyX1
  | 2 => tyX2
  | 3 => tyX3
  | 4 => tyX4
  | 5 => tyX5
  | _ => tyX6
theorem pm_ty_ok : ∀ (ci : Nat) (q : vw_C), vwCl[ci]? = some q → (∀ k, k < q.2.2 → parseFieldDescriptor (q.2.1 k).2.2.1 = some (pm_ty ci k)) ∧ ∀ a, a < q.2.2 → ∀ b, b < q.2.2 → a ≠ b → (q.2.1 a).2.1 ≠ (q.2.1 b).2.1
  | 0, q, h => by cases h; exact ⟨tyX0_ok, nmX0⟩
  | 1, q, h => by cases h; exact ⟨tyX1_ok, nmX1⟩
  | 2, q, h => by cases h; exact ⟨tyX2_ok, nmX2⟩
  | 3, q, h => by cases h; exact ⟨tyX3_ok, nmX3⟩
  | 4, q, h => by cases h; exact ⟨tyX4_ok, nmX4⟩
  | 5, q, h => by cases h; exact ⟨tyX5_ok, nmX5⟩
  | 6, q, h => by cases h; exact ⟨tyX6_ok, nmX6⟩
  | n + 7, q, h => by simp [vwCl] at h
/-- a field that may be written: its type takes the value -/
def pm_fit (ci k : Nat) (v : Value) : Bool := match pm_nth vwCl ci with
  | some q => match (q.2.1 k).2.2.2 with
    | true => false
    | false => match pm_ty ci k, v with
      | .int, .int _ => true
      | .object _, .ref _ => true
      | _, _ => false
  | none => false
def pm_mem (I : pm_I) (i : Instr) (n pc : Nat) (L : List (Option Value)) (st : List Value) (w : List pm_E) : pm_R :=
  match i, st with
  | .iinc ix k, st => match pm_nth L ix with
    | some (some (.int x)) => match Nat.beq n 3 with
      | true => .inr (.inl (pc + 3, pm_s1 L ix (.int (x + pm_k k)), st, w))
      | false => .inl ()
    | _ => .inl ()
  | .goto off, st => match Nat.beq n 3 && decide (0 ≤ (pc : Int) + off) with
    | true => .inr (.inl (((pc : Int) + off).toNat, L, st, w))
    | false => .inl ()
  | .getfield ix, .ref h :: r => match pm_find I.2.1 ix, pm_nth w h with
    | some (_, ci, k), some (.inr (cj, fs)) => match Nat.beq n 3 && Nat.beq ci cj, pm_nth fs k with
      | true, some v => .inr (.inl (pc + 3, L, v :: r, w))
      | _, _ => .inl ()
    | _, _ => .inl ()
  | .putfield ix, v :: .ref h :: r => match pm_find I.2.1 ix, pm_nth w h with
    | some (_, ci, k), some (.inr (cj, fs)) => match Nat.beq n 3 && Nat.beq ci cj && pm_fit ci k v && Nat.blt k fs.length with
      | true => .inr (.inl (pc + 3, L, r, w.set h (.inr (cj, fs.set k v))))
      | false => .inl ()
    | _, _ => .inl ()
  | .ldc ix, st => match pm_find I.2.2 ix with
    | some (.int x) => match Nat.beq n 2 with
      | true => .inr (.inl (pc + 2, L, .int x :: st, w))
      | false => .inl ()
    | some (.float x) => match Nat.beq n 2 with
      | true => .inr (.inl (pc + 2, L, .float x :: st, w))
      | false => .inl ()
    | _ => .inl ()
  | .ldc_w ix, st => match pm_find I.2.2 ix with
    | some (.int x) => match Nat.beq n 3 with
      | true => .inr (.inl (pc + 3, L, .int x :: st, w))
      | false => .inl ()
    | _ => .inl ()
  | .arraylength, .ref h :: r => match pm_nth w h with
    | some (.inl (_, N, _)) => match Nat.beq n 1 with
      | true => .inr (.inl (pc + 1, L, .int (nI N) :: r, w))
      | false => .inl ()
    | _ => .inl ()
  | .ldc2_w ix, st => match pm_find I.2.2 ix with
    | some (.long x) => match Nat.beq n 3 with
      | true => .inr (.inl (pc + 3, L, .long x :: st, w))
      | false => .inl ()
    | _ => .inl ()
  | .iaload, .int x :: .ref h :: r => match pm_nth w h with
    | some (.inl (.int, N, .inl f)) => match Nat.beq n 1 with
      | true => .inr (.inr (.inl (vp_in x N, pc + 1, L, .int (f x.toNatClampNeg) :: r, w)))
      | false => .inl ()
    | _ => .inl ()
  | .laload, .int x :: .ref h :: r => match pm_nth w h with
    | some (.inl (.long, N, .inr (.inl f))) => match Nat.beq n 1 with
      | true => .inr (.inr (.inl (vp_in x N, pc + 1, L, .long (f x.toNatClampNeg) :: r, w)))
      | false => .inl ()
    | _ => .inl ()
  | .caload, .int x :: .ref h :: r => match pm_nth w h with
    | some (.inl (.char, N, .inl f)) => match Nat.beq n 1 with
      | true => .inr (.inr (.inl (vp_in x N, pc + 1, L, .int (f x.toNatClampNeg) :: r, w)))
      | false => .inl ()
    | _ => .inl ()
  | .baload, .int x :: .ref h :: r => match pm_nth w h with
    | some (.inl (.boolean, N, .inl f)) => match Nat.beq n 1 with
      | true => .inr (.inr (.inl (vp_in x N, pc + 1, L, .int (f x.toNatClampNeg) :: r, w)))
      | false => .inl ()
    | _ => .inl ()
  | .daload, .int x :: .ref h :: r => match pm_nth w h with
    | some (.inl (.double, N, .inr (.inr (.inr (.inl f))))) => match Nat.beq n 1 with
      | true => .inr (.inr (.inl (vp_in x N, pc + 1, L, .double (f x.toNatClampNeg) :: r, w)))
      | false => .inl ()
    | _ => .inl ()
  | .iastore, .int v :: .int x :: .ref h :: r => match pm_nth w h with
    | some (.inl (.int, N, .inl f)) => match Nat.beq n 1 with
      | true => .inr (.inr (.inl (vp_in x N, pc + 1, L, r, w.set h (.inl (.int, N, .inl (upd f x.toNatClampNeg v))))))
      | false => .inl ()
    | _ => .inl ()
  | .lastore, .long v :: .int x :: .ref h :: r => match pm_nth w h with
    | some (.inl (.long, N, .inr (.inl f))) => match Nat.beq n 1 with
      | true => .inr (.inr (.inl (vp_in x N, pc + 1, L, r, w.set h (.inl (.long, N, .inr (.inl (vp_updL f x.toNatClampNeg v)))))))
      | false => .inl ()
    | _ => .inl ()
  | .castore, .int v :: .int x :: .ref h :: r => match pm_nth w h with
    | some (.inl (.char, N, .inl f)) => match Nat.beq n 1 with
      | true => .inr (.inr (.inl (vp_in x N, pc + 1, L, r, w.set h (.inl (.char, N, .inl (upd f x.toNatClampNeg (vp_nar .char v)))))))
      | false => .inl ()
    | _ => .inl ()
  | .bastore, .int v :: .int x :: .ref h :: r => match pm_nth w h with
    | some (.inl (.boolean, N, .inl f)) => match Nat.beq n 1 with
      | true => .inr (.inr (.inl (vp_in x N, pc + 1, L, r, w.set h (.inl (.boolean, N, .inl (upd f x.toNatClampNeg (vp_nar .boolean v)))))))
      | false => .inl ()
    | _ => .inl ()
  | .dastore, .double v :: .int x :: .ref h :: r => match pm_nth w h with
    | some (.inl (.double, N, .inr (.inr (.inr (.inl f))))) => match Nat.beq n 1 with
      | true => .inr (.inr (.inl (vp_in x N, pc + 1, L, r, w.set h (.inl (.double, N, .inr (.inr (.inr (.inl (vf_upd f x.toNatClampNeg v)))))))))
      | false => .inl ()
    | _ => .inl ()
  | _, _ => .inl ()
def pm_go (n k pc : Nat) (L : List (Option Value)) (st' : List Value) (w : List pm_E) : pm_R := match Nat.beq k n with
  | true => .inr (.inl (pc + n, L, st', w))
  | false => .inl ()
def pm_do (I : pm_I) (C : pm_C) : pm_R :=
  match C with
  | (pc, L, st, w) => match pm_find I.1 pc with
    | none => .inl ()
    | some (i, n) => match pm_ldi i with
      | some (kd, ix, len) => match pm_nth L ix with
        | some (some v) => match Nat.beq len n && Nat.beq (pm_kd v) kd with
          | true => .inr (.inl (pc + n, L, v :: st, w))
          | false => .inl ()
        | _ => .inl ()
      | none => match pm_sti i with
        | some (kd, ix, len) => match st with
          | v :: r => match Nat.beq len n && Nat.beq (pm_kd v) kd && Nat.ble (ix + v.category) L.length with
            | true => match Nat.beq v.category 1 with
              | true => .inr (.inl (pc + n, pm_s1 L ix v, r, w))
              | false => .inr (.inl (pc + n, pm_s2 L ix v, r, w))
            | false => .inl ()
          | [] => .inl ()
        | none => match pm_stk i st with
          | some (k, st') => pm_go n k pc L st' w
          | none => match pm_stk2 i st with
            | some (k, st') => pm_go n k pc L st' w
            | none => match pm_gst i st with
              | some (g, k, st') => match Nat.beq k n with
                | true => .inr (.inr (.inl (g, pc + n, L, st', w)))
                | false => .inl ()
              | none => match pm_br i st with
                | some (q, off, st') => match Nat.beq n 3 && decide (0 ≤ (pc : Int) + off) with
                  | true => .inr (.inr (.inr (q, (((pc : Int) + off).toNat, L, st', w), (pc + 3, L, st', w))))
                  | false => .inl ()
                | none => pm_mem I i n pc L st w
def pm_at (stops : List Nat) (K : pm_C → Prop) (f : pm_C → Prop) (C : pm_C) : Prop := match stops.contains C.1 with
  | true => K C
  | false => f C
/-- what a stretch asks, with K where it stands, or comes to a stop -/
def pm_wp (I : pm_I) (stops : List Nat) (K : pm_C → Prop) : Nat → pm_C → Prop
  | 0, C => K C
  | n + 1, C => match pm_do I C with
    | .inl _ => K C
    | .inr (.inl C') => pm_at stops K (pm_wp I stops K n) C'
    | .inr (.inr (.inl (g, C'))) => g ∧ pm_at stops K (pm_wp I stops K n) C'
    | .inr (.inr (.inr (q, A, B))) => (q → pm_at stops K (pm_wp I stops K n) A) ∧ (¬ q → pm_at stops K (pm_wp I stops K n) B)
def pm_fok (s : State) (args : Array Value) (own : String) (x : Nat × Bool × Nat × Nat) : Prop := ∃ q : vw_C, vwCl[x.2.2.1]? = some q ∧ x.2.2.2 < q.2.2 ∧
  (((Cond.fieldLink own x.1 (q.2.1 x.2.2.2).1 (q.2.1 x.2.2.2).2.1 (q.2.1 x.2.2.2).2.2.1).before args s = true) ∨ ∃ host, (Cond.fieldLinkNest own x.1 (q.2.1 x.2.2.2).1 (q.2.1 x.2.2.2).2.1 (q.2.1 x.2.2.2).2.2.1 host).before args s = true)
def pm_cok (s : State) (args : Array Value) (own : String) (x : Nat × Value) : Prop := match x.2 with
  | .int v => (Cond.constant own x.1 v).before args s = true
  | .float v => (Cond.constantFloat own x.1 v).before args s = true
  | .long v => (Cond.constantLong own x.1 v).before args s = true
  | _ => False
/-- what holds throughout a body -/
def pm_X (p : Program) (s : State) (m : MethodId) (args : Array Value) (c : Code) (cc : ByteArray) (own : String) (Ts : List Cond) (I : pm_I) : Prop :=
  p.tables.exec = Jvm.exec ∧ c.code = cc ∧ s.vm.findClass own = some m.cls ∧ (∀ w ∈ Ts, w.before args s = true) ∧ (∀ (ci : Nat) (q : vw_C), vwCl[ci]? = some q → ∀ w ∈ u_ws q.1 q.2.1 q.2.2, w ∈ Ts) ∧
  (∀ x ∈ I.1, decode cc x.1 = .ok x.2) ∧ (∀ x ∈ I.2.1, pm_fok s args own x) ∧ (∀ x ∈ I.2.2, pm_cok s args own x)
def pm_W (p : Program) (l : Launch) (e : Env) (R : Room) (s : State) (m : MethodId) (args : Array Value) (below : List Frame) (meth : Method) (c : Code) (nL : Nat) (D : va_G) (A : Nat → Prop) (ad : Nat → Nat) (tI : Nat → ClassId) (cells slots : Nat) (Q : State → Prop) (C : pm_C) : Prop :=
  ∀ (H : Heap) (locs : List Loc) (ls : Array Slot), va_P D vwCl (pm_w ad tI C.2.2.2) H → va_D A (pm_w ad tI C.2.2.2) → va_S A s.heap H locs → pm_L ad nL ls C.2.1 → pm_K D vwCl tI C.2.2.2 s → W p l e R s m args below meth c H locs cells slots Q (F0 m C.1 ls (C.2.2.1.map (pm_v ad)))
variable {p : Program} {l : Launch} {e : Env} {R : Room} {s : State} {m : MethodId} {args : Array Value} {below : List Frame} {meth : Method} {c : Code} {cells slots : Nat} {Q : State → Prop} {cc : ByteArray} {ad : Nat → Nat} {tI : Nat → ClassId} {nL : Nat} {D : va_G} {A : Nat → Prop} {own : String} {Ts : List Cond} {I : pm_I}
theorem pm_ld_ok {H : Heap} {locs : List Loc} {ls : Array Slot} {pc : Nat} {rest : List Value} (hx : p.tables.exec = Jvm.exec) (hb : c.code = cc) {i : Instr} {ix len : Nat} {v : Value} (h : pm_ldi i = some (pm_kd v, ix, len)) (hl : ls[ix]? = some (.val (pm_v ad v))) (hdg : decode cc pc = .ok (i, len))
    (k : W p l e R s m args below meth c H locs cells slots Q (F0 m (pc + len) ls (pm_v ad v :: rest))) : W p l e R s m args below meth c H locs cells slots Q (F0 m pc ls rest) := by
  unfold pm_ldi at h
  split at h <;> cases v <;> cases h
  · exact lv_iload hx hb hdg hl k
  · exact lv_iload_n hx hb hdg rfl hl k
  · exact lv_lload hx hb hdg hl k
  · exact lv_lload_n hx hb hdg rfl hl k
  · exact lv_fload hx hb hdg hl k
  · exact lv_fload_n hx hb hdg rfl hl k
  · exact lv_dload hx hb hdg hl k
  · exact lv_dload_n hx hb hdg rfl hl k
  · exact lv_aload hx hb hdg hl k
  · exact lv_aload_n hx hb hdg rfl hl k
theorem pm_st_ok {H : Heap} {locs : List Loc} {ls : Array Slot} {L : List (Option Value)} {pc : Nat} {rest : List Value} (hx : p.tables.exec = Jvm.exec) (hb : c.code = cc) {i : Instr} {ix len : Nat} {v : Value} (h : pm_sti i = some (pm_kd v, ix, len)) (hL : pm_L ad nL ls L) (hn : ix + v.category ≤ nL) (hdg : decode cc pc = .ok (i, len))
    (k : ∀ ls' : Array Slot, pm_L ad nL ls' (if v.category = 1 then pm_s1 L ix v else pm_s2 L ix v) → W p l e R s m args below meth c H locs cells slots Q (F0 m (pc + len) ls' rest)) : W p l e R s m args below meth c H locs cells slots Q (F0 m pc ls (pm_v ad v :: rest)) := by
  unfold pm_sti at h
  split at h <;> cases v <;> cases h
  · exact lv_istore hx hb hdg hL.has hn rfl (fun ls' h' => k ls' (hL.s1 h'))
  · exact lv_istore_n hx hb hdg rfl hL.has hn rfl (fun ls' h' => k ls' (hL.s1 h'))
  · exact lv_lstore hx hb hdg hL.has hn rfl (fun ls' h' => k ls' (hL.s2 h'))
  · exact lv_lstore_n hx hb hdg rfl hL.has hn rfl (fun ls' h' => k ls' (hL.s2 h'))
  · exact lv_fstore hx hb hdg hL.has hn rfl (fun ls' h' => k ls' (hL.s1 h'))
  · exact lv_fstore_n hx hb hdg rfl hL.has hn rfl (fun ls' h' => k ls' (hL.s1 h'))
  · exact lv_astore hx hb hdg hL.has hn rfl (fun ls' h' => k ls' (hL.s1 h'))
  · exact lv_astore_n hx hb hdg rfl hL.has hn rfl (fun ls' h' => k ls' (hL.s1 h'))
/-- what a result of pm_do asks -/
def pm_ask (K : pm_C → Prop) (r : pm_R) (C : pm_C) : Prop := match r with
  | .inl _ => K C
  | .inr (.inl C') => K C'
  | .inr (.inr (.inl (g, C'))) => g ∧ K C'
  | .inr (.inr (.inr (q, A, B))) => (q → K A) ∧ (¬ q → K B)
theorem pm_put_ok (X : pm_X p s m args c cc own Ts I) {ix ci k h pc : Nat} {b : Bool} {L : List (Option Value)} {v : Value} {r fs : List Value} {w : List pm_E} (hf : pm_find I.2.1 ix = some (b, ci, k)) (hw : pm_nth w h = some (.inr (ci, fs))) (h6 : pm_fit ci k v = true) (h7 : Nat.blt k fs.length = true) (hdg : decode cc pc = .ok (.putfield ix, 3))
    (K : pm_W p l e R s m args below meth c nL D A ad tI cells slots Q (pc + 3, L, r, w.set h (.inr (ci, fs.set k v)))) : pm_W p l e R s m args below meth c nL D A ad tI cells slots Q (pc, L, v :: .ref h :: r, w) := by
  obtain ⟨hx, hb, hown, hts, hin, hcd, hfd, hcs⟩ := X
  rw [pm_nth_eq] at hw
  obtain ⟨⟨C9, T9, N9⟩, hq, hkN, hlink⟩ := hfd _ (pm_find_mem _ _ _ hf)
  dsimp only at hq hkN hlink
  obtain ⟨hty, hnm⟩ := pm_ty_ok _ _ hq
  dsimp only at hty hnm
  have h8 : (T9 k).2.2.2 = false ∧ narrow (pm_ty ci k) (pm_v ad v) = pm_v ad v ∧ fits (pm_ty ci k) (pm_v ad v) = true := by
    unfold pm_fit at h6
    rw [pm_nth_eq, hq] at h6
    dsimp only at h6
    split at h6
    · cases h6
    · rename_i hfin
      refine ⟨hfin, ?_⟩
      split at h6
      · rename_i ht; rw [ht]; exact ⟨rfl, rfl⟩
      · rename_i ht; rw [ht]; exact ⟨rfl, rfl⟩
      · cases h6
  intro H locs ls hP hD hS hL hK
  have key : ∀ (H1 : Heap) (locs1 : List Loc), va_P D vwCl ((pm_w ad tI w).set h (ad h, .inr (ci, (List.map (pm_v ad) fs).set k (pm_v ad v)))) H1 → va_D A ((pm_w ad tI w).set h (ad h, .inr (ci, (List.map (pm_v ad) fs).set k (pm_v ad v)))) → va_S A s.heap H1 locs1 → W p l e R s m args below meth c H1 locs1 cells slots Q (F0 m (pc + 3) ls (List.map (pm_v ad) r)) := fun H1 locs1 a1 a2 a3 => by
    rw [← List.map_set] at a1 a2
    exact K H1 locs1 ls (by rw [pm_w_set]; exact a1) (by rw [pm_w_set]; exact a2) a3 hL hK.setO
  have hlen : k < (List.map (pm_v ad) fs).length := by rw [List.length_map]; exact Nat.blt_eq.mp h7
  rcases hlink with hlink | ⟨host, hlink⟩
  · exact va_put hx hb hts (hin _ _ hq) (pm_ty ci) hty hnm hown hK.obj hP hD hS h (pm_w_get hw) hq k hkN hlink (fun _ z => z) h8.1 (hty _ hkN) h8.2.1 h8.2.2 hlen hdg key
  · exact va_putN hx hb hts (hin _ _ hq) (pm_ty ci) hty hnm hown hK.obj hP hD hS h (pm_w_get hw) hq k hkN hlink (fun _ z => z) h8.1 (hty _ hkN) h8.2.1 h8.2.2 hlen hdg key
set_option maxHeartbeats 2000000 in
theorem pm_mem_ok (X : pm_X p s m args c cc own Ts I) {i : Instr} {n pc : Nat} {L : List (Option Value)} {st : List Value} {w : List pm_E} (hdg : decode cc pc = .ok (i, n))
    (h : pm_ask (pm_W p l e R s m args below meth c nL D A ad tI cells slots Q) (pm_mem I i n pc L st w) (pc, L, st, w)) : pm_W p l e R s m args below meth c nL D A ad tI cells slots Q (pc, L, st, w) := by
  obtain ⟨hx, hb, hown, hts, hin, hcd, hfd, hcs⟩ := X
  unfold pm_mem at h
  split at h
  · -- iinc
    split at h
    · rename_i hl
      split at h
      · rename_i h3
        have h3 := Nat.eq_of_beq_eq_true h3
        subst h3
        intro H locs ls hP hD hS hL hK
        rw [pm_nth_eq] at hl
        have hm := pm_lv_mem (ad := ad) |>.mpr ⟨_, hl, rfl⟩
        obtain ⟨k0, hk0⟩ := List.getElem?_of_mem hm
        exact lv_iinc hx hb hdg hL.has hk0 (by rw [pm_k_eq]) (by rw [← hL.1]; exact (List.getElem?_eq_some_iff.mp hl).1) rfl (fun ls' h' => h H locs ls' hP hD hS (hL.s1 (v := .int _) h') hK)
      · exact h
    · exact h
  · -- goto
    split at h
    · rename_i h3
      simp only [Bool.and_eq_true, decide_eq_true_eq] at h3
      have h4 := Nat.eq_of_beq_eq_true h3.1
      subst h4
      intro H locs ls hP hD hS hL hK
      exact lv_goto hx hb hdg (Int.toNat_of_nonneg h3.2).symm (h H locs ls hP hD hS hL hK)
    · exact h
  · -- getfield
    split at h
    · rename_i hf hw
      split at h
      · rename_i h3 hv
        simp only [Bool.and_eq_true] at h3
        have h4 := Nat.eq_of_beq_eq_true h3.1
        have h5 := Nat.eq_of_beq_eq_true h3.2
        subst h4; subst h5
        rw [pm_nth_eq] at hw hv
        obtain ⟨⟨C9, T9, N9⟩, hq, hkN, hlink⟩ := hfd _ (pm_find_mem _ _ _ hf)
        intro H locs ls hP hD hS hL hK
        have hv' := by
          have := congrArg (Option.map (pm_v ad)) hv
          rwa [← List.getElem?_map] at this
        rcases hlink with hlink | ⟨host, hlink⟩
        · exact va_get hx hb hts (hin _ _ hq) hown hK.obj hP _ (pm_w_get hw) hq _ hkN hlink (fun _ z => z) hv' hdg (h H locs ls hP hD hS hL hK)
        · exact va_getN hx hb hts (hin _ _ hq) hown hK.obj hP _ (pm_w_get hw) hq _ hkN hlink (fun _ z => z) hv' hdg (h H locs ls hP hD hS hL hK)
      · exact h
    · exact h
  · -- putfield
    split at h
    · rename_i hf hw
      split at h
      · rename_i h3
        simp only [Bool.and_eq_true] at h3
        obtain ⟨⟨⟨h4, h5⟩, h6⟩, h7⟩ := h3
        have h4 := Nat.eq_of_beq_eq_true h4
        have h5 := Nat.eq_of_beq_eq_true h5
        subst h4; subst h5
        exact pm_put_ok ⟨hx, hb, hown, hts, hin, hcd, hfd, hcs⟩ hf hw h6 h7 hdg h
      · exact h
    · exact h
  · -- ldc
    split at h
    · rename_i hc
      split at h
      · rename_i h3
        have h3 := Nat.eq_of_beq_eq_true h3
        subst h3
        intro H locs ls hP hD hS hL hK
        exact lv_ldc hx hb hown (hcs _ (pm_find_mem _ _ _ hc)) hdg (h H locs ls hP hD hS hL hK)
      · exact h
    · rename_i hc
      split at h
      · rename_i h3
        have h3 := Nat.eq_of_beq_eq_true h3
        subst h3
        intro H locs ls hP hD hS hL hK
        exact lv_ldcf hx hb hown (hcs _ (pm_find_mem _ _ _ hc)) hdg (h H locs ls hP hD hS hL hK)
      · exact h
    · exact h
  · -- ldc_w
    split at h
    · rename_i hc
      split at h
      · rename_i h3
        have h3 := Nat.eq_of_beq_eq_true h3
        subst h3
        intro H locs ls hP hD hS hL hK
        exact lv_ldcw hx hb hown (hcs _ (pm_find_mem _ _ _ hc)) hdg (h H locs ls hP hD hS hL hK)
      · exact h
    · exact h
  · -- arraylength
    split at h
    · rename_i hw
      split at h
      · rename_i h3
        have h3 := Nat.eq_of_beq_eq_true h3
        subst h3
        rw [pm_nth_eq] at hw
        intro H locs ls hP hD hS hL hK
        exact va_alen hx hb (hK.at hw) hP _ 0 (pm_w_get hw) rfl rfl hdg (h H locs ls hP hD hS hL hK)
      · exact h
    · exact h
  · -- ldc2_w
    split at h
    · rename_i hc
      split at h
      · rename_i h3
        have h3 := Nat.eq_of_beq_eq_true h3
        subst h3
        intro H locs ls hP hD hS hL hK
        exact lv_ldc2 hx hb hown (hcs _ (pm_find_mem _ _ _ hc)) hdg (h H locs ls hP hD hS hL hK)
      · exact h
    · exact h
  · -- iaload
    split at h
    · rename_i hw
      split at h
      · rename_i h3
        have h3 := Nat.eq_of_beq_eq_true h3
        subst h3
        rw [pm_nth_eq] at hw
        intro H locs ls hP hD hS hL hK
        exact va_iald hx hb (hK.at hw) hP _ 0 (pm_w_get hw) rfl h.1 hdg (h.2 H locs ls hP hD hS hL hK)
      · exact h
    · exact h
  · -- laload
    split at h
    · rename_i hw
      split at h
      · rename_i h3
        have h3 := Nat.eq_of_beq_eq_true h3
        subst h3
        rw [pm_nth_eq] at hw
        intro H locs ls hP hD hS hL hK
        exact va_lald hx hb (hK.at hw) hP _ 0 (pm_w_get hw) rfl h.1 hdg (h.2 H locs ls hP hD hS hL hK)
      · exact h
    · exact h
  · -- caload
    split at h
    · rename_i hw
      split at h
      · rename_i h3
        have h3 := Nat.eq_of_beq_eq_true h3
        subst h3
        rw [pm_nth_eq] at hw
        intro H locs ls hP hD hS hL hK
        exact va_cald hx hb (hK.at hw) hP _ 0 (pm_w_get hw) rfl h.1 hdg (h.2 H locs ls hP hD hS hL hK)
      · exact h
    · exact h
  · -- baload
    split at h
    · rename_i hw
      split at h
      · rename_i h3
        have h3 := Nat.eq_of_beq_eq_true h3
        subst h3
        rw [pm_nth_eq] at hw
        intro H locs ls hP hD hS hL hK
        exact va_zald hx hb (hK.at hw) hP _ 0 (pm_w_get hw) rfl h.1 hdg (h.2 H locs ls hP hD hS hL hK)
      · exact h
    · exact h
  · -- daload
    split at h
    · rename_i hw
      split at h
      · rename_i h3
        have h3 := Nat.eq_of_beq_eq_true h3
        subst h3
        rw [pm_nth_eq] at hw
        intro H locs ls hP hD hS hL hK
        exact va_dald hx hb (hK.at hw) hP _ 0 (pm_w_get hw) rfl h.1 hdg (h.2 H locs ls hP hD hS hL hK)
      · exact h
    · exact h
  · -- iastore
    split at h
    · rename_i hw
      split at h
      · rename_i h3
        have h3 := Nat.eq_of_beq_eq_true h3
        subst h3
        rw [pm_nth_eq] at hw
        intro H locs ls hP hD hS hL hK
        exact va_iast hx hb (hK.at hw) hP hD hS _ 0 (pm_w_get hw) rfl h.1 hdg (fun H1 locs1 a1 a2 a3 => h.2 H1 locs1 ls (by rw [pm_w_set]; exact a1) (by rw [pm_w_set]; exact a2) a3 hL (hK.setA hw))
      · exact h
    · exact h
  · -- lastore
    split at h
    · rename_i hw
      split at h
      · rename_i h3
        have h3 := Nat.eq_of_beq_eq_true h3
        subst h3
        rw [pm_nth_eq] at hw
        intro H locs ls hP hD hS hL hK
        exact va_last hx hb (hK.at hw) hP hD hS _ 0 (pm_w_get hw) rfl h.1 hdg (fun H1 locs1 a1 a2 a3 => h.2 H1 locs1 ls (by rw [pm_w_set]; exact a1) (by rw [pm_w_set]; exact a2) a3 hL (hK.setA hw))
      · exact h
    · exact h
  · -- castore
    split at h
    · rename_i hw
      split at h
      · rename_i h3
        have h3 := Nat.eq_of_beq_eq_true h3
        subst h3
        rw [pm_nth_eq] at hw
        intro H locs ls hP hD hS hL hK
        exact va_cast hx hb (hK.at hw) hP hD hS _ 0 (pm_w_get hw) rfl h.1 hdg (fun H1 locs1 a1 a2 a3 => h.2 H1 locs1 ls (by rw [pm_w_set]; exact a1) (by rw [pm_w_set]; exact a2) a3 hL (hK.setA hw))
      · exact h
    · exact h
  · -- bastore
    split at h
    · rename_i hw
      split at h
      · rename_i h3
        have h3 := Nat.eq_of_beq_eq_true h3
        subst h3
        rw [pm_nth_eq] at hw
        intro H locs ls hP hD hS hL hK
        exact va_zast hx hb (hK.at hw) hP hD hS _ 0 (pm_w_get hw) rfl h.1 hdg (fun H1 locs1 a1 a2 a3 => h.2 H1 locs1 ls (by rw [pm_w_set]; exact a1) (by rw [pm_w_set]; exact a2) a3 hL (hK.setA hw))
      · exact h
    · exact h
  · -- dastore
    split at h
    · rename_i hw
      split at h
      · rename_i h3
        have h3 := Nat.eq_of_beq_eq_true h3
        subst h3
        rw [pm_nth_eq] at hw
        intro H locs ls hP hD hS hL hK
        exact va_dast hx hb (hK.at hw) hP hD hS _ 0 (pm_w_get hw) rfl h.1 hdg (fun H1 locs1 a1 a2 a3 => h.2 H1 locs1 ls (by rw [pm_w_set]; exact a1) (by rw [pm_w_set]; exact a2) a3 hL (hK.setA hw))
      · exact h
    · exact h
  · exact h
end PMC
