section PMB
/-- a whole constant -/
def pm_k (n : Int) : Int32 := match n with
  | .ofNat k => nI k
  | .negSucc k => -nI (k + 1)
theorem pm_k_eq (n : Int) : Int32.ofInt n = pm_k n := by
  cases n with
  | ofNat k => exact Int32.ofInt_eq_ofNat
  | negSucc k =>
    show Int32.ofInt (Int.negSucc k) = -nI (k + 1)
    rw [Int.negSucc_eq, Int32.ofInt_neg]
    rfl
theorem pm_k8 (n : Int) (h1 : -128 ≤ n) (h2 : n < 128) : (Int8.ofInt n).toInt32 = pm_k n := by
  rw [← pm_k_eq]
  apply Int32.toInt_inj.mp
  rw [Int8.toInt_toInt32, Int8.toInt_ofInt_of_le (by omega) (by omega), Int32.toInt_ofInt_of_le (by omega) (by omega)]
theorem pm_k16 (n : Int) (h1 : -32768 ≤ n) (h2 : n < 32768) : (Int16.ofInt n).toInt32 = pm_k n := by
  rw [← pm_k_eq]
  apply Int32.toInt_inj.mp
  rw [Int16.toInt_toInt32, Int16.toInt_ofInt_of_le (by omega) (by omega), Int32.toInt_ofInt_of_le (by omega) (by omega)]
def pm_stk (i : Instr) (st : List Value) : Option (Nat × List Value) :=
  match i, st with
  | .iconst n, r => some (1, .int (pm_k n) :: r)
  | .lconst n, r => some (1, .long (lN n.val) :: r)
  | .iadd, .int y :: .int x :: r => some (1, .int (x + y) :: r)
  | .isub, .int y :: .int x :: r => some (1, .int (x - y) :: r)
  | .imul, .int y :: .int x :: r => some (1, .int (x * y) :: r)
  | .iand, .int y :: .int x :: r => some (1, .int (x &&& y) :: r)
  | .ior, .int y :: .int x :: r => some (1, .int (x ||| y) :: r)
  | .ixor, .int y :: .int x :: r => some (1, .int (x ^^^ y) :: r)
  | .ishl, .int y :: .int x :: r => some (1, .int (x <<< (y &&& 31)) :: r)
  | .ishr, .int y :: .int x :: r => some (1, .int (x >>> (y &&& 31)) :: r)
  | .iushr, .int y :: .int x :: r => some (1, .int ((x.toUInt32 >>> (y.toUInt32 &&& Int32.toUInt32 31)).toInt32) :: r)
  | .ladd, .long y :: .long x :: r => some (1, .long (x + y) :: r)
  | .lmul, .long y :: .long x :: r => some (1, .long (x * y) :: r)
  | .land, .long y :: .long x :: r => some (1, .long (x &&& y) :: r)
  | .lor, .long y :: .long x :: r => some (1, .long (x ||| y) :: r)
  | .lxor, .long y :: .long x :: r => some (1, .long (x ^^^ y) :: r)
  | .lshl, .int y :: .long x :: r => some (1, .long (x <<< (y.toInt64 &&& 63)) :: r)
  | .lushr, .int y :: .long x :: r => some (1, .long ((x.toUInt64 >>> (y.toInt64.toUInt64 &&& Int64.toUInt64 63)).toInt64) :: r)
  | .lcmp, .long y :: .long x :: r => some (1, .int (lg_cmp x y) :: r)
  | .i2l, .int x :: r => some (1, .long x.toInt64 :: r)
  | .l2i, .long x :: r => some (1, .int x.toInt32 :: r)
  | .i2c, .int x :: r => some (1, .int (x.toUInt32 % 65536).toInt32 :: r)
  | .i2f, .int x :: r => some (1, .float (FP.i2f x) :: r)
  | .fcmp op, .float y :: .float x :: r => some (1, .int (Op.cmpValue (FP.fcmp x y) op) :: r)
  | .dcmp op, .double y :: .double x :: r => some (1, .int (Op.cmpValue (FP.dcmp x y) op) :: r)
  | _, _ => none
def pm_stk2 (i : Instr) (st : List Value) : Option (Nat × List Value) :=
  match i with
  | .bipush n => match decide (-128 ≤ n) && decide (n < 128) with
    | true => some (2, .int (pm_k n) :: st)
    | false => none
  | .sipush n => match decide (-32768 ≤ n) && decide (n < 32768) with
    | true => some (3, .int (pm_k n) :: st)
    | false => none
  | .fconst n => match n.val with
    | 0 => some (1, .float FP.fconst0 :: st)
    | 1 => some (1, .float FP.fconst1 :: st)
    | _ => none
  | .dup => match st with
    | a :: r => match Nat.beq a.category 1 with
      | true => some (1, a :: a :: r)
      | false => none
    | _ => none
  | .dup2 => match st with
    | a :: b :: r => match Nat.beq a.category 1 && Nat.beq b.category 1 with
      | true => some (1, a :: b :: a :: b :: r)
      | false => none
    | _ => none
  | _ => none
/-- with a guard -/
def pm_gst (i : Instr) (st : List Value) : Option (Prop × Nat × List Value) :=
  match i, st with
  | .idiv, .int y :: .int x :: r => some (¬ y = 0, 1, .int (x / y) :: r)
  | .irem, .int y :: .int x :: r => some (¬ y = 0, 1, .int (x - x / y * y) :: r)
  | .fdiv, .float y :: .float x :: r => some (vf_n32 (FP.fdiv x y), 1, .float (FP.fdiv x y) :: r)
  | .fmul, .float y :: .float x :: r => some (vf_n32 (FP.fmul x y), 1, .float (FP.fmul x y) :: r)
  | .f2d, .float x :: r => some (vf_n64 (FP.f2d x), 1, .double (FP.f2d x) :: r)
  | _, _ => none
/-- a branch: its condition, its offset, the stack behind it -/
def pm_br (i : Instr) (st : List Value) : Option (Prop × Int × List Value) :=
  match i, st with
  | .if_icmp q off, .int y :: .int x :: r => some (match q with
    | .eq => x = y
    | .ne => ¬ x = y
    | .lt => x < y
    | .ge => y ≤ x
    | .gt => y < x
    | .le => x ≤ y, off, r)
  | .ifCond q off, .int x :: r => some (match q with
    | .eq => x = 0
    | .ne => ¬ x = 0
    | .lt => x < 0
    | .ge => 0 ≤ x
    | .gt => 0 < x
    | .le => x ≤ 0, off, r)
  | _, _ => none
variable {p : Program} {l : Launch} {e : Env} {R : Room} {s : State} {m : MethodId} {args : Array Value} {below : List Frame} {meth : Method} {c : Code} {H : Heap} {locs : List Loc} {cells slots : Nat} {Q : State → Prop} {cc : ByteArray} {pc : Nat} {ls : Array Slot} {ad : Nat → Nat}
set_option maxHeartbeats 1000000 in
theorem pm_stk_ok (hx : p.tables.exec = Jvm.exec) (hb : c.code = cc) {i : Instr} {n : Nat} {st st' : List Value} (h : pm_stk i st = some (n, st')) (hdg : decode cc pc = .ok (i, n))
    (k : W p l e R s m args below meth c H locs cells slots Q (F0 m (pc + n) ls (st'.map (pm_v ad)))) : W p l e R s m args below meth c H locs cells slots Q (F0 m pc ls (st.map (pm_v ad))) := by
  unfold pm_stk at h
  split at h
  · cases h; exact lv_iconst hx hb hdg (pm_k_eq _) k
  · cases h; exact lv_lconst hx hb hdg rfl k
  · cases h; exact lv_iadd hx hb hdg k
  · cases h; exact lv_isub hx hb hdg k
  · cases h; exact lv_imul hx hb hdg k
  · cases h; exact lv_iand hx hb hdg k
  · cases h; exact lv_ior hx hb hdg k
  · cases h; exact lv_ixor hx hb hdg k
  · cases h; exact lv_ishl hx hb hdg k
  · cases h; exact lv_ishr hx hb hdg k
  · cases h; exact lv_iushr hx hb hdg rfl k
  · cases h; exact lv_ladd hx hb hdg k
  · cases h; exact lv_lmul hx hb hdg k
  · cases h; exact lv_land hx hb hdg k
  · cases h; exact lv_lor hx hb hdg k
  · cases h; exact lv_lxor hx hb hdg k
  · cases h; exact lv_lshl hx hb hdg rfl k
  · cases h; exact lv_lushr hx hb hdg rfl k
  · cases h; exact W.lcmp hx hb hdg k
  · cases h; exact lv_i2l hx hb hdg rfl k
  · cases h; exact lv_l2i hx hb hdg rfl k
  · cases h; exact lv_i2c hx hb hdg rfl k
  · cases h; exact lv_i2f hx hb hdg k
  · cases h; exact lv_fcmp hx hb hdg k
  · cases h; exact lv_dcmp hx hb hdg k
  · cases h
set_option maxHeartbeats 1000000 in
theorem pm_stk2_ok (hx : p.tables.exec = Jvm.exec) (hb : c.code = cc) {i : Instr} {n : Nat} {st st' : List Value} (h : pm_stk2 i st = some (n, st')) (hdg : decode cc pc = .ok (i, n))
    (k : W p l e R s m args below meth c H locs cells slots Q (F0 m (pc + n) ls (st'.map (pm_v ad)))) : W p l e R s m args below meth c H locs cells slots Q (F0 m pc ls (st.map (pm_v ad))) := by
  unfold pm_stk2 at h
  split at h
  · split at h
    · rename_i hq
      cases h
      simp only [Bool.and_eq_true, decide_eq_true_eq] at hq
      exact lv_bipush hx hb hdg (pm_k8 _ hq.1 hq.2) k
    · cases h
  · split at h
    · rename_i hq
      cases h
      simp only [Bool.and_eq_true, decide_eq_true_eq] at hq
      exact lv_sipush hx hb hdg (pm_k16 _ hq.1 hq.2) k
    · cases h
  · rename_i f
    split at h
    · rename_i hq
      cases h
      have hf : f = 0 := Fin.ext hq
      subst hf
      exact lv_fconst0 hx hb hdg k
    · rename_i hq
      cases h
      have hf : f = 1 := Fin.ext hq
      subst hf
      exact lv_fconst1 hx hb hdg k
    · cases h
  · split at h
    · split at h
      · rename_i hq
        cases h
        exact lv_dup hx hb hdg (by rw [pm_cat]; exact Nat.eq_of_beq_eq_true hq) k
      · cases h
    · cases h
  · split at h
    · split at h
      · rename_i hq
        cases h
        simp only [Bool.and_eq_true] at hq
        exact lv_dup2_11 hx hb hdg (by rw [pm_cat]; exact Nat.eq_of_beq_eq_true hq.1) (by rw [pm_cat]; exact Nat.eq_of_beq_eq_true hq.2) k
      · cases h
    · cases h
  · cases h
theorem pm_gst_ok (hx : p.tables.exec = Jvm.exec) (hb : c.code = cc) {i : Instr} {n : Nat} {st st' : List Value} {g : Prop} (h : pm_gst i st = some (g, n, st')) (hg : g) (hdg : decode cc pc = .ok (i, n))
    (k : W p l e R s m args below meth c H locs cells slots Q (F0 m (pc + n) ls (st'.map (pm_v ad)))) : W p l e R s m args below meth c H locs cells slots Q (F0 m pc ls (st.map (pm_v ad))) := by
  unfold pm_gst at h
  split at h
  · cases h; exact lv_idiv hx hb hdg hg k
  · cases h; exact lv_irem hx hb hdg hg k
  · cases h; exact lv_fdiv hx hb hdg hg k
  · cases h; exact lv_fmul hx hb hdg hg k
  · cases h; exact lv_f2d hx hb hdg hg k
  · cases h
theorem pm_br_ok (hx : p.tables.exec = Jvm.exec) (hb : c.code = cc) {i : Instr} {st st' : List Value} {q : Prop} {off : Int} {tgt : Nat} (h : pm_br i st = some (q, off, st')) (ht : (pc : Int) + off = (tgt : Int)) (hdg : decode cc pc = .ok (i, 3))
    (kt : q → W p l e R s m args below meth c H locs cells slots Q (F0 m tgt ls (st'.map (pm_v ad)))) (kf : ¬ q → W p l e R s m args below meth c H locs cells slots Q (F0 m (pc + 3) ls (st'.map (pm_v ad)))) : W p l e R s m args below meth c H locs cells slots Q (F0 m pc ls (st.map (pm_v ad))) := by
  unfold pm_br at h
  split at h
  · rename_i cnd off' y x r
    cases cnd <;> cases h
    · exact lv_icmp_eq hx hb hdg ht kt kf
    · exact lv_icmp_ne hx hb hdg ht kt (fun z => kf (fun w => w z))
    · exact lv_icmp_lt hx hb hdg ht kt kf
    · exact lv_icmp_ge hx hb hdg ht kt kf
    · exact lv_icmp_gt hx hb hdg ht kt kf
    · exact lv_icmp_le hx hb hdg ht kt kf
  · rename_i cnd off' x r
    cases cnd <;> cases h
    · exact lv_if_eq hx hb hdg ht kt kf
    · exact lv_if_ne hx hb hdg ht kt (fun z => kf (fun w => w z))
    · exact lv_if_lt hx hb hdg ht kt kf
    · exact lv_if_ge hx hb hdg ht kt kf
    · exact lv_if_gt hx hb hdg ht kt kf
    · exact lv_if_le hx hb hdg ht kt kf
  · cases h
end PMB
