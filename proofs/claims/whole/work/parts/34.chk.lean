/-! what is checked of the code, once, by the kernel -/
def mk_dl (bytes : ByteArray) (pc : Nat) (ins : Instr) (len : Nat) : Bool := match decode bytes pc with
  | .ok (i, k) => decide (i = ins) && Nat.beq k len
  | .error _ => false
theorem mk_dl_sp {bytes : ByteArray} {pc : Nat} {ins : Instr} {len : Nat} (h : mk_dl bytes pc ins len = true) : decode bytes pc = .ok (ins, len) := by
  unfold mk_dl at h
  split at h
  · rename_i i k e
    simp only [Bool.and_eq_true, decide_eq_true_eq, Nat.beq_eq] at h
    rw [e, h.1, h.2]
  · cases h
def mk_di (bytes : ByteArray) (pc : Nat) (ins : Instr) : Bool := match decode bytes pc with
  | .ok (i, _) => decide (i = ins)
  | .error _ => false
theorem mk_di_sp {bytes : ByteArray} {pc : Nat} {ins : Instr} (h : mk_di bytes pc ins = true) : ∃ len, decode bytes pc = .ok (ins, len) := by
  unfold mk_di at h
  split at h
  · rename_i i k e
    simp only [decide_eq_true_eq] at h
    exact ⟨k, by rw [e, h]⟩
  · cases h
def mk_pc (y l : Nat) : Nat := match (mj_bk mk_PG y l).2 with
  | (pc, _) :: _ => pc
  | [] => 0
def mk_tsw (y pc : Nat) : Int → List Int → List (Int × Nat) → Bool
  | v, o :: os, (w, l) :: sw => decide (w = v) && decide ((pc : Int) + o = (mk_pc y l : Int)) && mk_tsw y pc (v + 1) os sw
  | _, [], [] => true
  | _, _, _ => false
def mk_lsw (y pc : Nat) : List (Int × Int) → List (Int × Nat) → Bool
  | (v, o) :: ps, (w, l) :: sw => decide (w = v) && decide ((pc : Int) + o = (mk_pc y l : Int)) && mk_lsw y pc ps sw
  | [], [] => true
  | _, _ => false
def mk_rk (k : Nat) (ret : Option FieldType) : Bool := match k with
  | 0 => decide (ret = none)
  | 1 => decide (ret = some .int) || decide (ret = some .boolean)
  | 2 => decide (ret = some .long)
  | _ => false
def mk_cc (own idx a b k kind : Nat) (stat : Bool) : Bool := mk_CL.contains (own, idx, a, kind) && Nat.beq b (mk_mi a).2.2.2.2.2.1 && (mk_mi a).2.2.2.2.2.2 == stat && mk_rk k (mk_mi a).2.2.1
def mk_ck (y own n : Nat) (ret : Option FieldType) (bytes : ByteArray) (q : mj_I) (nx : Nat) : Bool := match q with
  | (pc, ins, a, b, k, sw) => match ins with
    | .nop => Nat.beq (mk_pc y a) pc
    | .goto off => mk_dl bytes pc ins 3 && decide ((pc : Int) + off = (mk_pc y a : Int))
    | .ifCond _ off => mk_dl bytes pc ins 3 && Nat.beq nx (pc + 3) && decide ((pc : Int) + off = (mk_pc y a : Int))
    | .if_icmp _ off => mk_dl bytes pc ins 3 && Nat.beq nx (pc + 3) && decide ((pc : Int) + off = (mk_pc y a : Int))
    | .tableswitch d lo hi offs => mk_di bytes pc ins && decide ((pc : Int) + d = (mk_pc y a : Int)) && mk_tsw y pc lo offs.toList sw && decide (hi = lo + offs.toList.length - 1) && decide (-2147483648 ≤ lo ∧ hi < 2147483648)
    | .lookupswitch d ps => mk_di bytes pc ins && decide ((pc : Int) + d = (mk_pc y a : Int)) && mk_lsw y pc ps.toList sw && (ps.toList.zip (ps.toList.drop 1)).all (fun (a, next) => a.1 < next.1)
    | .ireturn => mk_dl bytes pc ins 1 && (match k with | 0 => decide (ret = some .int) | _ => decide (ret = some .boolean))
    | .lreturn => mk_dl bytes pc ins 1 && decide (ret = some .long)
    | .return_ => mk_dl bytes pc ins 1 && decide (ret = none)
    | .invokevirtual idx => mk_dl bytes pc ins 3 && Nat.beq nx (pc + 3) && (match k with | 7 => Nat.beq own 5 && Nat.beq idx 98 | _ => mk_cc own idx a b k 0 false)
    | .invokestatic idx => mk_dl bytes pc ins 3 && Nat.beq nx (pc + 3) && (match k with | 5 => (Nat.beq own 0 && Nat.beq idx 32) || (Nat.beq own 1 && Nat.beq idx 150) | 6 => Nat.beq own 7 && Nat.beq idx 326 | _ => mk_cc own idx a b k 1 true || (mk_cc own idx a b k 2 true && mk_NL.contains (own, idx, a)))
    | .iconst v => mk_dl bytes pc ins 1 && Nat.beq nx (pc + 1) && decide (-2147483648 ≤ v ∧ v < 2147483648)
    | .bipush v => mk_dl bytes pc ins 2 && Nat.beq nx (pc + 2) && decide (-128 ≤ v ∧ v < 128)
    | .sipush v => mk_dl bytes pc ins 3 && Nat.beq nx (pc + 3) && decide (-32768 ≤ v ∧ v < 32768)
    | .lconst _ => mk_dl bytes pc ins 1 && Nat.beq nx (pc + 1)
    | .iload i => mk_dl bytes pc ins 2 && Nat.beq nx (pc + 2) && Nat.beq i a
    | .iload_n i => mk_dl bytes pc ins 1 && Nat.beq nx (pc + 1) && Nat.beq i.val a
    | .lload i => mk_dl bytes pc ins 2 && Nat.beq nx (pc + 2) && Nat.beq i a
    | .lload_n i => mk_dl bytes pc ins 1 && Nat.beq nx (pc + 1) && Nat.beq i.val a
    | .aload i => mk_dl bytes pc ins 2 && Nat.beq nx (pc + 2) && Nat.beq i a
    | .aload_n i => mk_dl bytes pc ins 1 && Nat.beq nx (pc + 1) && Nat.beq i.val a
    | .istore i => mk_dl bytes pc ins 2 && Nat.beq nx (pc + 2) && Nat.beq i a && Nat.blt a n
    | .istore_n i => mk_dl bytes pc ins 1 && Nat.beq nx (pc + 1) && Nat.beq i.val a && Nat.blt a n
    | .lstore i => mk_dl bytes pc ins 2 && Nat.beq nx (pc + 2) && Nat.beq i a && Nat.blt (a + 1) n
    | .lstore_n i => mk_dl bytes pc ins 1 && Nat.beq nx (pc + 1) && Nat.beq i.val a && Nat.blt (a + 1) n
    | .astore i => mk_dl bytes pc ins 2 && Nat.beq nx (pc + 2) && Nat.beq i a && Nat.blt a n
    | .astore_n i => mk_dl bytes pc ins 1 && Nat.beq nx (pc + 1) && Nat.beq i.val a && Nat.blt a n
    | .iinc i _ => mk_dl bytes pc ins 3 && Nat.beq nx (pc + 3) && Nat.beq i a && Nat.blt a n
    | .ldc idx => mk_dl bytes pc ins 2 && Nat.beq nx (pc + 2) && (match k with | 0 => mk_KL.contains (own, idx, a, 0) | _ => Nat.beq own 5 && Nat.beq idx 96 && Nat.beq a 63)
    | .ldc_w idx => mk_dl bytes pc ins 3 && Nat.beq nx (pc + 3) && mk_KL.contains (own, idx, a, 0)
    | .ldc2_w idx => mk_dl bytes pc ins 3 && Nat.beq nx (pc + 3) && mk_KL.contains (own, idx, a, 2)
    | .getstatic idx => mk_dl bytes pc ins 3 && Nat.beq nx (pc + 3) && Nat.beq own 0 && Nat.beq idx 24 && Nat.beq a 64
    | .getfield idx => mk_dl bytes pc ins 3 && Nat.beq nx (pc + 3) && mk_FL.contains (own, idx, b, a, k)
    | .putfield idx => mk_dl bytes pc ins 3 && Nat.beq nx (pc + 3) && mk_FL.contains (own, idx, b, a, k) && !(mk_ft b a).2.2.2 && decide ((mk_ft b a).2.2.1 = mk_dz k)
    | _ => mk_dl bytes pc ins 1 && Nat.beq nx (pc + 1)
def mk_ckb (y own n : Nat) (ret : Option FieldType) (bytes : ByteArray) : List mj_I → Bool
  | [] => true
  | q :: r => mk_ck y own n ret bytes q (match r with | (pc, _) :: _ => pc | [] => 0) && mk_ckb y own n ret bytes r
def mk_ckm (y : Nat) : Bool := match mj_nth mk_PG y with
  | some (n, rc, bs) => bs.all (fun q => mk_ckb y (mk_mi y).2.2.2.1 n (mk_mi y).2.2.1 (mk_mi y).2.1 q.2) && Nat.beq n (mk_mi y).2.2.2.2.1 && Nat.beq rc (match (mk_mi y).2.2.2.2.2.2 with | true => 0 | false => (mk_mi y).2.2.2.1 + 1) && Nat.beq (mk_pc y 0) 0 && decide (0 < bs.length)
  | none => false
