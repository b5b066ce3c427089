section
/-! A SMALL MACHINE: ints and longs as Int, references as (sort, instance), memory by sort, instance and place; blocks of instructions; what a block gives, by what its jumps (K) and its calls (C) give. -/
abbrev mj_V : Type := Int ⊕ (Int ⊕ (Nat × Nat))
abbrev mj_L : Type := List (Option mj_V)
abbrev mj_M : Type := Nat → Nat → Nat → Int
abbrev mj_R : Type := Option (Option mj_V × mj_M)
abbrev mj_I : Type := Nat × Instr × Nat × Nat × Nat × List (Int × Nat)
def mj_w (z : Int) : Int := (z + 2147483648) % 4294967296 - 2147483648
def mj_x (z : Int) : Int := (z + 9223372036854775808) % 18446744073709551616 - 9223372036854775808
def mj_nth {α : Type} : List α → Nat → Option α
  | [], _ => none
  | a :: _, 0 => some a
  | _ :: l, n + 1 => mj_nth l n
def mj_set {α : Type} : List α → Nat → α → List α
  | [], _, _ => []
  | _ :: l, 0, x => x :: l
  | a :: l, n + 1, x => a :: mj_set l n x
def mj_up (μ : mj_M) (s i k : Nat) (x : Int) : mj_M := fun s' i' k' => if s' = s ∧ i' = i ∧ k' = k then x else μ s' i' k'
def mj_cpy (μ : mj_M) (s i p s' i' p' n : Nat) : mj_M := fun a b k => if a = s' ∧ b = i' ∧ p' ≤ k ∧ k < p' + n then μ s i (p + (k - p')) else μ a b k
/-- stores: the slot ahead holds no long -/
def mj_sto (ls : mj_L) (a : Nat) (v : mj_V) (κ : mj_L → mj_R) : mj_R := match a with
  | 0 => κ (mj_set ls 0 (some v))
  | j + 1 => match mj_nth ls j with
    | some (some (.inr (.inl _))) => none
    | _ => κ (mj_set ls (j + 1) (some v))
def mj_stl (ls : mj_L) (a : Nat) (v : Int) (κ : mj_L → mj_R) : mj_R := mj_sto ls a (.inr (.inl v)) (fun ls' => κ (mj_set ls' (a + 1) none))
def mj_ldi (ls : mj_L) (a : Nat) (κ : Int → mj_R) : mj_R := match mj_nth ls a with
  | some (some (.inl x)) => κ x
  | _ => none
def mj_ldl (ls : mj_L) (a : Nat) (κ : Int → mj_R) : mj_R := match mj_nth ls a with
  | some (some (.inr (.inl x))) => κ x
  | _ => none
def mj_lda (ls : mj_L) (a : Nat) (κ : Nat → Nat → mj_R) : mj_R := match mj_nth ls a with
  | some (some (.inr (.inr (s, i)))) => κ s i
  | _ => none
def mj_p1 (st : List mj_V) (κ : Int → List mj_V → mj_R) : mj_R := match st with
  | .inl x :: r => κ x r
  | _ => none
def mj_p2 (st : List mj_V) (κ : Int → Int → List mj_V → mj_R) : mj_R := match st with
  | .inl y :: .inl x :: r => κ x y r
  | _ => none
def mj_q1 (st : List mj_V) (κ : Int → List mj_V → mj_R) : mj_R := match st with
  | .inr (.inl x) :: r => κ x r
  | _ => none
def mj_q2 (st : List mj_V) (κ : Int → Int → List mj_V → mj_R) : mj_R := match st with
  | .inr (.inl y) :: .inr (.inl x) :: r => κ x y r
  | _ => none
def mj_a1 (st : List mj_V) (κ : Nat → Nat → List mj_V → mj_R) : mj_R := match st with
  | .inr (.inr (s, i)) :: r => κ s i r
  | _ => none
/-- an index and an array -/
def mj_a2 (st : List mj_V) (κ : Int → Nat → Nat → List mj_V → mj_R) : mj_R := match st with
  | .inl j :: .inr (.inr (s, i)) :: r => κ j s i r
  | _ => none
def mj_bi (ins : Instr) (x y : Int) (κ : Int → mj_R) : mj_R := match ins with
  | .iadd => κ (mj_w (x + y))
  | .isub => κ (mj_w (x - y))
  | .imul => κ (mj_w (x * y))
  | .idiv => if y = 0 then none else κ (mj_w (x.tdiv y))
  | .irem => if y = 0 then none else κ (x.tmod y)
  | .iand => if 0 ≤ x ∧ 0 ≤ y then κ ((x.toNat &&& y.toNat : Nat) : Int) else none
  | .ior => if 0 ≤ x ∧ 0 ≤ y then κ ((x.toNat ||| y.toNat : Nat) : Int) else none
  | .ixor => if 0 ≤ x ∧ 0 ≤ y then κ ((x.toNat ^^^ y.toNat : Nat) : Int) else none
  | .ishl => if 0 ≤ y ∧ y < 32 then κ (mj_w (x * 2 ^ y.toNat)) else none
  | .ishr => if 0 ≤ y ∧ y < 32 then κ (x / 2 ^ y.toNat) else none
  | _ => none
def mj_bl (ins : Instr) (x y : Int) (κ : Int → mj_R) : mj_R := match ins with
  | .ladd => κ (mj_x (x + y))
  | .lsub => κ (mj_x (x - y))
  | .lmul => κ (mj_x (x * y))
  | .ldiv => if y = 0 then none else κ (mj_x (x.tdiv y))
  | .lrem => if y = 0 then none else κ (x.tmod y)
  | _ => none
def mj_ifc (c : Jvm.ClassFile.Cond) (x y : Int) (A B : mj_R) : mj_R := match c with
  | .eq => if x = y then A else B
  | .ne => if x = y then B else A
  | .lt => if x < y then A else B
  | .ge => if x < y then B else A
  | .gt => if y < x then A else B
  | .le => if y < x then B else A
def mj_swk (K : Nat → mj_R) (dflt : Nat) (x : Int) : List (Int × Nat) → mj_R
  | [] => K dflt
  | (v, l) :: r => if x = v then K l else mj_swk K dflt x r
def mj_cat : List mj_V → Nat
  | [] => 0
  | .inr (.inl _) :: r => mj_cat r + 2
  | _ :: r => mj_cat r + 1
def mj_pop : Nat → List mj_V → List mj_V → (List mj_V → List mj_V → mj_R) → mj_R
  | 0, st, acc, κ => κ acc st
  | n + 1, v :: st, acc, κ => mj_pop n st (v :: acc) κ
  | _ + 1, [], _, _ => none
def mj_rV (r : mj_R) (κ : mj_M → mj_R) : mj_R := match r with
  | some (none, μ) => κ μ
  | _ => none
def mj_rI (r : mj_R) (κ : Int → mj_M → mj_R) : mj_R := match r with
  | some (some (.inl x), μ) => κ x μ
  | _ => none
def mj_rL (r : mj_R) (κ : Int → mj_M → mj_R) : mj_R := match r with
  | some (some (.inr (.inl x)), μ) => κ x μ
  | _ => none
/-- the entry's locals -/
def mj_pl : List mj_V → mj_L
  | [] => []
  | .inr (.inl x) :: r => some (.inr (.inl x)) :: none :: mj_pl r
  | v :: r => some v :: mj_pl r
def mj_pad : Nat → mj_L → mj_L
  | 0, _ => []
  | n + 1, [] => none :: mj_pad n []
  | n + 1, v :: l => v :: mj_pad n l
def mj_keep : List Bool → mj_L → mj_L
  | true :: bs, v :: l => v :: mj_keep bs l
  | false :: bs, _ :: l => none :: mj_keep bs l
  | _, _ => []
/-! THE LAYOUT of the two systems' cells: by sort: (kind, info, how many, slots); kind 0: an object, info its class, slots: none a number, (t, o) the reference to sort t, instance + o; 1: ints, info the length; 2: longs; 3: references to sort t, info the length; 4: a text constant or a static table, info its number in mj_tab -/
abbrev mj_S : Type := Nat × Nat × Nat × List (Option (Nat × Nat))
section MJ
variable (LY : List mj_S) (TB : List (List Int)) (CS : List Int)
def mj_srt (s : Nat) : mj_S := match mj_nth LY s with
  | some q => q
  | none => (9, 0, 0, [])
def mj_gf (a b s i : Nat) (st : List mj_V) (μ : mj_M) (κ : List mj_V → mj_R) : mj_R := match mj_srt LY s with
  | (0, ci, _, sl) => match Nat.beq ci b with
    | true => match mj_nth sl a with
      | some none => κ (.inl (μ s i a) :: st)
      | some (some (t, o)) => κ (.inr (.inr (t, i + o)) :: st)
      | none => none
    | false => none
  | _ => none
/-- k = 1: a boolean field -/
def mj_pf (a b k s i : Nat) (x : Int) (μ : mj_M) (κ : mj_M → mj_R) : mj_R := match mj_srt LY s with
  | (0, ci, _, sl) => match Nat.beq ci b with
    | true => match mj_nth sl a with
      | some none => match k with
        | 0 => κ (mj_up μ s i a x)
        | _ + 1 => if x = 0 ∨ x = 1 then κ (mj_up μ s i a x) else none
      | _ => none
    | false => none
  | _ => none
def mj_ial (j : Int) (s i : Nat) (μ : mj_M) (κ : Int → mj_R) : mj_R := match mj_srt LY s with
  | (1, n, _, _) => if 0 ≤ j ∧ j < (n : Int) then κ (μ s i j.toNat) else none
  | (4, n, _, _) => match mj_nth TB n with
    | some l => match mj_nth l j.toNat with
      | some x => if 0 ≤ j then κ x else none
      | none => none
    | none => none
  | _ => none
def mj_lal (j : Int) (s i : Nat) (μ : mj_M) (κ : Int → mj_R) : mj_R := match mj_srt LY s with
  | (2, n, _, _) => if 0 ≤ j ∧ j < (n : Int) then κ (μ s i j.toNat) else none
  | _ => none
def mj_ias (x j : Int) (s i : Nat) (μ : mj_M) (κ : mj_M → mj_R) : mj_R := match mj_srt LY s with
  | (1, n, _, _) => if 0 ≤ j ∧ j < (n : Int) then κ (mj_up μ s i j.toNat x) else none
  | _ => none
def mj_las (x j : Int) (s i : Nat) (μ : mj_M) (κ : mj_M → mj_R) : mj_R := match mj_srt LY s with
  | (2, n, _, _) => if 0 ≤ j ∧ j < (n : Int) then κ (mj_up μ s i j.toNat x) else none
  | _ => none
def mj_aal (j : Int) (s : Nat) (κ : Nat → Nat → mj_R) : mj_R := match mj_srt LY s with
  | (3, n, _, [some (t, o)]) => if 0 ≤ j ∧ j < (n : Int) then κ t (j.toNat + o) else none
  | _ => none
def mj_acp (st : List mj_V) (μ : mj_M) (κ : List mj_V → mj_M → mj_R) : mj_R := match st with
  | .inl n :: .inl q :: .inr (.inr (s', i')) :: .inl p :: .inr (.inr (s, i)) :: r => match mj_srt LY s, mj_srt LY s' with
    | (1, m, _, _), (1, m', _, _) => if 0 ≤ n ∧ 0 ≤ p ∧ 0 ≤ q ∧ p + n ≤ (m : Int) ∧ q + n ≤ (m' : Int) then κ r (mj_cpy μ s i p.toNat s' i' q.toNat n.toNat) else none
    | _, _ => none
  | _ => none
/-- a call: k = 0, 1, 2: of a method that gives nothing, an int, a long; 5 the greater of two, 6 a copy, 7 a text's sign -/
def mj_cl (C : Nat → List mj_V → mj_M → mj_R) (a b k : Nat) (st : List mj_V) (μ : mj_M) (κ : List mj_V → mj_M → mj_R) : mj_R := match k with
  | 0 => mj_pop b st [] fun as st' => match Nat.ble (mj_cat st') 8 with
    | true => mj_rV (C a as μ) (fun μ' => κ st' μ')
    | false => none
  | 1 => mj_pop b st [] fun as st' => match Nat.ble (mj_cat st') 8 with
    | true => mj_rI (C a as μ) (fun x μ' => κ (.inl x :: st') μ')
    | false => none
  | 2 => mj_pop b st [] fun as st' => match Nat.ble (mj_cat st') 8 with
    | true => mj_rL (C a as μ) (fun x μ' => κ (.inr (.inl x) :: st') μ')
    | false => none
  | 5 => mj_p2 st fun x y st' => match Nat.ble (mj_cat st') 8 with
    | true => κ (.inl (if x < y then y else x) :: st') μ
    | false => none
  | 6 => mj_acp LY st μ (fun st' μ' => match Nat.ble (mj_cat st') 8 with
    | true => κ st' μ'
    | false => none)
  | 7 => mj_a2 st fun j s i st' => match mj_srt LY s with
    | (4, n, _, _) => match mj_nth TB n with
      | some l => match mj_nth l j.toNat with
        | some x => match Nat.ble (mj_cat st') 8 with
          | true => if 0 ≤ j then κ (.inl x :: st') μ else none
          | false => none
        | none => none
      | none => none
    | _ => none
  | _ => none
/-- the steps that neither jump nor call -/
def mj_ps (ins : Instr) (a b k : Nat) (ls : mj_L) (st : List mj_V) (μ : mj_M) (κ : mj_L → List mj_V → mj_M → mj_R) : mj_R := match ins with
  | .iconst n => κ ls (.inl n :: st) μ
  | .bipush n => κ ls (.inl n :: st) μ
  | .sipush n => κ ls (.inl n :: st) μ
  | .lconst n => κ ls (.inr (.inl (n.val : Int)) :: st) μ
  | .iload _ => mj_ldi ls a fun x => κ ls (.inl x :: st) μ
  | .iload_n _ => mj_ldi ls a fun x => κ ls (.inl x :: st) μ
  | .lload _ => mj_ldl ls a fun x => κ ls (.inr (.inl x) :: st) μ
  | .lload_n _ => mj_ldl ls a fun x => κ ls (.inr (.inl x) :: st) μ
  | .aload _ => mj_lda ls a fun s i => κ ls (.inr (.inr (s, i)) :: st) μ
  | .aload_n _ => mj_lda ls a fun s i => κ ls (.inr (.inr (s, i)) :: st) μ
  | .istore _ => mj_p1 st fun x r => mj_sto ls a (.inl x) fun ls' => κ ls' r μ
  | .istore_n _ => mj_p1 st fun x r => mj_sto ls a (.inl x) fun ls' => κ ls' r μ
  | .lstore _ => mj_q1 st fun x r => mj_stl ls a x fun ls' => κ ls' r μ
  | .lstore_n _ => mj_q1 st fun x r => mj_stl ls a x fun ls' => κ ls' r μ
  | .astore _ => mj_a1 st fun s i r => mj_sto ls a (.inr (.inr (s, i))) fun ls' => κ ls' r μ
  | .astore_n _ => mj_a1 st fun s i r => mj_sto ls a (.inr (.inr (s, i))) fun ls' => κ ls' r μ
  | .iinc _ n => mj_ldi ls a fun x => mj_sto ls a (.inl (mj_w (x + n))) fun ls' => κ ls' st μ
  | .iadd => mj_p2 st fun x y r => mj_bi ins x y fun z => κ ls (.inl z :: r) μ
  | .isub => mj_p2 st fun x y r => mj_bi ins x y fun z => κ ls (.inl z :: r) μ
  | .imul => mj_p2 st fun x y r => mj_bi ins x y fun z => κ ls (.inl z :: r) μ
  | .idiv => mj_p2 st fun x y r => mj_bi ins x y fun z => κ ls (.inl z :: r) μ
  | .irem => mj_p2 st fun x y r => mj_bi ins x y fun z => κ ls (.inl z :: r) μ
  | .iand => mj_p2 st fun x y r => mj_bi ins x y fun z => κ ls (.inl z :: r) μ
  | .ior => mj_p2 st fun x y r => mj_bi ins x y fun z => κ ls (.inl z :: r) μ
  | .ixor => mj_p2 st fun x y r => mj_bi ins x y fun z => κ ls (.inl z :: r) μ
  | .ishl => mj_p2 st fun x y r => mj_bi ins x y fun z => κ ls (.inl z :: r) μ
  | .ishr => mj_p2 st fun x y r => mj_bi ins x y fun z => κ ls (.inl z :: r) μ
  | .ladd => mj_q2 st fun x y r => mj_bl ins x y fun z => κ ls (.inr (.inl z) :: r) μ
  | .lsub => mj_q2 st fun x y r => mj_bl ins x y fun z => κ ls (.inr (.inl z) :: r) μ
  | .lmul => mj_q2 st fun x y r => mj_bl ins x y fun z => κ ls (.inr (.inl z) :: r) μ
  | .ldiv => mj_q2 st fun x y r => mj_bl ins x y fun z => κ ls (.inr (.inl z) :: r) μ
  | .lrem => mj_q2 st fun x y r => mj_bl ins x y fun z => κ ls (.inr (.inl z) :: r) μ
  | .lcmp => mj_q2 st fun x y r => if x < y then κ ls (.inl (-1) :: r) μ else if x = y then κ ls (.inl 0 :: r) μ else κ ls (.inl 1 :: r) μ
  | .ineg => mj_p1 st fun x r => κ ls (.inl (mj_w (-x)) :: r) μ
  | .i2l => mj_p1 st fun x r => κ ls (.inr (.inl x) :: r) μ
  | .l2i => mj_q1 st fun x r => κ ls (.inl (mj_w x) :: r) μ
  | .i2b => mj_p1 st fun x r => κ ls (.inl ((x + 128) % 256 - 128) :: r) μ
  | .i2s => mj_p1 st fun x r => κ ls (.inl ((x + 32768) % 65536 - 32768) :: r) μ
  | .dup => match st with
    | .inl x :: r => κ ls (.inl x :: .inl x :: r) μ
    | .inr (.inr q) :: r => κ ls (.inr (.inr q) :: .inr (.inr q) :: r) μ
    | _ => none
  | .dup2 => mj_a2 st fun j s i r => κ ls (.inl j :: .inr (.inr (s, i)) :: .inl j :: .inr (.inr (s, i)) :: r) μ
  | .pop => mj_p1 st fun _ r => κ ls r μ
  | .ldc _ => match k with
    | 0 => match mj_nth CS a with
      | some x => κ ls (.inl x :: st) μ
      | none => none
    | _ + 1 => κ ls (.inr (.inr (a, 0)) :: st) μ
  | .ldc_w _ => match mj_nth CS a with
    | some x => κ ls (.inl x :: st) μ
    | none => none
  | .ldc2_w _ => match mj_nth CS a with
    | some x => κ ls (.inr (.inl x) :: st) μ
    | none => none
  | .getstatic _ => κ ls (.inr (.inr (a, 0)) :: st) μ
  | .getfield _ => mj_a1 st fun s i r => mj_gf LY a b s i r μ fun st' => κ ls st' μ
  | .putfield _ => match st with
    | .inl x :: .inr (.inr (s, i)) :: r => mj_pf LY a b k s i x μ fun μ' => κ ls r μ'
    | _ => none
  | .iaload => mj_a2 st fun j s i r => mj_ial LY TB j s i μ fun x => κ ls (.inl x :: r) μ
  | .laload => mj_a2 st fun j s i r => mj_lal LY j s i μ fun x => κ ls (.inr (.inl x) :: r) μ
  | .aaload => mj_a2 st fun j s _ r => mj_aal LY j s fun t o => κ ls (.inr (.inr (t, o)) :: r) μ
  | .iastore => match st with
    | .inl x :: .inl j :: .inr (.inr (s, i)) :: r => mj_ias LY x j s i μ fun μ' => κ ls r μ'
    | _ => none
  | .lastore => match st with
    | .inr (.inl x) :: .inl j :: .inr (.inr (s, i)) :: r => mj_las LY x j s i μ fun μ' => κ ls r μ'
    | _ => none
  | _ => none
def mj_ri (k : Nat) (st : List mj_V) (μ : mj_M) : mj_R := match st with
  | [.inl x] => match k with
    | 0 => some (some (.inl x), μ)
    | _ + 1 => if x = 0 ∨ x = 1 then some (some (.inl x), μ) else none
  | _ => none
def mj_rl (st : List mj_V) (μ : mj_M) : mj_R := match st with
  | [.inr (.inl x)] => some (some (.inr (.inl x)), μ)
  | _ => none
def mj_rv (st : List mj_V) (μ : mj_M) : mj_R := match st with
  | [] => some (none, μ)
  | _ => none
def mj_blk (K : Nat → mj_L → List mj_V → mj_M → mj_R) (C : Nat → List mj_V → mj_M → mj_R) : List mj_I → mj_L → List mj_V → mj_M → mj_R
  | [], _, _, _ => none
  | (_, ins, a, b, k, sw) :: is, ls, st, μ => match ins with
    | .nop => K a ls st μ
    | .goto _ => K a ls st μ
    | .ifCond c _ => mj_p1 st fun x r => mj_ifc c x 0 (K a ls r μ) (mj_blk K C is ls r μ)
    | .if_icmp c _ => mj_p2 st fun x y r => mj_ifc c x y (K a ls r μ) (mj_blk K C is ls r μ)
    | .tableswitch _ _ _ _ => mj_p1 st fun x r => mj_swk (fun l => K l ls r μ) a x sw
    | .lookupswitch _ _ => mj_p1 st fun x r => mj_swk (fun l => K l ls r μ) a x sw
    | .ireturn => mj_ri k st μ
    | .lreturn => mj_rl st μ
    | .return_ => mj_rv st μ
    | .invokevirtual _ => mj_cl LY TB C a b k st μ fun st' μ' => mj_blk K C is ls st' μ'
    | .invokestatic _ => mj_cl LY TB C a b k st μ fun st' μ' => mj_blk K C is ls st' μ'
    | _ => mj_ps LY TB CS ins a b k ls st μ fun ls' st' μ' => mj_blk K C is ls' st' μ'
end MJ
end
section
/-! what a step that neither jumps nor calls does: it goes on at one place, or nowhere -/
theorem mj_sto_pu {ls : mj_L} {a : Nat} {v : mj_V} {κ : mj_L → mj_R} {x : Option mj_V × mj_M} (h : mj_sto ls a v κ = some x) : ∃ l', κ l' = some x ∧ ∀ κ', mj_sto ls a v κ' = κ' l' := by
  cases a with
  | zero => exact ⟨_, h, fun _ => rfl⟩
  | succ j =>
    unfold mj_sto at h ⊢
    dsimp only at h ⊢
    split at h
    · cases h
    · rename_i hn
      refine ⟨_, h, fun κ' => ?_⟩
      first
        | rfl
        | (split
           · rename_i q
             exact absurd q (hn _)
           · rfl)
theorem mj_stl_pu {ls : mj_L} {a : Nat} {v : Int} {κ : mj_L → mj_R} {x : Option mj_V × mj_M} (h : mj_stl ls a v κ = some x) : ∃ l', κ l' = some x ∧ ∀ κ', mj_stl ls a v κ' = κ' l' := by
  obtain ⟨l', h1, h2⟩ := mj_sto_pu h
  exact ⟨_, h1, fun κ' => h2 _⟩
theorem mj_ldi_pu {ls : mj_L} {a : Nat} {κ : Int → mj_R} {x : Option mj_V × mj_M} (h : mj_ldi ls a κ = some x) : ∃ v, κ v = some x ∧ ∀ κ', mj_ldi ls a κ' = κ' v := by
  unfold mj_ldi at h ⊢
  split at h
  · rename_i q
    exact ⟨_, h, fun κ' => rfl⟩
  · cases h
theorem mj_ldl_pu {ls : mj_L} {a : Nat} {κ : Int → mj_R} {x : Option mj_V × mj_M} (h : mj_ldl ls a κ = some x) : ∃ v, κ v = some x ∧ ∀ κ', mj_ldl ls a κ' = κ' v := by
  unfold mj_ldl at h ⊢
  split at h
  · rename_i q
    exact ⟨_, h, fun κ' => rfl⟩
  · cases h
theorem mj_lda_pu {ls : mj_L} {a : Nat} {κ : Nat → Nat → mj_R} {x : Option mj_V × mj_M} (h : mj_lda ls a κ = some x) : ∃ s i, κ s i = some x ∧ ∀ κ', mj_lda ls a κ' = κ' s i := by
  unfold mj_lda at h ⊢
  split at h
  · rename_i q
    exact ⟨_, _, h, fun κ' => rfl⟩
  · cases h
theorem mj_p1_pu {st : List mj_V} {κ : Int → List mj_V → mj_R} {x : Option mj_V × mj_M} (h : mj_p1 st κ = some x) : ∃ v r, κ v r = some x ∧ ∀ κ', mj_p1 st κ' = κ' v r := by
  unfold mj_p1 at h ⊢
  split at h
  · exact ⟨_, _, h, fun _ => rfl⟩
  · cases h
theorem mj_p2_pu {st : List mj_V} {κ : Int → Int → List mj_V → mj_R} {x : Option mj_V × mj_M} (h : mj_p2 st κ = some x) : ∃ v w r, κ v w r = some x ∧ ∀ κ', mj_p2 st κ' = κ' v w r := by
  unfold mj_p2 at h ⊢
  split at h
  · exact ⟨_, _, _, h, fun _ => rfl⟩
  · cases h
theorem mj_q1_pu {st : List mj_V} {κ : Int → List mj_V → mj_R} {x : Option mj_V × mj_M} (h : mj_q1 st κ = some x) : ∃ v r, κ v r = some x ∧ ∀ κ', mj_q1 st κ' = κ' v r := by
  unfold mj_q1 at h ⊢
  split at h
  · exact ⟨_, _, h, fun _ => rfl⟩
  · cases h
theorem mj_q2_pu {st : List mj_V} {κ : Int → Int → List mj_V → mj_R} {x : Option mj_V × mj_M} (h : mj_q2 st κ = some x) : ∃ v w r, κ v w r = some x ∧ ∀ κ', mj_q2 st κ' = κ' v w r := by
  unfold mj_q2 at h ⊢
  split at h
  · exact ⟨_, _, _, h, fun _ => rfl⟩
  · cases h
theorem mj_a1_pu {st : List mj_V} {κ : Nat → Nat → List mj_V → mj_R} {x : Option mj_V × mj_M} (h : mj_a1 st κ = some x) : ∃ s i r, κ s i r = some x ∧ ∀ κ', mj_a1 st κ' = κ' s i r := by
  unfold mj_a1 at h ⊢
  split at h
  · exact ⟨_, _, _, h, fun _ => rfl⟩
  · cases h
theorem mj_a2_pu {st : List mj_V} {κ : Int → Nat → Nat → List mj_V → mj_R} {x : Option mj_V × mj_M} (h : mj_a2 st κ = some x) : ∃ j s i r, κ j s i r = some x ∧ ∀ κ', mj_a2 st κ' = κ' j s i r := by
  unfold mj_a2 at h ⊢
  split at h
  · exact ⟨_, _, _, _, h, fun _ => rfl⟩
  · cases h
theorem mj_if_pu {α : Type} {c : Prop} [hc : Decidable c] {κ : α → mj_R} {v : α} {x : Option mj_V × mj_M} (h : (if c then κ v else none) = some x) : κ v = some x ∧ ∀ κ' : α → mj_R, (if c then κ' v else none) = κ' v := by
  by_cases q : c
  · rw [if_pos q] at h
    exact ⟨h, fun _ => if_pos q⟩
  · rw [if_neg q] at h
    cases h
theorem mj_i3_pu {α : Type} {c d : Prop} [hc : Decidable c] [hd : Decidable d] {A B E : α} {κ : α → mj_R} {x : Option mj_V × mj_M} (h : (if c then κ A else if d then κ B else κ E) = some x) : ∃ z, κ z = some x ∧ ∀ κ' : α → mj_R, (if c then κ' A else if d then κ' B else κ' E) = κ' z := by
  by_cases q : c
  · exact ⟨A, (if_pos q).symm.trans h, fun _ => if_pos q⟩
  · by_cases q2 : d
    · exact ⟨B, ((if_neg q).trans (if_pos q2)).symm.trans h, fun _ => (if_neg q).trans (if_pos q2)⟩
    · exact ⟨E, ((if_neg q).trans (if_neg q2)).symm.trans h, fun _ => (if_neg q).trans (if_neg q2)⟩
theorem mj_bi_pu {ins : Instr} {a b : Int} {κ : Int → mj_R} {x : Option mj_V × mj_M} (h : mj_bi ins a b κ = some x) : ∃ v, κ v = some x ∧ ∀ κ', mj_bi ins a b κ' = κ' v := by
  unfold mj_bi at h ⊢
  split at h
  all_goals first
    | (cases h; done)
    | exact ⟨_, h, fun _ => rfl⟩
    | exact ⟨_, (mj_if_pu h).1, (mj_if_pu h).2⟩
    | (split at h
       · cases h
       · rename_i q
         exact ⟨_, h, fun _ => if_neg q⟩)
theorem mj_bl_pu {ins : Instr} {a b : Int} {κ : Int → mj_R} {x : Option mj_V × mj_M} (h : mj_bl ins a b κ = some x) : ∃ v, κ v = some x ∧ ∀ κ', mj_bl ins a b κ' = κ' v := by
  unfold mj_bl at h ⊢
  split at h
  all_goals first
    | (cases h; done)
    | exact ⟨_, h, fun _ => rfl⟩
    | (split at h
       · cases h
       · rename_i q
         exact ⟨_, h, fun _ => if_neg q⟩)
section MJ
variable {LY : List mj_S} {TB : List (List Int)} {CS : List Int}
theorem mj_gf_pu {a b s i : Nat} {st : List mj_V} {μ : mj_M} {κ : List mj_V → mj_R} {x : Option mj_V × mj_M} (h : mj_gf LY a b s i st μ κ = some x) : ∃ v, κ v = some x ∧ ∀ κ', mj_gf LY a b s i st μ κ' = κ' v := by
  unfold mj_gf at h ⊢
  split at h
  · rename_i e1
    split at h
    · rename_i e2
      split at h
      · rename_i e3
        exact ⟨_, h, fun κ' => by first | rfl | simp only [e1, e2, e3]⟩
      · rename_i e3
        exact ⟨_, h, fun κ' => by first | rfl | simp only [e1, e2, e3]⟩
      · cases h
    · cases h
  · cases h
theorem mj_pf_pu {a b k s i : Nat} {v : Int} {μ : mj_M} {κ : mj_M → mj_R} {x : Option mj_V × mj_M} (h : mj_pf LY a b k s i v μ κ = some x) : ∃ v', κ v' = some x ∧ ∀ κ', mj_pf LY a b k s i v μ κ' = κ' v' := by
  unfold mj_pf at h ⊢
  split at h
  · rename_i e1
    split at h
    · rename_i e2
      split at h
      · rename_i e3
        split at h
        · exact ⟨_, h, fun κ' => by first | rfl | simp only [e1, e2, e3]⟩
        · obtain ⟨h1, h2⟩ := mj_if_pu h
          exact ⟨_, h1, fun κ' => h2 κ'⟩
      · cases h
    · cases h
  · cases h
theorem mj_ial_pu {j : Int} {s i : Nat} {μ : mj_M} {κ : Int → mj_R} {x : Option mj_V × mj_M} (h : mj_ial LY TB j s i μ κ = some x) : ∃ v, κ v = some x ∧ ∀ κ', mj_ial LY TB j s i μ κ' = κ' v := by
  unfold mj_ial at h ⊢
  split at h
  · rename_i e1
    obtain ⟨h1, h2⟩ := mj_if_pu h
    exact ⟨_, h1, fun κ' => h2 κ'⟩
  · rename_i e1
    split at h
    · rename_i e2
      split at h
      · rename_i e3
        obtain ⟨h1, h2⟩ := mj_if_pu h
        exact ⟨_, h1, fun κ' => h2 κ'⟩
      · cases h
    · cases h
  · cases h
theorem mj_lal_pu {j : Int} {s i : Nat} {μ : mj_M} {κ : Int → mj_R} {x : Option mj_V × mj_M} (h : mj_lal LY j s i μ κ = some x) : ∃ v, κ v = some x ∧ ∀ κ', mj_lal LY j s i μ κ' = κ' v := by
  unfold mj_lal at h ⊢
  split at h
  · rename_i e1
    obtain ⟨h1, h2⟩ := mj_if_pu h
    exact ⟨_, h1, fun κ' => h2 κ'⟩
  · cases h
theorem mj_ias_pu {v j : Int} {s i : Nat} {μ : mj_M} {κ : mj_M → mj_R} {x : Option mj_V × mj_M} (h : mj_ias LY v j s i μ κ = some x) : ∃ v', κ v' = some x ∧ ∀ κ', mj_ias LY v j s i μ κ' = κ' v' := by
  unfold mj_ias at h ⊢
  split at h
  · rename_i e1
    obtain ⟨h1, h2⟩ := mj_if_pu h
    exact ⟨_, h1, fun κ' => h2 κ'⟩
  · cases h
theorem mj_las_pu {v j : Int} {s i : Nat} {μ : mj_M} {κ : mj_M → mj_R} {x : Option mj_V × mj_M} (h : mj_las LY v j s i μ κ = some x) : ∃ v', κ v' = some x ∧ ∀ κ', mj_las LY v j s i μ κ' = κ' v' := by
  unfold mj_las at h ⊢
  split at h
  · rename_i e1
    obtain ⟨h1, h2⟩ := mj_if_pu h
    exact ⟨_, h1, fun κ' => h2 κ'⟩
  · cases h
theorem mj_aal_pu {j : Int} {s : Nat} {κ : Nat → Nat → mj_R} {x : Option mj_V × mj_M} (h : mj_aal LY j s κ = some x) : ∃ t o, κ t o = some x ∧ ∀ κ', mj_aal LY j s κ' = κ' t o := by
  unfold mj_aal at h ⊢
  split at h
  · rename_i e1
    split at h
    · rename_i q
      exact ⟨_, _, h, fun κ' => if_pos q⟩
    · cases h
  · cases h
theorem mj_acp_pu {st : List mj_V} {μ : mj_M} {κ : List mj_V → mj_M → mj_R} {x : Option mj_V × mj_M} (h : mj_acp LY st μ κ = some x) : ∃ r m, κ r m = some x ∧ ∀ κ', mj_acp LY st μ κ' = κ' r m := by
  unfold mj_acp at h ⊢
  split at h
  · split at h
    · rename_i e1 e2
      split at h
      · rename_i q
        exact ⟨_, _, h, fun κ' => if_pos q⟩
      · cases h
    · cases h
  · cases h
theorem mj_ps_pu {ins : Instr} {a b k : Nat} {ls : mj_L} {st : List mj_V} {μ : mj_M} {κ : mj_L → List mj_V → mj_M → mj_R} {x : Option mj_V × mj_M} (h : mj_ps LY TB CS ins a b k ls st μ κ = some x) : ∃ ls' st' μ', κ ls' st' μ' = some x ∧ ∀ κ', mj_ps LY TB CS ins a b k ls st μ κ' = κ' ls' st' μ' := by
  unfold mj_ps at h ⊢
  split at h
  all_goals first
    | (cases h; done)
    | exact ⟨_, _, _, h, fun _ => rfl⟩
    | (obtain ⟨v, h1, h2⟩ := mj_ldi_pu h; exact ⟨_, _, _, h1, fun κ' => h2 _⟩)
    | (obtain ⟨v, h1, h2⟩ := mj_ldl_pu h; exact ⟨_, _, _, h1, fun κ' => h2 _⟩)
    | (obtain ⟨v, w, h1, h2⟩ := mj_lda_pu h; exact ⟨_, _, _, h1, fun κ' => h2 _⟩)
    | (obtain ⟨v, h1, h2⟩ := mj_ldi_pu h; obtain ⟨l, h3, h4⟩ := mj_sto_pu h1; exact ⟨_, _, _, h3, fun κ' => (h2 _).trans (h4 _)⟩)
    | (obtain ⟨v, r, h1, h2⟩ := mj_p1_pu h; exact ⟨_, _, _, h1, fun κ' => h2 _⟩)
    | (obtain ⟨v, r, h1, h2⟩ := mj_q1_pu h; exact ⟨_, _, _, h1, fun κ' => h2 _⟩)
    | (obtain ⟨v, r, h1, h2⟩ := mj_p1_pu h; obtain ⟨l, h3, h4⟩ := mj_sto_pu h1; exact ⟨_, _, _, h3, fun κ' => (h2 _).trans (h4 _)⟩)
    | (obtain ⟨v, r, h1, h2⟩ := mj_q1_pu h; obtain ⟨l, h3, h4⟩ := mj_stl_pu h1; exact ⟨_, _, _, h3, fun κ' => (h2 _).trans (h4 _)⟩)
    | (obtain ⟨s, i, r, h1, h2⟩ := mj_a1_pu h; obtain ⟨l, h3, h4⟩ := mj_sto_pu h1; exact ⟨_, _, _, h3, fun κ' => (h2 _).trans (h4 _)⟩)
    | (obtain ⟨v, w, r, h1, h2⟩ := mj_p2_pu h; obtain ⟨l, h3, h4⟩ := mj_bi_pu h1; exact ⟨_, _, _, h3, fun κ' => (h2 _).trans (h4 _)⟩)
    | (obtain ⟨v, w, r, h1, h2⟩ := mj_q2_pu h; obtain ⟨l, h3, h4⟩ := mj_bl_pu h1; exact ⟨_, _, _, h3, fun κ' => (h2 _).trans (h4 _)⟩)
    | (obtain ⟨v, w, r, h1, h2⟩ := mj_q2_pu h; obtain ⟨z, h3, h4⟩ := mj_i3_pu (κ := fun q => κ ls q μ) h1; exact ⟨_, _, _, h3, fun κ' => (h2 _).trans (h4 (fun q => κ' ls q μ))⟩)
    | (obtain ⟨j, s, i, r, h1, h2⟩ := mj_a2_pu h; exact ⟨_, _, _, h1, fun κ' => h2 _⟩)
    | (obtain ⟨s, i, r, h1, h2⟩ := mj_a1_pu h; obtain ⟨l, h3, h4⟩ := mj_gf_pu h1; exact ⟨_, _, _, h3, fun κ' => (h2 _).trans (h4 _)⟩)
    | (obtain ⟨j, s, i, r, h1, h2⟩ := mj_a2_pu h; obtain ⟨l, h3, h4⟩ := mj_ial_pu h1; exact ⟨_, _, _, h3, fun κ' => (h2 _).trans (h4 _)⟩)
    | (obtain ⟨j, s, i, r, h1, h2⟩ := mj_a2_pu h; obtain ⟨l, h3, h4⟩ := mj_lal_pu h1; exact ⟨_, _, _, h3, fun κ' => (h2 _).trans (h4 _)⟩)
    | (obtain ⟨j, s, i, r, h1, h2⟩ := mj_a2_pu h; obtain ⟨t, o, h3, h4⟩ := mj_aal_pu h1; exact ⟨_, _, _, h3, fun κ' => (h2 _).trans (h4 _)⟩)
    | (split at h
       · first
         | exact ⟨_, _, _, h, fun _ => rfl⟩
         | (obtain ⟨l, h3, h4⟩ := mj_pf_pu h; exact ⟨_, _, _, h3, fun κ' => h4 _⟩)
         | (obtain ⟨l, h3, h4⟩ := mj_ias_pu h; exact ⟨_, _, _, h3, fun κ' => h4 _⟩)
         | (obtain ⟨l, h3, h4⟩ := mj_las_pu h; exact ⟨_, _, _, h3, fun κ' => h4 _⟩)
         | (split at h
            · rename_i e; exact ⟨_, _, _, h, fun _ => by first | rfl | simp only [e]⟩
            · cases h)
         | (rename_i e; exact ⟨_, _, _, h, fun _ => by first | rfl | simp only [e]⟩)
       · first
         | (cases h; done)
         | exact ⟨_, _, _, h, fun _ => rfl⟩
       · cases h)
    | (split at h
       · first
         | (split at h
            · rename_i e; exact ⟨_, _, _, h, fun _ => by first | rfl | simp only [e]⟩
            · cases h)
         | (rename_i e; exact ⟨_, _, _, h, fun _ => by first | rfl | simp only [e]⟩)
         | (obtain ⟨l, h3, h4⟩ := mj_pf_pu h; exact ⟨_, _, _, h3, fun κ' => h4 _⟩)
         | (obtain ⟨l, h3, h4⟩ := mj_ias_pu h; exact ⟨_, _, _, h3, fun κ' => h4 _⟩)
         | (obtain ⟨l, h3, h4⟩ := mj_las_pu h; exact ⟨_, _, _, h3, fun κ' => h4 _⟩)
       · first
         | (cases h; done)
         | exact ⟨_, _, _, h, fun _ => rfl⟩)
end MJ
end
section
/-! runs with fuel, and what they come to -/
abbrev mj_P : Type := List (Nat × List (List Bool × List mj_I))
def mj_in (f : Nat → mj_R) : Nat → mj_R
  | 0 => none
  | d + 1 => f d
def mj_bk (PG : mj_P) (y l : Nat) : List Bool × List mj_I := match mj_nth PG y with
  | some (_, bs) => match mj_nth bs l with
    | some q => q
    | none => ([], [])
  | none => ([], [])
def mj_ent (PG : mj_P) (y : Nat) (as : List mj_V) : mj_L := match mj_nth PG y with
  | some (n, _) => mj_pad n (mj_pl as)
  | none => []
section MJ
variable (LY : List mj_S) (TB : List (List Int)) (CS : List Int) (PG : mj_P)
def mj_run : Nat → Nat → Nat → Nat → mj_L → List mj_V → mj_M → mj_R
  | 0, _, _, _, _, _, _ => none
  | n + 1, d, y, l, ls, st, μ => mj_blk LY TB CS (fun l' => mj_run n d y l') (fun y' as μ' => mj_in (fun d' => mj_run n d' y' 0 (mj_ent PG y' as) [] μ') d) (mj_bk PG y l).2 (mj_keep (mj_bk PG y l).1 ls) st μ
end MJ
section MK
variable {LY : List mj_S} {TB : List (List Int)} {CS : List Int} {PG : mj_P}
theorem mj_pop_pu {n : Nat} {st acc : List mj_V} {κ : List mj_V → List mj_V → mj_R} {x : Option mj_V × mj_M} (h : mj_pop n st acc κ = some x) : ∃ as r, κ as r = some x ∧ (∀ κ', mj_pop n st acc κ' = κ' as r) ∧ ∃ q, st = q ++ r ∧ q.length = n ∧ as = q.reverse ++ acc := by
  induction n generalizing st acc with
  | zero => exact ⟨acc, st, h, fun _ => rfl, [], rfl, rfl, rfl⟩
  | succ n ih =>
    cases st with
    | nil => cases h
    | cons v st =>
      obtain ⟨as, r, h1, h2, q, h3, h4, h5⟩ := ih (st := st) (acc := v :: acc) h
      exact ⟨as, r, h1, h2, v :: q, by rw [h3]; rfl, by rw [List.length_cons, h4], by rw [h5]; simp⟩
theorem mj_rV_pu {r : mj_R} {κ : mj_M → mj_R} {x : Option mj_V × mj_M} (h : mj_rV r κ = some x) : ∃ μ, r = some (none, μ) ∧ κ μ = some x := by
  unfold mj_rV at h
  split at h
  · exact ⟨_, rfl, h⟩
  · cases h
theorem mj_rI_pu {r : mj_R} {κ : Int → mj_M → mj_R} {x : Option mj_V × mj_M} (h : mj_rI r κ = some x) : ∃ v μ, r = some (some (.inl v), μ) ∧ κ v μ = some x := by
  unfold mj_rI at h
  split at h
  · exact ⟨_, _, rfl, h⟩
  · cases h
theorem mj_rL_pu {r : mj_R} {κ : Int → mj_M → mj_R} {x : Option mj_V × mj_M} (h : mj_rL r κ = some x) : ∃ v μ, r = some (some (.inr (.inl v)), μ) ∧ κ v μ = some x := by
  unfold mj_rL at h
  split at h
  · exact ⟨_, _, rfl, h⟩
  · cases h
theorem mj_cl_pu {C : Nat → List mj_V → mj_M → mj_R} {a b k : Nat} {st : List mj_V} {μ : mj_M} {κ : List mj_V → mj_M → mj_R} {x : Option mj_V × mj_M} (h : mj_cl LY TB C a b k st μ κ = some x) :
    ∃ st' μ', κ st' μ' = some x ∧ ((∀ C' κ', mj_cl LY TB C' a b k st μ κ' = κ' st' μ') ∨ ∃ as r, C a as μ = some r ∧ ∀ C' κ', C' a as μ = some r → mj_cl LY TB C' a b k st μ κ' = κ' st' μ') := by
  unfold mj_cl at h ⊢
  split at h
  · obtain ⟨as, r, h1, h2, -⟩ := mj_pop_pu h
    split at h1
    · rename_i e
      obtain ⟨m, h3, h4⟩ := mj_rV_pu h1
      refine ⟨_, _, h4, Or.inr ⟨as, _, h3, fun C' κ' hc => ?_⟩⟩
      rw [h2]
      simp only [e, hc]
      rfl
    · cases h1
  · obtain ⟨as, r, h1, h2, -⟩ := mj_pop_pu h
    split at h1
    · rename_i e
      obtain ⟨v, m, h3, h4⟩ := mj_rI_pu h1
      refine ⟨_, _, h4, Or.inr ⟨as, _, h3, fun C' κ' hc => ?_⟩⟩
      rw [h2]
      simp only [e, hc]
      rfl
    · cases h1
  · obtain ⟨as, r, h1, h2, -⟩ := mj_pop_pu h
    split at h1
    · rename_i e
      obtain ⟨v, m, h3, h4⟩ := mj_rL_pu h1
      refine ⟨_, _, h4, Or.inr ⟨as, _, h3, fun C' κ' hc => ?_⟩⟩
      rw [h2]
      simp only [e, hc]
      rfl
    · cases h1
  · obtain ⟨v, w, r, h1, h2⟩ := mj_p2_pu h
    split at h1
    · rename_i e
      refine ⟨_, _, h1, Or.inl fun C' κ' => ?_⟩
      rw [h2]
      simp only [e]
    · cases h1
  · obtain ⟨r, m, h1, h2⟩ := mj_acp_pu h
    split at h1
    · rename_i e
      refine ⟨_, _, h1, Or.inl fun C' κ' => ?_⟩
      rw [h2]
      simp only [e]
    · cases h1
  · obtain ⟨j, s, i, r, h1, h2⟩ := mj_a2_pu h
    split at h1
    · rename_i e1
      split at h1
      · rename_i e2
        split at h1
        · rename_i e3
          split at h1
          · rename_i e4
            split at h1
            · rename_i e5
              refine ⟨_, _, h1, Or.inl fun C' κ' => ?_⟩
              rw [h2]
              simp only [e1, e2, e3, e4, e5, if_true]
            · cases h1
          · cases h1
        · cases h1
      · cases h1
    · cases h1
  · cases h
theorem mj_ifc_mono {c : Jvm.ClassFile.Cond} {v w : Int} {A B A' B' : mj_R} {x : Option mj_V × mj_M} (hA : A = some x → A' = some x) (hB : B = some x → B' = some x) (h : mj_ifc c v w A B = some x) : mj_ifc c v w A' B' = some x := by
  cases c <;> (unfold mj_ifc at h ⊢; dsimp only at h ⊢; split at h <;> rename_i q <;> first | (rw [if_pos q]; first | exact hA h | exact hB h) | (rw [if_neg q]; first | exact hA h | exact hB h))
theorem mj_swk_mono {K K' : Nat → mj_R} {x : Option mj_V × mj_M} (hK : ∀ l, K l = some x → K' l = some x) {d : Nat} {v : Int} (sw : List (Int × Nat)) (h : mj_swk K d v sw = some x) : mj_swk K' d v sw = some x := by
  induction sw with
  | nil => exact hK _ h
  | cons q r ih =>
    unfold mj_swk at h ⊢
    split at h
    · rename_i e
      rw [if_pos e]
      exact hK _ h
    · rename_i e
      rw [if_neg e]
      exact ih h
theorem mj_blk_mono {K K' : Nat → mj_L → List mj_V → mj_M → mj_R} {C C' : Nat → List mj_V → mj_M → mj_R} (hK : ∀ l ls st μ x, K l ls st μ = some x → K' l ls st μ = some x) (hC : ∀ y as μ x, C y as μ = some x → C' y as μ = some x) :
    ∀ (is : List mj_I) (ls : mj_L) (st : List mj_V) (μ : mj_M) (x : Option mj_V × mj_M), mj_blk LY TB CS K C is ls st μ = some x → mj_blk LY TB CS K' C' is ls st μ = some x := by
  intro is
  induction is with
  | nil => intro ls st μ x h; cases h
  | cons q is ih =>
    obtain ⟨pc, ins, a, b, k, sw⟩ := q
    intro ls st μ x h
    unfold mj_blk at h ⊢
    split at h
    · exact hK _ _ _ _ _ h
    · exact hK _ _ _ _ _ h
    · obtain ⟨v, r, h1, h2⟩ := mj_p1_pu h
      exact (h2 _).trans (mj_ifc_mono (hK _ _ _ _ _) (ih _ _ _ _) h1)
    · obtain ⟨v, w, r, h1, h2⟩ := mj_p2_pu h
      exact (h2 _).trans (mj_ifc_mono (hK _ _ _ _ _) (ih _ _ _ _) h1)
    · obtain ⟨v, r, h1, h2⟩ := mj_p1_pu h
      exact (h2 _).trans (mj_swk_mono (fun l => hK l _ _ _ _) sw h1)
    · obtain ⟨v, r, h1, h2⟩ := mj_p1_pu h
      exact (h2 _).trans (mj_swk_mono (fun l => hK l _ _ _ _) sw h1)
    · exact h
    · exact h
    · exact h
    · obtain ⟨st', μ', h1, h2⟩ := mj_cl_pu h
      rcases h2 with h2 | ⟨as, r, h3, h2⟩
      · exact (h2 _ _).trans (ih _ _ _ _ h1)
      · exact (h2 _ _ (hC _ _ _ _ h3)).trans (ih _ _ _ _ h1)
    · obtain ⟨st', μ', h1, h2⟩ := mj_cl_pu h
      rcases h2 with h2 | ⟨as, r, h3, h2⟩
      · exact (h2 _ _).trans (ih _ _ _ _ h1)
      · exact (h2 _ _ (hC _ _ _ _ h3)).trans (ih _ _ _ _ h1)
    · obtain ⟨ls', st', μ', h1, h2⟩ := mj_ps_pu h
      exact (h2 _).trans (ih _ _ _ _ h1)
theorem mj_in_mono {f g : Nat → mj_R} {x : Option mj_V × mj_M} (h : ∀ d, f d = some x → g d = some x) : ∀ d, mj_in f d = some x → mj_in g d = some x
  | 0, q => by cases q
  | d + 1, q => h d q
theorem mj_run_mono : ∀ (n d y l : Nat) (ls : mj_L) (st : List mj_V) (μ : mj_M) (x : Option mj_V × mj_M), mj_run LY TB CS PG n d y l ls st μ = some x → mj_run LY TB CS PG (n + 1) d y l ls st μ = some x := by
  intro n
  induction n with
  | zero => intro d y l ls st μ x h; cases h
  | succ n ih =>
    intro d y l ls st μ x h
    rw [mj_run] at h ⊢
    exact mj_blk_mono (fun l' ls st μ x h => ih _ _ _ _ _ _ _ h) (fun y as μ x h => mj_in_mono (fun d h => ih _ _ _ _ _ _ _ h) _ h) _ _ _ _ _ h
theorem mj_run_le {n m d y l : Nat} {ls : mj_L} {st : List mj_V} {μ : mj_M} {x : Option mj_V × mj_M} (hm : n ≤ m) (h : mj_run LY TB CS PG n d y l ls st μ = some x) : mj_run LY TB CS PG m d y l ls st μ = some x := by
  induction m with
  | zero =>
    have : n = 0 := by omega
    subst this
    exact h
  | succ m ih =>
    by_cases q : n = m + 1
    · subst q; exact h
    · exact mj_run_mono _ _ _ _ _ _ _ _ (ih (by omega))
theorem mj_den_ex (LY : List mj_S) (TB : List (List Int)) (CS : List Int) (PG : mj_P) (d y l : Nat) (ls : mj_L) (st : List mj_V) (μ : mj_M) : ∃ r : mj_R, ∀ x, r = some x ↔ ∃ n, mj_run LY TB CS PG n d y l ls st μ = some x := by
  by_cases h : ∃ n x, mj_run LY TB CS PG n d y l ls st μ = some x
  · obtain ⟨n, x, h⟩ := h
    refine ⟨some x, fun z => ⟨fun e => ⟨n, by rw [h, ← e]⟩, fun ⟨m, hm⟩ => ?_⟩⟩
    have h1 := mj_run_le (Nat.le_max_left n m) h
    have h2 := mj_run_le (Nat.le_max_right n m) hm
    rw [h1] at h2
    exact h2
  · refine ⟨none, fun z => ⟨fun e => (by cases e), fun ⟨m, hm⟩ => absurd ⟨m, z, hm⟩ h⟩⟩
noncomputable def mj_den (LY : List mj_S) (TB : List (List Int)) (CS : List Int) (PG : mj_P) (d y l : Nat) (ls : mj_L) (st : List mj_V) (μ : mj_M) : mj_R := Classical.choose (mj_den_ex LY TB CS PG d y l ls st μ)
noncomputable def mj_call (LY : List mj_S) (TB : List (List Int)) (CS : List Int) (PG : mj_P) (d y : Nat) (as : List mj_V) (μ : mj_M) : mj_R := mj_in (fun d' => mj_den LY TB CS PG d' y 0 (mj_ent PG y as) [] μ) d
theorem mj_den_iff {d y l : Nat} {ls : mj_L} {st : List mj_V} {μ : mj_M} {x : Option mj_V × mj_M} : mj_den LY TB CS PG d y l ls st μ = some x ↔ ∃ n, mj_run LY TB CS PG n d y l ls st μ = some x := Classical.choose_spec (mj_den_ex LY TB CS PG d y l ls st μ) x
theorem mj_ifc_ct {c : Jvm.ClassFile.Cond} {v w : Int} {A B : mj_R} {A' B' : Nat → mj_R} {x : Option mj_V × mj_M} (hA : A = some x → ∃ n, A' n = some x) (hB : B = some x → ∃ n, B' n = some x) (h : mj_ifc c v w A B = some x) : ∃ n, mj_ifc c v w (A' n) (B' n) = some x := by
  have key : (A = some x ∧ ∀ A B : mj_R, mj_ifc c v w A B = A) ∨ (B = some x ∧ ∀ A B : mj_R, mj_ifc c v w A B = B) := by
    cases c <;> (unfold mj_ifc at h ⊢; dsimp only at h ⊢; split at h <;> rename_i q <;> simp [q, h])
  rcases key with ⟨h1, h2⟩ | ⟨h1, h2⟩
  · obtain ⟨n, hn⟩ := hA h1
    exact ⟨n, (h2 _ _).trans hn⟩
  · obtain ⟨n, hn⟩ := hB h1
    exact ⟨n, (h2 _ _).trans hn⟩
theorem mj_swk_ct {K : Nat → mj_R} {K' : Nat → Nat → mj_R} {x : Option mj_V × mj_M} (hK : ∀ l, K l = some x → ∃ n, K' n l = some x) {d : Nat} {v : Int} (sw : List (Int × Nat)) (h : mj_swk K d v sw = some x) : ∃ n, mj_swk (K' n) d v sw = some x := by
  induction sw with
  | nil => exact hK _ h
  | cons q r ih =>
    unfold mj_swk at h ⊢
    split at h
    · rename_i e
      obtain ⟨n, hn⟩ := hK _ h
      exact ⟨n, by rw [if_pos e]; exact hn⟩
    · rename_i e
      obtain ⟨n, hn⟩ := ih h
      exact ⟨n, by rw [if_neg e]; exact hn⟩
theorem mj_blk_ct {K : Nat → mj_L → List mj_V → mj_M → mj_R} {C : Nat → List mj_V → mj_M → mj_R} {K' : Nat → Nat → mj_L → List mj_V → mj_M → mj_R} {C' : Nat → Nat → List mj_V → mj_M → mj_R}
    (hK : ∀ l ls st μ x, K l ls st μ = some x → ∃ n, K' n l ls st μ = some x) (hC : ∀ y as μ x, C y as μ = some x → ∃ n, C' n y as μ = some x)
    (mK : ∀ n m l ls st μ x, n ≤ m → K' n l ls st μ = some x → K' m l ls st μ = some x) (mC : ∀ n m y as μ x, n ≤ m → C' n y as μ = some x → C' m y as μ = some x) :
    ∀ (is : List mj_I) (ls : mj_L) (st : List mj_V) (μ : mj_M) (x : Option mj_V × mj_M), mj_blk LY TB CS K C is ls st μ = some x → ∃ n, mj_blk LY TB CS (K' n) (C' n) is ls st μ = some x := by
  intro is
  induction is with
  | nil => intro ls st μ x h; cases h
  | cons q is ih =>
    obtain ⟨pc, ins, a, b, k, sw⟩ := q
    intro ls st μ x h
    unfold mj_blk at h ⊢
    split at h
    · exact hK _ _ _ _ _ h
    · exact hK _ _ _ _ _ h
    · obtain ⟨v, r, h1, h2⟩ := mj_p1_pu h
      obtain ⟨n, hn⟩ := mj_ifc_ct (A' := fun n => K' n a ls r μ) (B' := fun n => mj_blk LY TB CS (K' n) (C' n) is ls r μ) (hK _ _ _ _ _) (ih _ _ _ _) h1
      exact ⟨n, (h2 _).trans hn⟩
    · obtain ⟨v, w, r, h1, h2⟩ := mj_p2_pu h
      obtain ⟨n, hn⟩ := mj_ifc_ct (A' := fun n => K' n a ls r μ) (B' := fun n => mj_blk LY TB CS (K' n) (C' n) is ls r μ) (hK _ _ _ _ _) (ih _ _ _ _) h1
      exact ⟨n, (h2 _).trans hn⟩
    · obtain ⟨v, r, h1, h2⟩ := mj_p1_pu h
      obtain ⟨n, hn⟩ := mj_swk_ct (K' := fun n l => K' n l ls r μ) (fun l => hK l _ _ _ _) sw h1
      exact ⟨n, (h2 _).trans hn⟩
    · obtain ⟨v, r, h1, h2⟩ := mj_p1_pu h
      obtain ⟨n, hn⟩ := mj_swk_ct (K' := fun n l => K' n l ls r μ) (fun l => hK l _ _ _ _) sw h1
      exact ⟨n, (h2 _).trans hn⟩
    · exact ⟨0, h⟩
    · exact ⟨0, h⟩
    · exact ⟨0, h⟩
    · obtain ⟨st', μ', h1, h2⟩ := mj_cl_pu h
      obtain ⟨n, hn⟩ := ih _ _ _ _ h1
      rcases h2 with h2 | ⟨as, r, h3, h2⟩
      · exact ⟨n, (h2 _ _).trans hn⟩
      · obtain ⟨m, hm⟩ := hC _ _ _ _ h3
        exact ⟨max n m, (h2 _ _ (mC _ _ _ _ _ _ (Nat.le_max_right n m) hm)).trans (mj_blk_mono (fun l ls st μ x => mK _ _ _ _ _ _ _ (Nat.le_max_left n m)) (fun y as μ x => mC _ _ _ _ _ _ (Nat.le_max_left n m)) _ _ _ _ _ hn)⟩
    · obtain ⟨st', μ', h1, h2⟩ := mj_cl_pu h
      obtain ⟨n, hn⟩ := ih _ _ _ _ h1
      rcases h2 with h2 | ⟨as, r, h3, h2⟩
      · exact ⟨n, (h2 _ _).trans hn⟩
      · obtain ⟨m, hm⟩ := hC _ _ _ _ h3
        exact ⟨max n m, (h2 _ _ (mC _ _ _ _ _ _ (Nat.le_max_right n m) hm)).trans (mj_blk_mono (fun l ls st μ x => mK _ _ _ _ _ _ _ (Nat.le_max_left n m)) (fun y as μ x => mC _ _ _ _ _ _ (Nat.le_max_left n m)) _ _ _ _ _ hn)⟩
    · obtain ⟨ls', st', μ', h1, h2⟩ := mj_ps_pu h
      obtain ⟨n, hn⟩ := ih _ _ _ _ h1
      exact ⟨n, (h2 _).trans hn⟩
/-- THE EQUATION: what a block comes to -/
theorem mj_fix {d y l : Nat} {ls : mj_L} {st : List mj_V} {μ : mj_M} : mj_den LY TB CS PG d y l ls st μ = mj_blk LY TB CS (fun l' => mj_den LY TB CS PG d y l') (mj_call LY TB CS PG d) (mj_bk PG y l).2 (mj_keep (mj_bk PG y l).1 ls) st μ := by
  apply Option.ext
  intro x
  constructor
  · intro h
    obtain ⟨n, hn⟩ := mj_den_iff.mp h
    cases n with
    | zero => cases hn
    | succ n =>
      rw [mj_run] at hn
      refine mj_blk_mono (fun l' ls st μ x h => mj_den_iff.mpr ⟨n, h⟩) (fun y as μ x h => ?_) _ _ _ _ _ hn
      exact mj_in_mono (fun d h => mj_den_iff.mpr ⟨n, h⟩) _ h
  · intro h
    obtain ⟨n, hn⟩ := mj_blk_ct (K' := fun n l' => mj_run LY TB CS PG n d y l') (C' := fun n y' as μ' => mj_in (fun d' => mj_run LY TB CS PG n d' y' 0 (mj_ent PG y' as) [] μ') d)
      (fun l ls st μ x h => mj_den_iff.mp h) (fun y as μ x h => by
        unfold mj_call at h
        cases d with
        | zero => cases h
        | succ d => exact mj_den_iff.mp h)
      (fun n m l ls st μ x hm h => mj_run_le hm h) (fun n m y as μ x hm h => mj_in_mono (fun d h => mj_run_le hm h) _ h) _ _ _ _ _ h
    exact mj_den_iff.mpr ⟨n + 1, by rw [mj_run]; exact hn⟩
theorem mj_call_eq {d y : Nat} {as : List mj_V} {μ : mj_M} : mj_call LY TB CS PG (d + 1) y as μ = mj_den LY TB CS PG d y 0 (mj_ent PG y as) [] μ := rfl
end MK
end
