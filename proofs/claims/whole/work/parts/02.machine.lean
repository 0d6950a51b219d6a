def am_tags : List Nat := [10, 8, 100, 8, 100, 8, 100, 3, 100, 100, 100, 6, 100, 100, 4, 100, 100, 100, 4, 100, 100, 100, 9, 100, 100, 100, 100, 2, 100, 100, 100, 100, 1, 1, 1, 7, 0, 100, 102, 100, 103, 5, 100, 5, 100, 5, 100, 5, 100, 11, 100, 100, 100, 100, 100, 100, 100, 100, 100, 100, 100, 100, 100, 100, 100, 100, 100, 100, 100, 100, 100, 100, 100, 100, 101, 100, 100, 100, 100]
def am_lens : List Nat := [0, 0, 24, 0, 24, 0, 24, 0, 8, 8, 8, 0, 8, 8, 0, 12, 12, 24, 0, 12, 12, 24, 0, 12, 12, 12, 48, 0, 240, 1728, 12, 5, 0, 0, 0, 0, 0, 256, 9, 576, 4, 0, 60, 0, 60, 0, 60, 0, 60, 0, 3, 72, 12, 12, 24, 3, 8, 8, 8, 12, 24, 12, 12, 12, 12, 48, 48, 48, 48, 48, 2, 8, 8, 432, 4, 4, 4, 240, 60]
def am_rhos : List (List Nat) := [[1, 3, 5, 7, 11, 14, 18, 22, 27, 32, 33, 34, 35, 36, 39, 40, 0], [2, 0, 0, 0, 0], [], [4, 0, 0, 0, 0], [], [6, 0, 0, 0, 0], [], [8, 9, 10, 0], [], [], [], [12, 13, 0], [], [], [15, 16, 17, 0, 0, 0, 0, 0], [], [], [], [19, 20, 21, 0, 0, 0, 0, 0], [], [], [], [23, 24, 25, 26, 0, 0, 0, 0, 0, 0, 0, 0, 0, 0, 0, 0, 0], [], [], [], [], [28, 29, 30, 31, 0, 0, 0], [], [], [], [], [0, 0, 0, 0, 0], [0, 0, 0, 0, 0], [0, 0, 0, 0, 0], [0, 0, 0, 0], [37, 38, 0], [], [], [], [41, 43, 45, 47], [42, 0, 0, 0], [], [44, 0, 0, 0], [], [46, 0, 0, 0], [], [48, 0, 0, 0], [], [50, 51, 52, 53, 0, 54, 55, 0, 56, 57, 58, 59, 60, 0, 0, 0, 0, 0, 0, 0, 0, 0, 0, 0, 0, 0, 0, 0, 0, 61, 62, 63, 64, 65, 66, 67, 68, 69, 0, 0, 0, 70, 0, 71, 72, 73, 74, 75, 76, 77, 78, 0], [], [], [], [], [], [], [], [], [], [], [], [], [], [], [], [], [], [], [], [], [], [], [], [], [], [], [], [], []]
def am_refs : List (List Bool) := [[true, true, false], [false, false, false, false, false], [true, true, true, true, false, false, false], [true, true, true, false], [true, true, true, false, false, false, false, false], [true, false, false, false], [true, true, false], [false, false, false, false], [true, false, false, false, false], [true, true, true, true, false, false, false, false, false, false, false, false, false, false, false, false, false], [true, true, true, true, true, true, true, true, true, true, true, true, true, true, true, true, false], [true, true, true, true, false, true, true, false, true, true, true, true, true, false, false, false, false, false, false, false, false, false, false, false, false, false, false, false, false, true, true, true, true, true, true, true, true, true, false, false, false, true, false, true, true, true, true, true, true, true, true, false]]
def am_bools : List (List Bool) := [[false, false, true], [false, false, false, false, true], [false, false, false, false, false, false, true], [false, false, false, false], [false, false, false, false, false, false, false, false], [false, false, false, true], [false, false, false], [false, false, false, true], [false, false, false, false, false], [false, false, false, false, false, false, false, false, false, false, true, false, false, false, false, false, false], [false, false, false, false, false, false, false, false, false, false, false, false, false, false, false, false, false], [false, false, false, false, false, false, false, false, false, false, false, false, false, false, false, false, false, false, false, false, false, false, true, false, false, false, false, false, false, false, false, false, false, false, false, false, false, false, false, false, false, false, false, false, false, false, false, false, false, false, false, false]]
def am_nfs : List Nat := [3, 5, 7, 4, 8, 4, 3, 4, 5, 17, 17, 52]
abbrev am_D : Type := Nat → Nat → Int32
abbrev am_L : Type := Nat → Int64
abbrev am_K : Type := Option Value → am_D → am_L → Prop
abbrev am_Sp : Type := List Value → am_D → am_L → am_K → Prop
abbrev am_V : Type := List (Option Value)
abbrev am_X : Type := Nat → am_V → List Value → am_D → am_L → Prop
/-- an instruction: itself, the next pc, three numbers, an int, a long -/
abbrev am_I : Type := Instr × Nat × Nat × Nat × Nat × Int32 × Int64
def am_tag (k : Nat) : Nat := am_tags.getD k 999
def am_len (k : Nat) : Nat := am_lens.getD k 0
def am_rho (k j : Nat) : Nat := (am_rhos.getD k []).getD j 0
def am_isr (c j : Nat) : Bool := (am_refs.getD c []).getD j false
def am_isz (c j : Nat) : Bool := (am_bools.getD c []).getD j false
def am_nf (c : Nat) : Nat := am_nfs.getD c 0
def am_up (D : am_D) (k j : Nat) (v : Int32) : am_D := fun q => if q = k then upd (D k) j v else D q
def am_gl : am_V → Nat → Option Value
  | [], _ => none
  | a :: _, 0 => a
  | _ :: t, n + 1 => am_gl t n
/-- a value of one slot into a local; a long that it cuts is gone -/
def am_s1 : am_V → Nat → Value → (am_V → Prop) → Prop
  | [], _, _, _ => False
  | _ :: t, 0, v, k => k (some v :: t)
  | a :: t, n + 1, v, k => match n with
    | 0 => (match a with
      | some (.long _) => am_s1 t 0 v (fun t' => k (none :: t'))
      | some (.double _) => am_s1 t 0 v (fun t' => k (none :: t'))
      | a' => am_s1 t 0 v (fun t' => k (a' :: t')))
    | n' + 1 => am_s1 t (n' + 1) v (fun t' => k (a :: t'))
/-- a long into two locals -/
def am_s2 : am_V → Nat → Value → (am_V → Prop) → Prop
  | [], _, _, _ => False
  | _ :: t, 0, v, k => (match t with
    | [] => False
    | _ :: t' => k (some v :: none :: t'))
  | a :: t, n + 1, v, k => match n with
    | 0 => (match a with
      | some (.long _) => am_s2 t 0 v (fun t' => k (none :: t'))
      | some (.double _) => am_s2 t 0 v (fun t' => k (none :: t'))
      | a' => am_s2 t 0 v (fun t' => k (a' :: t')))
    | n' + 1 => am_s2 t (n' + 1) v (fun t' => k (a :: t'))
def am_pop : Nat → List Value → List Value → (List Value → List Value → Prop) → Prop
  | 0, st, acc, k => k acc st
  | _ + 1, [], _, _ => False
  | n + 1, v :: st, acc, k => am_pop n st (v :: acc) k
def am_nth {α : Type} : List α → Nat → (α → Prop) → Prop
  | [], _, _ => False
  | x :: _, 0, c => c x
  | _ :: t, n + 1, c => am_nth t n c
def am_w8 : List Value → Nat
  | [] => 0
  | .long _ :: t => am_w8 t + 2
  | .double _ :: t => am_w8 t + 2
  | _ :: t => am_w8 t + 1
/-- calls and ends -/
def am_sE (F : Nat → am_Sp) (K : am_K) (ins : Instr) (nx a b d : Nat) (ls : am_V) (st : List Value) (D : am_D) (L : am_L) (X : am_X) : Prop := match ins with
  | .invokevirtual _ => am_pop b st [] (fun as r => match as with
    | .ref k :: as' => (match Nat.beq (am_tag k) d with
      | true => (match Nat.ble (am_w8 r) 8 with
        | true => F a (.ref k :: as') D L (fun q D' L' => match q with
          | some v => X nx ls (v :: r) D' L'
          | none => X nx ls r D' L')
        | false => False)
      | false => False)
    | _ => False)
  | .invokestatic _ => am_pop b st [] (fun as r => match Nat.ble (am_w8 r) 8 with
    | true => F a as D L (fun q D' L' => match q with
      | some v => X nx ls (v :: r) D' L'
      | none => X nx ls r D' L')
    | false => False)
  | .ireturn => (match st with
    | [.int x] => (match b with
      | 0 => K (some (.int x)) D L
      | _ => (x = 0 ∨ x = 1) ∧ K (some (.int x)) D L)
    | _ => False)
  | .lreturn => (match st with
    | [.long x] => K (some (.long x)) D L
    | _ => False)
  | .areturn => (match st with
    | [.ref x] => K (some (.ref x)) D L
    | [.null] => K (some .null) D L
    | _ => False)
  | .return_ => (match st with
    | [] => K none D L
    | _ => False)
  | _ => False
/-- the heap -/
def am_sD (lw : Bool) (n : Nat) (F : Nat → am_Sp) (K : am_K) (ins : Instr) (nx a b d : Nat) (v : Int32) (ls : am_V) (st : List Value) (D : am_D) (L : am_L) (X : am_X) : Prop := match ins with
  | .getfield _ => (match st with
    | .ref k :: r => (match Nat.beq (am_tag k) b with
      | true => (match d with
        | 0 => X nx ls (.int (D k a) :: r) D L
        | _ => am_nth am_rhos k (fun row => am_nth row a (fun q => X nx ls (.ref q :: r) D L)))
      | false => False)
    | _ => False)
  | .putfield _ => (match st with
    | .int x :: .ref k :: r => (match Nat.beq (am_tag k) b with
      | true => (match d with
        | 0 => X nx ls r (am_up D k a x) L
        | _ => (x = 0 ∨ x = 1) ∧ X nx ls r (am_up D k a x) L)
      | false => False)
    | _ => False)
  | .iaload => (match st with
    | .int i :: .ref k :: r => (match Nat.beq (am_tag k) 100 with
      | true => vp_in i (am_len k) ∧ X nx ls (.int (D k i.toNatClampNeg) :: r) D L
      | false => (match lw with
        | true => (match Nat.beq k 79 with
          | true => vp_in i n ∧ X nx ls (.int (D 79 i.toNatClampNeg) :: r) D L
          | false => False)
        | false => False))
    | _ => False)
  | .iastore => (match st with
    | .int x :: .int i :: .ref k :: r => (match Nat.beq (am_tag k) 100 with
      | true => vp_in i (am_len k) ∧ X nx ls r (am_up D k i.toNatClampNeg x) L
      | false => False)
    | _ => False)
  | .baload => (match st with
    | .int i :: .ref k :: r => (match Nat.beq (am_tag k) 101 with
      | true => vp_in i (am_len k) ∧ X nx ls (.int (D k i.toNatClampNeg) :: r) D L
      | false => False)
    | _ => False)
  | .bastore => (match st with
    | .int x :: .int i :: .ref k :: r => (match Nat.beq (am_tag k) 101 with
      | true => (x = 0 ∨ x = 1) ∧ vp_in i (am_len k) ∧ X nx ls r (am_up D k i.toNatClampNeg x) L
      | false => False)
    | _ => False)
  | .laload => (match st with
    | .int i :: .ref k :: r => (match Nat.beq (am_tag k) 102 with
      | true => vp_in i (am_len k) ∧ X nx ls (.long (L i.toNatClampNeg) :: r) D L
      | false => False)
    | _ => False)
  | .lastore => (match st with
    | .long x :: .int i :: .ref k :: r => (match Nat.beq (am_tag k) 102 with
      | true => vp_in i (am_len k) ∧ X nx ls r D (vp_updL L i.toNatClampNeg x)
      | false => False)
    | _ => False)
  | .aaload => (match st with
    | .int i :: .ref k :: r => (match Nat.beq (am_tag k) 103 with
      | true => vp_in i (am_len k) ∧ X nx ls (.ref (am_rho k i.toNatClampNeg) :: r) D L
      | false => False)
    | _ => False)
  | .arraylength => (match st with
    | .ref k :: r => (match Nat.ble 100 (am_tag k) with
      | true => (match Nat.ble (am_tag k) 103 with
        | true => X nx ls (.int (Int32.ofNat (am_len k)) :: r) D L
        | false => (match lw with
          | true => (match Nat.beq k 79 with
            | true => X nx ls (.int (Int32.ofNat n) :: r) D L
            | false => False)
          | false => False))
      | false => False)
    | _ => False)
  | ins => am_sE F K ins nx a b d ls st D L X
/-- branches -/
def am_sC (lw : Bool) (n : Nat) (F : Nat → am_Sp) (K : am_K) (pc : Nat) (ins : Instr) (nx a b d : Nat) (v : Int32) (ls : am_V) (st : List Value) (D : am_D) (L : am_L) (X : am_X) : Prop := match ins with
  | .goto _ => X a ls st D L
  | .if_icmp cd _ => (match st with
    | .int y :: .int x :: r => (match cd with
      | .eq => (x = y → X a ls r D L) ∧ (¬ x = y → X nx ls r D L)
      | .ne => (¬ x = y → X a ls r D L) ∧ (x = y → X nx ls r D L)
      | .lt => (x < y → X a ls r D L) ∧ (¬ x < y → X nx ls r D L)
      | .ge => (y ≤ x → X a ls r D L) ∧ (¬ y ≤ x → X nx ls r D L)
      | .gt => (y < x → X a ls r D L) ∧ (¬ y < x → X nx ls r D L)
      | .le => (x ≤ y → X a ls r D L) ∧ (¬ x ≤ y → X nx ls r D L))
    | _ => False)
  | .ifCond cd _ => (match st with
    | .int x :: r => (match cd with
      | .eq => (x = 0 → X a ls r D L) ∧ (¬ x = 0 → X nx ls r D L)
      | .ne => (¬ x = 0 → X a ls r D L) ∧ (x = 0 → X nx ls r D L)
      | .lt => (x < 0 → X a ls r D L) ∧ (¬ x < 0 → X nx ls r D L)
      | .ge => (0 ≤ x → X a ls r D L) ∧ (¬ 0 ≤ x → X nx ls r D L)
      | .gt => (0 < x → X a ls r D L) ∧ (¬ 0 < x → X nx ls r D L)
      | .le => (x ≤ 0 → X a ls r D L) ∧ (¬ x ≤ 0 → X nx ls r D L))
    | _ => False)
  | .ifnull _ => (match st with
    | .ref _ :: r => X nx ls r D L
    | .null :: r => X a ls r D L
    | _ => False)
  | .ifnonnull _ => (match st with
    | .ref _ :: r => X a ls r D L
    | .null :: r => X nx ls r D L
    | _ => False)
  | .tableswitch _ lo hi offs => (match st with
    | .int x :: r => (∀ (i : Nat) (o : Int), offs[i]? = some o → x.toInt = lo + i → X ((pc : Int) + o).toNat ls r D L) ∧ (x.toInt < lo ∨ hi < x.toInt → X a ls r D L)
    | _ => False)
  | ins => am_sD lw n F K ins nx a b d v ls st D L X
/-- arithmetic -/
def am_sB (lw : Bool) (n : Nat) (F : Nat → am_Sp) (K : am_K) (pc : Nat) (ins : Instr) (nx a b d : Nat) (v : Int32) (ls : am_V) (st : List Value) (D : am_D) (L : am_L) (X : am_X) : Prop := match ins with
  | .iadd => (match st with
    | .int y :: .int x :: r => X nx ls (.int (x + y) :: r) D L
    | _ => False)
  | .isub => (match st with
    | .int y :: .int x :: r => X nx ls (.int (x - y) :: r) D L
    | _ => False)
  | .imul => (match st with
    | .int y :: .int x :: r => X nx ls (.int (x * y) :: r) D L
    | _ => False)
  | .iand => (match st with
    | .int y :: .int x :: r => X nx ls (.int (x &&& y) :: r) D L
    | _ => False)
  | .ior => (match st with
    | .int y :: .int x :: r => X nx ls (.int (x ||| y) :: r) D L
    | _ => False)
  | .ixor => (match st with
    | .int y :: .int x :: r => X nx ls (.int (x ^^^ y) :: r) D L
    | _ => False)
  | .ishl => (match st with
    | .int y :: .int x :: r => X nx ls (.int (x <<< (y &&& 31)) :: r) D L
    | _ => False)
  | .ishr => (match st with
    | .int y :: .int x :: r => X nx ls (.int (x >>> (y &&& 31)) :: r) D L
    | _ => False)
  | .iushr => (match st with
    | .int y :: .int x :: r => X nx ls (.int ((x.toUInt32 >>> (y.toUInt32 &&& Int32.toUInt32 31)).toInt32) :: r) D L
    | _ => False)
  | .idiv => (match st with
    | .int y :: .int x :: r => ¬ y = 0 ∧ X nx ls (.int (x / y) :: r) D L
    | _ => False)
  | .irem => (match st with
    | .int y :: .int x :: r => ¬ y = 0 ∧ X nx ls (.int (x - x / y * y) :: r) D L
    | _ => False)
  | .ineg => (match st with
    | .int x :: r => X nx ls (.int (-x) :: r) D L
    | _ => False)
  | .ladd => (match st with
    | .long y :: .long x :: r => X nx ls (.long (x + y) :: r) D L
    | _ => False)
  | .lsub => (match st with
    | .long y :: .long x :: r => X nx ls (.long (x - y) :: r) D L
    | _ => False)
  | .lmul => (match st with
    | .long y :: .long x :: r => X nx ls (.long (x * y) :: r) D L
    | _ => False)
  | .ldiv => (match st with
    | .long y :: .long x :: r => ¬ y = 0 ∧ X nx ls (.long (x / y) :: r) D L
    | _ => False)
  | .lrem => (match st with
    | .long y :: .long x :: r => ¬ y = 0 ∧ X nx ls (.long (x - x / y * y) :: r) D L
    | _ => False)
  | .lshl => (match st with
    | .int y :: .long x :: r => X nx ls (.long (x <<< (y.toInt64 &&& 63)) :: r) D L
    | _ => False)
  | .lcmp => (match st with
    | .long y :: .long x :: r => X nx ls (.int (lg_cmp x y) :: r) D L
    | _ => False)
  | .i2l => (match st with
    | .int x :: r => X nx ls (.long x.toInt64 :: r) D L
    | _ => False)
  | .i2b => (match st with
    | .int x :: r => X nx ls (.int x.toInt8.toInt32 :: r) D L
    | _ => False)
  | .i2s => (match st with
    | .int x :: r => X nx ls (.int x.toInt16.toInt32 :: r) D L
    | _ => False)
  | ins => am_sC lw n F K pc ins nx a b d v ls st D L X
/-- constants, locals, the stack -/
def am_sA (lw : Bool) (n : Nat) (F : Nat → am_Sp) (K : am_K) (pc : Nat) (ins : Instr) (nx a b d : Nat) (v : Int32) (w : Int64) (ls : am_V) (st : List Value) (D : am_D) (L : am_L) (X : am_X) : Prop := match ins with
  | .iconst _ => X nx ls (.int v :: st) D L
  | .bipush _ => X nx ls (.int v :: st) D L
  | .sipush _ => X nx ls (.int v :: st) D L
  | .ldc _ => X nx ls (.int v :: st) D L
  | .ldc_w _ => X nx ls (.int v :: st) D L
  | .lconst _ => X nx ls (.long w :: st) D L
  | .ldc2_w _ => X nx ls (.long w :: st) D L
  | .aconst_null => X nx ls (.null :: st) D L
  | .iload _ => (match am_gl ls a with
    | some (.int x) => X nx ls (.int x :: st) D L
    | _ => False)
  | .iload_n _ => (match am_gl ls a with
    | some (.int x) => X nx ls (.int x :: st) D L
    | _ => False)
  | .lload _ => (match am_gl ls a with
    | some (.long x) => X nx ls (.long x :: st) D L
    | _ => False)
  | .lload_n _ => (match am_gl ls a with
    | some (.long x) => X nx ls (.long x :: st) D L
    | _ => False)
  | .aload _ => (match am_gl ls a with
    | some (.ref x) => X nx ls (.ref x :: st) D L
    | some .null => X nx ls (.null :: st) D L
    | _ => False)
  | .aload_n _ => (match am_gl ls a with
    | some (.ref x) => X nx ls (.ref x :: st) D L
    | some .null => X nx ls (.null :: st) D L
    | _ => False)
  | .istore _ => (match st with
    | .int x :: r => am_s1 ls a (.int x) (fun ls' => X nx ls' r D L)
    | _ => False)
  | .istore_n _ => (match st with
    | .int x :: r => am_s1 ls a (.int x) (fun ls' => X nx ls' r D L)
    | _ => False)
  | .lstore _ => (match st with
    | .long x :: r => am_s2 ls a (.long x) (fun ls' => X nx ls' r D L)
    | _ => False)
  | .lstore_n _ => (match st with
    | .long x :: r => am_s2 ls a (.long x) (fun ls' => X nx ls' r D L)
    | _ => False)
  | .astore _ => (match st with
    | .ref x :: r => am_s1 ls a (.ref x) (fun ls' => X nx ls' r D L)
    | .null :: r => am_s1 ls a .null (fun ls' => X nx ls' r D L)
    | _ => False)
  | .astore_n _ => (match st with
    | .ref x :: r => am_s1 ls a (.ref x) (fun ls' => X nx ls' r D L)
    | .null :: r => am_s1 ls a .null (fun ls' => X nx ls' r D L)
    | _ => False)
  | .iinc _ _ => (match am_gl ls a with
    | some (.int x) => am_s1 ls a (.int (x + v)) (fun ls' => X nx ls' st D L)
    | _ => False)
  | .dup => (match st with
    | .int x :: r => X nx ls (.int x :: .int x :: r) D L
    | .ref x :: r => X nx ls (.ref x :: .ref x :: r) D L
    | _ => False)
  | .dup2 => (match st with
    | .int x :: .ref y :: r => X nx ls (.int x :: .ref y :: .int x :: .ref y :: r) D L
    | _ => False)
  | .pop => (match st with
    | .int _ :: r => X nx ls r D L
    | _ => False)
  | ins => am_sB lw n F K pc ins nx a b d v ls st D L X
def am_st (lw : Bool) (n : Nat) (C : Nat → Option am_I) (F : Nat → am_Sp) (K : am_K) (pc : Nat) (ls : am_V) (st : List Value) (D : am_D) (L : am_L) (X : am_X) : Prop := match C pc with
  | some (ins, nx, a, b, d, v, w) => am_sA lw n F K pc ins nx a b d v w ls st D L X
  | none => False
/-- it comes to an end, and K holds there -/
def am_Wp (lw : Bool) (n : Nat) (C : Nat → Option am_I) (F : Nat → am_Sp) (K : am_K) : am_X := fun pc ls st D L =>
  ∀ X : am_X, (∀ pc ls st D L, am_st lw n C F K pc ls st D L X → X pc ls st D L) → X pc ls st D L
/-- up to k steps, or to one of the places hs -/
def am_bl (lw : Bool) (n : Nat) (C : Nat → Option am_I) (F : Nat → am_Sp) (K : am_K) (X : am_X) (hs : List Nat) : Nat → am_X
  | 0 => X
  | k + 1 => fun pc ls st D L => am_st lw n C F K pc ls st D L (fun pc' ls' st' D' L' => match hs.elem pc' with
    | true => X pc' ls' st' D' L'
    | false => am_bl lw n C F K X hs k pc' ls' st' D' L')
