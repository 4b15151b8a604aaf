/-! THE PURE MACHINE: what the methods do, over a memory of numbered cells; no step of the printed machine is spoken of here. Part 06 holds the printed machine against it. -/
/-- a value: a number, a cell (its number), or another value of the machine as it is -/
abbrev JV : Type := Int ⊕ (Nat ⊕ Value)
/-- memory: shapes (class or kind of array, size), values, cells made, slots made, whether cells may still be numbered, the script -/
abbrev JM : Type := List (Nat × Nat) × (Nat → Nat → JV) × Nat × Nat × Bool × (Nat × (Nat → Int))
abbrev JO : Type := Option JV ⊕ Nat
abbrev JR : Type := (Nat × List JV × List JV × JM) ⊕ ((Nat × List JV × List JV) ⊕ (JO × JM))
abbrev jI (z : Int) : JV := .inl z
abbrev jR (i : Nat) : JV := .inr (.inl i)
abbrev jX (v : Value) : JV := .inr (.inr v)
abbrev jU : JV := .inr (.inr (.retAddr 0))
def jsh (M : JM) (i : Nat) : Option (Nat × Nat) := M.1[i]?
def jget (M : JM) (i k : Nat) : JV := M.2.1 i k
def jset (M : JM) (i k : Nat) (v : JV) : JM := (M.1, fun a j => if a = i ∧ j = k then v else M.2.1 a j, M.2.2)
def jpush (M : JM) (t n : Nat) (f : Nat → JV) : JM := (M.1 ++ [(t, n)], fun a j => if a = M.1.length then f j else M.2.1 a j, M.2.2.1 + 1, M.2.2.2.1 + n, M.2.2.2.2)
def jthrow (M : JM) : JM := (M.1, M.2.1, M.2.2.1 + 1, M.2.2.2.1 + 6, false, M.2.2.2.2.2)
def jcells (M : JM) : Nat := M.2.2.1
def jslots (M : JM) : Nat := M.2.2.2.1
def jclean (M : JM) : Bool := M.2.2.2.2.1
def jL (M : JM) : Nat := M.2.2.2.2.2.1
def jxs (M : JM) : Nat → Int := M.2.2.2.2.2.2
/-- one reference -/
def jeqr : JV → JV → Bool
  | .inr (.inl i), .inr (.inl j) => decide (i = j)
  | .inr (.inr .null), .inr (.inr .null) => true
  | _, _ => false
/-- two references that may be compared -/
def jap : JV → JV → Bool
  | .inr (.inl i), .inr (.inl j) => decide (i = j ∨ (i < 1000000 ∧ j < 1000000))
  | _, _ => true
def jleq : JV → JV → Bool
  | .inr (.inr (.long x)), .inr (.inr (.long y)) => decide (x = y)
  | _, _ => false
def jnl : JV → Bool
  | .inr (.inl _) => true
  | .inr (.inr .null) => true
  | _ => false
/-- 32 bits -/
def wr (z : Int) : Int := z.bmod 4294967296
def jand (x y : Int) : Int := (Int32.ofInt x &&& Int32.ofInt y).toInt
def jshr (x y : Int) : Int := (Int32.ofInt x >>> (Int32.ofInt y &&& 31)).toInt
def jushr (x y : Int) : Int := (((Int32.ofInt x).toUInt32 >>> ((Int32.ofInt y).toUInt32 &&& Int32.toUInt32 31)).toInt32).toInt
def jor (x y : Int) : Int := (Int32.ofInt x ||| Int32.ofInt y).toInt
def jshl (x y : Int) : Int := (Int32.ofInt x <<< (Int32.ofInt y &&& 31)).toInt
def jdiv (x y : Int) : Int := (Int32.ofInt x / Int32.ofInt y).toInt
def jrem (x y : Int) : Int := (Int32.ofInt x - Int32.ofInt x / Int32.ofInt y * Int32.ofInt y).toInt
def jb8 (x : Int) : Int := ((Int32.ofInt x).toInt8.toInt32).toInt
def jc16 (x : Int) : Int := (((Int32.ofInt x).toUInt32 % 65536).toInt32).toInt
def jfields (a : Nat) : List (String × String × String × Bool) := (jFs.getD a ("", [])).2
def jkd (d : String) : Nat := if d = "I" then 0 else if d = "Z" then 1 else if d = "B" then 3 else 2
def jdef (a k : Nat) : JV := if jkd ((jfields a).getD k ("", "", "", false)).2.2.1 = 2 then jX .null else jI 0
/-- the literals' bytes -/
def jlit : Nat → List Int
  | 0 => [115, 121, 115, 116, 101, 109]
  | 1 => [115, 121, 109, 98, 111, 108]
  | 2 => [114, 117, 108, 101]
  | 3 => [116, 101, 114, 109]
  | 4 => [99, 111, 112, 121]
  | 5 => [102, 108, 105, 112]
  | 6 => [115, 116, 101, 112]
  | 7 => [115, 121, 115, 116, 101, 109, 59, 115, 121, 109, 98, 111, 108, 32, 102, 32, 50, 59, 115, 121, 109, 98, 111, 108, 32, 103, 32, 49, 59, 115, 121, 109, 98, 111, 108, 32, 97, 32, 48, 59, 115, 121, 109, 98, 111, 108, 32, 98, 32, 48]
  | 8 => [59, 114, 117, 108, 101, 32]
  | 9 => [102, 103, 97, 98]
  | 10 => [32, 61, 32]
  | 11 => [59, 116, 101, 114, 109, 32]
  | 12 => [59, 99, 111, 112, 121, 32, 49]
  | _ => [59, 115, 116, 101, 112, 32, 48]
def jc2 : JV → Bool
  | .inr (.inr (.long _)) => true
  | .inr (.inr (.double _)) => true
  | _ => false
def jld (ls : List JV) (i : Nat) : JV := ls.getD i jU
def jsto (ls : List JV) (i : Nat) (v : JV) : Option (List JV) := if jc2 ((jU :: ls).getD i jU) = false ∧ i < ls.length then some (ls.set i v) else none
def jsto2 (ls : List JV) (i : Nat) (v : JV) : Option (List JV) := if jc2 ((jU :: ls).getD i jU) = false ∧ i + 1 < ls.length then some ((ls.set i v).set (i + 1) jU) else none
/-- the tag of a cell: a class (below 50; 15: String), an array (100 ..), none -/
def jtag (M : JM) (i : Nat) : Nat := if i < 1000000 then ((jsh M i).getD (99, 0)).1 else if 2000000 ≤ i ∧ i < 2000014 then 15 else 99
def jlen (M : JM) (i : Nat) : Option Nat :=
  if i < 1000000 then (match jsh M i with | some (t, n) => if 100 ≤ t then some n else none | none => none)
  else if i = 1000000 then some (jL M) else if i = 1000001 then some 0 else if 3000000 ≤ i ∧ i < 3000014 then some (jlit (i - 3000000)).length else none
def jm0 : JMeth := (⟨"", "", ""⟩, ⟨#[]⟩, 0, none, [], [], 0, false, 0, [])
def jcode (mi pc : Nat) : Option JI := ((jmeths.getD mi jm0).2.2.2.2.2.2.2.2.2).lookup pc
def jmaxL (mi : Nat) : Nat := (jmeths.getD mi jm0).2.2.1
def jhh (mi : Nat) : List (Nat × Nat × Nat × Nat) := (jmeths.getD mi jm0).2.2.2.2.1
def jown (mi : Nat) : String := (jmeths.getD mi jm0).1.cls
/-- the class whose methods they are, by its number -/
def jcls (mi : Nat) : Nat := if jown mi = "java/lang/AbstractStringBuilder" then 14 else jFs.findIdx (fun q => q.1 == jown mi)
def jN (pc : Nat) (ls st : List JV) (M : JM) : Option JR := some (.inl (pc, ls, st, M))
def jF (v : Option JV) (M : JM) : Option JR := some (.inr (.inr (.inl v, M)))
def jNo (pc : Nat) (o : Option (List JV)) (st : List JV) (M : JM) : Option JR := match o with
  | some ls => jN pc ls st M
  | none => none
/-- words of a stack -/
def jwds (st : List JV) : Nat := (st.map fun v => if jc2 v = true then 2 else 1).sum
/-- a call: n values beside the receiver -/
def jcall (y n : Nat) (virt : Bool) (recv : Bool) (ls st : List JV) (M : JM) : Option JR :=
  let k := if recv then n + 1 else n
  if k ≤ st.length ∧ jwds (st.drop k) ≤ 8 ∧ ((st.take k).all fun v => !jc2 v) = true then
    match recv, (st.take k).reverse with
    | true, .inr (.inl i) :: _ => if virt = false ∨ jtag M i = jcls y then some (.inr (.inl (y, (st.take k).reverse, st.drop k))) else none
    | true, _ => none
    | false, as => some (.inr (.inl (y, as, st.drop k)))
  else none
def jfit (kind : Nat) (v : JV) : Bool := match kind, v with
  | 0, .inl _ => true
  | 1, .inl z => z == 0 || z == 1
  | 2, .inr (.inl _) => true
  | 2, .inr (.inr .null) => true
  | 3, .inl z => decide (-128 ≤ z ∧ z ≤ 127)
  | _, _ => false
def jret (kind : Nat) (z : Int) : Bool := match kind with
  | 0 => true
  | 1 => z == 0 || z == 1
  | 2 => decide (-128 ≤ z ∧ z ≤ 127)
  | _ => decide (0 ≤ z ∧ z ≤ 65535)
def jnan32 (r : UInt32) : Bool := decide (r &&& 0x7fffffff ≤ 0x7f800000)
def jnan64 (r : UInt64) : Bool := decide (r &&& 0x7fffffffffffffff ≤ 0x7ff0000000000000)
def jld1 (x : JV) (st : List JV) (pc : Nat) (ls : List JV) (M : JM) : Option JR := match x with
  | .inl z => jN pc ls (.inl z :: st) M
  | _ => none
def jld2 (x : JV) (st : List JV) (pc : Nat) (ls : List JV) (M : JM) : Option JR := match x with
  | .inr (.inl i) => jN pc ls (.inr (.inl i) :: st) M
  | .inr (.inr .null) => jN pc ls (jX .null :: st) M
  | _ => none
def jldf (x : JV) (st : List JV) (pc : Nat) (ls : List JV) (M : JM) : Option JR := match x with
  | .inr (.inr (.float b)) => jN pc ls (jX (.float b) :: st) M
  | _ => none
def jldd (x : JV) (st : List JV) (pc : Nat) (ls : List JV) (M : JM) : Option JR := match x with
  | .inr (.inr (.double b)) => jN pc ls (jX (.double b) :: st) M
  | _ => none
def jst1 (i : Nat) (st : List JV) (pc : Nat) (ls : List JV) (M : JM) : Option JR := match st with
  | .inl z :: r => jNo pc (jsto ls i (.inl z)) r M
  | _ => none
def jst2 (i : Nat) (st : List JV) (pc : Nat) (ls : List JV) (M : JM) : Option JR := match st with
  | .inr (.inl k) :: r => jNo pc (jsto ls i (.inr (.inl k))) r M
  | .inr (.inr .null) :: r => jNo pc (jsto ls i (jX .null)) r M
  | _ => none
def jbr (c : Bool) (t f : Nat) (ls st : List JV) (M : JM) : Option JR := if c = true then jN t ls st M else jN f ls st M
def jcond (c : Jvm.ClassFile.Cond) (x y : Int) : Bool := match c with
  | .eq => decide (x = y)
  | .ne => decide (¬ x = y)
  | .lt => decide (x < y)
  | .ge => decide (y ≤ x)
  | .gt => decide (y < x)
  | .le => decide (x ≤ y)
def jwrite (t : Nat) (i : Nat) (k : Int) (v : JV) (pc : Nat) (ls st : List JV) (M : JM) : Option JR := match jsh M i with
  | some (t', n) => if i < 1000000 ∧ t' = t ∧ 0 ≤ k ∧ k.toNat < n then jN pc ls st (jset M i k.toNat v) else none
  | none => none
def jread (t : Nat) (i : Nat) (k : Int) (pc : Nat) (ls st : List JV) (M : JM) : Option JR := match jsh M i with
  | some (t', n) => if i < 1000000 ∧ t' = t ∧ 0 ≤ k ∧ k.toNat < n then jN pc ls (jget M i k.toNat :: st) M else none
  | none => none
/-- bytes copied: from a text's row, or from another cell -/
def jsrc (M : JM) (i k : Nat) : JV := if 3000000 ≤ i ∧ i < 3000014 then jI ((jlit (i - 3000000)).getD k 0) else jget M i k
def jbytes (M : JM) (i : Nat) : Option Nat := if 3000000 ≤ i ∧ i < 3000014 then some (jlit (i - 3000000)).length else match jsh M i with
  | some (t, n) => if i < 1000000 ∧ t = 101 then some n else none
  | none => none
def jby1 (v : JV) : Bool := match v with
  | .inl z => decide (-128 ≤ z ∧ z ≤ 127)
  | _ => false
def jcopied (M : JM) (src sp dst dp n : Nat) : JM := (M.1, fun a j => if a = dst ∧ dp ≤ j ∧ j < dp + n then jsrc M src (sp + (j - dp)) else M.2.1 a j, M.2.2)
/-- methods that are called as super's own -/
def jsup (a : Nat) : Bool := decide (a = m_ASB_append ∨ a = m_ASB_appendC ∨ a = m_ASB_length)
def jcopy (pc : Nat) (ls st : List JV) (M : JM) : Option JR := match st with
  | .inl n :: .inl dp :: .inr (.inl dst) :: .inl sp :: .inr (.inl src) :: r => (match jbytes M src, jsh M dst with
    | some a, some (t, b) => if dst < 1000000 ∧ t = 101 ∧ src ≠ dst ∧ 0 ≤ n ∧ 0 ≤ sp ∧ 0 ≤ dp ∧ sp + n ≤ (a : Int) ∧ dp + n ≤ (b : Int) ∧ r.length ≤ 3 ∧ (r.all fun v => !jc2 v) = true ∧ ((List.range n.toNat).all fun k => jby1 (jsrc M src (sp.toNat + k))) = true then jN (pc + 3) ls r (jcopied M src sp.toNat dst dp.toNat n.toNat) else none
    | _, _ => none)
  | _ => none
def jclone (pc : Nat) (ls st : List JV) (M : JM) : Option JR := match st with
  | .inr (.inl i) :: r => (match jsh M i with
    | some (t, n) => if i < 1000000 ∧ t = 101 ∧ n < 60000000 ∧ jclean M = true ∧ M.1.length < 1000000 ∧ r.length ≤ 3 ∧ (r.all fun v => !jc2 v) = true ∧ ((List.range n).all fun k => jby1 (jget M i k)) = true then jN (pc + 3) ls (jR M.1.length :: r) (jpush M 101 n (fun k => jget M i k)) else none
    | none => none)
  | _ => none
def jfilled (M : JM) (i : Nat) (v : JV) : JM := (M.1, fun a j => if a = i then v else M.2.1 a j, M.2.2)
def jfill (pc : Nat) (ls st : List JV) (M : JM) : Option JR := match st with
  | .inr (.inr (.long v)) :: .inr (.inl i) :: r => (match jsh M i with
    | some (t, n) => if i < 1000000 ∧ t = 103 ∧ n < 60000000 ∧ r = [] then jN (pc + 3) ls r (jfilled M i (jX (.long v))) else none
    | none => none)
  | _ => none
/-- two long rows that hold the same -/
def jsame (pc : Nat) (ls st : List JV) (M : JM) : Option JR := match st with
  | .inr (.inl j) :: .inr (.inl i) :: r => if jsh M i = some (103, 60) ∧ jsh M j = some (103, 60) ∧ i < j ∧ j < 1000000 ∧ r = [] ∧ ((List.range 60).all fun k => jleq (jget M i k) (jget M j k)) = true then jN (pc + 3) ls (jI 1 :: r) M else none
  | _ => none
/-- how long the call's row is -/
def jrl (x : JI) : Nat := match x.1 with
  | .invokeinterface _ _ => 5
  | _ => 3
def jstep (x : JI) (pc : Nat) (ls st : List JV) (M : JM) : Option JR :=
  match x with
  | (ins, len, a, b, _) => match ins with
    | .aload_n k => jld2 (jld ls k) st (pc + 1) ls M
    | .aload i => jld2 (jld ls i) st (pc + 2) ls M
    | .iload_n k => jld1 (jld ls k) st (pc + 1) ls M
    | .iload i => jld1 (jld ls i) st (pc + 2) ls M
    | .istore_n k => jst1 k st (pc + 1) ls M
    | .istore i => jst1 i st (pc + 2) ls M
    | .astore_n k => jst2 k st (pc + 1) ls M
    | .astore i => jst2 i st (pc + 2) ls M
    | .iinc i n => (match jld ls i with | .inl z => jNo (pc + 3) (jsto ls i (.inl (wr (z + n)))) st M | _ => none)
    | .iconst n => jN (pc + 1) ls (jI n :: st) M
    | .bipush n => jN (pc + 2) ls (jI n :: st) M
    | .sipush n => jN (pc + 3) ls (jI n :: st) M
    | .lconst n => jN (pc + 1) ls (jX (.long (Int64.ofNat n)) :: st) M
    | .ldc _ => if b = 0 then jN (pc + 2) ls (jI ((a : Int) - 2147483648) :: st) M else if b = 1 then jN (pc + 2) ls (jR (2000000 + a) :: st) M else none
    | .ldc_w _ => if b = 0 then jN (pc + 3) ls (jI ((a : Int) - 2147483648) :: st) M else if b = 1 then jN (pc + 3) ls (jR (2000000 + a) :: st) M else none
    | .getstatic _ => if a = 0 then jN (pc + 3) ls (jI 1 :: st) M else if a = 1 then jN (pc + 3) ls (jR 1000001 :: st) M else none
    | .aconst_null => jN (pc + 1) ls (jX .null :: st) M
    | .ldc2_w _ => jN (pc + 3) ls (jX (.long (Int64.ofNat a)) :: st) M
    | .ior => (match st with | .inl y :: .inl x :: r => jN (pc + 1) ls (.inl (jor x y) :: r) M | _ => none)
    | .ishl => (match st with | .inl y :: .inl x :: r => jN (pc + 1) ls (.inl (jshl x y) :: r) M | _ => none)
    | .idiv => (match st with | .inl y :: .inl x :: r => if 0 < y ∧ y < 2147483648 then jN (pc + 1) ls (.inl (jdiv x y) :: r) M else none | _ => none)
    | .irem => (match st with | .inl y :: .inl x :: r => if 0 < y ∧ y < 2147483648 then jN (pc + 1) ls (.inl (jrem x y) :: r) M else none | _ => none)
    | .ladd => (match st with | .inr (.inr (.long y)) :: .inr (.inr (.long x)) :: r => jN (pc + 1) ls (jX (.long (x + y)) :: r) M | _ => none)
    | .lsub => (match st with | .inr (.inr (.long y)) :: .inr (.inr (.long x)) :: r => jN (pc + 1) ls (jX (.long (x - y)) :: r) M | _ => none)
    | .lmul => (match st with | .inr (.inr (.long y)) :: .inr (.inr (.long x)) :: r => jN (pc + 1) ls (jX (.long (x * y)) :: r) M | _ => none)
    | .l2i => (match st with | .inr (.inr (.long x)) :: r => jN (pc + 1) ls (.inl x.toInt32.toInt :: r) M | _ => none)
    | .dup_x1 => (match st with | v :: w :: r => if jc2 v = false ∧ jc2 w = false then jN (pc + 1) ls (v :: w :: v :: r) M else none | _ => none)
    | .checkcast _ => (match st with
      | .inr (.inl i) :: r => if jtag M i = a ∧ i < 1000000 then jN (pc + 3) ls (.inr (.inl i) :: r) M else none
      | .inr (.inr .null) :: r => jN (pc + 3) ls (jX .null :: r) M
      | _ => none)
    | .if_acmp c _ => (match st with
      | v :: w :: r => if jnl v = true ∧ jnl w = true ∧ jap w v = true then jbr (match c with | .eq => jeqr w v | .ne => !jeqr w v) a (pc + 3) ls r M else none
      | _ => none)
    | .iadd => (match st with | .inl y :: .inl x :: r => jN (pc + 1) ls (.inl (wr (x + y)) :: r) M | _ => none)
    | .isub => (match st with | .inl y :: .inl x :: r => jN (pc + 1) ls (.inl (wr (x - y)) :: r) M | _ => none)
    | .imul => (match st with | .inl y :: .inl x :: r => jN (pc + 1) ls (.inl (wr (x * y)) :: r) M | _ => none)
    | .iand => (match st with | .inl y :: .inl x :: r => jN (pc + 1) ls (.inl (jand x y) :: r) M | _ => none)
    | .ishr => (match st with | .inl y :: .inl x :: r => jN (pc + 1) ls (.inl (jshr x y) :: r) M | _ => none)
    | .iushr => (match st with | .inl y :: .inl x :: r => jN (pc + 1) ls (.inl (jushr x y) :: r) M | _ => none)
    | .i2b => (match st with | .inl x :: r => jN (pc + 1) ls (.inl (jb8 x) :: r) M | _ => none)
    | .i2c => (match st with | .inl x :: r => jN (pc + 1) ls (.inl (jc16 x) :: r) M | _ => none)
    | .i2l => (match st with | .inl x :: r => jN (pc + 1) ls (jX (.long (Int32.ofInt x).toInt64) :: r) M | _ => none)
    | .lcmp => (match st with | .inr (.inr (.long y)) :: .inr (.inr (.long x)) :: r => jN (pc + 1) ls (.inl (lg_cmp x y).toInt :: r) M | _ => none)
    | .dup => (match st with | v :: r => if jc2 v = false then jN (pc + 1) ls (v :: v :: r) M else none | _ => none)
    | .dup2 => (match st with | v :: w :: r => if jc2 v = false ∧ jc2 w = false then jN (pc + 1) ls (v :: w :: v :: w :: r) M else none | _ => none)
    | .pop => (match st with | v :: r => if jc2 v = false then jN (pc + 1) ls r M else none | _ => none)
    | .goto _ => jN a ls st M
    | .ifCond c _ => (match st with | .inl x :: r => jbr (jcond c x 0) a (pc + 3) ls r M | _ => none)
    | .if_icmp c _ => (match st with | .inl y :: .inl x :: r => jbr (jcond c x y) a (pc + 3) ls r M | _ => none)
    | .ifnull _ => (match st with | .inr (.inl _) :: r => jN (pc + 3) ls r M | .inr (.inr .null) :: r => jN a ls r M | _ => none)
    | .ifnonnull _ => (match st with | .inr (.inl _) :: r => jN a ls r M | .inr (.inr .null) :: r => jN (pc + 3) ls r M | _ => none)
    | .getfield _ => (match st with
      | .inr (.inl i) :: r => if a = 15 ∧ 2000000 ≤ i ∧ i < 2000014 then (if b < 2 then jN (pc + 3) ls ((if b = 0 then jR (i + 1000000) else jI 0) :: r) M else none)
          else (match jsh M i with | some (t, n) => if i < 1000000 ∧ t = a % 100 ∧ b < n then jN (pc + 3) ls (jget M i b :: r) M else none | none => none)
      | _ => none)
    | .putfield _ => (match st with
      | v :: .inr (.inl i) :: r => (match jsh M i with | some (t, n) => if i < 1000000 ∧ t = a % 100 ∧ b < n ∧ jfit (a / 100) v = true then jN (pc + 3) ls r (jset M i b v) else none | none => none)
      | _ => none)
    | .arraylength => (match st with
      | .inr (.inl i) :: r => (match jlen M i with | some n => if n < 2147483648 then jN (pc + 1) ls (jI n :: r) M else none | none => none)
      | _ => none)
    | .iaload => (match st with
      | .inl k :: .inr (.inl i) :: r => if i = 1000000 then (if 0 ≤ k ∧ k < jL M then jN (pc + 1) ls (jI (jxs M k.toNat) :: r) M else none) else jread 100 i k (pc + 1) ls r M
      | _ => none)
    | .baload => (match st with
      | .inl k :: .inr (.inl i) :: r => if 3000000 ≤ i ∧ i < 3000014 then (if 0 ≤ k ∧ k.toNat < (jlit (i - 3000000)).length then jN (pc + 1) ls (jI ((jlit (i - 3000000)).getD k.toNat 0) :: r) M else none) else jread (if jtag M i = 101 then 101 else 102) i k (pc + 1) ls r M
      | _ => none)
    | .laload => (match st with | .inl k :: .inr (.inl i) :: r => jread 103 i k (pc + 1) ls r M | _ => none)
    | .aaload => (match st with | .inl k :: .inr (.inl i) :: r => if 105 ≤ jtag M i then jread (jtag M i) i k (pc + 1) ls r M else none | _ => none)
    | .iastore => (match st with | .inl z :: .inl k :: .inr (.inl i) :: r => jwrite 100 i k (.inl z) (pc + 1) ls r M | _ => none)
    | .bastore => (match st with
      | .inl z :: .inl k :: .inr (.inl i) :: r => if jtag M i = 101 then jwrite 101 i k (.inl (jb8 z)) (pc + 1) ls r M else if z = 0 ∨ z = 1 then jwrite 102 i k (.inl z) (pc + 1) ls r M else none
      | _ => none)
    | .lastore => (match st with | .inr (.inr (.long v)) :: .inl k :: .inr (.inl i) :: r => jwrite 103 i k (jX (.long v)) (pc + 1) ls r M | _ => none)
    | .aastore => (match st with
      | .inr (.inl j) :: .inl k :: .inr (.inl i) :: r => if (jtag M i = 105 + jtag M j ∧ jtag M j < 13) ∨ (jtag M i = 199 ∧ j < 1000000 ∧ (jtag M j = 11 ∨ jtag M j = 116)) then jwrite (jtag M i) i k (.inr (.inl j)) (pc + 1) ls r M else none
      | .inr (.inr .null) :: .inl k :: .inr (.inl i) :: r => if jtag M i = 116 then jwrite 116 i k (jX .null) (pc + 1) ls r M else none
      | _ => none)
    | .new _ => if a < 100 then (if jclean M = true ∧ M.1.length < 1000000 then jN (pc + 3) ls (jR M.1.length :: st) (jpush M a (jfields a).length (jdef a)) else none)
        else if st = [] then some (.inr (.inr (.inr (a - 100), jthrow M))) else none
    | .newarray _ => (match st with
      | .inl z :: r => if jclean M = true ∧ M.1.length < 1000000 ∧ 0 ≤ z ∧ z < 60000000 then jN (pc + 2) ls (jR M.1.length :: r) (jpush M a z.toNat (fun _ => if a = 103 then jX (.long 0) else if a = 104 then jX (.double 0) else jI 0)) else none
      | _ => none)
    | .anewarray _ => (match st with
      | .inl z :: r => if jclean M = true ∧ M.1.length < 1000000 ∧ 0 ≤ z ∧ z < 60000000 then jN (pc + 3) ls (jR M.1.length :: r) (jpush M a z.toNat (fun _ => jX .null)) else none
      | _ => none)
    | .invokestatic _ => if a = 8001 then jcopy pc ls st M else if a = 8003 then jfill pc ls st M else if a = 8004 then jsame pc ls st M else jcall a b false false ls st M
    | .invokevirtual _ => if a = 8002 then jclone pc ls st M else jcall a b true true ls st M
    | .invokeinterface _ _ => jcall a b true true ls st M
    | .invokespecial _ => jcall a (b % 100) (jsup a) true ls st M
    | .ireturn => (match st with | [.inl z] => if jret a z = true then jF (some (.inl z)) M else none | _ => none)
    | .areturn => (match st with | [.inr (.inl i)] => jF (some (.inr (.inl i))) M | [.inr (.inr .null)] => jF (some (jX .null)) M | _ => none)
    | .return_ => if st = [] then jF none M else none
    | .nop => (match ls with | [.inl k, .inl n] => if 0 ≤ k ∧ k < n then jF none M else none | _ => none)
    | _ => none
def jargs (mi : Nat) (as : List JV) : List JV := as ++ List.replicate (jmaxL mi - as.length) jU
def jrun : Nat → Nat → Nat → List JV → List JV → JM → Option (JO × JM)
  | 0, _, _, _, _, _ => none
  | n + 1, mi, pc, ls, st, M => match jcode mi pc with
    | none => none
    | some x => match jstep x pc ls st M with
      | none => none
      | some (.inl (pc1, ls1, st1, M1)) => jrun n mi pc1 ls1 st1 M1
      | some (.inr (.inr r)) => some r
      | some (.inr (.inl (y, as, st1))) => match jrun n y 0 (jargs y as) [] M with
        | none => none
        | some (.inl v, M1) => jrun n mi (pc + jrl x) ls (v.toList ++ st1) M1
        | some (.inr E, M1) => some (.inr E, M1)
