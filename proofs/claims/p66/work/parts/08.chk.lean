/-! THE TABLES HELD AGAINST THE CLASS FILES: each row decodes, each row's word is one of the tables' -/
def jtab (w : Nat) : Option Jvm.Cond := match w / 1000 with
  | 0 => (k2_sels lw_privs)[w % 1000]?
  | 1 => tables_1_1[w % 1000]?
  | 2 => tables_1_2[w % 1000]?
  | 3 => tables_1_3[w % 1000]?
  | 4 => tables_1_4[w % 1000]?
  | 5 => tables_1_5[w % 1000]?
  | 6 => tables_1_6[w % 1000]?
  | 7 => tables_1_7[w % 1000]?
  | 8 => tables_1_8[w % 1000]?
  | 20 => lw_xsel[w % 1000]?
  | _ => none
theorem jtab_mem {w : Nat} {c : Jvm.Cond} (h : jtab w = some c) : c ∈ lw_tbl2 := by
  unfold jtab at h
  have e : lw_tbl2 = lw_xsel ++ (k2_sels lw_privs ++ (tables_1_1 ++ (tables_1_2 ++ (tables_1_3 ++ (tables_1_4 ++ (tables_1_5 ++ (tables_1_6 ++ (tables_1_7 ++ tables_1_8)))))))) := rfl
  rw [e]
  split at h
  all_goals first
    | (have hm := List.mem_of_getElem? h; simp only [List.mem_append]; simp only [hm, true_or, or_true]; done)
    | cases h
/-- the word at that place is this one, and it lasts -/
def jtw (w : Nat) (c : Jvm.Cond) : Bool := decide (jtab w = some c) && goodWord c
def jgood : List Jvm.Cond := lw_tbl2.filter goodWord
theorem jtw_mem {w : Nat} {c : Jvm.Cond} (h : jtw w c = true) : c ∈ jgood := by
  unfold jtw at h
  simp only [Bool.and_eq_true, decide_eq_true_eq] at h
  exact List.mem_filter.mpr ⟨jtab_mem h.1, h.2⟩
def okD (bytes : ByteArray) (l : List (Nat × JI)) : Bool := l.all fun q => match decode bytes q.1 with
  | .ok r => decide (r = (q.2.1, q.2.2.1))
  | .error _ => false
def jnm (a : Nat) : MethodName := (jmeths.getD a jm0).1
def jmb (a : Nat) : ByteArray := (jmeths.getD a jm0).2.1
def jrt (a : Nat) : Option FieldType := (jmeths.getD a jm0).2.2.2.1
def jwp (a : Nat) : Nat := (jmeths.getD a jm0).2.2.2.2.2.2.1
def jsta (a : Nat) : Bool := (jmeths.getD a jm0).2.2.2.2.2.2.2.1
def jht (a : Nat) : Nat := (jmeths.getD a jm0).2.2.2.2.2.2.2.2.1
def jbody (a : Nat) : List (Nat × JI) := (jmeths.getD a jm0).2.2.2.2.2.2.2.2.2
def jfd (a b : Nat) : String × String × String × Bool := (jfields a).getD b ("", "", "", false)
def jclsn (a : Nat) : String := (jFs.getD a ("", [])).1
def jtext : Nat → String
  | 0 => "system"
  | 1 => "symbol"
  | 2 => "rule"
  | 3 => "term"
  | 4 => "copy"
  | 5 => "flip"
  | 6 => "step"
  | 7 => "system;symbol f 2;symbol g 1;symbol a 0;symbol b 0"
  | 8 => ";rule "
  | 9 => "fgab"
  | 10 => " = "
  | 11 => ";term "
  | 12 => ";copy 1"
  | _ => ";step 0"
def jexc : Nat → String
  | 0 => "java/lang/IllegalStateException"
  | 1 => "java/lang/IndexOutOfBoundsException"
  | _ => "java/lang/IllegalArgumentException"
def jaty : Nat → ArrayType
  | 100 => .int
  | 101 => .byte
  | 102 => .boolean
  | _ => .long
def jsorted (ps : List (Int × Int)) : Bool := (ps.zip (ps.drop 1)).all (fun (a, next) => a.1 < next.1)
def jnests : List (String × Nat × MethodName × String) := [("OverlapBench", 15, ⟨"OverlapBench$Signature", "<init>", "()V"⟩, "OverlapBench"), ("OverlapBench$State", 30, ⟨"OverlapBench$Rule", "<init>", "()V"⟩, "OverlapBench"), ("OverlapBench", 29, ⟨"OverlapBench$Rewriter", "<init>", "()V"⟩, "OverlapBench"), ("OverlapBench", 36, ⟨"OverlapBench$Unifier", "<init>", "()V"⟩, "OverlapBench"), ("OverlapBench", 43, ⟨"OverlapBench$Parser", "<init>", "()V"⟩, "OverlapBench"), ("OverlapBench$Parser", 20, ⟨"OverlapBench$Signature", "<init>", "()V"⟩, "OverlapBench"), ("OverlapBench$Parser", 41, ⟨"OverlapBench$Rewriter", "<init>", "()V"⟩, "OverlapBench"), ("OverlapBench$PairList", 21, ⟨"OverlapBench$Unifier", "<init>", "()V"⟩, "OverlapBench"), ("OverlapBench$PairList", 28, ⟨"OverlapBench$Rewriter", "<init>", "()V"⟩, "OverlapBench"), ("OverlapBench", 57, ⟨"OverlapBench$Output", "<init>", "()V"⟩, "OverlapBench"), ("OverlapBenchLaw", 108, ⟨"OverlapBenchLaw$Sys", "<init>", "()V"⟩, "OverlapBenchLaw"), ("OverlapBenchLaw$Sys", 69, ⟨"OverlapBenchLaw", "size", "(LOverlapBenchLaw$Node;)I"⟩, "OverlapBenchLaw"), ("OverlapBenchLaw$Sys", 48, ⟨"OverlapBenchLaw", "match", "(LOverlapBenchLaw$Node;LOverlapBenchLaw$Node;[LOverlapBenchLaw$Node;)Z"⟩, "OverlapBenchLaw"), ("OverlapBenchLaw$Sys", 80, ⟨"OverlapBenchLaw", "at", "(LOverlapBenchLaw$Node;I)LOverlapBenchLaw$Node;"⟩, "OverlapBenchLaw"), ("OverlapBenchLaw$Sys", 84, ⟨"OverlapBenchLaw", "fill", "(LOverlapBenchLaw$Node;[LOverlapBenchLaw$Node;)LOverlapBenchLaw$Node;"⟩, "OverlapBenchLaw"), ("OverlapBenchLaw$Sys", 87, ⟨"OverlapBenchLaw", "put", "(LOverlapBenchLaw$Node;ILOverlapBenchLaw$Node;)LOverlapBenchLaw$Node;"⟩, "OverlapBenchLaw")]
def jfnests : List (String × Nat × Nat × Nat) := [("OverlapBenchLaw", 113, 12, 0), ("OverlapBenchLaw", 123, 12, 1), ("OverlapBenchLaw", 47, 11, 0), ("OverlapBenchLaw$Sys", 58, 11, 1), ("OverlapBenchLaw", 25, 11, 1), ("OverlapBenchLaw$Sys", 66, 11, 2), ("OverlapBenchLaw", 35, 11, 2)]
/-- the string words: class, place in its pool, which text -/
def jstrs : List (String × Nat × Nat) := [("OverlapBench$Parser", 70, 0), ("OverlapBench$Parser", 80, 1), ("OverlapBench$Parser", 86, 2), ("OverlapBench$Parser", 91, 3), ("OverlapBench$Parser", 96, 4), ("OverlapBench$Parser", 101, 5), ("OverlapBench$Parser", 106, 6), ("OverlapBenchLaw", 126, 7), ("OverlapBenchLaw", 134, 8), ("OverlapBenchLaw", 78, 9), ("OverlapBenchLaw", 145, 10), ("OverlapBenchLaw", 147, 11), ("OverlapBenchLaw", 149, 12), ("OverlapBenchLaw", 157, 13)]
def jhost (y : MethodName) : String := if y.cls = "OverlapBenchLaw" ∨ y.cls = "OverlapBenchLaw$Node" ∨ y.cls = "OverlapBenchLaw$Sys" then "OverlapBenchLaw" else "OverlapBench"
def jfillN : MethodName := ⟨"java/util/Arrays", "fill", "([JJ)V"⟩
def jequalN : MethodName := ⟨"java/util/Arrays", "equals", "([J[J)Z"⟩
def jcloneN : MethodName := ⟨"java/lang/Object", "clone", "()Ljava/lang/Object;"⟩
def jcloneB : MethodName := ⟨"[B", "clone", "()Ljava/lang/Object;"⟩
/-- arraycopy's and clone's words -/
def jcasn (a : Nat) : String := if a = 101 then "[B" else if a = 116 then "[LOverlapBenchLaw$Node;" else jclsn a
/-- the class whose row holds the method: a StringBuilder for what its superclass declares -/
def jrcv (a : Nat) : String := if (jnm a).cls = "java/lang/AbstractStringBuilder" then "java/lang/StringBuilder" else (jnm a).cls
/-- the name by which a call asks for method a: the bridge is asked for by its superclass's name -/
def jrefn (a : Nat) : Nat := if a = 177 then 179 else if a = 247 then 248 else a
def jref (a : Nat) : MethodName := jnm (jrefn a)
def okL (y : MethodName) (ht : Nat) (rt : Option FieldType) (q : Nat × JI) : Bool := match q with
  | (pc, ins, _, a, b, w) => match ins with
    | .getfield i => decide (a < 16) && decide (b < (jfields a).length) && (jtw w (.fieldLink y.cls i (jfd a b).1 (jfd a b).2.1 (jfd a b).2.2.1) || (decide ((y.cls, i, a, b) ∈ jfnests) || (decide (a = 13 ∧ b = 0) && jtw w (.fieldLink y.cls i "java/util/ArrayList" (jfd a b).2.1 (jfd a b).2.2.1))))
    | .putfield i => decide (a % 100 < 16) && decide (b < (jfields (a % 100)).length) && (jtw w (.fieldLink y.cls i (jfd (a % 100) b).1 (jfd (a % 100) b).2.1 (jfd (a % 100) b).2.2.1) || (decide (a % 100 = 13 ∧ b = 0) && jtw w (.fieldLink y.cls i "java/util/ArrayList" (jfd (a % 100) b).2.1 (jfd (a % 100) b).2.2.1))) && decide (a / 100 = jkd (jfd (a % 100) b).2.2.1)
        && (!(jfd (a % 100) b).2.2.2 || (decide (y.name = "<init>") && decide ((jfd (a % 100) b).1 = y.cls)))
    | .invokestatic i => if 9000 ≤ a then true else if a = 8001 then jtw w (.methodLink y.cls i arraycopyName) && decide (1 ≤ ht) else if a = 8003 then jtw w (.methodLink y.cls i jfillN) && decide (2 ≤ ht) else if a = 8004 then jtw w (.methodLink y.cls i jequalN) && decide (5 ≤ ht)
        else decide (a < 275) && (jtw w (.methodLink y.cls i (jnm a)) || decide ((y.cls, i, jnm a, jhost y) ∈ jnests)) && jsta a && decide (jht a + 1 ≤ ht) && decide ((parseMethodDescriptor (jnm a).desc).map (fun d => d.parameters.length) = some b)
    | .invokevirtual i => if 9000 ≤ a then true else if a = 8002 then jtw w (.methodLink y.cls i jcloneB) && decide (1 ≤ ht)
        else decide (a < 275) && jtw w (.methodLink y.cls i (jref a)) && !(jsta a) && decide (jht a + 1 ≤ ht) && decide ((parseMethodDescriptor (jnm a).desc).map (fun d => d.parameters.length) = some b)
    | .invokeinterface i n => decide (a < 275) && jtw w (.methodLink y.cls i ⟨"java/lang/CharSequence", (jnm a).name, (jnm a).desc⟩) && !(jsta a) && decide (jht a + 1 ≤ ht) && decide ((parseMethodDescriptor (jnm a).desc).map (fun d => d.parameters.length) = some b) && decide (a = 20 ∨ a = 22) && decide (n = b + 1)
    | .invokespecial i => if 9000 ≤ a then true else decide (a < 275) && (if b < 100 then jtw w (.methodLink y.cls i (jnm a)) else decide ((y.cls, i, jnm a, jhost y) ∈ jnests)) && !(jsta a) && decide (jht a + 1 ≤ ht) && decide ((parseMethodDescriptor (jnm a).desc).map (fun d => d.parameters.length) = some (b % 100)) && ((decide ((jnm a).name = "<init>") && decide (jrt a = none)) || (decide (a = 179 ∨ a = 197 ∨ a = 248) && decide (y.cls = "java/lang/StringBuilder") && decide (b < 100)))
    | .new i => if a < 100 then decide (a < 16) && jtw w (.classLink y.cls i (jclsn a)) else true
    | .newarray t => jtw w (.arrayClass (newarray.typeOf t)) && decide (t = jaty a) && decide (100 ≤ a ∧ a < 104)
    | .anewarray i => jtw w (.classLink y.cls i (if a = 199 then "java/lang/Object" else jclsn (a - 105))) && decide (a = 110 ∨ a = 112 ∨ a = 113 ∨ a = 116 ∨ a = 199)
    | .checkcast i => jtw w (.classLink y.cls i (jcasn a)) && decide (a = 101 ∨ a = 116 ∨ a = 11)
    | .ldc i => if b = 0 then jtw w (.constant y.cls i (Int32.ofInt ((a : Int) - 2147483648))) else if b = 1 then decide (jtab w = some (.stringRef y.cls i (jtext a))) && decide (a < 14) else true
    | .ldc_w i => if b = 0 then jtw w (.constant y.cls i (Int32.ofInt ((a : Int) - 2147483648))) else if b = 1 then decide (jtab w = some (.stringRef y.cls i (jtext a))) && decide (a < 14) else true
    | .ldc2_w i => jtw w (.constantLong y.cls i (Int64.ofNat a))
    | .getstatic i => if a = 0 then jtw w (.fieldLink y.cls i "java/lang/String" "COMPACT_STRINGS" "Z") else if a = 1 then jtw w (.fieldLink y.cls i "java/util/ArrayList" "DEFAULTCAPACITY_EMPTY_ELEMENTDATA" "[Ljava/lang/Object;") else true
    | .goto off => decide ((pc : Int) + off = a)
    | .ifCond _ off => decide ((pc : Int) + off = a)
    | .if_icmp _ off => decide ((pc : Int) + off = a)
    | .if_acmp _ off => decide ((pc : Int) + off = a)
    | .ifnull off => decide ((pc : Int) + off = a)
    | .ifnonnull off => decide ((pc : Int) + off = a)
    | .bipush n => decide ((Int8.ofInt n).toInt32 = Int32.ofInt n)
    | .sipush n => decide ((Int16.ofInt n).toInt32 = Int32.ofInt n)
    | .ireturn => (match a with | 0 => decide (rt = some .int) | 1 => decide (rt = some .boolean) | 2 => decide (rt = some .byte) | _ => decide (rt = some .char))
    | .areturn => (match rt with | some (.object _) => true | some (.array _) => true | _ => false)
    | .return_ => decide (rt = none)
    | .iinc _ n => decide (-32768 ≤ n ∧ n ≤ 32767)
    | .iconst n => decide (-1 ≤ n ∧ n ≤ 5)
    | .tableswitch _ _ _ _ => false
    | .lookupswitch _ _ => false
    | _ => true
def okM (q : JMeth) : Bool := okD q.2.1 q.2.2.2.2.2.2.2.2.2 && q.2.2.2.2.2.2.2.2.2.all (okL q.1 q.2.2.2.2.2.2.2.2.1 q.2.2.2.1)
theorem ok_0 : okM jm_0 = true := by decide +kernel
theorem ok_1 : okM jm_1 = true := by decide +kernel
theorem ok_2 : okM jm_2 = true := by decide +kernel
theorem ok_3 : okM jm_3 = true := by decide +kernel
theorem ok_4 : okM jm_4 = true := by decide +kernel
theorem ok_5 : okM jm_5 = true := by decide +kernel
theorem ok_6 : okM jm_6 = true := by decide +kernel
theorem ok_7 : okM jm_7 = true := by decide +kernel
theorem ok_8 : okM jm_8 = true := by decide +kernel
theorem ok_9 : okM jm_9 = true := by decide +kernel
theorem ok_10 : okM jm_10 = true := by decide +kernel
theorem ok_11 : okM jm_11 = true := by decide +kernel
theorem ok_12 : okM jm_12 = true := by decide +kernel
theorem ok_13 : okM jm_13 = true := by decide +kernel
theorem ok_14 : okM jm_14 = true := by decide +kernel
theorem ok_15 : okM jm_15 = true := by decide +kernel
theorem ok_16 : okM jm_16 = true := by decide +kernel
theorem ok_17 : okM jm_17 = true := by decide +kernel
theorem ok_18 : okM jm_18 = true := by decide +kernel
theorem ok_19 : okM jm_19 = true := by decide +kernel
theorem ok_20 : okM jm_20 = true := by decide +kernel
theorem ok_21 : okM jm_21 = true := by decide +kernel
theorem ok_22 : okM jm_22 = true := by decide +kernel
theorem ok_23 : okM jm_23 = true := by decide +kernel
theorem ok_24 : okM jm_24 = true := by decide +kernel
theorem ok_26 : okM jm_26 = true := by decide +kernel
theorem ok_27 : okM jm_27 = true := by decide +kernel
theorem ok_28 : okM jm_28 = true := by decide +kernel
theorem ok_29 : okM jm_29 = true := by decide +kernel
theorem ok_30 : okM jm_30 = true := by decide +kernel
theorem ok_31 : okM jm_31 = true := by decide +kernel
theorem ok_32 : okM jm_32 = true := by decide +kernel
theorem ok_33 : okM jm_33 = true := by decide +kernel
theorem ok_34 : okM jm_34 = true := by decide +kernel
theorem ok_35 : okM jm_35 = true := by decide +kernel
theorem ok_36 : okM jm_36 = true := by decide +kernel
theorem ok_37 : okM jm_37 = true := by decide +kernel
theorem ok_38 : okM jm_38 = true := by decide +kernel
theorem ok_39 : okM jm_39 = true := by decide +kernel
theorem ok_40 : okM jm_40 = true := by decide +kernel
theorem ok_41 : okM jm_41 = true := by decide +kernel
theorem ok_42 : okM jm_42 = true := by decide +kernel
theorem ok_43 : okM jm_43 = true := by decide +kernel
theorem ok_44 : okM jm_44 = true := by decide +kernel
theorem ok_45 : okM jm_45 = true := by decide +kernel
theorem ok_46 : okM jm_46 = true := by decide +kernel
theorem ok_47 : okM jm_47 = true := by decide +kernel
theorem ok_48 : okM jm_48 = true := by decide +kernel
theorem ok_49 : okM jm_49 = true := by decide +kernel
theorem ok_50 : okM jm_50 = true := by decide +kernel
theorem ok_51 : okM jm_51 = true := by decide +kernel
theorem ok_52 : okM jm_52 = true := by decide +kernel
theorem ok_53 : okM jm_53 = true := by decide +kernel
theorem ok_54 : okM jm_54 = true := by decide +kernel
theorem ok_55 : okM jm_55 = true := by decide +kernel
theorem ok_56 : okM jm_56 = true := by decide +kernel
theorem ok_57 : okM jm_57 = true := by decide +kernel
theorem ok_58 : okM jm_58 = true := by decide +kernel
theorem ok_59 : okM jm_59 = true := by decide +kernel
theorem ok_60 : okM jm_60 = true := by decide +kernel
theorem ok_61 : okM jm_61 = true := by decide +kernel
theorem ok_62 : okM jm_62 = true := by decide +kernel
theorem ok_63 : okM jm_63 = true := by decide +kernel
theorem ok_64 : okM jm_64 = true := by decide +kernel
theorem ok_65 : okM jm_65 = true := by decide +kernel
theorem ok_66 : okM jm_66 = true := by decide +kernel
theorem ok_67 : okM jm_67 = true := by decide +kernel
theorem ok_68 : okM jm_68 = true := by decide +kernel
theorem ok_69 : okM jm_69 = true := by decide +kernel
theorem ok_70 : okM jm_70 = true := by decide +kernel
theorem ok_71 : okM jm_71 = true := by decide +kernel
theorem ok_72 : okM jm_72 = true := by decide +kernel
theorem ok_73 : okM jm_73 = true := by decide +kernel
theorem ok_74 : okM jm_74 = true := by decide +kernel
theorem ok_75 : okM jm_75 = true := by decide +kernel
theorem ok_76 : okM jm_76 = true := by decide +kernel
theorem ok_77 : okM jm_77 = true := by decide +kernel
theorem ok_78 : okM jm_78 = true := by decide +kernel
theorem ok_79 : okM jm_79 = true := by decide +kernel
theorem ok_80 : okM jm_80 = true := by decide +kernel
theorem ok_81 : okM jm_81 = true := by decide +kernel
theorem ok_82 : okM jm_82 = true := by decide +kernel
theorem ok_83 : okM jm_83 = true := by decide +kernel
theorem ok_84 : okM jm_84 = true := by decide +kernel
theorem ok_85 : okM jm_85 = true := by decide +kernel
theorem ok_86 : okM jm_86 = true := by decide +kernel
theorem ok_87 : okM jm_87 = true := by decide +kernel
theorem ok_88 : okM jm_88 = true := by decide +kernel
theorem ok_89 : okM jm_89 = true := by decide +kernel
theorem ok_90 : okM jm_90 = true := by decide +kernel
theorem ok_91 : okM jm_91 = true := by decide +kernel
theorem ok_92 : okM jm_92 = true := by decide +kernel
theorem ok_93 : okM jm_93 = true := by decide +kernel
theorem ok_94 : okM jm_94 = true := by decide +kernel
theorem ok_95 : okM jm_95 = true := by decide +kernel
theorem ok_96 : okM jm_96 = true := by decide +kernel
theorem ok_97 : okM jm_97 = true := by decide +kernel
theorem ok_98 : okM jm_98 = true := by decide +kernel
theorem ok_99 : okM jm_99 = true := by decide +kernel
theorem ok_100 : okM jm_100 = true := by decide +kernel
theorem ok_101 : okM jm_101 = true := by decide +kernel
theorem ok_102 : okM jm_102 = true := by decide +kernel
theorem ok_103 : okM jm_103 = true := by decide +kernel
theorem ok_104 : okM jm_104 = true := by decide +kernel
theorem ok_105 : okM jm_105 = true := by decide +kernel
theorem ok_106 : okM jm_106 = true := by decide +kernel
theorem ok_107 : okM jm_107 = true := by decide +kernel
theorem ok_108 : okM jm_108 = true := by decide +kernel
theorem ok_109 : okM jm_109 = true := by decide +kernel
theorem ok_110 : okM jm_110 = true := by decide +kernel
theorem ok_111 : okM jm_111 = true := by decide +kernel
theorem ok_112 : okM jm_112 = true := by decide +kernel
theorem ok_113 : okM jm_113 = true := by decide +kernel
theorem ok_114 : okM jm_114 = true := by decide +kernel
theorem ok_115 : okM jm_115 = true := by decide +kernel
theorem ok_116 : okM jm_116 = true := by decide +kernel
theorem ok_117 : okM jm_117 = true := by decide +kernel
theorem ok_118 : okM jm_118 = true := by decide +kernel
theorem ok_119 : okM jm_119 = true := by decide +kernel
theorem ok_120 : okM jm_120 = true := by decide +kernel
theorem ok_121 : okM jm_121 = true := by decide +kernel
theorem ok_122 : okM jm_122 = true := by decide +kernel
theorem ok_123 : okM jm_123 = true := by decide +kernel
theorem ok_124 : okM jm_124 = true := by decide +kernel
theorem ok_125 : okM jm_125 = true := by decide +kernel
theorem ok_126 : okM jm_126 = true := by decide +kernel
theorem ok_127 : okM jm_127 = true := by decide +kernel
theorem ok_128 : okM jm_128 = true := by decide +kernel
theorem ok_129 : okM jm_129 = true := by decide +kernel
theorem ok_130 : okM jm_130 = true := by decide +kernel
theorem ok_131 : okM jm_131 = true := by decide +kernel
theorem ok_132 : okM jm_132 = true := by decide +kernel
theorem ok_133 : okM jm_133 = true := by decide +kernel
theorem ok_134 : okM jm_134 = true := by decide +kernel
theorem ok_135 : okM jm_135 = true := by decide +kernel
theorem ok_136 : okM jm_136 = true := by decide +kernel
theorem ok_137 : okM jm_137 = true := by decide +kernel
theorem ok_138 : okM jm_138 = true := by decide +kernel
theorem ok_139 : okM jm_139 = true := by decide +kernel
theorem ok_140 : okM jm_140 = true := by decide +kernel
theorem ok_141 : okM jm_141 = true := by decide +kernel
theorem ok_142 : okM jm_142 = true := by decide +kernel
theorem ok_143 : okM jm_143 = true := by decide +kernel
theorem ok_144 : okM jm_144 = true := by decide +kernel
theorem ok_145 : okM jm_145 = true := by decide +kernel
theorem ok_146 : okM jm_146 = true := by decide +kernel
theorem ok_147 : okM jm_147 = true := by decide +kernel
theorem ok_148 : okM jm_148 = true := by decide +kernel
theorem ok_149 : okM jm_149 = true := by decide +kernel
theorem ok_150 : okM jm_150 = true := by decide +kernel
theorem ok_151 : okM jm_151 = true := by decide +kernel
theorem ok_152 : okM jm_152 = true := by decide +kernel
theorem ok_153 : okM jm_153 = true := by decide +kernel
theorem ok_154 : okM jm_154 = true := by decide +kernel
theorem ok_155 : okM jm_155 = true := by decide +kernel
theorem ok_156 : okM jm_156 = true := by decide +kernel
theorem ok_157 : okM jm_157 = true := by decide +kernel
theorem ok_158 : okM jm_158 = true := by decide +kernel
theorem ok_159 : okM jm_159 = true := by decide +kernel
theorem ok_160 : okM jm_160 = true := by decide +kernel
theorem ok_161 : okM jm_161 = true := by decide +kernel
theorem ok_162 : okM jm_162 = true := by decide +kernel
theorem ok_163 : okM jm_163 = true := by decide +kernel
theorem ok_164 : okM jm_164 = true := by decide +kernel
theorem ok_165 : okM jm_165 = true := by decide +kernel
theorem ok_166 : okM jm_166 = true := by decide +kernel
theorem ok_167 : okM jm_167 = true := by decide +kernel
theorem ok_168 : okM jm_168 = true := by decide +kernel
theorem ok_169 : okM jm_169 = true := by decide +kernel
theorem ok_170 : okM jm_170 = true := by decide +kernel
theorem ok_171 : okM jm_171 = true := by decide +kernel
theorem ok_172 : okM jm_172 = true := by decide +kernel
theorem ok_173 : okM jm_173 = true := by decide +kernel
theorem ok_174 : okM jm_174 = true := by decide +kernel
theorem ok_175 : okM jm_175 = true := by decide +kernel
theorem ok_176 : okM jm_176 = true := by decide +kernel
theorem ok_177 : okM jm_177 = true := by decide +kernel
theorem ok_178 : okM jm_178 = true := by decide +kernel
theorem ok_179 : okM jm_179 = true := by decide +kernel
theorem ok_180 : okM jm_180 = true := by decide +kernel
theorem ok_181 : okM jm_181 = true := by decide +kernel
theorem ok_182 : okM jm_182 = true := by decide +kernel
theorem ok_183 : okM jm_183 = true := by decide +kernel
theorem ok_184 : okM jm_184 = true := by decide +kernel
theorem ok_185 : okM jm_185 = true := by decide +kernel
theorem ok_186 : okM jm_186 = true := by decide +kernel
theorem ok_187 : okM jm_187 = true := by decide +kernel
theorem ok_188 : okM jm_188 = true := by decide +kernel
theorem ok_189 : okM jm_189 = true := by decide +kernel
theorem ok_190 : okM jm_190 = true := by decide +kernel
theorem ok_191 : okM jm_191 = true := by decide +kernel
theorem ok_192 : okM jm_192 = true := by decide +kernel
theorem ok_193 : okM jm_193 = true := by decide +kernel
theorem ok_194 : okM jm_194 = true := by decide +kernel
theorem ok_195 : okM jm_195 = true := by decide +kernel
theorem ok_196 : okM jm_196 = true := by decide +kernel
theorem ok_197 : okM jm_197 = true := by decide +kernel
theorem ok_198 : okM jm_198 = true := by decide +kernel
theorem ok_199 : okM jm_199 = true := by decide +kernel
theorem ok_200 : okM jm_200 = true := by decide +kernel
theorem ok_201 : okM jm_201 = true := by decide +kernel
theorem ok_202 : okM jm_202 = true := by decide +kernel
theorem ok_203 : okM jm_203 = true := by decide +kernel
theorem ok_204 : okM jm_204 = true := by decide +kernel
theorem ok_205 : okM jm_205 = true := by decide +kernel
theorem ok_206 : okM jm_206 = true := by decide +kernel
theorem ok_207 : okM jm_207 = true := by decide +kernel
theorem ok_208 : okM jm_208 = true := by decide +kernel
theorem ok_209 : okM jm_209 = true := by decide +kernel
theorem ok_210 : okM jm_210 = true := by decide +kernel
theorem ok_211 : okM jm_211 = true := by decide +kernel
theorem ok_212 : okM jm_212 = true := by decide +kernel
theorem ok_213 : okM jm_213 = true := by decide +kernel
theorem ok_214 : okM jm_214 = true := by decide +kernel
theorem ok_215 : okM jm_215 = true := by decide +kernel
theorem ok_216 : okM jm_216 = true := by decide +kernel
theorem ok_217 : okM jm_217 = true := by decide +kernel
theorem ok_218 : okM jm_218 = true := by decide +kernel
theorem ok_219 : okM jm_219 = true := by decide +kernel
theorem ok_220 : okM jm_220 = true := by decide +kernel
theorem ok_221 : okM jm_221 = true := by decide +kernel
theorem ok_222 : okM jm_222 = true := by decide +kernel
theorem ok_223 : okM jm_223 = true := by decide +kernel
theorem ok_224 : okM jm_224 = true := by decide +kernel
theorem ok_225 : okM jm_225 = true := by decide +kernel
theorem ok_226 : okM jm_226 = true := by decide +kernel
theorem ok_227 : okM jm_227 = true := by decide +kernel
theorem ok_228 : okM jm_228 = true := by decide +kernel
theorem ok_229 : okM jm_229 = true := by decide +kernel
theorem ok_230 : okM jm_230 = true := by decide +kernel
theorem ok_231 : okM jm_231 = true := by decide +kernel
theorem ok_232 : okM jm_232 = true := by decide +kernel
theorem ok_233 : okM jm_233 = true := by decide +kernel
theorem ok_234 : okM jm_234 = true := by decide +kernel
theorem ok_235 : okM jm_235 = true := by decide +kernel
theorem ok_236 : okM jm_236 = true := by decide +kernel
theorem ok_237 : okM jm_237 = true := by decide +kernel
theorem ok_238 : okM jm_238 = true := by decide +kernel
theorem ok_239 : okM jm_239 = true := by decide +kernel
theorem ok_240 : okM jm_240 = true := by decide +kernel
theorem ok_241 : okM jm_241 = true := by decide +kernel
theorem ok_242 : okM jm_242 = true := by decide +kernel
theorem ok_243 : okM jm_243 = true := by decide +kernel
theorem ok_244 : okM jm_244 = true := by decide +kernel
theorem ok_245 : okM jm_245 = true := by decide +kernel
theorem ok_246 : okM jm_246 = true := by decide +kernel
theorem ok_247 : okM jm_247 = true := by decide +kernel
theorem ok_248 : okM jm_248 = true := by decide +kernel
theorem ok_249 : okM jm_249 = true := by decide +kernel
theorem ok_250 : okM jm_250 = true := by decide +kernel
theorem ok_251 : okM jm_251 = true := by decide +kernel
theorem ok_252 : okM jm_252 = true := by decide +kernel
theorem ok_253 : okM jm_253 = true := by decide +kernel
theorem ok_254 : okM jm_254 = true := by decide +kernel
theorem ok_255 : okM jm_255 = true := by decide +kernel
theorem ok_256 : okM jm_256 = true := by decide +kernel
theorem ok_257 : okM jm_257 = true := by decide +kernel
theorem ok_258 : okM jm_258 = true := by decide +kernel
theorem ok_259 : okM jm_259 = true := by decide +kernel
theorem ok_260 : okM jm_260 = true := by decide +kernel
theorem ok_261 : okM jm_261 = true := by decide +kernel
theorem ok_262 : okM jm_262 = true := by decide +kernel
theorem ok_263 : okM jm_263 = true := by decide +kernel
theorem ok_264 : okM jm_264 = true := by decide +kernel
theorem ok_265 : okM jm_265 = true := by decide +kernel
theorem ok_266 : okM jm_266 = true := by decide +kernel
theorem ok_267 : okM jm_267 = true := by decide +kernel
theorem ok_268 : okM jm_268 = true := by decide +kernel
theorem ok_269 : okM jm_269 = true := by decide +kernel
theorem ok_270 : okM jm_270 = true := by decide +kernel
theorem ok_271 : okM jm_271 = true := by decide +kernel
theorem ok_272 : okM jm_272 = true := by decide +kernel
theorem ok_273 : okM jm_273 = true := by decide +kernel
