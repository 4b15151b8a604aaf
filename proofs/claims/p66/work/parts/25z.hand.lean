/-! the JDK's own methods that the class and the reference call, as texts -/
def d_Math_max (v0 : Int) (v1 : Int) (μ : Mem) (Q : Int → Prop) : Prop := if v0 < v1 then Q v1 else Q v0
def d_Math_min (v0 : Int) (v1 : Int) (μ : Mem) (Q : Int → Prop) : Prop := if v1 < v0 then Q v1 else Q v0
def d_String_length (v0 : Nat) (μ : Mem) (Q : Int → Prop) : Prop := Q ((jlit v0).length : Int)
def d_String_charAt (v0 : Nat) (v1 : Int) (μ : Mem) (Q : Int → Prop) : Prop := (0 ≤ v1 ∧ v1 < ((jlit v0).length : Int)) ∧ Q ((jlit v0).getD v1.toNat 0)
