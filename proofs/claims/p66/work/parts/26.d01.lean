/-! WHAT THE METHODS DO, as texts over numbers (written by wip/gen/dec.py), 1 -/
def d_Output_byteAt (v1 : Int) (μ : Mem) (Q : Int → Prop) : Prop := if v1 < 0 then (Q (-1)) else (if v1 < μ 244 0 then (if v1 < 1600 then ((0 ≤ v1 ∧ v1 < 1600) ∧ Q (μ 245 v1.toNat)) else (Q (-1))) else (Q (-1)))
def d_OB_outputByte (v1 : Int) (μ : Mem) (Q : Int → Mem → Prop) (X : Nat → Mem → Prop) : Prop := d_OB_requireIndex v1 (μ 244 0) μ (fun μ2 => d_Output_byteAt v1 μ2 (fun r3 => Q r3 μ2)) X
