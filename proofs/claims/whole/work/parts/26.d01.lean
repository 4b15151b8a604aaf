/-! WHAT THE METHODS DO, as texts over numbers (written by wip/gen/dec.py), 1 -/
def d_Unifier_load_j110 (v0 : Nat) (v1 : Nat) (v2 : Int) (v3 : Int) (v4 : Int) (μ : Mem) (W8 : Int → Mem → Prop) (Q : Int → Mem → Prop) : Prop := W8 (wr (v4 + 1)) (mup μ v0 0 (wr ((μ v0 0) + 1)))
def d_Unifier_load_j68 (v0 : Nat) (v1 : Nat) (v2 : Int) (v3 : Int) (v4 : Int) (v5 : Int) (v6 : Int) (t0 : Nat) (t1 : Int) (t2 : Int) (μ : Mem) (W8 : Int → Mem → Prop) (Q : Int → Mem → Prop) : Prop := (0 ≤ t1 ∧ t1 < (ln t0 : Int)) ∧ d_Term_end v1 v4 (mup μ t0 t1.toNat t2) (fun r3 => (0 ≤ v6 ∧ v6 < 160) ∧ (0 ≤ v6 ∧ v6 < 160) ∧ if v5 < 0 then (d_Unifier_shareVariable v0 v6 (wr ((wr (v2 - 1)) - v5)) (mup (mup (mup μ t0 t1.toNat t2) (v0 + 3) v6.toNat (wr (v3 + r3))) (v0 + 2) v6.toNat v6) (fun μ6 => d_Unifier_load_j110 v0 v1 v2 v3 v4 μ6 W8 Q)) else (d_Unifier_load_j110 v0 v1 v2 v3 v4 (mup (mup (mup μ t0 t1.toNat t2) (v0 + 3) v6.toNat (wr (v3 + r3))) (v0 + 2) v6.toNat v6) W8 Q))
def d_Unifier_load_b8 (v0 : Nat) (v1 : Nat) (v2 : Int) (v3 : Int) (v4 : Int) (μ : Mem) (W8 : Int → Mem → Prop) (Q : Int → Mem → Prop) : Prop := if v4 < μ v1 1 then (if μ v0 0 < 0 then (Q v3 μ) else (if μ v0 0 < 160 then (d_Term_get v1 v4 μ (fun r1 => if r1 < 0 then (d_Unifier_load_j68 v0 v1 v2 v3 v4 r1 (μ v0 0) (v0 + 1) (μ v0 0) (wr (r1 - v2)) μ W8 Q) else (d_Unifier_load_j68 v0 v1 v2 v3 v4 r1 (μ v0 0) (v0 + 1) (μ v0 0) r1 μ W8 Q))) else (Q v3 μ))) else (Q v3 μ)
def d_Unifier_load_l8 (v0 : Nat) (v1 : Nat) (v2 : Int) (v3 : Int) (v4 : Int) (μ : Mem) (Q : Int → Mem → Prop) : Prop := ∀ W : Int → Mem → Prop, (∀ (v4 : Int) (μ : Mem), d_Unifier_load_b8 v0 v1 v2 v3 v4 μ W Q → W v4 μ) → W v4 μ
def d_Unifier_load (v0 : Nat) (v1 : Nat) (v2 : Int) (μ : Mem) (Q : Int → Mem → Prop) : Prop := d_Unifier_load_l8 v0 v1 v2 (μ v0 0) 0 μ Q
theorem i_Unifier_load_l8 {v0 : Nat} {v1 : Nat} {v2 : Int} {v3 : Int} {Q : Int → Mem → Prop} {Inv : Int → Mem → Prop} (f : Int → Mem → Nat) (hi : ∀ (v4 : Int) (μ : Mem), Inv v4 μ → ∀ W : Int → Mem → Prop, (∀ (v4' : Int) (μ' : Mem), Inv v4' μ' → f v4' μ' < f v4 μ → W v4' μ') → d_Unifier_load_b8 v0 v1 v2 v3 v4 μ W Q) : ∀ (v4 : Int) (μ : Mem), Inv v4 μ → d_Unifier_load_l8 v0 v1 v2 v3 v4 μ Q := by
  intro v4 μ hI W hW
  have key : ∀ (n : Nat) (v4 : Int) (μ : Mem), f v4 μ = n → Inv v4 μ → W v4 μ := by
    intro n
    induction n using Nat.strongRecOn with
    | _ n ih =>
      intro v4 μ hf hI
      exact hW _ _ (hi v4 μ hI W fun v4' μ' hI' hl => ih _ (by omega) v4' μ' rfl hI')
  exact key _ v4 μ rfl hI
def d_Unifier_push (v0 : Nat) (v1 : Int) (μ : Mem) (Q : Mem → Prop) : Prop := if μ v0 7 < 0 then (Q μ) else (if μ v0 7 < 962 then ((0 ≤ μ v0 7 ∧ μ v0 7 < 962) ∧ Q (mup (mup μ (v0 + 6) (μ v0 7).toNat v1) v0 7 (wr (((mup μ (v0 + 6) (μ v0 7).toNat v1) v0 7) + 1)))) else (Q μ))
def d_Unifier_pop (v0 : Nat) (μ : Mem) (Q : Int → Mem → Prop) : Prop := if 0 < μ v0 7 then (if 962 < μ v0 7 then (Q (-1) μ) else ((0 ≤ (mup μ v0 7 (wr ((μ v0 7) - 1))) v0 7 ∧ (mup μ v0 7 (wr ((μ v0 7) - 1))) v0 7 < 962) ∧ Q ((mup μ v0 7 (wr ((μ v0 7) - 1))) (v0 + 6) ((mup μ v0 7 (wr ((μ v0 7) - 1))) v0 7).toNat) (mup μ v0 7 (wr ((μ v0 7) - 1))))) else (Q (-1) μ)
def d_Unifier_root_b4 (v0 : Nat) (v2 : Int) (v3 : Int) (μ : Mem) (W4 : Int → Int → Prop) (Q : Int → Prop) : Prop := if v3 < 160 then (if v2 < 0 then (Q v2) else (if v2 < 160 then ((0 ≤ v2 ∧ v2 < 160) ∧ if μ (v0 + 2) v2.toNat = v2 then (Q v2) else ((0 ≤ v2 ∧ v2 < 160) ∧ W4 (μ (v0 + 2) v2.toNat) (wr (v3 + 1)))) else (Q v2))) else (Q v2)
def d_Unifier_root_l4 (v0 : Nat) (v2 : Int) (v3 : Int) (μ : Mem) (Q : Int → Prop) : Prop := ∀ W : Int → Int → Prop, (∀ (v2 : Int) (v3 : Int), d_Unifier_root_b4 v0 v2 v3 μ W Q → W v2 v3) → W v2 v3
def d_Unifier_root (v0 : Nat) (v1 : Int) (μ : Mem) (Q : Int → Prop) : Prop := d_Unifier_root_l4 v0 v1 0 μ Q
theorem i_Unifier_root_l4 {v0 : Nat} {μ : Mem} {Q : Int → Prop} {Inv : Int → Int → Prop} (f : Int → Int → Nat) (hi : ∀ (v2 : Int) (v3 : Int), Inv v2 v3 → ∀ W : Int → Int → Prop, (∀ (v2' : Int) (v3' : Int), Inv v2' v3' → f v2' v3' < f v2 v3 → W v2' v3') → d_Unifier_root_b4 v0 v2 v3 μ W Q) : ∀ (v2 : Int) (v3 : Int), Inv v2 v3 → d_Unifier_root_l4 v0 v2 v3 μ Q := by
  intro v2 v3 hI W hW
  have key : ∀ (n : Nat) (v2 : Int) (v3 : Int), f v2 v3 = n → Inv v2 v3 → W v2 v3 := by
    intro n
    induction n using Nat.strongRecOn with
    | _ n ih =>
      intro v2 v3 hf hI
      exact hW _ _ (hi v2 v3 hI W fun v2' v3' hI' hl => ih _ (by omega) v2' v3' rfl hI')
  exact key _ v2 v3 rfl hI
def d_Unifier_label (v0 : Nat) (v1 : Int) (μ : Mem) (Q : Int → Prop) : Prop := if v1 < 0 then (Q (-2147483648)) else (if v1 < 160 then ((0 ≤ v1 ∧ v1 < 160) ∧ Q (μ (v0 + 1) v1.toNat)) else (Q (-2147483648)))
def d_Unifier_hang (v0 : Nat) (v1 : Int) (v2 : Int) (μ : Mem) (Q : Mem → Prop) : Prop := if v1 < 0 then (Q μ) else (if v1 < 160 then ((0 ≤ v1 ∧ v1 < 160) ∧ Q (mup μ (v0 + 2) v1.toNat v2)) else (Q μ))
def d_Unifier_end (v0 : Nat) (v1 : Int) (μ : Mem) (Q : Int → Prop) : Prop := if v1 < 0 then (Q 160) else (if v1 < 160 then ((0 ≤ v1 ∧ v1 < 160) ∧ Q (μ (v0 + 3) v1.toNat)) else (Q 160))
def d_Unifier_pushArguments_b19 (v0 : Nat) (v3 : Int) (v4 : Int) (v5 : Int) (μ : Mem) (W19 : Int → Int → Int → Mem → Prop) (Q : Mem → Prop) : Prop := if 0 < v5 then (d_Unifier_push v0 v3 μ (fun μ6 => d_Unifier_push v0 v4 μ6 (fun μ8 => d_Unifier_end v0 v3 μ8 (fun r9 => d_Unifier_end v0 v4 μ8 (fun r11 => W19 r9 r11 (wr (v5 + (-1))) μ8))))) else (Q μ)
def d_Unifier_pushArguments_l19 (v0 : Nat) (v3 : Int) (v4 : Int) (v5 : Int) (μ : Mem) (Q : Mem → Prop) : Prop := ∀ W : Int → Int → Int → Mem → Prop, (∀ (v3 : Int) (v4 : Int) (v5 : Int) (μ : Mem), d_Unifier_pushArguments_b19 v0 v3 v4 v5 μ W Q → W v3 v4 v5 μ) → W v3 v4 v5 μ
def d_Unifier_pushArguments (v0 : Nat) (v1 : Int) (v2 : Int) (μ : Mem) (Q : Mem → Prop) : Prop := d_Unifier_label v0 v1 μ (fun r1 => d_Term_arityOf r1 μ (fun r3 => d_Unifier_pushArguments_l19 v0 (wr (v1 + 1)) (wr (v2 + 1)) r3 μ Q))
theorem i_Unifier_pushArguments_l19 {v0 : Nat} {Q : Mem → Prop} {Inv : Int → Int → Int → Mem → Prop} (f : Int → Int → Int → Mem → Nat) (hi : ∀ (v3 : Int) (v4 : Int) (v5 : Int) (μ : Mem), Inv v3 v4 v5 μ → ∀ W : Int → Int → Int → Mem → Prop, (∀ (v3' : Int) (v4' : Int) (v5' : Int) (μ' : Mem), Inv v3' v4' v5' μ' → f v3' v4' v5' μ' < f v3 v4 v5 μ → W v3' v4' v5' μ') → d_Unifier_pushArguments_b19 v0 v3 v4 v5 μ W Q) : ∀ (v3 : Int) (v4 : Int) (v5 : Int) (μ : Mem), Inv v3 v4 v5 μ → d_Unifier_pushArguments_l19 v0 v3 v4 v5 μ Q := by
  intro v3 v4 v5 μ hI W hW
  have key : ∀ (n : Nat) (v3 : Int) (v4 : Int) (v5 : Int) (μ : Mem), f v3 v4 v5 μ = n → Inv v3 v4 v5 μ → W v3 v4 v5 μ := by
    intro n
    induction n using Nat.strongRecOn with
    | _ n ih =>
      intro v3 v4 v5 μ hf hI
      exact hW _ _ _ _ (hi v3 v4 v5 μ hI W fun v3' v4' v5' μ' hI' hl => ih _ (by omega) v3' v4' v5' μ' rfl hI')
  exact key _ v3 v4 v5 μ rfl hI
def d_Unifier_merge_j136 (v0 : Nat) (v3 : Int) (μ : Mem) (W17 : Int → Mem → Prop) (Q : Bool → Mem → Prop) : Prop := W17 (wr (v3 + 1)) μ
def d_Unifier_merge_j118 (v0 : Nat) (v3 : Int) (v4 : Int) (v5 : Int) (v6 : Int) (v7 : Int) (μ : Mem) (W17 : Int → Mem → Prop) (Q : Bool → Mem → Prop) : Prop := if v6 < 0 then (d_Unifier_merge_j136 v0 v3 μ W17 Q) else (if v7 < 0 then (d_Unifier_merge_j136 v0 v3 μ W17 Q) else (d_Unifier_pushArguments v0 v4 v5 μ (fun μ20 => d_Unifier_merge_j136 v0 v3 μ20 W17 Q)))
def d_Unifier_merge_j94 (v0 : Nat) (v3 : Int) (v4 : Int) (v5 : Int) (v6 : Int) (v7 : Int) (μ : Mem) (W17 : Int → Mem → Prop) (Q : Bool → Mem → Prop) : Prop := if v6 < 0 then (d_Unifier_hang v0 v4 v5 μ (fun μ18 => d_Unifier_merge_j118 v0 v3 v4 v5 v6 v7 μ18 W17 Q)) else (d_Unifier_hang v0 v5 v4 μ (fun μ22 => d_Unifier_merge_j118 v0 v3 v4 v5 v6 v7 μ22 W17 Q))
def d_Unifier_merge_b17 (v0 : Nat) (v3 : Int) (μ : Mem) (W17 : Int → Mem → Prop) (Q : Bool → Mem → Prop) : Prop := if v3 < 962 then (if 1 < μ v0 7 then (d_Unifier_pop v0 μ (fun r5 μ6 => d_Unifier_root v0 r5 μ6 (fun r7 => d_Unifier_pop v0 μ6 (fun r9 μ10 => d_Unifier_root v0 r9 μ10 (fun r11 => if r7 = r11 then (d_Unifier_merge_j136 v0 v3 μ10 W17 Q) else (d_Unifier_label v0 r7 μ10 (fun r13 => d_Unifier_label v0 r11 μ10 (fun r15 => if r13 < 0 then (d_Unifier_merge_j94 v0 v3 r7 r11 r13 r15 μ10 W17 Q) else (if r15 < 0 then (d_Unifier_merge_j94 v0 v3 r7 r11 r13 r15 μ10 W17 Q) else (if r13 = r15 then (d_Unifier_merge_j94 v0 v3 r7 r11 r13 r15 μ10 W17 Q) else (Q false μ10))))))))))) else (Q true μ)) else (Q true μ)
def d_Unifier_merge_l17 (v0 : Nat) (v3 : Int) (μ : Mem) (Q : Bool → Mem → Prop) : Prop := ∀ W : Int → Mem → Prop, (∀ (v3 : Int) (μ : Mem), d_Unifier_merge_b17 v0 v3 μ W Q → W v3 μ) → W v3 μ
def d_Unifier_merge (v0 : Nat) (v1 : Int) (v2 : Int) (μ : Mem) (Q : Bool → Mem → Prop) : Prop := d_Unifier_push v0 v1 (mup μ v0 7 0) (fun μ2 => d_Unifier_push v0 v2 μ2 (fun μ4 => d_Unifier_merge_l17 v0 0 μ4 Q))
theorem i_Unifier_merge_l17 {v0 : Nat} {Q : Bool → Mem → Prop} {Inv : Int → Mem → Prop} (f : Int → Mem → Nat) (hi : ∀ (v3 : Int) (μ : Mem), Inv v3 μ → ∀ W : Int → Mem → Prop, (∀ (v3' : Int) (μ' : Mem), Inv v3' μ' → f v3' μ' < f v3 μ → W v3' μ') → d_Unifier_merge_b17 v0 v3 μ W Q) : ∀ (v3 : Int) (μ : Mem), Inv v3 μ → d_Unifier_merge_l17 v0 v3 μ Q := by
  intro v3 μ hI W hW
  have key : ∀ (n : Nat) (v3 : Int) (μ : Mem), f v3 μ = n → Inv v3 μ → W v3 μ := by
    intro n
    induction n using Nat.strongRecOn with
    | _ n ih =>
      intro v3 μ hf hI
      exact hW _ _ (hi v3 μ hI W fun v3' μ' hI' hl => ih _ (by omega) v3' μ' rfl hI')
  exact key _ v3 μ rfl hI
def d_Unifier_isSettled (v0 : Nat) (v1 : Int) (μ : Mem) (Q : Bool → Prop) : Prop := if v1 < 0 then (Q false) else (if v1 < 160 then ((0 ≤ v1 ∧ v1 < 160) ∧ if μ (v0 + 4) v1.toNat = 0 then (Q false) else (Q true)) else (Q false))
def d_Unifier_settles_b31 (v0 : Nat) (v3 : Int) (v4 : Int) (μ : Mem) (W31 : Int → Int → Prop) (Q : Bool → Prop) : Prop := if 0 < v4 then (d_Unifier_root v0 v3 μ (fun r7 => d_Unifier_isSettled v0 r7 μ (fun r9 => if r9 = true then (d_Unifier_end v0 v3 μ (fun r11 => W31 r11 (wr (v4 + (-1))))) else (Q false)))) else (Q true)
def d_Unifier_settles_l31 (v0 : Nat) (v3 : Int) (v4 : Int) (μ : Mem) (Q : Bool → Prop) : Prop := ∀ W : Int → Int → Prop, (∀ (v3 : Int) (v4 : Int), d_Unifier_settles_b31 v0 v3 v4 μ W Q → W v3 v4) → W v3 v4
def d_Unifier_settles (v0 : Nat) (v1 : Int) (μ : Mem) (Q : Bool → Prop) : Prop := d_Unifier_root v0 v1 μ (fun r1 => if r1 = v1 then (d_Unifier_label v0 v1 μ (fun r3 => d_Term_arityOf r3 μ (fun r5 => d_Unifier_settles_l31 v0 (wr (v1 + 1)) r5 μ Q))) else (d_Unifier_isSettled v0 r1 μ (fun r13 => Q r13)))
theorem i_Unifier_settles_l31 {v0 : Nat} {μ : Mem} {Q : Bool → Prop} {Inv : Int → Int → Prop} (f : Int → Int → Nat) (hi : ∀ (v3 : Int) (v4 : Int), Inv v3 v4 → ∀ W : Int → Int → Prop, (∀ (v3' : Int) (v4' : Int), Inv v3' v4' → f v3' v4' < f v3 v4 → W v3' v4') → d_Unifier_settles_b31 v0 v3 v4 μ W Q) : ∀ (v3 : Int) (v4 : Int), Inv v3 v4 → d_Unifier_settles_l31 v0 v3 v4 μ Q := by
  intro v3 v4 hI W hW
  have key : ∀ (n : Nat) (v3 : Int) (v4 : Int), f v3 v4 = n → Inv v3 v4 → W v3 v4 := by
    intro n
    induction n using Nat.strongRecOn with
    | _ n ih =>
      intro v3 v4 hf hI
      exact hW _ _ (hi v3 v4 hI W fun v3' v4' hI' hl => ih _ (by omega) v3' v4' rfl hI')
  exact key _ v3 v4 rfl hI
def d_Unifier_settle (v0 : Nat) (v1 : Int) (μ : Mem) (Q : Mem → Prop) : Prop := if v1 < 0 then (Q μ) else (if v1 < 160 then ((0 ≤ v1 ∧ v1 < 160) ∧ Q (mup μ (v0 + 4) v1.toNat 1)) else (Q μ))
def d_Unifier_isFinite_j99 (v1 : Int) (μ : Mem) (Q : Bool → Mem → Prop) : Prop := if v1 = 0 then (Q true μ) else (Q false μ)
def d_Unifier_isFinite_j87 (v0 : Nat) (v1 : Int) (v2 : Int) (v3 : Int) (v4 : Int) (μ : Mem) (W31 : Int → Int → Int → Mem → Prop) (W53 : Int → Int → Int → Mem → Prop) (Q : Bool → Mem → Prop) : Prop := W53 v1 v2 (wr (v4 + (-1))) μ
def d_Unifier_isFinite_b53 (v0 : Nat) (v3 : Int) (v1 : Int) (v2 : Int) (v4 : Int) (μ : Mem) (W31 : Int → Int → Int → Mem → Prop) (W53 : Int → Int → Int → Mem → Prop) (Q : Bool → Mem → Prop) : Prop := if v4 < 0 then (W31 v1 v2 (wr (v3 + 1)) μ) else (d_Unifier_isSettled v0 v4 μ (fun r1 => if r1 = true then (d_Unifier_isFinite_j87 v0 v1 v2 v3 v4 μ W31 W53 Q) else (d_Unifier_settles v0 v4 μ (fun r3 => if r3 = true then (d_Unifier_settle v0 v4 μ (fun μ6 => d_Unifier_isFinite_j87 v0 (wr (v1 + (-1))) 1 v3 v4 μ6 W31 W53 Q)) else (d_Unifier_isFinite_j87 v0 v1 v2 v3 v4 μ W31 W53 Q)))))
def d_Unifier_isFinite_l53 (v0 : Nat) (v3 : Int) (v1 : Int) (v2 : Int) (v4 : Int) (μ : Mem) (W31 : Int → Int → Int → Mem → Prop) (Q : Bool → Mem → Prop) : Prop := ∀ W : Int → Int → Int → Mem → Prop, (∀ (v1 : Int) (v2 : Int) (v4 : Int) (μ : Mem), d_Unifier_isFinite_b53 v0 v3 v1 v2 v4 μ W31 W Q → W v1 v2 v4 μ) → W v1 v2 v4 μ
def d_Unifier_isFinite_b31 (v0 : Nat) (v1 : Int) (v2 : Int) (v3 : Int) (μ : Mem) (W31 : Int → Int → Int → Mem → Prop) (Q : Bool → Mem → Prop) : Prop := if μ v0 0 < v3 then (d_Unifier_isFinite_j99 v1 μ Q) else (if v2 = 0 then (d_Unifier_isFinite_j99 v1 μ Q) else (d_Unifier_isFinite_l53 v0 v3 v1 0 (wr ((μ v0 0) - 1)) μ W31 Q))
def d_Unifier_isFinite_l31 (v0 : Nat) (v1 : Int) (v2 : Int) (v3 : Int) (μ : Mem) (Q : Bool → Mem → Prop) : Prop := ∀ W : Int → Int → Int → Mem → Prop, (∀ (v1 : Int) (v2 : Int) (v3 : Int) (μ : Mem), d_Unifier_isFinite_b31 v0 v1 v2 v3 μ W Q → W v1 v2 v3 μ) → W v1 v2 v3 μ
def d_Unifier_isFinite_b2 (v0 : Nat) (v1 : Int) (μ : Mem) (W2 : Int → Mem → Prop) (Q : Bool → Mem → Prop) : Prop := if v1 < 160 then ((0 ≤ v1 ∧ v1 < 160) ∧ W2 (wr (v1 + 1)) (mup μ (v0 + 4) v1.toNat 0)) else (d_Unifier_isFinite_l31 v0 (μ v0 0) 1 0 μ Q)
def d_Unifier_isFinite_l2 (v0 : Nat) (v1 : Int) (μ : Mem) (Q : Bool → Mem → Prop) : Prop := ∀ W : Int → Mem → Prop, (∀ (v1 : Int) (μ : Mem), d_Unifier_isFinite_b2 v0 v1 μ W Q → W v1 μ) → W v1 μ
def d_Unifier_isFinite (v0 : Nat) (μ : Mem) (Q : Bool → Mem → Prop) : Prop := d_Unifier_isFinite_l2 v0 0 μ Q
theorem i_Unifier_isFinite_l53 {v0 : Nat} {v3 : Int} {W31 : Int → Int → Int → Mem → Prop} {Q : Bool → Mem → Prop} {Inv : Int → Int → Int → Mem → Prop} (f : Int → Int → Int → Mem → Nat) (hi : ∀ (v1 : Int) (v2 : Int) (v4 : Int) (μ : Mem), Inv v1 v2 v4 μ → ∀ W : Int → Int → Int → Mem → Prop, (∀ (v1' : Int) (v2' : Int) (v4' : Int) (μ' : Mem), Inv v1' v2' v4' μ' → f v1' v2' v4' μ' < f v1 v2 v4 μ → W v1' v2' v4' μ') → d_Unifier_isFinite_b53 v0 v3 v1 v2 v4 μ W31 W Q) : ∀ (v1 : Int) (v2 : Int) (v4 : Int) (μ : Mem), Inv v1 v2 v4 μ → d_Unifier_isFinite_l53 v0 v3 v1 v2 v4 μ W31 Q := by
  intro v1 v2 v4 μ hI W hW
  have key : ∀ (n : Nat) (v1 : Int) (v2 : Int) (v4 : Int) (μ : Mem), f v1 v2 v4 μ = n → Inv v1 v2 v4 μ → W v1 v2 v4 μ := by
    intro n
    induction n using Nat.strongRecOn with
    | _ n ih =>
      intro v1 v2 v4 μ hf hI
      exact hW _ _ _ _ (hi v1 v2 v4 μ hI W fun v1' v2' v4' μ' hI' hl => ih _ (by omega) v1' v2' v4' μ' rfl hI')
  exact key _ v1 v2 v4 μ rfl hI
theorem i_Unifier_isFinite_l31 {v0 : Nat} {Q : Bool → Mem → Prop} {Inv : Int → Int → Int → Mem → Prop} (f : Int → Int → Int → Mem → Nat) (hi : ∀ (v1 : Int) (v2 : Int) (v3 : Int) (μ : Mem), Inv v1 v2 v3 μ → ∀ W : Int → Int → Int → Mem → Prop, (∀ (v1' : Int) (v2' : Int) (v3' : Int) (μ' : Mem), Inv v1' v2' v3' μ' → f v1' v2' v3' μ' < f v1 v2 v3 μ → W v1' v2' v3' μ') → d_Unifier_isFinite_b31 v0 v1 v2 v3 μ W Q) : ∀ (v1 : Int) (v2 : Int) (v3 : Int) (μ : Mem), Inv v1 v2 v3 μ → d_Unifier_isFinite_l31 v0 v1 v2 v3 μ Q := by
  intro v1 v2 v3 μ hI W hW
  have key : ∀ (n : Nat) (v1 : Int) (v2 : Int) (v3 : Int) (μ : Mem), f v1 v2 v3 μ = n → Inv v1 v2 v3 μ → W v1 v2 v3 μ := by
    intro n
    induction n using Nat.strongRecOn with
    | _ n ih =>
      intro v1 v2 v3 μ hf hI
      exact hW _ _ _ _ (hi v1 v2 v3 μ hI W fun v1' v2' v3' μ' hI' hl => ih _ (by omega) v1' v2' v3' μ' rfl hI')
  exact key _ v1 v2 v3 μ rfl hI
theorem i_Unifier_isFinite_l2 {v0 : Nat} {Q : Bool → Mem → Prop} {Inv : Int → Mem → Prop} (f : Int → Mem → Nat) (hi : ∀ (v1 : Int) (μ : Mem), Inv v1 μ → ∀ W : Int → Mem → Prop, (∀ (v1' : Int) (μ' : Mem), Inv v1' μ' → f v1' μ' < f v1 μ → W v1' μ') → d_Unifier_isFinite_b2 v0 v1 μ W Q) : ∀ (v1 : Int) (μ : Mem), Inv v1 μ → d_Unifier_isFinite_l2 v0 v1 μ Q := by
  intro v1 μ hI W hW
  have key : ∀ (n : Nat) (v1 : Int) (μ : Mem), f v1 μ = n → Inv v1 μ → W v1 μ := by
    intro n
    induction n using Nat.strongRecOn with
    | _ n ih =>
      intro v1 μ hf hI
      exact hW _ _ (hi v1 μ hI W fun v1' μ' hI' hl => ih _ (by omega) v1' μ' rfl hI')
  exact key _ v1 μ rfl hI
def d_Unifier_solve (v0 : Nat) (v1 : Int) (v2 : Int) (μ : Mem) (Q : Bool → Mem → Prop) : Prop := d_Unifier_merge v0 v1 v2 μ (fun r1 μ2 => if r1 = true then (d_Unifier_isFinite v0 μ2 (fun r3 μ4 => if r3 = true then (Q true μ4) else (Q false μ4))) else (Q false μ2))
def d_Unifier_unites (v0 : Nat) (v1 : Nat) (v2 : Nat) (μ : Mem) (Q : Bool → Mem → Prop) : Prop := d_Unifier_clear v0 μ (fun μ2 => d_Unifier_load v0 v1 0 μ2 (fun r3 μ4 => d_Unifier_load v0 v2 8 μ4 (fun r5 μ6 => d_Unifier_solve v0 r3 r5 μ6 (fun r7 μ8 => Q r7 μ8))))
def d_OB_unify (v1 : Int) (v2 : Int) (μ : Mem) (Q : Bool → Mem → Prop) (X : Nat → Mem → Prop) : Prop := d_OB_requireTerm v1 μ (fun r1 μ2 => d_OB_requireTerm v2 μ2 (fun r3 μ4 => d_Unifier_unites 65 r1 r3 μ4 (fun r5 μ6 => Q r5 μ6)) X) X
def d_Lw_unify_j16 (t1 : Int) (t2 : Int64) (μ : Mem) (Q : Int → Mem → Prop) : Prop := (0 ≤ t1 ∧ t1 < 1) ∧ Q 0 (mup μ 795 t1.toNat t2.toInt)
def d_Lw_unify (v1 : Int) (v2 : Int) (μ : Mem) (Q : Int → Mem → Prop) : Prop := d_OB_unify v1 v2 μ (fun r1 μ2 => if r1 = true then (d_Lw_unify_j16 0 (Int64.ofNat 1) μ2 Q) else (d_Lw_unify_j16 0 (Int64.ofNat 0) μ2 Q)) (fun k μx => if k = 0 then (Q 1 μx) else (if k = 1 then (Q 2 μx) else False))
def d_Unifier_pushReversed_j41 (v0 : Nat) (v1 : Int) (v2 : Int) (μ : Mem) (Q : Mem → Prop) : Prop := if 0 < v2 then (d_Unifier_push v0 (wr (v1 + 1)) μ (fun μ14 => Q μ14)) else (Q μ)
def d_Unifier_pushReversed_j31 (v0 : Nat) (v1 : Int) (v2 : Int) (v3 : Int) (μ : Mem) (Q : Mem → Prop) : Prop := if 1 < v2 then (d_Unifier_push v0 v3 μ (fun μ12 => d_Unifier_pushReversed_j41 v0 v1 v2 μ12 Q)) else (d_Unifier_pushReversed_j41 v0 v1 v2 μ Q)
def d_Unifier_pushReversed (v0 : Nat) (v1 : Int) (μ : Mem) (Q : Mem → Prop) : Prop := d_Unifier_label v0 v1 μ (fun r1 => d_Term_arityOf r1 μ (fun r3 => d_Unifier_end v0 (wr (v1 + 1)) μ (fun r5 => if 2 < r3 then (d_Unifier_end v0 r5 μ (fun r7 => d_Unifier_push v0 r7 μ (fun μ10 => d_Unifier_pushReversed_j31 v0 v1 r3 r5 μ10 Q))) else (d_Unifier_pushReversed_j31 v0 v1 r3 r5 μ Q))))
def d_Unifier_expand_j62 (v0 : Nat) (μ : Mem) (Q : Bool → Mem → Prop) : Prop := if μ v0 7 = 0 then (Q true μ) else (Q false μ)
def d_Unifier_expand_b12 (v0 : Nat) (v2 : Nat) (v3 : Int) (μ : Mem) (W12 : Int → Mem → Prop) (Q : Bool → Mem → Prop) : Prop := if 80 < v3 then (d_Unifier_expand_j62 v0 μ Q) else (if 0 < μ v0 7 then (d_Unifier_pop v0 μ (fun r3 μ4 => d_Unifier_root v0 r3 μ4 (fun r5 => d_Unifier_label v0 r5 μ4 (fun r7 => d_Term_add v2 r7 μ4 (fun r9 μ10 => if r9 = true then (d_Unifier_pushReversed v0 r5 μ10 (fun μ12 => W12 (wr (v3 + 1)) μ12)) else (Q false μ10)))))) else (d_Unifier_expand_j62 v0 μ Q))
def d_Unifier_expand_l12 (v0 : Nat) (v2 : Nat) (v3 : Int) (μ : Mem) (Q : Bool → Mem → Prop) : Prop := ∀ W : Int → Mem → Prop, (∀ (v3 : Int) (μ : Mem), d_Unifier_expand_b12 v0 v2 v3 μ W Q → W v3 μ) → W v3 μ
def d_Unifier_expand (v0 : Nat) (v1 : Int) (v2 : Nat) (μ : Mem) (Q : Bool → Mem → Prop) : Prop := d_Unifier_push v0 v1 (mup μ v0 7 0) (fun μ2 => d_Unifier_expand_l12 v0 v2 0 μ2 Q)
theorem i_Unifier_expand_l12 {v0 : Nat} {v2 : Nat} {Q : Bool → Mem → Prop} {Inv : Int → Mem → Prop} (f : Int → Mem → Nat) (hi : ∀ (v3 : Int) (μ : Mem), Inv v3 μ → ∀ W : Int → Mem → Prop, (∀ (v3' : Int) (μ' : Mem), Inv v3' μ' → f v3' μ' < f v3 μ → W v3' μ') → d_Unifier_expand_b12 v0 v2 v3 μ W Q) : ∀ (v3 : Int) (μ : Mem), Inv v3 μ → d_Unifier_expand_l12 v0 v2 v3 μ Q := by
  intro v3 μ hI W hW
  have key : ∀ (n : Nat) (v3 : Int) (μ : Mem), f v3 μ = n → Inv v3 μ → W v3 μ := by
    intro n
    induction n using Nat.strongRecOn with
    | _ n ih =>
      intro v3 μ hf hI
      exact hW _ _ (hi v3 μ hI W fun v3' μ' hI' hl => ih _ (by omega) v3' μ' rfl hI')
  exact key _ v3 μ rfl hI
def d_OB_unifiedSize (v1 : Int) (v2 : Int) (μ : Mem) (Q : Int → Mem → Prop) (X : Nat → Mem → Prop) : Prop := d_OB_requireTerm v1 μ (fun r1 μ2 => d_OB_requireTerm v2 μ2 (fun r3 μ4 => d_Unifier_unites 65 r1 r3 μ4 (fun r5 μ6 => if r5 = true then (d_Term_clear 769 μ6 (fun μ8 => d_Unifier_expand 65 0 769 μ8 (fun r9 μ10 => if r9 = true then (Q (μ10 769 1) μ10) else (Q (-1) μ10)))) else (Q (-1) μ6))) X) X
def d_Lw_unifiedSize (v1 : Int) (v2 : Int) (μ : Mem) (Q : Int → Mem → Prop) : Prop := d_OB_unifiedSize v1 v2 μ (fun r1 μ2 => Q 0 (mup μ2 795 0 ((Int32.ofInt r1).toInt64).toInt)) (fun k μx => if k = 0 then (Q 1 μx) else (if k = 1 then (Q 2 μx) else False))
def d_PairList_has (v1 : Int) (μ : Mem) (Q : Bool → Prop) : Prop := if v1 < 0 then (Q false) else (if v1 < 20 then (Q true) else (Q false))
def d_PairList_firstTerm_j21 (t0 : Nat) (μ : Mem) (Q : Nat → Prop) : Prop := Q t0
def d_PairList_firstTerm (v1 : Int) (μ : Mem) (Q : Nat → Prop) : Prop := d_PairList_has v1 μ (fun r1 => if r1 = true then ((0 ≤ v1 ∧ v1 < 20) ∧ d_PairList_firstTerm_j21 (159 + (5 + 4 * v1.toNat)) μ Q) else (d_PairList_firstTerm_j21 161 μ Q))
def d_PairList_secondTerm_j21 (t0 : Nat) (μ : Mem) (Q : Nat → Prop) : Prop := Q t0
def d_PairList_secondTerm (v1 : Int) (μ : Mem) (Q : Nat → Prop) : Prop := d_PairList_has v1 μ (fun r1 => if r1 = true then ((0 ≤ v1 ∧ v1 < 20) ∧ d_PairList_secondTerm_j21 (160 + (6 + 4 * v1.toNat)) μ Q) else (d_PairList_secondTerm_j21 161 μ Q))
def d_Term_set (v0 : Nat) (v1 : Int) (v2 : Int) (μ : Mem) (Q : Mem → Prop) : Prop := if v1 < 0 then (Q μ) else (if v1 < μ v0 1 then (if v1 < (ln (v0 + 1) : Int) then ((0 ≤ v1 ∧ v1 < (ln (v0 + 1) : Int)) ∧ Q (mup μ (v0 + 1) v1.toNat v2)) else (Q μ)) else (Q μ))
def d_PairList_nameVariables_j78 (v1 : Nat) (v3 : Int) (v4 : Int) (μ : Mem) (W5 : Int → Int → Mem → Prop) (Q : Int → Mem → Prop) : Prop := W5 v3 (wr (v4 + 1)) μ
def d_PairList_nameVariables_j62 (v1 : Nat) (v3 : Int) (v4 : Int) (v5 : Int) (μ : Mem) (W5 : Int → Int → Mem → Prop) (Q : Int → Mem → Prop) : Prop := (0 ≤ v5 ∧ v5 < 16) ∧ d_Term_variableNode (μ 163 v5.toNat) μ (fun r5 => d_Term_set v1 v4 r5 μ (fun μ8 => d_PairList_nameVariables_j78 v1 v3 v4 μ8 W5 Q))
def d_PairList_nameVariables_b5 (v1 : Nat) (v3 : Int) (v4 : Int) (μ : Mem) (W5 : Int → Int → Mem → Prop) (Q : Int → Mem → Prop) : Prop := if v4 < μ v1 1 then (d_Term_get v1 v4 μ (fun r1 => d_Term_variableOf r1 μ (fun r3 => if r3 < 0 then (d_PairList_nameVariables_j78 v1 v3 v4 μ W5 Q) else (if r3 < 16 then ((0 ≤ r3 ∧ r3 < 16) ∧ if μ 163 r3.toNat = (-1) then ((0 ≤ r3 ∧ r3 < 16) ∧ d_PairList_nameVariables_j62 v1 (wr (v3 + 1)) v4 r3 (mup μ 163 r3.toNat v3) W5 Q) else (d_PairList_nameVariables_j62 v1 v3 v4 r3 μ W5 Q)) else (d_PairList_nameVariables_j78 v1 v3 v4 μ W5 Q))))) else (Q v3 μ)
def d_PairList_nameVariables_l5 (v1 : Nat) (v3 : Int) (v4 : Int) (μ : Mem) (Q : Int → Mem → Prop) : Prop := ∀ W : Int → Int → Mem → Prop, (∀ (v3 : Int) (v4 : Int) (μ : Mem), d_PairList_nameVariables_b5 v1 v3 v4 μ W Q → W v3 v4 μ) → W v3 v4 μ
def d_PairList_nameVariables (v1 : Nat) (v2 : Int) (μ : Mem) (Q : Int → Mem → Prop) : Prop := d_PairList_nameVariables_l5 v1 v2 0 μ Q
theorem i_PairList_nameVariables_l5 {v1 : Nat} {Q : Int → Mem → Prop} {Inv : Int → Int → Mem → Prop} (f : Int → Int → Mem → Nat) (hi : ∀ (v3 : Int) (v4 : Int) (μ : Mem), Inv v3 v4 μ → ∀ W : Int → Int → Mem → Prop, (∀ (v3' : Int) (v4' : Int) (μ' : Mem), Inv v3' v4' μ' → f v3' v4' μ' < f v3 v4 μ → W v3' v4' μ') → d_PairList_nameVariables_b5 v1 v3 v4 μ W Q) : ∀ (v3 : Int) (v4 : Int) (μ : Mem), Inv v3 v4 μ → d_PairList_nameVariables_l5 v1 v3 v4 μ Q := by
  intro v3 v4 μ hI W hW
  have key : ∀ (n : Nat) (v3 : Int) (v4 : Int) (μ : Mem), f v3 v4 μ = n → Inv v3 v4 μ → W v3 v4 μ := by
    intro n
    induction n using Nat.strongRecOn with
    | _ n ih =>
      intro v3 v4 μ hf hI
      exact hW _ _ _ (hi v3 v4 μ hI W fun v3' v4' μ' hI' hl => ih _ (by omega) v3' v4' μ' rfl hI')
  exact key _ v3 v4 μ rfl hI
def d_PairList_buildPair_j234 (v8 : Nat) (v9 : Nat) (v10 : Int) (μ : Mem) (Q : Bool → Mem → Prop) : Prop := d_Arrays_fill 163 (-1) μ (fun μ24 => if v10 = 0 then (Q false μ24) else (d_PairList_nameVariables v8 0 μ24 (fun r25 μ26 => d_PairList_nameVariables v9 r25 μ26 (fun r27 μ28 => if r27 < 0 then (Q false μ28) else (Q true μ28)))))
def d_PairList_buildPair_j228 (v1 : Nat) (v3 : Int) (v4 : Int) (v7 : Int) (v8 : Nat) (v9 : Nat) (v10 : Int) (v11 : Int) (μ : Mem) (W129 : Int → Int → Mem → Prop) (Q : Bool → Mem → Prop) : Prop := W129 v10 (wr (v11 + 1)) μ
def d_PairList_buildPair_j226 (v1 : Nat) (v3 : Int) (v4 : Int) (v7 : Int) (v8 : Nat) (v9 : Nat) (v11 : Int) (t0 : Int) (μ : Mem) (W129 : Int → Int → Mem → Prop) (Q : Bool → Mem → Prop) : Prop := d_PairList_buildPair_j228 v1 v3 v4 v7 v8 v9 t0 v11 μ W129 Q
def d_PairList_buildPair_b129 (v1 : Nat) (v3 : Int) (v4 : Int) (v7 : Int) (v8 : Nat) (v9 : Nat) (v10 : Int) (v11 : Int) (μ : Mem) (W129 : Int → Int → Mem → Prop) (Q : Bool → Mem → Prop) : Prop := if v10 = 0 then (d_PairList_buildPair_j234 v8 v9 v10 μ Q) else (if v11 < μ (dp (μ v1 0)) 1 then (if v11 = v3 then (d_Unifier_expand 140 v7 v9 μ (fun r29 μ30 => d_Term_end (dp (μ30 v1 0)) v11 μ30 (fun r31 => d_Math_max v11 (wr (r31 - 1)) μ30 (fun r33 => d_PairList_buildPair_j228 v1 v3 v4 v7 v8 v9 (b2i r29) r33 μ30 W129 Q)))) else (d_Term_get (dp (μ v1 0)) v11 μ (fun r35 => if r35 < 0 then (d_Unifier_expand 140 (wr (v4 + v11)) v9 μ (fun r37 μ38 => d_PairList_buildPair_j226 v1 v3 v4 v7 v8 v9 v11 (b2i r37) μ38 W129 Q)) else (d_Term_add v9 r35 μ (fun r39 μ40 => d_PairList_buildPair_j226 v1 v3 v4 v7 v8 v9 v11 (b2i r39) μ40 W129 Q))))) else (d_PairList_buildPair_j234 v8 v9 v10 μ Q))
def d_PairList_buildPair_l129 (v1 : Nat) (v3 : Int) (v4 : Int) (v7 : Int) (v8 : Nat) (v9 : Nat) (v10 : Int) (v11 : Int) (μ : Mem) (Q : Bool → Mem → Prop) : Prop := ∀ W : Int → Int → Mem → Prop, (∀ (v10 : Int) (v11 : Int) (μ : Mem), d_PairList_buildPair_b129 v1 v3 v4 v7 v8 v9 v10 v11 μ W Q → W v10 v11 μ) → W v10 v11 μ
def d_PairList_buildPair (v1 : Nat) (v2 : Nat) (v3 : Int) (μ : Mem) (Q : Bool → Mem → Prop) : Prop := d_Unifier_clear 140 μ (fun μ2 => d_Unifier_load 140 (dp (μ2 v1 0)) 0 μ2 (fun r3 μ4 => d_Unifier_load 140 (dp (μ4 v2 0)) 8 μ4 (fun r5 μ6 => d_Unifier_load 140 (dp (μ6 v1 1)) 0 μ6 (fun r7 μ8 => d_Unifier_load 140 (dp (μ8 v2 1)) 8 μ8 (fun r9 μ10 => d_Unifier_solve 140 (wr (r3 + v3)) r5 μ10 (fun r11 μ12 => if r11 = true then (d_PairList_firstTerm (μ12 139 1) μ12 (fun r13 => d_PairList_secondTerm (μ12 139 1) μ12 (fun r15 => d_Term_clear r13 μ12 (fun μ18 => d_Term_clear r15 μ18 (fun μ20 => d_Unifier_expand 140 r7 r13 μ20 (fun r21 μ22 => d_PairList_buildPair_l129 v1 v3 r3 r9 r13 r15 (b2i r21) 0 μ22 Q)))))) else (Q false μ12)))))))
theorem i_PairList_buildPair_l129 {v1 : Nat} {v3 : Int} {v4 : Int} {v7 : Int} {v8 : Nat} {v9 : Nat} {Q : Bool → Mem → Prop} {Inv : Int → Int → Mem → Prop} (f : Int → Int → Mem → Nat) (hi : ∀ (v10 : Int) (v11 : Int) (μ : Mem), Inv v10 v11 μ → ∀ W : Int → Int → Mem → Prop, (∀ (v10' : Int) (v11' : Int) (μ' : Mem), Inv v10' v11' μ' → f v10' v11' μ' < f v10 v11 μ → W v10' v11' μ') → d_PairList_buildPair_b129 v1 v3 v4 v7 v8 v9 v10 v11 μ W Q) : ∀ (v10 : Int) (v11 : Int) (μ : Mem), Inv v10 v11 μ → d_PairList_buildPair_l129 v1 v3 v4 v7 v8 v9 v10 v11 μ Q := by
  intro v10 v11 μ hI W hW
  have key : ∀ (n : Nat) (v10 : Int) (v11 : Int) (μ : Mem), f v10 v11 μ = n → Inv v10 v11 μ → W v10 v11 μ := by
    intro n
    induction n using Nat.strongRecOn with
    | _ n ih =>
      intro v10 v11 μ hf hI
      exact hW _ _ _ (hi v10 v11 μ hI W fun v10' v11' μ' hI' hl => ih _ (by omega) v10' v11' μ' rfl hI')
  exact key _ v10 v11 μ rfl hI
def d_PairList_keep (v1 : Int) (v2 : Int) (v3 : Int) (μ : Mem) (Q : Mem → Prop) : Prop := d_PairList_has (μ 139 1) μ (fun r1 => if r1 = true then ((0 ≤ μ 139 1 ∧ μ 139 1 < 20) ∧ (0 ≤ (mup μ 155 (μ 139 1).toNat v1) 139 1 ∧ (mup μ 155 (μ 139 1).toNat v1) 139 1 < 20) ∧ (0 ≤ (mup (mup μ 155 (μ 139 1).toNat v1) 156 ((mup μ 155 (μ 139 1).toNat v1) 139 1).toNat v2) 139 1 ∧ (mup (mup μ 155 (μ 139 1).toNat v1) 156 ((mup μ 155 (μ 139 1).toNat v1) 139 1).toNat v2) 139 1 < 20) ∧ (0 ≤ (mup (mup (mup μ 155 (μ 139 1).toNat v1) 156 ((mup μ 155 (μ 139 1).toNat v1) 139 1).toNat v2) 157 ((mup (mup μ 155 (μ 139 1).toNat v1) 156 ((mup μ 155 (μ 139 1).toNat v1) 139 1).toNat v2) 139 1).toNat v3) 139 1 ∧ (mup (mup (mup μ 155 (μ 139 1).toNat v1) 156 ((mup μ 155 (μ 139 1).toNat v1) 139 1).toNat v2) 157 ((mup (mup μ 155 (μ 139 1).toNat v1) 156 ((mup μ 155 (μ 139 1).toNat v1) 139 1).toNat v2) 139 1).toNat v3) 139 1 < 20) ∧ Q (mup (mup (mup (mup (mup μ 155 (μ 139 1).toNat v1) 156 ((mup μ 155 (μ 139 1).toNat v1) 139 1).toNat v2) 157 ((mup (mup μ 155 (μ 139 1).toNat v1) 156 ((mup μ 155 (μ 139 1).toNat v1) 139 1).toNat v2) 139 1).toNat v3) 158 ((mup (mup (mup μ 155 (μ 139 1).toNat v1) 156 ((mup μ 155 (μ 139 1).toNat v1) 139 1).toNat v2) 157 ((mup (mup μ 155 (μ 139 1).toNat v1) 156 ((mup μ 155 (μ 139 1).toNat v1) 139 1).toNat v2) 139 1).toNat v3) 139 1).toNat 0) 139 1 (wr (((mup (mup (mup (mup μ 155 (μ 139 1).toNat v1) 156 ((mup μ 155 (μ 139 1).toNat v1) 139 1).toNat v2) 157 ((mup (mup μ 155 (μ 139 1).toNat v1) 156 ((mup μ 155 (μ 139 1).toNat v1) 139 1).toNat v2) 139 1).toNat v3) 158 ((mup (mup (mup μ 155 (μ 139 1).toNat v1) 156 ((mup μ 155 (μ 139 1).toNat v1) 139 1).toNat v2) 157 ((mup (mup μ 155 (μ 139 1).toNat v1) 156 ((mup μ 155 (μ 139 1).toNat v1) 139 1).toNat v2) 139 1).toNat v3) 139 1).toNat 0) 139 1) + 1)))) else (Q μ))
def d_PairList_refresh_j132 (v1 : Nat) (v2 : Int) (v3 : Nat) (v4 : Int) (v5 : Nat) (v6 : Int) (μ : Mem) (W20 : Int → Mem → Prop) (W37 : Int → Mem → Prop) (W67 : Int → Mem → Prop) (Q : Mem → Prop) : Prop := W67 (wr (v6 + 1)) μ
def d_PairList_refresh_b67 (v1 : Nat) (v2 : Int) (v3 : Nat) (v4 : Int) (v5 : Nat) (v6 : Int) (μ : Mem) (W20 : Int → Mem → Prop) (W37 : Int → Mem → Prop) (W67 : Int → Mem → Prop) (Q : Mem → Prop) : Prop := if v6 < μ (dp (μ v3 0)) 1 then (d_Term_get (dp (μ v3 0)) v6 μ (fun r5 => d_Term_get (dp (μ v5 0)) 0 μ (fun r7 => if r5 = r7 then (d_PairList_has (μ 139 1) μ (fun r9 => if r9 = true then (d_PairList_buildPair v3 v5 v6 μ (fun r11 μ12 => if r11 = true then (d_PairList_keep v2 v4 v6 μ12 (fun μ14 => d_PairList_refresh_j132 v1 v2 v3 v4 v5 v6 μ14 W20 W37 W67 Q)) else (d_PairList_refresh_j132 v1 v2 v3 v4 v5 v6 μ12 W20 W37 W67 Q))) else (d_PairList_refresh_j132 v1 v2 v3 v4 v5 v6 μ W20 W37 W67 Q))) else (d_PairList_refresh_j132 v1 v2 v3 v4 v5 v6 μ W20 W37 W67 Q)))) else (W37 (wr (v4 + 1)) μ)
def d_PairList_refresh_l67 (v1 : Nat) (v2 : Int) (v3 : Nat) (v4 : Int) (v5 : Nat) (v6 : Int) (μ : Mem) (W20 : Int → Mem → Prop) (W37 : Int → Mem → Prop) (Q : Mem → Prop) : Prop := ∀ W : Int → Mem → Prop, (∀ (v6 : Int) (μ : Mem), d_PairList_refresh_b67 v1 v2 v3 v4 v5 v6 μ W20 W37 W Q → W v6 μ) → W v6 μ
def d_PairList_refresh_j65 (v1 : Nat) (v2 : Int) (v3 : Nat) (v4 : Int) (v5 : Nat) (t0 : Int) (μ : Mem) (W20 : Int → Mem → Prop) (W37 : Int → Mem → Prop) (Q : Mem → Prop) : Prop := d_PairList_refresh_l67 v1 v2 v3 v4 v5 t0 μ W20 W37 Q
def d_PairList_refresh_b37 (v1 : Nat) (v2 : Int) (v3 : Nat) (v4 : Int) (μ : Mem) (W20 : Int → Mem → Prop) (W37 : Int → Mem → Prop) (Q : Mem → Prop) : Prop := if v4 < μ v1 0 then (d_State_rule v1 v4 μ (fun r3 => if v2 = v4 then (d_PairList_refresh_j65 v1 v2 v3 v4 r3 1 μ W20 W37 Q) else (d_PairList_refresh_j65 v1 v2 v3 v4 r3 0 μ W20 W37 Q))) else (W20 (wr (v2 + 1)) μ)
def d_PairList_refresh_l37 (v1 : Nat) (v2 : Int) (v3 : Nat) (v4 : Int) (μ : Mem) (W20 : Int → Mem → Prop) (Q : Mem → Prop) : Prop := ∀ W : Int → Mem → Prop, (∀ (v4 : Int) (μ : Mem), d_PairList_refresh_b37 v1 v2 v3 v4 μ W20 W Q → W v4 μ) → W v4 μ
def d_PairList_refresh_b20 (v1 : Nat) (v2 : Int) (μ : Mem) (W20 : Int → Mem → Prop) (Q : Mem → Prop) : Prop := if v2 < μ v1 0 then (d_State_rule v1 v2 μ (fun r1 => d_PairList_refresh_l37 v1 v2 r1 0 μ W20 Q)) else (Q μ)
def d_PairList_refresh_l20 (v1 : Nat) (v2 : Int) (μ : Mem) (Q : Mem → Prop) : Prop := ∀ W : Int → Mem → Prop, (∀ (v2 : Int) (μ : Mem), d_PairList_refresh_b20 v1 v2 μ W Q → W v2 μ) → W v2 μ
def d_PairList_refresh (v1 : Nat) (μ : Mem) (Q : Mem → Prop) : Prop := if μ 139 0 = 0 then (Q μ) else (d_PairList_refresh_l20 v1 0 (mup (mup μ 139 0 0) 139 1 0) Q)
theorem i_PairList_refresh_l67 {v1 : Nat} {v2 : Int} {v3 : Nat} {v4 : Int} {v5 : Nat} {W20 : Int → Mem → Prop} {W37 : Int → Mem → Prop} {Q : Mem → Prop} {Inv : Int → Mem → Prop} (f : Int → Mem → Nat) (hi : ∀ (v6 : Int) (μ : Mem), Inv v6 μ → ∀ W : Int → Mem → Prop, (∀ (v6' : Int) (μ' : Mem), Inv v6' μ' → f v6' μ' < f v6 μ → W v6' μ') → d_PairList_refresh_b67 v1 v2 v3 v4 v5 v6 μ W20 W37 W Q) : ∀ (v6 : Int) (μ : Mem), Inv v6 μ → d_PairList_refresh_l67 v1 v2 v3 v4 v5 v6 μ W20 W37 Q := by
  intro v6 μ hI W hW
  have key : ∀ (n : Nat) (v6 : Int) (μ : Mem), f v6 μ = n → Inv v6 μ → W v6 μ := by
    intro n
    induction n using Nat.strongRecOn with
    | _ n ih =>
      intro v6 μ hf hI
      exact hW _ _ (hi v6 μ hI W fun v6' μ' hI' hl => ih _ (by omega) v6' μ' rfl hI')
  exact key _ v6 μ rfl hI
theorem i_PairList_refresh_l37 {v1 : Nat} {v2 : Int} {v3 : Nat} {W20 : Int → Mem → Prop} {Q : Mem → Prop} {Inv : Int → Mem → Prop} (f : Int → Mem → Nat) (hi : ∀ (v4 : Int) (μ : Mem), Inv v4 μ → ∀ W : Int → Mem → Prop, (∀ (v4' : Int) (μ' : Mem), Inv v4' μ' → f v4' μ' < f v4 μ → W v4' μ') → d_PairList_refresh_b37 v1 v2 v3 v4 μ W20 W Q) : ∀ (v4 : Int) (μ : Mem), Inv v4 μ → d_PairList_refresh_l37 v1 v2 v3 v4 μ W20 Q := by
  intro v4 μ hI W hW
  have key : ∀ (n : Nat) (v4 : Int) (μ : Mem), f v4 μ = n → Inv v4 μ → W v4 μ := by
    intro n
    induction n using Nat.strongRecOn with
    | _ n ih =>
      intro v4 μ hf hI
      exact hW _ _ (hi v4 μ hI W fun v4' μ' hI' hl => ih _ (by omega) v4' μ' rfl hI')
  exact key _ v4 μ rfl hI
theorem i_PairList_refresh_l20 {v1 : Nat} {Q : Mem → Prop} {Inv : Int → Mem → Prop} (f : Int → Mem → Nat) (hi : ∀ (v2 : Int) (μ : Mem), Inv v2 μ → ∀ W : Int → Mem → Prop, (∀ (v2' : Int) (μ' : Mem), Inv v2' μ' → f v2' μ' < f v2 μ → W v2' μ') → d_PairList_refresh_b20 v1 v2 μ W Q) : ∀ (v2 : Int) (μ : Mem), Inv v2 μ → d_PairList_refresh_l20 v1 v2 μ Q := by
  intro v2 μ hI W hW
  have key : ∀ (n : Nat) (v2 : Int) (μ : Mem), f v2 μ = n → Inv v2 μ → W v2 μ := by
    intro n
    induction n using Nat.strongRecOn with
    | _ n ih =>
      intro v2 μ hf hI
      exact hW _ _ (hi v2 μ hI W fun v2' μ' hI' hl => ih _ (by omega) v2' μ' rfl hI')
  exact key _ v2 μ rfl hI
def d_OB_criticalPairCount (μ : Mem) (Q : Int → Mem → Prop) (X : Nat → Mem → Prop) : Prop := d_OB_requireSystem μ (fun μ2 => d_PairList_refresh 5 μ2 (fun μ4 => Q (μ4 139 1) μ4)) X
def d_Lw_criticalPairCount (μ : Mem) (Q : Int → Mem → Prop) : Prop := d_OB_criticalPairCount μ (fun r1 μ2 => Q 0 (mup μ2 795 0 ((Int32.ofInt r1).toInt64).toInt)) (fun k μx => if k = 0 then (Q 1 μx) else False)
def d_OB_requirePair (v1 : Int) (μ : Mem) (Q : Mem → Prop) (X : Nat → Mem → Prop) : Prop := d_OB_requireSystem μ (fun μ2 => d_PairList_refresh 5 μ2 (fun μ4 => d_OB_requireIndex v1 (μ4 139 1) μ4 (fun μ6 => Q μ6) X)) X
def d_PairList_outerRule (v1 : Int) (μ : Mem) (Q : Int → Prop) : Prop := d_PairList_has v1 μ (fun r1 => if r1 = true then ((0 ≤ v1 ∧ v1 < 20) ∧ Q (μ 155 v1.toNat)) else (Q (-1)))
def d_OB_pairOuterRule (v1 : Int) (μ : Mem) (Q : Int → Mem → Prop) (X : Nat → Mem → Prop) : Prop := d_OB_requirePair v1 μ (fun μ2 => d_PairList_outerRule v1 μ2 (fun r3 => Q r3 μ2)) X
def d_Lw_pairOuterRule (v1 : Int) (μ : Mem) (Q : Int → Mem → Prop) : Prop := d_OB_pairOuterRule v1 μ (fun r1 μ2 => Q 0 (mup μ2 795 0 ((Int32.ofInt r1).toInt64).toInt)) (fun k μx => if k = 0 then (Q 1 μx) else (if k = 1 then (Q 2 μx) else False))
def d_PairList_innerRule (v1 : Int) (μ : Mem) (Q : Int → Prop) : Prop := d_PairList_has v1 μ (fun r1 => if r1 = true then ((0 ≤ v1 ∧ v1 < 20) ∧ Q (μ 156 v1.toNat)) else (Q (-1)))
def d_OB_pairInnerRule (v1 : Int) (μ : Mem) (Q : Int → Mem → Prop) (X : Nat → Mem → Prop) : Prop := d_OB_requirePair v1 μ (fun μ2 => d_PairList_innerRule v1 μ2 (fun r3 => Q r3 μ2)) X
def d_Lw_pairInnerRule (v1 : Int) (μ : Mem) (Q : Int → Mem → Prop) : Prop := d_OB_pairInnerRule v1 μ (fun r1 μ2 => Q 0 (mup μ2 795 0 ((Int32.ofInt r1).toInt64).toInt)) (fun k μx => if k = 0 then (Q 1 μx) else (if k = 1 then (Q 2 μx) else False))
def d_PairList_position (v1 : Int) (μ : Mem) (Q : Int → Prop) : Prop := d_PairList_has v1 μ (fun r1 => if r1 = true then ((0 ≤ v1 ∧ v1 < 20) ∧ Q (μ 157 v1.toNat)) else (Q (-1)))
def d_OB_pairPosition (v1 : Int) (μ : Mem) (Q : Int → Mem → Prop) (X : Nat → Mem → Prop) : Prop := d_OB_requirePair v1 μ (fun μ2 => d_PairList_position v1 μ2 (fun r3 => Q r3 μ2)) X
def d_Lw_pairPosition (v1 : Int) (μ : Mem) (Q : Int → Mem → Prop) : Prop := d_OB_pairPosition v1 μ (fun r1 μ2 => Q 0 (mup μ2 795 0 ((Int32.ofInt r1).toInt64).toInt)) (fun k μx => if k = 0 then (Q 1 μx) else (if k = 1 then (Q 2 μx) else False))
def d_PairList_joins_j55 (v2 : Int) (μ : Mem) (Q : Bool → Mem → Prop) : Prop := (0 ≤ v2 ∧ v2 < 20) ∧ if μ 158 v2.toNat = 1 then (Q true μ) else (Q false μ)
def d_PairList_joins_j54 (v2 : Int) (t1 : Int) (t2 : Int) (μ : Mem) (Q : Bool → Mem → Prop) : Prop := (0 ≤ t1 ∧ t1 < 20) ∧ d_PairList_joins_j55 v2 (mup μ 158 t1.toNat t2) Q
def d_PairList_joins (v1 : Nat) (v2 : Int) (μ : Mem) (Q : Bool → Mem → Prop) : Prop := d_PairList_has v2 μ (fun r1 => if r1 = true then ((0 ≤ v2 ∧ v2 < 20) ∧ if μ 158 v2.toNat = 0 then (d_PairList_firstTerm v2 μ (fun r3 => d_PairList_secondTerm v2 μ (fun r5 => d_Rewriter_meet 147 v1 r3 r5 50 μ (fun r7 μ8 => if r7 = true then (d_PairList_joins_j54 v2 v2 1 μ8 Q) else (d_PairList_joins_j54 v2 v2 2 μ8 Q))))) else (d_PairList_joins_j55 v2 μ Q)) else (Q false μ))
def d_OB_pairJoins (v1 : Int) (μ : Mem) (Q : Bool → Mem → Prop) (X : Nat → Mem → Prop) : Prop := d_OB_requirePair v1 μ (fun μ2 => d_PairList_joins 5 v1 μ2 (fun r3 μ4 => Q r3 μ4)) X
def d_Lw_pairJoins_j15 (t1 : Int) (t2 : Int64) (μ : Mem) (Q : Int → Mem → Prop) : Prop := (0 ≤ t1 ∧ t1 < 1) ∧ Q 0 (mup μ 795 t1.toNat t2.toInt)
def d_Lw_pairJoins (v1 : Int) (μ : Mem) (Q : Int → Mem → Prop) : Prop := d_OB_pairJoins v1 μ (fun r1 μ2 => if r1 = true then (d_Lw_pairJoins_j15 0 (Int64.ofNat 1) μ2 Q) else (d_Lw_pairJoins_j15 0 (Int64.ofNat 0) μ2 Q)) (fun k μx => if k = 0 then (Q 1 μx) else (if k = 1 then (Q 2 μx) else False))
def d_OB_unjoinedPairs_j48 (v1 : Int) (v2 : Int) (μ : Mem) (W19 : Int → Int → Mem → Prop) (Q : Int → Mem → Prop) (X : Nat → Mem → Prop) : Prop := W19 v1 (wr (v2 + 1)) μ
def d_OB_unjoinedPairs_b19 (v1 : Int) (v2 : Int) (μ : Mem) (W19 : Int → Int → Mem → Prop) (Q : Int → Mem → Prop) (X : Nat → Mem → Prop) : Prop := if v2 < μ 139 1 then (d_PairList_joins 5 v2 μ (fun r5 μ6 => if r5 = true then (d_OB_unjoinedPairs_j48 v1 v2 μ6 W19 Q X) else (d_OB_unjoinedPairs_j48 (wr (v1 + 1)) v2 μ6 W19 Q X))) else (Q v1 μ)
def d_OB_unjoinedPairs_l19 (v1 : Int) (v2 : Int) (μ : Mem) (Q : Int → Mem → Prop) (X : Nat → Mem → Prop) : Prop := ∀ W : Int → Int → Mem → Prop, (∀ (v1 : Int) (v2 : Int) (μ : Mem), d_OB_unjoinedPairs_b19 v1 v2 μ W Q X → W v1 v2 μ) → W v1 v2 μ
def d_OB_unjoinedPairs (μ : Mem) (Q : Int → Mem → Prop) (X : Nat → Mem → Prop) : Prop := d_OB_requireSystem μ (fun μ2 => d_PairList_refresh 5 μ2 (fun μ4 => d_OB_unjoinedPairs_l19 0 0 μ4 Q X)) X
theorem i_OB_unjoinedPairs_l19 {Q : Int → Mem → Prop} {X : Nat → Mem → Prop} {Inv : Int → Int → Mem → Prop} (f : Int → Int → Mem → Nat) (hi : ∀ (v1 : Int) (v2 : Int) (μ : Mem), Inv v1 v2 μ → ∀ W : Int → Int → Mem → Prop, (∀ (v1' : Int) (v2' : Int) (μ' : Mem), Inv v1' v2' μ' → f v1' v2' μ' < f v1 v2 μ → W v1' v2' μ') → d_OB_unjoinedPairs_b19 v1 v2 μ W Q X) : ∀ (v1 : Int) (v2 : Int) (μ : Mem), Inv v1 v2 μ → d_OB_unjoinedPairs_l19 v1 v2 μ Q X := by
  intro v1 v2 μ hI W hW
  have key : ∀ (n : Nat) (v1 : Int) (v2 : Int) (μ : Mem), f v1 v2 μ = n → Inv v1 v2 μ → W v1 v2 μ := by
    intro n
    induction n using Nat.strongRecOn with
    | _ n ih =>
      intro v1 v2 μ hf hI
      exact hW _ _ _ (hi v1 v2 μ hI W fun v1' v2' μ' hI' hl => ih _ (by omega) v1' v2' μ' rfl hI')
  exact key _ v1 v2 μ rfl hI
def d_Lw_unjoinedPairs (μ : Mem) (Q : Int → Mem → Prop) : Prop := d_OB_unjoinedPairs μ (fun r1 μ2 => Q 0 (mup μ2 795 0 ((Int32.ofInt r1).toInt64).toInt)) (fun k μx => if k = 0 then (Q 1 μx) else False)
def d_Output_addByte (v1 : Int) (μ : Mem) (Q : Mem → Prop) : Prop := if μ 244 0 < 0 then (Q μ) else (if μ 244 0 < 1600 then ((0 ≤ μ 244 0 ∧ μ 244 0 < 1600) ∧ Q (mup (mup μ 245 (μ 244 0).toNat v1) 244 0 (wr (((mup μ 245 (μ 244 0).toNat v1) 244 0) + 1)))) else (Q μ))
def d_Output_addName_b24 (v2 : Nat) (v3 : Int) (v4 : Int) (μ : Mem) (W24 : Int → Mem → Prop) (Q : Mem → Prop) : Prop := d_Signature_nameLength v2 v3 μ (fun r7 => if v4 < r7 then (d_Signature_letter v2 v3 v4 μ (fun r9 => d_Output_addByte r9 μ (fun μ12 => W24 (wr (v4 + 1)) μ12))) else (Q μ))
def d_Output_addName_l24 (v2 : Nat) (v3 : Int) (v4 : Int) (μ : Mem) (Q : Mem → Prop) : Prop := ∀ W : Int → Mem → Prop, (∀ (v4 : Int) (μ : Mem), d_Output_addName_b24 v2 v3 v4 μ W Q → W v4 μ) → W v4 μ
def d_Output_addName (v1 : Int) (v2 : Nat) (μ : Mem) (Q : Mem → Prop) : Prop := if v1 < 0 then (d_Term_variableOf v1 μ (fun r1 => d_Output_addByte (wr (65 + r1)) μ (fun μ4 => Q μ4))) else (d_Term_symbolOf v1 μ (fun r5 => d_Output_addName_l24 v2 r5 0 μ Q))
theorem i_Output_addName_l24 {v2 : Nat} {v3 : Int} {Q : Mem → Prop} {Inv : Int → Mem → Prop} (f : Int → Mem → Nat) (hi : ∀ (v4 : Int) (μ : Mem), Inv v4 μ → ∀ W : Int → Mem → Prop, (∀ (v4' : Int) (μ' : Mem), Inv v4' μ' → f v4' μ' < f v4 μ → W v4' μ') → d_Output_addName_b24 v2 v3 v4 μ W Q) : ∀ (v4 : Int) (μ : Mem), Inv v4 μ → d_Output_addName_l24 v2 v3 v4 μ Q := by
  intro v4 μ hI W hW
  have key : ∀ (n : Nat) (v4 : Int) (μ : Mem), f v4 μ = n → Inv v4 μ → W v4 μ := by
    intro n
    induction n using Nat.strongRecOn with
    | _ n ih =>
      intro v4 μ hf hI
      exact hW _ _ (hi v4 μ hI W fun v4' μ' hI' hl => ih _ (by omega) v4' μ' rfl hI')
  exact key _ v4 μ rfl hI
def d_Output_closeBrackets_b4 (v2 : Int) (μ : Mem) (W4 : Int → Mem → Prop) (Q : Int → Mem → Prop) : Prop := if v2 < 0 then (Q 0 μ) else (if v2 < 80 then ((0 ≤ v2 ∧ v2 < 80) ∧ (0 ≤ v2 ∧ v2 < 80) ∧ (0 ≤ v2 ∧ v2 < 80) ∧ if 0 < (mup μ 246 v2.toNat (wr ((μ 246 v2.toNat) - 1))) 246 v2.toNat then (d_Output_addByte 44 (mup μ 246 v2.toNat (wr ((μ 246 v2.toNat) - 1))) (fun μ2 => Q (wr (v2 + 1)) μ2)) else (d_Output_addByte 41 (mup μ 246 v2.toNat (wr ((μ 246 v2.toNat) - 1))) (fun μ4 => W4 (wr (v2 + (-1))) μ4))) else (Q 0 μ))
def d_Output_closeBrackets_l4 (v2 : Int) (μ : Mem) (Q : Int → Mem → Prop) : Prop := ∀ W : Int → Mem → Prop, (∀ (v2 : Int) (μ : Mem), d_Output_closeBrackets_b4 v2 μ W Q → W v2 μ) → W v2 μ
def d_Output_closeBrackets (v1 : Int) (μ : Mem) (Q : Int → Mem → Prop) : Prop := d_Output_closeBrackets_l4 (wr (v1 - 1)) μ Q
theorem i_Output_closeBrackets_l4 {Q : Int → Mem → Prop} {Inv : Int → Mem → Prop} (f : Int → Mem → Nat) (hi : ∀ (v2 : Int) (μ : Mem), Inv v2 μ → ∀ W : Int → Mem → Prop, (∀ (v2' : Int) (μ' : Mem), Inv v2' μ' → f v2' μ' < f v2 μ → W v2' μ') → d_Output_closeBrackets_b4 v2 μ W Q) : ∀ (v2 : Int) (μ : Mem), Inv v2 μ → d_Output_closeBrackets_l4 v2 μ Q := by
  intro v2 μ hI W hW
  have key : ∀ (n : Nat) (v2 : Int) (μ : Mem), f v2 μ = n → Inv v2 μ → W v2 μ := by
    intro n
    induction n using Nat.strongRecOn with
    | _ n ih =>
      intro v2 μ hf hI
      exact hW _ _ (hi v2 μ hI W fun v2' μ' hI' hl => ih _ (by omega) v2' μ' rfl hI')
  exact key _ v2 μ rfl hI
def d_Output_addTerm_j79 (v1 : Nat) (v2 : Nat) (v3 : Int) (v4 : Int) (μ : Mem) (W5 : Int → Int → Mem → Prop) (Q : Mem → Prop) : Prop := W5 v3 (wr (v4 + 1)) μ
def d_Output_addTerm_b5 (v1 : Nat) (v2 : Nat) (v3 : Int) (v4 : Int) (μ : Mem) (W5 : Int → Int → Mem → Prop) (Q : Mem → Prop) : Prop := if v4 < μ v1 1 then (d_Term_get v1 v4 μ (fun r1 => d_Output_addName r1 v2 μ (fun μ4 => d_Term_arityOf r1 μ4 (fun r5 => if r5 = 0 then (d_Output_closeBrackets v3 μ4 (fun r7 μ8 => d_Output_addTerm_j79 v1 v2 r7 v4 μ8 W5 Q)) else (if v3 < 0 then (d_Output_addTerm_j79 v1 v2 v3 v4 μ4 W5 Q) else (if v3 < 80 then (d_Output_addByte 40 μ4 (fun μ10 => d_Term_arityOf r1 μ10 (fun r11 => (0 ≤ v3 ∧ v3 < 80) ∧ d_Output_addTerm_j79 v1 v2 (wr (v3 + 1)) v4 (mup μ10 246 v3.toNat r11) W5 Q))) else (d_Output_addTerm_j79 v1 v2 v3 v4 μ4 W5 Q))))))) else (Q μ)
def d_Output_addTerm_l5 (v1 : Nat) (v2 : Nat) (v3 : Int) (v4 : Int) (μ : Mem) (Q : Mem → Prop) : Prop := ∀ W : Int → Int → Mem → Prop, (∀ (v3 : Int) (v4 : Int) (μ : Mem), d_Output_addTerm_b5 v1 v2 v3 v4 μ W Q → W v3 v4 μ) → W v3 v4 μ
def d_Output_addTerm (v1 : Nat) (v2 : Nat) (μ : Mem) (Q : Mem → Prop) : Prop := d_Output_addTerm_l5 v1 v2 0 0 μ Q
theorem i_Output_addTerm_l5 {v1 : Nat} {v2 : Nat} {Q : Mem → Prop} {Inv : Int → Int → Mem → Prop} (f : Int → Int → Mem → Nat) (hi : ∀ (v3 : Int) (v4 : Int) (μ : Mem), Inv v3 v4 μ → ∀ W : Int → Int → Mem → Prop, (∀ (v3' : Int) (v4' : Int) (μ' : Mem), Inv v3' v4' μ' → f v3' v4' μ' < f v3 v4 μ → W v3' v4' μ') → d_Output_addTerm_b5 v1 v2 v3 v4 μ W Q) : ∀ (v3 : Int) (v4 : Int) (μ : Mem), Inv v3 v4 μ → d_Output_addTerm_l5 v1 v2 v3 v4 μ Q := by
  intro v3 v4 μ hI W hW
  have key : ∀ (n : Nat) (v3 : Int) (v4 : Int) (μ : Mem), f v3 v4 μ = n → Inv v3 v4 μ → W v3 v4 μ := by
    intro n
    induction n using Nat.strongRecOn with
    | _ n ih =>
      intro v3 v4 μ hf hI
      exact hW _ _ _ (hi v3 v4 μ hI W fun v3' v4' μ' hI' hl => ih _ (by omega) v3' v4' μ' rfl hI')
  exact key _ v3 v4 μ rfl hI
def d_OB_writeTerm (v1 : Int) (μ : Mem) (Q : Int → Mem → Prop) (X : Nat → Mem → Prop) : Prop := d_OB_requireTerm v1 μ (fun r1 μ2 => d_Output_addTerm r1 1 (mup μ2 244 0 0) (fun μ4 => Q (μ4 244 0) μ4)) X
def d_Lw_writeTerm (v1 : Int) (μ : Mem) (Q : Int → Mem → Prop) : Prop := d_OB_writeTerm v1 μ (fun r1 μ2 => Q 0 (mup μ2 795 0 ((Int32.ofInt r1).toInt64).toInt)) (fun k μx => if k = 0 then (Q 1 μx) else (if k = 1 then (Q 2 μx) else False))
def d_OB_writeRule (v1 : Int) (μ : Mem) (Q : Int → Mem → Prop) (X : Nat → Mem → Prop) : Prop := d_OB_requireRule v1 μ (fun r1 μ2 => d_Output_addTerm (dp ((mup μ2 244 0 0) r1 0)) 1 (mup μ2 244 0 0) (fun μ4 => d_Output_addByte 61 μ4 (fun μ6 => d_Output_addTerm (dp (μ6 r1 1)) 1 μ6 (fun μ8 => Q (μ8 244 0) μ8)))) X
def d_Lw_writeRule (v1 : Int) (μ : Mem) (Q : Int → Mem → Prop) : Prop := d_OB_writeRule v1 μ (fun r1 μ2 => Q 0 (mup μ2 795 0 ((Int32.ofInt r1).toInt64).toInt)) (fun k μx => if k = 0 then (Q 1 μx) else (if k = 1 then (Q 2 μx) else False))
def d_OB_writeNormalForm (v1 : Int) (μ : Mem) (Q : Int → Mem → Prop) (X : Nat → Mem → Prop) : Prop := d_OB_requireTerm v1 μ (fun r1 μ2 => d_Rewriter_reduce 57 5 r1 1 200 μ2 (fun r3 μ4 => if r3 = (-1) then (d_Output_addByte 63 (mup μ4 244 0 0) (fun μ6 => Q (μ6 244 0) μ6)) else (d_Output_addTerm 60 1 (mup μ4 244 0 0) (fun μ8 => Q (μ8 244 0) μ8)))) X
def d_Lw_writeNormalForm (v1 : Int) (μ : Mem) (Q : Int → Mem → Prop) : Prop := d_OB_writeNormalForm v1 μ (fun r1 μ2 => Q 0 (mup μ2 795 0 ((Int32.ofInt r1).toInt64).toInt)) (fun k μx => if k = 0 then (Q 1 μx) else (if k = 1 then (Q 2 μx) else False))
def d_OB_writePair (v1 : Int) (μ : Mem) (Q : Int → Mem → Prop) (X : Nat → Mem → Prop) : Prop := d_OB_requirePair v1 μ (fun μ2 => d_PairList_firstTerm v1 (mup μ2 244 0 0) (fun r3 => d_Output_addTerm r3 1 (mup μ2 244 0 0) (fun μ6 => d_Output_addByte 60 μ6 (fun μ8 => d_Output_addByte 62 μ8 (fun μ10 => d_PairList_secondTerm v1 μ10 (fun r11 => d_Output_addTerm r11 1 μ10 (fun μ14 => Q (μ14 244 0) μ14))))))) X
def d_Lw_writePair (v1 : Int) (μ : Mem) (Q : Int → Mem → Prop) : Prop := d_OB_writePair v1 μ (fun r1 μ2 => Q 0 (mup μ2 795 0 ((Int32.ofInt r1).toInt64).toInt)) (fun k μx => if k = 0 then (Q 1 μx) else (if k = 1 then (Q 2 μx) else False))
def d_Output_byteAt (v1 : Int) (μ : Mem) (Q : Int → Prop) : Prop := if v1 < 0 then (Q (-1)) else (if v1 < μ 244 0 then (if v1 < 1600 then ((0 ≤ v1 ∧ v1 < 1600) ∧ Q (μ 245 v1.toNat)) else (Q (-1))) else (Q (-1)))
def d_OB_outputByte (v1 : Int) (μ : Mem) (Q : Int → Mem → Prop) (X : Nat → Mem → Prop) : Prop := d_OB_requireIndex v1 (μ 244 0) μ (fun μ2 => d_Output_byteAt v1 μ2 (fun r3 => Q r3 μ2)) X
def d_Lw_outputByte (v1 : Int) (μ : Mem) (Q : Int → Mem → Prop) : Prop := d_OB_outputByte v1 μ (fun r1 μ2 => Q 0 (mup μ2 795 0 ((Int32.ofInt r1).toInt64).toInt)) (fun k μx => if k = 1 then (Q 1 μx) else False)
def d_History_at_j22 (μ : Mem) (Q : Nat → Prop) : Prop := False
def d_History_at (v1 : Int) (μ : Mem) (Q : Nat → Prop) : Prop := if v1 < 0 then (d_History_at_j22 μ Q) else (if v1 < 8 then ((0 ≤ v1 ∧ v1 < 8) ∧ Q (248 + (1 + 52 * v1.toNat))) else (d_History_at_j22 μ Q))
def d_History_keep_j22 (v1 : Nat) (t1 : Int) (μ : Mem) (Q : Mem → Prop) : Prop := d_Math_min (wr (((mup μ 247 1 t1) 247 0) + 1)) 8 (mup μ 247 1 t1) (fun r1 => d_History_at ((mup (mup μ 247 1 t1) 247 0 r1) 247 1) (mup (mup μ 247 1 t1) 247 0 r1) (fun r3 => d_State_copyFrom r3 v1 (mup (mup μ 247 1 t1) 247 0 r1) (fun μ6 => Q μ6)))
def d_History_keep (v1 : Nat) (μ : Mem) (Q : Mem → Prop) : Prop := if wr ((μ 247 1) + 1) < 8 then (d_History_keep_j22 v1 (wr ((μ 247 1) + 1)) μ Q) else (d_History_keep_j22 v1 0 μ Q)
def d_OB_remember (μ : Mem) (Q : Mem → Prop) : Prop := d_History_keep 5 μ (fun μ2 => Q (mup μ2 139 0 1))
def d_OB_rewrite (v1 : Int) (v2 : Int) (v3 : Int) (μ : Mem) (Q : Int → Mem → Prop) (X : Nat → Mem → Prop) : Prop := d_OB_requireRule v1 μ (fun r1 μ2 => d_OB_requireNode v2 v3 μ2 (fun r3 μ4 => d_Rewriter_build 57 r1 r3 v3 μ4 (fun r5 μ6 => if r5 = true then (d_OB_remember μ6 (fun μ8 => d_Term_copyFrom r3 58 μ8 (fun μ10 => Q (μ10 r3 1) μ10))) else (X 2 (thr μ6)))) X) X
def d_Lw_rewrite (v1 : Int) (v2 : Int) (v3 : Int) (μ : Mem) (Q : Int → Mem → Prop) : Prop := d_OB_rewrite v1 v2 v3 μ (fun r1 μ2 => Q 0 (mup μ2 795 0 ((Int32.ofInt r1).toInt64).toInt)) (fun k μx => if k = 0 then (Q 1 μx) else (if k = 1 then (Q 2 μx) else (if k = 2 then (Q 3 μx) else False)))
def d_OB_takeStep (v1 : Nat) (v2 : Int) (μ : Mem) (Q : Int → Mem → Prop) (X : Nat → Mem → Prop) : Prop := d_Rewriter_step 57 5 v1 v2 μ (fun r1 μ2 => if r1 = (-1) then (X 2 (thr μ2)) else (d_OB_remember μ2 (fun μ4 => d_Term_copyFrom v1 58 μ4 (fun μ6 => Q r1 μ6))))
def d_OB_stepInnermost (v1 : Int) (μ : Mem) (Q : Int → Mem → Prop) (X : Nat → Mem → Prop) : Prop := d_OB_requireTerm v1 μ (fun r1 μ2 => d_OB_takeStep r1 1 μ2 (fun r3 μ4 => Q r3 μ4) X) X
def d_Lw_stepInnermost (v1 : Int) (μ : Mem) (Q : Int → Mem → Prop) : Prop := d_OB_stepInnermost v1 μ (fun r1 μ2 => Q 0 (mup μ2 795 0 ((Int32.ofInt r1).toInt64).toInt)) (fun k μx => if k = 0 then (Q 1 μx) else (if k = 1 then (Q 2 μx) else (if k = 2 then (Q 3 μx) else False)))
def d_OB_stepOutermost (v1 : Int) (μ : Mem) (Q : Int → Mem → Prop) (X : Nat → Mem → Prop) : Prop := d_OB_requireTerm v1 μ (fun r1 μ2 => d_OB_takeStep r1 0 μ2 (fun r3 μ4 => Q r3 μ4) X) X
def d_Lw_stepOutermost (v1 : Int) (μ : Mem) (Q : Int → Mem → Prop) : Prop := d_OB_stepOutermost v1 μ (fun r1 μ2 => Q 0 (mup μ2 795 0 ((Int32.ofInt r1).toInt64).toInt)) (fun k μx => if k = 0 then (Q 1 μx) else (if k = 1 then (Q 2 μx) else (if k = 2 then (Q 3 μx) else False)))
def d_OB_normalize (v1 : Int) (μ : Mem) (Q : Int → Mem → Prop) (X : Nat → Mem → Prop) : Prop := d_OB_requireTerm v1 μ (fun r1 μ2 => d_Rewriter_reduce 57 5 r1 1 200 μ2 (fun r3 μ4 => if r3 = (-1) then (X 2 (thr μ4)) else (d_OB_remember μ4 (fun μ6 => d_Term_copyFrom r1 60 μ6 (fun μ8 => Q r3 μ8))))) X
def d_Lw_normalize (v1 : Int) (μ : Mem) (Q : Int → Mem → Prop) : Prop := d_OB_normalize v1 μ (fun r1 μ2 => Q 0 (mup μ2 795 0 ((Int32.ofInt r1).toInt64).toInt)) (fun k μx => if k = 0 then (Q 1 μx) else (if k = 1 then (Q 2 μx) else (if k = 2 then (Q 3 μx) else False)))
def d_OB_copySubterm (v1 : Int) (v2 : Int) (μ : Mem) (Q : Int → Mem → Prop) (X : Nat → Mem → Prop) : Prop := d_OB_requireNode v1 v2 μ (fun r1 μ2 => if μ2 5 1 < 6 then (d_OB_remember μ2 (fun μ4 => d_Term_end r1 v2 μ4 (fun r5 => d_State_addTerm 5 r1 v2 r5 μ4 (fun μ8 => Q (wr ((μ8 5 1) - 1)) μ8)))) else (X 2 (thr μ2))) X
def d_Lw_copySubterm (v1 : Int) (v2 : Int) (μ : Mem) (Q : Int → Mem → Prop) : Prop := d_OB_copySubterm v1 v2 μ (fun r1 μ2 => Q 0 (mup μ2 795 0 ((Int32.ofInt r1).toInt64).toInt)) (fun k μx => if k = 0 then (Q 1 μx) else (if k = 1 then (Q 2 μx) else (if k = 2 then (Q 3 μx) else False)))
def d_OB_replaceSubterm_j82 (v4 : Nat) (t0 : Int) (μ : Mem) (Q : Int → Mem → Prop) (X : Nat → Mem → Prop) : Prop := if t0 = 0 then (X 2 (thr μ)) else (d_OB_remember μ (fun μ16 => d_Term_copyFrom v4 769 μ16 (fun μ18 => Q (μ18 v4 1) μ18)))
def d_OB_replaceSubterm_j81 (v4 : Nat) (μ : Mem) (Q : Int → Mem → Prop) (X : Nat → Mem → Prop) : Prop := d_OB_replaceSubterm_j82 v4 0 μ Q X
def d_OB_replaceSubterm (v1 : Int) (v2 : Int) (v3 : Int) (μ : Mem) (Q : Int → Mem → Prop) (X : Nat → Mem → Prop) : Prop := d_OB_requireNode v1 v2 μ (fun r1 μ2 => d_OB_requireTerm v3 μ2 (fun r3 μ4 => d_Term_clear 769 μ4 (fun μ6 => d_Term_addPart 769 r1 0 v2 μ6 (fun r7 μ8 => if r7 = true then (d_Term_addPart 769 r3 0 (μ8 r3 1) μ8 (fun r9 μ10 => if r9 = true then (d_Term_end r1 v2 μ10 (fun r11 => d_Term_addPart 769 r1 r11 (μ10 r1 1) μ10 (fun r13 μ14 => if r13 = true then (d_OB_replaceSubterm_j82 r1 1 μ14 Q X) else (d_OB_replaceSubterm_j81 r1 μ14 Q X)))) else (d_OB_replaceSubterm_j81 r1 μ10 Q X))) else (d_OB_replaceSubterm_j81 r1 μ8 Q X)))) X) X
def d_Lw_replaceSubterm (v1 : Int) (v2 : Int) (v3 : Int) (μ : Mem) (Q : Int → Mem → Prop) : Prop := d_OB_replaceSubterm v1 v2 v3 μ (fun r1 μ2 => Q 0 (mup μ2 795 0 ((Int32.ofInt r1).toInt64).toInt)) (fun k μx => if k = 0 then (Q 1 μx) else (if k = 1 then (Q 2 μx) else (if k = 2 then (Q 3 μx) else False)))
def d_Rule_exchange (v0 : Nat) (v1 : Nat) (μ : Mem) (Q : Mem → Prop) : Prop := Q (mup (mup (mup (mup μ v0 0 ((dp (μ v1 0)) : Int)) v0 1 ((dp ((mup μ v0 0 ((dp (μ v1 0)) : Int)) v1 1)) : Int)) v1 0 ((dp (μ v0 0)) : Int)) v1 1 ((dp (μ v0 1)) : Int))
def d_OB_swapRules_b29 (v5 : Int) (v6 : Int) (μ : Mem) (W29 : Int → Int → Mem → Prop) (Q : Int → Mem → Prop) (X : Nat → Mem → Prop) : Prop := if v6 < μ 5 1 then (d_State_term 5 v6 μ (fun r9 => d_Rewriter_countRedexes 57 5 r9 μ (fun r11 μ12 => W29 (wr (v5 + r11)) (wr (v6 + 1)) μ12))) else (Q v5 μ)
def d_OB_swapRules_l29 (v5 : Int) (v6 : Int) (μ : Mem) (Q : Int → Mem → Prop) (X : Nat → Mem → Prop) : Prop := ∀ W : Int → Int → Mem → Prop, (∀ (v5 : Int) (v6 : Int) (μ : Mem), d_OB_swapRules_b29 v5 v6 μ W Q X → W v5 v6 μ) → W v5 v6 μ
def d_OB_swapRules (v1 : Int) (v2 : Int) (μ : Mem) (Q : Int → Mem → Prop) (X : Nat → Mem → Prop) : Prop := d_OB_requireRule v1 μ (fun r1 μ2 => d_OB_requireRule v2 μ2 (fun r3 μ4 => d_OB_remember μ4 (fun μ6 => d_Rule_exchange r1 r3 μ6 (fun μ8 => d_OB_swapRules_l29 0 0 μ8 Q X))) X) X
theorem i_OB_swapRules_l29 {Q : Int → Mem → Prop} {X : Nat → Mem → Prop} {Inv : Int → Int → Mem → Prop} (f : Int → Int → Mem → Nat) (hi : ∀ (v5 : Int) (v6 : Int) (μ : Mem), Inv v5 v6 μ → ∀ W : Int → Int → Mem → Prop, (∀ (v5' : Int) (v6' : Int) (μ' : Mem), Inv v5' v6' μ' → f v5' v6' μ' < f v5 v6 μ → W v5' v6' μ') → d_OB_swapRules_b29 v5 v6 μ W Q X) : ∀ (v5 : Int) (v6 : Int) (μ : Mem), Inv v5 v6 μ → d_OB_swapRules_l29 v5 v6 μ Q X := by
  intro v5 v6 μ hI W hW
  have key : ∀ (n : Nat) (v5 : Int) (v6 : Int) (μ : Mem), f v5 v6 μ = n → Inv v5 v6 μ → W v5 v6 μ := by
    intro n
    induction n using Nat.strongRecOn with
    | _ n ih =>
      intro v5 v6 μ hf hI
      exact hW _ _ _ (hi v5 v6 μ hI W fun v5' v6' μ' hI' hl => ih _ (by omega) v5' v6' μ' rfl hI')
  exact key _ v5 v6 μ rfl hI
def d_Lw_swapRules (v1 : Int) (v2 : Int) (μ : Mem) (Q : Int → Mem → Prop) : Prop := d_OB_swapRules v1 v2 μ (fun r1 μ2 => Q 0 (mup μ2 795 0 ((Int32.ofInt r1).toInt64).toInt)) (fun k μx => if k = 0 then (Q 1 μx) else (if k = 1 then (Q 2 μx) else False))
def d_State_dropRule_b2 (v0 : Nat) (v2 : Int) (μ : Mem) (W2 : Int → Mem → Prop) (Q : Mem → Prop) : Prop := if wr (v2 + 1) < μ v0 0 then (d_State_rule v0 v2 μ (fun r1 => d_State_rule v0 (wr (v2 + 1)) μ (fun r3 => d_Rule_exchange r1 r3 μ (fun μ6 => W2 (wr (v2 + 1)) μ6)))) else (Q (mup μ v0 0 (wr ((μ v0 0) - 1))))
def d_State_dropRule_l2 (v0 : Nat) (v2 : Int) (μ : Mem) (Q : Mem → Prop) : Prop := ∀ W : Int → Mem → Prop, (∀ (v2 : Int) (μ : Mem), d_State_dropRule_b2 v0 v2 μ W Q → W v2 μ) → W v2 μ
def d_State_dropRule (v0 : Nat) (v1 : Int) (μ : Mem) (Q : Mem → Prop) : Prop := d_State_dropRule_l2 v0 v1 μ Q
theorem i_State_dropRule_l2 {v0 : Nat} {Q : Mem → Prop} {Inv : Int → Mem → Prop} (f : Int → Mem → Nat) (hi : ∀ (v2 : Int) (μ : Mem), Inv v2 μ → ∀ W : Int → Mem → Prop, (∀ (v2' : Int) (μ' : Mem), Inv v2' μ' → f v2' μ' < f v2 μ → W v2' μ') → d_State_dropRule_b2 v0 v2 μ W Q) : ∀ (v2 : Int) (μ : Mem), Inv v2 μ → d_State_dropRule_l2 v0 v2 μ Q := by
  intro v2 μ hI W hW
  have key : ∀ (n : Nat) (v2 : Int) (μ : Mem), f v2 μ = n → Inv v2 μ → W v2 μ := by
    intro n
    induction n using Nat.strongRecOn with
    | _ n ih =>
      intro v2 μ hf hI
      exact hW _ _ (hi v2 μ hI W fun v2' μ' hI' hl => ih _ (by omega) v2' μ' rfl hI')
  exact key _ v2 μ rfl hI
def d_OB_removeRule (v1 : Int) (μ : Mem) (Q : Int → Mem → Prop) (X : Nat → Mem → Prop) : Prop := d_OB_requireRule v1 μ (fun r1 μ2 => d_OB_remember μ2 (fun μ4 => d_State_dropRule 5 v1 μ4 (fun μ6 => Q (μ6 5 0) μ6))) X
def d_Lw_removeRule (v1 : Int) (μ : Mem) (Q : Int → Mem → Prop) : Prop := d_OB_removeRule v1 μ (fun r1 μ2 => Q 0 (mup μ2 795 0 ((Int32.ofInt r1).toInt64).toInt)) (fun k μx => if k = 0 then (Q 1 μx) else (if k = 1 then (Q 2 μx) else False))
def d_OB_reverseRule (v1 : Int) (μ : Mem) (Q : Int → Mem → Prop) (X : Nat → Mem → Prop) : Prop := d_OB_requireRule v1 μ (fun r1 μ2 => d_Rule_canTurn r1 μ2 (fun r3 => if r3 = true then (d_OB_remember μ2 (fun μ6 => d_Rule_turn r1 μ6 (fun μ8 => Q (μ8 (dp (μ8 r1 0)) 1) μ8))) else (X 2 (thr μ2)))) X
def d_Lw_reverseRule (v1 : Int) (μ : Mem) (Q : Int → Mem → Prop) : Prop := d_OB_reverseRule v1 μ (fun r1 μ2 => Q 0 (mup μ2 795 0 ((Int32.ofInt r1).toInt64).toInt)) (fun k μx => if k = 0 then (Q 1 μx) else (if k = 1 then (Q 2 μx) else (if k = 2 then (Q 3 μx) else False)))
def d_State_dropTerm_b2 (v0 : Nat) (v2 : Int) (μ : Mem) (W2 : Int → Mem → Prop) (Q : Mem → Prop) : Prop := if wr (v2 + 1) < μ v0 1 then (d_State_term v0 v2 μ (fun r1 => d_State_term v0 (wr (v2 + 1)) μ (fun r3 => d_Term_copyFrom r1 r3 μ (fun μ6 => W2 (wr (v2 + 1)) μ6)))) else (Q (mup μ v0 1 (wr ((μ v0 1) - 1))))
def d_State_dropTerm_l2 (v0 : Nat) (v2 : Int) (μ : Mem) (Q : Mem → Prop) : Prop := ∀ W : Int → Mem → Prop, (∀ (v2 : Int) (μ : Mem), d_State_dropTerm_b2 v0 v2 μ W Q → W v2 μ) → W v2 μ
def d_State_dropTerm (v0 : Nat) (v1 : Int) (μ : Mem) (Q : Mem → Prop) : Prop := d_State_dropTerm_l2 v0 v1 μ Q
theorem i_State_dropTerm_l2 {v0 : Nat} {Q : Mem → Prop} {Inv : Int → Mem → Prop} (f : Int → Mem → Nat) (hi : ∀ (v2 : Int) (μ : Mem), Inv v2 μ → ∀ W : Int → Mem → Prop, (∀ (v2' : Int) (μ' : Mem), Inv v2' μ' → f v2' μ' < f v2 μ → W v2' μ') → d_State_dropTerm_b2 v0 v2 μ W Q) : ∀ (v2 : Int) (μ : Mem), Inv v2 μ → d_State_dropTerm_l2 v0 v2 μ Q := by
  intro v2 μ hI W hW
  have key : ∀ (n : Nat) (v2 : Int) (μ : Mem), f v2 μ = n → Inv v2 μ → W v2 μ := by
    intro n
    induction n using Nat.strongRecOn with
    | _ n ih =>
      intro v2 μ hf hI
      exact hW _ _ (hi v2 μ hI W fun v2' μ' hI' hl => ih _ (by omega) v2' μ' rfl hI')
  exact key _ v2 μ rfl hI
def d_OB_removeTerm (v1 : Int) (μ : Mem) (Q : Int → Mem → Prop) (X : Nat → Mem → Prop) : Prop := d_OB_requireTerm v1 μ (fun r1 μ2 => d_OB_remember μ2 (fun μ4 => d_State_dropTerm 5 v1 μ4 (fun μ6 => Q (μ6 5 1) μ6))) X
def d_Lw_removeTerm (v1 : Int) (μ : Mem) (Q : Int → Mem → Prop) : Prop := d_OB_removeTerm v1 μ (fun r1 μ2 => Q 0 (mup μ2 795 0 ((Int32.ofInt r1).toInt64).toInt)) (fun k μx => if k = 0 then (Q 1 μx) else (if k = 1 then (Q 2 μx) else False))
def d_History_takeBack_j54 (t1 : Int) (μ : Mem) (Q : Mem → Prop) : Prop := Q (mup μ 247 1 t1)
def d_History_takeBack (v1 : Nat) (μ : Mem) (Q : Mem → Prop) : Prop := d_History_at (μ 247 1) μ (fun r1 => if 0 < μ 247 0 then (d_State_copyFrom v1 r1 μ (fun μ4 => if 0 < (mup μ4 247 0 (wr ((μ4 247 0) - 1))) 247 1 then (d_History_takeBack_j54 (wr (((mup μ4 247 0 (wr ((μ4 247 0) - 1))) 247 1) - 1)) (mup μ4 247 0 (wr ((μ4 247 0) - 1))) Q) else (d_History_takeBack_j54 7 (mup μ4 247 0 (wr ((μ4 247 0) - 1))) Q))) else (Q μ))
def d_OB_undo (μ : Mem) (Q : Int → Mem → Prop) (X : Nat → Mem → Prop) : Prop := if 0 < μ 247 0 then (d_History_takeBack 5 μ (fun μ2 => Q ((mup μ2 139 0 1) 247 0) (mup μ2 139 0 1))) else (X 0 (thr μ))
def d_Lw_undo (μ : Mem) (Q : Int → Mem → Prop) : Prop := d_OB_undo μ (fun r1 μ2 => Q 0 (mup μ2 795 0 ((Int32.ofInt r1).toInt64).toInt)) (fun k μx => if k = 0 then (Q 1 μx) else False)
def d_OB_saveState (v1 : Int) (μ : Mem) (Q : Int → Mem → Prop) (X : Nat → Mem → Prop) : Prop := d_OB_requireSystem μ (fun μ2 => d_OB_requireIndex v1 2 μ2 (fun μ4 => if v1 = 0 then (d_State_copyFrom 665 5 μ4 (fun μ6 => Q ((mup μ6 0 11 1) 5 1) (mup μ6 0 11 1))) else (d_State_copyFrom 717 5 μ4 (fun μ8 => Q ((mup μ8 0 12 1) 5 1) (mup μ8 0 12 1)))) X) X
def d_Lw_saveState (v1 : Int) (μ : Mem) (Q : Int → Mem → Prop) : Prop := d_OB_saveState v1 μ (fun r1 μ2 => Q 0 (mup μ2 795 0 ((Int32.ofInt r1).toInt64).toInt)) (fun k μx => if k = 0 then (Q 1 μx) else (if k = 1 then (Q 2 μx) else False))
def d_OB_restoreState_j50 (t1 : Nat) (μ : Mem) (Q : Int → Mem → Prop) (X : Nat → Mem → Prop) : Prop := d_OB_adopt t1 μ (fun μ4 => Q (μ4 5 1) μ4)
def d_OB_restoreState_j21 (v1 : Int) (t0 : Int) (μ : Mem) (Q : Int → Mem → Prop) (X : Nat → Mem → Prop) : Prop := if t0 = 0 then (X 0 (thr μ)) else (if v1 = 0 then (d_OB_restoreState_j50 665 μ Q X) else (d_OB_restoreState_j50 717 μ Q X))
def d_OB_restoreState (v1 : Int) (μ : Mem) (Q : Int → Mem → Prop) (X : Nat → Mem → Prop) : Prop := d_OB_requireIndex v1 2 μ (fun μ2 => if v1 = 0 then (d_OB_restoreState_j21 v1 (μ2 0 11) μ2 Q X) else (d_OB_restoreState_j21 v1 (μ2 0 12) μ2 Q X)) X
def d_Lw_restoreState (v1 : Int) (μ : Mem) (Q : Int → Mem → Prop) : Prop := d_OB_restoreState v1 μ (fun r1 μ2 => Q 0 (mup μ2 795 0 ((Int32.ofInt r1).toInt64).toInt)) (fun k μx => if k = 1 then (Q 1 μx) else (if k = 0 then (Q 2 μx) else False))
def d_Md_thrown (μ : Mem) (Q : Int → Prop) : Prop := Q (μ 772 0)
def d_Md_four_b2 (v1 : Int) (v2 : Int) (μ : Mem) (W2 : Int → Mem → Prop) (Q : Mem → Prop) : Prop := if v2 < 0 then (Q μ) else ((0 ≤ μ 772 9 ∧ μ 772 9 < 500) ∧ W2 (wr (v2 + (-1))) (mup (mup μ 778 (μ 772 9).toNat (jb8 (jb8 (jshr v1 (wr (8 * v2)))))) 772 9 (wr (((mup μ 778 (μ 772 9).toNat (jb8 (jb8 (jshr v1 (wr (8 * v2)))))) 772 9) + 1))))
def d_Md_four_l2 (v1 : Int) (v2 : Int) (μ : Mem) (Q : Mem → Prop) : Prop := ∀ W : Int → Mem → Prop, (∀ (v2 : Int) (μ : Mem), d_Md_four_b2 v1 v2 μ W Q → W v2 μ) → W v2 μ
def d_Md_four (v1 : Int) (μ : Mem) (Q : Mem → Prop) : Prop := d_Md_four_l2 v1 3 μ Q
theorem i_Md_four_l2 {v1 : Int} {Q : Mem → Prop} {Inv : Int → Mem → Prop} (f : Int → Mem → Nat) (hi : ∀ (v2 : Int) (μ : Mem), Inv v2 μ → ∀ W : Int → Mem → Prop, (∀ (v2' : Int) (μ' : Mem), Inv v2' μ' → f v2' μ' < f v2 μ → W v2' μ') → d_Md_four_b2 v1 v2 μ W Q) : ∀ (v2 : Int) (μ : Mem), Inv v2 μ → d_Md_four_l2 v1 v2 μ Q := by
  intro v2 μ hI W hW
  have key : ∀ (n : Nat) (v2 : Int) (μ : Mem), f v2 μ = n → Inv v2 μ → W v2 μ := by
    intro n
    induction n using Nat.strongRecOn with
    | _ n ih =>
      intro v2 μ hf hI
      exact hW _ _ (hi v2 μ hI W fun v2' μ' hI' hl => ih _ (by omega) v2' μ' rfl hI')
  exact key _ v2 μ rfl hI
def d_Md_append (v1 : Int) (v2 : Int) (v3 : Int) (v4 : Int) (v5 : Int) (μ : Mem) (Q : Int → Mem → Prop) : Prop := if 480 < (mup μ 772 0 0) 772 9 then (Q (-1) (mup μ 772 0 0)) else (d_Md_four v1 (mup μ 772 0 0) (fun μ2 => d_Md_four v2 μ2 (fun μ4 => d_Md_four v3 μ4 (fun μ6 => d_Md_four v4 μ6 (fun μ8 => d_Md_four v5 μ8 (fun μ10 => Q (μ10 772 9) μ10))))))
def d_Md_told (v1 : Int) (μ : Mem) (Q : Int → Mem → Prop) : Prop := Q v1 (mup μ 772 0 0)
def d_Md_parseErrorCode (μ : Mem) (Q : Int → Mem → Prop) : Prop := d_Md_told (μ 772 10) μ (fun r1 μ2 => Q r1 μ2)
def d_Md_parseErrorPosition (μ : Mem) (Q : Int → Mem → Prop) : Prop := d_Md_told (μ 772 11) μ (fun r1 μ2 => Q r1 μ2)
def d_Md_bufferLength (μ : Mem) (Q : Int → Mem → Prop) : Prop := d_Md_told (μ 772 9) μ (fun r1 μ2 => Q r1 μ2)
def d_Md_in (v0 : Int) (v1 : Int) (v2 : Int) (μ : Mem) (Q : Bool → Prop) : Prop := if v0 < v1 then (Q false) else (if v2 < v0 then (Q false) else (Q true))
def d_Md_may_j26 (t1 : Int) (μ : Mem) (Q : Bool → Mem → Prop) : Prop := if (mup μ 772 0 t1) 772 0 = 0 then (Q true (mup μ 772 0 t1)) else (Q false (mup μ 772 0 t1))
def d_Md_may (v1 : Int) (v2 : Int) (v3 : Int) (μ : Mem) (Q : Bool → Mem → Prop) : Prop := if v1 = 0 then (d_Md_may_j26 1 μ Q) else (if v2 = 0 then (d_Md_may_j26 2 μ Q) else (if v3 = 0 then (d_Md_may_j26 3 μ Q) else (d_Md_may_j26 0 μ Q)))
def d_Md_lays_b3 (v0 : Nat) (v1 : Int) (v2 : Nat) (v3 : Int) (v4 : Int) (v5 : Int) (μ : Mem) (W3 : Int → Mem → Prop) (Q : Mem → Prop) : Prop := if v5 < v4 then ((0 ≤ wr (v1 + v5) ∧ wr (v1 + v5) < (ln v0 : Int)) ∧ (0 ≤ wr (v3 + v5) ∧ wr (v3 + v5) < (ln v2 : Int)) ∧ W3 (wr (v5 + 1)) (mup μ v2 (wr (v3 + v5)).toNat (μ v0 (wr (v1 + v5)).toNat))) else (Q μ)
def d_Md_lays_l3 (v0 : Nat) (v1 : Int) (v2 : Nat) (v3 : Int) (v4 : Int) (v5 : Int) (μ : Mem) (Q : Mem → Prop) : Prop := ∀ W : Int → Mem → Prop, (∀ (v5 : Int) (μ : Mem), d_Md_lays_b3 v0 v1 v2 v3 v4 v5 μ W Q → W v5 μ) → W v5 μ
def d_Md_lays (v0 : Nat) (v1 : Int) (v2 : Nat) (v3 : Int) (v4 : Int) (μ : Mem) (Q : Mem → Prop) : Prop := d_Md_lays_l3 v0 v1 v2 v3 v4 0 μ Q
theorem i_Md_lays_l3 {v0 : Nat} {v1 : Int} {v2 : Nat} {v3 : Int} {v4 : Int} {Q : Mem → Prop} {Inv : Int → Mem → Prop} (f : Int → Mem → Nat) (hi : ∀ (v5 : Int) (μ : Mem), Inv v5 μ → ∀ W : Int → Mem → Prop, (∀ (v5' : Int) (μ' : Mem), Inv v5' μ' → f v5' μ' < f v5 μ → W v5' μ') → d_Md_lays_b3 v0 v1 v2 v3 v4 v5 μ W Q) : ∀ (v5 : Int) (μ : Mem), Inv v5 μ → d_Md_lays_l3 v0 v1 v2 v3 v4 v5 μ Q := by
  intro v5 μ hI W hW
  have key : ∀ (n : Nat) (v5 : Int) (μ : Mem), f v5 μ = n → Inv v5 μ → W v5 μ := by
    intro n
    induction n using Nat.strongRecOn with
    | _ n ih =>
      intro v5 μ hf hI
      exact hW _ _ (hi v5 μ hI W fun v5' μ' hI' hl => ih _ (by omega) v5' μ' rfl hI')
  exact key _ v5 μ rfl hI
def d_Md_isSmall (v1 : Int) (μ : Mem) (Q : Bool → Prop) : Prop := if v1 < μ 772 12 then ((0 ≤ v1 ∧ v1 < 500) ∧ d_Md_in (μ 778 v1.toNat) 97 122 μ (fun r1 => if r1 = true then (Q true) else (Q false))) else (Q false)
def d_Md_signOf (v0 : Int) (μ : Mem) (Q : Int → Prop) : Prop := d_Md_in v0 65 72 μ (fun r1 => if r1 = true then (Q 3) else (d_Md_in v0 48 57 μ (fun r3 => if r3 = true then (Q 4) else (if v0 = 40 then (Q 8) else (if v0 = 41 then (Q 9) else (if v0 = 44 then (Q 7) else (if v0 = 59 then (Q 5) else (if v0 = 61 then (Q 6) else (Q 0)))))))))
def d_Md_goes_j128 (t1 : Int) (μ : Mem) (Q : Mem → Prop) : Prop := Q (mup μ 772 15 t1)
def d_Md_goes_b84 (μ : Mem) (W84 : Mem → Prop) (Q : Mem → Prop) : Prop := d_Md_isSmall (μ 772 13) μ (fun r3 => if r3 = true then (W84 (mup μ 772 13 (wr ((μ 772 13) + 1)))) else (if 6 < wr ((μ 772 13) - (μ 772 14)) then (d_Md_goes_j128 0 μ Q) else (d_Md_goes_j128 2 μ Q)))
def d_Md_goes_l84 (μ : Mem) (Q : Mem → Prop) : Prop := ∀ W : Mem → Prop, (∀ (μ : Mem), d_Md_goes_b84 μ W Q → W μ) → W μ
def d_Md_goes_j46 (μ : Mem) (Q : Mem → Prop) : Prop := if (mup μ 772 14 (μ 772 13)) 772 13 = (mup μ 772 14 (μ 772 13)) 772 12 then (Q (mup (mup μ 772 14 (μ 772 13)) 772 15 1)) else (d_Md_isSmall ((mup μ 772 14 (μ 772 13)) 772 13) (mup μ 772 14 (μ 772 13)) (fun r1 => if r1 = true then (d_Md_goes_l84 (mup μ 772 14 (μ 772 13)) Q) else ((0 ≤ (mup μ 772 14 (μ 772 13)) 772 13 ∧ (mup μ 772 14 (μ 772 13)) 772 13 < 500) ∧ d_Md_signOf ((mup μ 772 14 (μ 772 13)) 778 ((mup μ 772 14 (μ 772 13)) 772 13).toNat) (mup μ 772 14 (μ 772 13)) (fun r5 => Q (mup (mup (mup μ 772 14 (μ 772 13)) 772 15 r5) 772 13 (wr (((mup (mup μ 772 14 (μ 772 13)) 772 15 r5) 772 13) + 1)))))))
def d_Md_goes_b8 (μ : Mem) (W8 : Mem → Prop) (Q : Mem → Prop) : Prop := if μ 772 13 < μ 772 12 then ((0 ≤ μ 772 13 ∧ μ 772 13 < 500) ∧ if μ 778 (μ 772 13).toNat = 32 then (W8 (mup μ 772 13 (wr ((μ 772 13) + 1)))) else (d_Md_goes_j46 μ Q)) else (d_Md_goes_j46 μ Q)
def d_Md_goes_l8 (μ : Mem) (Q : Mem → Prop) : Prop := ∀ W : Mem → Prop, (∀ (μ : Mem), d_Md_goes_b8 μ W Q → W μ) → W μ
def d_Md_goes (μ : Mem) (Q : Mem → Prop) : Prop := if 0 < μ 772 10 then (Q μ) else (d_Md_goes_l8 μ Q)
theorem i_Md_goes_l84 {Q : Mem → Prop} {Inv : Mem → Prop} (f : Mem → Nat) (hi : ∀ (μ : Mem), Inv μ → ∀ W : Mem → Prop, (∀ (μ' : Mem), Inv μ' → f μ' < f μ → W μ') → d_Md_goes_b84 μ W Q) : ∀ (μ : Mem), Inv μ → d_Md_goes_l84 μ Q := by
  intro μ hI W hW
  have key : ∀ (n : Nat) (μ : Mem), f μ = n → Inv μ → W μ := by
    intro n
    induction n using Nat.strongRecOn with
    | _ n ih =>
      intro μ hf hI
      exact hW _ (hi μ hI W fun μ' hI' hl => ih _ (by omega) μ' rfl hI')
  exact key _ μ rfl hI
theorem i_Md_goes_l8 {Q : Mem → Prop} {Inv : Mem → Prop} (f : Mem → Nat) (hi : ∀ (μ : Mem), Inv μ → ∀ W : Mem → Prop, (∀ (μ' : Mem), Inv μ' → f μ' < f μ → W μ') → d_Md_goes_b8 μ W Q) : ∀ (μ : Mem), Inv μ → d_Md_goes_l8 μ Q := by
  intro μ hI W hW
  have key : ∀ (n : Nat) (μ : Mem), f μ = n → Inv μ → W μ := by
    intro n
    induction n using Nat.strongRecOn with
    | _ n ih =>
      intro μ hf hI
      exact hW _ (hi μ hI W fun μ' hI' hl => ih _ (by omega) μ' rfl hI')
  exact key _ μ rfl hI
def d_Md_is (v1 : Int) (μ : Mem) (Q : Bool → Prop) : Prop := if μ 772 10 = 0 then (if μ 772 15 = v1 then (Q true) else (Q false)) else (Q false)
def d_Md_isWord_b28 (v1 : Nat) (v2 : Int) (μ : Mem) (W28 : Int → Prop) (Q : Bool → Prop) : Prop := d_String_length v1 μ (fun r5 => if v2 < r5 then ((0 ≤ wr ((μ 772 14) + v2) ∧ wr ((μ 772 14) + v2) < 500) ∧ d_String_charAt v1 v2 μ (fun r7 => if μ 778 (wr ((μ 772 14) + v2)).toNat = r7 then (W28 (wr (v2 + 1))) else (Q false))) else (Q true))
def d_Md_isWord_l28 (v1 : Nat) (v2 : Int) (μ : Mem) (Q : Bool → Prop) : Prop := ∀ W : Int → Prop, (∀ (v2 : Int), d_Md_isWord_b28 v1 v2 μ W Q → W v2) → W v2
def d_Md_isWord (v1 : Nat) (μ : Mem) (Q : Bool → Prop) : Prop := d_Md_is 2 μ (fun r1 => if r1 = true then (d_String_length v1 μ (fun r3 => if wr ((μ 772 13) - (μ 772 14)) = r3 then (d_Md_isWord_l28 v1 0 μ Q) else (Q false))) else (Q false))
theorem i_Md_isWord_l28 {v1 : Nat} {μ : Mem} {Q : Bool → Prop} {Inv : Int → Prop} (f : Int → Nat) (hi : ∀ (v2 : Int), Inv v2 → ∀ W : Int → Prop, (∀ (v2' : Int), Inv v2' → f v2' < f v2 → W v2') → d_Md_isWord_b28 v1 v2 μ W Q) : ∀ (v2 : Int), Inv v2 → d_Md_isWord_l28 v1 v2 μ Q := by
  intro v2 hI W hW
  have key : ∀ (n : Nat) (v2 : Int), f v2 = n → Inv v2 → W v2 := by
    intro n
    induction n using Nat.strongRecOn with
    | _ n ih =>
      intro v2 hf hI
      exact hW _ (hi v2 hI W fun v2' hI' hl => ih _ (by omega) v2' rfl hI')
  exact key _ v2 rfl hI
def d_Md_faults (v1 : Int) (μ : Mem) (Q : Mem → Prop) : Prop := if 0 < μ 772 10 then (Q μ) else (Q (mup (mup μ 772 10 v1) 772 11 ((mup μ 772 10 v1) 772 14)))
def d_Md_ofSymbol (v1 : Int) (v2 : Int) (μ : Mem) (Q : Int → Prop) : Prop := (0 ≤ wr ((wr (3 + (wr (8 * v1)))) + v2) ∧ wr ((wr (3 + (wr (8 * v1)))) + v2) < 709) ∧ Q (μ 773 (wr ((wr (3 + (wr (8 * v1)))) + v2)).toNat)
def d_Md_isNamedHere_b22 (v1 : Int) (v2 : Int) (μ : Mem) (W22 : Int → Prop) (Q : Bool → Prop) : Prop := if v2 < wr ((μ 772 13) - (μ 772 14)) then (d_Md_ofSymbol v1 (wr (2 + v2)) μ (fun r3 => (0 ≤ wr ((μ 772 14) + v2) ∧ wr ((μ 772 14) + v2) < 500) ∧ if r3 = μ 778 (wr ((μ 772 14) + v2)).toNat then (W22 (wr (v2 + 1))) else (Q false))) else (Q true)
def d_Md_isNamedHere_l22 (v1 : Int) (v2 : Int) (μ : Mem) (Q : Bool → Prop) : Prop := ∀ W : Int → Prop, (∀ (v2 : Int), d_Md_isNamedHere_b22 v1 v2 μ W Q → W v2) → W v2
def d_Md_isNamedHere (v1 : Int) (μ : Mem) (Q : Bool → Prop) : Prop := d_Md_ofSymbol v1 1 μ (fun r1 => if r1 = wr ((μ 772 13) - (μ 772 14)) then (d_Md_isNamedHere_l22 v1 0 μ Q) else (Q false))
theorem i_Md_isNamedHere_l22 {v1 : Int} {μ : Mem} {Q : Bool → Prop} {Inv : Int → Prop} (f : Int → Nat) (hi : ∀ (v2 : Int), Inv v2 → ∀ W : Int → Prop, (∀ (v2' : Int), Inv v2' → f v2' < f v2 → W v2') → d_Md_isNamedHere_b22 v1 v2 μ W Q) : ∀ (v2 : Int), Inv v2 → d_Md_isNamedHere_l22 v1 v2 μ Q := by
  intro v2 hI W hW
  have key : ∀ (n : Nat) (v2 : Int), f v2 = n → Inv v2 → W v2 := by
    intro n
    induction n using Nat.strongRecOn with
    | _ n ih =>
      intro v2 hf hI
      exact hW _ (hi v2 hI W fun v2' hI' hl => ih _ (by omega) v2' rfl hI')
  exact key _ v2 rfl hI
def d_Md_symbolHere_b2 (v1 : Int) (μ : Mem) (W2 : Int → Prop) (Q : Int → Prop) : Prop := if v1 < μ 773 0 then (d_Md_isNamedHere v1 μ (fun r1 => if r1 = true then (Q v1) else (W2 (wr (v1 + 1))))) else (Q (-1))
def d_Md_symbolHere_l2 (v1 : Int) (μ : Mem) (Q : Int → Prop) : Prop := ∀ W : Int → Prop, (∀ (v1 : Int), d_Md_symbolHere_b2 v1 μ W Q → W v1) → W v1
def d_Md_symbolHere (μ : Mem) (Q : Int → Prop) : Prop := d_Md_symbolHere_l2 0 μ Q
theorem i_Md_symbolHere_l2 {μ : Mem} {Q : Int → Prop} {Inv : Int → Prop} (f : Int → Nat) (hi : ∀ (v1 : Int), Inv v1 → ∀ W : Int → Prop, (∀ (v1' : Int), Inv v1' → f v1' < f v1 → W v1') → d_Md_symbolHere_b2 v1 μ W Q) : ∀ (v1 : Int), Inv v1 → d_Md_symbolHere_l2 v1 μ Q := by
  intro v1 hI W hW
  have key : ∀ (n : Nat) (v1 : Int), f v1 = n → Inv v1 → W v1 := by
    intro n
    induction n using Nat.strongRecOn with
    | _ n ih =>
      intro v1 hf hI
      exact hW _ (hi v1 hI W fun v1' hI' hl => ih _ (by omega) v1' rfl hI')
  exact key _ v1 rfl hI
def d_Md_digitHere_j37 (μ : Mem) (Q : Int → Mem → Prop) : Prop := if 0 < μ 772 10 then (Q 0 μ) else ((0 ≤ μ 772 14 ∧ μ 772 14 < 500) ∧ Q (wr ((μ 778 (μ 772 14).toNat) - 48)) μ)
def d_Md_digitHere (v1 : Int) (μ : Mem) (Q : Int → Mem → Prop) : Prop := d_Md_is 4 μ (fun r1 => if r1 = true then ((0 ≤ μ 772 14 ∧ μ 772 14 < 500) ∧ if v1 < wr ((μ 778 (μ 772 14).toNat) - 48) then (d_Md_faults 2 μ (fun μ4 => d_Md_digitHere_j37 μ4 Q)) else (d_Md_digitHere_j37 μ Q)) else (d_Md_faults 1 μ (fun μ6 => d_Md_digitHere_j37 μ6 Q)))
def d_Md_readsSymbol_b88 (v1 : Int) (v2 : Int) (μ : Mem) (W88 : Int → Mem → Prop) (Q : Mem → Prop) : Prop := if v2 < wr ((μ 772 13) - (μ 772 14)) then ((0 ≤ wr ((μ 772 14) + v2) ∧ wr ((μ 772 14) + v2) < 500) ∧ (0 ≤ wr ((wr (v1 + 2)) + v2) ∧ wr ((wr (v1 + 2)) + v2) < 709) ∧ W88 (wr (v2 + 1)) (mup μ 773 (wr ((wr (v1 + 2)) + v2)).toNat (μ 778 (wr ((μ 772 14) + v2)).toNat))) else (d_Md_goes μ (fun μ10 => d_Md_digitHere 3 μ10 (fun r11 μ12 => (0 ≤ wr (v1 + 0) ∧ wr (v1 + 0) < 709) ∧ d_Md_goes (mup μ12 773 (wr (v1 + 0)).toNat r11) (fun μ14 => Q (mup μ14 773 0 (wr ((μ14 773 0) + 1)))))))
def d_Md_readsSymbol_l88 (v1 : Int) (v2 : Int) (μ : Mem) (Q : Mem → Prop) : Prop := ∀ W : Int → Mem → Prop, (∀ (v2 : Int) (μ : Mem), d_Md_readsSymbol_b88 v1 v2 μ W Q → W v2 μ) → W v2 μ
def d_Md_readsSymbol_j49 (μ : Mem) (Q : Mem → Prop) : Prop := if 0 < μ 772 10 then (Q μ) else ((0 ≤ wr ((wr (3 + (wr (8 * (μ 773 0))))) + 1) ∧ wr ((wr (3 + (wr (8 * (μ 773 0))))) + 1) < 709) ∧ d_Md_readsSymbol_l88 (wr (3 + (wr (8 * (μ 773 0))))) 0 (mup μ 773 (wr ((wr (3 + (wr (8 * (μ 773 0))))) + 1)).toNat (wr ((μ 772 13) - (μ 772 14)))) Q)
def d_Md_readsSymbol_j16 (μ : Mem) (Q : Mem → Prop) : Prop := d_Md_goes μ (fun μ4 => d_Md_is 2 μ4 (fun r5 => if r5 = true then (d_Md_symbolHere μ4 (fun r7 => if r7 = (-1) then (d_Md_readsSymbol_j49 μ4 Q) else (d_Md_faults 3 μ4 (fun μ16 => d_Md_readsSymbol_j49 μ16 Q)))) else (d_Md_faults 1 μ4 (fun μ18 => d_Md_readsSymbol_j49 μ18 Q))))
def d_Md_readsSymbol (μ : Mem) (Q : Mem → Prop) : Prop := if μ 773 0 = 8 then (d_Md_faults 5 μ (fun μ2 => d_Md_readsSymbol_j16 μ2 Q)) else (d_Md_readsSymbol_j16 μ Q)
theorem i_Md_readsSymbol_l88 {v1 : Int} {Q : Mem → Prop} {Inv : Int → Mem → Prop} (f : Int → Mem → Nat) (hi : ∀ (v2 : Int) (μ : Mem), Inv v2 μ → ∀ W : Int → Mem → Prop, (∀ (v2' : Int) (μ' : Mem), Inv v2' μ' → f v2' μ' < f v2 μ → W v2' μ') → d_Md_readsSymbol_b88 v1 v2 μ W Q) : ∀ (v2 : Int) (μ : Mem), Inv v2 μ → d_Md_readsSymbol_l88 v1 v2 μ Q := by
  intro v2 μ hI W hW
  have key : ∀ (n : Nat) (v2 : Int) (μ : Mem), f v2 μ = n → Inv v2 μ → W v2 μ := by
    intro n
    induction n using Nat.strongRecOn with
    | _ n ih =>
      intro v2 μ hf hI
      exact hW _ _ (hi v2 μ hI W fun v2' μ' hI' hl => ih _ (by omega) v2' μ' rfl hI')
  exact key _ v2 μ rfl hI
def d_Md_isInLeft_b2 (v1 : Int) (v2 : Int) (μ : Mem) (W2 : Int → Prop) (Q : Bool → Prop) : Prop := (0 ≤ wr ((wr (67 + (wr (26 * (μ 773 1))))) + 0) ∧ wr ((wr (67 + (wr (26 * (μ 773 1))))) + 0) < 709) ∧ if v2 < μ 773 (wr ((wr (67 + (wr (26 * (μ 773 1))))) + 0)).toNat then ((0 ≤ wr ((wr ((wr (67 + (wr (26 * (μ 773 1))))) + 2)) + v2) ∧ wr ((wr ((wr (67 + (wr (26 * (μ 773 1))))) + 2)) + v2) < 709) ∧ if μ 773 (wr ((wr ((wr (67 + (wr (26 * (μ 773 1))))) + 2)) + v2)).toNat = v1 then (Q true) else (W2 (wr (v2 + 1)))) else (Q false)
def d_Md_isInLeft_l2 (v1 : Int) (v2 : Int) (μ : Mem) (Q : Bool → Prop) : Prop := ∀ W : Int → Prop, (∀ (v2 : Int), d_Md_isInLeft_b2 v1 v2 μ W Q → W v2) → W v2
def d_Md_isInLeft (v1 : Int) (μ : Mem) (Q : Bool → Prop) : Prop := d_Md_isInLeft_l2 v1 0 μ Q
theorem i_Md_isInLeft_l2 {v1 : Int} {μ : Mem} {Q : Bool → Prop} {Inv : Int → Prop} (f : Int → Nat) (hi : ∀ (v2 : Int), Inv v2 → ∀ W : Int → Prop, (∀ (v2' : Int), Inv v2' → f v2' < f v2 → W v2') → d_Md_isInLeft_b2 v1 v2 μ W Q) : ∀ (v2 : Int), Inv v2 → d_Md_isInLeft_l2 v1 v2 μ Q := by
  intro v2 hI W hW
  have key : ∀ (n : Nat) (v2 : Int), f v2 = n → Inv v2 → W v2 := by
    intro n
    induction n using Nat.strongRecOn with
    | _ n ih =>
      intro v2 hf hI
      exact hW _ (hi v2 hI W fun v2' hI' hl => ih _ (by omega) v2' rfl hI')
  exact key _ v2 rfl hI
def d_Md_addsNode_j16 (v1 : Int) (μ : Mem) (Q : Mem → Prop) : Prop := if 0 < μ 772 10 then (Q μ) else ((0 ≤ wr ((μ 772 19) + (μ 772 18)) ∧ wr ((μ 772 19) + (μ 772 18)) < 709) ∧ d_Md_goes (mup (mup μ 773 (wr ((μ 772 19) + (μ 772 18))).toNat v1) 772 18 (wr (((mup μ 773 (wr ((μ 772 19) + (μ 772 18))).toNat v1) 772 18) + 1))) (fun μ4 => Q μ4))
def d_Md_addsNode (v1 : Int) (μ : Mem) (Q : Mem → Prop) : Prop := if μ 772 18 = μ 772 20 then (d_Md_faults 5 μ (fun μ2 => d_Md_addsNode_j16 v1 μ2 Q)) else (d_Md_addsNode_j16 v1 μ Q)
def d_Md_readsVariable_j40 (v2 : Int) (μ : Mem) (Q : Mem → Prop) : Prop := d_Md_addsNode v2 μ (fun μ4 => Q μ4)
def d_Md_readsVariable_j35 (v2 : Int) (μ : Mem) (Q : Mem → Prop) : Prop := d_Md_faults 4 μ (fun μ2 => d_Md_readsVariable_j40 v2 μ2 Q)
def d_Md_readsVariable (v1 : Int) (μ : Mem) (Q : Mem → Prop) : Prop := (0 ≤ μ 772 14 ∧ μ 772 14 < 500) ∧ if v1 = 0 then (d_Md_readsVariable_j35 (wr ((wr (100 + (μ 778 (μ 772 14).toNat))) - 65)) μ Q) else (if μ 772 21 = 0 then (d_Md_readsVariable_j40 (wr ((wr (100 + (μ 778 (μ 772 14).toNat))) - 65)) μ Q) else (d_Md_isInLeft (wr ((wr (100 + (μ 778 (μ 772 14).toNat))) - 65)) μ (fun r5 => if r5 = true then (d_Md_readsVariable_j40 (wr ((wr (100 + (μ 778 (μ 772 14).toNat))) - 65)) μ Q) else (d_Md_readsVariable_j35 (wr ((wr (100 + (μ 778 (μ 772 14).toNat))) - 65)) μ Q))))
def d_Md_wants_j13 (μ : Mem) (Q : Mem → Prop) : Prop := d_Md_goes μ (fun μ4 => Q μ4)
def d_Md_wants (v1 : Int) (μ : Mem) (Q : Mem → Prop) : Prop := d_Md_is v1 μ (fun r1 => if r1 = true then (d_Md_wants_j13 μ Q) else (d_Md_faults 1 μ (fun μ6 => d_Md_wants_j13 μ6 Q)))
def d_Md_readsSymbolNode_j15 (v1 : Int) (μ : Mem) (Q : Mem → Prop) : Prop := if 0 < μ 772 10 then (Q μ) else (d_Md_addsNode v1 μ (fun μ6 => if 0 < μ6 772 10 then (Q μ6) else (d_Md_ofSymbol v1 0 μ6 (fun r7 => if r7 = 0 then (Q μ6) else (d_Md_wants 8 μ6 (fun μ10 => d_Md_ofSymbol v1 0 μ10 (fun r11 => (0 ≤ μ10 772 17 ∧ μ10 772 17 < 81) ∧ Q (mup (mup μ10 779 (μ10 772 17).toNat r11) 772 17 (wr (((mup μ10 779 (μ10 772 17).toNat r11) 772 17) + 1))))))))))
def d_Md_readsSymbolNode (μ : Mem) (Q : Mem → Prop) : Prop := d_Md_symbolHere μ (fun r1 => if r1 = (-1) then (d_Md_faults 3 μ (fun μ4 => d_Md_readsSymbolNode_j15 r1 μ4 Q)) else (d_Md_readsSymbolNode_j15 r1 μ Q))
def d_Md_readsNode (v1 : Int) (μ : Mem) (Q : Mem → Prop) : Prop := d_Md_is 3 μ (fun r1 => if r1 = true then (d_Md_readsVariable v1 μ (fun μ4 => Q μ4)) else (d_Md_is 2 μ (fun r5 => if r5 = true then (d_Md_readsSymbolNode μ (fun μ8 => Q μ8)) else (d_Md_faults 1 μ (fun μ10 => Q μ10)))))
def d_Md_readsEnds_b0 (μ : Mem) (W0 : Mem → Prop) (Q : Mem → Prop) : Prop := if 0 < μ 772 17 then (if μ 772 10 = 0 then ((0 ≤ wr ((μ 772 17) - 1) ∧ wr ((μ 772 17) - 1) < 81) ∧ (0 ≤ wr ((μ 772 17) - 1) ∧ wr ((μ 772 17) - 1) < 81) ∧ (0 ≤ wr (((mup μ 779 (wr ((μ 772 17) - 1)).toNat (wr ((μ 779 (wr ((μ 772 17) - 1)).toNat) - 1))) 772 17) - 1) ∧ wr (((mup μ 779 (wr ((μ 772 17) - 1)).toNat (wr ((μ 779 (wr ((μ 772 17) - 1)).toNat) - 1))) 772 17) - 1) < 81) ∧ if 0 < (mup μ 779 (wr ((μ 772 17) - 1)).toNat (wr ((μ 779 (wr ((μ 772 17) - 1)).toNat) - 1))) 779 (wr (((mup μ 779 (wr ((μ 772 17) - 1)).toNat (wr ((μ 779 (wr ((μ 772 17) - 1)).toNat) - 1))) 772 17) - 1)).toNat then (d_Md_wants 7 (mup μ 779 (wr ((μ 772 17) - 1)).toNat (wr ((μ 779 (wr ((μ 772 17) - 1)).toNat) - 1))) (fun μ2 => Q μ2)) else (d_Md_wants 9 (mup μ 779 (wr ((μ 772 17) - 1)).toNat (wr ((μ 779 (wr ((μ 772 17) - 1)).toNat) - 1))) (fun μ4 => W0 (mup μ4 772 17 (wr ((μ4 772 17) - 1)))))) else (Q μ)) else (Q μ)
def d_Md_readsEnds_l0 (μ : Mem) (Q : Mem → Prop) : Prop := ∀ W : Mem → Prop, (∀ (μ : Mem), d_Md_readsEnds_b0 μ W Q → W μ) → W μ
def d_Md_readsEnds (μ : Mem) (Q : Mem → Prop) : Prop := d_Md_readsEnds_l0 μ Q
theorem i_Md_readsEnds_l0 {Q : Mem → Prop} {Inv : Mem → Prop} (f : Mem → Nat) (hi : ∀ (μ : Mem), Inv μ → ∀ W : Mem → Prop, (∀ (μ' : Mem), Inv μ' → f μ' < f μ → W μ') → d_Md_readsEnds_b0 μ W Q) : ∀ (μ : Mem), Inv μ → d_Md_readsEnds_l0 μ Q := by
  intro μ hI W hW
  have key : ∀ (n : Nat) (μ : Mem), f μ = n → Inv μ → W μ := by
    intro n
    induction n using Nat.strongRecOn with
    | _ n ih =>
      intro μ hf hI
      exact hW _ (hi μ hI W fun μ' hI' hl => ih _ (by omega) μ' rfl hI')
  exact key _ μ rfl hI
def d_Md_readsOne (v1 : Int) (μ : Mem) (Q : Mem → Prop) : Prop := d_Md_readsNode v1 μ (fun μ2 => if μ2 772 17 = μ 772 17 then (d_Md_readsEnds μ2 (fun μ4 => Q μ4)) else (Q μ2))
def d_Md_readTerm_b25 (μ : Mem) (W25 : Mem → Prop) (Q : Int → Mem → Prop) : Prop := if 0 < μ 772 17 then (if μ 772 10 = 0 then (d_Md_readsOne 1 μ (fun μ4 => W25 μ4)) else (Q (μ 772 18) μ)) else (Q (μ 772 18) μ)
def d_Md_readTerm_l25 (μ : Mem) (Q : Int → Mem → Prop) : Prop := ∀ W : Mem → Prop, (∀ (μ : Mem), d_Md_readTerm_b25 μ W Q → W μ) → W μ
def d_Md_readTerm (v1 : Int) (v2 : Int) (v3 : Int) (μ : Mem) (Q : Int → Mem → Prop) : Prop := d_Md_readsOne v3 (mup (mup (mup (mup μ 772 19 v1) 772 20 v2) 772 18 0) 772 17 0) (fun μ2 => d_Md_readTerm_l25 μ2 Q)
theorem i_Md_readTerm_l25 {Q : Int → Mem → Prop} {Inv : Mem → Prop} (f : Mem → Nat) (hi : ∀ (μ : Mem), Inv μ → ∀ W : Mem → Prop, (∀ (μ' : Mem), Inv μ' → f μ' < f μ → W μ') → d_Md_readTerm_b25 μ W Q) : ∀ (μ : Mem), Inv μ → d_Md_readTerm_l25 μ Q := by
  intro μ hI W hW
  have key : ∀ (n : Nat) (μ : Mem), f μ = n → Inv μ → W μ := by
    intro n
    induction n using Nat.strongRecOn with
    | _ n ih =>
      intro μ hf hI
      exact hW _ (hi μ hI W fun μ' hI' hl => ih _ (by omega) μ' rfl hI')
  exact key _ μ rfl hI
def d_Md_readsRule_j16 (μ : Mem) (Q : Mem → Prop) : Prop := d_Md_goes μ (fun μ4 => d_Md_readTerm (wr ((wr (67 + (wr (26 * (μ4 773 1))))) + 2)) 12 0 (mup μ4 772 21 0) (fun r5 μ6 => (0 ≤ wr ((wr (67 + (wr (26 * (μ4 773 1))))) + 0) ∧ wr ((wr (67 + (wr (26 * (μ4 773 1))))) + 0) < 709) ∧ d_Md_wants 6 (mup μ6 773 (wr ((wr (67 + (wr (26 * (μ4 773 1))))) + 0)).toNat r5) (fun μ8 => if 0 < (mup μ8 772 21 1) 772 10 then (Q (mup μ8 772 21 1)) else (d_Md_readTerm (wr ((wr (67 + (wr (26 * (μ4 773 1))))) + 14)) 12 1 (mup μ8 772 21 1) (fun r9 μ10 => (0 ≤ wr ((wr (67 + (wr (26 * (μ4 773 1))))) + 1) ∧ wr ((wr (67 + (wr (26 * (μ4 773 1))))) + 1) < 709) ∧ Q (mup (mup (mup μ10 773 (wr ((wr (67 + (wr (26 * (μ4 773 1))))) + 1)).toNat r9) 772 21 0) 773 1 (wr (((mup (mup μ10 773 (wr ((wr (67 + (wr (26 * (μ4 773 1))))) + 1)).toNat r9) 772 21 0) 773 1) + 1))))))))
def d_Md_readsRule (μ : Mem) (Q : Mem → Prop) : Prop := if μ 773 1 = 6 then (d_Md_faults 5 μ (fun μ2 => d_Md_readsRule_j16 μ2 Q)) else (d_Md_readsRule_j16 μ Q)
def d_Md_readsNewTerm_j16 (μ : Mem) (Q : Mem → Prop) : Prop := d_Md_goes μ (fun μ4 => if 0 < μ4 772 10 then (Q μ4) else (d_Md_readTerm (wr ((wr (223 + (wr (81 * ((mup μ4 772 21 0) 773 2))))) + 1)) 40 1 (mup μ4 772 21 0) (fun r5 μ6 => (0 ≤ wr ((wr (223 + (wr (81 * ((mup μ4 772 21 0) 773 2))))) + 0) ∧ wr ((wr (223 + (wr (81 * ((mup μ4 772 21 0) 773 2))))) + 0) < 709) ∧ Q (mup (mup μ6 773 (wr ((wr (223 + (wr (81 * ((mup μ4 772 21 0) 773 2))))) + 0)).toNat r5) 773 2 (wr (((mup μ6 773 (wr ((wr (223 + (wr (81 * ((mup μ4 772 21 0) 773 2))))) + 0)).toNat r5) 773 2) + 1))))))
def d_Md_readsNewTerm (μ : Mem) (Q : Mem → Prop) : Prop := if μ 773 2 = 6 then (d_Md_faults 5 μ (fun μ2 => d_Md_readsNewTerm_j16 μ2 Q)) else (d_Md_readsNewTerm_j16 μ Q)
def d_Md_sizeOf (v1 : Int) (μ : Mem) (Q : Int → Prop) : Prop := (0 ≤ wr ((wr (223 + (wr (81 * v1)))) + 0) ∧ wr ((wr (223 + (wr (81 * v1)))) + 0) < 709) ∧ Q (μ 773 (wr ((wr (223 + (wr (81 * v1)))) + 0)).toNat)
def d_Md_lends (v1 : Int) (μ : Mem) (Q : Mem → Prop) : Prop := d_Md_sizeOf v1 μ (fun r1 => d_Md_lays 773 (wr ((wr (223 + (wr (81 * v1)))) + 1)) 780 0 ((mup μ 772 25 r1) 772 25) (mup μ 772 25 r1) (fun μ4 => Q μ4))
def d_Md_stores (v1 : Int) (μ : Mem) (Q : Mem → Prop) : Prop := (0 ≤ wr ((wr (223 + (wr (81 * v1)))) + 0) ∧ wr ((wr (223 + (wr (81 * v1)))) + 0) < 709) ∧ d_Md_lays 780 0 773 (wr ((wr (223 + (wr (81 * v1)))) + 1)) ((mup μ 773 (wr ((wr (223 + (wr (81 * v1)))) + 0)).toNat (μ 772 25)) 772 25) (mup μ 773 (wr ((wr (223 + (wr (81 * v1)))) + 0)).toNat (μ 772 25)) (fun μ2 => Q μ2)
def d_Md_readsCopy_j16 (μ : Mem) (Q : Mem → Prop) : Prop := d_Md_goes μ (fun μ4 => d_Md_digitHere (wr ((μ4 773 2) - 1)) μ4 (fun r5 μ6 => d_Md_goes μ6 (fun μ8 => if 0 < μ8 772 10 then (Q μ8) else (d_Md_lends r5 μ8 (fun μ10 => d_Md_stores (wr (((mup μ10 773 2 (wr ((μ10 773 2) + 1))) 773 2) - 1)) (mup μ10 773 2 (wr ((μ10 773 2) + 1))) (fun μ12 => Q μ12))))))
def d_Md_readsCopy (μ : Mem) (Q : Mem → Prop) : Prop := if μ 773 2 = 6 then (d_Md_faults 5 μ (fun μ2 => d_Md_readsCopy_j16 μ2 Q)) else (d_Md_readsCopy_j16 μ Q)
def d_Md_ofRule (v1 : Int) (v2 : Int) (μ : Mem) (Q : Int → Prop) : Prop := (0 ≤ wr ((wr (67 + (wr (26 * v1)))) + v2) ∧ wr ((wr (67 + (wr (26 * v1)))) + v2) < 709) ∧ Q (μ 773 (wr ((wr (67 + (wr (26 * v1)))) + v2)).toNat)
def d_Md_one (v0 : Int) (μ : Mem) (Q : Int → Prop) : Prop := if v0 = 0 then (Q 0) else (Q 1)
def d_Md_occurrences_j58 (v1 : Int) (v2 : Int) (v3 : Int) (v4 : Int) (v6 : Int) (t0 : Int) (t1 : Int) (μ : Mem) (W22 : Int → Int → Prop) (Q : Int → Prop) : Prop := d_Md_one t1 μ (fun r5 => W22 (wr (t0 + r5)) (wr (v6 + 1)))
def d_Md_occurrences_j43 (v1 : Int) (v2 : Int) (v3 : Int) (v4 : Int) (v6 : Int) (t0 : Int) (t2 : Int) (t3 : Int) (μ : Mem) (W22 : Int → Int → Prop) (Q : Int → Prop) : Prop := d_Md_ofRule t2 (wr (t3 + v6)) μ (fun r3 => if r3 = v3 then (d_Md_occurrences_j58 v1 v2 v3 v4 v6 t0 1 μ W22 Q) else (d_Md_occurrences_j58 v1 v2 v3 v4 v6 t0 0 μ W22 Q))
def d_Md_occurrences_b22 (v1 : Int) (v2 : Int) (v3 : Int) (v4 : Int) (v5 : Int) (v6 : Int) (μ : Mem) (W22 : Int → Int → Prop) (Q : Int → Prop) : Prop := if v6 < v4 then (if v2 = 0 then (d_Md_occurrences_j43 v1 v2 v3 v4 v6 v5 v1 14 μ W22 Q) else (d_Md_occurrences_j43 v1 v2 v3 v4 v6 v5 v1 2 μ W22 Q)) else (Q v5)
def d_Md_occurrences_l22 (v1 : Int) (v2 : Int) (v3 : Int) (v4 : Int) (v5 : Int) (v6 : Int) (μ : Mem) (Q : Int → Prop) : Prop := ∀ W : Int → Int → Prop, (∀ (v5 : Int) (v6 : Int), d_Md_occurrences_b22 v1 v2 v3 v4 v5 v6 μ W Q → W v5 v6) → W v5 v6
def d_Md_occurrences_j11 (v1 : Int) (v2 : Int) (v3 : Int) (t1 : Int) (t2 : Int) (μ : Mem) (Q : Int → Prop) : Prop := d_Md_ofRule t1 t2 μ (fun r1 => d_Md_occurrences_l22 v1 v2 v3 r1 0 0 μ Q)
def d_Md_occurrences (v1 : Int) (v2 : Int) (v3 : Int) (μ : Mem) (Q : Int → Prop) : Prop := if v2 = 0 then (d_Md_occurrences_j11 v1 v2 v3 v1 1 μ Q) else (d_Md_occurrences_j11 v1 v2 v3 v1 0 μ Q)
theorem i_Md_occurrences_l22 {v1 : Int} {v2 : Int} {v3 : Int} {v4 : Int} {μ : Mem} {Q : Int → Prop} {Inv : Int → Int → Prop} (f : Int → Int → Nat) (hi : ∀ (v5 : Int) (v6 : Int), Inv v5 v6 → ∀ W : Int → Int → Prop, (∀ (v5' : Int) (v6' : Int), Inv v5' v6' → f v5' v6' < f v5 v6 → W v5' v6') → d_Md_occurrences_b22 v1 v2 v3 v4 v5 v6 μ W Q) : ∀ (v5 : Int) (v6 : Int), Inv v5 v6 → d_Md_occurrences_l22 v1 v2 v3 v4 v5 v6 μ Q := by
  intro v5 v6 hI W hW
  have key : ∀ (n : Nat) (v5 : Int) (v6 : Int), f v5 v6 = n → Inv v5 v6 → W v5 v6 := by
    intro n
    induction n using Nat.strongRecOn with
    | _ n ih =>
      intro v5 v6 hf hI
      exact hW _ _ (hi v5 v6 hI W fun v5' v6' hI' hl => ih _ (by omega) v5' v6' rfl hI')
  exact key _ v5 v6 rfl hI
def d_Md_canReverse_j50 (v1 : Int) (v2 : Int) (μ : Mem) (W16 : Int → Prop) (Q : Bool → Prop) : Prop := W16 (wr (v2 + 1))
def d_Md_canReverse_b16 (v1 : Int) (v2 : Int) (μ : Mem) (W16 : Int → Prop) (Q : Bool → Prop) : Prop := if v2 < 8 then (d_Md_occurrences v1 1 (wr (100 + v2)) μ (fun r3 => if 0 < r3 then (d_Md_occurrences v1 0 (wr (100 + v2)) μ (fun r5 => if r5 = 0 then (Q false) else (d_Md_canReverse_j50 v1 v2 μ W16 Q))) else (d_Md_canReverse_j50 v1 v2 μ W16 Q))) else (Q true)
def d_Md_canReverse_l16 (v1 : Int) (v2 : Int) (μ : Mem) (Q : Bool → Prop) : Prop := ∀ W : Int → Prop, (∀ (v2 : Int), d_Md_canReverse_b16 v1 v2 μ W Q → W v2) → W v2
def d_Md_canReverse (v1 : Int) (μ : Mem) (Q : Bool → Prop) : Prop := d_Md_ofRule v1 14 μ (fun r1 => if r1 < 100 then (d_Md_canReverse_l16 v1 0 μ Q) else (Q false))
theorem i_Md_canReverse_l16 {v1 : Int} {μ : Mem} {Q : Bool → Prop} {Inv : Int → Prop} (f : Int → Nat) (hi : ∀ (v2 : Int), Inv v2 → ∀ W : Int → Prop, (∀ (v2' : Int), Inv v2' → f v2' < f v2 → W v2') → d_Md_canReverse_b16 v1 v2 μ W Q) : ∀ (v2 : Int), Inv v2 → d_Md_canReverse_l16 v1 v2 μ Q := by
  intro v2 hI W hW
  have key : ∀ (n : Nat) (v2 : Int), f v2 = n → Inv v2 → W v2 := by
    intro n
    induction n using Nat.strongRecOn with
    | _ n ih =>
      intro v2 hf hI
      exact hW _ (hi v2 hI W fun v2' hI' hl => ih _ (by omega) v2' rfl hI')
  exact key _ v2 rfl hI
def d_Md_exchanges (v1 : Int) (v2 : Int) (μ : Mem) (Q : Mem → Prop) : Prop := (0 ≤ v1 ∧ v1 < 709) ∧ (0 ≤ v2 ∧ v2 < 709) ∧ (0 ≤ v1 ∧ v1 < 709) ∧ (0 ≤ v2 ∧ v2 < 709) ∧ Q (mup (mup μ 773 v1.toNat (μ 773 v2.toNat)) 773 v2.toNat (μ 773 v1.toNat))
def d_Md_reverses_b20 (v2 : Int) (v3 : Int) (μ : Mem) (W20 : Int → Mem → Prop) (Q : Mem → Prop) : Prop := if v3 < 12 then (d_Md_exchanges (wr ((wr (v2 + 2)) + v3)) (wr ((wr (v2 + 14)) + v3)) μ (fun μ4 => W20 (wr (v3 + 1)) μ4)) else (Q μ)
def d_Md_reverses_l20 (v2 : Int) (v3 : Int) (μ : Mem) (Q : Mem → Prop) : Prop := ∀ W : Int → Mem → Prop, (∀ (v3 : Int) (μ : Mem), d_Md_reverses_b20 v2 v3 μ W Q → W v3 μ) → W v3 μ
def d_Md_reverses (v1 : Int) (μ : Mem) (Q : Mem → Prop) : Prop := d_Md_exchanges (wr ((wr (67 + (wr (26 * v1)))) + 0)) (wr ((wr (67 + (wr (26 * v1)))) + 1)) μ (fun μ2 => d_Md_reverses_l20 (wr (67 + (wr (26 * v1)))) 0 μ2 Q)
theorem i_Md_reverses_l20 {v2 : Int} {Q : Mem → Prop} {Inv : Int → Mem → Prop} (f : Int → Mem → Nat) (hi : ∀ (v3 : Int) (μ : Mem), Inv v3 μ → ∀ W : Int → Mem → Prop, (∀ (v3' : Int) (μ' : Mem), Inv v3' μ' → f v3' μ' < f v3 μ → W v3' μ') → d_Md_reverses_b20 v2 v3 μ W Q) : ∀ (v3 : Int) (μ : Mem), Inv v3 μ → d_Md_reverses_l20 v2 v3 μ Q := by
  intro v3 μ hI W hW
  have key : ∀ (n : Nat) (v3 : Int) (μ : Mem), f v3 μ = n → Inv v3 μ → W v3 μ := by
    intro n
    induction n using Nat.strongRecOn with
    | _ n ih =>
      intro v3 μ hf hI
      exact hW _ _ (hi v3 μ hI W fun v3' μ' hI' hl => ih _ (by omega) v3' μ' rfl hI')
  exact key _ v3 μ rfl hI
def d_Md_readsFlip_j49 (μ : Mem) (Q : Mem → Prop) : Prop := d_Md_goes μ (fun μ10 => Q μ10)
def d_Md_readsFlip_j37 (v1 : Int) (μ : Mem) (Q : Mem → Prop) : Prop := if μ 772 10 = 0 then (d_Md_reverses v1 μ (fun μ8 => d_Md_readsFlip_j49 μ8 Q)) else (d_Md_readsFlip_j49 μ Q)
def d_Md_readsFlip (μ : Mem) (Q : Mem → Prop) : Prop := d_Md_goes μ (fun μ2 => d_Md_digitHere (wr ((μ2 773 1) - 1)) μ2 (fun r3 μ4 => if μ4 772 10 = 0 then (d_Md_canReverse r3 μ4 (fun r5 => if r5 = true then (d_Md_readsFlip_j37 r3 μ4 Q) else (d_Md_faults 4 μ4 (fun μ12 => d_Md_readsFlip_j37 r3 μ12 Q)))) else (d_Md_readsFlip_j37 r3 μ4 Q)))
def d_Md_arityOf (v1 : Int) (μ : Mem) (Q : Int → Prop) : Prop := if v1 < 100 then (d_Md_ofSymbol v1 0 μ (fun r1 => Q r1)) else (Q 0)
def d_Md_behind_b5 (v1 : Nat) (v3 : Int) (v4 : Int) (μ : Mem) (W5 : Int → Int → Prop) (Q : Int → Prop) : Prop := if 0 < v3 then ((0 ≤ v4 ∧ v4 < (ln v1 : Int)) ∧ d_Md_arityOf (μ v1 v4.toNat) μ (fun r1 => W5 (wr (v3 + (wr (r1 - 1)))) (wr (v4 + 1)))) else (Q v4)
def d_Md_behind_l5 (v1 : Nat) (v3 : Int) (v4 : Int) (μ : Mem) (Q : Int → Prop) : Prop := ∀ W : Int → Int → Prop, (∀ (v3 : Int) (v4 : Int), d_Md_behind_b5 v1 v3 v4 μ W Q → W v3 v4) → W v3 v4
def d_Md_behind (v1 : Nat) (v2 : Int) (μ : Mem) (Q : Int → Prop) : Prop := d_Md_behind_l5 v1 1 v2 μ Q
theorem i_Md_behind_l5 {v1 : Nat} {μ : Mem} {Q : Int → Prop} {Inv : Int → Int → Prop} (f : Int → Int → Nat) (hi : ∀ (v3 : Int) (v4 : Int), Inv v3 v4 → ∀ W : Int → Int → Prop, (∀ (v3' : Int) (v4' : Int), Inv v3' v4' → f v3' v4' < f v3 v4 → W v3' v4') → d_Md_behind_b5 v1 v3 v4 μ W Q) : ∀ (v3 : Int) (v4 : Int), Inv v3 v4 → d_Md_behind_l5 v1 v3 v4 μ Q := by
  intro v3 v4 hI W hW
  have key : ∀ (n : Nat) (v3 : Int) (v4 : Int), f v3 v4 = n → Inv v3 v4 → W v3 v4 := by
    intro n
    induction n using Nat.strongRecOn with
    | _ n ih =>
      intro v3 v4 hf hI
      exact hW _ _ (hi v3 v4 hI W fun v3' v4' hI' hl => ih _ (by omega) v3' v4' rfl hI')
  exact key _ v3 v4 rfl hI
