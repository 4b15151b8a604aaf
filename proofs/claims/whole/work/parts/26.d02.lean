/-! WHAT THE METHODS DO, as texts over numbers (written by wip/gen/dec.py), 2 -/
def d_Md_areSame_b3 (v1 : Int) (v2 : Int) (v3 : Int) (v4 : Int) (μ : Mem) (W3 : Int → Prop) (Q : Bool → Prop) : Prop := if v4 < v3 then ((0 ≤ wr (v1 + v4) ∧ wr (v1 + v4) < 80) ∧ (0 ≤ wr (v2 + v4) ∧ wr (v2 + v4) < 80) ∧ if μ 780 (wr (v1 + v4)).toNat = μ 780 (wr (v2 + v4)).toNat then (W3 (wr (v4 + 1))) else (Q false)) else (Q true)
def d_Md_areSame_l3 (v1 : Int) (v2 : Int) (v3 : Int) (v4 : Int) (μ : Mem) (Q : Bool → Prop) : Prop := ∀ W : Int → Prop, (∀ (v4 : Int), d_Md_areSame_b3 v1 v2 v3 v4 μ W Q → W v4) → W v4
def d_Md_areSame (v1 : Int) (v2 : Int) (v3 : Int) (μ : Mem) (Q : Bool → Prop) : Prop := d_Md_areSame_l3 v1 v2 v3 0 μ Q
theorem i_Md_areSame_l3 {v1 : Int} {v2 : Int} {v3 : Int} {μ : Mem} {Q : Bool → Prop} {Inv : Int → Prop} (f : Int → Nat) (hi : ∀ (v4 : Int), Inv v4 → ∀ W : Int → Prop, (∀ (v4' : Int), Inv v4' → f v4' < f v4 → W v4') → d_Md_areSame_b3 v1 v2 v3 v4 μ W Q) : ∀ (v4 : Int), Inv v4 → d_Md_areSame_l3 v1 v2 v3 v4 μ Q := by
  intro v4 hI W hW
  have key : ∀ (n : Nat) (v4 : Int), f v4 = n → Inv v4 → W v4 := by
    intro n
    induction n using Nat.strongRecOn with
    | _ n ih =>
      intro v4 hf hI
      exact hW _ (hi v4 hI W fun v4' hI' hl => ih _ (by omega) v4' rfl hI')
  exact key _ v4 rfl hI
def d_Md_binds (v1 : Int) (v2 : Int) (μ : Mem) (Q : Bool → Mem → Prop) : Prop := (0 ≤ v1 ∧ v1 < 8) ∧ if μ 783 v1.toNat = (-1) then ((0 ≤ v1 ∧ v1 < 8) ∧ Q true (mup μ 783 v1.toNat v2)) else (d_Md_behind 780 v2 μ (fun r1 => (0 ≤ v1 ∧ v1 < 8) ∧ d_Md_behind 780 (μ 783 v1.toNat) μ (fun r3 => (0 ≤ v1 ∧ v1 < 8) ∧ if wr (r3 - (μ 783 v1.toNat)) = wr (r1 - v2) then ((0 ≤ v1 ∧ v1 < 8) ∧ d_Md_areSame (μ 783 v1.toNat) v2 (wr (r1 - v2)) μ (fun r5 => if r5 = true then (Q true μ) else (Q false μ))) else (Q false μ))))
def d_Md_matchesAt_j99 (v1 : Int) (v3 : Int) (v4 : Int) (μ : Mem) (W26 : Int → Int → Mem → Prop) (Q : Bool → Mem → Prop) : Prop := W26 v3 (wr (v4 + 1)) μ
def d_Md_matchesAt_b26 (v1 : Int) (v3 : Int) (v4 : Int) (μ : Mem) (W26 : Int → Int → Mem → Prop) (Q : Bool → Mem → Prop) : Prop := d_Md_ofRule v1 0 μ (fun r1 => if v4 < r1 then (d_Md_ofRule v1 (wr (2 + v4)) μ (fun r3 => if r3 < 100 then ((0 ≤ v3 ∧ v3 < 80) ∧ if μ 780 v3.toNat = r3 then (d_Md_matchesAt_j99 v1 (wr (v3 + 1)) v4 μ W26 Q) else (Q false μ)) else (d_Md_binds (wr (r3 - 100)) v3 μ (fun r5 μ6 => if r5 = true then (d_Md_behind 780 v3 μ6 (fun r7 => d_Md_matchesAt_j99 v1 r7 v4 μ6 W26 Q)) else (Q false μ6))))) else (Q true μ))
def d_Md_matchesAt_l26 (v1 : Int) (v3 : Int) (v4 : Int) (μ : Mem) (Q : Bool → Mem → Prop) : Prop := ∀ W : Int → Int → Mem → Prop, (∀ (v3 : Int) (v4 : Int) (μ : Mem), d_Md_matchesAt_b26 v1 v3 v4 μ W Q → W v3 v4 μ) → W v3 v4 μ
def d_Md_matchesAt_b2 (v1 : Int) (v2 : Int) (v3 : Int) (μ : Mem) (W2 : Int → Mem → Prop) (Q : Bool → Mem → Prop) : Prop := if v3 < 8 then ((0 ≤ v3 ∧ v3 < 8) ∧ W2 (wr (v3 + 1)) (mup μ 783 v3.toNat (-1))) else (d_Md_matchesAt_l26 v1 v2 0 μ Q)
def d_Md_matchesAt_l2 (v1 : Int) (v2 : Int) (v3 : Int) (μ : Mem) (Q : Bool → Mem → Prop) : Prop := ∀ W : Int → Mem → Prop, (∀ (v3 : Int) (μ : Mem), d_Md_matchesAt_b2 v1 v2 v3 μ W Q → W v3 μ) → W v3 μ
def d_Md_matchesAt (v1 : Int) (v2 : Int) (μ : Mem) (Q : Bool → Mem → Prop) : Prop := d_Md_matchesAt_l2 v1 v2 0 μ Q
theorem i_Md_matchesAt_l26 {v1 : Int} {Q : Bool → Mem → Prop} {Inv : Int → Int → Mem → Prop} (f : Int → Int → Mem → Nat) (hi : ∀ (v3 : Int) (v4 : Int) (μ : Mem), Inv v3 v4 μ → ∀ W : Int → Int → Mem → Prop, (∀ (v3' : Int) (v4' : Int) (μ' : Mem), Inv v3' v4' μ' → f v3' v4' μ' < f v3 v4 μ → W v3' v4' μ') → d_Md_matchesAt_b26 v1 v3 v4 μ W Q) : ∀ (v3 : Int) (v4 : Int) (μ : Mem), Inv v3 v4 μ → d_Md_matchesAt_l26 v1 v3 v4 μ Q := by
  intro v3 v4 μ hI W hW
  have key : ∀ (n : Nat) (v3 : Int) (v4 : Int) (μ : Mem), f v3 v4 μ = n → Inv v3 v4 μ → W v3 v4 μ := by
    intro n
    induction n using Nat.strongRecOn with
    | _ n ih =>
      intro v3 v4 μ hf hI
      exact hW _ _ _ (hi v3 v4 μ hI W fun v3' v4' μ' hI' hl => ih _ (by omega) v3' v4' μ' rfl hI')
  exact key _ v3 v4 μ rfl hI
theorem i_Md_matchesAt_l2 {v1 : Int} {v2 : Int} {Q : Bool → Mem → Prop} {Inv : Int → Mem → Prop} (f : Int → Mem → Nat) (hi : ∀ (v3 : Int) (μ : Mem), Inv v3 μ → ∀ W : Int → Mem → Prop, (∀ (v3' : Int) (μ' : Mem), Inv v3' μ' → f v3' μ' < f v3 μ → W v3' μ') → d_Md_matchesAt_b2 v1 v2 v3 μ W Q) : ∀ (v3 : Int) (μ : Mem), Inv v3 μ → d_Md_matchesAt_l2 v1 v2 v3 μ Q := by
  intro v3 μ hI W hW
  have key : ∀ (n : Nat) (v3 : Int) (μ : Mem), f v3 μ = n → Inv v3 μ → W v3 μ := by
    intro n
    induction n using Nat.strongRecOn with
    | _ n ih =>
      intro v3 μ hf hI
      exact hW _ _ (hi v3 μ hI W fun v3' μ' hI' hl => ih _ (by omega) v3' μ' rfl hI')
  exact key _ v3 μ rfl hI
def d_Md_firstRule_b2 (v1 : Int) (v2 : Int) (μ : Mem) (W2 : Int → Mem → Prop) (Q : Int → Mem → Prop) : Prop := if v2 < μ 773 1 then (d_Md_matchesAt v2 v1 μ (fun r1 μ2 => if r1 = true then (Q v2 μ2) else (W2 (wr (v2 + 1)) μ2))) else (Q (-1) μ)
def d_Md_firstRule_l2 (v1 : Int) (v2 : Int) (μ : Mem) (Q : Int → Mem → Prop) : Prop := ∀ W : Int → Mem → Prop, (∀ (v2 : Int) (μ : Mem), d_Md_firstRule_b2 v1 v2 μ W Q → W v2 μ) → W v2 μ
def d_Md_firstRule (v1 : Int) (μ : Mem) (Q : Int → Mem → Prop) : Prop := d_Md_firstRule_l2 v1 0 μ Q
theorem i_Md_firstRule_l2 {v1 : Int} {Q : Int → Mem → Prop} {Inv : Int → Mem → Prop} (f : Int → Mem → Nat) (hi : ∀ (v2 : Int) (μ : Mem), Inv v2 μ → ∀ W : Int → Mem → Prop, (∀ (v2' : Int) (μ' : Mem), Inv v2' μ' → f v2' μ' < f v2 μ → W v2' μ') → d_Md_firstRule_b2 v1 v2 μ W Q) : ∀ (v2 : Int) (μ : Mem), Inv v2 μ → d_Md_firstRule_l2 v1 v2 μ Q := by
  intro v2 μ hI W hW
  have key : ∀ (n : Nat) (v2 : Int) (μ : Mem), f v2 μ = n → Inv v2 μ → W v2 μ := by
    intro n
    induction n using Nat.strongRecOn with
    | _ n ih =>
      intro v2 μ hf hI
      exact hW _ _ (hi v2 μ hI W fun v2' μ' hI' hl => ih _ (by omega) v2' μ' rfl hI')
  exact key _ v2 μ rfl hI
def d_Md_outermost_b2 (v1 : Int) (μ : Mem) (W2 : Int → Mem → Prop) (Q : Int → Mem → Prop) : Prop := if v1 < μ 772 25 then (d_Md_firstRule v1 μ (fun r1 μ2 => if r1 = (-1) then (W2 (wr (v1 + 1)) μ2) else (Q v1 μ2))) else (Q (-1) μ)
def d_Md_outermost_l2 (v1 : Int) (μ : Mem) (Q : Int → Mem → Prop) : Prop := ∀ W : Int → Mem → Prop, (∀ (v1 : Int) (μ : Mem), d_Md_outermost_b2 v1 μ W Q → W v1 μ) → W v1 μ
def d_Md_outermost (μ : Mem) (Q : Int → Mem → Prop) : Prop := d_Md_outermost_l2 0 μ Q
theorem i_Md_outermost_l2 {Q : Int → Mem → Prop} {Inv : Int → Mem → Prop} (f : Int → Mem → Nat) (hi : ∀ (v1 : Int) (μ : Mem), Inv v1 μ → ∀ W : Int → Mem → Prop, (∀ (v1' : Int) (μ' : Mem), Inv v1' μ' → f v1' μ' < f v1 μ → W v1' μ') → d_Md_outermost_b2 v1 μ W Q) : ∀ (v1 : Int) (μ : Mem), Inv v1 μ → d_Md_outermost_l2 v1 μ Q := by
  intro v1 μ hI W hW
  have key : ∀ (n : Nat) (v1 : Int) (μ : Mem), f v1 μ = n → Inv v1 μ → W v1 μ := by
    intro n
    induction n using Nat.strongRecOn with
    | _ n ih =>
      intro v1 μ hf hI
      exact hW _ _ (hi v1 μ hI W fun v1' μ' hI' hl => ih _ (by omega) v1' μ' rfl hI')
  exact key _ v1 μ rfl hI
def d_Md_innermost_j40 (v1 : Int) (v2 : Int) (μ : Mem) (W16 : Int → Int → Mem → Prop) (Q : Int → Mem → Prop) : Prop := W16 v1 (wr (v2 + 1)) μ
def d_Md_innermost_b16 (v1 : Int) (v2 : Int) (μ : Mem) (W16 : Int → Int → Mem → Prop) (Q : Int → Mem → Prop) : Prop := d_Md_behind 780 v1 μ (fun r3 => if v2 < r3 then (d_Md_firstRule v2 μ (fun r5 μ6 => if r5 = (-1) then (d_Md_innermost_j40 v1 v2 μ6 W16 Q) else (d_Md_innermost_j40 v2 v2 μ6 W16 Q))) else (Q v1 μ))
def d_Md_innermost_l16 (v1 : Int) (v2 : Int) (μ : Mem) (Q : Int → Mem → Prop) : Prop := ∀ W : Int → Int → Mem → Prop, (∀ (v1 : Int) (v2 : Int) (μ : Mem), d_Md_innermost_b16 v1 v2 μ W Q → W v1 v2 μ) → W v1 v2 μ
def d_Md_innermost (μ : Mem) (Q : Int → Mem → Prop) : Prop := d_Md_outermost μ (fun r1 μ2 => if r1 = (-1) then (Q (-1) μ2) else (d_Md_innermost_l16 r1 (wr (r1 + 1)) μ2 Q))
theorem i_Md_innermost_l16 {Q : Int → Mem → Prop} {Inv : Int → Int → Mem → Prop} (f : Int → Int → Mem → Nat) (hi : ∀ (v1 : Int) (v2 : Int) (μ : Mem), Inv v1 v2 μ → ∀ W : Int → Int → Mem → Prop, (∀ (v1' : Int) (v2' : Int) (μ' : Mem), Inv v1' v2' μ' → f v1' v2' μ' < f v1 v2 μ → W v1' v2' μ') → d_Md_innermost_b16 v1 v2 μ W Q) : ∀ (v1 : Int) (v2 : Int) (μ : Mem), Inv v1 v2 μ → d_Md_innermost_l16 v1 v2 μ Q := by
  intro v1 v2 μ hI W hW
  have key : ∀ (n : Nat) (v1 : Int) (v2 : Int) (μ : Mem), f v1 v2 μ = n → Inv v1 v2 μ → W v1 v2 μ := by
    intro n
    induction n using Nat.strongRecOn with
    | _ n ih =>
      intro v1 v2 μ hf hI
      exact hW _ _ _ (hi v1 v2 μ hI W fun v1' v2' μ' hI' hl => ih _ (by omega) v1' v2' μ' rfl hI')
  exact key _ v1 v2 μ rfl hI
def d_Md_redex (v1 : Int) (μ : Mem) (Q : Int → Mem → Prop) : Prop := if v1 = 0 then (d_Md_outermost μ (fun r1 μ2 => Q r1 μ2)) else (d_Md_innermost μ (fun r3 μ4 => Q r3 μ4))
def d_Md_builds_j19 (μ : Mem) (Q : Mem → Prop) : Prop := Q (mup μ 772 26 (wr ((μ 772 26) + 1)))
def d_Md_builds (v1 : Int) (μ : Mem) (Q : Mem → Prop) : Prop := if μ 772 26 < 80 then ((0 ≤ μ 772 26 ∧ μ 772 26 < 80) ∧ d_Md_builds_j19 (mup μ 781 (μ 772 26).toNat v1) Q) else (d_Md_builds_j19 μ Q)
def d_Md_buildsFrom_b3 (v1 : Nat) (v3 : Int) (v4 : Int) (μ : Mem) (W3 : Int → Mem → Prop) (Q : Mem → Prop) : Prop := if v4 < v3 then ((0 ≤ v4 ∧ v4 < (ln v1 : Int)) ∧ d_Md_builds (μ v1 v4.toNat) μ (fun μ2 => W3 (wr (v4 + 1)) μ2)) else (Q μ)
def d_Md_buildsFrom_l3 (v1 : Nat) (v3 : Int) (v4 : Int) (μ : Mem) (Q : Mem → Prop) : Prop := ∀ W : Int → Mem → Prop, (∀ (v4 : Int) (μ : Mem), d_Md_buildsFrom_b3 v1 v3 v4 μ W Q → W v4 μ) → W v4 μ
def d_Md_buildsFrom (v1 : Nat) (v2 : Int) (v3 : Int) (μ : Mem) (Q : Mem → Prop) : Prop := d_Md_buildsFrom_l3 v1 v3 v2 μ Q
theorem i_Md_buildsFrom_l3 {v1 : Nat} {v3 : Int} {Q : Mem → Prop} {Inv : Int → Mem → Prop} (f : Int → Mem → Nat) (hi : ∀ (v4 : Int) (μ : Mem), Inv v4 μ → ∀ W : Int → Mem → Prop, (∀ (v4' : Int) (μ' : Mem), Inv v4' μ' → f v4' μ' < f v4 μ → W v4' μ') → d_Md_buildsFrom_b3 v1 v3 v4 μ W Q) : ∀ (v4 : Int) (μ : Mem), Inv v4 μ → d_Md_buildsFrom_l3 v1 v3 v4 μ Q := by
  intro v4 μ hI W hW
  have key : ∀ (n : Nat) (v4 : Int) (μ : Mem), f v4 μ = n → Inv v4 μ → W v4 μ := by
    intro n
    induction n using Nat.strongRecOn with
    | _ n ih =>
      intro v4 μ hf hI
      exact hW _ _ (hi v4 μ hI W fun v4' μ' hI' hl => ih _ (by omega) v4' μ' rfl hI')
  exact key _ v4 μ rfl hI
def d_Md_takesBuilt (μ : Mem) (Q : Bool → Mem → Prop) : Prop := if 80 < μ 772 26 then (Q false μ) else (d_Md_lays 781 0 780 0 ((mup μ 772 25 (μ 772 26)) 772 26) (mup μ 772 25 (μ 772 26)) (fun μ2 => Q true μ2))
def d_Md_rewritesAt_j90 (v1 : Int) (v2 : Int) (v3 : Int) (μ : Mem) (W17 : Int → Mem → Prop) (Q : Bool → Mem → Prop) : Prop := W17 (wr (v3 + 1)) μ
def d_Md_rewritesAt_b17 (v1 : Int) (v2 : Int) (v3 : Int) (μ : Mem) (W17 : Int → Mem → Prop) (Q : Bool → Mem → Prop) : Prop := d_Md_ofRule v1 1 μ (fun r3 => if v3 < r3 then (d_Md_ofRule v1 (wr (14 + v3)) μ (fun r5 => if r5 < 100 then (d_Md_builds r5 μ (fun μ8 => d_Md_rewritesAt_j90 v1 v2 v3 μ8 W17 Q)) else ((0 ≤ wr (r5 - 100) ∧ wr (r5 - 100) < 8) ∧ (0 ≤ wr (r5 - 100) ∧ wr (r5 - 100) < 8) ∧ d_Md_behind 780 (μ 783 (wr (r5 - 100)).toNat) μ (fun r9 => d_Md_buildsFrom 780 (μ 783 (wr (r5 - 100)).toNat) r9 μ (fun μ12 => d_Md_rewritesAt_j90 v1 v2 v3 μ12 W17 Q))))) else (d_Md_behind 780 v2 μ (fun r13 => d_Md_buildsFrom 780 r13 (μ 772 25) μ (fun μ16 => d_Md_takesBuilt μ16 (fun r17 μ18 => Q r17 μ18)))))
def d_Md_rewritesAt_l17 (v1 : Int) (v2 : Int) (v3 : Int) (μ : Mem) (Q : Bool → Mem → Prop) : Prop := ∀ W : Int → Mem → Prop, (∀ (v3 : Int) (μ : Mem), d_Md_rewritesAt_b17 v1 v2 v3 μ W Q → W v3 μ) → W v3 μ
def d_Md_rewritesAt (v1 : Int) (v2 : Int) (μ : Mem) (Q : Bool → Mem → Prop) : Prop := d_Md_buildsFrom 780 0 v2 (mup μ 772 26 0) (fun μ2 => d_Md_rewritesAt_l17 v1 v2 0 μ2 Q)
theorem i_Md_rewritesAt_l17 {v1 : Int} {v2 : Int} {Q : Bool → Mem → Prop} {Inv : Int → Mem → Prop} (f : Int → Mem → Nat) (hi : ∀ (v3 : Int) (μ : Mem), Inv v3 μ → ∀ W : Int → Mem → Prop, (∀ (v3' : Int) (μ' : Mem), Inv v3' μ' → f v3' μ' < f v3 μ → W v3' μ') → d_Md_rewritesAt_b17 v1 v2 v3 μ W Q) : ∀ (v3 : Int) (μ : Mem), Inv v3 μ → d_Md_rewritesAt_l17 v1 v2 v3 μ Q := by
  intro v3 μ hI W hW
  have key : ∀ (n : Nat) (v3 : Int) (μ : Mem), f v3 μ = n → Inv v3 μ → W v3 μ := by
    intro n
    induction n using Nat.strongRecOn with
    | _ n ih =>
      intro v3 μ hf hI
      exact hW _ _ (hi v3 μ hI W fun v3' μ' hI' hl => ih _ (by omega) v3' μ' rfl hI')
  exact key _ v3 μ rfl hI
def d_Md_stepsAt (v1 : Int) (μ : Mem) (Q : Bool → Mem → Prop) : Prop := d_Md_firstRule v1 μ (fun r1 μ2 => d_Md_rewritesAt r1 v1 μ2 (fun r3 μ4 => Q r3 μ4))
def d_Md_canStep (v1 : Int) (v2 : Int) (μ : Mem) (Q : Bool → Mem → Prop) : Prop := d_Md_lends v1 μ (fun μ2 => d_Md_redex v2 μ2 (fun r3 μ4 => if r3 = (-1) then (Q false μ4) else (d_Md_stepsAt r3 μ4 (fun r5 μ6 => if r5 = true then (Q true μ6) else (Q false μ6)))))
def d_Md_readsStep_j50 (μ : Mem) (Q : Mem → Prop) : Prop := d_Md_goes μ (fun μ10 => Q μ10)
def d_Md_readsStep_j38 (v1 : Int) (μ : Mem) (Q : Mem → Prop) : Prop := if μ 772 10 = 0 then (d_Md_stores v1 μ (fun μ8 => d_Md_readsStep_j50 μ8 Q)) else (d_Md_readsStep_j50 μ Q)
def d_Md_readsStep (μ : Mem) (Q : Mem → Prop) : Prop := d_Md_goes μ (fun μ2 => d_Md_digitHere (wr ((μ2 773 2) - 1)) μ2 (fun r3 μ4 => if μ4 772 10 = 0 then (d_Md_canStep r3 1 μ4 (fun r5 μ6 => if r5 = true then (d_Md_readsStep_j38 r3 μ6 Q) else (d_Md_faults 4 μ6 (fun μ12 => d_Md_readsStep_j38 r3 μ12 Q)))) else (d_Md_readsStep_j38 r3 μ4 Q)))
def d_Md_readsItem (μ : Mem) (Q : Mem → Prop) : Prop := d_Md_isWord 1 μ (fun r1 => if r1 = true then (d_Md_readsSymbol μ (fun μ4 => Q μ4)) else (d_Md_isWord 2 μ (fun r5 => if r5 = true then (d_Md_readsRule μ (fun μ8 => Q μ8)) else (d_Md_isWord 3 μ (fun r9 => if r9 = true then (d_Md_readsNewTerm μ (fun μ12 => Q μ12)) else (d_Md_isWord 4 μ (fun r13 => if r13 = true then (d_Md_readsCopy μ (fun μ16 => Q μ16)) else (d_Md_isWord 5 μ (fun r17 => if r17 = true then (d_Md_readsFlip μ (fun μ20 => Q μ20)) else (d_Md_isWord 6 μ (fun r21 => if r21 = true then (d_Md_readsStep μ (fun μ24 => Q μ24)) else (d_Md_faults 1 μ (fun μ26 => Q μ26)))))))))))))
def d_Md_readsText_b23 (μ : Mem) (W23 : Mem → Prop) (Q : Mem → Prop) : Prop := d_Md_is 5 μ (fun r7 => if r7 = true then (d_Md_goes μ (fun μ10 => d_Md_readsItem μ10 (fun μ12 => W23 μ12))) else (d_Md_is 1 μ (fun r13 => if r13 = true then (Q μ) else (d_Md_faults 1 μ (fun μ16 => Q μ16)))))
def d_Md_readsText_l23 (μ : Mem) (Q : Mem → Prop) : Prop := ∀ W : Mem → Prop, (∀ (μ : Mem), d_Md_readsText_b23 μ W Q → W μ) → W μ
def d_Md_readsText_j19 (μ : Mem) (Q : Mem → Prop) : Prop := d_Md_goes μ (fun μ6 => d_Md_readsText_l23 μ6 Q)
def d_Md_readsText (μ : Mem) (Q : Mem → Prop) : Prop := d_Md_goes μ (fun μ2 => d_Md_isWord 0 μ2 (fun r3 => if r3 = true then (d_Md_readsText_j19 μ2 Q) else (d_Md_faults 1 μ2 (fun μ18 => d_Md_readsText_j19 μ18 Q))))
theorem i_Md_readsText_l23 {Q : Mem → Prop} {Inv : Mem → Prop} (f : Mem → Nat) (hi : ∀ (μ : Mem), Inv μ → ∀ W : Mem → Prop, (∀ (μ' : Mem), Inv μ' → f μ' < f μ → W μ') → d_Md_readsText_b23 μ W Q) : ∀ (μ : Mem), Inv μ → d_Md_readsText_l23 μ Q := by
  intro μ hI W hW
  have key : ∀ (n : Nat) (μ : Mem), f μ = n → Inv μ → W μ := by
    intro n
    induction n using Nat.strongRecOn with
    | _ n ih =>
      intro μ hf hI
      exact hW _ (hi μ hI W fun μ' hI' hl => ih _ (by omega) μ' rfl hI')
  exact key _ μ rfl hI
def d_Md_parseSystem_b63 (v2 : Int) (μ : Mem) (W63 : Int → Mem → Prop) (Q : Int → Mem → Prop) : Prop := if v2 < 709 then ((0 ≤ v2 ∧ v2 < 709) ∧ W63 (wr (v2 + 1)) (mup μ 773 v2.toNat 0)) else (d_Md_readsText μ (fun μ8 => if 0 < μ8 772 10 then (d_Md_lays 774 0 773 0 709 (mup μ8 772 0 2) (fun μ10 => Q 0 μ10)) else (Q ((mup (mup (mup (mup μ8 772 6 1) 772 7 0) 777 0 0) 777 1 0) 773 1) (mup (mup (mup (mup μ8 772 6 1) 772 7 0) 777 0 0) 777 1 0))))
def d_Md_parseSystem_l63 (v2 : Int) (μ : Mem) (Q : Int → Mem → Prop) : Prop := ∀ W : Int → Mem → Prop, (∀ (v2 : Int) (μ : Mem), d_Md_parseSystem_b63 v2 μ W Q → W v2 μ) → W v2 μ
def d_Md_parseSystem (v1 : Int) (μ : Mem) (Q : Int → Mem → Prop) : Prop := d_Md_in v1 0 (μ 772 9) μ (fun r1 => d_Md_may (b2i r1) 1 1 μ (fun r3 μ4 => if r3 = true then (d_Md_lays 773 0 774 0 709 (mup (mup (mup (mup (mup μ4 772 12 v1) 772 13 0) 772 9 0) 772 10 0) 772 11 (-1)) (fun μ6 => d_Md_parseSystem_l63 0 μ6 Q)) else (Q 0 μ4)))
theorem i_Md_parseSystem_l63 {Q : Int → Mem → Prop} {Inv : Int → Mem → Prop} (f : Int → Mem → Nat) (hi : ∀ (v2 : Int) (μ : Mem), Inv v2 μ → ∀ W : Int → Mem → Prop, (∀ (v2' : Int) (μ' : Mem), Inv v2' μ' → f v2' μ' < f v2 μ → W v2' μ') → d_Md_parseSystem_b63 v2 μ W Q) : ∀ (v2 : Int) (μ : Mem), Inv v2 μ → d_Md_parseSystem_l63 v2 μ Q := by
  intro v2 μ hI W hW
  have key : ∀ (n : Nat) (v2 : Int) (μ : Mem), f v2 μ = n → Inv v2 μ → W v2 μ := by
    intro n
    induction n using Nat.strongRecOn with
    | _ n ih =>
      intro v2 μ hf hI
      exact hW _ _ (hi v2 μ hI W fun v2' μ' hI' hl => ih _ (by omega) v2' μ' rfl hI')
  exact key _ v2 μ rfl hI
def d_Md_mayLook (μ : Mem) (Q : Bool → Mem → Prop) : Prop := d_Md_may (μ 772 6) 1 1 μ (fun r1 μ2 => Q r1 μ2)
def d_Md_look (v1 : Int) (μ : Mem) (Q : Int → Mem → Prop) : Prop := d_Md_mayLook μ (fun r1 μ2 => if r1 = true then ((0 ≤ v1 ∧ v1 < 709) ∧ Q (μ2 773 v1.toNat) μ2) else (Q 0 μ2))
def d_Md_symbolCount (μ : Mem) (Q : Int → Mem → Prop) : Prop := d_Md_look 0 μ (fun r1 μ2 => Q r1 μ2)
def d_Md_isSymbol (v1 : Int) (μ : Mem) (Q : Bool → Prop) : Prop := if μ 772 6 = 0 then (Q false) else (d_Md_in v1 0 (wr ((μ 773 0) - 1)) μ (fun r1 => if r1 = true then (Q true) else (Q false)))
def d_Md_mayTwo (v1 : Int) (v2 : Int) (μ : Mem) (Q : Bool → Mem → Prop) : Prop := d_Md_may v1 v2 1 μ (fun r1 μ2 => Q r1 μ2)
def d_Md_maySymbol (v1 : Int) (μ : Mem) (Q : Bool → Mem → Prop) : Prop := d_Md_isSymbol v1 μ (fun r1 => d_Md_mayTwo (μ 772 6) (b2i r1) μ (fun r3 μ4 => Q r3 μ4))
def d_Md_symbolArity (v1 : Int) (μ : Mem) (Q : Int → Mem → Prop) : Prop := d_Md_maySymbol v1 μ (fun r1 μ2 => if r1 = true then (d_Md_ofSymbol v1 0 μ2 (fun r3 => Q r3 μ2)) else (Q 0 μ2))
def d_Md_symbolLetter (v1 : Int) (v2 : Int) (μ : Mem) (Q : Int → Mem → Prop) : Prop := d_Md_maySymbol v1 μ (fun r1 μ2 => if r1 = true then (d_Md_ofSymbol v1 1 μ2 (fun r3 => d_Md_in v2 0 (wr (r3 - 1)) μ2 (fun r5 => if r5 = true then (d_Md_ofSymbol v1 (wr (2 + v2)) μ2 (fun r7 => Q r7 μ2)) else (Q (-1) μ2)))) else (Q 0 μ2))
def d_Md_symbolUses_b14 (v1 : Int) (v2 : Int) (v3 : Int) (μ : Mem) (W14 : Int → Int → Prop) (Q : Int → Mem → Prop) : Prop := if v3 < μ 773 1 then (d_Md_occurrences v3 1 v1 μ (fun r3 => d_Md_occurrences v3 0 v1 μ (fun r5 => W14 (wr (v2 + (wr (r3 + r5)))) (wr (v3 + 1))))) else (Q v2 μ)
def d_Md_symbolUses_l14 (v1 : Int) (v2 : Int) (v3 : Int) (μ : Mem) (Q : Int → Mem → Prop) : Prop := ∀ W : Int → Int → Prop, (∀ (v2 : Int) (v3 : Int), d_Md_symbolUses_b14 v1 v2 v3 μ W Q → W v2 v3) → W v2 v3
def d_Md_symbolUses (v1 : Int) (μ : Mem) (Q : Int → Mem → Prop) : Prop := d_Md_maySymbol v1 μ (fun r1 μ2 => if r1 = true then (d_Md_symbolUses_l14 v1 0 0 μ2 Q) else (Q 0 μ2))
theorem i_Md_symbolUses_l14 {v1 : Int} {μ : Mem} {Q : Int → Mem → Prop} {Inv : Int → Int → Prop} (f : Int → Int → Nat) (hi : ∀ (v2 : Int) (v3 : Int), Inv v2 v3 → ∀ W : Int → Int → Prop, (∀ (v2' : Int) (v3' : Int), Inv v2' v3' → f v2' v3' < f v2 v3 → W v2' v3') → d_Md_symbolUses_b14 v1 v2 v3 μ W Q) : ∀ (v2 : Int) (v3 : Int), Inv v2 v3 → d_Md_symbolUses_l14 v1 v2 v3 μ Q := by
  intro v2 v3 hI W hW
  have key : ∀ (n : Nat) (v2 : Int) (v3 : Int), f v2 v3 = n → Inv v2 v3 → W v2 v3 := by
    intro n
    induction n using Nat.strongRecOn with
    | _ n ih =>
      intro v2 v3 hf hI
      exact hW _ _ (hi v2 v3 hI W fun v2' v3' hI' hl => ih _ (by omega) v2' v3' rfl hI')
  exact key _ v2 v3 rfl hI
def d_Md_ruleCount (μ : Mem) (Q : Int → Mem → Prop) : Prop := d_Md_look 1 μ (fun r1 μ2 => Q r1 μ2)
def d_Md_isRule (v1 : Int) (μ : Mem) (Q : Bool → Prop) : Prop := if μ 772 6 = 0 then (Q false) else (d_Md_in v1 0 (wr ((μ 773 1) - 1)) μ (fun r1 => if r1 = true then (Q true) else (Q false)))
def d_Md_mayRule (v1 : Int) (μ : Mem) (Q : Bool → Mem → Prop) : Prop := d_Md_isRule v1 μ (fun r1 => d_Md_mayTwo (μ 772 6) (b2i r1) μ (fun r3 μ4 => Q r3 μ4))
def d_Md_leftSize (v1 : Int) (μ : Mem) (Q : Int → Mem → Prop) : Prop := d_Md_mayRule v1 μ (fun r1 μ2 => if r1 = true then (d_Md_ofRule v1 0 μ2 (fun r3 => Q r3 μ2)) else (Q 0 μ2))
def d_Md_rightSize (v1 : Int) (μ : Mem) (Q : Int → Mem → Prop) : Prop := d_Md_mayRule v1 μ (fun r1 μ2 => if r1 = true then (d_Md_ofRule v1 1 μ2 (fun r3 => Q r3 μ2)) else (Q 0 μ2))
def d_Md_isLeftLinear_b12 (v1 : Int) (v2 : Int) (μ : Mem) (W12 : Int → Prop) (Q : Bool → Mem → Prop) : Prop := if v2 < 8 then (d_Md_occurrences v1 1 (wr (100 + v2)) μ (fun r3 => if 1 < r3 then (Q false μ) else (W12 (wr (v2 + 1))))) else (Q true μ)
def d_Md_isLeftLinear_l12 (v1 : Int) (v2 : Int) (μ : Mem) (Q : Bool → Mem → Prop) : Prop := ∀ W : Int → Prop, (∀ (v2 : Int), d_Md_isLeftLinear_b12 v1 v2 μ W Q → W v2) → W v2
def d_Md_isLeftLinear (v1 : Int) (μ : Mem) (Q : Bool → Mem → Prop) : Prop := d_Md_mayRule v1 μ (fun r1 μ2 => if r1 = true then (d_Md_isLeftLinear_l12 v1 0 μ2 Q) else (Q false μ2))
theorem i_Md_isLeftLinear_l12 {v1 : Int} {μ : Mem} {Q : Bool → Mem → Prop} {Inv : Int → Prop} (f : Int → Nat) (hi : ∀ (v2 : Int), Inv v2 → ∀ W : Int → Prop, (∀ (v2' : Int), Inv v2' → f v2' < f v2 → W v2') → d_Md_isLeftLinear_b12 v1 v2 μ W Q) : ∀ (v2 : Int), Inv v2 → d_Md_isLeftLinear_l12 v1 v2 μ Q := by
  intro v2 hI W hW
  have key : ∀ (n : Nat) (v2 : Int), f v2 = n → Inv v2 → W v2 := by
    intro n
    induction n using Nat.strongRecOn with
    | _ n ih =>
      intro v2 hf hI
      exact hW _ (hi v2 hI W fun v2' hI' hl => ih _ (by omega) v2' rfl hI')
  exact key _ v2 rfl hI
def d_Md_isCollapsing (v1 : Int) (μ : Mem) (Q : Bool → Mem → Prop) : Prop := d_Md_mayRule v1 μ (fun r1 μ2 => if r1 = true then (d_Md_ofRule v1 14 μ2 (fun r3 => if r3 < 100 then (Q false μ2) else (Q true μ2))) else (Q false μ2))
def d_Md_duplicates_b2 (v1 : Int) (v2 : Int) (μ : Mem) (W2 : Int → Prop) (Q : Bool → Prop) : Prop := if v2 < 8 then (d_Md_occurrences v1 0 (wr (100 + v2)) μ (fun r1 => d_Md_occurrences v1 1 (wr (100 + v2)) μ (fun r3 => if r3 < r1 then (Q true) else (W2 (wr (v2 + 1)))))) else (Q false)
def d_Md_duplicates_l2 (v1 : Int) (v2 : Int) (μ : Mem) (Q : Bool → Prop) : Prop := ∀ W : Int → Prop, (∀ (v2 : Int), d_Md_duplicates_b2 v1 v2 μ W Q → W v2) → W v2
def d_Md_duplicates (v1 : Int) (μ : Mem) (Q : Bool → Prop) : Prop := d_Md_duplicates_l2 v1 0 μ Q
theorem i_Md_duplicates_l2 {v1 : Int} {μ : Mem} {Q : Bool → Prop} {Inv : Int → Prop} (f : Int → Nat) (hi : ∀ (v2 : Int), Inv v2 → ∀ W : Int → Prop, (∀ (v2' : Int), Inv v2' → f v2' < f v2 → W v2') → d_Md_duplicates_b2 v1 v2 μ W Q) : ∀ (v2 : Int), Inv v2 → d_Md_duplicates_l2 v1 v2 μ Q := by
  intro v2 hI W hW
  have key : ∀ (n : Nat) (v2 : Int), f v2 = n → Inv v2 → W v2 := by
    intro n
    induction n using Nat.strongRecOn with
    | _ n ih =>
      intro v2 hf hI
      exact hW _ (hi v2 hI W fun v2' hI' hl => ih _ (by omega) v2' rfl hI')
  exact key _ v2 rfl hI
def d_Md_isDuplicating (v1 : Int) (μ : Mem) (Q : Bool → Mem → Prop) : Prop := d_Md_mayRule v1 μ (fun r1 μ2 => if r1 = true then (d_Md_duplicates v1 μ2 (fun r3 => if r3 = true then (Q true μ2) else (Q false μ2))) else (Q false μ2))
def d_Md_decreasesSize (v1 : Int) (μ : Mem) (Q : Bool → Mem → Prop) : Prop := d_Md_mayRule v1 μ (fun r1 μ2 => if r1 = true then (d_Md_ofRule v1 1 μ2 (fun r3 => d_Md_ofRule v1 0 μ2 (fun r5 => if r3 < r5 then (d_Md_duplicates v1 μ2 (fun r7 => if r7 = true then (Q false μ2) else (Q true μ2))) else (Q false μ2)))) else (Q false μ2))
def d_Md_termCount (μ : Mem) (Q : Int → Mem → Prop) : Prop := d_Md_look 2 μ (fun r1 μ2 => Q r1 μ2)
def d_Md_isTerm (v1 : Int) (μ : Mem) (Q : Bool → Prop) : Prop := if μ 772 6 = 0 then (Q false) else (d_Md_in v1 0 (wr ((μ 773 2) - 1)) μ (fun r1 => if r1 = true then (Q true) else (Q false)))
def d_Md_mayTerm (v1 : Int) (μ : Mem) (Q : Bool → Mem → Prop) : Prop := d_Md_isTerm v1 μ (fun r1 => d_Md_mayTwo (μ 772 6) (b2i r1) μ (fun r3 μ4 => Q r3 μ4))
def d_Md_termSize (v1 : Int) (μ : Mem) (Q : Int → Mem → Prop) : Prop := d_Md_mayTerm v1 μ (fun r1 μ2 => if r1 = true then (d_Md_sizeOf v1 μ2 (fun r3 => Q r3 μ2)) else (Q 0 μ2))
def d_Md_nodeOf (v1 : Int) (v2 : Int) (μ : Mem) (Q : Int → Prop) : Prop := (0 ≤ wr ((wr ((wr (223 + (wr (81 * v1)))) + 1)) + v2) ∧ wr ((wr ((wr (223 + (wr (81 * v1)))) + 1)) + v2) < 709) ∧ Q (μ 773 (wr ((wr ((wr (223 + (wr (81 * v1)))) + 1)) + v2)).toNat)
def d_Md_termDepth_j109 (v1 : Int) (v2 : Int) (v3 : Int) (v4 : Int) (μ : Mem) (W17 : Int → Int → Int → Mem → Prop) (Q : Int → Mem → Prop) : Prop := W17 v2 v3 (wr (v4 + 1)) μ
def d_Md_termDepth_j64 (v1 : Int) (v2 : Int) (v3 : Int) (v4 : Int) (μ : Mem) (W17 : Int → Int → Int → Mem → Prop) (Q : Int → Mem → Prop) : Prop := d_Math_max v2 (wr (v3 + 1)) μ (fun r5 => d_Md_nodeOf v1 v4 μ (fun r7 => d_Md_arityOf r7 μ (fun r9 => if r9 = 0 then (d_Md_termDepth_j109 v1 r5 v3 v4 μ W17 Q) else (d_Md_nodeOf v1 v4 μ (fun r11 => d_Md_arityOf r11 μ (fun r13 => (0 ≤ v3 ∧ v3 < 81) ∧ d_Md_termDepth_j109 v1 r5 (wr (v3 + 1)) v4 (mup μ 779 v3.toNat r13) W17 Q))))))
def d_Md_termDepth_j48 (v1 : Int) (v2 : Int) (v3 : Int) (v4 : Int) (μ : Mem) (W17 : Int → Int → Int → Mem → Prop) (Q : Int → Mem → Prop) : Prop := if 0 < v3 then ((0 ≤ wr (v3 - 1) ∧ wr (v3 - 1) < 81) ∧ (0 ≤ wr (v3 - 1) ∧ wr (v3 - 1) < 81) ∧ d_Md_termDepth_j64 v1 v2 v3 v4 (mup μ 779 (wr (v3 - 1)).toNat (wr ((μ 779 (wr (v3 - 1)).toNat) - 1))) W17 Q) else (d_Md_termDepth_j64 v1 v2 v3 v4 μ W17 Q)
def d_Md_termDepth_b27 (v1 : Int) (v2 : Int) (v4 : Int) (v3 : Int) (μ : Mem) (W17 : Int → Int → Int → Mem → Prop) (W27 : Int → Prop) (Q : Int → Mem → Prop) : Prop := if 0 < v3 then ((0 ≤ wr (v3 - 1) ∧ wr (v3 - 1) < 81) ∧ if μ 779 (wr (v3 - 1)).toNat = 0 then (W27 (wr (v3 + (-1)))) else (d_Md_termDepth_j48 v1 v2 v3 v4 μ W17 Q)) else (d_Md_termDepth_j48 v1 v2 v3 v4 μ W17 Q)
def d_Md_termDepth_l27 (v1 : Int) (v2 : Int) (v4 : Int) (v3 : Int) (μ : Mem) (W17 : Int → Int → Int → Mem → Prop) (Q : Int → Mem → Prop) : Prop := ∀ W : Int → Prop, (∀ (v3 : Int), d_Md_termDepth_b27 v1 v2 v4 v3 μ W17 W Q → W v3) → W v3
def d_Md_termDepth_b17 (v1 : Int) (v2 : Int) (v3 : Int) (v4 : Int) (μ : Mem) (W17 : Int → Int → Int → Mem → Prop) (Q : Int → Mem → Prop) : Prop := d_Md_sizeOf v1 μ (fun r3 => if v4 < r3 then (d_Md_termDepth_l27 v1 v2 v4 v3 μ W17 Q) else (Q v2 μ))
def d_Md_termDepth_l17 (v1 : Int) (v2 : Int) (v3 : Int) (v4 : Int) (μ : Mem) (Q : Int → Mem → Prop) : Prop := ∀ W : Int → Int → Int → Mem → Prop, (∀ (v2 : Int) (v3 : Int) (v4 : Int) (μ : Mem), d_Md_termDepth_b17 v1 v2 v3 v4 μ W Q → W v2 v3 v4 μ) → W v2 v3 v4 μ
def d_Md_termDepth (v1 : Int) (μ : Mem) (Q : Int → Mem → Prop) : Prop := d_Md_mayTerm v1 μ (fun r1 μ2 => if r1 = true then (d_Md_termDepth_l17 v1 0 0 0 μ2 Q) else (Q 0 μ2))
theorem i_Md_termDepth_l27 {v1 : Int} {v2 : Int} {v4 : Int} {μ : Mem} {W17 : Int → Int → Int → Mem → Prop} {Q : Int → Mem → Prop} {Inv : Int → Prop} (f : Int → Nat) (hi : ∀ (v3 : Int), Inv v3 → ∀ W : Int → Prop, (∀ (v3' : Int), Inv v3' → f v3' < f v3 → W v3') → d_Md_termDepth_b27 v1 v2 v4 v3 μ W17 W Q) : ∀ (v3 : Int), Inv v3 → d_Md_termDepth_l27 v1 v2 v4 v3 μ W17 Q := by
  intro v3 hI W hW
  have key : ∀ (n : Nat) (v3 : Int), f v3 = n → Inv v3 → W v3 := by
    intro n
    induction n using Nat.strongRecOn with
    | _ n ih =>
      intro v3 hf hI
      exact hW _ (hi v3 hI W fun v3' hI' hl => ih _ (by omega) v3' rfl hI')
  exact key _ v3 rfl hI
theorem i_Md_termDepth_l17 {v1 : Int} {Q : Int → Mem → Prop} {Inv : Int → Int → Int → Mem → Prop} (f : Int → Int → Int → Mem → Nat) (hi : ∀ (v2 : Int) (v3 : Int) (v4 : Int) (μ : Mem), Inv v2 v3 v4 μ → ∀ W : Int → Int → Int → Mem → Prop, (∀ (v2' : Int) (v3' : Int) (v4' : Int) (μ' : Mem), Inv v2' v3' v4' μ' → f v2' v3' v4' μ' < f v2 v3 v4 μ → W v2' v3' v4' μ') → d_Md_termDepth_b17 v1 v2 v3 v4 μ W Q) : ∀ (v2 : Int) (v3 : Int) (v4 : Int) (μ : Mem), Inv v2 v3 v4 μ → d_Md_termDepth_l17 v1 v2 v3 v4 μ Q := by
  intro v2 v3 v4 μ hI W hW
  have key : ∀ (n : Nat) (v2 : Int) (v3 : Int) (v4 : Int) (μ : Mem), f v2 v3 v4 μ = n → Inv v2 v3 v4 μ → W v2 v3 v4 μ := by
    intro n
    induction n using Nat.strongRecOn with
    | _ n ih =>
      intro v2 v3 v4 μ hf hI
      exact hW _ _ _ _ (hi v2 v3 v4 μ hI W fun v2' v3' v4' μ' hI' hl => ih _ (by omega) v2' v3' v4' μ' rfl hI')
  exact key _ v2 v3 v4 μ rfl hI
def d_Md_isPosition (v1 : Int) (v2 : Int) (μ : Mem) (Q : Bool → Prop) : Prop := d_Md_isTerm v1 μ (fun r1 => if r1 = true then (d_Md_sizeOf v1 μ (fun r3 => d_Md_in v2 0 (wr (r3 - 1)) μ (fun r5 => if r5 = true then (Q true) else (Q false)))) else (Q false))
def d_Md_mayPosition (v1 : Int) (v2 : Int) (μ : Mem) (Q : Bool → Mem → Prop) : Prop := d_Md_isPosition v1 v2 μ (fun r1 => d_Md_mayTwo (μ 772 6) (b2i r1) μ (fun r3 μ4 => Q r3 μ4))
def d_Md_symbolAt (v1 : Int) (v2 : Int) (μ : Mem) (Q : Int → Mem → Prop) : Prop := d_Md_mayPosition v1 v2 μ (fun r1 μ2 => if r1 = true then (d_Md_nodeOf v1 v2 μ2 (fun r3 => if r3 < 100 then (d_Md_nodeOf v1 v2 μ2 (fun r5 => Q r5 μ2)) else (Q (-1) μ2))) else (Q 0 μ2))
def d_Md_variableAt (v1 : Int) (v2 : Int) (μ : Mem) (Q : Int → Mem → Prop) : Prop := d_Md_mayPosition v1 v2 μ (fun r1 μ2 => if r1 = true then (d_Md_nodeOf v1 v2 μ2 (fun r3 => if r3 < 100 then (Q (-1) μ2) else (d_Md_nodeOf v1 v2 μ2 (fun r5 => Q (wr (r5 - 100)) μ2)))) else (Q 0 μ2))
def d_Md_subtermSize (v1 : Int) (v2 : Int) (μ : Mem) (Q : Int → Mem → Prop) : Prop := d_Md_mayPosition v1 v2 μ (fun r1 μ2 => if r1 = true then (d_Md_lends v1 μ2 (fun μ4 => d_Md_behind 780 v2 μ4 (fun r5 => Q (wr (r5 - v2)) μ4))) else (Q 0 μ2))
def d_Md_isGround_b12 (v1 : Int) (v2 : Int) (μ : Mem) (W12 : Int → Prop) (Q : Bool → Mem → Prop) : Prop := d_Md_sizeOf v1 μ (fun r3 => if v2 < r3 then (d_Md_nodeOf v1 v2 μ (fun r5 => if r5 < 100 then (W12 (wr (v2 + 1))) else (Q false μ))) else (Q true μ))
def d_Md_isGround_l12 (v1 : Int) (v2 : Int) (μ : Mem) (Q : Bool → Mem → Prop) : Prop := ∀ W : Int → Prop, (∀ (v2 : Int), d_Md_isGround_b12 v1 v2 μ W Q → W v2) → W v2
def d_Md_isGround (v1 : Int) (μ : Mem) (Q : Bool → Mem → Prop) : Prop := d_Md_mayTerm v1 μ (fun r1 μ2 => if r1 = true then (d_Md_isGround_l12 v1 0 μ2 Q) else (Q false μ2))
theorem i_Md_isGround_l12 {v1 : Int} {μ : Mem} {Q : Bool → Mem → Prop} {Inv : Int → Prop} (f : Int → Nat) (hi : ∀ (v2 : Int), Inv v2 → ∀ W : Int → Prop, (∀ (v2' : Int), Inv v2' → f v2' < f v2 → W v2') → d_Md_isGround_b12 v1 v2 μ W Q) : ∀ (v2 : Int), Inv v2 → d_Md_isGround_l12 v1 v2 μ Q := by
  intro v2 hI W hW
  have key : ∀ (n : Nat) (v2 : Int), f v2 = n → Inv v2 → W v2 := by
    intro n
    induction n using Nat.strongRecOn with
    | _ n ih =>
      intro v2 hf hI
      exact hW _ (hi v2 hI W fun v2' hI' hl => ih _ (by omega) v2' rfl hI')
  exact key _ v2 rfl hI
def d_Md_mayTerms_j26 (t1 : Int) (t2 : Int) (μ : Mem) (Q : Bool → Mem → Prop) : Prop := d_Md_mayTwo t1 t2 μ (fun r5 μ6 => Q r5 μ6)
def d_Md_mayTerms_j25 (t1 : Int) (μ : Mem) (Q : Bool → Mem → Prop) : Prop := d_Md_mayTerms_j26 t1 0 μ Q
def d_Md_mayTerms (v1 : Int) (v2 : Int) (μ : Mem) (Q : Bool → Mem → Prop) : Prop := d_Md_isTerm v1 μ (fun r1 => if r1 = true then (d_Md_isTerm v2 μ (fun r3 => if r3 = true then (d_Md_mayTerms_j26 (μ 772 6) 1 μ Q) else (d_Md_mayTerms_j25 (μ 772 6) μ Q))) else (d_Md_mayTerms_j25 (μ 772 6) μ Q))
def d_Md_keeps (μ : Mem) (Q : Mem → Prop) : Prop := d_Md_lays 780 0 782 0 ((mup μ 772 27 (μ 772 25)) 772 25) (mup μ 772 27 (μ 772 25)) (fun μ2 => Q μ2)
def d_Md_isKept_b15 (v1 : Int) (μ : Mem) (W15 : Int → Prop) (Q : Bool → Prop) : Prop := if v1 < μ 772 25 then ((0 ≤ v1 ∧ v1 < 80) ∧ (0 ≤ v1 ∧ v1 < 80) ∧ if μ 782 v1.toNat = μ 780 v1.toNat then (W15 (wr (v1 + 1))) else (Q false)) else (Q true)
def d_Md_isKept_l15 (v1 : Int) (μ : Mem) (Q : Bool → Prop) : Prop := ∀ W : Int → Prop, (∀ (v1 : Int), d_Md_isKept_b15 v1 μ W Q → W v1) → W v1
def d_Md_isKept (μ : Mem) (Q : Bool → Prop) : Prop := if μ 772 27 = μ 772 25 then (d_Md_isKept_l15 0 μ Q) else (Q false)
theorem i_Md_isKept_l15 {μ : Mem} {Q : Bool → Prop} {Inv : Int → Prop} (f : Int → Nat) (hi : ∀ (v1 : Int), Inv v1 → ∀ W : Int → Prop, (∀ (v1' : Int), Inv v1' → f v1' < f v1 → W v1') → d_Md_isKept_b15 v1 μ W Q) : ∀ (v1 : Int), Inv v1 → d_Md_isKept_l15 v1 μ Q := by
  intro v1 hI W hW
  have key : ∀ (n : Nat) (v1 : Int), f v1 = n → Inv v1 → W v1 := by
    intro n
    induction n using Nat.strongRecOn with
    | _ n ih =>
      intro v1 hf hI
      exact hW _ (hi v1 hI W fun v1' hI' hl => ih _ (by omega) v1' rfl hI')
  exact key _ v1 rfl hI
def d_Md_areEqual (v1 : Int) (v2 : Int) (μ : Mem) (Q : Bool → Mem → Prop) : Prop := d_Md_mayTerms v1 v2 μ (fun r1 μ2 => if r1 = true then (d_Md_lends v1 μ2 (fun μ4 => d_Md_keeps μ4 (fun μ6 => d_Md_lends v2 μ6 (fun μ8 => d_Md_isKept μ8 (fun r9 => Q r9 μ8))))) else (Q false μ2))
def d_Md_averageSize_b13 (v1 : Int) (v2 : Int) (μ : Mem) (W13 : Int → Int → Prop) (Q : UInt64 → Mem → Prop) : Prop := if v2 < μ 773 2 then (d_Md_sizeOf v2 μ (fun r3 => W13 (wr (v1 + r3)) (wr (v2 + 1)))) else (if μ 773 2 = 0 then (Q (FP.dconst0) μ) else (jnan64 (FP.ddiv (FP.i2d (Int32.ofInt v1)) (FP.i2d (Int32.ofInt (μ 773 2)))) = true ∧ Q (FP.ddiv (FP.i2d (Int32.ofInt v1)) (FP.i2d (Int32.ofInt (μ 773 2)))) μ))
def d_Md_averageSize_l13 (v1 : Int) (v2 : Int) (μ : Mem) (Q : UInt64 → Mem → Prop) : Prop := ∀ W : Int → Int → Prop, (∀ (v1 : Int) (v2 : Int), d_Md_averageSize_b13 v1 v2 μ W Q → W v1 v2) → W v1 v2
def d_Md_averageSize (μ : Mem) (Q : UInt64 → Mem → Prop) : Prop := d_Md_mayLook μ (fun r1 μ2 => if r1 = true then (d_Md_averageSize_l13 0 0 μ2 Q) else (Q (FP.dconst0) μ2))
theorem i_Md_averageSize_l13 {μ : Mem} {Q : UInt64 → Mem → Prop} {Inv : Int → Int → Prop} (f : Int → Int → Nat) (hi : ∀ (v1 : Int) (v2 : Int), Inv v1 v2 → ∀ W : Int → Int → Prop, (∀ (v1' : Int) (v2' : Int), Inv v1' v2' → f v1' v2' < f v1 v2 → W v1' v2') → d_Md_averageSize_b13 v1 v2 μ W Q) : ∀ (v1 : Int) (v2 : Int), Inv v1 v2 → d_Md_averageSize_l13 v1 v2 μ Q := by
  intro v1 v2 hI W hW
  have key : ∀ (n : Nat) (v1 : Int) (v2 : Int), f v1 v2 = n → Inv v1 v2 → W v1 v2 := by
    intro n
    induction n using Nat.strongRecOn with
    | _ n ih =>
      intro v1 v2 hf hI
      exact hW _ _ (hi v1 v2 hI W fun v1' v2' hI' hl => ih _ (by omega) v1' v2' rfl hI')
  exact key _ v1 v2 rfl hI
def d_Md_matches_j27 (v1 : Int) (v2 : Int) (v3 : Int) (t1 : Int) (t2 : Int) (μ : Mem) (Q : Bool → Mem → Prop) : Prop := d_Md_mayTwo t1 t2 μ (fun r5 μ6 => if r5 = true then (d_Md_lends v2 μ6 (fun μ8 => d_Md_matchesAt v1 v3 μ8 (fun r9 μ10 => Q r9 μ10))) else (Q false μ6))
def d_Md_matches_j26 (v1 : Int) (v2 : Int) (v3 : Int) (t1 : Int) (μ : Mem) (Q : Bool → Mem → Prop) : Prop := d_Md_matches_j27 v1 v2 v3 t1 0 μ Q
def d_Md_matches (v1 : Int) (v2 : Int) (v3 : Int) (μ : Mem) (Q : Bool → Mem → Prop) : Prop := d_Md_isRule v1 μ (fun r1 => if r1 = true then (d_Md_isPosition v2 v3 μ (fun r3 => if r3 = true then (d_Md_matches_j27 v1 v2 v3 (μ 772 6) 1 μ Q) else (d_Md_matches_j26 v1 v2 v3 (μ 772 6) μ Q))) else (d_Md_matches_j26 v1 v2 v3 (μ 772 6) μ Q))
def d_Md_ruleAt (v1 : Int) (v2 : Int) (μ : Mem) (Q : Int → Mem → Prop) : Prop := d_Md_mayPosition v1 v2 μ (fun r1 μ2 => if r1 = true then (d_Md_lends v1 μ2 (fun μ4 => d_Md_firstRule v2 μ4 (fun r5 μ6 => Q r5 μ6))) else (Q 0 μ2))
def d_Md_redexes_j27 (v2 : Int) (t0 : Int) (t1 : Int) (μ : Mem) (W4 : Int → Int → Mem → Prop) (Q : Int → Mem → Prop) : Prop := d_Md_one t1 μ (fun r3 => W4 (wr (t0 + r3)) (wr (v2 + 1)) μ)
def d_Md_redexes_b4 (v1 : Int) (v2 : Int) (μ : Mem) (W4 : Int → Int → Mem → Prop) (Q : Int → Mem → Prop) : Prop := if v2 < μ 772 25 then (d_Md_firstRule v2 μ (fun r1 μ2 => if r1 = (-1) then (d_Md_redexes_j27 v2 v1 0 μ2 W4 Q) else (d_Md_redexes_j27 v2 v1 1 μ2 W4 Q))) else (Q v1 μ)
def d_Md_redexes_l4 (v1 : Int) (v2 : Int) (μ : Mem) (Q : Int → Mem → Prop) : Prop := ∀ W : Int → Int → Mem → Prop, (∀ (v1 : Int) (v2 : Int) (μ : Mem), d_Md_redexes_b4 v1 v2 μ W Q → W v1 v2 μ) → W v1 v2 μ
def d_Md_redexes (μ : Mem) (Q : Int → Mem → Prop) : Prop := d_Md_redexes_l4 0 0 μ Q
theorem i_Md_redexes_l4 {Q : Int → Mem → Prop} {Inv : Int → Int → Mem → Prop} (f : Int → Int → Mem → Nat) (hi : ∀ (v1 : Int) (v2 : Int) (μ : Mem), Inv v1 v2 μ → ∀ W : Int → Int → Mem → Prop, (∀ (v1' : Int) (v2' : Int) (μ' : Mem), Inv v1' v2' μ' → f v1' v2' μ' < f v1 v2 μ → W v1' v2' μ') → d_Md_redexes_b4 v1 v2 μ W Q) : ∀ (v1 : Int) (v2 : Int) (μ : Mem), Inv v1 v2 μ → d_Md_redexes_l4 v1 v2 μ Q := by
  intro v1 v2 μ hI W hW
  have key : ∀ (n : Nat) (v1 : Int) (v2 : Int) (μ : Mem), f v1 v2 μ = n → Inv v1 v2 μ → W v1 v2 μ := by
    intro n
    induction n using Nat.strongRecOn with
    | _ n ih =>
      intro v1 v2 μ hf hI
      exact hW _ _ _ (hi v1 v2 μ hI W fun v1' v2' μ' hI' hl => ih _ (by omega) v1' v2' μ' rfl hI')
  exact key _ v1 v2 μ rfl hI
def d_Md_redexCount (v1 : Int) (μ : Mem) (Q : Int → Mem → Prop) : Prop := d_Md_mayTerm v1 μ (fun r1 μ2 => if r1 = true then (d_Md_lends v1 μ2 (fun μ4 => d_Md_redexes μ4 (fun r5 μ6 => Q r5 μ6))) else (Q 0 μ2))
def d_Md_innermostRedex (v1 : Int) (μ : Mem) (Q : Int → Mem → Prop) : Prop := d_Md_mayTerm v1 μ (fun r1 μ2 => if r1 = true then (d_Md_lends v1 μ2 (fun μ4 => d_Md_innermost μ4 (fun r5 μ6 => Q r5 μ6))) else (Q 0 μ2))
def d_Md_outermostRedex (v1 : Int) (μ : Mem) (Q : Int → Mem → Prop) : Prop := d_Md_mayTerm v1 μ (fun r1 μ2 => if r1 = true then (d_Md_lends v1 μ2 (fun μ4 => d_Md_outermost μ4 (fun r5 μ6 => Q r5 μ6))) else (Q 0 μ2))
def d_Md_isNormal (v1 : Int) (μ : Mem) (Q : Bool → Mem → Prop) : Prop := d_Md_lends v1 μ (fun μ2 => d_Md_outermost μ2 (fun r3 μ4 => if r3 = (-1) then (Q true μ4) else (Q false μ4)))
def d_Md_isNormalForm (v1 : Int) (μ : Mem) (Q : Bool → Mem → Prop) : Prop := d_Md_mayTerm v1 μ (fun r1 μ2 => if r1 = true then (d_Md_isNormal v1 μ2 (fun r3 μ4 => if r3 = true then (Q true μ4) else (Q false μ4))) else (Q false μ2))
def d_Md_normalShare_b13 (v1 : Int) (v2 : Int) (μ : Mem) (W13 : Int → Int → Mem → Prop) (Q : UInt32 → Mem → Prop) : Prop := if v2 < μ 773 2 then (d_Md_isNormal v2 μ (fun r3 μ4 => d_Md_one (b2i r3) μ4 (fun r5 => W13 (wr (v1 + r5)) (wr (v2 + 1)) μ4))) else (if μ 773 2 = 0 then (Q (FP.fconst0) μ) else (jnan32 (FP.fdiv (FP.i2f (Int32.ofInt v1)) (FP.i2f (Int32.ofInt (μ 773 2)))) = true ∧ Q (FP.fdiv (FP.i2f (Int32.ofInt v1)) (FP.i2f (Int32.ofInt (μ 773 2)))) μ))
def d_Md_normalShare_l13 (v1 : Int) (v2 : Int) (μ : Mem) (Q : UInt32 → Mem → Prop) : Prop := ∀ W : Int → Int → Mem → Prop, (∀ (v1 : Int) (v2 : Int) (μ : Mem), d_Md_normalShare_b13 v1 v2 μ W Q → W v1 v2 μ) → W v1 v2 μ
def d_Md_normalShare (μ : Mem) (Q : UInt32 → Mem → Prop) : Prop := d_Md_mayLook μ (fun r1 μ2 => if r1 = true then (d_Md_normalShare_l13 0 0 μ2 Q) else (Q (FP.fconst0) μ2))
theorem i_Md_normalShare_l13 {Q : UInt32 → Mem → Prop} {Inv : Int → Int → Mem → Prop} (f : Int → Int → Mem → Nat) (hi : ∀ (v1 : Int) (v2 : Int) (μ : Mem), Inv v1 v2 μ → ∀ W : Int → Int → Mem → Prop, (∀ (v1' : Int) (v2' : Int) (μ' : Mem), Inv v1' v2' μ' → f v1' v2' μ' < f v1 v2 μ → W v1' v2' μ') → d_Md_normalShare_b13 v1 v2 μ W Q) : ∀ (v1 : Int) (v2 : Int) (μ : Mem), Inv v1 v2 μ → d_Md_normalShare_l13 v1 v2 μ Q := by
  intro v1 v2 μ hI W hW
  have key : ∀ (n : Nat) (v1 : Int) (v2 : Int) (μ : Mem), f v1 v2 μ = n → Inv v1 v2 μ → W v1 v2 μ := by
    intro n
    induction n using Nat.strongRecOn with
    | _ n ih =>
      intro v1 v2 μ hf hI
      exact hW _ _ _ (hi v1 v2 μ hI W fun v1' v2' μ' hI' hl => ih _ (by omega) v1' v2' μ' rfl hI')
  exact key _ v1 v2 μ rfl hI
def d_Md_reduces_b2 (v1 : Int) (v2 : Int) (v3 : Int) (μ : Mem) (W2 : Int → Mem → Prop) (Q : Int → Mem → Prop) : Prop := if v2 < v3 then (Q (-1) μ) else (d_Md_redex v1 μ (fun r1 μ2 => if r1 = (-1) then (Q v3 μ2) else (if v3 = v2 then (Q (-1) μ2) else (d_Md_stepsAt r1 μ2 (fun r3 μ4 => if r3 = true then (W2 (wr (v3 + 1)) μ4) else (Q (-1) μ4))))))
def d_Md_reduces_l2 (v1 : Int) (v2 : Int) (v3 : Int) (μ : Mem) (Q : Int → Mem → Prop) : Prop := ∀ W : Int → Mem → Prop, (∀ (v3 : Int) (μ : Mem), d_Md_reduces_b2 v1 v2 v3 μ W Q → W v3 μ) → W v3 μ
def d_Md_reduces (v1 : Int) (v2 : Int) (μ : Mem) (Q : Int → Mem → Prop) : Prop := d_Md_reduces_l2 v1 v2 0 μ Q
theorem i_Md_reduces_l2 {v1 : Int} {v2 : Int} {Q : Int → Mem → Prop} {Inv : Int → Mem → Prop} (f : Int → Mem → Nat) (hi : ∀ (v3 : Int) (μ : Mem), Inv v3 μ → ∀ W : Int → Mem → Prop, (∀ (v3' : Int) (μ' : Mem), Inv v3' μ' → f v3' μ' < f v3 μ → W v3' μ') → d_Md_reduces_b2 v1 v2 v3 μ W Q) : ∀ (v3 : Int) (μ : Mem), Inv v3 μ → d_Md_reduces_l2 v1 v2 v3 μ Q := by
  intro v3 μ hI W hW
  have key : ∀ (n : Nat) (v3 : Int) (μ : Mem), f v3 μ = n → Inv v3 μ → W v3 μ := by
    intro n
    induction n using Nat.strongRecOn with
    | _ n ih =>
      intro v3 μ hf hI
      exact hW _ _ (hi v3 μ hI W fun v3' μ' hI' hl => ih _ (by omega) v3' μ' rfl hI')
  exact key _ v3 μ rfl hI
def d_Md_stepsOf (v1 : Int) (v2 : Int) (μ : Mem) (Q : Int → Mem → Prop) : Prop := d_Md_lends v1 μ (fun μ2 => d_Md_reduces v2 200 μ2 (fun r3 μ4 => Q r3 μ4))
def d_Md_stepsInnermost (v1 : Int) (μ : Mem) (Q : Int → Mem → Prop) : Prop := d_Md_mayTerm v1 μ (fun r1 μ2 => if r1 = true then (d_Md_stepsOf v1 1 μ2 (fun r3 μ4 => Q r3 μ4)) else (Q 0 μ2))
def d_Md_stepsOutermost (v1 : Int) (μ : Mem) (Q : Int → Mem → Prop) : Prop := d_Md_mayTerm v1 μ (fun r1 μ2 => if r1 = true then (d_Md_stepsOf v1 0 μ2 (fun r3 μ4 => Q r3 μ4)) else (Q 0 μ2))
def d_Md_normalFormSize (v1 : Int) (μ : Mem) (Q : Int → Mem → Prop) : Prop := d_Md_mayTerm v1 μ (fun r1 μ2 => if r1 = true then (d_Md_stepsOf v1 1 μ2 (fun r3 μ4 => if r3 = (-1) then (Q (-1) μ4) else (Q (μ4 772 25) μ4))) else (Q 0 μ2))
def d_Md_haveSameNormalForm (v1 : Int) (v2 : Int) (μ : Mem) (Q : Bool → Mem → Prop) : Prop := d_Md_mayTerms v1 v2 μ (fun r1 μ2 => if r1 = true then (d_Md_stepsOf v1 1 μ2 (fun r3 μ4 => if r3 = (-1) then (Q false μ4) else (d_Md_keeps μ4 (fun μ6 => d_Md_stepsOf v2 1 μ6 (fun r7 μ8 => if r7 = (-1) then (Q false μ8) else (d_Md_isKept μ8 (fun r9 => if r9 = true then (Q true μ8) else (Q false μ8)))))))) else (Q false μ2))
def d_Md_empties_b7 (v1 : Int) (μ : Mem) (W7 : Int → Mem → Prop) (Q : Mem → Prop) : Prop := if v1 < 16 then ((0 ≤ v1 ∧ v1 < 16) ∧ W7 (wr (v1 + 1)) (mup μ 785 v1.toNat (-1))) else (Q μ)
def d_Md_empties_l7 (v1 : Int) (μ : Mem) (Q : Mem → Prop) : Prop := ∀ W : Int → Mem → Prop, (∀ (v1 : Int) (μ : Mem), d_Md_empties_b7 v1 μ W Q → W v1 μ) → W v1 μ
def d_Md_empties (μ : Mem) (Q : Mem → Prop) : Prop := d_Md_empties_l7 0 (mup μ 772 35 0) Q
theorem i_Md_empties_l7 {Q : Mem → Prop} {Inv : Int → Mem → Prop} (f : Int → Mem → Nat) (hi : ∀ (v1 : Int) (μ : Mem), Inv v1 μ → ∀ W : Int → Mem → Prop, (∀ (v1' : Int) (μ' : Mem), Inv v1' μ' → f v1' μ' < f v1 μ → W v1' μ') → d_Md_empties_b7 v1 μ W Q) : ∀ (v1 : Int) (μ : Mem), Inv v1 μ → d_Md_empties_l7 v1 μ Q := by
  intro v1 μ hI W hW
  have key : ∀ (n : Nat) (v1 : Int) (μ : Mem), f v1 μ = n → Inv v1 μ → W v1 μ := by
    intro n
    induction n using Nat.strongRecOn with
    | _ n ih =>
      intro v1 μ hf hI
      exact hW _ _ (hi v1 μ hI W fun v1' μ' hI' hl => ih _ (by omega) v1' μ' rfl hI')
  exact key _ v1 μ rfl hI
def d_Md_pools_j58 (v1 : Int) (v2 : Int) (v3 : Int) (v4 : Int) (v5 : Int) (t1 : Int) (t2 : Int) (μ : Mem) (W9 : Int → Mem → Prop) (Q : Int → Mem → Prop) : Prop := (0 ≤ t1 ∧ t1 < 400) ∧ W9 (wr (v5 + 1)) (mup (mup μ 784 t1.toNat t2) 772 35 (wr (((mup μ 784 t1.toNat t2) 772 35) + 1)))
def d_Md_pools_j56 (v1 : Int) (v2 : Int) (v3 : Int) (v4 : Int) (v5 : Int) (v6 : Int) (t1 : Int) (μ : Mem) (W9 : Int → Mem → Prop) (Q : Int → Mem → Prop) : Prop := d_Md_pools_j58 v1 v2 v3 v4 v5 t1 v6 μ W9 Q
def d_Md_pools_b9 (v1 : Int) (v2 : Int) (v3 : Int) (v4 : Int) (v5 : Int) (μ : Mem) (W9 : Int → Mem → Prop) (Q : Int → Mem → Prop) : Prop := if v5 < v2 then ((0 ≤ wr (v1 + v5) ∧ wr (v1 + v5) < 709) ∧ if μ 773 (wr (v1 + v5)).toNat < 100 then (d_Md_pools_j56 v1 v2 v3 v4 v5 (μ 773 (wr (v1 + v5)).toNat) (μ 772 35) μ W9 Q) else (if v3 = 0 then (d_Md_pools_j56 v1 v2 v3 v4 v5 (μ 773 (wr (v1 + v5)).toNat) (μ 772 35) μ W9 Q) else (d_Md_pools_j58 v1 v2 v3 v4 v5 (μ 772 35) (wr ((wr ((μ 773 (wr (v1 + v5)).toNat) - 100)) + 108)) μ W9 Q))) else (Q v4 μ)
def d_Md_pools_l9 (v1 : Int) (v2 : Int) (v3 : Int) (v4 : Int) (v5 : Int) (μ : Mem) (Q : Int → Mem → Prop) : Prop := ∀ W : Int → Mem → Prop, (∀ (v5 : Int) (μ : Mem), d_Md_pools_b9 v1 v2 v3 v4 v5 μ W Q → W v5 μ) → W v5 μ
def d_Md_pools (v1 : Int) (v2 : Int) (v3 : Int) (μ : Mem) (Q : Int → Mem → Prop) : Prop := d_Md_pools_l9 v1 v2 v3 (μ 772 35) 0 μ Q
theorem i_Md_pools_l9 {v1 : Int} {v2 : Int} {v3 : Int} {v4 : Int} {Q : Int → Mem → Prop} {Inv : Int → Mem → Prop} (f : Int → Mem → Nat) (hi : ∀ (v5 : Int) (μ : Mem), Inv v5 μ → ∀ W : Int → Mem → Prop, (∀ (v5' : Int) (μ' : Mem), Inv v5' μ' → f v5' μ' < f v5 μ → W v5' μ') → d_Md_pools_b9 v1 v2 v3 v4 v5 μ W Q) : ∀ (v5 : Int) (μ : Mem), Inv v5 μ → d_Md_pools_l9 v1 v2 v3 v4 v5 μ Q := by
  intro v5 μ hI W hW
  have key : ∀ (n : Nat) (v5 : Int) (μ : Mem), f v5 μ = n → Inv v5 μ → W v5 μ := by
    intro n
    induction n using Nat.strongRecOn with
    | _ n ih =>
      intro v5 μ hf hI
      exact hW _ _ (hi v5 μ hI W fun v5' μ' hI' hl => ih _ (by omega) v5' μ' rfl hI')
  exact key _ v5 μ rfl hI
def d_Md_owes (v1 : Int) (v2 : Int) (μ : Mem) (Q : Mem → Prop) : Prop := (0 ≤ μ 772 36 ∧ μ 772 36 < 4000) ∧ (0 ≤ (mup μ 786 (μ 772 36).toNat v1) 772 36 ∧ (mup μ 786 (μ 772 36).toNat v1) 772 36 < 4000) ∧ Q (mup (mup (mup μ 786 (μ 772 36).toNat v1) 787 ((mup μ 786 (μ 772 36).toNat v1) 772 36).toNat v2) 772 36 (wr (((mup (mup μ 786 (μ 772 36).toNat v1) 787 ((mup μ 786 (μ 772 36).toNat v1) 772 36).toNat v2) 772 36) + 1)))
def d_Md_ends_b2 (v2 : Int) (μ : Mem) (W2 : Int → Prop) (Q : Int → Prop) : Prop := (0 ≤ v2 ∧ v2 < 400) ∧ if μ 784 v2.toNat < 100 then (Q v2) else ((0 ≤ v2 ∧ v2 < 400) ∧ (0 ≤ wr ((μ 784 v2.toNat) - 100) ∧ wr ((μ 784 v2.toNat) - 100) < 16) ∧ if μ 785 (wr ((μ 784 v2.toNat) - 100)).toNat = (-1) then (Q v2) else ((0 ≤ v2 ∧ v2 < 400) ∧ (0 ≤ wr ((μ 784 v2.toNat) - 100) ∧ wr ((μ 784 v2.toNat) - 100) < 16) ∧ W2 (μ 785 (wr ((μ 784 v2.toNat) - 100)).toNat)))
def d_Md_ends_l2 (v2 : Int) (μ : Mem) (Q : Int → Prop) : Prop := ∀ W : Int → Prop, (∀ (v2 : Int), d_Md_ends_b2 v2 μ W Q → W v2) → W v2
def d_Md_ends (v1 : Int) (μ : Mem) (Q : Int → Prop) : Prop := d_Md_ends_l2 v1 μ Q
theorem i_Md_ends_l2 {μ : Mem} {Q : Int → Prop} {Inv : Int → Prop} (f : Int → Nat) (hi : ∀ (v2 : Int), Inv v2 → ∀ W : Int → Prop, (∀ (v2' : Int), Inv v2' → f v2' < f v2 → W v2') → d_Md_ends_b2 v2 μ W Q) : ∀ (v2 : Int), Inv v2 → d_Md_ends_l2 v2 μ Q := by
  intro v2 hI W hW
  have key : ∀ (n : Nat) (v2 : Int), f v2 = n → Inv v2 → W v2 := by
    intro n
    induction n using Nat.strongRecOn with
    | _ n ih =>
      intro v2 hf hI
      exact hW _ (hi v2 hI W fun v2' hI' hl => ih _ (by omega) v2' rfl hI')
  exact key _ v2 rfl hI
def d_Md_occurs_j176 (v1 : Int) (v3 : Int) (v5 : Int) (v6 : Int) (μ : Mem) (W30 : Int → Mem → Prop) (W61 : Int → Int → Mem → Prop) (Q : Bool → Mem → Prop) : Prop := W61 v3 (wr (v6 + 1)) μ
def d_Md_occurs_b61 (v1 : Int) (v5 : Int) (v3 : Int) (v6 : Int) (μ : Mem) (W30 : Int → Mem → Prop) (W61 : Int → Int → Mem → Prop) (Q : Bool → Mem → Prop) : Prop := if v6 < v5 then ((0 ≤ v6 ∧ v6 < 400) ∧ if μ 784 v6.toNat = v1 then (Q true μ) else ((0 ≤ v6 ∧ v6 < 400) ∧ if μ 784 v6.toNat < 100 then (d_Md_occurs_j176 v1 v3 v5 v6 μ W30 W61 Q) else ((0 ≤ v6 ∧ v6 < 400) ∧ (0 ≤ wr ((μ 784 v6.toNat) - 100) ∧ wr ((μ 784 v6.toNat) - 100) < 16) ∧ if μ 789 (wr ((μ 784 v6.toNat) - 100)).toNat = 0 then ((0 ≤ v6 ∧ v6 < 400) ∧ (0 ≤ wr ((μ 784 v6.toNat) - 100) ∧ wr ((μ 784 v6.toNat) - 100) < 16) ∧ (0 ≤ v6 ∧ v6 < 400) ∧ (0 ≤ wr (((mup μ 789 (wr ((μ 784 v6.toNat) - 100)).toNat 1) 784 v6.toNat) - 100) ∧ wr (((mup μ 789 (wr ((μ 784 v6.toNat) - 100)).toNat 1) 784 v6.toNat) - 100) < 16) ∧ if (mup μ 789 (wr ((μ 784 v6.toNat) - 100)).toNat 1) 785 (wr (((mup μ 789 (wr ((μ 784 v6.toNat) - 100)).toNat 1) 784 v6.toNat) - 100)).toNat = (-1) then (d_Md_occurs_j176 v1 v3 v5 v6 (mup μ 789 (wr ((μ 784 v6.toNat) - 100)).toNat 1) W30 W61 Q) else ((0 ≤ v6 ∧ v6 < 400) ∧ (0 ≤ wr (((mup μ 789 (wr ((μ 784 v6.toNat) - 100)).toNat 1) 784 v6.toNat) - 100) ∧ wr (((mup μ 789 (wr ((μ 784 v6.toNat) - 100)).toNat 1) 784 v6.toNat) - 100) < 16) ∧ (0 ≤ v3 ∧ v3 < 4000) ∧ d_Md_occurs_j176 v1 (wr (v3 + 1)) v5 v6 (mup (mup μ 789 (wr ((μ 784 v6.toNat) - 100)).toNat 1) 788 v3.toNat ((mup μ 789 (wr ((μ 784 v6.toNat) - 100)).toNat 1) 785 (wr (((mup μ 789 (wr ((μ 784 v6.toNat) - 100)).toNat 1) 784 v6.toNat) - 100)).toNat)) W30 W61 Q)) else (d_Md_occurs_j176 v1 v3 v5 v6 μ W30 W61 Q)))) else (W30 v3 μ)
def d_Md_occurs_l61 (v1 : Int) (v5 : Int) (v3 : Int) (v6 : Int) (μ : Mem) (W30 : Int → Mem → Prop) (Q : Bool → Mem → Prop) : Prop := ∀ W : Int → Int → Mem → Prop, (∀ (v3 : Int) (v6 : Int) (μ : Mem), d_Md_occurs_b61 v1 v5 v3 v6 μ W30 W Q → W v3 v6 μ) → W v3 v6 μ
def d_Md_occurs_b30 (v1 : Int) (v3 : Int) (μ : Mem) (W30 : Int → Mem → Prop) (Q : Bool → Mem → Prop) : Prop := if 0 < v3 then ((0 ≤ wr (v3 + (-1)) ∧ wr (v3 + (-1)) < 4000) ∧ d_Md_behind 784 (μ 788 (wr (v3 + (-1))).toNat) μ (fun r1 => d_Md_occurs_l61 v1 r1 (wr (v3 + (-1))) (μ 788 (wr (v3 + (-1))).toNat) μ W30 Q)) else (Q false μ)
def d_Md_occurs_l30 (v1 : Int) (v3 : Int) (μ : Mem) (Q : Bool → Mem → Prop) : Prop := ∀ W : Int → Mem → Prop, (∀ (v3 : Int) (μ : Mem), d_Md_occurs_b30 v1 v3 μ W Q → W v3 μ) → W v3 μ
def d_Md_occurs_b2 (v1 : Int) (v2 : Int) (v3 : Int) (μ : Mem) (W2 : Int → Mem → Prop) (Q : Bool → Mem → Prop) : Prop := if v3 < 16 then ((0 ≤ v3 ∧ v3 < 16) ∧ W2 (wr (v3 + 1)) (mup μ 789 v3.toNat 0)) else (d_Md_occurs_l30 v1 1 (mup μ 788 0 v2) Q)
def d_Md_occurs_l2 (v1 : Int) (v2 : Int) (v3 : Int) (μ : Mem) (Q : Bool → Mem → Prop) : Prop := ∀ W : Int → Mem → Prop, (∀ (v3 : Int) (μ : Mem), d_Md_occurs_b2 v1 v2 v3 μ W Q → W v3 μ) → W v3 μ
def d_Md_occurs (v1 : Int) (v2 : Int) (μ : Mem) (Q : Bool → Mem → Prop) : Prop := d_Md_occurs_l2 v1 v2 0 μ Q
theorem i_Md_occurs_l61 {v1 : Int} {v5 : Int} {W30 : Int → Mem → Prop} {Q : Bool → Mem → Prop} {Inv : Int → Int → Mem → Prop} (f : Int → Int → Mem → Nat) (hi : ∀ (v3 : Int) (v6 : Int) (μ : Mem), Inv v3 v6 μ → ∀ W : Int → Int → Mem → Prop, (∀ (v3' : Int) (v6' : Int) (μ' : Mem), Inv v3' v6' μ' → f v3' v6' μ' < f v3 v6 μ → W v3' v6' μ') → d_Md_occurs_b61 v1 v5 v3 v6 μ W30 W Q) : ∀ (v3 : Int) (v6 : Int) (μ : Mem), Inv v3 v6 μ → d_Md_occurs_l61 v1 v5 v3 v6 μ W30 Q := by
  intro v3 v6 μ hI W hW
  have key : ∀ (n : Nat) (v3 : Int) (v6 : Int) (μ : Mem), f v3 v6 μ = n → Inv v3 v6 μ → W v3 v6 μ := by
    intro n
    induction n using Nat.strongRecOn with
    | _ n ih =>
      intro v3 v6 μ hf hI
      exact hW _ _ _ (hi v3 v6 μ hI W fun v3' v6' μ' hI' hl => ih _ (by omega) v3' v6' μ' rfl hI')
  exact key _ v3 v6 μ rfl hI
theorem i_Md_occurs_l30 {v1 : Int} {Q : Bool → Mem → Prop} {Inv : Int → Mem → Prop} (f : Int → Mem → Nat) (hi : ∀ (v3 : Int) (μ : Mem), Inv v3 μ → ∀ W : Int → Mem → Prop, (∀ (v3' : Int) (μ' : Mem), Inv v3' μ' → f v3' μ' < f v3 μ → W v3' μ') → d_Md_occurs_b30 v1 v3 μ W Q) : ∀ (v3 : Int) (μ : Mem), Inv v3 μ → d_Md_occurs_l30 v1 v3 μ Q := by
  intro v3 μ hI W hW
  have key : ∀ (n : Nat) (v3 : Int) (μ : Mem), f v3 μ = n → Inv v3 μ → W v3 μ := by
    intro n
    induction n using Nat.strongRecOn with
    | _ n ih =>
      intro v3 μ hf hI
      exact hW _ _ (hi v3 μ hI W fun v3' μ' hI' hl => ih _ (by omega) v3' μ' rfl hI')
  exact key _ v3 μ rfl hI
theorem i_Md_occurs_l2 {v1 : Int} {v2 : Int} {Q : Bool → Mem → Prop} {Inv : Int → Mem → Prop} (f : Int → Mem → Nat) (hi : ∀ (v3 : Int) (μ : Mem), Inv v3 μ → ∀ W : Int → Mem → Prop, (∀ (v3' : Int) (μ' : Mem), Inv v3' μ' → f v3' μ' < f v3 μ → W v3' μ') → d_Md_occurs_b2 v1 v2 v3 μ W Q) : ∀ (v3 : Int) (μ : Mem), Inv v3 μ → d_Md_occurs_l2 v1 v2 v3 μ Q := by
  intro v3 μ hI W hW
  have key : ∀ (n : Nat) (v3 : Int) (μ : Mem), f v3 μ = n → Inv v3 μ → W v3 μ := by
    intro n
    induction n using Nat.strongRecOn with
    | _ n ih =>
      intro v3 μ hf hI
      exact hW _ _ (hi v3 μ hI W fun v3' μ' hI' hl => ih _ (by omega) v3' μ' rfl hI')
  exact key _ v3 μ rfl hI
def d_Md_means (v1 : Int) (v2 : Int) (μ : Mem) (Q : Bool → Mem → Prop) : Prop := (0 ≤ v1 ∧ v1 < 400) ∧ d_Md_occurs (μ 784 v1.toNat) v2 μ (fun r1 μ2 => if r1 = true then (Q false μ2) else ((0 ≤ v1 ∧ v1 < 400) ∧ (0 ≤ wr ((μ2 784 v1.toNat) - 100) ∧ wr ((μ2 784 v1.toNat) - 100) < 16) ∧ Q true (mup μ2 785 (wr ((μ2 784 v1.toNat) - 100)).toNat v2)))
def d_Md_owesArguments_b21 (v3 : Int) (v4 : Int) (v5 : Int) (μ : Mem) (W21 : Int → Int → Int → Mem → Prop) (Q : Mem → Prop) : Prop := if 0 < v5 then (d_Md_owes v3 v4 μ (fun μ4 => d_Md_behind 784 v3 μ4 (fun r5 => d_Md_behind 784 v4 μ4 (fun r7 => W21 r5 r7 (wr (v5 + (-1))) μ4)))) else (Q μ)
def d_Md_owesArguments_l21 (v3 : Int) (v4 : Int) (v5 : Int) (μ : Mem) (Q : Mem → Prop) : Prop := ∀ W : Int → Int → Int → Mem → Prop, (∀ (v3 : Int) (v4 : Int) (v5 : Int) (μ : Mem), d_Md_owesArguments_b21 v3 v4 v5 μ W Q → W v3 v4 v5 μ) → W v3 v4 v5 μ
def d_Md_owesArguments (v1 : Int) (v2 : Int) (μ : Mem) (Q : Mem → Prop) : Prop := (0 ≤ v1 ∧ v1 < 400) ∧ d_Md_arityOf (μ 784 v1.toNat) μ (fun r1 => d_Md_owesArguments_l21 (wr (v1 + 1)) (wr (v2 + 1)) r1 μ Q)
theorem i_Md_owesArguments_l21 {Q : Mem → Prop} {Inv : Int → Int → Int → Mem → Prop} (f : Int → Int → Int → Mem → Nat) (hi : ∀ (v3 : Int) (v4 : Int) (v5 : Int) (μ : Mem), Inv v3 v4 v5 μ → ∀ W : Int → Int → Int → Mem → Prop, (∀ (v3' : Int) (v4' : Int) (v5' : Int) (μ' : Mem), Inv v3' v4' v5' μ' → f v3' v4' v5' μ' < f v3 v4 v5 μ → W v3' v4' v5' μ') → d_Md_owesArguments_b21 v3 v4 v5 μ W Q) : ∀ (v3 : Int) (v4 : Int) (v5 : Int) (μ : Mem), Inv v3 v4 v5 μ → d_Md_owesArguments_l21 v3 v4 v5 μ Q := by
  intro v3 v4 v5 μ hI W hW
  have key : ∀ (n : Nat) (v3 : Int) (v4 : Int) (v5 : Int) (μ : Mem), f v3 v4 v5 μ = n → Inv v3 v4 v5 μ → W v3 v4 v5 μ := by
    intro n
    induction n using Nat.strongRecOn with
    | _ n ih =>
      intro v3 v4 v5 μ hf hI
      exact hW _ _ _ _ (hi v3 v4 v5 μ hI W fun v3' v4' v5' μ' hI' hl => ih _ (by omega) v3' v4' v5' μ' rfl hI')
  exact key _ v3 v4 v5 μ rfl hI
def d_Md_isEqualTo_j33 (v1 : Int) (v2 : Int) (μ : Mem) (Q : Bool → Mem → Prop) : Prop := (0 ≤ v1 ∧ v1 < 400) ∧ if μ 784 v1.toNat < 100 then ((0 ≤ v2 ∧ v2 < 400) ∧ if μ 784 v2.toNat < 100 then ((0 ≤ v1 ∧ v1 < 400) ∧ (0 ≤ v2 ∧ v2 < 400) ∧ if μ 784 v1.toNat = μ 784 v2.toNat then (d_Md_owesArguments v1 v2 μ (fun μ2 => Q true μ2)) else (Q false μ)) else (d_Md_means v2 v1 μ (fun r3 μ4 => Q r3 μ4))) else (d_Md_means v1 v2 μ (fun r5 μ6 => Q r5 μ6))
def d_Md_isEqualTo (v1 : Int) (v2 : Int) (μ : Mem) (Q : Bool → Mem → Prop) : Prop := if v1 = v2 then (Q true μ) else ((0 ≤ v1 ∧ v1 < 400) ∧ if μ 784 v1.toNat < 100 then (d_Md_isEqualTo_j33 v1 v2 μ Q) else ((0 ≤ v1 ∧ v1 < 400) ∧ (0 ≤ v2 ∧ v2 < 400) ∧ if μ 784 v1.toNat = μ 784 v2.toNat then (Q true μ) else (d_Md_isEqualTo_j33 v1 v2 μ Q)))
def d_Md_unifies_b11 (μ : Mem) (W11 : Mem → Prop) (Q : Bool → Mem → Prop) : Prop := if 0 < μ 772 36 then ((0 ≤ (mup μ 772 36 (wr ((μ 772 36) - 1))) 772 36 ∧ (mup μ 772 36 (wr ((μ 772 36) - 1))) 772 36 < 4000) ∧ d_Md_ends ((mup μ 772 36 (wr ((μ 772 36) - 1))) 786 ((mup μ 772 36 (wr ((μ 772 36) - 1))) 772 36).toNat) (mup μ 772 36 (wr ((μ 772 36) - 1))) (fun r3 => (0 ≤ (mup μ 772 36 (wr ((μ 772 36) - 1))) 772 36 ∧ (mup μ 772 36 (wr ((μ 772 36) - 1))) 772 36 < 4000) ∧ d_Md_ends ((mup μ 772 36 (wr ((μ 772 36) - 1))) 787 ((mup μ 772 36 (wr ((μ 772 36) - 1))) 772 36).toNat) (mup μ 772 36 (wr ((μ 772 36) - 1))) (fun r5 => d_Md_isEqualTo r3 r5 (mup μ 772 36 (wr ((μ 772 36) - 1))) (fun r7 μ8 => if r7 = true then (W11 μ8) else (Q false μ8))))) else (Q true μ)
def d_Md_unifies_l11 (μ : Mem) (Q : Bool → Mem → Prop) : Prop := ∀ W : Mem → Prop, (∀ (μ : Mem), d_Md_unifies_b11 μ W Q → W μ) → W μ
def d_Md_unifies (v1 : Int) (v2 : Int) (μ : Mem) (Q : Bool → Mem → Prop) : Prop := d_Md_owes v1 v2 (mup μ 772 36 0) (fun μ2 => d_Md_unifies_l11 μ2 Q)
theorem i_Md_unifies_l11 {Q : Bool → Mem → Prop} {Inv : Mem → Prop} (f : Mem → Nat) (hi : ∀ (μ : Mem), Inv μ → ∀ W : Mem → Prop, (∀ (μ' : Mem), Inv μ' → f μ' < f μ → W μ') → d_Md_unifies_b11 μ W Q) : ∀ (μ : Mem), Inv μ → d_Md_unifies_l11 μ Q := by
  intro μ hI W hW
  have key : ∀ (n : Nat) (μ : Mem), f μ = n → Inv μ → W μ := by
    intro n
    induction n using Nat.strongRecOn with
    | _ n ih =>
      intro μ hf hI
      exact hW _ (hi μ hI W fun μ' hI' hl => ih _ (by omega) μ' rfl hI')
  exact key _ μ rfl hI
def d_Md_unifiesTerms (v1 : Int) (v2 : Int) (μ : Mem) (Q : Bool → Mem → Prop) : Prop := d_Md_empties μ (fun μ2 => d_Md_sizeOf v1 μ2 (fun r3 => d_Md_pools (wr ((wr (223 + (wr (81 * v1)))) + 1)) r3 0 μ2 (fun r5 μ6 => d_Md_sizeOf v2 μ6 (fun r7 => d_Md_pools (wr ((wr (223 + (wr (81 * v2)))) + 1)) r7 1 μ6 (fun r9 μ10 => d_Md_unifies r5 r9 μ10 (fun r11 μ12 => Q r11 μ12))))))
def d_Md_unify (v1 : Int) (v2 : Int) (μ : Mem) (Q : Bool → Mem → Prop) : Prop := d_Md_mayTerms v1 v2 μ (fun r1 μ2 => if r1 = true then (d_Md_unifiesTerms v1 v2 μ2 (fun r3 μ4 => if r3 = true then (Q true μ4) else (Q false μ4))) else (Q false μ2))
def d_Md_buildsMeaning_b69 (v2 : Int) (v4 : Int) (v5 : Int) (v6 : Int) (μ : Mem) (W9 : Int → Mem → Prop) (W69 : Int → Int → Mem → Prop) (Q : Mem → Prop) : Prop := if v6 < 0 then (W9 (wr (v2 + v4)) μ) else ((0 ≤ wr (v2 + v6) ∧ wr (v2 + v6) < 4000) ∧ d_Md_behind 784 v5 (mup μ 788 (wr (v2 + v6)).toNat v5) (fun r7 => W69 r7 (wr (v6 + (-1))) (mup μ 788 (wr (v2 + v6)).toNat v5)))
def d_Md_buildsMeaning_l69 (v2 : Int) (v4 : Int) (v5 : Int) (v6 : Int) (μ : Mem) (W9 : Int → Mem → Prop) (Q : Mem → Prop) : Prop := ∀ W : Int → Int → Mem → Prop, (∀ (v5 : Int) (v6 : Int) (μ : Mem), d_Md_buildsMeaning_b69 v2 v4 v5 v6 μ W9 W Q → W v5 v6 μ) → W v5 v6 μ
def d_Md_buildsMeaning_b9 (v2 : Int) (μ : Mem) (W9 : Int → Mem → Prop) (Q : Mem → Prop) : Prop := if 0 < v2 then (if 80 < μ 772 26 then (Q μ) else ((0 ≤ wr (v2 + (-1)) ∧ wr (v2 + (-1)) < 4000) ∧ d_Md_ends (μ 788 (wr (v2 + (-1))).toNat) μ (fun r1 => (0 ≤ r1 ∧ r1 < 400) ∧ d_Md_builds (μ 784 r1.toNat) μ (fun μ4 => (0 ≤ r1 ∧ r1 < 400) ∧ d_Md_arityOf (μ4 784 r1.toNat) μ4 (fun r5 => d_Md_buildsMeaning_l69 (wr (v2 + (-1))) r5 (wr (r1 + 1)) (wr (r5 - 1)) μ4 W9 Q))))) else (Q μ)
def d_Md_buildsMeaning_l9 (v2 : Int) (μ : Mem) (Q : Mem → Prop) : Prop := ∀ W : Int → Mem → Prop, (∀ (v2 : Int) (μ : Mem), d_Md_buildsMeaning_b9 v2 μ W Q → W v2 μ) → W v2 μ
def d_Md_buildsMeaning (v1 : Int) (μ : Mem) (Q : Mem → Prop) : Prop := d_Md_buildsMeaning_l9 1 (mup μ 788 0 v1) Q
theorem i_Md_buildsMeaning_l69 {v2 : Int} {v4 : Int} {W9 : Int → Mem → Prop} {Q : Mem → Prop} {Inv : Int → Int → Mem → Prop} (f : Int → Int → Mem → Nat) (hi : ∀ (v5 : Int) (v6 : Int) (μ : Mem), Inv v5 v6 μ → ∀ W : Int → Int → Mem → Prop, (∀ (v5' : Int) (v6' : Int) (μ' : Mem), Inv v5' v6' μ' → f v5' v6' μ' < f v5 v6 μ → W v5' v6' μ') → d_Md_buildsMeaning_b69 v2 v4 v5 v6 μ W9 W Q) : ∀ (v5 : Int) (v6 : Int) (μ : Mem), Inv v5 v6 μ → d_Md_buildsMeaning_l69 v2 v4 v5 v6 μ W9 Q := by
  intro v5 v6 μ hI W hW
  have key : ∀ (n : Nat) (v5 : Int) (v6 : Int) (μ : Mem), f v5 v6 μ = n → Inv v5 v6 μ → W v5 v6 μ := by
    intro n
    induction n using Nat.strongRecOn with
    | _ n ih =>
      intro v5 v6 μ hf hI
      exact hW _ _ _ (hi v5 v6 μ hI W fun v5' v6' μ' hI' hl => ih _ (by omega) v5' v6' μ' rfl hI')
  exact key _ v5 v6 μ rfl hI
theorem i_Md_buildsMeaning_l9 {Q : Mem → Prop} {Inv : Int → Mem → Prop} (f : Int → Mem → Nat) (hi : ∀ (v2 : Int) (μ : Mem), Inv v2 μ → ∀ W : Int → Mem → Prop, (∀ (v2' : Int) (μ' : Mem), Inv v2' μ' → f v2' μ' < f v2 μ → W v2' μ') → d_Md_buildsMeaning_b9 v2 μ W Q) : ∀ (v2 : Int) (μ : Mem), Inv v2 μ → d_Md_buildsMeaning_l9 v2 μ Q := by
  intro v2 μ hI W hW
  have key : ∀ (n : Nat) (v2 : Int) (μ : Mem), f v2 μ = n → Inv v2 μ → W v2 μ := by
    intro n
    induction n using Nat.strongRecOn with
    | _ n ih =>
      intro v2 μ hf hI
      exact hW _ _ (hi v2 μ hI W fun v2' μ' hI' hl => ih _ (by omega) v2' μ' rfl hI')
  exact key _ v2 μ rfl hI
def d_Md_unifiedSize (v1 : Int) (v2 : Int) (μ : Mem) (Q : Int → Mem → Prop) : Prop := d_Md_mayTerms v1 v2 μ (fun r1 μ2 => if r1 = true then (d_Md_unifiesTerms v1 v2 μ2 (fun r3 μ4 => if r3 = true then (d_Md_buildsMeaning 0 (mup μ4 772 26 0) (fun μ6 => if 80 < μ6 772 26 then (Q (-1) μ6) else (Q (μ6 772 26) μ6))) else (Q (-1) μ4))) else (Q 0 μ2))
def d_Md_nameOf_j33 (v1 : Int) (μ : Mem) (Q : Int → Mem → Prop) : Prop := (0 ≤ v1 ∧ v1 < 16) ∧ Q (μ 793 v1.toNat) μ
def d_Md_nameOf (v1 : Int) (μ : Mem) (Q : Int → Mem → Prop) : Prop := (0 ≤ v1 ∧ v1 < 16) ∧ if μ 793 v1.toNat = (-1) then ((0 ≤ v1 ∧ v1 < 16) ∧ d_Md_nameOf_j33 v1 (mup (mup μ 793 v1.toNat (wr (100 + (μ 772 42)))) 772 42 (wr (((mup μ 793 v1.toNat (wr (100 + (μ 772 42)))) 772 42) + 1))) Q) else (d_Md_nameOf_j33 v1 μ Q)
def d_Md_keepsTerm_j63 (v1 : Int) (v2 : Int) (t1 : Int) (t2 : Int) (μ : Mem) (W12 : Int → Mem → Prop) (Q : Mem → Prop) : Prop := (0 ≤ t1 ∧ t1 < 3200) ∧ W12 (wr (v2 + 1)) (mup μ 792 t1.toNat t2)
def d_Md_keepsTerm_b12 (v1 : Int) (v2 : Int) (μ : Mem) (W12 : Int → Mem → Prop) (Q : Mem → Prop) : Prop := if v2 < μ 772 26 then ((0 ≤ v2 ∧ v2 < 80) ∧ if μ 781 v2.toNat < 100 then ((0 ≤ v2 ∧ v2 < 80) ∧ d_Md_keepsTerm_j63 v1 v2 (wr ((wr (v1 * 80)) + v2)) (μ 781 v2.toNat) μ W12 Q) else ((0 ≤ v2 ∧ v2 < 80) ∧ d_Md_nameOf (wr ((μ 781 v2.toNat) - 100)) μ (fun r1 μ2 => d_Md_keepsTerm_j63 v1 v2 (wr ((wr (v1 * 80)) + v2)) r1 μ2 W12 Q))) else (Q μ)
def d_Md_keepsTerm_l12 (v1 : Int) (v2 : Int) (μ : Mem) (Q : Mem → Prop) : Prop := ∀ W : Int → Mem → Prop, (∀ (v2 : Int) (μ : Mem), d_Md_keepsTerm_b12 v1 v2 μ W Q → W v2 μ) → W v2 μ
def d_Md_keepsTerm (v1 : Int) (μ : Mem) (Q : Mem → Prop) : Prop := (0 ≤ v1 ∧ v1 < 40) ∧ d_Md_keepsTerm_l12 v1 0 (mup μ 791 v1.toNat (μ 772 26)) Q
theorem i_Md_keepsTerm_l12 {v1 : Int} {Q : Mem → Prop} {Inv : Int → Mem → Prop} (f : Int → Mem → Nat) (hi : ∀ (v2 : Int) (μ : Mem), Inv v2 μ → ∀ W : Int → Mem → Prop, (∀ (v2' : Int) (μ' : Mem), Inv v2' μ' → f v2' μ' < f v2 μ → W v2' μ') → d_Md_keepsTerm_b12 v1 v2 μ W Q) : ∀ (v2 : Int) (μ : Mem), Inv v2 μ → d_Md_keepsTerm_l12 v1 v2 μ Q := by
  intro v2 μ hI W hW
  have key : ∀ (n : Nat) (v2 : Int) (μ : Mem), f v2 μ = n → Inv v2 μ → W v2 μ := by
    intro n
    induction n using Nat.strongRecOn with
    | _ n ih =>
      intro v2 μ hf hI
      exact hW _ _ (hi v2 μ hI W fun v2' μ' hI' hl => ih _ (by omega) v2' μ' rfl hI')
  exact key _ v2 μ rfl hI
def d_Md_buildsSecond_j86 (v1 : Int) (v2 : Int) (v3 : Int) (v4 : Int) (v5 : Int) (μ : Mem) (W8 : Int → Mem → Prop) (Q : Mem → Prop) : Prop := W8 (wr (v5 + 1)) μ
def d_Md_buildsSecond_b8 (v1 : Int) (v2 : Int) (v3 : Int) (v4 : Int) (v5 : Int) (μ : Mem) (W8 : Int → Mem → Prop) (Q : Mem → Prop) : Prop := if v5 < wr (v1 + v2) then (if 80 < μ 772 26 then (Q μ) else (if v5 = wr (v1 + v3) then (d_Md_buildsMeaning v4 μ (fun μ2 => d_Md_behind 784 v5 μ2 (fun r3 => W8 r3 μ2))) else ((0 ≤ v5 ∧ v5 < 400) ∧ if μ 784 v5.toNat < 100 then ((0 ≤ v5 ∧ v5 < 400) ∧ d_Md_builds (μ 784 v5.toNat) μ (fun μ6 => d_Md_buildsSecond_j86 v1 v2 v3 v4 v5 μ6 W8 Q)) else (d_Md_buildsMeaning v5 μ (fun μ8 => d_Md_buildsSecond_j86 v1 v2 v3 v4 v5 μ8 W8 Q))))) else (Q μ)
def d_Md_buildsSecond_l8 (v1 : Int) (v2 : Int) (v3 : Int) (v4 : Int) (v5 : Int) (μ : Mem) (Q : Mem → Prop) : Prop := ∀ W : Int → Mem → Prop, (∀ (v5 : Int) (μ : Mem), d_Md_buildsSecond_b8 v1 v2 v3 v4 v5 μ W Q → W v5 μ) → W v5 μ
def d_Md_buildsSecond (v1 : Int) (v2 : Int) (v3 : Int) (v4 : Int) (μ : Mem) (Q : Mem → Prop) : Prop := d_Md_buildsSecond_l8 v1 v2 v3 v4 v1 (mup μ 772 26 0) Q
theorem i_Md_buildsSecond_l8 {v1 : Int} {v2 : Int} {v3 : Int} {v4 : Int} {Q : Mem → Prop} {Inv : Int → Mem → Prop} (f : Int → Mem → Nat) (hi : ∀ (v5 : Int) (μ : Mem), Inv v5 μ → ∀ W : Int → Mem → Prop, (∀ (v5' : Int) (μ' : Mem), Inv v5' μ' → f v5' μ' < f v5 μ → W v5' μ') → d_Md_buildsSecond_b8 v1 v2 v3 v4 v5 μ W Q) : ∀ (v5 : Int) (μ : Mem), Inv v5 μ → d_Md_buildsSecond_l8 v1 v2 v3 v4 v5 μ Q := by
  intro v5 μ hI W hW
  have key : ∀ (n : Nat) (v5 : Int) (μ : Mem), f v5 μ = n → Inv v5 μ → W v5 μ := by
    intro n
    induction n using Nat.strongRecOn with
    | _ n ih =>
      intro v5 μ hf hI
      exact hW _ _ (hi v5 μ hI W fun v5' μ' hI' hl => ih _ (by omega) v5' μ' rfl hI')
  exact key _ v5 μ rfl hI
def d_Md_findsPair_b109 (v1 : Int) (v2 : Int) (v3 : Int) (v6 : Int) (v8 : Int) (v9 : Int) (v10 : Int) (μ : Mem) (W109 : Int → Mem → Prop) (Q : Mem → Prop) : Prop := if v10 < 16 then ((0 ≤ v10 ∧ v10 < 16) ∧ W109 (wr (v10 + 1)) (mup μ 793 v10.toNat (-1))) else (d_Md_buildsMeaning v8 (mup (mup μ 772 42 0) 772 26 0) (fun μ22 => if 80 < μ22 772 26 then (Q μ22) else (d_Md_keepsTerm (wr (2 * (μ22 772 41))) μ22 (fun μ24 => d_Md_ofRule v1 0 μ24 (fun r25 => d_Md_buildsSecond v6 r25 v3 v9 μ24 (fun μ28 => if 80 < μ28 772 26 then (Q μ28) else (d_Md_keepsTerm (wr ((wr (2 * (μ28 772 41))) + 1)) μ28 (fun μ30 => (0 ≤ wr (3 * (μ30 772 41)) ∧ wr (3 * (μ30 772 41)) < 60) ∧ (0 ≤ wr ((wr (3 * ((mup μ30 790 (wr (3 * (μ30 772 41))).toNat v1) 772 41))) + 1) ∧ wr ((wr (3 * ((mup μ30 790 (wr (3 * (μ30 772 41))).toNat v1) 772 41))) + 1) < 60) ∧ (0 ≤ wr ((wr (3 * ((mup (mup μ30 790 (wr (3 * (μ30 772 41))).toNat v1) 790 (wr ((wr (3 * ((mup μ30 790 (wr (3 * (μ30 772 41))).toNat v1) 772 41))) + 1)).toNat v2) 772 41))) + 2) ∧ wr ((wr (3 * ((mup (mup μ30 790 (wr (3 * (μ30 772 41))).toNat v1) 790 (wr ((wr (3 * ((mup μ30 790 (wr (3 * (μ30 772 41))).toNat v1) 772 41))) + 1)).toNat v2) 772 41))) + 2) < 60) ∧ Q (mup (mup (mup (mup μ30 790 (wr (3 * (μ30 772 41))).toNat v1) 790 (wr ((wr (3 * ((mup μ30 790 (wr (3 * (μ30 772 41))).toNat v1) 772 41))) + 1)).toNat v2) 790 (wr ((wr (3 * ((mup (mup μ30 790 (wr (3 * (μ30 772 41))).toNat v1) 790 (wr ((wr (3 * ((mup μ30 790 (wr (3 * (μ30 772 41))).toNat v1) 772 41))) + 1)).toNat v2) 772 41))) + 2)).toNat v3) 772 41 (wr (((mup (mup (mup μ30 790 (wr (3 * (μ30 772 41))).toNat v1) 790 (wr ((wr (3 * ((mup μ30 790 (wr (3 * (μ30 772 41))).toNat v1) 772 41))) + 1)).toNat v2) 790 (wr ((wr (3 * ((mup (mup μ30 790 (wr (3 * (μ30 772 41))).toNat v1) 790 (wr ((wr (3 * ((mup μ30 790 (wr (3 * (μ30 772 41))).toNat v1) 772 41))) + 1)).toNat v2) 772 41))) + 2)).toNat v3) 772 41) + 1)))))))))))
def d_Md_findsPair_l109 (v1 : Int) (v2 : Int) (v3 : Int) (v6 : Int) (v8 : Int) (v9 : Int) (v10 : Int) (μ : Mem) (Q : Mem → Prop) : Prop := ∀ W : Int → Mem → Prop, (∀ (v10 : Int) (μ : Mem), d_Md_findsPair_b109 v1 v2 v3 v6 v8 v9 v10 μ W Q → W v10 μ) → W v10 μ
def d_Md_findsPair (v1 : Int) (v2 : Int) (v3 : Int) (μ : Mem) (Q : Mem → Prop) : Prop := d_Md_empties μ (fun μ2 => d_Md_ofRule v1 0 μ2 (fun r3 => d_Md_pools (wr ((wr (67 + (wr (26 * v1)))) + 2)) r3 0 μ2 (fun r5 μ6 => d_Md_ofRule v2 0 μ6 (fun r7 => d_Md_pools (wr ((wr (67 + (wr (26 * v2)))) + 2)) r7 1 μ6 (fun r9 μ10 => d_Md_ofRule v1 1 μ10 (fun r11 => d_Md_pools (wr ((wr (67 + (wr (26 * v1)))) + 14)) r11 0 μ10 (fun r13 μ14 => d_Md_ofRule v2 1 μ14 (fun r15 => d_Md_pools (wr ((wr (67 + (wr (26 * v2)))) + 14)) r15 1 μ14 (fun r17 μ18 => d_Md_unifies (wr (r5 + v3)) r9 μ18 (fun r19 μ20 => if r19 = true then (d_Md_findsPair_l109 v1 v2 v3 r5 r13 r17 0 μ20 Q) else (Q μ20)))))))))))
theorem i_Md_findsPair_l109 {v1 : Int} {v2 : Int} {v3 : Int} {v6 : Int} {v8 : Int} {v9 : Int} {Q : Mem → Prop} {Inv : Int → Mem → Prop} (f : Int → Mem → Nat) (hi : ∀ (v10 : Int) (μ : Mem), Inv v10 μ → ∀ W : Int → Mem → Prop, (∀ (v10' : Int) (μ' : Mem), Inv v10' μ' → f v10' μ' < f v10 μ → W v10' μ') → d_Md_findsPair_b109 v1 v2 v3 v6 v8 v9 v10 μ W Q) : ∀ (v10 : Int) (μ : Mem), Inv v10 μ → d_Md_findsPair_l109 v1 v2 v3 v6 v8 v9 v10 μ Q := by
  intro v10 μ hI W hW
  have key : ∀ (n : Nat) (v10 : Int) (μ : Mem), f v10 μ = n → Inv v10 μ → W v10 μ := by
    intro n
    induction n using Nat.strongRecOn with
    | _ n ih =>
      intro v10 μ hf hI
      exact hW _ _ (hi v10 μ hI W fun v10' μ' hI' hl => ih _ (by omega) v10' μ' rfl hI')
  exact key _ v10 μ rfl hI
def d_Md_findsPairs_j79 (v1 : Int) (v2 : Int) (v3 : Int) (μ : Mem) (W7 : Int → Mem → Prop) (W19 : Int → Mem → Prop) (W40 : Int → Mem → Prop) (Q : Mem → Prop) : Prop := W40 (wr (v3 + 1)) μ
def d_Md_findsPairs_b40 (v1 : Int) (v2 : Int) (v3 : Int) (μ : Mem) (W7 : Int → Mem → Prop) (W19 : Int → Mem → Prop) (W40 : Int → Mem → Prop) (Q : Mem → Prop) : Prop := d_Md_ofRule v1 0 μ (fun r1 => if v3 < r1 then (if μ 772 41 < 20 then (d_Md_ofRule v1 (wr (2 + v3)) μ (fun r3 => if r3 < 100 then (d_Md_findsPair v1 v2 v3 μ (fun μ6 => d_Md_findsPairs_j79 v1 v2 v3 μ6 W7 W19 W40 Q)) else (d_Md_findsPairs_j79 v1 v2 v3 μ W7 W19 W40 Q))) else (d_Md_findsPairs_j79 v1 v2 v3 μ W7 W19 W40 Q)) else (W19 (wr (v2 + 1)) μ))
def d_Md_findsPairs_l40 (v1 : Int) (v2 : Int) (v3 : Int) (μ : Mem) (W7 : Int → Mem → Prop) (W19 : Int → Mem → Prop) (Q : Mem → Prop) : Prop := ∀ W : Int → Mem → Prop, (∀ (v3 : Int) (μ : Mem), d_Md_findsPairs_b40 v1 v2 v3 μ W7 W19 W Q → W v3 μ) → W v3 μ
def d_Md_findsPairs_j39 (v1 : Int) (v2 : Int) (t0 : Int) (μ : Mem) (W7 : Int → Mem → Prop) (W19 : Int → Mem → Prop) (Q : Mem → Prop) : Prop := d_Md_findsPairs_l40 v1 v2 t0 μ W7 W19 Q
def d_Md_findsPairs_b19 (v1 : Int) (v2 : Int) (μ : Mem) (W7 : Int → Mem → Prop) (W19 : Int → Mem → Prop) (Q : Mem → Prop) : Prop := if v2 < μ 773 1 then (if v1 = v2 then (d_Md_findsPairs_j39 v1 v2 1 μ W7 W19 Q) else (d_Md_findsPairs_j39 v1 v2 0 μ W7 W19 Q)) else (W7 (wr (v1 + 1)) μ)
def d_Md_findsPairs_l19 (v1 : Int) (v2 : Int) (μ : Mem) (W7 : Int → Mem → Prop) (Q : Mem → Prop) : Prop := ∀ W : Int → Mem → Prop, (∀ (v2 : Int) (μ : Mem), d_Md_findsPairs_b19 v1 v2 μ W7 W Q → W v2 μ) → W v2 μ
def d_Md_findsPairs_b7 (v1 : Int) (μ : Mem) (W7 : Int → Mem → Prop) (Q : Mem → Prop) : Prop := if v1 < μ 773 1 then (d_Md_findsPairs_l19 v1 0 μ W7 Q) else (Q μ)
def d_Md_findsPairs_l7 (v1 : Int) (μ : Mem) (Q : Mem → Prop) : Prop := ∀ W : Int → Mem → Prop, (∀ (v1 : Int) (μ : Mem), d_Md_findsPairs_b7 v1 μ W Q → W v1 μ) → W v1 μ
def d_Md_findsPairs (μ : Mem) (Q : Mem → Prop) : Prop := d_Md_findsPairs_l7 0 (mup μ 772 41 0) Q
theorem i_Md_findsPairs_l40 {v1 : Int} {v2 : Int} {W7 : Int → Mem → Prop} {W19 : Int → Mem → Prop} {Q : Mem → Prop} {Inv : Int → Mem → Prop} (f : Int → Mem → Nat) (hi : ∀ (v3 : Int) (μ : Mem), Inv v3 μ → ∀ W : Int → Mem → Prop, (∀ (v3' : Int) (μ' : Mem), Inv v3' μ' → f v3' μ' < f v3 μ → W v3' μ') → d_Md_findsPairs_b40 v1 v2 v3 μ W7 W19 W Q) : ∀ (v3 : Int) (μ : Mem), Inv v3 μ → d_Md_findsPairs_l40 v1 v2 v3 μ W7 W19 Q := by
  intro v3 μ hI W hW
  have key : ∀ (n : Nat) (v3 : Int) (μ : Mem), f v3 μ = n → Inv v3 μ → W v3 μ := by
    intro n
    induction n using Nat.strongRecOn with
    | _ n ih =>
      intro v3 μ hf hI
      exact hW _ _ (hi v3 μ hI W fun v3' μ' hI' hl => ih _ (by omega) v3' μ' rfl hI')
  exact key _ v3 μ rfl hI
theorem i_Md_findsPairs_l19 {v1 : Int} {W7 : Int → Mem → Prop} {Q : Mem → Prop} {Inv : Int → Mem → Prop} (f : Int → Mem → Nat) (hi : ∀ (v2 : Int) (μ : Mem), Inv v2 μ → ∀ W : Int → Mem → Prop, (∀ (v2' : Int) (μ' : Mem), Inv v2' μ' → f v2' μ' < f v2 μ → W v2' μ') → d_Md_findsPairs_b19 v1 v2 μ W7 W Q) : ∀ (v2 : Int) (μ : Mem), Inv v2 μ → d_Md_findsPairs_l19 v1 v2 μ W7 Q := by
  intro v2 μ hI W hW
  have key : ∀ (n : Nat) (v2 : Int) (μ : Mem), f v2 μ = n → Inv v2 μ → W v2 μ := by
    intro n
    induction n using Nat.strongRecOn with
    | _ n ih =>
      intro v2 μ hf hI
      exact hW _ _ (hi v2 μ hI W fun v2' μ' hI' hl => ih _ (by omega) v2' μ' rfl hI')
  exact key _ v2 μ rfl hI
theorem i_Md_findsPairs_l7 {Q : Mem → Prop} {Inv : Int → Mem → Prop} (f : Int → Mem → Nat) (hi : ∀ (v1 : Int) (μ : Mem), Inv v1 μ → ∀ W : Int → Mem → Prop, (∀ (v1' : Int) (μ' : Mem), Inv v1' μ' → f v1' μ' < f v1 μ → W v1' μ') → d_Md_findsPairs_b7 v1 μ W Q) : ∀ (v1 : Int) (μ : Mem), Inv v1 μ → d_Md_findsPairs_l7 v1 μ Q := by
  intro v1 μ hI W hW
  have key : ∀ (n : Nat) (v1 : Int) (μ : Mem), f v1 μ = n → Inv v1 μ → W v1 μ := by
    intro n
    induction n using Nat.strongRecOn with
    | _ n ih =>
      intro v1 μ hf hI
      exact hW _ _ (hi v1 μ hI W fun v1' μ' hI' hl => ih _ (by omega) v1' μ' rfl hI')
  exact key _ v1 μ rfl hI
def d_Md_criticalPairCount (μ : Mem) (Q : Int → Mem → Prop) : Prop := d_Md_mayLook μ (fun r1 μ2 => if r1 = true then (d_Md_findsPairs μ2 (fun μ4 => Q (μ4 772 41) μ4)) else (Q 0 μ2))
def d_Md_mayPair_j42 (t1 : Int) (t2 : Int) (μ : Mem) (Q : Bool → Mem → Prop) : Prop := d_Md_mayTwo t1 t2 μ (fun r1 μ2 => Q r1 μ2)
def d_Md_mayPair_j41 (t1 : Int) (μ : Mem) (Q : Bool → Mem → Prop) : Prop := d_Md_mayPair_j42 t1 0 μ Q
def d_Md_mayPair_j11 (v1 : Int) (μ : Mem) (Q : Bool → Mem → Prop) : Prop := if μ 772 6 = 0 then (d_Md_mayPair_j41 (μ 772 6) μ Q) else (d_Md_in v1 0 (wr ((μ 772 41) - 1)) μ (fun r3 => if r3 = true then (d_Md_mayPair_j42 (μ 772 6) 1 μ Q) else (d_Md_mayPair_j41 (μ 772 6) μ Q)))
def d_Md_mayPair (v1 : Int) (μ : Mem) (Q : Bool → Mem → Prop) : Prop := if μ 772 6 = 0 then (d_Md_mayPair_j11 v1 μ Q) else (d_Md_findsPairs μ (fun μ6 => d_Md_mayPair_j11 v1 μ6 Q))
def d_Md_pairOuterRule (v1 : Int) (μ : Mem) (Q : Int → Mem → Prop) : Prop := d_Md_mayPair v1 μ (fun r1 μ2 => if r1 = true then ((0 ≤ wr (3 * v1) ∧ wr (3 * v1) < 60) ∧ Q (μ2 790 (wr (3 * v1)).toNat) μ2) else (Q 0 μ2))
def d_Md_pairInnerRule (v1 : Int) (μ : Mem) (Q : Int → Mem → Prop) : Prop := d_Md_mayPair v1 μ (fun r1 μ2 => if r1 = true then ((0 ≤ wr ((wr (3 * v1)) + 1) ∧ wr ((wr (3 * v1)) + 1) < 60) ∧ Q (μ2 790 (wr ((wr (3 * v1)) + 1)).toNat) μ2) else (Q 0 μ2))
def d_Md_pairPosition (v1 : Int) (μ : Mem) (Q : Int → Mem → Prop) : Prop := d_Md_mayPair v1 μ (fun r1 μ2 => if r1 = true then ((0 ≤ wr ((wr (3 * v1)) + 2) ∧ wr ((wr (3 * v1)) + 2) < 60) ∧ Q (μ2 790 (wr ((wr (3 * v1)) + 2)).toNat) μ2) else (Q 0 μ2))
def d_Md_lendsPair (v1 : Int) (μ : Mem) (Q : Int → Mem → Prop) : Prop := (0 ≤ v1 ∧ v1 < 40) ∧ d_Md_lays 792 (wr (v1 * 80)) 780 0 ((mup μ 772 25 (μ 791 v1.toNat)) 772 25) (mup μ 772 25 (μ 791 v1.toNat)) (fun μ2 => Q (μ2 772 25) μ2)
def d_Md_joins (v1 : Int) (μ : Mem) (Q : Bool → Mem → Prop) : Prop := d_Md_lendsPair (wr (2 * v1)) μ (fun r1 μ2 => d_Md_reduces 1 50 μ2 (fun r3 μ4 => if r3 = (-1) then (Q false μ4) else (d_Md_keeps μ4 (fun μ6 => d_Md_lendsPair (wr ((wr (2 * v1)) + 1)) μ6 (fun r7 μ8 => d_Md_reduces 1 50 μ8 (fun r9 μ10 => if r9 = (-1) then (Q false μ10) else (d_Md_isKept μ10 (fun r11 => if r11 = true then (Q true μ10) else (Q false μ10)))))))))
def d_Md_pairJoins (v1 : Int) (μ : Mem) (Q : Bool → Mem → Prop) : Prop := d_Md_mayPair v1 μ (fun r1 μ2 => if r1 = true then (d_Md_joins v1 μ2 (fun r3 μ4 => if r3 = true then (Q true μ4) else (Q false μ4))) else (Q false μ2))
def d_Md_unjoinedPairs_j39 (v2 : Int) (t0 : Int) (t1 : Int) (μ : Mem) (W17 : Int → Int → Mem → Prop) (Q : Int → Mem → Prop) : Prop := d_Md_one t1 μ (fun r7 => W17 (wr (t0 + r7)) (wr (v2 + 1)) μ)
def d_Md_unjoinedPairs_b17 (v1 : Int) (v2 : Int) (μ : Mem) (W17 : Int → Int → Mem → Prop) (Q : Int → Mem → Prop) : Prop := if v2 < μ 772 41 then (d_Md_joins v2 μ (fun r5 μ6 => if r5 = true then (d_Md_unjoinedPairs_j39 v2 v1 0 μ6 W17 Q) else (d_Md_unjoinedPairs_j39 v2 v1 1 μ6 W17 Q))) else (Q v1 μ)
def d_Md_unjoinedPairs_l17 (v1 : Int) (v2 : Int) (μ : Mem) (Q : Int → Mem → Prop) : Prop := ∀ W : Int → Int → Mem → Prop, (∀ (v1 : Int) (v2 : Int) (μ : Mem), d_Md_unjoinedPairs_b17 v1 v2 μ W Q → W v1 v2 μ) → W v1 v2 μ
def d_Md_unjoinedPairs (μ : Mem) (Q : Int → Mem → Prop) : Prop := d_Md_mayLook μ (fun r1 μ2 => if r1 = true then (d_Md_findsPairs μ2 (fun μ4 => d_Md_unjoinedPairs_l17 0 0 μ4 Q)) else (Q 0 μ2))
theorem i_Md_unjoinedPairs_l17 {Q : Int → Mem → Prop} {Inv : Int → Int → Mem → Prop} (f : Int → Int → Mem → Nat) (hi : ∀ (v1 : Int) (v2 : Int) (μ : Mem), Inv v1 v2 μ → ∀ W : Int → Int → Mem → Prop, (∀ (v1' : Int) (v2' : Int) (μ' : Mem), Inv v1' v2' μ' → f v1' v2' μ' < f v1 v2 μ → W v1' v2' μ') → d_Md_unjoinedPairs_b17 v1 v2 μ W Q) : ∀ (v1 : Int) (v2 : Int) (μ : Mem), Inv v1 v2 μ → d_Md_unjoinedPairs_l17 v1 v2 μ Q := by
  intro v1 v2 μ hI W hW
  have key : ∀ (n : Nat) (v1 : Int) (v2 : Int) (μ : Mem), f v1 v2 μ = n → Inv v1 v2 μ → W v1 v2 μ := by
    intro n
    induction n using Nat.strongRecOn with
    | _ n ih =>
      intro v1 v2 μ hf hI
      exact hW _ _ _ (hi v1 v2 μ hI W fun v1' v2' μ' hI' hl => ih _ (by omega) v1' v2' μ' rfl hI')
  exact key _ v1 v2 μ rfl hI
def d_Md_writesByte (v1 : Int) (μ : Mem) (Q : Mem → Prop) : Prop := (0 ≤ μ 772 44 ∧ μ 772 44 < 2000) ∧ Q (mup (mup μ 794 (μ 772 44).toNat (jb8 (jb8 v1))) 772 44 (wr (((mup μ 794 (μ 772 44).toNat (jb8 (jb8 v1))) 772 44) + 1)))
def d_Md_writesNode_b20 (v1 : Int) (v2 : Int) (μ : Mem) (W20 : Int → Mem → Prop) (Q : Mem → Prop) : Prop := d_Md_ofSymbol v1 1 μ (fun r1 => if v2 < r1 then (d_Md_ofSymbol v1 (wr (2 + v2)) μ (fun r3 => d_Md_writesByte r3 μ (fun μ6 => W20 (wr (v2 + 1)) μ6))) else (Q μ))
def d_Md_writesNode_l20 (v1 : Int) (v2 : Int) (μ : Mem) (Q : Mem → Prop) : Prop := ∀ W : Int → Mem → Prop, (∀ (v2 : Int) (μ : Mem), d_Md_writesNode_b20 v1 v2 μ W Q → W v2 μ) → W v2 μ
def d_Md_writesNode (v1 : Int) (μ : Mem) (Q : Mem → Prop) : Prop := if v1 < 100 then (d_Md_writesNode_l20 v1 0 μ Q) else (d_Md_writesByte (wr ((wr (65 + v1)) - 100)) μ (fun μ8 => Q μ8))
theorem i_Md_writesNode_l20 {v1 : Int} {Q : Mem → Prop} {Inv : Int → Mem → Prop} (f : Int → Mem → Nat) (hi : ∀ (v2 : Int) (μ : Mem), Inv v2 μ → ∀ W : Int → Mem → Prop, (∀ (v2' : Int) (μ' : Mem), Inv v2' μ' → f v2' μ' < f v2 μ → W v2' μ') → d_Md_writesNode_b20 v1 v2 μ W Q) : ∀ (v2 : Int) (μ : Mem), Inv v2 μ → d_Md_writesNode_l20 v1 v2 μ Q := by
  intro v2 μ hI W hW
  have key : ∀ (n : Nat) (v2 : Int) (μ : Mem), f v2 μ = n → Inv v2 μ → W v2 μ := by
    intro n
    induction n using Nat.strongRecOn with
    | _ n ih =>
      intro v2 μ hf hI
      exact hW _ _ (hi v2 μ hI W fun v2' μ' hI' hl => ih _ (by omega) v2' μ' rfl hI')
  exact key _ v2 μ rfl hI
def d_Md_closesNodes_b2 (v2 : Int) (μ : Mem) (W2 : Int → Mem → Prop) (Q : Int → Mem → Prop) : Prop := if 0 < v2 then ((0 ≤ wr (v2 - 1) ∧ wr (v2 - 1) < 81) ∧ (0 ≤ wr (v2 - 1) ∧ wr (v2 - 1) < 81) ∧ (0 ≤ wr (v2 - 1) ∧ wr (v2 - 1) < 81) ∧ if 0 < (mup μ 779 (wr (v2 - 1)).toNat (wr ((μ 779 (wr (v2 - 1)).toNat) - 1))) 779 (wr (v2 - 1)).toNat then (d_Md_writesByte 44 (mup μ 779 (wr (v2 - 1)).toNat (wr ((μ 779 (wr (v2 - 1)).toNat) - 1))) (fun μ2 => Q v2 μ2)) else (d_Md_writesByte 41 (mup μ 779 (wr (v2 - 1)).toNat (wr ((μ 779 (wr (v2 - 1)).toNat) - 1))) (fun μ4 => W2 (wr (v2 + (-1))) μ4))) else (Q v2 μ)
def d_Md_closesNodes_l2 (v2 : Int) (μ : Mem) (Q : Int → Mem → Prop) : Prop := ∀ W : Int → Mem → Prop, (∀ (v2 : Int) (μ : Mem), d_Md_closesNodes_b2 v2 μ W Q → W v2 μ) → W v2 μ
def d_Md_closesNodes (v1 : Int) (μ : Mem) (Q : Int → Mem → Prop) : Prop := d_Md_closesNodes_l2 v1 μ Q
theorem i_Md_closesNodes_l2 {Q : Int → Mem → Prop} {Inv : Int → Mem → Prop} (f : Int → Mem → Nat) (hi : ∀ (v2 : Int) (μ : Mem), Inv v2 μ → ∀ W : Int → Mem → Prop, (∀ (v2' : Int) (μ' : Mem), Inv v2' μ' → f v2' μ' < f v2 μ → W v2' μ') → d_Md_closesNodes_b2 v2 μ W Q) : ∀ (v2 : Int) (μ : Mem), Inv v2 μ → d_Md_closesNodes_l2 v2 μ Q := by
  intro v2 μ hI W hW
  have key : ∀ (n : Nat) (v2 : Int) (μ : Mem), f v2 μ = n → Inv v2 μ → W v2 μ := by
    intro n
    induction n using Nat.strongRecOn with
    | _ n ih =>
      intro v2 μ hf hI
      exact hW _ _ (hi v2 μ hI W fun v2' μ' hI' hl => ih _ (by omega) v2' μ' rfl hI')
  exact key _ v2 μ rfl hI
def d_Md_writesRow_j66 (v1 : Nat) (v2 : Int) (v3 : Int) (v4 : Int) (v5 : Int) (μ : Mem) (W6 : Int → Int → Mem → Prop) (Q : Mem → Prop) : Prop := W6 v4 (wr (v5 + 1)) μ
def d_Md_writesRow_b6 (v1 : Nat) (v2 : Int) (v3 : Int) (v4 : Int) (v5 : Int) (μ : Mem) (W6 : Int → Int → Mem → Prop) (Q : Mem → Prop) : Prop := if v5 < wr (v2 + v3) then ((0 ≤ v5 ∧ v5 < (ln v1 : Int)) ∧ d_Md_writesNode (μ v1 v5.toNat) μ (fun μ2 => (0 ≤ v5 ∧ v5 < (ln v1 : Int)) ∧ d_Md_arityOf (μ2 v1 v5.toNat) μ2 (fun r3 => if r3 = 0 then (d_Md_closesNodes v4 μ2 (fun r5 μ6 => d_Md_writesRow_j66 v1 v2 v3 r5 v5 μ6 W6 Q)) else (d_Md_writesByte 40 μ2 (fun μ8 => (0 ≤ v4 ∧ v4 < 81) ∧ d_Md_writesRow_j66 v1 v2 v3 (wr (v4 + 1)) v5 (mup μ8 779 v4.toNat r3) W6 Q))))) else (Q μ)
def d_Md_writesRow_l6 (v1 : Nat) (v2 : Int) (v3 : Int) (v4 : Int) (v5 : Int) (μ : Mem) (Q : Mem → Prop) : Prop := ∀ W : Int → Int → Mem → Prop, (∀ (v4 : Int) (v5 : Int) (μ : Mem), d_Md_writesRow_b6 v1 v2 v3 v4 v5 μ W Q → W v4 v5 μ) → W v4 v5 μ
def d_Md_writesRow (v1 : Nat) (v2 : Int) (v3 : Int) (μ : Mem) (Q : Mem → Prop) : Prop := d_Md_writesRow_l6 v1 v2 v3 0 v2 μ Q
theorem i_Md_writesRow_l6 {v1 : Nat} {v2 : Int} {v3 : Int} {Q : Mem → Prop} {Inv : Int → Int → Mem → Prop} (f : Int → Int → Mem → Nat) (hi : ∀ (v4 : Int) (v5 : Int) (μ : Mem), Inv v4 v5 μ → ∀ W : Int → Int → Mem → Prop, (∀ (v4' : Int) (v5' : Int) (μ' : Mem), Inv v4' v5' μ' → f v4' v5' μ' < f v4 v5 μ → W v4' v5' μ') → d_Md_writesRow_b6 v1 v2 v3 v4 v5 μ W Q) : ∀ (v4 : Int) (v5 : Int) (μ : Mem), Inv v4 v5 μ → d_Md_writesRow_l6 v1 v2 v3 v4 v5 μ Q := by
  intro v4 v5 μ hI W hW
  have key : ∀ (n : Nat) (v4 : Int) (v5 : Int) (μ : Mem), f v4 v5 μ = n → Inv v4 v5 μ → W v4 v5 μ := by
    intro n
    induction n using Nat.strongRecOn with
    | _ n ih =>
      intro v4 v5 μ hf hI
      exact hW _ _ _ (hi v4 v5 μ hI W fun v4' v5' μ' hI' hl => ih _ (by omega) v4' v5' μ' rfl hI')
  exact key _ v4 v5 μ rfl hI
def d_Md_writeTerm (v1 : Int) (μ : Mem) (Q : Int → Mem → Prop) : Prop := d_Md_mayTerm v1 μ (fun r1 μ2 => if r1 = true then (d_Md_sizeOf v1 (mup μ2 772 44 0) (fun r3 => d_Md_writesRow 773 (wr ((wr (223 + (wr (81 * v1)))) + 1)) r3 (mup μ2 772 44 0) (fun μ6 => Q (μ6 772 44) μ6))) else (Q 0 μ2))
def d_Md_writeRule (v1 : Int) (μ : Mem) (Q : Int → Mem → Prop) : Prop := d_Md_mayRule v1 μ (fun r1 μ2 => if r1 = true then (d_Md_ofRule v1 0 (mup μ2 772 44 0) (fun r3 => d_Md_writesRow 773 (wr ((wr (67 + (wr (26 * v1)))) + 2)) r3 (mup μ2 772 44 0) (fun μ6 => d_Md_writesByte 61 μ6 (fun μ8 => d_Md_ofRule v1 1 μ8 (fun r9 => d_Md_writesRow 773 (wr ((wr (67 + (wr (26 * v1)))) + 14)) r9 μ8 (fun μ12 => Q (μ12 772 44) μ12)))))) else (Q 0 μ2))
def d_Md_writeNormalForm (v1 : Int) (μ : Mem) (Q : Int → Mem → Prop) : Prop := d_Md_mayTerm v1 μ (fun r1 μ2 => if r1 = true then (d_Md_stepsOf v1 1 (mup μ2 772 44 0) (fun r3 μ4 => if r3 = (-1) then (d_Md_writesByte 63 μ4 (fun μ6 => Q (μ6 772 44) μ6)) else (d_Md_writesRow 780 0 (μ4 772 25) μ4 (fun μ8 => Q (μ8 772 44) μ8)))) else (Q 0 μ2))
def d_Md_writePair (v1 : Int) (μ : Mem) (Q : Int → Mem → Prop) : Prop := d_Md_mayPair v1 μ (fun r1 μ2 => if r1 = true then ((0 ≤ wr (2 * v1) ∧ wr (2 * v1) < 40) ∧ d_Md_writesRow 792 (wr ((wr (2 * v1)) * 80)) ((mup μ2 772 44 0) 791 (wr (2 * v1)).toNat) (mup μ2 772 44 0) (fun μ4 => d_Md_writesByte 60 μ4 (fun μ6 => d_Md_writesByte 62 μ6 (fun μ8 => (0 ≤ wr ((wr (2 * v1)) + 1) ∧ wr ((wr (2 * v1)) + 1) < 40) ∧ d_Md_writesRow 792 (wr ((wr ((wr (2 * v1)) + 1)) * 80)) (μ8 791 (wr ((wr (2 * v1)) + 1)).toNat) μ8 (fun μ10 => Q (μ10 772 44) μ10))))) else (Q 0 μ2))
def d_Md_outputByte (v1 : Int) (μ : Mem) (Q : Int → Mem → Prop) : Prop := d_Md_in v1 0 (wr ((μ 772 44) - 1)) μ (fun r1 => d_Md_may (b2i r1) 1 1 μ (fun r3 μ4 => if r3 = true then ((0 ≤ v1 ∧ v1 < 2000) ∧ Q (μ4 794 v1.toNat) μ4) else (Q 0 μ4)))
def d_Md_canRewrite (v1 : Int) (v2 : Int) (v3 : Int) (μ : Mem) (Q : Bool → Mem → Prop) : Prop := d_Md_lends v2 μ (fun μ2 => d_Md_matchesAt v1 v3 μ2 (fun r3 μ4 => if r3 = true then (d_Md_rewritesAt v1 v3 μ4 (fun r5 μ6 => if r5 = true then (Q true μ6) else (Q false μ6))) else (Q false μ4)))
def d_Md_remembers_j37 (μ : Mem) (Q : Mem → Prop) : Prop := d_Md_lays 773 0 775 (wr ((μ 772 7) * 709)) 709 μ (fun μ4 => Q (mup μ4 772 7 (wr ((μ4 772 7) + 1))))
def d_Md_remembers (μ : Mem) (Q : Mem → Prop) : Prop := if μ 772 7 = 8 then (d_Md_lays 775 709 775 0 4963 μ (fun μ2 => d_Md_remembers_j37 (mup μ2 772 7 (wr ((μ2 772 7) - 1))) Q)) else (d_Md_remembers_j37 μ Q)
def d_Md_changes (v1 : Int) (μ : Mem) (Q : Mem → Prop) : Prop := d_Md_remembers μ (fun μ2 => d_Md_stores v1 μ2 (fun μ4 => Q μ4))
def d_Md_rewrite_j51 (v2 : Int) (t1 : Int) (t2 : Int) (t3 : Int) (μ : Mem) (Q : Int → Mem → Prop) : Prop := d_Md_may t1 t2 t3 μ (fun r5 μ6 => if r5 = true then (d_Md_changes v2 μ6 (fun μ8 => Q (μ8 772 25) μ8)) else (Q 0 μ6))
def d_Md_rewrite_j50 (v2 : Int) (t1 : Int) (t2 : Int) (μ : Mem) (Q : Int → Mem → Prop) : Prop := d_Md_rewrite_j51 v2 t1 t2 0 μ Q
def d_Md_rewrite_j22 (v1 : Int) (v2 : Int) (v3 : Int) (t0 : Int) (μ : Mem) (Q : Int → Mem → Prop) : Prop := if t0 = 0 then (d_Md_rewrite_j50 v2 (μ 772 6) t0 μ Q) else (d_Md_canRewrite v1 v2 v3 μ (fun r9 μ10 => if r9 = true then (d_Md_rewrite_j51 v2 (μ 772 6) t0 1 μ10 Q) else (d_Md_rewrite_j50 v2 (μ 772 6) t0 μ10 Q)))
def d_Md_rewrite_j21 (v1 : Int) (v2 : Int) (v3 : Int) (μ : Mem) (Q : Int → Mem → Prop) : Prop := d_Md_rewrite_j22 v1 v2 v3 0 μ Q
def d_Md_rewrite (v1 : Int) (v2 : Int) (v3 : Int) (μ : Mem) (Q : Int → Mem → Prop) : Prop := d_Md_isRule v1 μ (fun r1 => if r1 = true then (d_Md_isPosition v2 v3 μ (fun r3 => if r3 = true then (d_Md_rewrite_j22 v1 v2 v3 1 μ Q) else (d_Md_rewrite_j21 v1 v2 v3 μ Q))) else (d_Md_rewrite_j21 v1 v2 v3 μ Q))
def d_Md_redexOf (v1 : Int) (v2 : Int) (μ : Mem) (Q : Int → Mem → Prop) : Prop := d_Md_lends v1 μ (fun μ2 => d_Md_redex v2 μ2 (fun r3 μ4 => Q r3 μ4))
def d_Md_stepsOnce_j48 (v1 : Int) (v4 : Int) (t1 : Int) (t2 : Int) (t3 : Int) (μ : Mem) (Q : Int → Mem → Prop) : Prop := d_Md_may t1 t2 t3 μ (fun r5 μ6 => if r5 = true then (d_Md_changes v1 μ6 (fun μ8 => Q v4 μ8)) else (Q 0 μ6))
def d_Md_stepsOnce_j47 (v1 : Int) (v4 : Int) (t1 : Int) (t2 : Int) (μ : Mem) (Q : Int → Mem → Prop) : Prop := d_Md_stepsOnce_j48 v1 v4 t1 t2 0 μ Q
def d_Md_stepsOnce_j20 (v1 : Int) (v3 : Int) (t0 : Int) (μ : Mem) (Q : Int → Mem → Prop) : Prop := if t0 = (-1) then (d_Md_stepsOnce_j47 v1 t0 (μ 772 6) v3 μ Q) else (d_Md_stepsAt t0 μ (fun r9 μ10 => if r9 = true then (d_Md_stepsOnce_j48 v1 t0 (μ 772 6) v3 1 μ10 Q) else (d_Md_stepsOnce_j47 v1 t0 (μ 772 6) v3 μ10 Q)))
def d_Md_stepsOnce (v1 : Int) (v2 : Int) (μ : Mem) (Q : Int → Mem → Prop) : Prop := d_Md_isTerm v1 μ (fun r1 => if r1 = true then (d_Md_redexOf v1 v2 μ (fun r3 μ4 => d_Md_stepsOnce_j20 v1 (b2i r1) r3 μ4 Q)) else (d_Md_stepsOnce_j20 v1 (b2i r1) (-1) μ Q))
def d_Md_stepInnermost (v1 : Int) (μ : Mem) (Q : Int → Mem → Prop) : Prop := d_Md_stepsOnce v1 1 μ (fun r1 μ2 => Q r1 μ2)
def d_Md_stepOutermost (v1 : Int) (μ : Mem) (Q : Int → Mem → Prop) : Prop := d_Md_stepsOnce v1 0 μ (fun r1 μ2 => Q r1 μ2)
def d_Md_normalize_j37 (v1 : Int) (v3 : Int) (t1 : Int) (t2 : Int) (t3 : Int) (μ : Mem) (Q : Int → Mem → Prop) : Prop := d_Md_may t1 t2 t3 μ (fun r5 μ6 => if r5 = true then (d_Md_changes v1 μ6 (fun μ8 => Q v3 μ8)) else (Q 0 μ6))
def d_Md_normalize_j20 (v1 : Int) (v2 : Int) (t0 : Int) (μ : Mem) (Q : Int → Mem → Prop) : Prop := if t0 = (-1) then (d_Md_normalize_j37 v1 t0 (μ 772 6) v2 0 μ Q) else (d_Md_normalize_j37 v1 t0 (μ 772 6) v2 1 μ Q)
def d_Md_normalize (v1 : Int) (μ : Mem) (Q : Int → Mem → Prop) : Prop := d_Md_isTerm v1 μ (fun r1 => if r1 = true then (d_Md_stepsOf v1 1 μ (fun r3 μ4 => d_Md_normalize_j20 v1 (b2i r1) r3 μ4 Q)) else (d_Md_normalize_j20 v1 (b2i r1) (-1) μ Q))
def d_Md_copySubterm_j34 (v1 : Int) (v2 : Int) (t1 : Int) (t2 : Int) (t3 : Int) (μ : Mem) (Q : Int → Mem → Prop) : Prop := d_Md_may t1 t2 t3 μ (fun r3 μ4 => if r3 = true then (d_Md_lends v1 μ4 (fun μ6 => d_Md_behind 780 v2 (mup μ6 772 26 0) (fun r7 => d_Md_buildsFrom 780 v2 r7 (mup μ6 772 26 0) (fun μ10 => d_Md_takesBuilt μ10 (fun r11 μ12 => d_Md_remembers μ12 (fun μ14 => d_Md_stores (wr (((mup μ14 773 2 (wr ((μ14 773 2) + 1))) 773 2) - 1)) (mup μ14 773 2 (wr ((μ14 773 2) + 1))) (fun μ16 => Q (wr ((μ16 773 2) - 1)) μ16))))))) else (Q 0 μ4))
def d_Md_copySubterm_j33 (v1 : Int) (v2 : Int) (t1 : Int) (t2 : Int) (μ : Mem) (Q : Int → Mem → Prop) : Prop := d_Md_copySubterm_j34 v1 v2 t1 t2 0 μ Q
def d_Md_copySubterm (v1 : Int) (v2 : Int) (μ : Mem) (Q : Int → Mem → Prop) : Prop := d_Md_isPosition v1 v2 μ (fun r1 => if μ 772 6 = 0 then (d_Md_copySubterm_j33 v1 v2 (μ 772 6) (b2i r1) μ Q) else (if μ 773 2 < 6 then (d_Md_copySubterm_j34 v1 v2 (μ 772 6) (b2i r1) 1 μ Q) else (d_Md_copySubterm_j33 v1 v2 (μ 772 6) (b2i r1) μ Q)))
def d_Md_canReplace (v1 : Int) (v2 : Int) (v3 : Int) (μ : Mem) (Q : Bool → Mem → Prop) : Prop := d_Md_lends v3 μ (fun μ2 => d_Md_keeps μ2 (fun μ4 => d_Md_lends v1 μ4 (fun μ6 => d_Md_buildsFrom 780 0 v2 (mup μ6 772 26 0) (fun μ8 => d_Md_buildsFrom 782 0 (μ8 772 27) μ8 (fun μ10 => d_Md_behind 780 v2 μ10 (fun r11 => d_Md_buildsFrom 780 r11 (μ10 772 25) μ10 (fun μ14 => d_Md_takesBuilt μ14 (fun r15 μ16 => Q r15 μ16))))))))
def d_Md_replaceSubterm_j51 (v1 : Int) (t1 : Int) (t2 : Int) (t3 : Int) (μ : Mem) (Q : Int → Mem → Prop) : Prop := d_Md_may t1 t2 t3 μ (fun r5 μ6 => if r5 = true then (d_Md_changes v1 μ6 (fun μ8 => Q (μ8 772 25) μ8)) else (Q 0 μ6))
def d_Md_replaceSubterm_j50 (v1 : Int) (t1 : Int) (t2 : Int) (μ : Mem) (Q : Int → Mem → Prop) : Prop := d_Md_replaceSubterm_j51 v1 t1 t2 0 μ Q
def d_Md_replaceSubterm_j22 (v1 : Int) (v2 : Int) (v3 : Int) (t0 : Int) (μ : Mem) (Q : Int → Mem → Prop) : Prop := if t0 = 0 then (d_Md_replaceSubterm_j50 v1 (μ 772 6) t0 μ Q) else (d_Md_canReplace v1 v2 v3 μ (fun r9 μ10 => if r9 = true then (d_Md_replaceSubterm_j51 v1 (μ 772 6) t0 1 μ10 Q) else (d_Md_replaceSubterm_j50 v1 (μ 772 6) t0 μ10 Q)))
def d_Md_replaceSubterm_j21 (v1 : Int) (v2 : Int) (v3 : Int) (μ : Mem) (Q : Int → Mem → Prop) : Prop := d_Md_replaceSubterm_j22 v1 v2 v3 0 μ Q
def d_Md_replaceSubterm (v1 : Int) (v2 : Int) (v3 : Int) (μ : Mem) (Q : Int → Mem → Prop) : Prop := d_Md_isPosition v1 v2 μ (fun r1 => if r1 = true then (d_Md_isTerm v3 μ (fun r3 => if r3 = true then (d_Md_replaceSubterm_j22 v1 v2 v3 1 μ Q) else (d_Md_replaceSubterm_j21 v1 v2 v3 μ Q))) else (d_Md_replaceSubterm_j21 v1 v2 v3 μ Q))
def d_Md_allRedexes_b4 (v1 : Int) (v2 : Int) (μ : Mem) (W4 : Int → Int → Mem → Prop) (Q : Int → Mem → Prop) : Prop := if v2 < μ 773 2 then (d_Md_lends v2 μ (fun μ2 => d_Md_redexes μ2 (fun r3 μ4 => W4 (wr (v1 + r3)) (wr (v2 + 1)) μ4))) else (Q v1 μ)
def d_Md_allRedexes_l4 (v1 : Int) (v2 : Int) (μ : Mem) (Q : Int → Mem → Prop) : Prop := ∀ W : Int → Int → Mem → Prop, (∀ (v1 : Int) (v2 : Int) (μ : Mem), d_Md_allRedexes_b4 v1 v2 μ W Q → W v1 v2 μ) → W v1 v2 μ
def d_Md_allRedexes (μ : Mem) (Q : Int → Mem → Prop) : Prop := d_Md_allRedexes_l4 0 0 μ Q
theorem i_Md_allRedexes_l4 {Q : Int → Mem → Prop} {Inv : Int → Int → Mem → Prop} (f : Int → Int → Mem → Nat) (hi : ∀ (v1 : Int) (v2 : Int) (μ : Mem), Inv v1 v2 μ → ∀ W : Int → Int → Mem → Prop, (∀ (v1' : Int) (v2' : Int) (μ' : Mem), Inv v1' v2' μ' → f v1' v2' μ' < f v1 v2 μ → W v1' v2' μ') → d_Md_allRedexes_b4 v1 v2 μ W Q) : ∀ (v1 : Int) (v2 : Int) (μ : Mem), Inv v1 v2 μ → d_Md_allRedexes_l4 v1 v2 μ Q := by
  intro v1 v2 μ hI W hW
  have key : ∀ (n : Nat) (v1 : Int) (v2 : Int) (μ : Mem), f v1 v2 μ = n → Inv v1 v2 μ → W v1 v2 μ := by
    intro n
    induction n using Nat.strongRecOn with
    | _ n ih =>
      intro v1 v2 μ hf hI
      exact hW _ _ _ (hi v1 v2 μ hI W fun v1' v2' μ' hI' hl => ih _ (by omega) v1' v2' μ' rfl hI')
  exact key _ v1 v2 μ rfl hI
def d_Md_swapRules_b40 (v1 : Int) (v2 : Int) (v3 : Int) (μ : Mem) (W40 : Int → Mem → Prop) (Q : Int → Mem → Prop) : Prop := if v3 < 26 then (d_Md_ofRule v1 v3 μ (fun r9 => d_Md_ofRule v2 v3 μ (fun r11 => (0 ≤ wr ((wr (67 + (wr (26 * v1)))) + v3) ∧ wr ((wr (67 + (wr (26 * v1)))) + v3) < 709) ∧ (0 ≤ wr ((wr (67 + (wr (26 * v2)))) + v3) ∧ wr ((wr (67 + (wr (26 * v2)))) + v3) < 709) ∧ W40 (wr (v3 + 1)) (mup (mup μ 773 (wr ((wr (67 + (wr (26 * v1)))) + v3)).toNat r11) 773 (wr ((wr (67 + (wr (26 * v2)))) + v3)).toNat r9)))) else (d_Md_allRedexes μ (fun r13 μ14 => Q r13 μ14))
def d_Md_swapRules_l40 (v1 : Int) (v2 : Int) (v3 : Int) (μ : Mem) (Q : Int → Mem → Prop) : Prop := ∀ W : Int → Mem → Prop, (∀ (v3 : Int) (μ : Mem), d_Md_swapRules_b40 v1 v2 v3 μ W Q → W v3 μ) → W v3 μ
def d_Md_swapRules_j26 (v1 : Int) (v2 : Int) (t1 : Int) (t2 : Int) (μ : Mem) (Q : Int → Mem → Prop) : Prop := d_Md_mayTwo t1 t2 μ (fun r5 μ6 => if r5 = true then (d_Md_remembers μ6 (fun μ8 => d_Md_swapRules_l40 v1 v2 0 μ8 Q)) else (Q 0 μ6))
def d_Md_swapRules_j25 (v1 : Int) (v2 : Int) (t1 : Int) (μ : Mem) (Q : Int → Mem → Prop) : Prop := d_Md_swapRules_j26 v1 v2 t1 0 μ Q
def d_Md_swapRules (v1 : Int) (v2 : Int) (μ : Mem) (Q : Int → Mem → Prop) : Prop := d_Md_isRule v1 μ (fun r1 => if r1 = true then (d_Md_isRule v2 μ (fun r3 => if r3 = true then (d_Md_swapRules_j26 v1 v2 (μ 772 6) 1 μ Q) else (d_Md_swapRules_j25 v1 v2 (μ 772 6) μ Q))) else (d_Md_swapRules_j25 v1 v2 (μ 772 6) μ Q))
theorem i_Md_swapRules_l40 {v1 : Int} {v2 : Int} {Q : Int → Mem → Prop} {Inv : Int → Mem → Prop} (f : Int → Mem → Nat) (hi : ∀ (v3 : Int) (μ : Mem), Inv v3 μ → ∀ W : Int → Mem → Prop, (∀ (v3' : Int) (μ' : Mem), Inv v3' μ' → f v3' μ' < f v3 μ → W v3' μ') → d_Md_swapRules_b40 v1 v2 v3 μ W Q) : ∀ (v3 : Int) (μ : Mem), Inv v3 μ → d_Md_swapRules_l40 v1 v2 v3 μ Q := by
  intro v3 μ hI W hW
  have key : ∀ (n : Nat) (v3 : Int) (μ : Mem), f v3 μ = n → Inv v3 μ → W v3 μ := by
    intro n
    induction n using Nat.strongRecOn with
    | _ n ih =>
      intro v3 μ hf hI
      exact hW _ _ (hi v3 μ hI W fun v3' μ' hI' hl => ih _ (by omega) v3' μ' rfl hI')
  exact key _ v3 μ rfl hI
def d_Md_removeRule (v1 : Int) (μ : Mem) (Q : Int → Mem → Prop) : Prop := d_Md_mayRule v1 μ (fun r1 μ2 => if r1 = true then (d_Md_remembers μ2 (fun μ4 => d_Md_lays 773 (wr (67 + (wr (26 * (wr (v1 + 1)))))) 773 (wr (67 + (wr (26 * v1)))) (wr (26 * (wr (((mup μ4 773 1 (wr ((μ4 773 1) - 1))) 773 1) - v1)))) (mup μ4 773 1 (wr ((μ4 773 1) - 1))) (fun μ6 => Q (μ6 773 1) μ6))) else (Q 0 μ2))
def d_Md_reverseRule_j29 (v1 : Int) (t1 : Int) (t2 : Int) (t3 : Int) (μ : Mem) (Q : Int → Mem → Prop) : Prop := d_Md_may t1 t2 t3 μ (fun r5 μ6 => if r5 = true then (d_Md_remembers μ6 (fun μ8 => d_Md_reverses v1 μ8 (fun μ10 => d_Md_ofRule v1 0 μ10 (fun r11 => Q r11 μ10)))) else (Q 0 μ6))
def d_Md_reverseRule_j28 (v1 : Int) (t1 : Int) (t2 : Int) (μ : Mem) (Q : Int → Mem → Prop) : Prop := d_Md_reverseRule_j29 v1 t1 t2 0 μ Q
def d_Md_reverseRule (v1 : Int) (μ : Mem) (Q : Int → Mem → Prop) : Prop := d_Md_isRule v1 μ (fun r1 => if r1 = true then (d_Md_canReverse v1 μ (fun r3 => if r3 = true then (d_Md_reverseRule_j29 v1 (μ 772 6) (b2i r1) 1 μ Q) else (d_Md_reverseRule_j28 v1 (μ 772 6) (b2i r1) μ Q))) else (d_Md_reverseRule_j28 v1 (μ 772 6) (b2i r1) μ Q))
def d_Md_removeTerm (v1 : Int) (μ : Mem) (Q : Int → Mem → Prop) : Prop := d_Md_mayTerm v1 μ (fun r1 μ2 => if r1 = true then (d_Md_remembers μ2 (fun μ4 => d_Md_lays 773 (wr (223 + (wr (81 * (wr (v1 + 1)))))) 773 (wr (223 + (wr (81 * v1)))) (wr (81 * (wr (((mup μ4 773 2 (wr ((μ4 773 2) - 1))) 773 2) - v1)))) (mup μ4 773 2 (wr ((μ4 773 2) - 1))) (fun μ6 => Q (μ6 773 2) μ6))) else (Q 0 μ2))
def d_Md_undo_j13 (t1 : Int) (μ : Mem) (Q : Int → Mem → Prop) : Prop := d_Md_may t1 1 1 μ (fun r1 μ2 => if r1 = true then (d_Md_lays 775 (wr (((mup μ2 772 7 (wr ((μ2 772 7) - 1))) 772 7) * 709)) 773 0 709 (mup μ2 772 7 (wr ((μ2 772 7) - 1))) (fun μ4 => Q (μ4 772 7) μ4)) else (Q 0 μ2))
def d_Md_undo (μ : Mem) (Q : Int → Mem → Prop) : Prop := if 0 < μ 772 7 then (d_Md_undo_j13 1 μ Q) else (d_Md_undo_j13 0 μ Q)
def d_Md_undoCount (μ : Mem) (Q : Int → Mem → Prop) : Prop := d_Md_told (μ 772 7) μ (fun r1 μ2 => Q r1 μ2)
def d_Md_isSlot (v0 : Int) (μ : Mem) (Q : Bool → Prop) : Prop := d_Md_in v0 0 1 μ (fun r1 => Q r1)
def d_Md_saveState (v1 : Int) (μ : Mem) (Q : Int → Mem → Prop) : Prop := d_Md_isSlot v1 μ (fun r1 => d_Md_mayTwo (μ 772 6) (b2i r1) μ (fun r3 μ4 => if r3 = true then (d_Md_lays 773 0 776 (wr (v1 * 709)) 709 μ4 (fun μ6 => (0 ≤ v1 ∧ v1 < 2) ∧ Q ((mup μ6 777 v1.toNat 1) 773 2) (mup μ6 777 v1.toNat 1))) else (Q 0 μ4)))
def d_Md_restoreState_j25 (v1 : Int) (t1 : Int) (t2 : Int) (μ : Mem) (Q : Int → Mem → Prop) : Prop := d_Md_mayTwo t1 t2 μ (fun r3 μ4 => if r3 = true then (d_Md_lays 776 (wr (v1 * 709)) 773 0 709 μ4 (fun μ6 => Q ((mup μ6 772 7 0) 773 2) (mup μ6 772 7 0))) else (Q 0 μ4))
def d_Md_restoreState_j24 (v1 : Int) (t1 : Int) (μ : Mem) (Q : Int → Mem → Prop) : Prop := d_Md_restoreState_j25 v1 t1 0 μ Q
def d_Md_restoreState (v1 : Int) (μ : Mem) (Q : Int → Mem → Prop) : Prop := d_Md_isSlot v1 μ (fun r1 => if r1 = true then ((0 ≤ v1 ∧ v1 < 2) ∧ if μ 777 v1.toNat = 0 then (d_Md_restoreState_j24 v1 (b2i r1) μ Q) else (d_Md_restoreState_j25 v1 (b2i r1) 1 μ Q)) else (d_Md_restoreState_j24 v1 (b2i r1) μ Q))
