/-! undo, saved states, the small calls: the reference; the small calls of the class -/
section M58
variable {μ : Mem} {A : AS} {Q : Int → Mem → Prop} {v1 : Int}
def sp_outputByte (A : AS) (v1 : Int) : Int × Int := if 0 ≤ v1 ∧ v1 < ((aO A).length : Int) then (0, (aO A).getD v1.toNat 0) else (1, 0)
theorem w_outputByte (hI : CI μ A) (hA : AOK A) (h : WQ μ A (sp_outputByte A v1) Q) : d_Lw_outputByte v1 μ Q := by
  unfold d_Lw_outputByte d_OB_outputByte
  unfold sp_outputByte at h
  obtain ⟨o1, o2⟩ := hI.2.2.2.2.2.2.1
  have ho := hA.2.2.2.2.2.2.2.1.1
  rw [o1]
  refine c_reqIdx (fun en => ?_) (fun i hv hi => ?_)
  · rw [if_neg en] at h
    exact h _ hI.thr (Fq.frCt Fq.rfl') (fun q => absurd (show (1 : Int) = 0 from q) (by decide))
  · subst hv
    rw [if_pos (by omega), Int.toNat_natCast] at h
    unfold d_Output_byteAt
    rw [o1, if_neg (by omega), if_pos (by omega), if_pos (by omega)]
    refine ⟨by omega, ?_⟩
    rw [Int.toNat_natCast, o2.get0 hi]
    exact h _ (hI.mup (by decide)) (FrC.o Fq.rfl' (Or.inl rfl)) (fun _ => ⟨by first | (rw [mup_s]; done) | (rw [mup_s]; rfl), by rw [mup_r (by omega)]⟩)
end M58

