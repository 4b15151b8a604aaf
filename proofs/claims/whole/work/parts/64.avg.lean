/-! averageSize and normalShare -/
def smN (f : Nat → Nat) : Nat → Nat
  | 0 => 0
  | n + 1 => smN f n + f n
theorem smN_le {f : Nat → Nat} {m : Nat} : ∀ n, (∀ i, i < n → f i ≤ m) → smN f n ≤ n * m := by
  intro n
  induction n with
  | zero => intro _; exact Nat.zero_le _
  | succ n ih =>
    intro h
    rw [smN, Nat.succ_mul]
    have := ih fun i hi => h i (by omega)
    have := h n (by omega)
    omega
def sumZ (Ts : List (List Int)) : Nat → Nat := smN fun i => (Ts.getD i []).length
def sumN (rs : List Rl2) (Ts : List (List Int)) : Nat → Nat := smN fun i => if px rs false (Ts.getD i []) = -1 then 1 else 0
def avg (Ts : List (List Int)) : UInt64 := if Ts.length = 0 then FP.dconst0 else FP.ddiv (FP.i2d (Int32.ofInt ((sumZ Ts Ts.length : Nat) : Int))) (FP.i2d (Int32.ofInt ((Ts.length : Nat) : Int)))
def shr (rs : List Rl2) (Ts : List (List Int)) : UInt32 := if Ts.length = 0 then FP.fconst0 else FP.fdiv (FP.i2f (Int32.ofInt ((sumN rs Ts Ts.length : Nat) : Int))) (FP.i2f (Int32.ofInt ((Ts.length : Nat) : Int)))
section A64
variable {μ : Mem} {A : AS}
theorem sumZ_le (hA : AOK A) {k : Nat} (hk : k ≤ (aT A).length) : sumZ (aT A) k ≤ k * 80 := smN_le k fun i hi => (hA.term (show i < (aT A).length by omega)).2.1
theorem sumN_le {rs : List Rl2} {Ts : List (List Int)} (k : Nat) : sumN rs Ts k ≤ k := by
  have h := smN_le (f := fun i => if px rs false (Ts.getD i []) = -1 then 1 else 0) (m := 1) k fun i _ => by split <;> omega
  show smN _ k ≤ k
  omega
theorem avg_dok (hA : AOK A) : dokT (avg (aT A)) = true := by
  have h6 := hA.t6
  unfold avg
  by_cases e : (aT A).length = 0
  · rw [if_pos e]
    exact avg_0
  · rw [if_neg e]
    have hs := sumZ_le hA (Nat.le_refl _)
    obtain ⟨n, hn⟩ : ∃ n, (aT A).length = n + 1 := ⟨(aT A).length - 1, by omega⟩
    have hq : ∀ m s : Nat, m = n + 1 → s < 481 → dokT (FP.ddiv (FP.i2d (Int32.ofInt ((s : Nat) : Int))) (FP.i2d (Int32.ofInt ((m : Nat) : Int)))) = true := fun m s hm hs => by rw [hm]; exact avg_ok ⟨n, by omega⟩ ⟨s, hs⟩
    exact hq _ _ hn (by omega)
theorem shr_dok2 (hA : AOK A) (rs : List Rl2) (e : ¬ (aT A).length = 0) : jnan32 (shr rs (aT A)) = true ∧ dokT (FP.f2d (shr rs (aT A))) = true := by
  have h6 := hA.t6
  unfold shr
  rw [if_neg e]
  have hs := sumN_le (rs := rs) (Ts := aT A) (aT A).length
  obtain ⟨n, hn⟩ : ∃ n, (aT A).length = n + 1 := ⟨(aT A).length - 1, by omega⟩
  have hq : ∀ m s : Nat, m = n + 1 → s < 7 → (jnan32 (FP.fdiv (FP.i2f (Int32.ofInt ((s : Nat) : Int))) (FP.i2f (Int32.ofInt ((m : Nat) : Int)))) && dokT (FP.f2d (FP.fdiv (FP.i2f (Int32.ofInt ((s : Nat) : Int))) (FP.i2f (Int32.ofInt ((m : Nat) : Int)))))) = true := fun m s hm hs => by rw [hm]; exact shr_ok ⟨n, by omega⟩ ⟨s, hs⟩
  have := hq _ _ hn (show sumN rs (aT A) (aT A).length < 7 by omega)
  rw [Bool.and_eq_true] at this
  exact this
theorem shr_dok (hA : AOK A) (rs : List Rl2) : dokT (FP.f2d (shr rs (aT A))) = true := by
  by_cases e : (aT A).length = 0
  · unfold shr
    rw [if_pos e]
    exact shr_0
  · exact (shr_dok2 hA rs e).2
theorem dokT_nan {x : UInt64} (h : dokT x = true) : jnan64 x = true := by
  unfold dokT at h
  rw [Bool.and_eq_true] at h
  exact h.1
def WQD (μ : Mem) (A : AS) (sp : Int × UInt64) (Q : Int → Mem → Prop) : Prop := ∀ μ', CI μ' A → FrC μ μ' → (sp.1 = 0 → μ' 796 0 = (sp.2.toNat : Int)) → Q sp.1 μ'
def MQD2 {α : Type} (μ : Mem) (A : AS) (sp : Int × α) (Q : α → Mem → Prop) : Prop := ∀ μ' b, MI μ' A → FrM μ μ' → μ' 772 0 = sp.1 → (sp.1 = 0 → b = sp.2) → Q b μ'
def g1d {α : Type} (ok : Bool) (z x : α) : Int × α := if ok = false then (1, z) else (0, x)
def sp_averageSize (A : AS) : Int × UInt64 := g1d (aL A) FP.dconst0 (avg (aT A))
def sp_normalShare (A : AS) : Int × UInt32 := g1d (aL A) FP.fconst0 (shr (aR A) (aT A))
theorem w_averageSize {Q : Int → Mem → Prop} (hI : CI μ A) (hA : AOK A) (h : WQD μ A (sp_averageSize A) Q) : d_Lw_averageSize μ Q := by
  unfold d_Lw_averageSize d_OB_averageSize
  unfold sp_averageSize at h
  refine c_reqSys hI (fun e => ?_) (fun e => ?_)
  · rw [e] at h
    exact h _ hI.thr Fq.rfl'.frCt (fun q => absurd (show (1 : Int) = 0 from q) (by decide))
  · rw [e] at h
    have h6 := hA.t6
    have hT := hI.2.2.1.2.2
    refine i_OB_averageSize_l8 (Inv := fun v1 v2 => ∃ k : Nat, v2 = k ∧ k ≤ (aT A).length ∧ v1 = (sumZ (aT A) k : Nat)) (fun _ v2 => (aT A).length - v2.toNat) ?_ 0 0 ⟨0, rfl, Nat.zero_le _, rfl⟩
    rintro _ _ ⟨k, rfl, hk, rfl⟩ W hW
    unfold d_OB_averageSize_b8
    rw [hT.1]
    have hs := sumZ_le hA hk
    by_cases hkl : k < (aT A).length
    · rw [if_pos (by omega)]
      refine c_State_term (by omega) ?_
      have hl := (hT.2.2 k hkl).1
      have h80 := (hA.term hkl).2.1
      rw [hl, wr_id (by omega) (by omega), wr_id (by omega) (by omega)]
      exact hW _ _ ⟨k + 1, by omega, by omega, by rw [show sumZ (aT A) (k + 1) = sumZ (aT A) k + ((aT A).getD k []).length from rfl]; omega⟩ (by omega)
    · rw [if_neg (by omega)]
      have hk' : k = (aT A).length := by omega
      subst hk'
      have hd := avg_dok hA
      have out : ∀ x : UInt64, x = avg (aT A) → Q 0 (mup μ 796 0 (x.toNat : Int)) := fun x hx => h _ (hI.mup (by decide)) (FrC.o Fq.rfl' (Or.inr rfl)) (fun _ => by rw [mup_s, hx]; rfl)
      by_cases h0 : (aT A).length = 0
      · rw [if_pos (by omega)]
        exact out _ (by unfold avg; rw [if_pos h0])
      · rw [if_neg (by omega)]
        have ea : avg (aT A) = FP.ddiv (FP.i2d (Int32.ofInt ((sumZ (aT A) (aT A).length : Nat) : Int))) (FP.i2d (Int32.ofInt (((aT A).length : Nat) : Int))) := by unfold avg; rw [if_neg h0]
        rw [← ea]
        exact ⟨dokT_nan hd, out _ rfl⟩
theorem mm_averageSize {Q : UInt64 → Mem → Prop} (hI : MI μ A) (hA : AOK A) (h : MQD2 μ A (sp_averageSize A) Q) : d_Md_averageSize μ Q := by
  unfold d_Md_averageSize
  unfold sp_averageSize at h
  refine c_mayLook hI (fun e => ?_) (fun e => ?_)
  · rw [e] at h
    rw [if_neg (by decide)]
    exact h _ _ (hI.f0 (by decide)) ((Gm.upF (k := 0)).frM (by decide)) mup_s (fun q => absurd (show (1 : Int) = 0 from q) (by decide))
  · rw [e] at h
    rw [if_pos rfl]
    have h6 := hA.t6
    have hI0 : MI (mup μ 772 0 0) A := hI.f0 (by decide)
    have hn : mup μ 772 0 0 773 2 = ((aT A).length : Int) := hI0.2.1.2.2.1
    refine i_Md_averageSize_l13 (Inv := fun v1 v2 => ∃ k : Nat, v2 = k ∧ k ≤ (aT A).length ∧ v1 = (sumZ (aT A) k : Nat)) (fun _ v2 => (aT A).length - v2.toNat) ?_ 0 0 ⟨0, rfl, Nat.zero_le _, rfl⟩
    rintro _ _ ⟨k, rfl, hk, rfl⟩ W hW
    unfold d_Md_averageSize_b13
    rw [hn]
    have hs := sumZ_le hA hk
    by_cases hkl : k < (aT A).length
    · rw [if_pos (by omega)]
      refine c_sizeOf (by omega) ?_
      have h80 := (hA.term hkl).2.1
      rw [hI0.size hkl, wr_id (by omega) (by omega), wr_id (by omega) (by omega)]
      exact hW _ _ ⟨k + 1, by omega, by omega, by rw [show sumZ (aT A) (k + 1) = sumZ (aT A) k + ((aT A).getD k []).length from rfl]; omega⟩ (by omega)
    · rw [if_neg (by omega)]
      have hk' : k = (aT A).length := by omega
      subst hk'
      have hd := avg_dok hA
      have out : ∀ x : UInt64, x = avg (aT A) → Q x (mup μ 772 0 0) := fun x hx => h _ _ hI0 ((Gm.upF (k := 0)).frM (by decide)) mup_s (fun _ => hx)
      by_cases h0 : (aT A).length = 0
      · rw [if_pos (by omega)]
        exact out _ (by unfold avg; rw [if_pos h0])
      · rw [if_neg (by omega)]
        have ea : avg (aT A) = FP.ddiv (FP.i2d (Int32.ofInt ((sumZ (aT A) (aT A).length : Nat) : Int))) (FP.i2d (Int32.ofInt (((aT A).length : Nat) : Int))) := by unfold avg; rw [if_neg h0]
        rw [← ea]
        exact ⟨dokT_nan hd, out _ rfl⟩
theorem w_normalShare {Q : Int → Mem → Prop} (hI : CI μ A) (hA : AOK A) (h : WQD μ A ((sp_normalShare A).1, FP.f2d (sp_normalShare A).2) Q) : d_Lw_normalShare μ Q := by
  unfold d_Lw_normalShare d_OB_normalShare
  unfold sp_normalShare at h
  refine c_reqSys hI (fun e => ?_) (fun e => ?_)
  · rw [e] at h
    exact h _ hI.thr Fq.rfl'.frCt (fun q => absurd (show (1 : Int) = 0 from q) (by decide))
  · rw [e] at h
    have h6 := hA.t6
    refine i_OB_normalShare_l8 (Inv := fun v1 v2 μ1 => Fq μ μ1 ∧ ∃ k : Nat, v2 = k ∧ k ≤ (aT A).length ∧ v1 = (sumN (aR A) (aT A) k : Nat)) (fun _ v2 _ => (aT A).length - v2.toNat) ?_ 0 0 _ ⟨Fq.rfl', 0, rfl, Nat.zero_le _, rfl⟩
    rintro _ _ μ1 ⟨hq, k, rfl, hk, rfl⟩ W hW
    have hI1 := hq.ci hI
    have hT := hI1.2.2.1.2.2
    unfold d_OB_normalShare_b8 d_OB_normalShare_j46
    rw [hT.1]
    have hs := sumN_le (rs := aR A) (Ts := aT A) k
    by_cases hkl : k < (aT A).length
    · rw [if_pos (by omega)]
      refine c_State_term (by omega) ?_
      have hok := hA.term hkl
      have e1 : sumN (aR A) (aT A) (k + 1) = sumN (aR A) (aT A) k + if px (aR A) false ((aT A).getD k []) = -1 then 1 else 0 := rfl
      refine c_Rewriter_redex (inner := false) cells5 hI1.2.2.1.2.1 hI1.2.2.1.1 hA.wkrs (hI1.term hkl) (tc5 (by omega)) (okt_wkt hok hA.ars) fun μ2 hF => ?_
      have hq2 := hq.tr (Fq.ofFr hF (by decide) (by decide))
      by_cases q : px (aR A) false ((aT A).getD k []) = -1
      · rw [if_pos q, wr_id (by omega) (by omega), wr_id (by omega) (by omega)]
        rw [if_pos q] at e1
        exact hW _ _ _ ⟨hq2, k + 1, by omega, by omega, by omega⟩ (by omega)
      · rw [if_neg q, wr_id (by omega) (by omega)]
        rw [if_neg q] at e1
        exact hW _ _ _ ⟨hq2, k + 1, by omega, by omega, by omega⟩ (by omega)
    · rw [if_neg (by omega)]
      have hk' : k = (aT A).length := by omega
      subst hk'
      have hd := shr_dok hA (aR A)
      have out : ∀ x : UInt32, x = shr (aR A) (aT A) → jnan64 (FP.f2d x) = true ∧ Q 0 (mup μ1 796 0 ((FP.f2d x).toNat : Int)) := fun x hx => by
        subst hx
        exact ⟨dokT_nan hd, h _ (hI1.mup (by decide)) (FrC.o hq (Or.inr rfl)) (fun _ => by rw [mup_s]; rfl)⟩
      by_cases h0 : (aT A).length = 0
      · rw [if_pos (by omega)]
        exact out _ (by unfold shr; rw [if_pos h0])
      · rw [if_neg (by omega)]
        have ea : shr (aR A) (aT A) = FP.fdiv (FP.i2f (Int32.ofInt ((sumN (aR A) (aT A) (aT A).length : Nat) : Int))) (FP.i2f (Int32.ofInt (((aT A).length : Nat) : Int))) := by unfold shr; rw [if_neg h0]
        rw [← ea]
        exact ⟨(shr_dok2 hA _ h0).1, out _ rfl⟩
theorem mm_normalShare {Q : UInt32 → Mem → Prop} (hI : MI μ A) (hA : AOK A) (h : MQD2 μ A (sp_normalShare A) Q) : d_Md_normalShare μ Q := by
  unfold d_Md_normalShare
  unfold sp_normalShare at h
  refine c_mayLook hI (fun e => ?_) (fun e => ?_)
  · rw [e] at h
    rw [if_neg (by decide)]
    exact h _ _ (hI.f0 (by decide)) ((Gm.upF (k := 0)).frM (by decide)) mup_s (fun q => absurd (show (1 : Int) = 0 from q) (by decide))
  · rw [e] at h
    rw [if_pos rfl]
    have h6 := hA.t6
    have hI0 : MI (mup μ 772 0 0) A := hI.f0 (by decide)
    refine i_Md_normalShare_l13 (Inv := fun v1 v2 μ1 => Gm qmR qF0 (mup μ 772 0 0) μ1 ∧ ∃ k : Nat, v2 = k ∧ k ≤ (aT A).length ∧ v1 = (sumN (aR A) (aT A) k : Nat)) (fun _ v2 _ => (aT A).length - v2.toNat) ?_ 0 0 _ ⟨Gm.rfl', 0, rfl, Nat.zero_le _, rfl⟩
    rintro _ _ μ1 ⟨hG, k, rfl, hk, rfl⟩ W hW
    have hI1 : MI μ1 A := hI0.gq (hG.mono (by decide) (by decide))
    have hn : μ1 773 2 = ((aT A).length : Int) := hI1.2.1.2.2.1
    unfold d_Md_normalShare_b13
    rw [hn]
    have hs := sumN_le (rs := aR A) (Ts := aT A) k
    by_cases hkl : k < (aT A).length
    · rw [if_pos (by omega)]
      unfold d_Md_isNormal
      have hok := hA.term hkl
      have e1 : sumN (aR A) (aT A) (k + 1) = sumN (aR A) (aT A) k + if px (aR A) false ((aT A).getD k []) = -1 then 1 else 0 := rfl
      refine c_lendsI hI1 hA hkl fun μ2 hW2 hG2 => ?_
      have hQ : Gm qmR qF0 (mup μ 772 0 0) μ2 := hG.q hG2 (by decide) (by decide)
      have hA2 := (hI1.AR hA).gm (hG2.1 773 (by decide) (by decide))
      have hR2 := (hI1.rules hA).gm (hG2.1 773 (by decide) (by decide))
      refine c_mOutermost hA2 hW2 hok hR2 hA.rules fun μ3 hG3 => ?_
      have hQ3 := hQ.q hG3 (by decide) (by decide)
      have epx : px (aR A) false ((aT A).getD k []) = ouF (rx (aR A) ((aT A).getD k [])) ((aT A).getD k []).length 0 := rfl
      rw [← epx]
      by_cases q : px (aR A) false ((aT A).getD k []) = -1
      · rw [if_pos q]
        dsimp only
        unfold d_Md_one
        rw [if_neg (by decide), wr_id (by omega) (by omega)]
        dsimp only
        rw [wr_id (by omega) (by omega)]
        rw [if_pos q] at e1
        exact hW _ _ _ ⟨hQ3, k + 1, by omega, by omega, by omega⟩ (by omega)
      · rw [if_neg q]
        dsimp only
        unfold d_Md_one
        rw [if_pos (by decide), wr_id (by omega) (by omega)]
        dsimp only
        rw [wr_id (by omega) (by omega)]
        rw [if_neg q] at e1
        exact hW _ _ _ ⟨hQ3, k + 1, by omega, by omega, by omega⟩ (by omega)
    · rw [if_neg (by omega)]
      have hk' : k = (aT A).length := by omega
      subst hk'
      have out : ∀ x : UInt32, x = shr (aR A) (aT A) → Q x μ1 := fun x hx => h _ _ hI1 (((Gm.upF (k := 0)).tr hG (by decide) (by decide) (by decide) (by decide) : Gm qmR qmF μ μ1).frMq) (by rw [hG.2 0 (by decide), mup_s]; rfl) (fun _ => hx)
      by_cases h0 : (aT A).length = 0
      · rw [if_pos (by omega)]
        exact out _ (by unfold shr; rw [if_pos h0])
      · rw [if_neg (by omega)]
        have ea : shr (aR A) (aT A) = FP.fdiv (FP.i2f (Int32.ofInt ((sumN (aR A) (aT A) (aT A).length : Nat) : Int))) (FP.i2f (Int32.ofInt (((aT A).length : Nat) : Int))) := by unfold shr; rw [if_neg h0]
        rw [← ea]
        exact ⟨(shr_dok2 hA _ h0).1, out _ rfl⟩
end A64
