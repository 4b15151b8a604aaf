/-! THE LAW'S OWN METHODS: a text is told to its end -/
section L96g
variable {s s1 s2 : LSt} {m cnt i b : Nat} {T L : List Int} {A0 : AS}
theorem isStr.ft (h : isStr s i b L) (hf : Ft m s s1) (hm : dh s m = some (100, 7)) : isStr s1 i b L := by
  obtain ⟨h1, h2, h3, h4, h5, h6, h7⟩ := h
  have hi : i ≠ m := by
    rintro rfl
    rw [h1] at hm
    cases hm
  have hb : b ≠ m := by
    rintro rfl
    rw [h4] at hm
    cases hm
  have e := hf.2.2.2 i hi
  have e' := hf.2.2.2 b hb
  have hd : ∀ j, dh s1 j = dh s j := fun j => by
    unfold dh
    rw [hf.1]
  exact ⟨by rw [hd]; exact h1, by rw [e]; exact h2, by rw [e]; exact h3, by rw [hd]; exact h4, fun k hk => by rw [e']; exact h5 k hk, h6, h7⟩
/-- how much waits, for the last loop -/
def pnd (m : Nat) (s : LSt) : Nat := match dV s m 5 with
  | .inl z => if z = 0 then 0 else (20 - z).toNat
  | _ => 0
/-- what was told, blanks to the end, nothing waits -/
theorem c_said {Q : Int → LSt → Prop} (h : TM s m A0 T cnt) (hT : T.length ≤ 480) (hn : cnt < 9000) (hq : ∀ s' B, Ft m s s' → (∀ z, z ∈ B → z = 32) → isM s' m [] 0 → CI s'.2 (wB A0 (T ++ B)) → AOK (wB A0 (T ++ B)) → s'.2 797 0 = 0 → (T ++ B).length ≤ 500 → Q (cnt : Int) s') : d_Lw_said (jR m) s Q := by
  have hM := h
  obtain ⟨P, A, hM, -⟩ := hM
  unfold d_Lw_said
  refine i_R (i_rI (k := 6) hM.1 rfl (by decide) hM.2.2.1 ?_)
  refine i_Lw_said_l5 (Inv := fun s' => ∃ (B : List Int) (c : Nat), Ft m s s' ∧ (∀ z, z ∈ B → z = 32) ∧ TM s' m A0 (T ++ B) c ∧ c < 9600 ∧ (T ++ B).length ≤ 500 ∧ c ≤ cnt + B.length) (fun s' => pnd m s') ?_ s ⟨[], cnt, Ft.rfl', fun _ h => absurd h (by simp), by rw [List.append_nil]; exact h, by omega, by rw [List.append_nil]; omega, by simp⟩
  rintro s1 ⟨B, c, f1, hB, hTM, hc, hl, hcc⟩ W hW
  have hTM' := hTM
  obtain ⟨P, A, hM, hP, hA0, hTe, hAB, hI, hA, h0⟩ := hTM
  have hlen : (T ++ B).length = (aB A).length + P.length := by rw [← hTe, List.length_append]
  unfold d_Lw_said_b5
  refine i_R (i_rI (k := 5) hM.1 rfl (by decide) hM.2.1 ?_)
  by_cases hz : 0 < (P.length : Int)
  · rw [if_pos hz]
    have hBl : B.length ≤ 500 := by
      rw [List.length_append] at hl
      omega
    refine c_putc hTM' (by decide) (by omega) (by omega) fun s2 f2 hTM2 => hW s2 ⟨B ++ [32], c + 1, f1.tr f2, fun z hz => ?_, by rw [← List.append_assoc]; exact hTM2, ?_, ?_, ?_⟩ ?_
    · rcases List.mem_append.mp hz with hz | hz
      · exact hB z hz
      · exact List.mem_singleton.mp hz
    · omega
    · rw [← List.append_assoc, List.length_append]
      simp only [List.length_cons, List.length_nil]
      omega
    · rw [List.length_append]
      simp only [List.length_cons, List.length_nil]
      omega
    · obtain ⟨P2, A2, hM2, hP2, -, hTe2, hAB2, -⟩ := hTM2
      have hlen2 : (T ++ B ++ [32]).length = (aB A2).length + P2.length := by rw [← hTe2, List.length_append]
      rw [List.length_append, hlen] at hlen2
      simp only [List.length_cons, List.length_nil] at hlen2
      show pnd m s2 < pnd m s1
      unfold pnd
      rw [hM.2.1, hM2.2.1]
      dsimp only
      rw [if_neg (show ¬ (P.length : Int) = 0 by omega)]
      split <;> omega
  · rw [if_neg hz]
    have hP0 : P = [] := List.length_eq_zero_iff.mp (by omega)
    subst hP0
    rw [List.append_nil] at hTe
    rw [hTe] at hA0
    have hci : CI s1.2 (wB A0 (T ++ B)) := by rw [← hA0]; exact hI
    have hao : AOK (wB A0 (T ++ B)) := by rw [← hA0]; exact hA
    obtain ⟨h1, h2, h3, h4, ws, h5, h6⟩ := hM
    refine i_wA (k := 6) h1 rfl (by decide) (hq _ B (f1.tr Ft.up) hB ⟨h1, ?_, dV_s, by simp, ws, fun q hq => ?_, fun j hj => absurd hj (by simp)⟩ hci hao h0 hl)
    · rw [dV_n (by omega)]
      exact h2
    · rw [dV_n (by omega)]
      exact h5 q hq
/-- a string is told -/
theorem c_told {Q : Int → LSt → Prop} (hS : isStr s i b L) (hm : isM s m [] 0) (hA0 : aB A0 = []) (hI : CI s.2 A0) (hA : AOK A0) (h0 : s.2 797 0 = 0) (hL : L.length ≤ 480) (hd : dn s ≤ 1000000) (hq : ∀ s' B, Ft m s s' → (∀ z, z ∈ B → z = 32) → isM s' m [] 0 → CI s'.2 (wB A0 (L ++ B)) → AOK (wB A0 (L ++ B)) → s'.2 797 0 = 0 → (L ++ B).length ≤ 500 → Q (L.length : Int) s') : d_Lw_told (jR m) (jR i) s Q := by
  unfold d_Lw_told
  have hA0' : A0 = wB A0 (aB A0) := rfl
  refine i_Lw_told_l2 (Inv := fun v3 s' => ∃ k : Nat, v3 = (k : Int) ∧ k ≤ L.length ∧ Ft m s s' ∧ TM s' m A0 (L.take k) k) (fun v3 _ => L.length - v3.toNat) ?_ 0 s ⟨0, rfl, by omega, Ft.rfl', [], A0, hm, by simp, hA0', by rw [hA0]; rfl, by rw [hA0]; rfl, hI, hA, h0⟩
  rintro _ s1 ⟨k, rfl, hk, f1, hTM⟩ W hW
  have hS1 := hS.ft f1 hm.1
  have hd1 : dn s1 ≤ 1000000 := by
    unfold dn
    rw [f1.1]
    exact hd
  have hs1 := hS1.isS hd1
  unfold d_Lw_told_b2
  refine i_R ⟨hs1.1, c_strlen hs1 ?_⟩
  by_cases hc : (k : Int) < (L.length : Int)
  · rw [if_pos hc]
    have hkl : k < L.length := by omega
    refine ⟨hs1.1, c_charAt hs1 hkl (c_putc hTM (hs1.2.2.2.1 _ (getD_mem hkl)) (by rw [List.length_take]; omega) (by omega) fun s2 f2 hTM2 => ?_)⟩
    rw [show wr ((k : Int) + 1) = ((k + 1 : Nat) : Int) by rw [wr_s (by omega)]; omega]
    refine hW _ _ ⟨k + 1, rfl, by omega, f1.tr f2, ?_⟩ (by omega)
    have e : L.take (k + 1) = L.take k ++ [L.getD k 0] := by
      rw [List.take_succ, List.getElem?_eq_getElem hkl, List.getD_eq_getElem?_getD, List.getElem?_eq_getElem hkl]
      rfl
    rw [e]
    exact hTM2
  · rw [if_neg hc]
    have hkl : k = L.length := by omega
    subst hkl
    rw [List.take_length] at hTM
    exact c_said hTM hL (by omega) fun s2 B f2 hB h1 h2 h3 h4 h5 => hq s2 B (f1.tr f2) hB h1 h2 h3 h4 h5
end L96g
