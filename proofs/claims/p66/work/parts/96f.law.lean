/-! THE LAW'S OWN METHODS: a text is told -/
/-- what telling leaves: all cells but the row m -/
def Ft (m : Nat) (s s1 : LSt) : Prop := dS s1 = dS s ∧ s1.1.1 = s.1.1 ∧ s1.1.2.2 = s.1.2.2 ∧ ∀ i, i ≠ m → dV s1 i = dV s i
/-- T was told since the state A0; of it the last bytes wait in the row m -/
def TM (s : LSt) (m : Nat) (A0 : AS) (T : List Int) (cnt : Nat) : Prop := ∃ (P : List Int) (A : AS), isM s m P cnt ∧ P.length < 20 ∧ A = wB A0 (aB A) ∧ aB A ++ P = T ∧ (aB A).length % 20 = 0 ∧ CI s.2 A ∧ AOK A ∧ s.2 797 0 = 0
section L96f
variable {s s1 s2 : LSt} {m cnt : Nat} {T : List Int} {A0 : AS}
theorem Ft.rfl' : Ft m s s := ⟨rfl, rfl, rfl, fun _ _ => rfl⟩
theorem Ft.tr (h1 : Ft m s s1) (h2 : Ft m s1 s2) : Ft m s s2 := ⟨h2.1.trans h1.1, h2.2.1.trans h1.2.1, h2.2.2.1.trans h1.2.2.1, fun i hi => (h2.2.2.2 i hi).trans (h1.2.2.2 i hi)⟩
theorem Ft.up {k : Nat} {v : JV} : Ft m s (upC s m k v) := ⟨rfl, rfl, rfl, fun i hi => funext fun j => dV_n fun e => hi e.1⟩
theorem Ft.mem {μ : Mem} : Ft m s (s.1, μ) := ⟨rfl, rfl, rfl, fun _ _ => rfl⟩
theorem wB_aB {A : AS} {bf : List Int} : aB (wB A bf) = bf := rfl
theorem c_putc {Q : LSt → Prop} {c : Int} (h : TM s m A0 T cnt) (hc : 0 ≤ c ∧ c ≤ 127) (hT : T.length < 500) (hn : cnt < 10000) (hq : ∀ s', Ft m s s' → TM s' m A0 (T ++ [c]) (cnt + 1) → Q s') : d_Lw_putc (jR m) c s Q := by
  obtain ⟨P, A, hM, hP, hA0, hTe, hB, hI, hA, h0⟩ := h
  have hlen : T.length = (aB A).length + P.length := by rw [← hTe, List.length_append]
  have hM' := hM
  obtain ⟨h1, h2, h3, h4, ws, h5, h6⟩ := hM'
  have hq5 : P.length / 4 < 5 := by omega
  have hp := M_put (c := c) hM rfl hP (by omega) (h5 _ hq5)
  unfold d_Lw_putc
  refine i_R (i_rI (k := 5) h1 rfl (by decide) h2 ?_)
  rw [jdiv4 (by omega)]
  refine i_rI (k := P.length / 4) h1 rfl (by omega) (h5 _ hq5) (i_wA (k := P.length / 4) h1 rfl (by omega) ?_)
  have f1 : Ft m s (upC s m (P.length / 4) (jI (jor (jshl (ws (P.length / 4)) 8) c))) := Ft.up
  have e1 : dV (upC s m (P.length / 4) (jI (jor (jshl (ws (P.length / 4)) 8) c))) m 5 = jI (P.length : Int) := by rw [dV_n (by omega)]; exact h2
  have e2 : dV (upC s m (P.length / 4) (jI (jor (jshl (ws (P.length / 4)) 8) c))) m 6 = jI (cnt : Int) := by rw [dV_n (by omega)]; exact h3
  have g1 : dh (upC s m (P.length / 4) (jI (jor (jshl (ws (P.length / 4)) 8) c))) m = some (100, 7) := h1
  have m1 : (upC s m (P.length / 4) (jI (jor (jshl (ws (P.length / 4)) 8) c))).2 = s.2 := rfl
  generalize upC s m (P.length / 4) (jI (jor (jshl (ws (P.length / 4)) 8) c)) = s1 at *
  refine i_rI (k := 5) g1 rfl (by decide) e1 (i_wA (k := 5) g1 rfl (by decide) ?_)
  rw [show wr ((P.length : Int) + 1) = ((P.length + 1 : Nat) : Int) by rw [wr_s (by omega)]; omega]
  refine i_rI (k := 6) (n := 7) g1 rfl (by decide) (by rw [dV_n (by omega)]; exact e2) (i_wA (k := 6) (n := 7) g1 rfl (by decide) ?_)
  rw [show wr ((cnt : Int) + 1) = ((cnt + 1 : Nat) : Int) by rw [wr_s (by omega)]; omega]
  have f2 : Ft m s (upC (upC s1 m 5 (jI ((P.length + 1 : Nat) : Int))) m 6 (jI ((cnt + 1 : Nat) : Int))) := (f1.tr Ft.up).tr Ft.up
  have m2 : (upC (upC s1 m 5 (jI ((P.length + 1 : Nat) : Int))) m 6 (jI ((cnt + 1 : Nat) : Int))).2 = s.2 := m1
  generalize upC (upC s1 m 5 (jI ((P.length + 1 : Nat) : Int))) m 6 (jI ((cnt + 1 : Nat) : Int)) = s2 at *
  have hpl : (P ++ [c]).length = P.length + 1 := by rw [List.length_append]; rfl
  refine i_rI (k := 5) hp.1 rfl (by decide) hp.2.1 ?_
  by_cases h20 : P.length + 1 = 20
  · rw [if_pos (by rw [hpl]; omega)]
    refine c_flush hp (by rw [hpl]; exact h20) (by rw [m2]; exact hI) hA (by rw [m2]; exact h0) (by omega) fun μ c1 c2 c3 c4 => hq _ ((f2.tr Ft.mem).tr Ft.up) ?_
    refine ⟨[], wB A (aB A ++ (P ++ [c])), c4, by simp, ?_, ?_, ?_, c1, c2, c3⟩
    · rw [wB_aB, hA0]
      rfl
    · rw [wB_aB, List.append_nil, ← hTe, List.append_assoc]
    · rw [wB_aB, List.length_append, hpl]
      omega
  · rw [if_neg (by rw [hpl]; omega)]
    exact hq _ f2 ⟨P ++ [c], A, hp, by rw [hpl]; omega, hA0, by rw [← hTe, List.append_assoc], hB, by rw [m2]; exact hI, hA, by rw [m2]; exact h0⟩
end L96f
