/-! THE REFERENCE: all pairs are found; the calls of critical pairs -/
def MPD (μ : Mem) (D : List Pr1) : Prop := μ 772 41 = (D.length : Int) ∧ ∀ i, i < D.length → (D.getD i ((0, 0, 0), [], [])).2.1.length ≤ 80 ∧ (D.getD i ((0, 0, 0), [], [])).2.2.length ≤ 80 ∧ NtM μ i (D.getD i ((0, 0, 0), [], [])).1.1 (D.getD i ((0, 0, 0), [], [])).1.2.1 (D.getD i ((0, 0, 0), [], [])).1.2.2 (D.getD i ((0, 0, 0), [], [])).2
theorem NtM.fm {μ μ1 : Mem} {a n i j p : Nat} {X : List Int × List Int} (h : NtM μ a i j p X) (ha : a < n) (l1 : X.1.length ≤ 80) (l2 : X.2.length ≤ 80) (hF : FM n μ μ1) : NtM μ1 a i j p X := by
  obtain ⟨g1, g2, g3, g4, g5, g6, g7⟩ := h
  obtain ⟨_, f0, f1, f2⟩ := hF
  refine ⟨by rw [f0 _ (by omega)]; exact g1, by rw [f0 _ (by omega)]; exact g2, by rw [f0 _ (by omega)]; exact g3, by rw [f1 _ (by omega)]; exact g4, by rw [f1 _ (by omega)]; exact g5, g6.congr fun x hx => ?_, g7.congr fun x hx => ?_⟩
  · rw [List.length_map] at hx
    exact f2 _ (by omega)
  · rw [List.length_map] at hx
    exact f2 _ (by omega)
theorem MPD.add {μ μ1 : Mem} {D : List Pr1} {n i j p : Nat} {X : List Int × List Int} (h : MPD μ D) (hn : D.length = n) (hF : FM n μ μ1) (hc : μ1 772 41 = ((n + 1 : Nat) : Int)) (l1 : X.1.length ≤ 80) (l2 : X.2.length ≤ 80) (hX : NtM μ1 n i j p X) : MPD μ1 (D ++ [((i, j, p), X)]) := by
  refine ⟨by rw [hc, List.length_append, List.length_singleton, hn], fun a ha => ?_⟩
  rw [List.length_append, List.length_singleton] at ha
  rw [getD_snoc (by omega)]
  by_cases e : a = n
  · rw [if_pos (by omega)]
    subst e
    exact ⟨l1, l2, hX⟩
  · rw [if_neg (by omega)]
    obtain ⟨k1, k2, g⟩ := h.2 a (by omega)
    exact ⟨k1, k2, g.fm (by omega) k1 k2 hF⟩
section K77
variable {μ : Mem} {ars : List Nat} {rs : List Rl2}
end K77
section L77
variable {μ : Mem} {A : AS} {v : Int}
theorem MQI.okP {Q : Int → Mem → Prop} {r z : Int} {μ1 : Mem} (h : MQI μ A (g1 true true r) Q) (hI : MI μ A) (hG : Gm qmR qmF μ μ1) (h0 : μ1 772 0 = 0) (hz : z = r) : Q z μ1 := h _ z (hI.gq hG) hG.frMq h0 (fun _ => hz)
theorem MQB.okP {Q : Bool → Mem → Prop} {r : Int} {z : Bool} {μ1 : Mem} (h : MQB μ A (g1 true true r) Q) (hI : MI μ A) (hG : Gm qmR qmF μ μ1) (h0 : μ1 772 0 = 0) (hz : b2i z = r) : Q z μ1 := h _ z (hI.gq hG) hG.frMq h0 (fun _ => hz)
end L77

