/-! THE CLASS: merging -/
def Fmg (v0 : Nat) (μ μ' : Mem) : Prop := (∀ b, b ≠ v0 → b ≠ v0 + 2 → b ≠ v0 + 6 → μ' b = μ b) ∧ ∀ j, j ≠ 7 → μ' v0 j = μ v0 j
theorem Fmg.st {v0 : Nat} {μ μ1 μ2 : Mem} (h1 : Fmg v0 μ μ1) (h2 : Fst v0 μ1 μ2) : Fmg v0 μ μ2 := ⟨fun b k1 k2 k3 => by rw [h2.1 b k1 k3, h1.1 b k1 k2 k3], fun j hj => by rw [h2.2 j hj, h1.2 j hj]⟩
theorem Fmg.par {v0 : Nat} {μ μ1 μ2 : Mem} (h1 : Fmg v0 μ μ1) (h2 : ∀ b, b ≠ v0 + 2 → μ2 b = μ1 b) : Fmg v0 μ μ2 := ⟨fun b k1 k2 k3 => by rw [h2 b k2, h1.1 b k1 k2 k3], fun j hj => by rw [h2 v0 (by omega), h1.2 j hj]⟩
theorem CPl.mg {v0 : Nat} {μ μ' : Mem} {P : List Int} (h : CPl μ v0 P) (hf : Fmg v0 μ μ') : CPl μ' v0 P := h.fr (hf.2 0 (by decide)) (hf.1 _ (by omega) (by omega) (by omega)) (hf.1 _ (by omega) (by omega) (by omega))
section B76
variable {μ : Mem} {v0 d : Nat} {P : List Int}
theorem c_rootV {v : Int} {i N : Nat} {par R dp : Nat → Nat} {Q : Int → Prop} (hv : v = (i : Int)) (h : UF N par R dp) (hp : Par μ v0 N par) (hN : N ≤ 160) (hi : i < N) (k : ∀ w : Int, w = ((R i : Nat) : Int) → Q w) : d_Unifier_root v0 v μ Q := c_root hv h hp hN hi (k _ rfl)
theorem c_upopV {x : Nat} {K : List Nat} {Q : Int → Mem → Prop} (h : NK μ v0 (x :: K)) (hl : K.length < 962) (k : ∀ (w : Int) (μ' : Mem), w = (x : Int) → NK μ' v0 K → Fst v0 μ μ' → Q w μ') : d_Unifier_pop v0 μ Q := c_upop h hl fun μ' k1 k2 k3 => k _ μ' rfl k1 ⟨fun b h1 _ => k2 b h1, k3⟩
theorem c_merge {a b : Nat} {v1 v2 : Int} {par0 R0 dp0 : Nat → Nat} {Q : Bool → Mem → Prop} (hv1 : v1 = (a : Int)) (hv2 : v2 = (b : Int)) (hC : CPl μ v0 P) (hw : wl P d = true) (hP : P.length ≤ 160) (h32 : ∀ c, c ∈ P → c < 32) (hpar : Par μ v0 P.length par0) (hUF : UF P.length par0 R0 dp0) (hM0 : MGI P a b R0 [(b, a)]) (ha : a < P.length) (hb : b < P.length)
    (kT : ∀ μ' par R dp, Fmg v0 μ μ' → Par μ' v0 P.length par → UF P.length par R dp → MGI P a b R [] → Q true μ')
    (kF : ∀ μ', Fmg v0 μ μ' → (∀ σ, gdS σ → ¬ vl σ P a = vl σ P b) → Q false μ') : d_Unifier_merge v0 v1 v2 μ Q := by
  unfold d_Unifier_merge
  have nn : NK (mup μ v0 7 0) v0 [] := ⟨mup_s, fun i hi => absurd hi (by simp)⟩
  refine c_upush hv1 nn (by simp) fun μa a1 a2 a3 => c_upush hv2 a1 (by simp) fun μb b1 b2 b3 => ?_
  have hFb : Fmg v0 μ μb := ⟨fun x k1 _ k3 => by rw [b2 x k1 k3, a2 x k1 k3, mup_r k1], fun j hj => by rw [b3 j hj, a3 j hj, mup_k hj]⟩
  have hpb : Par μb v0 P.length par0 := hpar.fr (by rw [b2 _ (by omega) (by omega), a2 _ (by omega) (by omega), mup_r (by omega)])
  refine i_Unifier_merge_l17 (Inv := fun v3 μ1 => ∃ (S : Ps) (par R dp : Nat → Nat), 0 ≤ v3 ∧ NK μ1 v0 (flat S) ∧ Fmg v0 μ μ1 ∧ Par μ1 v0 P.length par ∧ UF P.length par R dp ∧ MGI P a b R S ∧ InS P S ∧ v3.toNat + S.length + 3 * nrt R P.length ≤ 1 + 3 * P.length) (fun v3 _ => 962 - v3.toNat) ?_ 0 μb ⟨[(b, a)], par0, R0, dp0, Int.le_refl _, b1, hFb, hpb, hUF, hM0, fun x hx => by rw [List.mem_singleton.mp hx]; exact ⟨hb, ha⟩, by
    have := nrt_le R0 P.length
    rw [List.length_singleton]
    have : (0 : Int).toNat = 0 := rfl
    omega⟩
  rintro v3 μ1 ⟨S, par, R, dp, h0, hNK, hF, hpr, hu, hM, hin, hsum⟩ W hW
  unfold d_Unifier_merge_b17
  have hfl := flat_len S
  have hn1 : 1 ≤ nrt R P.length := nrt_pos (hu.1 a ha).1 (hu.1 a ha).2
  rw [if_pos (by omega), hNK.1]
  cases S with
  | nil =>
    rw [if_neg (by decide)]
    exact kT μ1 par R dp hF hpr hu hM
  | cons x S =>
    rw [if_pos (by rw [hfl, List.length_cons]; omega)]
    rw [List.length_cons] at hsum
    obtain ⟨u, v⟩ := x
    have hx : u < P.length ∧ v < P.length := hin (u, v) (List.mem_cons_self ..)
    have hflS := flat_len S
    refine c_upopV (K := v :: flat S) hNK (by rw [List.length_cons]; omega) fun w5 μ2 e5 c1 c2 => ?_
    have hF2 := hF.st c2
    have hp2 : Par μ2 v0 P.length par := hpr.fr (c2.1 _ (by omega) (by omega))
    refine c_rootV e5 hu hp2 hP hx.1 fun w7 (e7 : w7 = ((R u : Nat) : Int)) => ?_
    refine c_upopV c1 (by omega) fun w9 μ3 e9 d1 d2 => ?_
    have hF3 := hF2.st d2
    have hp3 : Par μ3 v0 P.length par := hp2.fr (d2.1 _ (by omega) (by omega))
    refine c_rootV e9 hu hp3 hP hx.2 fun w11 (e11 : w11 = ((R v : Nat) : Int)) => ?_
    have hRu := hu.1 u hx.1
    have hRv := hu.1 v hx.2
    have hinS : InS P S := fun y hy => hin y (List.mem_cons_of_mem _ hy)
    have hC3 := hC.mg hF3
    have nxt : wr (v3 + 1) = v3 + 1 := wr_id (by omega) (by omega)
    unfold d_Unifier_merge_j136
    by_cases e : w7 = w11
    · rw [if_pos e, nxt]
      exact hW _ _ ⟨S, par, R, dp, by omega, d1, hF3, hp3, hu, hM.skip hx.1 hx.2 (by omega), hinS, by omega⟩ (by omega)
    · rw [if_neg e]
      have hne : R u ≠ R v := fun q => e (by rw [e7, e11, q])
      refine c_ulabel e7 hC3 hP hRu.1 ?_
      refine c_ulabel e11 hC3 hP hRv.1 ?_
      have hnxy := nrt_hg hRu.1 hRu.2 hRv.2 hne
      have hnyx := nrt_hg hRv.1 hRv.2 hRu.2 hne.symm
      unfold d_Unifier_merge_j94 d_Unifier_merge_j118 d_Unifier_merge_j136
      by_cases n7 : P.getD (R u) 0 < 0
      · rw [if_pos n7, if_pos n7]
        refine c_uhang e7 e11 hp3 hP hRu.1 fun μ4 f1 f2 => ?_
        rw [if_pos n7, nxt]
        exact hW _ _ ⟨S, _, _, _, by omega, ⟨by rw [f2 _ (by omega)]; exact d1.1, by rw [f2 _ (by omega)]; exact d1.2⟩, hF3.par f2, f1, hu.hang hRu.1 hRv.1 hRu.2 hRv.2 hne, hM.unite hx.1 hx.2 hRu.1 hRu.2 (Or.inl ⟨rfl, rfl⟩) (fun σ _ _ => Iff.rfl) (fun f q => q) (fun q => absurd n7 q), hinS, by omega⟩ (by omega)
      · rw [if_neg n7, if_neg n7]
        have hng : ∀ μ4, (∀ b, b ≠ v0 + 2 → μ4 b = μ3 b) → NK μ4 v0 (flat S) := fun μ4 f2 => ⟨by rw [f2 _ (by omega)]; exact d1.1, by rw [f2 _ (by omega)]; exact d1.2⟩
        by_cases n11 : P.getD (R v) 0 < 0
        · rw [if_pos n11]
          refine c_uhang e11 e7 hp3 hP hRv.1 fun μ4 f1 f2 => ?_
          rw [if_neg n7, if_pos n11, nxt]
          exact hW _ _ ⟨S, _, _, _, by omega, hng μ4 f2, hF3.par f2, f1, hu.hang hRv.1 hRu.1 hRv.2 hRu.2 hne.symm, hM.unite hx.1 hx.2 hRv.1 hRv.2 (Or.inr ⟨rfl, rfl⟩) (fun σ _ _ => Iff.rfl) (fun f q => q) (fun q => absurd n11 q), hinS, by omega⟩ (by omega)
        · rw [if_neg n11]
          by_cases eh : P.getD (R u) 0 = P.getD (R v) 0
          · rw [if_pos eh]
            refine c_uhang e11 e7 hp3 hP hRv.1 fun μ4 f1 f2 => ?_
            rw [if_neg n7, if_neg n11]
            have hF4 := hF3.par f2
            refine c_upushArgs e7 e11 (hC.mg hF4) hw hP h32 hRu.1 hRv.1 eh (hng μ4 f2) hinS (by omega) fun μ5 S' k1 k2 k3 k4 k5 k6 => ?_
            rw [nxt]
            refine hW _ _ ⟨S', _, _, _, by omega, k1, hF4.st k2, f1.fr (k2.1 _ (by omega) (by omega)), hu.hang hRv.1 hRu.1 hRv.2 hRu.2 hne.symm, hM.unite hx.1 hx.2 hRv.1 hRv.2 (Or.inr ⟨rfl, rfl⟩) (fun σ hσ q => ?_) (fun f q => ((k6 f).mp q).1) (fun _ => ⟨eh.symm, fun f q => ?_⟩), k3, by omega⟩ (by omega)
            · rw [k5 σ hσ]
              have := ((vl_eq_fun (σ := σ) hRv.1 hRu.1 n11 n7).mp q).2
              rw [← eh] at this
              exact ⟨fun q => q.1, fun q => ⟨q, this⟩⟩
            · rw [← eh]
              exact ((k6 f).mp q).2
          · rw [if_neg eh]
            refine kF μ3 hF3 fun σ hσ q => ?_
            have := (hM.2.1 σ hσ).mp q
            rw [AllE.cons] at this
            have h2 := this.2.1
            dsimp only at h2
            rw [this.1 u hx.1, this.1 v hx.2] at h2
            exact eh ((vl_eq_fun hRu.1 hRv.1 n7 n11).mp h2).1
end B76

