/-! THE CLASS: items of a text -/
def CSt (μ : Mem) (S : St) : Prop := CSg μ 73 S.1 ∧ Cst μ 77 S.2
/-- rows of the parser -/
def PFs (μ μ' : Mem) : Prop := (∀ b, b < 72 ∨ 139 ≤ b ∨ b = 129 → μ' b = μ b) ∧ ∀ j, j ≠ 9 → j ≠ 10 → j ≠ 11 → μ' 72 j = μ 72 j
def PFr (μ μ' : Mem) : Prop := (∀ b, b < 72 ∨ 139 ≤ b ∨ b = 129 → μ' b = μ b) ∧ ∀ j, j ≠ 0 → j ≠ 1 → j ≠ 9 → j ≠ 10 → j ≠ 11 → μ' 72 j = μ 72 j
theorem PFs.rfl' {μ : Mem} : PFs μ μ := ⟨fun _ _ => rfl, fun _ _ _ _ => rfl⟩
theorem PFs.tr {μ μ1 μ2 : Mem} (h1 : PFs μ μ1) (h2 : PFs μ1 μ2) : PFs μ μ2 := ⟨fun b hb => by rw [h2.1 b hb, h1.1 b hb], fun j a b c => by rw [h2.2 j a b c, h1.2 j a b c]⟩
theorem PFs.te {μ μ1 μ2 : Mem} (h1 : PFs μ μ1) (h2 : PFr μ1 μ2) : PFr μ μ2 := ⟨fun b hb => by rw [h2.1 b hb, h1.1 b hb], fun j p q a b c => by rw [h2.2 j p q a b c, h1.2 j a b c]⟩
theorem Fn.ps {μ μ' : Mem} (h : Fn μ μ') : PFs μ μ' := ⟨fun b hb => h.1 b (by omega), h.2⟩
theorem FT.ps {a : Nat} {μ μ' : Mem} (h : FT a μ μ') (h1 : 73 ≤ a) (h2 : a + 1 < 129) : PFs μ μ' := ⟨fun b hb => h.1 b (by omega) (by omega) (by omega) (by omega), h.2⟩
theorem FE.pr {a : Nat} {μ μ' : Mem} (h : FE a μ μ') (h1 : 73 ≤ a) (h2 : a + 1 < 129) : PFr μ μ' := ⟨fun b hb => h.1 b (by omega) (by omega) (by omega) (by omega), h.2⟩
theorem PTx.ps {μ μ' : Mem} {B : List Int} (h : PTx μ B) (hf : PFs μ μ') : PTx μ' B := ⟨by rw [hf.2 8 (by decide) (by decide) (by decide)]; exact h.1, by rw [hf.1 129 (by omega)]; exact h.2.1, h.2.2⟩
theorem CSt.fn {μ μ' : Mem} {S : St} (h : CSt μ S) (hf : Fn μ μ') : CSt μ' S := ⟨h.1.fr fun b k1 k2 => hf.1 b (by omega), h.2.fr rt_st.2.2.2.1 fun b k1 k2 => hf.1 b (by omega)⟩
/-- what an item's reading gives -/
def IQ (μ : Mem) (R : PE ⊕ (St × Tk)) (Q : Bool → Mem → Prop) : Prop := (∀ μ' e, R = .inl e → PFr μ μ' → SP μ' 77 → μ' 72 0 = e.1 → μ' 72 1 = ((e.2 : Nat) : Int) → Q false μ') ∧ ∀ μ' S' t', R = .inr (S', t') → PFs μ μ' → CSt μ' S' → TkC μ' t' → Q true μ'
theorem SP.ofRc {μ μ' : Mem} {s : Nat} (h : SP μ s) (hf : ∀ i, i < 6 → μ' (rc s i) = μ (rc s i)) : SP μ' s := by
  refine ⟨fun i j hi hj => by rw [hf i hi]; exact h.1 i j hi hj, fun i j i' j' hi hj hi' hj' e => ?_⟩
  rw [hf i hi, hf i' hi'] at e
  exact h.2 i j i' j' hi hj hi' hj' e
theorem wr_eq {z : Int} (n : Nat) (h : z = (n : Int)) (hn : n < 1000000) : wr z = (n : Int) := by rw [h, wr_id (by omega) (by omega)]
section Q77
variable {μ : Mem} {B : List Int} {S : St} {t : Tk}
theorem SP.fe {a : Nat} {μ' : Mem} (h : SP μ 77) (hf : FE a μ μ') (ha : ∀ i, i < 6 → a ≠ rc 77 i ∧ a + 1 ≠ rc 77 i) : SP μ' 77 := h.ofRc fun i hi => by
  have := rc_eq 77 i
  have := ha i hi
  exact hf.1 _ (by omega) (by omega) (fun q => this.1 q.symm) (fun q => this.2 q.symm)
theorem ne77 (i : Nat) : 77 ≠ rc 77 i ∧ 77 + 1 ≠ rc 77 i := by
  have := rc_eq 77 i
  omega
theorem c_pFailI {c : Int} {e : PE} {R : PE ⊕ (St × Tk)} {μ0 : Mem} {Q : Bool → Mem → Prop} (hQ : IQ μ0 R Q) (hF : PFs μ0 μ) (hR : R = .inl e) (he : e = (c, t.2.1)) (ht : TkC μ t) (hP : SP μ 77) : d_Parser_fail c μ Q := by
  refine c_pFail (a := 77) he ht fun μ' f' q0 q1 => hQ.1 μ' e hR (hF.te (f'.pr (by decide) (by decide))) (hP.fe f' fun i _ => ne77 i) q0 q1
theorem c_pDigit {Q : Int → Prop} (hB : PTx μ B) (ht : TkC μ t) (tok : tkok B t) (hv : tkv B t) (hk : t.1 = 48) (h : Q (dgv B t)) : d_Parser_digit μ Q := by
  unfold d_Parser_digit
  have h1 := tok.2.2.2.1 (by rw [hk]; decide)
  have h2 := tok.2.1
  have h3 := hv.2 hk
  refine c_pByte ht.2.1 hB (by omega) ?_
  rw [wr_id (by omega) (by omega)]
  exact h
theorem c_readDigit {m : Nat} {v : Int} {R : PE ⊕ (St × Tk)} {μ0 : Mem} {Q Q2 : Bool → Mem → Prop} (hv' : v = (m : Int)) (hB : PTx μ B) (ht : TkC μ t) (tok : tkok B t) (hv : tkv B t) (hQ : IQ μ0 R Q) (hF : PFs μ0 μ) (hR : dgt B m t ≠ 0 → R = .inl (dgt B m t, t.2.1)) (hP : SP μ 77) (hQ2 : ∀ μ', Q false μ' → Q2 false μ') (k0 : dgt B m t = 0 → Q2 true μ) : d_Parser_readDigit v μ Q2 := by
  unfold d_Parser_readDigit
  rw [ht.1]
  have hQ3 : ∀ μ', Q false μ' → (if false = true then Q2 true μ' else Q2 false μ') := fun μ' h => by rw [if_neg (by decide)]; exact hQ2 μ' h
  by_cases hk : t.1 = 48
  · rw [if_pos hk]
    refine c_pDigit hB ht tok hv hk ?_
    have e0 : dgt B m t = if dgv B t < (m : Int) then 0 else 2 := by
      unfold dgt
      rw [if_neg (fun q => q hk)]
    by_cases hd : dgv B t < (m : Int)
    · rw [if_pos (by omega)]
      rw [if_pos hd] at e0
      exact k0 e0
    · rw [if_neg (by omega)]
      rw [if_neg hd] at e0
      have hR' := hR (by rw [e0]; decide)
      rw [e0] at hR'
      refine c_pFail (a := 77) (e := (2, t.2.1)) rfl ht fun μ' f' q0 q1 => hQ3 μ' (hQ.1 μ' _ hR' (hF.te (f'.pr (by decide) (by decide))) (hP.fe f' fun i _ => ne77 i) q0 q1)
  · rw [if_neg hk]
    have e0 : dgt B m t = 1 := by
      unfold dgt
      rw [if_pos hk]
    have hR' := hR (by rw [e0]; decide)
    rw [e0] at hR'
    refine c_pFail (a := 77) (e := (1, t.2.1)) rfl ht fun μ' f' q0 q1 => hQ2 μ' (hQ.1 μ' _ hR' (hF.te (f'.pr (by decide) (by decide))) (hP.fe f' fun i _ => ne77 i) q0 q1)
theorem c_nextI {Q : Mem → Prop} (hB : PTx μ B) (ht : TkC μ t) (tok : tkok B t) (k : ∀ μ', TkC μ' (nx B t.2.2) → Fn μ μ' → Q μ') : d_Parser_next μ Q := c_next hB ht.2.2 tok.2.1 k
theorem c_pReadSymbol {Q : Bool → Mem → Prop} (hB : PTx μ B) (ht : TkC μ t) (tok : tkok B t) (hS : CSt μ S) (hok : POK S) (hQ : IQ μ (iSym B S t) Q) : d_Parser_readSymbol μ Q := by
  unfold d_Parser_readSymbol
  unfold iSym at hQ
  have h8 := hok.1.1
  have hC := hS.1
  rw [hC.1]
  by_cases l8 : 8 ≤ S.1.length
  · rw [if_pos l8] at hQ
    rw [if_neg (by omega)]
    exact c_pFailI hQ PFs.rfl' rfl rfl ht hS.2.1
  · rw [if_neg l8] at hQ
    rw [if_pos (by omega)]
    refine c_nextI hB ht tok fun μ1 t1 f1 => ?_
    have n1 := nx_le tok
    have v1 := nx_v B t.2.2
    have S1 := hS.fn f1
    have B1 := hB.fn f1
    generalize nx B t.2.2 = u at *
    rw [t1.1]
    by_cases hk : u.1 = 97
    · rw [if_neg (fun q => q hk)] at hQ
      rw [if_pos hk]
      refine c_symbolOfWord B1 t1 n1.1 S1.1 hok.1 ?_
      by_cases hf : fnS S.1 (wd B u) 0 = -1
      · rw [if_neg (fun q => q hf)] at hQ
        rw [if_pos hf]
        unfold d_Signature_begin
        rw [S1.1.1, if_neg (by omega), if_pos (by omega), Int.toNat_natCast]
        refine ⟨by omega, ?_⟩
        have r2 : ∀ b, b ≠ 75 → mup μ1 75 S.1.length 0 b = μ1 b := fun b hb => mup_r hb
        show d_Parser_readSymbol_l63 (mup μ1 75 S.1.length 0 72 10) (mup μ1 75 S.1.length 0) Q
        rw [r2 72 (by decide), t1.2.1]
        have hwl := wd_len n1.1
        obtain ⟨u1, u2, u3, u4, u5, u6⟩ := id n1.1
        have hu6 := u6 hk
        have hut := u4 (by rw [hk]; decide)
        have h500 := hB.2.2
        refine i_Parser_readSymbol_l63 (Inv := fun v1 μ2 => ∃ k : Nat, v1 = ((u.2.1 + k : Nat) : Int) ∧ k ≤ (wd B u).length ∧ μ2 75 S.1.length = (k : Int) ∧ (∀ i, i ≠ S.1.length → μ2 75 i = μ1 75 i) ∧ Sg (μ2 76) (6 * S.1.length) ((wd B u).take k) ∧ (∀ i, i < 6 * S.1.length → μ2 76 i = μ1 76 i) ∧ ∀ b, b ≠ 75 → b ≠ 76 → μ2 b = μ1 b) (fun v1 _ => u.2.2 - v1.toNat) ?_ _ _ ⟨0, rfl, Nat.zero_le _, mup_s, fun i hi => mup_k hi, by rw [List.take_zero]; exact Sg.nil, fun i _ => by rw [r2 _ (by decide)], fun b k1 _ => r2 b k1⟩
        rintro v1 μ2 ⟨k, e1, hk2, g1, g2, g3, g4, g5⟩ W hW
        unfold d_Parser_readSymbol_b63
        have e72 : μ2 72 = μ1 72 := g5 72 (by decide) (by decide)
        have B2 : PTx μ2 B := ⟨by rw [e72]; exact B1.1, by rw [g5 129 (by decide) (by decide)]; exact B1.2.1, B1.2.2⟩
        have t2 : TkC μ2 u := by unfold TkC; rw [e72]; exact t1
        have e73 : μ2 73 0 = (S.1.length : Int) := by rw [g5 73 (by decide) (by decide)]; exact S1.1.1
        rw [t2.2.2]
        by_cases hkl : k < (wd B u).length
        · rw [if_pos (by omega)]
          refine c_pByte e1 B2 (by omega) ?_
          rw [← wd_get (B := B) (t := u) (k := k) (by omega)]
          unfold d_Signature_addLetter d_Signature_nameLength
          rw [e73, if_neg (by omega), if_pos (by omega), Int.toNat_natCast, g1]
          refine ⟨by omega, ?_⟩
          dsimp only
          rw [if_neg (by omega), if_pos (by omega), if_neg (by omega), if_pos (by omega)]
          have er : ∀ (z : Int) (n : Nat), mup μ2 (73 + 3) n z 73 = μ2 73 := fun z n => mup_r (by decide)
          rw [wr_eq (6 * S.1.length) (show (S.1.length : Int) * 6 = ((6 * S.1.length : Nat) : Int) by omega) (by omega), wr_eq (6 * S.1.length + k) (show ((6 * S.1.length : Nat) : Int) + (k : Int) = ((6 * S.1.length + k : Nat) : Int) by omega) (by omega), er, e73, wr_eq (k + 1) (show (k : Int) + 1 = ((k + 1 : Nat) : Int) by omega) (by omega), wr_eq (u.2.1 + (k + 1)) (show v1 + 1 = ((u.2.1 + (k + 1) : Nat) : Int) by omega) (by omega), Int.toNat_natCast, Int.toNat_natCast]
          refine ⟨by omega, by omega, ?_⟩
          refine hW _ _ ⟨k + 1, rfl, by omega, mup_s, fun i hi => ?_, ?_, fun i hi => ?_, fun b k1 k2 => ?_⟩ (by rw [e1, Int.toNat_natCast, Int.toNat_natCast]; omega)
          · rw [mup_k hi, mup_r (by decide)]
            exact g2 i hi
          · rw [take_1r hkl, mup_r (by decide)]
            have hlt : ((wd B u).take k).length = k := by rw [List.length_take]; omega
            refine Sg.app (g3.congr fun i hi => by rw [hlt] at hi; rw [mup_k (by omega)]) (Sg.one ?_)
            rw [hlt, mup_s]
          · rw [mup_r (by decide), mup_k (by omega)]
            exact g4 i hi
          · rw [mup_r k1, mup_r k2]
            exact g5 b k1 k2
        · rw [if_neg (by omega)]
          have ek : k = (wd B u).length := by omega
          rw [ek, List.take_length] at g3
          rw [ek] at g1
          have S2P : SP μ2 77 := S1.2.1.ofRc fun i hi => g5 _ (by have := rc_eq 77 i; omega) (by have := rc_eq 77 i; omega)
          refine c_nextI B2 t2 n1.1 fun μ3 t3 f3 => ?_
          have n2 := nx_le n1.1
          have v2 := nx_v B u.2.2
          have B3 := B2.fn f3
          generalize nx B u.2.2 = w at *
          have F2 : PFs μ μ2 := f1.ps.tr ⟨fun b hb => g5 b (by omega) (by omega), fun j _ _ _ => by rw [e72]⟩
          have S3P : SP μ3 77 := S2P.ofRc fun i hi => f3.1 _ (by have := rc_eq 77 i; omega)
          refine c_readDigit (m := 4) (t := w) rfl B3 t3 n2.1 v2 hQ (F2.tr f3.ps) (fun q => if_pos q) S3P (fun μ' h => by rw [if_neg (by decide)]; exact h) fun hd => ?_
          rw [if_neg (fun q => q hd)] at hQ
          obtain ⟨d1, d2, d3⟩ := dgt_0 v2 hd
          rw [if_pos rfl]
          refine c_pDigit B3 t3 n2.1 v2 d1 ?_
          unfold d_Signature_finish
          have e73' : μ3 73 0 = (S.1.length : Int) := by rw [f3.1 73 (by decide)]; exact e73
          have er : ∀ (z : Int) (n : Nat), mup μ3 (73 + 1) n z 73 = μ3 73 := fun z n => mup_r (by decide)
          rw [e73', if_neg (by omega), if_pos (by omega), er, e73', wr_eq (S.1.length + 1) (show (S.1.length : Int) + 1 = ((S.1.length + 1 : Nat) : Int) by omega) (by omega), Int.toNat_natCast]
          refine ⟨by omega, ?_⟩
          have rf : ∀ b, b ≠ 73 → b ≠ 74 → mup (mup μ3 (73 + 1) S.1.length (dgv B w)) 73 0 ((S.1.length + 1 : Nat) : Int) b = μ3 b := fun b k1 k2 => by rw [mup_r k1, mup_r k2]
          have hs4 : CSg (mup (mup μ3 (73 + 1) S.1.length (dgv B w)) 73 0 ((S.1.length + 1 : Nat) : Int)) 73 (S.1 ++ [((dgv B w).toNat, wd B u)]) := by
            refine ⟨by rw [mup_s, List.length_append, List.length_singleton], fun i hi => ?_⟩
            rw [List.length_append, List.length_singleton] at hi
            rw [rf (73 + 2) (by decide) (by decide), rf (73 + 3) (by decide) (by decide), mup_r (by decide), f3.1 (73 + 2) (by decide), f3.1 (73 + 3) (by decide)]
            by_cases e : i = S.1.length
            · have eg : (S.1 ++ [((dgv B w).toNat, wd B u)]).getD i (0, []) = ((dgv B w).toNat, wd B u) := by
                rw [getD_app_r (by omega), e, Nat.sub_self]
                rfl
              rw [eg, e, mup_s]
              exact ⟨by dsimp only; omega, g1, g3⟩
            · have eg : (S.1 ++ [((dgv B w).toNat, wd B u)]).getD i (0, []) = S.1.getD i (0, []) := getD_app_l (by omega)
              rw [eg, mup_k e, f3.1 (73 + 1) (by decide), g5 (73 + 1) (by decide) (by decide), g2 i e]
              obtain ⟨k1, k2, k3⟩ := S1.1.2 i (by omega)
              have hl6 := (hok.1.2 _ (getD_mem (d := (0, [])) (show i < S.1.length by omega))).2.2.1
              exact ⟨k1, k2, k3.congr fun x hx => g4 _ (by omega)⟩
          have hc4 : Cst (mup (mup μ3 (73 + 1) S.1.length (dgv B w)) 73 0 ((S.1.length + 1 : Nat) : Int)) 77 S.2 := S1.2.fr rt_st.2.2.2.1 fun b k1 k2 => by rw [rf b (by omega) (by omega), f3.1 b (by omega), g5 b (by omega) (by omega)]
          have F4 : PFs μ (mup (mup μ3 (73 + 1) S.1.length (dgv B w)) 73 0 ((S.1.length + 1 : Nat) : Int)) := (F2.tr f3.ps).tr ⟨fun b hb => rf b (by omega) (by omega), fun j _ _ _ => by rw [rf 72 (by decide) (by decide)]⟩
          have t4 : TkC (mup (mup μ3 (73 + 1) S.1.length (dgv B w)) 73 0 ((S.1.length + 1 : Nat) : Int)) w := by unfold TkC; rw [rf 72 (by decide) (by decide)]; exact t3
          generalize mup (mup μ3 (73 + 1) S.1.length (dgv B w)) 73 0 ((S.1.length + 1 : Nat) : Int) = μ4 at *
          refine c_nextI (hB.ps F4) t4 n2.1 fun μ5 t5 f5 => ?_
          exact hQ.2 μ5 _ _ rfl (F4.tr f5.ps) (CSt.fn ⟨hs4, hc4⟩ f5) t5
      · rw [if_pos hf] at hQ
        rw [if_neg hf]
        exact c_pFailI hQ f1.ps rfl rfl t1 S1.2.1
    · rw [if_pos hk] at hQ
      rw [if_neg hk]
      exact c_pFailI hQ f1.ps rfl rfl t1 S1.2.1
/-- the rows of a rule that is being read -/
theorem Cst.side77 {c : Cf} {μ' : Mem} {n j : Nat} (h : Cst μ 77 c) (hn : c.1.length ≤ n) (hn6 : n < 6) (hj : j < 2) (hf : ∀ b, b ≠ 72 → b ≠ 138 → b ≠ dp (μ (rc 77 n) j) → b ≠ dp (μ (rc 77 n) j) + 1 → μ' b = μ b) : Cst μ' 77 c := by
  obtain ⟨h1, h2, h3⟩ := h
  obtain ⟨i', j', k1, k2, k3, k4, k5⟩ := h1.side rt_st.2.2.2.1 hn6 hj
  have hrc : ∀ i, rc 77 i = 87 + 5 * i := fun i => by have := rc_eq 77 i; omega
  have frc : ∀ i, i < 6 → μ' (rc 77 i) = μ (rc 77 i) := fun i hi => by
    have := hrc i
    exact hf _ (by omega) (by omega) (by omega) (by omega)
  refine ⟨h1.ofRc frc, ⟨by rw [hf 77 (by omega) (by omega) (by omega) (by omega)]; exact h2.1, h2.2.1, fun i hi => ?_⟩, ⟨by rw [hf 77 (by omega) (by omega) (by omega) (by omega)]; exact h3.1, h3.2.1, fun i hi => ?_⟩⟩
  · have hl := h2.2.1
    rw [frc i (by omega)]
    have sd : ∀ jj, jj < 2 → ∀ X, IsT μ (dp (μ (rc 77 i) jj)) X → IsT μ' (dp (μ (rc 77 i) jj)) X := fun jj hjj X hX => by
      have hne := h1.ne rt_st.2.2.2.1 (i := i) (j := jj) (i1 := n) (j1 := j) (by omega) hjj hn6 hj (by omega)
      obtain ⟨a', b', q1, q2, q3, q4, q5⟩ := h1.side rt_st.2.2.2.1 (i := i) (j := jj) (by omega) hjj
      have n1 := rt8_ne (dp_rt (μ (rc 77 i) jj)) (dp_rt (μ (rc 77 n) j))
      have n2 := rt8_ne (dp_rt (μ (rc 77 n) j)) (dp_rt (μ (rc 77 i) jj))
      exact hX.fr (hf _ (by omega) (by omega) hne n1) (hf _ (by omega) (by omega) (fun q => n2 q.symm) (by omega))
    exact ⟨sd 0 (by decide) _ (h2.2.2 i hi).1, sd 1 (by decide) _ (h2.2.2 i hi).2⟩
  · have ht := tc_eq 77 i
    have hl := h3.2.1
    exact (h3.2.2 i hi).fr (hf _ (by omega) (by omega) (by omega) (by omega)) (hf _ (by omega) (by omega) (by omega) (by omega))
theorem c_pReadRule {Q : Bool → Mem → Prop} (hB : PTx μ B) (ht : TkC μ t) (tok : tkok B t) (hS : CSt μ S) (hok : POK S) (hQ : IQ μ (iRul B S t) Q) : d_Parser_readRule μ Q := by
  unfold d_Parser_readRule
  unfold iRul at hQ
  have hSR := hS.2.2.1
  have h6 := hok.2.1
  rw [hSR.1]
  by_cases l6 : 6 ≤ S.2.1.length
  · rw [if_pos l6] at hQ
    rw [if_neg (by omega)]
    exact c_pFailI hQ PFs.rfl' rfl rfl ht hS.2.1
  · rw [if_neg l6] at hQ
    rw [if_pos (by omega)]
    refine c_nextI hB ht tok fun μ1 t1 f1 => ?_
    have n1 := nx_le tok
    have v1 := nx_v B t.2.2
    have S1 := hS.fn f1
    have B1 := hB.fn f1
    generalize nx B t.2.2 = u at *
    rw [S1.2.2.1.1]
    refine c_State_rule (by omega) ?_
    have hrc : ∀ i, rc 77 i = 87 + 5 * i := fun i => by have := rc_eq 77 i; omega
    have hr := hrc S.2.1.length
    obtain ⟨i', j', k1, k2, k3, k4, k5⟩ := S1.2.1.side rt_st.2.2.2.1 (i := S.2.1.length) (j := 0) (by omega) (by omega)
    have rd0 : rt (dp (μ1 (rc 77 S.2.1.length) 0)) = 8 := dp_rt _
    have na : ∀ i, i < 6 → dp (μ1 (rc 77 S.2.1.length) 0) ≠ rc 77 i ∧ dp (μ1 (rc 77 S.2.1.length) 0) + 1 ≠ rc 77 i := fun i hi => by have := hrc i; omega
    refine c_pReadTerm (a := dp (μ1 (rc 77 S.2.1.length) 0)) (n := S.2.1.length) (lim := 12) (role := 1) (L := []) rfl rfl (by decide) (by decide) B1 t1 n1.1 v1 S1.1 hok.1 (by omega) (by omega) (by omega) rd0 (fun q => by cases q) (by omega) (fun q => by cases q) (na _ (by omega)) (by omega) (fun q => by cases q) (fun μ2 e he f2 q0 q1 => ?_) (fun μ2 L t2 he f2 tk2 hL => ?_)
    · rw [if_neg (by decide)]
      rw [he] at hQ
      exact hQ.1 μ2 e rfl (f1.ps.te (f2.pr (by omega) (by omega))) (S1.2.1.fe f2 na) q0 q1
    · rw [if_pos rfl, tk2.1]
      rw [he] at hQ
      dsimp only at hQ
      have F2 : PFs μ μ2 := f1.ps.tr (f2.ps (by omega) (by omega))
      have C2 : Cst μ2 77 S.2 := S1.2.side77 (n := S.2.1.length) (j := 0) (Nat.le_refl _) (by omega) (by decide) f2.1
      have G2 : CSg μ2 73 S.1 := S1.1.fr fun b g1 g2 => f2.1 b (by omega) (by omega) (by omega) (by omega)
      have k12 := rdT_tk _ _ _ _ n1.1 _ _ he
      have kok := rdT_ok hok.1 _ _ _ _ v1 (rdI_0 _ _ _) _ _ he
      have erc : μ2 (rc 77 S.2.1.length) = μ1 (rc 77 S.2.1.length) := f2.1 _ (by omega) (by omega) (by omega) (by omega)
      by_cases hk : t2.1 = 61
      · rw [if_neg (fun q => q hk)] at hQ
        rw [if_pos hk]
        refine c_nextI (hB.ps F2) tk2 k12.1 fun μ3 t3 f3 => ?_
        have n3 := nx_le k12.1
        have v3 := nx_v B t2.2.2
        generalize nx B t2.2.2 = w at *
        have F3 := F2.tr f3.ps
        have C3 : Cst μ3 77 S.2 := C2.fr rt_st.2.2.2.1 fun b g1 g2 => f3.1 b (by omega)
        have G3 : CSg μ3 73 S.1 := G2.fr fun b g1 g2 => f3.1 b (by omega)
        have erc3 : μ3 (rc 77 S.2.1.length) = μ1 (rc 77 S.2.1.length) := by rw [f3.1 _ (by omega)]; exact erc
        have hne := S1.2.1.ne rt_st.2.2.2.1 (i := S.2.1.length) (j := 0) (i1 := S.2.1.length) (j1 := 1) (by omega) (by decide) (by omega) (by decide) (by omega)
        obtain ⟨i2, j2, m1, m2, m3, m4, m5⟩ := S1.2.1.side rt_st.2.2.2.1 (i := S.2.1.length) (j := 1) (by omega) (by omega)
        have rd1 : rt (dp (μ1 (rc 77 S.2.1.length) 1)) = 8 := dp_rt _
        have nb : ∀ i, i < 6 → dp (μ1 (rc 77 S.2.1.length) 1) ≠ rc 77 i ∧ dp (μ1 (rc 77 S.2.1.length) 1) + 1 ≠ rc 77 i := fun i hi => by have := hrc i; omega
        have L3 : IsT μ3 (dp (μ1 (rc 77 S.2.1.length) 0)) L := hL.fr (f3.1 _ (by omega)) (f3.1 _ (by omega))
        rw [erc3]
        refine c_pReadTerm (a := dp (μ1 (rc 77 S.2.1.length) 1)) (n := S.2.1.length) (lim := 12) (role := 2) (L := L) rfl rfl (by decide) (by decide) (hB.ps F3) t3 n3.1 v3 G3 hok.1 (by omega) (by omega) (by omega) rd1 (fun _ => C3.2.1.1) (by omega) (fun _ => by rw [erc3]; exact L3) (nb _ (by omega)) (by omega) (fun _ => by rw [erc3]; exact hne) (fun μ4 e he2 f4 q0 q1 => ?_) (fun μ4 R t4 he2 f4 tk4 hR => ?_)
        · rw [if_neg (by decide)]
          rw [he2] at hQ
          exact hQ.1 μ4 e rfl (F3.te (f4.pr (by omega) (by omega))) (C3.1.fe f4 nb) q0 q1
        · rw [if_pos rfl]
          rw [he2] at hQ
          dsimp only at hQ
          have F4 : PFs μ μ4 := F3.tr (f4.ps (by omega) (by omega))
          have C4 : Cst μ4 77 S.2 := C3.side77 (n := S.2.1.length) (j := 1) (Nat.le_refl _) (by omega) (by decide) (by rw [erc3]; exact f4.1)
          have G4 : CSg μ4 73 S.1 := G3.fr fun b g1 g2 => f4.1 b (by omega) (by omega) (by omega) (by omega)
          have erc4 : μ4 (rc 77 S.2.1.length) = μ1 (rc 77 S.2.1.length) := by rw [f4.1 _ (by omega) (by omega) (by omega) (by omega)]; exact erc3
          have n10 := rt8_ne rd0 rd1
          have n01 := rt8_ne rd1 rd0
          have L4 : IsT μ4 (dp (μ1 (rc 77 S.2.1.length) 0)) L := L3.fr (f4.1 _ (by omega) (by omega) hne n10) (f4.1 _ (by omega) (by omega) (fun q => n01 q.symm) (by omega))
          have en : wr (μ4 77 0 + 1) = ((S.2.1.length + 1 : Nat) : Int) := by rw [C4.2.1.1, wr_id (by omega) (by omega)]; omega
          rw [en]
          have rr : ∀ b, b ≠ 77 → mup μ4 77 0 ((S.2.1.length + 1 : Nat) : Int) b = μ4 b := fun b hb => mup_r hb
          refine hQ.2 _ _ _ rfl (F4.tr ⟨fun b hb => rr b (by omega), fun j _ _ _ => by rw [rr 72 (by decide)]⟩) ⟨G4.fr fun b g1 g2 => rr b (by omega), C4.1.ofRc fun i hi => rr _ (by have := hrc i; omega), ⟨by rw [mup_s, List.length_append, List.length_singleton], by rw [List.length_append, List.length_singleton]; omega, fun i hi => ?_⟩, ?_⟩ ?_
          · rw [List.length_append, List.length_singleton] at hi
            rw [rr _ (by have := hrc i; omega)]
            by_cases e : i = S.2.1.length
            · have eg : (S.2.1 ++ [(L, R)]).getD i ([], []) = (L, R) := by
                rw [getD_app_r (by omega), e, Nat.sub_self]
                rfl
              rw [eg, e, erc4]
              exact ⟨L4.fr (rr _ (by omega)) (rr _ (by omega)), hR.fr (rr _ (by omega)) (rr _ (by omega))⟩
            · have eg : (S.2.1 ++ [(L, R)]).getD i ([], []) = S.2.1.getD i ([], []) := getD_app_l (by omega)
              rw [eg]
              obtain ⟨x1, x2⟩ := C4.2.1.2.2 i (by omega)
              obtain ⟨a1, b1, y1, y2, y3, _⟩ := C4.1.side rt_st.2.2.2.1 (i := i) (j := 0) (by omega) (by omega)
              obtain ⟨a2, b2, z1, z2, z3, _⟩ := C4.1.side rt_st.2.2.2.1 (i := i) (j := 1) (by omega) (by omega)
              exact ⟨x1.fr (rr _ (by omega)) (rr _ (by omega)), x2.fr (rr _ (by omega)) (rr _ (by omega))⟩
          · obtain ⟨x1, x2, x3⟩ := C4.2.2
            refine ⟨by rw [mup_k (by decide)]; exact x1, x2, fun i hi => ?_⟩
            have := tc_eq 77 i
            exact (x3 i hi).fr (rr _ (by omega)) (rr _ (by omega))
          · unfold TkC
            rw [rr 72 (by decide)]
            exact tk4
      · rw [if_pos hk] at hQ
        rw [if_neg hk]
        exact c_pFailI hQ F2 rfl rfl tk2 C2.1
theorem c_pReadTermI {Q : Bool → Mem → Prop} (hB : PTx μ B) (ht : TkC μ t) (tok : tkok B t) (hS : CSt μ S) (hok : POK S) (hQ : IQ μ (iTrm B S t) Q) : d_Parser_readPlainTerm μ Q := by
  unfold d_Parser_readPlainTerm
  unfold iTrm at hQ
  have hST := hS.2.2.2
  rw [hST.1]
  by_cases l6 : 6 ≤ S.2.2.length
  · rw [if_pos l6] at hQ
    rw [if_neg (by omega)]
    exact c_pFailI hQ PFs.rfl' rfl rfl ht hS.2.1
  · rw [if_neg l6] at hQ
    rw [if_pos (by omega)]
    refine c_nextI hB ht tok fun μ1 t1 f1 => ?_
    have n1 := nx_le tok
    have v1 := nx_v B t.2.2
    have S1 := hS.fn f1
    have B1 := hB.fn f1
    generalize nx B t.2.2 = u at *
    rw [S1.2.2.2.1]
    refine c_State_term (by omega) ?_
    have hrc : ∀ i, rc 77 i = 87 + 5 * i := fun i => by have := rc_eq 77 i; omega
    have htc : ∀ i, tc 77 i = 117 + 2 * i := fun i => by have := tc_eq 77 i; omega
    have ht0 := htc S.2.2.length
    obtain ⟨rd, ld⟩ := tc_rt rt_st.2.2.2.1 (i := S.2.2.length) (by omega)
    have na : ∀ i, i < 6 → tc 77 S.2.2.length ≠ rc 77 i ∧ tc 77 S.2.2.length + 1 ≠ rc 77 i := fun i hi => by have := hrc i; omega
    refine c_pReadTerm (a := tc 77 S.2.2.length) (n := 0) (lim := 40) (role := 0) (L := []) rfl rfl (by decide) (by decide) B1 t1 n1.1 v1 S1.1 hok.1 (by omega) (by omega) (by omega) rd (fun q => by cases q) (by omega) (fun q => by cases q) (na 0 (by omega)) (by omega) (fun q => by cases q) (fun μ2 e he f2 q0 q1 => ?_) (fun μ2 T t2 he f2 tk2 hT => ?_)
    · rw [if_neg (by decide)]
      rw [he] at hQ
      exact hQ.1 μ2 e rfl (f1.ps.te (f2.pr (by omega) (by omega))) (S1.2.1.fe f2 na) q0 q1
    · rw [if_pos rfl]
      rw [he] at hQ
      dsimp only at hQ
      have F2 : PFs μ μ2 := f1.ps.tr (f2.ps (by omega) (by omega))
      have e77 : μ2 77 = μ1 77 := f2.1 77 (by omega) (by omega) (by omega) (by omega)
      have en : wr (μ2 77 1 + 1) = ((S.2.2.length + 1 : Nat) : Int) := by rw [e77, S1.2.2.2.1, wr_id (by omega) (by omega)]; omega
      rw [en]
      have rr : ∀ b, b ≠ 77 → mup μ2 77 1 ((S.2.2.length + 1 : Nat) : Int) b = μ2 b := fun b hb => mup_r hb
      have rs : ∀ b, b ≠ 72 → b ≠ 77 → b < 117 → mup μ2 77 1 ((S.2.2.length + 1 : Nat) : Int) b = μ1 b := fun b k0 k1 k2 => by rw [rr b k1, f2.1 b k0 (by omega) (by omega) (by omega)]
      refine hQ.2 _ _ _ rfl (F2.tr ⟨fun b hb => rr b (by omega), fun j _ _ _ => by rw [rr 72 (by decide)]⟩) ⟨S1.1.fr fun b g1 g2 => rs b (by omega) (by omega) (by omega), S1.2.1.ofRc fun i hi => rs _ (by have := hrc i; omega) (by have := hrc i; omega) (by have := hrc i; omega), ?_, ⟨by rw [mup_s, List.length_append, List.length_singleton], by rw [List.length_append, List.length_singleton]; omega, fun i hi => ?_⟩⟩ ?_
      · exact S1.2.2.1.fr S1.2.1 rt_st.2.2.2.1 (by rw [mup_k (by decide), e77]) fun b g1 g2 => rs b (by omega) (by omega) (by omega)
      · rw [List.length_append, List.length_singleton] at hi
        have hti := htc i
        by_cases e : i = S.2.2.length
        · have eg : (S.2.2 ++ [T]).getD i [] = T := by
            rw [getD_app_r (by omega), e, Nat.sub_self]
            rfl
          rw [eg, e]
          exact hT.fr (rr _ (by omega)) (rr _ (by omega))
        · have eg : (S.2.2 ++ [T]).getD i [] = S.2.2.getD i [] := getD_app_l (by omega)
          rw [eg]
          exact (S1.2.2.2.2.2 i (by omega)).fr (by rw [rr _ (by omega), f2.1 _ (by omega) (by omega) (by omega) (by omega)]) (by rw [rr _ (by omega), f2.1 _ (by omega) (by omega) (by omega) (by omega)])
      · unfold TkC
        rw [rr 72 (by decide)]
        exact tk2
end Q77

