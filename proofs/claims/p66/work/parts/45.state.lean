/-! WHAT A CALL ANSWERS: the abstract state; unifiers; critical pairs; how the class and the reference hold the state -/
/-- variables of the second term renamed -/
def shv (L : List Int) : List Int := L.map fun c => if c < 0 then c - 8 else c
def isU (σ : Int → List Int) (s t : List Int) : Prop := (∀ c, c < 0 → wl (σ c) 1 = true) ∧ sv σ s = sv σ t
def mgu (θ : Int → List Int) (s t : List Int) : Prop := isU θ s t ∧ ∀ σ, isU σ s t → ∀ c, c < 0 → sv σ (θ c) = σ c
noncomputable def mguOf (s t : List Int) : Option (Int → List Int) := @dite _ (∃ θ, mgu θ s t) (Classical.propDecidable _) (fun h => some (Classical.choose h)) (fun _ => none)
/-- variables in the order of their first occurrence; the names that they get -/
def vord : List Int → List Int → List Int
  | [], V => V
  | c :: r, V => vord r (if c < 0 ∧ ¬ c ∈ V then V ++ [c] else V)
def cnm (V : List Int) (c : Int) : Int := if c < 0 then -1 - (V.idxOf c : Int) else c
def cn (L : List Int) : List Int := L.map (cnm (vord L []))
abbrev Pr1 : Type := (Nat × Nat × Nat) × List Int × List Int
noncomputable def pr1 (r1 r2 : Rl2) (p : Nat) : Option (List Int × List Int) := match mguOf (sb r1.1 p) (shv r2.1) with
  | none => none
  | some θ => if (sv θ r1.2).length ≤ 80 ∧ (sv θ (r1.1.take p ++ shv r2.2 ++ r1.1.drop (en r1.1 p))).length ≤ 80 then
      some ((cn (sv θ r1.2 ++ sv θ (r1.1.take p ++ shv r2.2 ++ r1.1.drop (en r1.1 p)))).take (sv θ r1.2).length, (cn (sv θ r1.2 ++ sv θ (r1.1.take p ++ shv r2.2 ++ r1.1.drop (en r1.1 p)))).drop (sv θ r1.2).length)
    else none
/-- the places that are tried, in their order -/
def plc (rs : List Rl2) : List (Nat × Nat × Nat) := (List.range rs.length).flatMap fun i => (List.range rs.length).flatMap fun j => ((List.range (rs.getD i ([], [])).1.length).filter fun p => decide (¬ (i = j ∧ p = 0))).map fun p => (i, j, p)
noncomputable def pr2 (rs : List Rl2) (q : Nat × Nat × Nat) : Option Pr1 := if 0 ≤ (rs.getD q.1 ([], [])).1.getD q.2.2 0 then (match pr1 (rs.getD q.1 ([], [])) (rs.getD q.2.1 ([], [])) q.2.2 with
  | none => none
  | some X => some (q, X)) else none
noncomputable def prs (rs : List Rl2) : List Pr1 := ((plc rs).filterMap (pr2 rs)).take 20
abbrev Cf : Type := List Rl2 × List (List Int)
abbrev Sy : Type := List (Nat × List Int)
abbrev AS : Type := (Bool × Sy × Cf) × (List Cf × Option Cf × Option Cf) × (List Int × Int × Int) × List Int
def aL (A : AS) : Bool := A.1.1
def aS (A : AS) : Sy := A.1.2.1
def aC (A : AS) : Cf := A.1.2.2
def aR (A : AS) : List Rl2 := A.1.2.2.1
def aT (A : AS) : List (List Int) := A.1.2.2.2
def aH (A : AS) : List Cf := A.2.1.1
def a0 (A : AS) : Option Cf := A.2.1.2.1
def a1 (A : AS) : Option Cf := A.2.1.2.2
def aB (A : AS) : List Int := A.2.2.1.1
def aE (A : AS) : Int := A.2.2.1.2.1
def aP (A : AS) : Int := A.2.2.1.2.2
def aO (A : AS) : List Int := A.2.2.2
def arS (sy : Sy) : List Nat := sy.map (·.1)
/-- rules and terms anew, and what can be undone -/
def wC (A : AS) (c : Cf) : AS := ((A.1.1, A.1.2.1, c), (((A.1.2.2 :: A.2.1.1).take 8), A.2.1.2), A.2.2)
def wO (A : AS) (o : List Int) : AS := (A.1, A.2.1, A.2.2.1, o)
def syok (sy : Sy) : Prop := sy.length ≤ 8 ∧ ∀ q, q ∈ sy → q.1 ≤ 3 ∧ 1 ≤ q.2.length ∧ q.2.length ≤ 6 ∧ ∀ c, c ∈ q.2 → 97 ≤ c ∧ c ≤ 122
/-- the abstract state keeps its bounds -/
def AOK (A : AS) : Prop := syok (aS A) ∧ okc (arS (aS A)) (aC A) ∧ (∀ c, c ∈ aH A → okc (arS (aS A)) c) ∧ (aH A).length ≤ 8 ∧ (∀ c, a0 A = some c → okc (arS (aS A)) c) ∧ (∀ c, a1 A = some c → okc (arS (aS A)) c) ∧ ((aB A).length ≤ 500 ∧ ∀ c, c ∈ aB A → 0 ≤ c ∧ c ≤ 255) ∧ ((aO A).length ≤ 1600 ∧ ∀ c, c ∈ aO A → 0 ≤ c ∧ c ≤ 127) ∧ (aE A = 0 ∨ (1 ≤ aE A ∧ aE A ≤ 5)) ∧ (-1 ≤ aP A ∧ aP A ≤ 500) ∧ (aL A = false → aC A = ([], []) ∧ aS A = [] ∧ aH A = [] ∧ a0 A = none ∧ a1 A = none)
/-! the class -/
def CSg (μ : Mem) (a : Nat) (sy : Sy) : Prop := μ a 0 = (sy.length : Int) ∧ ∀ i, i < sy.length → μ (a + 1) i = (((sy.getD i (0, [])).1 : Nat) : Int) ∧ μ (a + 2) i = (((sy.getD i (0, [])).2.length : Nat) : Int) ∧ Sg (μ (a + 3)) (6 * i) (sy.getD i (0, [])).2
def hc (k : Nat) : Nat := 249 + 52 * k
def CHs (μ : Mem) (hs : List Cf) : Prop := μ 247 0 = (hs.length : Int) ∧ (∀ k, k < 8 → SP μ (hc k)) ∧ ∃ nw : Nat, nw < 8 ∧ μ 247 1 = (nw : Int) ∧ ∀ i, i < hs.length → SR μ (hc ((nw + 8 - i) % 8)) (hs.getD i ([], [])).1 ∧ ST μ (hc ((nw + 8 - i) % 8)) (hs.getD i ([], [])).2
def CSv (μ : Mem) (a k : Nat) (s : Option Cf) : Prop := SP μ a ∧ μ 0 k = b2i s.isSome ∧ ∀ c, s = some c → SR μ a c.1 ∧ ST μ a c.2
def CBu (μ : Mem) (A : AS) : Prop := μ 72 0 = aE A ∧ μ 72 1 = aP A ∧ μ 72 4 = ((aB A).length : Int) ∧ Sg (μ 129) 0 (aB A)
def COu (μ : Mem) (o : List Int) : Prop := μ 244 0 = (o.length : Int) ∧ Sg (μ 245) 0 o
/-- cells of the terms of pairs -/
def f1 (i : Nat) : Nat := 159 + (5 + 4 * i)
def f2 (i : Nat) : Nat := 160 + (6 + 4 * i)
def CPv (μ : Mem) (rs : List Rl2) : Prop := μ 139 1 = ((prs rs).length : Int) ∧ ∀ i, i < (prs rs).length → μ 155 i = (((prs rs).getD i ((0, 0, 0), [], [])).1.1 : Nat) ∧ μ 156 i = (((prs rs).getD i ((0, 0, 0), [], [])).1.2.1 : Nat) ∧ μ 157 i = (((prs rs).getD i ((0, 0, 0), [], [])).1.2.2 : Nat) ∧ IsT μ (f1 i) ((prs rs).getD i ((0, 0, 0), [], [])).2.1 ∧ IsT μ (f2 i) ((prs rs).getD i ((0, 0, 0), [], [])).2.2 ∧ (μ 158 i = 0 ∨ μ 158 i = (if mee rs 50 ((prs rs).getD i ((0, 0, 0), [], [])).2.1 ((prs rs).getD i ((0, 0, 0), [], [])).2.2 = true then 1 else 2))
def CPa (μ : Mem) (rs : List Rl2) : Prop := μ 139 0 = 1 ∨ (μ 139 0 = 0 ∧ CPv μ rs)
/-- the class's cells hold the state -/
def CI (μ : Mem) (A : AS) : Prop := μ 0 0 = b2i (aL A) ∧ CSg μ 1 (aS A) ∧ (SP μ 5 ∧ SR μ 5 (aR A) ∧ ST μ 5 (aT A)) ∧ (CSv μ 665 11 (a0 A) ∧ CSv μ 717 12 (a1 A)) ∧ (CBu μ A ∧ SP μ 77) ∧ CPa μ (aR A) ∧ COu μ (aO A) ∧ CHs μ (aH A)
/-! the reference -/
def MNw (f : Nat → Int) (o : Nat) (sy : Sy) (c : Cf) : Prop := f o = (sy.length : Int) ∧ f (o + 1) = (c.1.length : Int) ∧ f (o + 2) = (c.2.length : Int) ∧ (∀ i, i < sy.length → f (o + 3 + 8 * i) = (((sy.getD i (0, [])).1 : Nat) : Int) ∧ f (o + 4 + 8 * i) = (((sy.getD i (0, [])).2.length : Nat) : Int) ∧ Sg f (o + 5 + 8 * i) (sy.getD i (0, [])).2) ∧ (∀ i, i < c.1.length → f (o + 67 + 26 * i) = ((c.1.getD i ([], [])).1.length : Int) ∧ f (o + 68 + 26 * i) = ((c.1.getD i ([], [])).2.length : Int) ∧ Me f (o + 69 + 26 * i) (c.1.getD i ([], [])).1 ∧ Me f (o + 81 + 26 * i) (c.1.getD i ([], [])).2) ∧ ∀ i, i < c.2.length → f (o + 223 + 81 * i) = ((c.2.getD i []).length : Int) ∧ Me f (o + 224 + 81 * i) (c.2.getD i [])
def sg8 (c : Int) : Int := if c < 128 then c else c - 256
def MHs (μ : Mem) (sy : Sy) (hs : List Cf) : Prop := μ 772 7 = (hs.length : Int) ∧ ∀ i, i < hs.length → MNw (μ 775) ((hs.length - 1 - i) * 709) sy (hs.getD i ([], []))
def MSv (μ : Mem) (sy : Sy) (k : Nat) (s : Option Cf) : Prop := μ 777 k = b2i s.isSome ∧ ∀ c, s = some c → MNw (μ 776) (k * 709) sy c
def MBu (μ : Mem) (A : AS) : Prop := μ 772 10 = aE A ∧ μ 772 11 = aP A ∧ μ 772 9 = ((aB A).length : Int) ∧ Sg (μ 778) 0 ((aB A).map sg8)
def MOu (μ : Mem) (o : List Int) : Prop := μ 772 44 = (o.length : Int) ∧ Sg (μ 794) 0 o
def MI (μ : Mem) (A : AS) : Prop := μ 772 6 = b2i (aL A) ∧ MNw (μ 773) 0 (aS A) (aC A) ∧ MHs μ (aS A) (aH A) ∧ (MSv μ (aS A) 0 (a0 A) ∧ MSv μ (aS A) 1 (a1 A)) ∧ MBu μ A ∧ MOu μ (aO A)
/-! what stays -/
theorem rt_st : rt 5 = 7 ∧ rt 665 = 7 ∧ rt 717 = 7 ∧ rt 77 = 7 ∧ ∀ k, k < 8 → rt (hc k) = 7 := by
  refine ⟨by decide +kernel, by decide +kernel, by decide +kernel, by decide +kernel, fun k hk => ?_⟩
  have h : ∀ i : Fin 8, rt (hc i) = 7 := by decide +kernel
  exact h ⟨k, hk⟩
theorem CSg.fr {μ μ' : Mem} {a : Nat} {sy : Sy} (h : CSg μ a sy) (hf : ∀ b, a ≤ b → b < a + 4 → μ' b = μ b) : CSg μ' a sy := by
  unfold CSg at *
  rw [hf a (by omega) (by omega), hf (a + 1) (by omega) (by omega), hf (a + 2) (by omega) (by omega), hf (a + 3) (by omega) (by omega)]
  exact h
/-- rows of a state -/
def Cst (μ : Mem) (s : Nat) (c : Cf) : Prop := SP μ s ∧ SR μ s c.1 ∧ ST μ s c.2
theorem Cst.fr {μ μ' : Mem} {s : Nat} {c : Cf} (h : Cst μ s c) (hs : rt s = 7) (hf : ∀ b, s ≤ b → b < s + 52 → μ' b = μ b) : Cst μ' s c :=
  ⟨h.1.fr fun b h1 h2 => hf b (by omega) (by omega), h.2.1.fr h.1 hs (congrFun (hf s (by omega) (by omega)) 0) fun b h1 h2 => hf b (by omega) (by omega), h.2.2.fr (congrFun (hf s (by omega) (by omega)) 1) fun b h1 h2 => hf b (by omega) (by omega)⟩
theorem CHs.fr {μ μ' : Mem} {hs : List Cf} (h : CHs μ hs) (hf : ∀ b, 247 ≤ b → b < 665 → μ' b = μ b) : CHs μ' hs := by
  obtain ⟨h1, h2, nw, h3, h4, h5⟩ := h
  have e := hf 247 (by omega) (by omega)
  have hsp : ∀ k, k < 8 → SP μ' (hc k) := fun k hk => (h2 k hk).fr fun b g1 g2 => hf b (by unfold hc at g1; omega) (by unfold hc at g2; omega)
  refine ⟨by rw [e]; exact h1, hsp, nw, h3, by rw [e]; exact h4, fun i hi => ?_⟩
  have hk : (nw + 8 - i) % 8 < 8 := Nat.mod_lt _ (by decide)
  have := Cst.fr (c := hs.getD i ([], [])) ⟨h2 _ hk, (h5 i hi).1, (h5 i hi).2⟩ (rt_st.2.2.2.2 _ hk) (fun b g1 g2 => hf b (by unfold hc at g1; omega) (by unfold hc at g2; omega))
  exact this.2
theorem CSv.fr {μ μ' : Mem} {a k : Nat} {s : Option Cf} (h : CSv μ a k s) (ha : rt a = 7) (h0 : μ' 0 k = μ 0 k) (hf : ∀ b, a ≤ b → b < a + 52 → μ' b = μ b) : CSv μ' a k s :=
  ⟨h.1.fr fun b g1 g2 => hf b (by omega) (by omega), by rw [h0]; exact h.2.1, fun c hc => (Cst.fr (c := c) ⟨h.1, (h.2.2 c hc).1, (h.2.2 c hc).2⟩ ha hf).2⟩
theorem prs_len (rs : List Rl2) : (prs rs).length ≤ 20 := by
  unfold prs
  rw [List.length_take]
  omega
theorem CPa.fr {μ μ' : Mem} {rs : List Rl2} (h : CPa μ rs) (hf : ∀ b, 139 ≤ b → b < 244 → μ' b = μ b) : CPa μ' rs := by
  unfold CPa at *
  rw [hf 139 (by omega) (by omega)]
  rcases h with h | ⟨h1, h2⟩
  · exact Or.inl h
  · refine Or.inr ⟨h1, ?_⟩
    unfold CPv at *
    rw [hf 139 (by omega) (by omega), hf 155 (by omega) (by omega), hf 156 (by omega) (by omega), hf 157 (by omega) (by omega), hf 158 (by omega) (by omega)]
    refine ⟨h2.1, fun i hi => ?_⟩
    have hl := prs_len rs
    obtain ⟨g1, g2, g3, g4, g5, g6⟩ := h2.2 i hi
    exact ⟨g1, g2, g3, g4.fr (hf _ (by unfold f1; omega) (by unfold f1; omega)) (hf _ (by unfold f1; omega) (by unfold f1; omega)), g5.fr (hf _ (by unfold f2; omega) (by unfold f2; omega)) (hf _ (by unfold f2; omega) (by unfold f2; omega)), g6⟩
theorem CBu.fr {μ μ' : Mem} {A : AS} (h : CBu μ A) (h1 : μ' 72 = μ 72) (h2 : μ' 129 = μ 129) : CBu μ' A := by
  unfold CBu at *
  rw [h1, h2]
  exact h
theorem COu.fr {μ μ' : Mem} {o : List Int} (h : COu μ o) (h1 : μ' 244 = μ 244) (h2 : μ' 245 = μ 245) : COu μ' o := by
  unfold COu at *
  rw [h1, h2]
  exact h
/-- the rows that a call that only looks may use: the rewriter, the unifier, scratch, heights -/
def Fq (μ μ' : Mem) : Prop := ∀ b, b < 57 ∨ (72 ≤ b ∧ b < 769) ∨ 772 ≤ b → μ' b = μ b
theorem Fq.rfl' {μ : Mem} : Fq μ μ := fun _ _ => rfl
theorem Fq.tr {μ μ1 μ2 : Mem} (h1 : Fq μ μ1) (h2 : Fq μ1 μ2) : Fq μ μ2 := fun b hb => by rw [h2 b hb, h1 b hb]
theorem CI.fq {μ μ' : Mem} {A : AS} (h : CI μ A) (hf : ∀ b, b < 57 ∨ (72 ≤ b ∧ b < 769) → μ' b = μ b) : CI μ' A := by
  obtain ⟨h1, h2, h3, ⟨h4, h5⟩, ⟨h6, h7⟩, h8, h9, h10⟩ := h
  have e0 := hf 0 (by omega)
  exact ⟨by rw [e0]; exact h1, h2.fr fun b g1 g2 => hf b (by omega), Cst.fr (c := aC A) h3 rt_st.1 fun b g1 g2 => hf b (by omega), ⟨h4.fr rt_st.2.1 (by rw [e0]) fun b g1 g2 => hf b (by omega), h5.fr rt_st.2.2.1 (by rw [e0]) fun b g1 g2 => hf b (by omega)⟩, ⟨h6.fr (hf _ (by omega)) (hf _ (by omega)), h7.fr fun b g1 g2 => hf b (by omega)⟩, h8.fr fun b g1 g2 => hf b (by omega), h9.fr (hf _ (by omega)) (hf _ (by omega)), h10.fr fun b g1 g2 => hf b (by omega)⟩
/-- what the class's call leaves of the reference's rows, and how often it has thrown -/
def FrC (μ μ' : Mem) : Prop := (∀ b, 772 ≤ b → b < 795 → μ' b = μ b) ∧ μ 797 0 ≤ μ' 797 0 ∧ μ' 797 0 ≤ μ 797 0 + 1
/-- what the reference's call leaves -/
def FrM (μ μ' : Mem) : Prop := ∀ b, b < 772 ∨ 795 ≤ b → μ' b = μ b
theorem CI.frM {μ μ' : Mem} {A : AS} (h : CI μ A) (hf : FrM μ μ') : CI μ' A := h.fq fun b hb => hf b (by omega)
theorem MI.of {μ μ' : Mem} {A : AS} (h : MI μ A) (h1 : μ' 772 6 = μ 772 6) (h2 : μ' 773 = μ 773) (h3 : μ' 772 7 = μ 772 7) (h4 : μ' 775 = μ 775) (h5 : μ' 776 = μ 776) (h6 : μ' 777 = μ 777) (h7 : μ' 772 9 = μ 772 9) (h8 : μ' 772 10 = μ 772 10) (h9 : μ' 772 11 = μ 772 11) (h10 : μ' 778 = μ 778) (h11 : μ' 772 44 = μ 772 44) (h12 : μ' 794 = μ 794) : MI μ' A := by
  unfold MI MHs MSv MBu MOu at *
  rw [h1, h2, h3, h4, h5, h6, h7, h8, h9, h10, h11, h12]
  exact h
theorem MI.frC {μ μ' : Mem} {A : AS} (h : MI μ A) (hf : FrC μ μ') : MI μ' A := by
  have e : μ' 772 = μ 772 := hf.1 772 (by omega) (by omega)
  exact h.of (by rw [e]) (hf.1 _ (by omega) (by omega)) (by rw [e]) (hf.1 _ (by omega) (by omega)) (hf.1 _ (by omega) (by omega)) (hf.1 _ (by omega) (by omega)) (by rw [e]) (by rw [e]) (by rw [e]) (hf.1 _ (by omega) (by omega)) (by rw [e]) (hf.1 _ (by omega) (by omega))
/-- rows and fields that the reference's looking calls may use -/
abbrev qmR : List Nat := [779, 780, 781, 782, 783, 784, 785, 786, 787, 788, 789, 790, 791, 792, 793]
abbrev qmF : List Nat := [0, 25, 26, 27, 35, 36, 41, 42]
theorem MI.gq {μ μ' : Mem} {A : AS} (h : MI μ A) (hg : Gm qmR qmF μ μ') : MI μ' A :=
  h.of (hg.2 _ (by decide)) (hg.1 _ (by decide) (by decide)) (hg.2 _ (by decide)) (hg.1 _ (by decide) (by decide)) (hg.1 _ (by decide) (by decide)) (hg.1 _ (by decide) (by decide)) (hg.2 _ (by decide)) (hg.2 _ (by decide)) (hg.2 _ (by decide)) (hg.1 _ (by decide) (by decide)) (hg.2 _ (by decide)) (hg.1 _ (by decide) (by decide))
theorem Gm.frM {r f : List Nat} {μ μ' : Mem} (h : Gm r f μ μ') (hr : ∀ x, x ∈ r → 773 ≤ x ∧ x < 795) : FrM μ μ' := fun b hb => h.1 b (by omega) (fun q => by have := hr b q; omega)
theorem Gm.frMq {μ μ' : Mem} (h : Gm qmR qmF μ μ') : FrM μ μ' := h.frM (by decide)
theorem Fq.frC {μ μ' : Mem} (h : Fq μ μ') : FrC μ μ' := ⟨fun b h1 h2 => h b (by omega), by rw [h 797 (by omega)]; omega, by rw [h 797 (by omega)]; omega⟩
theorem Fq.frCt {μ μ' : Mem} (h : Fq μ μ') : FrC μ (thr μ') := by
  unfold thr
  refine ⟨fun b h1 h2 => by rw [mup_r (by omega)]; exact h b (by omega), ?_, ?_⟩
  · rw [mup_s, h 797 (by omega)]; omega
  · rw [mup_s, h 797 (by omega)]; omega
theorem CI.thr {μ : Mem} {A : AS} (h : CI μ A) : CI (thr μ) A := h.fq fun b hb => by
  show mup μ 797 0 (μ 797 0 + 1) b = μ b
  exact mup_r (by omega)
theorem CI.mup {μ : Mem} {A : AS} {a k : Nat} {z : Int} (h : CI μ A) (ha : 769 ≤ a) : CI (mup μ a k z) A := h.fq fun b hb => mup_r (by omega)

