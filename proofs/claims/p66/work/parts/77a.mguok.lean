/-! MOST GENERAL UNIFIERS: what nodes their terms have; the names of variables; critical pairs -/
theorem mgu_fix {θ : Int → List Int} {s t : List Int} (h : mgu θ s t) {c w : Int} (hc : c < 0) (hw : w ∈ θ c) (hn : w < 0) : θ w = [w] := by
  have e := h.2 θ h.1 c hc
  obtain ⟨ρ, r1, r2, r3⟩ := sv_map h.1.1 (θ c) (by rw [e])
  rw [e] at r1
  have := map_id (f := ρ) (θ c) r1.symm w hw
  rw [r3 w hw hn, this]
theorem wl_map {g : Int → Int} : ∀ (L : List Int) (d : Nat), (∀ x, x ∈ L → ar (g x) = ar x) → wl (L.map g) d = wl L d := by
  intro L
  induction L with
  | nil => intro d _; rfl
  | cons c r ih =>
    intro d h
    cases d with
    | zero => rfl
    | succ d =>
      show wl (g c :: r.map g) (d + 1) = wl (c :: r) (d + 1)
      rw [wl_cons, wl_cons, h c (List.mem_cons_self ..)]
      exact ih _ fun x hx => h x (List.mem_cons_of_mem _ hx)
theorem sv_mapg {θ : Int → List Int} {g : Int → Int} : ∀ L : List Int, (∀ x, x ∈ L → 0 ≤ x → g x = x) → sv (fun x => (θ x).map g) L = (sv θ L).map g := by
  intro L
  induction L with
  | nil => intro _; rfl
  | cons c r ih =>
    intro h
    rw [sv_cons, sv_cons, ih fun x hx => h x (List.mem_cons_of_mem _ hx), List.map_append]
    by_cases n : c < 0
    · rw [if_pos n, if_pos n]
    · rw [if_neg n, if_neg n, List.map_cons, h c (List.mem_cons_self ..) (by omega)]
      rfl
theorem sv_single {g : Int → Int} : ∀ L : List Int, (∀ x, x ∈ L → 0 ≤ x → g x = x) → sv (fun x => [g x]) L = L.map g := by
  intro L
  induction L with
  | nil => intro _; rfl
  | cons c r ih =>
    intro h
    rw [sv_cons, ih fun x hx => h x (List.mem_cons_of_mem _ hx), List.map_cons]
    by_cases n : c < 0
    · rw [if_pos n]
      rfl
    · rw [if_neg n, h c (List.mem_cons_self ..) (by omega)]
      rfl
theorem mgu_sym {θ : Int → List Int} {s t : List Int} (h : mgu θ s t) {c f : Int} (hc : c < 0) (hf : f ∈ θ c) (h0 : 0 ≤ f) : f ∈ s ∨ f ∈ t := by
  by_cases k : f ∈ s ∨ f ∈ t
  · exact k
  exfalso
  have key : ∀ g : Int → Int, (∀ x, x ≠ f → g x = x) → g f = f + 4 → False := by
    intro g g1 g2
    have ga : ∀ x, ar (g x) = ar x := fun x => by
      by_cases e : x = f
      · rw [e, g2]
        unfold ar
        rw [if_neg (by omega), if_neg (by omega)]
        omega
      · rw [g1 x e]
    have hu : isU (fun x => (θ x).map g) s t := by
      refine ⟨fun x hx => ?_, ?_⟩
      · dsimp only
        rw [wl_map _ _ fun y _ => ga y]
        exact h.1.1 x hx
      · rw [sv_mapg s fun x hx _ => g1 x fun e => k (Or.inl (by rw [← e]; exact hx)), sv_mapg t fun x hx _ => g1 x fun e => k (Or.inr (by rw [← e]; exact hx)), h.1.2]
    have e := h.2 _ hu c hc
    have e2 : sv (fun x => (θ x).map g) (θ c) = θ c := by
      rw [sv_congr (τ := fun x => [x]) _ fun w hw hn => ?_]
      · exact sv_id _
      · rw [mgu_fix h hc hw hn]
        show [g w] = [w]
        rw [g1 w (by omega)]
    rw [e2] at e
    have := map_id (f := g) (θ c) e.symm f hf
    omega
  exact key (fun x => if x = f then f + 4 else x) (fun x hx => if_neg hx) (if_pos rfl)
theorem mgu_var {θ : Int → List Int} {s t : List Int} (h : mgu θ s t) {c w : Int} (hc : c < 0) (hw : w ∈ θ c) (hn : w < 0) : w = c ∨ w ∈ s ∨ w ∈ t := by
  by_cases k : w = c ∨ w ∈ s ∨ w ∈ t
  · exact k
  exfalso
  have key : ∀ σ : Int → List Int, σ w = [w - 1] → (∀ x, x ≠ w → σ x = θ x) → False := by
    intro σ s1 s2
    have hu : isU σ s t := by
      refine ⟨fun x hx => ?_, ?_⟩
      · by_cases e : x = w
        · rw [e, s1]
          show wl [w - 1] (0 + 1) = true
          rw [wl_cons, ar_neg (by omega)]
          rfl
        · rw [s2 x e]
          exact h.1.1 x hx
      · rw [sv_congr (τ := θ) s fun x hx _ => s2 x fun e => k (Or.inr (Or.inl (by rw [← e]; exact hx))), sv_congr (τ := θ) t fun x hx _ => s2 x fun e => k (Or.inr (Or.inr (by rw [← e]; exact hx)))]
        exact h.1.2
    have e := h.2 σ hu c hc
    rw [s2 c (fun q => k (Or.inl q.symm))] at e
    rw [sv_congr (τ := fun x => [(fun y => if y = w then w - 1 else y) x]) _ fun x hx hx0 => ?_] at e
    · rw [sv_single (g := fun y => if y = w then w - 1 else y) _ fun x _ h0 => if_neg (by omega)] at e
      have := map_id (f := fun y => if y = w then w - 1 else y) (θ c) e w hw
      rw [if_pos rfl] at this
      omega
    · dsimp only
      by_cases q : x = w
      · rw [if_pos q, q, s1]
      · rw [if_neg q, s2 x q]
        exact mgu_fix h hc hx hx0
  exact key (fun x => if x = w then [w - 1] else θ x) (if_pos rfl) fun x hx => if_neg hx
theorem mgu_okn {θ : Int → List Int} {s t X : List Int} {ars : List Nat} (h : mgu θ s t) (hs : ∀ c, c ∈ s → okn ars 16 c) (ht : ∀ c, c ∈ t → okn ars 16 c) (hX : ∀ c, c ∈ X → okn ars 16 c) : ∀ c, c ∈ sv θ X → okn ars 16 c := by
  intro c hc
  unfold sv at hc
  rw [List.mem_flatMap] at hc
  obtain ⟨x, hx, hx2⟩ := hc
  by_cases n : x < 0
  · rw [if_pos n] at hx2
    by_cases m : c < 0
    · rcases mgu_var h n hx2 m with e | e | e
      · rw [e]; exact hX x hx
      · exact hs c e
      · exact ht c e
    · rcases mgu_sym h n hx2 (by omega) with e | e
      · exact hs c e
      · exact ht c e
  · rw [if_neg n, List.mem_singleton] at hx2
    rw [hx2]
    exact hX x hx
/-! names -/
theorem vord_app : ∀ A B V : List Int, vord (A ++ B) V = vord B (vord A V) := by
  intro A
  induction A with
  | nil => intro B V; rfl
  | cons x r ih => intro B V; rw [List.cons_append, vord, vord]; exact ih _ _
theorem vord_pre : ∀ L V : List Int, ∃ W, vord L V = V ++ W := by
  intro L
  induction L with
  | nil => intro V; exact ⟨[], by rw [List.append_nil]; rfl⟩
  | cons x r ih =>
    intro V
    rw [vord]
    obtain ⟨W, e⟩ := ih (if x < 0 ∧ ¬ x ∈ V then V ++ [x] else V)
    rw [e]
    by_cases k : x < 0 ∧ ¬ x ∈ V
    · rw [if_pos k, List.append_assoc]
      exact ⟨_, rfl⟩
    · rw [if_neg k]
      exact ⟨_, rfl⟩
theorem idx_app : ∀ (V W : List Int) (c : Int), c ∈ V → (V ++ W).idxOf c = V.idxOf c := by
  intro V
  induction V with
  | nil => intro W c h; cases h
  | cons x r ih =>
    intro W c h
    rw [List.cons_append, List.idxOf_cons, List.idxOf_cons]
    by_cases e : x = c
    · rw [beq_iff_eq.mpr e, cond_true, cond_true]
    · rw [beq_eq_false_iff_ne.mpr e, cond_false, cond_false]
      rcases List.mem_cons.mp h with q | q
      · exact absurd q.symm e
      · rw [ih W c q]
theorem idx_new : ∀ (V : List Int) (c : Int), ¬ c ∈ V → (V ++ [c]).idxOf c = V.length := by
  intro V
  induction V with
  | nil =>
    intro c _
    rw [List.nil_append, List.idxOf_cons, beq_self_eq_true, cond_true]
    rfl
  | cons x r ih =>
    intro c h
    rw [List.cons_append, List.idxOf_cons, beq_eq_false_iff_ne.mpr (fun e : x = c => h (by rw [e]; exact List.mem_cons_self ..)), cond_false, ih c fun q => h (List.mem_cons_of_mem _ q), List.length_cons]
theorem cnt_vord : ∀ L V : List Int, (∀ c, V.count c ≤ 1) → ∀ c, (vord L V).count c ≤ 1 := by
  intro L
  induction L with
  | nil => intro V h c; exact h c
  | cons x r ih =>
    intro V h c
    rw [vord]
    refine ih _ (fun y => ?_) c
    by_cases k : x < 0 ∧ ¬ x ∈ V
    · rw [if_pos k, List.count_append]
      have := h y
      by_cases e : y = x
      · have h0 : V.count y = 0 := by rw [e]; exact List.count_eq_zero_of_not_mem k.2
        have h1 : [x].count y ≤ 1 := by
          have := List.count_le_length (a := y) (l := [x])
          simpa using this
        omega
      · have h1 : [x].count y = 0 := List.count_eq_zero_of_not_mem (by rw [List.mem_singleton]; exact e)
        omega
    · rw [if_neg k]
      exact h y
theorem len_smN (n : Nat) : ∀ V : List Int, (∀ c, c ∈ V → -(n : Int) ≤ c ∧ c < 0) → V.length = smN (fun v => V.count (-1 - (v : Int))) n := by
  intro V
  induction V with
  | nil =>
    intro _
    have := smN_le (f := fun v => ([] : List Int).count (-1 - (v : Int))) (m := 0) n fun i _ => by simp
    simp only [List.length_nil]
    omega
  | cons x r ih =>
    intro h
    have hx := h x (List.mem_cons_self ..)
    rw [List.length_cons, ih fun c hc => h c (List.mem_cons_of_mem _ hc)]
    refine smN_upd (j := (-1 - x).toNat) n (by omega) ?_ fun i hi => ?_
    · rw [List.count_cons, show -1 - (((-1 - x).toNat : Nat) : Int) = x by omega, beq_self_eq_true, if_pos rfl]
    · rw [List.count_cons, beq_eq_false_iff_ne.mpr (show x ≠ -1 - (i : Int) by omega)]
      simp
theorem vord_16 {L : List Int} (h : ∀ c, c ∈ L → c < 0 → -16 ≤ c) : (vord L []).length ≤ 16 := by
  have e := len_smN 16 (vord L []) fun c hc => by
    rcases vord_sub L [] c hc with q | q
    · cases q
    · exact ⟨h c q.1 q.2, q.2⟩
  have := smN_le (f := fun v => (vord L []).count (-1 - (v : Int))) (m := 1) 16 fun i _ => cnt_vord L [] (fun c => by simp) _
  omega
/-- the names of the variables of two terms -/
def nms (A B : List Int) : List Int := vord B (vord A [])
theorem cn_app (A B : List Int) : cn (A ++ B) = A.map (cnm (nms A B)) ++ B.map (cnm (nms A B)) := by
  unfold cn nms
  rw [vord_app, List.map_append]
theorem ar_cnm (V : List Int) (c : Int) : ar (cnm V c) = ar c := by
  unfold cnm
  by_cases n : c < 0
  · rw [if_pos n, ar_neg n, ar_neg (by omega)]
  · rw [if_neg n]
theorem okn_cnm {ars : List Nat} {V : List Int} {c : Int} (h : okn ars 16 c) (hv : c < 0 → c ∈ V) (hl : V.length ≤ 16) : okn ars 16 (cnm V c) := by
  unfold cnm
  by_cases n : c < 0
  · rw [if_pos n]
    have := (idx_get V c (hv n)).1
    exact ⟨fun _ => by omega, fun _ => by omega⟩
  · rw [if_neg n]
    exact h
/-- the left side with the inner right side at a place -/
def sec (L R' : List Int) (p : Nat) : List Int := L.take p ++ R' ++ L.drop (en L p)
theorem mguOf_mgu {s t : List Int} {θ : Int → List Int} (h : mguOf s t = some θ) : mgu θ s t := by
  unfold mguOf at h
  by_cases he : ∃ θ, mgu θ s t
  · rw [dif_pos he] at h
    injection h with h
    rw [← h]
    exact Classical.choose_spec he
  · rw [dif_neg he] at h
    cases h
theorem pr1_t {r1 r2 : Rl2} {p : Nat} {θ : Int → List Int} (h : mgu θ (sb r1.1 p) (shv r2.1)) : pr1 r1 r2 p = if (sv θ r1.2).length ≤ 80 ∧ (sv θ (sec r1.1 (shv r2.2) p)).length ≤ 80 then some ((sv θ r1.2).map (cnm (nms (sv θ r1.2) (sv θ (sec r1.1 (shv r2.2) p)))), (sv θ (sec r1.1 (shv r2.2) p)).map (cnm (nms (sv θ r1.2) (sv θ (sec r1.1 (shv r2.2) p))))) else none := by
  obtain ⟨η, e, hη⟩ := mguOf_some h
  unfold pr1
  rw [e]
  dsimp only
  have l1 := mgu_len hη h r1.2
  have l2 := mgu_len hη h (sec r1.1 (shv r2.2) p)
  have l3 := mgu_cn hη h (r1.2 ++ sec r1.1 (shv r2.2) p)
  rw [sv_app, sv_app, cn_app (sv θ r1.2)] at l3
  unfold sec at l2 l3 ⊢
  rw [l1, l2, l3, List.take_left' (by rw [List.length_map]), List.drop_left' (by rw [List.length_map])]
theorem pr1_f {r1 r2 : Rl2} {p : Nat} (h : ∀ σ, ¬ isU σ (sb r1.1 p) (shv r2.1)) : pr1 r1 r2 p = none := by
  unfold pr1
  rw [mguOf_none h]
theorem okn_16 {ars : List Nat} {c : Int} (h : okn ars 8 c) : okn ars 16 c := ⟨fun n => by have := h.1 n; omega, h.2⟩
theorem sec_okn {ars : List Nat} {r1 r2 : Rl2} {p : Nat} (h1 : okr ars r1) (h2 : okr ars r2) : ∀ c, c ∈ sec r1.1 (shv r2.2) p → okn ars 16 c := by
  intro c hc
  unfold sec at hc
  rw [List.mem_append, List.mem_append] at hc
  rcases hc with (q | q) | q
  · exact okn_16 (h1.1.2.2 c (List.mem_of_mem_take q))
  · have := shb_okn (v := 1) h2.2.1.2.2
    rw [show shb 1 r2.2 = shv r2.2 from if_neg (by decide)] at this
    exact this c q
  · exact okn_16 (h1.1.2.2 c (List.mem_of_mem_drop q))
theorem sec_wl {ars : List Nat} {r1 r2 : Rl2} {p : Nat} (h1 : okr ars r1) (h2 : okr ars r2) (hp : p < r1.1.length) : wl (sec r1.1 (shv r2.2) p) 1 = true := wl_repl h1.1.1 hp (by rw [wl_shv]; exact h2.2.1.1)
theorem pu_okn {ars : List Nat} {r1 r2 : Rl2} {p : Nat} {θ : Int → List Int} (h : mgu θ (sb r1.1 p) (shv r2.1)) (h1 : okr ars r1) (h2 : okr ars r2) {X : List Int} (hX : ∀ c, c ∈ X → okn ars 16 c) : ∀ c, c ∈ sv θ X → okn ars 16 c := by
  refine mgu_okn h (fun c hc => okn_16 (h1.1.2.2 c (mem_sb hc))) (fun c hc => ?_) hX
  have := shb_okn (v := 1) h2.1.2.2
  rw [show shb 1 r2.1 = shv r2.1 from if_neg (by decide)] at this
  exact this c hc
theorem nms_ok {ars : List Nat} {A B : List Int} (hA : ∀ c, c ∈ A → okn ars 16 c) (hB : ∀ c, c ∈ B → okn ars 16 c) : (nms A B).length ≤ 16 ∧ (∀ c, c ∈ A → c < 0 → c ∈ nms A B) ∧ ∀ c, c ∈ B → c < 0 → c ∈ nms A B := by
  have e : nms A B = vord (A ++ B) [] := by unfold nms; rw [vord_app]
  rw [e]
  refine ⟨vord_16 fun c hc n => ?_, fun c hc n => vord_all _ _ c n (Or.inr (List.mem_append.mpr (Or.inl hc))), fun c hc n => vord_all _ _ c n (Or.inr (List.mem_append.mpr (Or.inr hc)))⟩
  rcases List.mem_append.mp hc with q | q
  · have := (hA c q).1 n
    omega
  · have := (hB c q).1 n
    omega
theorem map_okt {ars : List Nat} {V T : List Int} (hw : wl T 1 = true) (hl : T.length ≤ 80) (ho : ∀ c, c ∈ T → okn ars 16 c) (hV : ∀ c, c ∈ T → c < 0 → c ∈ V) (h16 : V.length ≤ 16) : okt ars 16 80 (T.map (cnm V)) := by
  refine ⟨by rw [wl_map _ _ fun x _ => ar_cnm V x]; exact hw, by rw [List.length_map]; exact hl, fun c hc => ?_⟩
  obtain ⟨x, hx, e⟩ := List.mem_map.mp hc
  rw [← e]
  exact okn_cnm (ho x hx) (hV x hx) h16
theorem pr1_ok {ars : List Nat} {r1 r2 : Rl2} {p : Nat} {X : List Int × List Int} (h1 : okr ars r1) (h2 : okr ars r2) (hp : p < r1.1.length) (h : pr1 r1 r2 p = some X) : okt ars 16 80 X.1 ∧ okt ars 16 80 X.2 := by
  cases hm : mguOf (sb r1.1 p) (shv r2.1) with
  | none =>
    unfold pr1 at h
    rw [hm] at h
    cases h
  | some θ =>
    have hθ := mguOf_mgu hm
    rw [pr1_t hθ] at h
    have o1 := pu_okn hθ h1 h2 (X := r1.2) fun c hc => okn_16 (h1.2.1.2.2 c hc)
    have o2 := pu_okn hθ h1 h2 (sec_okn (p := p) h1 h2)
    obtain ⟨n1, n2, n3⟩ := nms_ok o1 o2
    have w1 : wl (sv θ r1.2) 1 = true := wl_sv _ _ h1.2.1.1 fun c _ hc => hθ.1.1 c hc
    have w2 : wl (sv θ (sec r1.1 (shv r2.2) p)) 1 = true := wl_sv _ _ (sec_wl h1 h2 hp) fun c _ hc => hθ.1.1 c hc
    split at h
    · rename_i hl
      injection h with h
      rw [← h]
      exact ⟨map_okt w1 hl.1 o1 n2 n1, map_okt w2 hl.2 o2 n3 n1⟩
    · cases h

