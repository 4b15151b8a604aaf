/-! THE TEXT: what is read is well formed -/
def tkv (B : List Int) (t : Tk) : Prop := (t.1 = 65 → 65 ≤ B.getD t.2.1 0 ∧ B.getD t.2.1 0 ≤ 72) ∧ (t.1 = 48 → 48 ≤ B.getD t.2.1 0 ∧ B.getD t.2.1 0 ≤ 57)
theorem kb_65 {c : Int} (h : kb c = 65) : 65 ≤ c ∧ c ≤ 72 := by
  unfold kb at h
  split at h
  · assumption
  · split at h
    · cases h
    · split at h
      · omega
      · cases h
theorem kb_48 {c : Int} (h : kb c = 48) : 48 ≤ c ∧ c ≤ 57 := by
  unfold kb at h
  split at h
  · cases h
  · split at h
    · assumption
    · split at h
      · omega
      · cases h
theorem nx_v (B : List Int) (p : Nat) : tkv B (nx B p) := by
  unfold nx nx1
  generalize p + spn isSp (B.drop p) = s
  by_cases h : 0 < spn isL (B.drop s)
  · rw [if_pos h]
    refine ⟨fun q => ?_, fun q => ?_⟩
    · dsimp only at q
      split at q <;> cases q
    · dsimp only at q
      split at q <;> cases q
  · rw [if_neg h]
    by_cases k : s < B.length
    · rw [if_pos k]
      exact ⟨fun q => kb_65 q, fun q => kb_48 q⟩
    · rw [if_neg k]
      exact ⟨fun q => (by cases q), fun q => by cases q⟩
theorem fnS_get {w : List Int} : ∀ (sy : Sy) (i : Nat), fnS sy w i ≠ -1 → ∃ k, fnS sy w i = ((i + k : Nat) : Int) ∧ k < sy.length ∧ (sy.getD k (0, [])).2 = w := by
  intro sy
  induction sy with
  | nil => intro i h; exact absurd rfl h
  | cons q r ih =>
    intro i h
    rw [fnS] at h ⊢
    by_cases e : q.2 = w
    · rw [if_pos e]
      exact ⟨0, rfl, by simp, e⟩
    · rw [if_neg e] at h ⊢
      obtain ⟨k, h1, h2, h3⟩ := ih _ h
      exact ⟨k + 1, by rw [h1]; congr 1; omega, by simpa using h2, h3⟩
/-- how many terms are still to be read -/
def dm : List Nat → Nat
  | [] => 1
  | d :: s => d + (dm s - 1)
theorem dm_pos : ∀ s : List Nat, (∀ d, d ∈ s → 1 ≤ d) → 1 ≤ dm s := by
  intro s h
  cases s with
  | nil => exact Nat.le_refl _
  | cons d s =>
    have := h d (List.mem_cons_self ..)
    rw [dm]
    omega
theorem clB_dm {B : List Int} : ∀ (s : List Nat) (t : Tk), (∀ d, d ∈ s → 1 ≤ d) → ∀ s2 t2, clB B s t = .inr (s2, t2) → (s2 = [] → dm s = 1) ∧ (s2 ≠ [] → dm s2 + 1 = dm s) ∧ (∀ d, d ∈ s2 → 1 ≤ d) ∧ s2.length ≤ s.length := by
  intro s
  induction s with
  | nil =>
    intro t hs s2 t2 h
    rw [clB] at h
    cases h
    exact ⟨fun _ => rfl, fun q => absurd rfl q, hs, Nat.le_refl _⟩
  | cons d s ih =>
    intro t hs s2 t2 h
    have h1 := hs d (List.mem_cons_self ..)
    have hs' : ∀ d, d ∈ s → 1 ≤ d := fun x hx => hs x (List.mem_cons_of_mem _ hx)
    have hp := dm_pos s hs'
    rw [clB] at h
    split at h
    · rename_i hd
      split at h
      · cases h
        refine ⟨fun q => (by cases q), fun _ => by rw [dm, dm]; omega, fun x hx => ?_, by rw [List.length_cons, List.length_cons]; exact Nat.le_refl _⟩
        rcases List.mem_cons.mp hx with e | e
        · omega
        · exact hs' x e
      · cases h
    · rename_i hd
      split at h
      · obtain ⟨k1, k2, k3, k4⟩ := ih _ hs' s2 t2 h
        have ed : dm (d :: s) = dm s := by rw [dm]; omega
        exact ⟨fun q => by rw [ed]; exact k1 q, fun q => by rw [ed]; exact k2 q, k3, by rw [List.length_cons]; omega⟩
      · cases h
theorem nod_ok {sy : Sy} {B T L : List Int} {lim role : Nat} {t : Tk} (hs : syok sy) (hv : tkv B t) (h : ftN sy B T L lim role t = 0) : okn (arS sy) 8 (nod sy B t) ∧ T.length < lim ∧ (role = 1 → T.length = 0 → 0 ≤ nod sy B t) ∧ (role = 2 → nod sy B t < 0 → nod sy B t ∈ L) ∧ (t.1 = 97 ∨ t.1 = 65) ∧ (t.1 = 97 → fnS sy (wd B t) 0 ≠ -1) := by
  unfold ftN at h
  by_cases h0 : ¬ (t.1 = 97 ∨ t.1 = 65)
  · rw [if_pos h0] at h
    cases h
  rw [if_neg h0] at h
  by_cases h1 : t.1 = 97 ∧ fnS sy (wd B t) 0 = -1
  · rw [if_pos h1] at h
    cases h
  rw [if_neg h1] at h
  by_cases h2 : t.1 = 65 ∧ role = 1 ∧ T.length = 0
  · rw [if_pos h2] at h
    cases h
  rw [if_neg h2] at h
  by_cases h3 : t.1 = 65 ∧ role = 2 ∧ ¬ vnd B t ∈ L
  · rw [if_pos h3] at h
    cases h
  rw [if_neg h3] at h
  by_cases h4 : lim ≤ T.length
  · rw [if_pos h4] at h
    cases h
  have h0' : t.1 = 97 ∨ t.1 = 65 := Classical.not_not.mp h0
  by_cases k : t.1 = 65
  · have e : nod sy B t = vnd B t := if_pos k
    have hb := hv.1 k
    rw [e]
    refine ⟨⟨fun _ => by unfold vnd; omega, fun q => by unfold vnd at q; omega⟩, by omega, fun q1 q2 => absurd ⟨k, q1, q2⟩ h2, fun q1 _ => ?_, h0', fun q => by rw [k] at q; cases q⟩
    by_cases m : vnd B t ∈ L
    · exact m
    · exact absurd ⟨k, q1, m⟩ h3
  · have k97 : t.1 = 97 := by
      rcases h0' with q | q
      · exact q
      · exact absurd q k
    have hf : fnS sy (wd B t) 0 ≠ -1 := fun q => h1 ⟨k97, q⟩
    obtain ⟨i, e1, e2, e3⟩ := fnS_get sy 0 hf
    rw [Nat.zero_add] at e1
    have e : nod sy B t = 4 * (i : Int) + (((sy.getD i (0, [])).1 : Nat) : Int) := by
      unfold nod
      rw [if_neg k, e1, Int.toNat_natCast]
    have ha := (hs.2 _ (getD_mem (d := (0, [])) e2)).1
    rw [e]
    refine ⟨⟨fun q => by omega, fun _ => ?_⟩, by omega, fun _ _ => by omega, fun _ q => by omega, h0', fun _ => hf⟩
    have e5 : ((4 * (i : Int) + (((sy.getD i (0, [])).1 : Nat) : Int)) / 4).toNat = i := by omega
    rw [e5]
    unfold arS
    refine ⟨by rw [List.length_map]; exact e2, ?_⟩
    rw [getD_map (d := (0, [])) e2]
    unfold ar
    rw [if_neg (by omega)]
    omega
theorem clB_v {B : List Int} : ∀ (s : List Nat) (t : Tk), tkv B t → ∀ s2 t2, clB B s t = .inr (s2, t2) → tkv B t2 := by
  intro s
  induction s with
  | nil =>
    intro t ht s2 t2 h
    rw [clB] at h
    cases h
    exact ht
  | cons d s ih =>
    intro t ht s2 t2 h
    rw [clB] at h
    split at h
    · split at h
      · cases h
        exact nx_v _ _
      · cases h
    · split at h
      · exact ih _ (nx_v _ _) s2 t2 h
      · cases h
/-- what has been read of a term -/
def rdI (sy : Sy) (L : List Int) (role : Nat) (T : List Int) (s : List Nat) : Prop := (∀ R, wl R (dm s) = true → wl (T ++ R) 1 = true) ∧ (∀ c, c ∈ T → okn (arS sy) 8 c) ∧ (role = 1 → T.length = 0 ∨ 0 ≤ T.getD 0 0) ∧ (role = 2 → ∀ c, c ∈ T → c < 0 → c ∈ L) ∧ (∀ d, d ∈ s → 1 ≤ d) ∧ s.length ≤ T.length
theorem rdI_0 (sy : Sy) (L : List Int) (role : Nat) : rdI sy L role [] [] := ⟨fun R h => h, fun c h => (by cases h), fun _ => Or.inl rfl, fun _ c h => (by cases h), fun d h => (by cases h), Nat.le_refl _⟩
theorem rdI_add {sy : Sy} {B T L : List Int} {lim role : Nat} {t : Tk} {s s2 : List Nat} (hs : syok sy) (hv : tkv B t) (h : ftN sy B T L lim role t = 0) (hI : rdI sy L role T s) (hd : dm s2 + 1 = dm s + ar (nod sy B t)) (h2 : ∀ d, d ∈ s2 → 1 ≤ d) (hl : s2.length ≤ s.length + 1) : rdI sy L role (T ++ [nod sy B t]) s2 := by
  obtain ⟨n1, n2, n3, n4, _⟩ := nod_ok hs hv h
  obtain ⟨i1, i2, i3, i4, i5, i6⟩ := hI
  refine ⟨fun R hR => ?_, fun c hc => ?_, fun q => ?_, fun q c hc hn => ?_, h2, by rw [List.length_append, List.length_singleton]; omega⟩
  · rw [List.append_assoc]
    have hp := dm_pos s i5
    refine i1 _ ?_
    show wl (nod sy B t :: R) (dm s) = true
    rw [show dm s = (dm s - 1) + 1 by omega, wl_cons, show dm s - 1 + ar (nod sy B t) = dm s2 by omega]
    exact hR
  · rcases List.mem_append.mp hc with e | e
    · exact i2 c e
    · rw [List.mem_singleton.mp e]
      exact n1
  · rcases Nat.eq_zero_or_pos T.length with e | e
    · refine Or.inr ?_
      have : T = [] := List.eq_nil_of_length_eq_zero e
      rw [this]
      exact n3 q e
    · refine Or.inr ?_
      rw [getD_app_l e]
      rcases i3 q with g | g
      · omega
      · exact g
  · rcases List.mem_append.mp hc with e | e
    · exact i4 q c e hn
    · rw [List.mem_singleton.mp e] at hn ⊢
      exact n4 q hn
theorem rdT_ok {B : List Int} {sy : Sy} {L : List Int} {lim role : Nat} (hs : syok sy) : ∀ (n : Nat) (T : List Int) (s : List Nat) (t : Tk), tkv B t → rdI sy L role T s → ∀ X t2, rdT B sy L lim role n T s t = .inr (X, t2) → okt (arS sy) 8 lim X ∧ (role = 1 → 0 ≤ X.getD 0 0) ∧ (role = 2 → ∀ c, c ∈ X → c < 0 → c ∈ L) := by
  intro n
  induction n with
  | zero => intro T s t _ _ X t2 h; cases h
  | succ n ih =>
    intro T s t ht hI X t2 h
    rw [rdT] at h
    by_cases h0 : ftN sy B T L lim role t = 0
    · rw [if_neg (fun q => q h0)] at h
      have hno := nod_ok hs ht h0
      split at h
      · rename_i ha
        split at h
        · have hp := dm_pos s hI.2.2.2.2.1
          refine ih _ _ _ (nx_v _ _) (rdI_add hs ht h0 hI (s2 := ar (nod sy B t) :: s) ?_ (fun d hd => ?_) ?_) X t2 h
          · rw [dm]; omega
          · rcases List.mem_cons.mp hd with e | e
            · omega
            · exact hI.2.2.2.2.1 d e
          · rw [List.length_cons]; exact Nat.le_refl _
        · cases h
      · rename_i ha
        have ha0 : ar (nod sy B t) = 0 := by omega
        split at h
        · cases h
        · rename_i t3 hc
          cases h
          obtain ⟨k1, k2, k3, k4⟩ := clB_dm _ _ hI.2.2.2.2.1 _ _ hc
          have hd1 := k1 rfl
          obtain ⟨i1, i2, i3, i4, i5, i6⟩ := hI
          have hw : wl (T ++ [nod sy B t]) 1 = true := i1 _ (by rw [hd1]; show wl (nod sy B t :: []) (0 + 1) = true; rw [wl_cons, ha0]; rfl)
          refine ⟨⟨hw, by rw [List.length_append, List.length_singleton]; have := hno.2.1; omega, fun c hc => ?_⟩, fun q => ?_, fun q c hc hn => ?_⟩
          · rcases List.mem_append.mp hc with e | e
            · exact i2 c e
            · rw [List.mem_singleton.mp e]; exact hno.1
          · rcases Nat.eq_zero_or_pos T.length with e | e
            · have : T = [] := List.eq_nil_of_length_eq_zero e
              rw [this]
              exact hno.2.2.1 q e
            · rw [getD_app_l e]
              rcases i3 q with g | g
              · omega
              · exact g
          · rcases List.mem_append.mp hc with e | e
            · exact i4 q c e hn
            · rw [List.mem_singleton.mp e] at hn ⊢
              exact hno.2.2.2.1 q hn
        · rename_i d s2 t3 hc
          obtain ⟨k1, k2, k3, k4⟩ := clB_dm _ _ hI.2.2.2.2.1 _ _ hc
          have := k2 (by intro q; cases q)
          refine ih _ _ _ ?_ (rdI_add hs ht h0 hI (s2 := d :: s2) (by omega) k3 (by omega)) X t2 h
          exact clB_v _ _ (nx_v _ _) _ _ hc
    · rw [if_pos h0] at h
      cases h
/-- the signature and what stands there -/
def POK (S : St) : Prop := syok S.1 ∧ okc (arS S.1) S.2
theorem okn_ext {ars : List Nat} {a m : Nat} {c : Int} (h : okn ars m c) : okn (ars ++ [a]) m c := ⟨h.1, fun q => by
  obtain ⟨h1, h2⟩ := h.2 q
  refine ⟨by rw [List.length_append]; omega, ?_⟩
  rw [getD_app_l h1]
  exact h2⟩
theorem okt_ext {ars : List Nat} {a m n : Nat} {T : List Int} (h : okt ars m n T) : okt (ars ++ [a]) m n T := ⟨h.1, h.2.1, fun c hc => okn_ext (h.2.2 c hc)⟩
theorem okc_ext {ars : List Nat} {a : Nat} {c : Cf} (h : okc ars c) : okc (ars ++ [a]) c := ⟨h.1, h.2.1, fun r hr => ⟨okt_ext (h.2.2.1 r hr).1, okt_ext (h.2.2.1 r hr).2.1, (h.2.2.1 r hr).2.2⟩, fun T hT => okt_ext (h.2.2.2 T hT)⟩
theorem dgt_0 {B : List Int} {m : Nat} {t : Tk} (hv : tkv B t) (h : dgt B m t = 0) : t.1 = 48 ∧ 0 ≤ dgv B t ∧ (dgv B t).toNat < m := by
  unfold dgt at h
  by_cases k : t.1 = 48
  · rw [if_neg (fun q => q k)] at h
    have := (hv.2 k).1
    unfold dgv at h ⊢
    split at h
    · exact ⟨k, by omega, by omega⟩
    · cases h
  · rw [if_pos k] at h
    cases h
theorem okt_80 {ars : List Nat} {m n : Nat} {T : List Int} (h : okt ars m n T) (hn : n ≤ 80) : okt ars m 80 T := ⟨h.1, Nat.le_trans h.2.1 hn, h.2.2⟩
theorem syok_add {sy : Sy} {B : List Int} {t : Tk} {a : Nat} (h : syok sy) (ht : tkok B t) (hk : t.1 = 97) (h8 : ¬ 8 ≤ sy.length) (ha : a < 4) : syok (sy ++ [(a, wd B t)]) := by
  refine ⟨by rw [List.length_append, List.length_singleton]; omega, fun q hq => ?_⟩
  rcases List.mem_append.mp hq with e | e
  · exact h.2 q e
  · rw [List.mem_singleton.mp e]
    obtain ⟨t1, t2, t3, t4, t5, t6⟩ := ht
    have h1 := t4 (by rw [hk]; decide)
    have h2 := t6 hk
    have hl : (wd B t).length = t.2.2 - t.2.1 := by
      unfold wd
      rw [List.length_take, List.length_drop]
      omega
    exact ⟨by dsimp only; omega, by dsimp only; omega, by dsimp only; omega, h2.2⟩
theorem itm_ok {B : List Int} {S S' : St} {t t' : Tk} (ht : tkok B t) (hS : POK S) (h : itm B S t = .inr (S', t')) : POK S' := by
  have hn := nx_le ht
  have hn2 := nx_le hn.1
  have v1 := nx_v B t.2.2
  obtain ⟨hs, c1, c2, c3, c4⟩ := hS
  unfold itm at h
  split at h
  · unfold iSym at h
    split at h
    · cases h
    · rename_i h8
      split at h
      · cases h
      · rename_i hk
        split at h
        · cases h
        · split at h
          · cases h
          · rename_i hd
            have hd' := dgt_0 (nx_v _ _) (Classical.not_not.mp hd)
            have hk' := Classical.not_not.mp hk
            cases h
            refine ⟨syok_add hs hn.1 hk' h8 hd'.2.2, ?_⟩
            have e : arS (S.1 ++ [((dgv B (nx B (nx B t.2.2).2.2)).toNat, wd B (nx B t.2.2))]) = arS S.1 ++ [(dgv B (nx B (nx B t.2.2).2.2)).toNat] := by
              unfold arS
              rw [List.map_append]
              rfl
            show okc (arS (S.1 ++ [((dgv B (nx B (nx B t.2.2).2.2)).toNat, wd B (nx B t.2.2))])) S.2
            rw [e]
            exact okc_ext ⟨c1, c2, c3, c4⟩
  · split at h
    · unfold iRul at h
      split at h
      · cases h
      · rename_i h6
        split at h
        · cases h
        · rename_i L t2 h2
          have k2 := rdT_ok hs _ _ _ _ v1 (rdI_0 _ _ _) _ _ h2
          split at h
          · cases h
          · split at h
            · cases h
            · rename_i R t3 h3
              have k3 := rdT_ok hs _ _ _ _ (nx_v _ _) (rdI_0 _ _ _) _ _ h3
              cases h
              refine ⟨hs, by show (S.2.1 ++ [(L, R)]).length ≤ 6; rw [List.length_append, List.length_singleton]; omega, c2, fun r hr => ?_, c4⟩
              rcases List.mem_append.mp hr with e | e
              · exact c3 r e
              · rw [List.mem_singleton.mp e]
                exact ⟨k2.1, k3.1, k2.2.1 rfl, k3.2.2 rfl⟩
    · split at h
      · unfold iTrm at h
        split at h
        · cases h
        · rename_i h6
          split at h
          · cases h
          · rename_i T t2 h2
            have k2 := rdT_ok hs _ _ _ _ v1 (rdI_0 _ _ _) _ _ h2
            cases h
            refine ⟨hs, c1, by show (S.2.2 ++ [T]).length ≤ 6; rw [List.length_append, List.length_singleton]; omega, c3, fun X hX => ?_⟩
            rcases List.mem_append.mp hX with e | e
            · exact c4 X e
            · rw [List.mem_singleton.mp e]
              exact okt_80 k2.1 (by decide)
      · split at h
        · unfold iCpy at h
          split at h
          · cases h
          · rename_i h6
            split at h
            · cases h
            · rename_i hd
              have hd' := dgt_0 v1 (Classical.not_not.mp hd)
              cases h
              refine ⟨hs, c1, by show (S.2.2 ++ [_]).length ≤ 6; rw [List.length_append, List.length_singleton]; omega, c3, fun X hX => ?_⟩
              rcases List.mem_append.mp hX with e | e
              · exact c4 X e
              · rw [List.mem_singleton.mp e]
                exact c4 _ (getD_mem hd'.2.2)
        · split at h
          · unfold iFlp at h
            split at h
            · cases h
            · rename_i hd
              have hd' := dgt_0 v1 (Classical.not_not.mp hd)
              split at h
              · rename_i hc
                cases h
                refine ⟨hs, by show (S.2.1.set _ _).length ≤ 6; rw [List.length_set]; exact c1, c2, fun r hr => ?_, c4⟩
                rcases List.mem_or_eq_of_mem_set hr with e | e
                · exact c3 r e
                · rw [e]
                  exact okr_turn (c3 _ (getD_mem hd'.2.2)) hc
              · cases h
          · split at h
            · unfold iStp at h
              split at h
              · cases h
              · rename_i hd
                have hd' := dgt_0 v1 (Classical.not_not.mp hd)
                split at h
                · cases h
                · rename_i p Y hY
                  cases h
                  refine ⟨hs, c1, by show (S.2.2.set _ _).length ≤ 6; rw [List.length_set]; exact c2, c3, fun X hX => ?_⟩
                  rcases List.mem_or_eq_of_mem_set hX with e | e
                  · exact c4 X e
                  · rw [e]
                    exact stp_ok c3 (c4 _ (getD_mem hd'.2.2)) hY
            · cases h
theorem its_ok {B : List Int} : ∀ (n : Nat) (S S' : St) (t : Tk), tkok B t → POK S → its B n S t = .inr S' → POK S' := by
  intro n
  induction n with
  | zero =>
    intro S S' t _ hS h
    cases h
    exact hS
  | succ n ih =>
    intro S S' t ht hS h
    rw [its] at h
    split at h
    · cases h
      exact hS
    · split at h
      · cases h
      · split at h
        · cases h
        · rename_i S2 t2 h2
          have hn := nx_le ht
          exact ih S2 S' t2 (itm_tk hn.1 h2).1 (itm_ok hn.1 hS h2) h
theorem POK_0 : POK ([], ([], [])) := ⟨⟨Nat.zero_le _, fun q hq => by cases hq⟩, Nat.zero_le _, Nat.zero_le _, fun r hr => (by cases hr), fun T hT => (by cases hT)⟩
theorem prsT_ok {B : List Int} {S : St} (h : prsT B = .inr S) : POK S := by
  unfold prsT at h
  split at h
  · exact its_ok _ _ _ _ (nx_le (nx_ok (Nat.zero_le _)).1).1 POK_0 h
  · cases h

