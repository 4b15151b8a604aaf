/-! THE STATE KEEPS ITS BOUNDS through every call that changes it -/
theorem g4_ok {ok idx : Bool} {o : Option (Int × AS)} {A : AS} (hA : AOK A) (h : ok = true → idx = true → ∀ r A', o = some (r, A') → AOK A') : AOK (g4 ok idx o A).2.2 := by
  unfold g4
  cases ok with
  | false => exact hA
  | true => cases idx with
    | false => exact hA
    | true => cases o with
      | none => exact hA
      | some p =>
        obtain ⟨r, A'⟩ := p
        exact h rfl rfl r A' rfl
theorem chT_ok {A : AS} {i : Nat} {Y : List Int} (hA : AOK A) (hl : aL A = true) (hY : okt (arS (aS A)) 8 80 Y) : AOK (chT A i Y) := AOK.wC hA hl (okc_set (c := aC A) hA.2.1 hY)
theorem wO_ok {A : AS} {o : List Int} (hA : AOK A) (h1 : o.length ≤ 1600) (h2 : ∀ c, c ∈ o → 0 ≤ c ∧ c ≤ 127) : AOK (wO A o) := by
  obtain ⟨a1', a2', a3', a4', a5', a6', a7', a8', a9', a10', a11'⟩ := hA
  exact ⟨a1', a2', a3', a4', a5', a6', a7', ⟨h1, h2⟩, a9', a10', a11'⟩
section K82
variable {A : AS} {v1 v2 v3 v4 v5 : Int}
theorem rewrite_ok (hA : AOK A) : AOK (sp_rewrite A v1 v2 v3).2.2 := by
  refine g4_ok hA fun hl hi r A' ho => ?_
  obtain ⟨⟨h1, h2⟩, ⟨h3, h4⟩, h5, h6⟩ := @of_decide_eq_true _ (Classical.propDecidable _) hi
  cases hY : rw1 ((aR A).getD v1.toNat ([], [])) ((aT A).getD v2.toNat []) v3.toNat with
  | none =>
    rw [hY] at ho
    cases ho
  | some Y =>
    rw [hY] at ho
    cases ho
    exact chT_ok hA hl (rw1_ok (hA.rule (by omega)) (hA.term (i := v2.toNat) (by omega)) (by omega) hY)
theorem step_ok {inner : Bool} (hA : AOK A) : AOK (sp_step inner A v1).2.2 := by
  refine g4_ok hA fun hl hi r A' ho => ?_
  have h1 := of_decide_eq_true hi
  cases hY : stp (aR A) inner ((aT A).getD v1.toNat []) with
  | none =>
    rw [hY] at ho
    cases ho
  | some p =>
    obtain ⟨p, Y⟩ := p
    rw [hY] at ho
    cases ho
    exact chT_ok hA hl (stp_ok hA.rules (hA.term (i := v1.toNat) (by omega)) hY)
theorem normalize_ok (hA : AOK A) : AOK (sp_normalize A v1).2.2 := by
  refine g4_ok hA fun hl hi r A' ho => ?_
  have h1 := of_decide_eq_true hi
  cases hY : rdc (aR A) true 200 ((aT A).getD v1.toNat []) with
  | none =>
    rw [hY] at ho
    cases ho
  | some p =>
    obtain ⟨p, Y⟩ := p
    rw [hY] at ho
    cases ho
    exact chT_ok hA hl (rdc_ok hA.rules _ _ _ _ (hA.term (i := v1.toNat) (by omega)) hY).1
theorem copySubterm_ok (hA : AOK A) : AOK (sp_copySubterm A v1 v2).2.2 := by
  refine g4_ok hA fun hl hi r A' ho => ?_
  obtain ⟨⟨h3, h4⟩, h5, h6⟩ := @of_decide_eq_true _ (Classical.propDecidable _) hi
  by_cases q : (aT A).length < 6
  · rw [if_pos q] at ho
    cases ho
    have hT := hA.term (i := v1.toNat) (by omega)
    refine AOK.wC hA hl ⟨hA.2.1.1, ?_, hA.2.1.2.2.1, fun T hm => ?_⟩
    · show (aT A ++ [sb ((aT A).getD v1.toNat []) v2.toNat]).length ≤ 6
      rw [List.length_append, List.length_singleton]
      omega
    · rcases List.mem_append.mp hm with g | g
      · exact hA.2.1.2.2.2 T g
      · rw [List.mem_singleton] at g
        subst g
        refine ⟨(sb_wl hT.1 (by omega)).1, ?_, fun c hc => hT.2.2 c (mem_sb hc)⟩
        have hle : (sb ((aT A).getD v1.toNat []) v2.toNat).length ≤ ((aT A).getD v1.toNat []).length := by
          unfold sb
          rw [List.length_take, List.length_drop]
          omega
        exact Nat.le_trans hle hT.2.1
  · rw [if_neg q] at ho
    cases ho
theorem replaceSubterm_ok (hA : AOK A) : AOK (sp_replaceSubterm A v1 v2 v3).2.2 := by
  refine g4_ok hA fun hl hi r A' ho => ?_
  obtain ⟨⟨⟨h3, h4⟩, h5, h6⟩, h7, h8⟩ := @of_decide_eq_true _ (Classical.propDecidable _) hi
  by_cases q : (rpl ((aT A).getD v1.toNat []) ((aT A).getD v3.toNat []) v2.toNat).length ≤ 80
  · rw [if_pos q] at ho
    cases ho
    have hT := hA.term (i := v1.toNat) (by omega)
    have hS := hA.term (i := v3.toNat) (by omega)
    refine chT_ok hA hl ⟨wl_repl hT.1 (by omega) hS.1, q, fun c hc => ?_⟩
    unfold rpl at hc
    rcases List.mem_append.mp hc with g | g
    · rcases List.mem_append.mp g with g | g
      · exact hT.2.2 c (List.mem_of_mem_take g)
      · exact hS.2.2 c g
    · exact hT.2.2 c (List.mem_of_mem_drop g)
  · rw [if_neg q] at ho
    cases ho
theorem swapRules_ok (hA : AOK A) : AOK (sp_swapRules A v1 v2).2.2 := by
  refine g4_ok hA fun hl hi r A' ho => ?_
  obtain ⟨⟨h1, h2⟩, h3, h4⟩ := of_decide_eq_true hi
  cases ho
  exact AOK.wC hA hl (okc_rules (c := aC A) hA.2.1 (Nat.le_of_eq swp_len) fun r hr => hA.rules r (mem_swp (by omega) (by omega) hr))
theorem removeRule_ok (hA : AOK A) : AOK (sp_removeRule A v1).2.2 := by
  refine g4_ok hA fun hl hi r A' ho => ?_
  cases ho
  refine AOK.wC hA hl (okc_rules (c := aC A) hA.2.1 ?_ fun r hr => hA.rules r (List.mem_of_mem_eraseIdx hr))
  exact List.length_eraseIdx_le ..
theorem removeTerm_ok (hA : AOK A) : AOK (sp_removeTerm A v1).2.2 := by
  refine g4_ok hA fun hl hi r A' ho => ?_
  cases ho
  exact AOK.wC hA hl ⟨hA.2.1.1, Nat.le_trans (List.length_eraseIdx_le ..) hA.2.1.2.1, hA.2.1.2.2.1, fun T hT => hA.2.1.2.2.2 T (List.mem_of_mem_eraseIdx hT)⟩
theorem reverseRule_ok (hA : AOK A) : AOK (sp_reverseRule A v1).2.2 := by
  refine g4_ok hA fun hl hi r A' ho => ?_
  have h1 := of_decide_eq_true hi
  by_cases q : canT ((aR A).getD v1.toNat ([], [])) = true
  · rw [if_pos q] at ho
    cases ho
    refine AOK.wC hA hl (okc_rules (c := aC A) hA.2.1 (Nat.le_of_eq (List.length_set ..)) fun r hr => ?_)
    rcases List.mem_or_eq_of_mem_set hr with g | g
    · exact hA.rules r g
    · rw [g]
      exact okr_turn (hA.rule (by omega)) q
  · rw [if_neg q] at ho
    cases ho
theorem undo_ok (hA : AOK A) : AOK (sp_undo A).2.2 := by
  unfold sp_undo unA
  cases hh : aH A with
  | nil => exact hA
  | cons c hs =>
    obtain ⟨a1', a2', a3', a4', a5', a6', a7', a8', a9', a10', a11'⟩ := hA
    refine ⟨a1', a3' c (by rw [hh]; exact List.mem_cons_self ..), fun x hx => a3' x (by rw [hh]; exact List.mem_cons_of_mem _ hx), ?_, a5', a6', a7', a8', a9', a10', fun e => ?_⟩
    · rw [hh, List.length_cons] at a4'
      exact Nat.le_trans (Nat.le_succ _) a4'
    · have := (a11' e).2.2.1
      rw [hh] at this
      cases this
theorem saveState_ok (hA : AOK A) : AOK (sp_saveState A v1).2.2 := by
  refine g4_ok hA fun hl hi r A' ho => ?_
  cases ho
  obtain ⟨a1', a2', a3', a4', a5', a6', a7', a8', a9', a10', a11'⟩ := hA
  unfold svA
  by_cases q : v1 = 0
  · rw [if_pos q]
    exact ⟨a1', a2', a3', a4', fun c hc => (by cases hc; exact a2'), a6', a7', a8', a9', a10', fun e => absurd (show aL A = false from e) (by rw [hl]; decide)⟩
  · rw [if_neg q]
    exact ⟨a1', a2', a3', a4', a5', fun c hc => (by cases hc; exact a2'), a7', a8', a9', a10', fun e => absurd (show aL A = false from e) (by rw [hl]; decide)⟩
theorem restoreState_ok (hA : AOK A) : AOK (sp_restoreState A v1).2.2 := by
  unfold sp_restoreState
  cases decide (0 ≤ v1 ∧ v1 < 2) with
  | false => exact hA
  | true =>
    cases hs : slA A v1 with
    | none => exact hA
    | some c =>
      obtain ⟨a1', a2', a3', a4', a5', a6', a7', a8', a9', a10', a11'⟩ := hA
      have hc : okc (arS (aS A)) c ∧ aL A = true := by
        unfold slA at hs
        by_cases q : v1 = 0
        · rw [if_pos q] at hs
          refine ⟨a5' c hs, ?_⟩
          cases e : aL A with
          | true => rfl
          | false =>
            rw [(a11' e).2.2.2.1] at hs
            cases hs
        · rw [if_neg q] at hs
          refine ⟨a6' c hs, ?_⟩
          cases e : aL A with
          | true => rfl
          | false =>
            rw [(a11' e).2.2.2.2] at hs
            cases hs
      exact ⟨a1', hc.1, fun x hx => (by cases hx), Nat.zero_le _, a5', a6', a7', a8', a9', a10', fun e => absurd (show aL A = false from e) (by rw [hc.2]; decide)⟩
theorem wrt_ok1 {n : Nat} {T : List Int} (hA : AOK A) (h : ∀ c, c ∈ T → okn (arS (aS A)) 16 c) (hn : T.length ≤ n) : (wrt (aS A) T []).length ≤ 8 * n ∧ ∀ b, b ∈ wrt (aS A) T [] → 0 ≤ b ∧ b ≤ 127 := by
  have := wrt_len hA.1 T [] h
  rw [List.length_nil] at this
  exact ⟨by omega, wrt_byte hA.1 T [] h⟩
theorem okt_16n {ars : List Nat} {n : Nat} {T : List Int} (h : okt ars 16 n T) : ∀ c, c ∈ T → okn ars 16 c := h.2.2
theorem writeTerm_ok (hA : AOK A) : AOK (sp_writeTerm A v1).2.2 := by
  refine g4_ok hA fun hl hi r A' ho => ?_
  have h1 := of_decide_eq_true hi
  cases ho
  have hT := hA.term (i := v1.toNat) (by omega)
  have g := wrt_ok1 hA (okt_16 hT) hT.2.1
  exact wO_ok hA (by omega) g.2
theorem writeRule_ok (hA : AOK A) : AOK (sp_writeRule A v1).2.2 := by
  refine g4_ok hA fun hl hi r A' ho => ?_
  have h1 := of_decide_eq_true hi
  cases ho
  have hR := hA.rule (i := v1.toNat) (by omega)
  have g1 := wrt_ok1 hA (okt_16 hR.1) hR.1.2.1
  have g2 := wrt_ok1 hA (okt_16 hR.2.1) hR.2.1.2.1
  unfold wrR
  refine wO_ok hA (by simp only [List.length_append, List.length_singleton]; omega) fun c hc => ?_
  rcases List.mem_append.mp hc with g | g
  · rcases List.mem_append.mp g with g | g
    · exact g1.2 c g
    · rw [List.mem_singleton] at g
      omega
  · exact g2.2 c g
theorem writeNormalForm_ok (hA : AOK A) : AOK (sp_writeNormalForm A v1).2.2 := by
  refine g4_ok hA fun hl hi r A' ho => ?_
  have h1 := of_decide_eq_true hi
  cases ho
  unfold wrN
  cases hY : rdc (aR A) true 200 ((aT A).getD v1.toNat []) with
  | none => exact wO_ok hA (show ([63] : List Int).length ≤ 1600 by decide) (show ∀ c, c ∈ ([63] : List Int) → 0 ≤ c ∧ c ≤ 127 by decide)
  | some p =>
    obtain ⟨p, Y⟩ := p
    have hT := (rdc_ok hA.rules _ _ _ _ (hA.term (i := v1.toNat) (by omega)) hY).1
    have g := wrt_ok1 hA (okt_16 hT) hT.2.1
    exact wO_ok hA (Nat.le_trans g.1 (by decide)) g.2
theorem writePair_ok (hA : AOK A) : AOK (sp_writePair A v1).2.2 := by
  refine g4_ok hA fun hl hi r A' ho => ?_
  have h1 := of_decide_eq_true hi
  cases ho
  have hok := prs_ok hA.rules _ (getD_mem (d := ((0, 0, 0), [], [])) (show v1.toNat < (prs (aR A)).length by omega))
  have g1 := wrt_ok1 hA (okt_16n hok.1) hok.1.2.1
  have g2 := wrt_ok1 hA (okt_16n hok.2) hok.2.2.1
  unfold wrP prG
  refine wO_ok hA (by simp only [List.length_append, List.length_singleton]; omega) fun c hc => ?_
  rcases List.mem_append.mp hc with g | g
  · rcases List.mem_append.mp g with g | g
    · rcases List.mem_append.mp g with g | g
      · exact g1.2 c g
      · rw [List.mem_singleton] at g
        omega
    · rw [List.mem_singleton] at g
      omega
  · exact g2.2 c g
theorem append_ok (hA : AOK A) : AOK (sp_append A v1 v2 v3 v4 v5).2 := by
  unfold sp_append
  by_cases q : (aB A).length ≤ 480
  · rw [if_pos q]
    obtain ⟨a1', a2', a3', a4', a5', a6', a7', a8', a9', a10', a11'⟩ := hA
    refine ⟨a1', a2', a3', a4', a5', a6', ⟨?_, fun c hc => ?_⟩, a8', a9', a10', a11'⟩
    · show (apB A v1 v2 v3 v4 v5).length ≤ 500
      unfold apB
      simp only [List.length_append, show ∀ w, (by4 w).length = 4 from fun _ => rfl]
      omega
    · have hc : c ∈ apB A v1 v2 v3 v4 v5 := hc
      unfold apB at hc
      simp only [List.mem_append] at hc
      rcases hc with ((((g | g) | g) | g) | g) | g
      · exact a7'.2 c g
      all_goals exact by4_rng g
  · rw [if_neg q]
    exact hA
end K82
/-! faults of a text -/
def PEk (B : List Int) (e : PE) : Prop := (1 ≤ e.1 ∧ e.1 ≤ 5) ∧ e.2 ≤ B.length
section P82
variable {B : List Int}
theorem PEk.k {c : Int} {t : Tk} (hc : 1 ≤ c ∧ c ≤ 5) (ht : tkok B t) : PEk B (c, t.2.1) := ⟨hc, ht.1⟩
theorem clB_err : ∀ (s : List Nat) (t : Tk), tkok B t → ∀ e, clB B s t = .inl e → PEk B e := by
  intro s
  induction s with
  | nil =>
    intro t ht e h
    rw [clB] at h
    cases h
  | cons d s ih =>
    intro t ht e h
    rw [clB] at h
    split at h
    · split at h
      · cases h
      · cases h
        exact PEk.k ⟨by decide, by decide⟩ ht
    · split at h
      · exact ih _ (nx_le ht).1 e h
      · cases h
        exact PEk.k ⟨by decide, by decide⟩ ht
theorem ftN_rng {sy : Sy} {T L : List Int} {lim role : Nat} {t : Tk} : ftN sy B T L lim role t = 0 ∨ (1 ≤ ftN sy B T L lim role t ∧ ftN sy B T L lim role t ≤ 5) := by
  unfold ftN
  split
  · exact Or.inr ⟨by decide, by decide⟩
  · split
    · exact Or.inr ⟨by decide, by decide⟩
    · split
      · exact Or.inr ⟨by decide, by decide⟩
      · split
        · exact Or.inr ⟨by decide, by decide⟩
        · split
          · exact Or.inr ⟨by decide, by decide⟩
          · exact Or.inl rfl
theorem dgt_rng {m : Nat} {t : Tk} : dgt B m t = 0 ∨ (1 ≤ dgt B m t ∧ dgt B m t ≤ 5) := by
  unfold dgt
  split
  · exact Or.inr ⟨by decide, by decide⟩
  · split
    · exact Or.inl rfl
    · exact Or.inr ⟨by decide, by decide⟩
theorem rdT_err {sy : Sy} {L : List Int} {lim role : Nat} : ∀ (n : Nat) (T : List Int) (s : List Nat) (t : Tk), tkok B t → ∀ e, rdT B sy L lim role n T s t = .inl e → PEk B e := by
  intro n
  induction n with
  | zero =>
    intro T s t ht e h
    rw [rdT] at h
    cases h
    exact PEk.k ⟨by decide, by decide⟩ ht
  | succ n ih =>
    intro T s t ht e h
    have hn := nx_le ht
    generalize hR : rdT B sy L lim role (n + 1) T s t = R at h
    rw [rdT] at hR
    split at hR
    · rename_i hf
      rw [h] at hR
      cases hR
      rcases ftN_rng (B := B) (sy := sy) (T := T) (L := L) (lim := lim) (role := role) (t := t) with g | g
      · exact absurd g hf
      · exact ⟨g, ht.1⟩
    · split at hR
      · split at hR
        · exact ih _ _ _ (nx_le hn.1).1 e (hR.trans h)
        · rw [h] at hR
          cases hR
          exact PEk.k ⟨by decide, by decide⟩ hn.1
      · split at hR
        · rename_i e2 h2
          rw [h] at hR
          cases hR
          exact clB_err _ _ hn.1 e h2
        · rw [h] at hR
          cases hR
        · rename_i h2
          exact ih _ _ _ (clB_ok _ _ hn.1 _ _ h2).1 e (hR.trans h)
theorem itm_err {S : St} {t : Tk} {e : PE} (ht : tkok B t) (h : itm B S t = .inl e) : PEk B e := by
  have hn := (nx_le ht).1
  have hn2 := (nx_le hn).1
  have hd : ∀ {m : Nat} {t2 : Tk}, tkok B t2 → dgt B m t2 ≠ 0 → PEk B (dgt B m t2, t2.2.1) := fun {m t2} k g => by
    rcases dgt_rng (B := B) (m := m) (t := t2) with g2 | g2
    · exact absurd g2 g
    · exact PEk.k g2 k
  unfold itm at h
  split at h
  · unfold iSym at h
    split at h
    · cases h
      exact PEk.k ⟨by decide, by decide⟩ ht
    · split at h
      · cases h
        exact PEk.k ⟨by decide, by decide⟩ hn
      · split at h
        · cases h
          exact PEk.k ⟨by decide, by decide⟩ hn
        · split at h
          · rename_i g
            cases h
            exact hd hn2 g
          · cases h
  · split at h
    · unfold iRul at h
      split at h
      · cases h
        exact PEk.k ⟨by decide, by decide⟩ ht
      · split at h
        · rename_i e2 h2
          cases h
          exact rdT_err _ _ _ _ hn _ h2
        · rename_i L t2 h2
          have k2 := (rdT_tk _ _ _ _ hn _ _ h2).1
          split at h
          · cases h
            exact PEk.k ⟨by decide, by decide⟩ k2
          · split at h
            · rename_i e2 h3
              cases h
              exact rdT_err _ _ _ _ (nx_le k2).1 _ h3
            · cases h
    · split at h
      · unfold iTrm at h
        split at h
        · cases h
          exact PEk.k ⟨by decide, by decide⟩ ht
        · split at h
          · rename_i e2 h2
            cases h
            exact rdT_err _ _ _ _ hn _ h2
          · cases h
      · split at h
        · unfold iCpy at h
          split at h
          · cases h
            exact PEk.k ⟨by decide, by decide⟩ ht
          · split at h
            · rename_i g
              cases h
              exact hd hn g
            · cases h
        · split at h
          · unfold iFlp at h
            split at h
            · rename_i g
              cases h
              exact hd hn g
            · split at h
              · cases h
              · cases h
                exact PEk.k ⟨by decide, by decide⟩ hn
          · split at h
            · unfold iStp at h
              split at h
              · rename_i g
                cases h
                exact hd hn g
              · split at h
                · cases h
                  exact PEk.k ⟨by decide, by decide⟩ hn
                · cases h
            · cases h
              exact PEk.k ⟨by decide, by decide⟩ ht
theorem its_err : ∀ (n : Nat) (S : St) (t : Tk) (e : PE), tkok B t → its B n S t = .inl e → PEk B e := by
  intro n
  induction n with
  | zero =>
    intro S t e ht h
    rw [its] at h
    cases h
  | succ n ih =>
    intro S t e ht h
    rw [its] at h
    have hn := (nx_le ht).1
    split at h
    · cases h
    · split at h
      · cases h
        exact PEk.k ⟨by decide, by decide⟩ ht
      · split at h
        · rename_i e2 h2
          cases h
          exact itm_err hn h2
        · rename_i S2 t2 h2
          exact ih _ _ _ (itm_tk hn h2).1 h
theorem prsT_err {e : PE} (h : prsT B = .inl e) : PEk B e := by
  have h0 := (nx_ok (B := B) (Nat.zero_le _)).1
  unfold prsT at h
  split at h
  · exact its_err _ _ _ _ (nx_le h0).1 h
  · cases h
    exact PEk.k ⟨by decide, by decide⟩ h0
end P82
theorem parse_ok {A : AS} {v : Int} (hA : AOK A) : AOK (sp_parseSystem A v).2.2 := by
  unfold sp_parseSystem
  by_cases q : ¬ (0 ≤ v ∧ v ≤ ((aB A).length : Int))
  · rw [if_pos q]
    exact hA
  · rw [if_neg q]
    cases hP : prsT ((aB A).take v.toNat) with
    | inl e =>
      have hk := prsT_err hP
      have hl : ((aB A).take v.toNat).length ≤ 500 := by
        rw [List.length_take]
        have := hA.2.2.2.2.2.2.1.1
        omega
      obtain ⟨a1', a2', a3', a4', a5', a6', a7', a8', a9', a10', a11'⟩ := hA
      refine ⟨a1', a2', a3', a4', a5', a6', ⟨Nat.zero_le _, fun c hc => (by cases hc)⟩, a8', Or.inr hk.1, ?_, a11'⟩
      have h2 := hk.2
      show -1 ≤ ((e.2 : Nat) : Int) ∧ ((e.2 : Nat) : Int) ≤ 500
      omega
    | inr S =>
      have hk := prsT_ok hP
      exact ⟨hk.1, hk.2, fun x hx => (by cases hx), Nat.zero_le _, fun c hc => (by cases hc), fun c hc => (by cases hc), ⟨Nat.zero_le _, fun c hc => (by cases hc)⟩, hA.2.2.2.2.2.2.2.1, Or.inl rfl, ⟨show (-1 : Int) ≤ -1 by decide, show (-1 : Int) ≤ 500 by decide⟩, fun e => (by cases e)⟩

