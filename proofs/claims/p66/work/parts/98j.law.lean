/-! THE LAW RUNS: from the first memory to its end -/
def A00 : AS := ((false, [], ([], [])), ([], none, none), ([], 0, -1), [])
theorem A00_ok : AOK A00 := ⟨⟨Nat.zero_le _, fun q hq => (by cases hq)⟩, ⟨Nat.zero_le _, Nat.zero_le _, fun r hr => (by cases hr), fun T hT => (by cases hT)⟩, fun c hc => (by cases hc), Nat.zero_le _, fun c hc => (by cases hc), fun c hc => (by cases hc), ⟨Nat.zero_le _, fun c hc => (by cases hc)⟩, ⟨Nat.zero_le _, fun c hc => (by cases hc)⟩, Or.inl rfl, ⟨show (-1 : Int) ≤ -1 by decide, show (-1 : Int) ≤ 500 by decide⟩, fun _ => ⟨rfl, rfl, rfl, rfl, rfl⟩⟩
theorem SP_0 {μ : Mem} {s : Nat} (h : ∀ i, i < 6 → μ (rc s i) 0 = ((s + 11 + 5 * i : Nat) : Int) ∧ μ (rc s i) 1 = ((s + 13 + 5 * i : Nat) : Int)) : SP μ s := by
  have h2 : ∀ i j, i < 6 → j < 2 → μ (rc s i) j = ((s + 11 + 5 * i + 2 * j : Nat) : Int) := fun i j hi hj => by
    have : j = 0 ∨ j = 1 := by omega
    rcases this with rfl | rfl
    · rw [(h i hi).1]
      rfl
    · rw [(h i hi).2]
      omega
  refine ⟨fun i j hi hj => ⟨i, j, hi, hj, h2 i j hi hj⟩, fun i j i' j' hi hj hi' hj' e => ?_⟩
  rw [h2 i j hi hj, h2 i' j' hi' hj'] at e
  omega
theorem st_0 {μ : Mem} (hp : ∀ q, q ∈ pts → μ q.1 q.2.1 = q.2.2) : CI μ A00 := by
  have g : ∀ a j z, (a, j, z) ∈ pts → μ a j = z := fun a j z h => hp _ h
  have hSP : ∀ s, s ∈ [5, 77, 665, 717] ++ (List.range 8).map hc → SP μ s := fun s hs => by
    refine SP_0 fun i hi => ?_
    have hm : ∀ q, q ∈ spts s → q ∈ pts := fun q hq => List.mem_append_right _ (List.mem_flatMap.mpr ⟨s, hs, hq⟩)
    constructor
    · exact g _ _ _ (hm _ (List.mem_flatMap.mpr ⟨i, List.mem_range.mpr hi, List.mem_cons_self ..⟩))
    · exact g _ _ _ (hm _ (List.mem_flatMap.mpr ⟨i, List.mem_range.mpr hi, List.mem_cons_of_mem _ (List.mem_cons_self ..)⟩))
  have s5 : SP μ 5 := hSP 5 (by decide)
  have s77 : SP μ 77 := hSP 77 (by decide)
  have s665 : SP μ 665 := hSP 665 (by decide)
  have s717 : SP μ 717 := hSP 717 (by decide)
  have shc : ∀ k, k < 8 → SP μ (hc k) := fun k hk => hSP _ (List.mem_append_right _ (List.mem_map.mpr ⟨k, List.mem_range.mpr hk, rfl⟩))
  exact ⟨g 0 0 0 (by decide), ⟨g 1 0 0 (by decide), fun i hi => (by cases hi)⟩, ⟨s5, ⟨g 5 0 0 (by decide), Nat.zero_le _, fun i hi => (by cases hi)⟩, ⟨g 5 1 0 (by decide), Nat.zero_le _, fun i hi => (by cases hi)⟩⟩, ⟨⟨s665, g 0 11 0 (by decide), fun c hc => (by cases hc)⟩, ⟨s717, g 0 12 0 (by decide), fun c hc => (by cases hc)⟩⟩, ⟨⟨g 72 0 0 (by decide), g 72 1 (-1) (by decide), g 72 4 0 (by decide), fun i hi => (by cases hi)⟩, s77⟩, Or.inl (g 139 0 1 (by decide)), ⟨g 244 0 0 (by decide), fun i hi => (by cases hi)⟩, ⟨g 247 0 0 (by decide), shc, 0, by decide, g 247 1 0 (by decide), fun i hi => (by cases hi)⟩⟩
/-- the constructors' end -/
theorem t_start : ∃ rows : List TR, rows.length = 772 ∧ okA rows rsl.reverse = true ∧ tslots rows ≤ 100000 ∧ (∀ q, q ∈ pts → iof (tcont rows q.1 q.2.1) = q.2.2) ∧ ∀ (E : JE1) (P : JO → JM → Prop), JX 274 8 (jR 1000000 :: jR 0 :: List.replicate 14 jU) [] (tmem E rows) P → JX 274 0 (jargs 274 [jR 1000000]) [] (tmem E []) P := by
  have h := tchk_t
  unfold tchk at h
  split at h
  · rename_i ls st k rows hg
    simp only [Bool.and_eq_true, Nat.beq_eq, List.isEmpty_iff] at h
    obtain ⟨h1, h2, h3, h4, h5, h6⟩ := h
    unfold okLs at h1
    split at h1
    · rename_i a0 a1 r
      simp only [Bool.and_eq_true, Nat.beq_eq] at h1
      obtain ⟨rfl, rfl, h7⟩ := h1
      have h7 := allU_ok _ _ h7
      subst h2
      have h00 : (0 : Nat) = ([] : List TR).length := rfl
      have key : ∀ (n : Nat), tgo n 274 8 0 (jargs 274 [jR 1000000]) [] 0 [] = some (.inr (.inl 1000000) :: .inr (.inl 0) :: r, [], k, rows) → k = rows.length ∧ ∀ (E : JE1) (P : JO → JM → Prop), JX 274 8 (jR 1000000 :: jR 0 :: r) [] (tmem E rows) P → JX 274 0 (jargs 274 [jR 1000000]) [] (tmem E []) P := fun n hn => ⟨(tgo_ok (E := (0, fun _ => 0)) (P := fun _ _ => True) _ _ _ _ _ _ _ _ _ _ _ _ h00 hn).1, fun E P => (tgo_ok _ _ _ _ _ _ _ _ _ _ _ _ h00 hn).2⟩
      have hk := key _ hg
      rw [h7] at hk
      refine ⟨rows, by omega, h4, Nat.le_of_ble_eq_true h5, fun q hq => ?_, hk.2⟩
      have g := List.all_eq_true.mp h6 q hq
      simp only [Bool.and_eq_true, decide_eq_true_eq] at g
      rw [← tget_e (k := 772) (by omega) g.1]
      exact g.2
    · cases h1
  · cases h
theorem law_runs {E : JE1} (hE : E.1 ≤ 260) : JX 274 0 (jargs 274 [jR 1000000]) [] (tmem E []) (fun o M => o = .inl (some (.inl 1)) ∧ jcells M ≤ 600086 ∧ jslots M ≤ 7301442) := by
  obtain ⟨rows, hl, hA, hs, hp, hgo⟩ := t_start
  refine hgo E _ ?_
  have h0 := okA_ok rows rsl.reverse hA
  have z797 : iof (tcont rows 797 0) = 0 := by
    rw [tcont_ge rows 797 0 (by omega)]
    rfl
  have hR : Rl (E, ([], fun a j => tcont rows a j), (772, tslots rows)) (tmem E rows) (fun a j => iof (tcont rows a j)) := by
    refine ⟨?_, fun a j hj => ?_, ⟨?_, ?_, ?_⟩, rfl, fun a j _ => rfl, fun _ => rfl⟩
    · show (rows.map tsh).reverse = _ ++ []
      rw [h0.1, List.map_reverse, List.reverse_reverse, List.append_nil]
    · have ha : a < 772 := by
        rcases Nat.lt_or_ge a 772 with g | g
        · exact g
        · exfalso
          unfold ln at hj
          rw [List.getD_eq_getElem?_getD, List.getElem?_eq_none (by rw [rsl_len]; exact g)] at hj
          exact absurd hj (Nat.not_lt_zero _)
      have hlt : a < rsl.length := by rw [rsl_len]; exact ha
      have hq : rsl.reverse[rows.length - 1 - a]? = some rsl[a] := by
        rw [List.getElem?_reverse (by rw [rsl_len]; omega), rsl_len, hl, show 772 - 1 - (772 - 1 - a) = a by omega]
        exact List.getElem?_eq_getElem hlt
      have e1 : rt a = rsl[a].1 := by
        unfold rt
        rw [List.getD_eq_getElem?_getD, List.getElem?_eq_getElem hlt]
        rfl
      have e2 : ln a = rsl[a].2 := by
        unfold ln
        rw [List.getD_eq_getElem?_getD, List.getElem?_eq_getElem hlt]
        rfl
      rw [e1]
      exact h0.2 a _ (by omega) hq j (by rw [← e2]; exact hj)
    · show 0 ≤ iof (tcont rows 797 0)
      omega
    · show rows.length = 772 + (iof (tcont rows 797 0)).toNat
      rw [z797, hl]
      rfl
    · show tslots rows = tslots rows + 6 * (iof (tcont rows 797 0)).toNat
      rw [z797]
      rfl
  have h1 := st_0 (μ := fun a j => iof (tcont rows a j)) hp
  have h2 : R2 ((E, ([], fun a j => tcont rows a j), (772, tslots rows)), fun a j => iof (tcont rows a j)) (tmem E rows) := ⟨hR, z797, Nat.zero_le _⟩
  have h3 : d_Lw_law ((E, ([], fun a j => tcont rows a j), (772, tslots rows)), fun a j => iof (tcont rows a j)) (fun z s' => z = 1 ∧ s'.1.2.2.1 ≤ 41772 ∧ s'.1.2.2.2 ≤ 225000) := by
    refine c_law (A0 := A00) h1 A00_ok z797 rfl (Nat.zero_le _) (Nat.lt_of_le_of_lt hE (by decide)) fun s' a b _ => ⟨rfl, ?_, ?_⟩
    · have a : s'.1.2.2.1 ≤ 772 + 41000 := a
      omega
    · have b : s'.1.2.2.2 ≤ tslots rows + 125000 := b
      omega
  obtain ⟨n, o, M1, hr, hP⟩ := k_Lw_law h2 h3
  refine ⟨n, o, M1, hr, ?_⟩
  unfold P2 at hP
  split at hP
  · rename_i v
    obtain ⟨s', hM, z, rfl, rfl, a, b⟩ := hP
    obtain ⟨⟨_, _, ⟨_, c2, c3⟩, _⟩, c4, _⟩ := hM
    refine ⟨rfl, ?_, ?_⟩
    · show M1.2.2.1 ≤ 600086
      rw [c2, c4]
      show s'.1.2.2.1 + 0 ≤ 600086
      omega
    · show M1.2.2.2.1 ≤ 7301442
      rw [c3, c4]
      show s'.1.2.2.2 + 6 * 0 ≤ 7301442
      omega
  · exact hP.elim
theorem law_run {L : Nat} {xs : Nat → Int32} (hL : L ≤ 260) : ∃ (n : Nat) (Mf : JM), jrun n 274 0 (jargs 274 [.inr (.inl 1000000)]) [] (jm00 L xs) = some (.inl (some (.inl 1)), Mf) ∧ jcells Mf ≤ 600086 ∧ jslots Mf ≤ 7301442 := by
  obtain ⟨n, o, Mf, h1, h2, h3, h4⟩ := law_runs (E := (L, fun k => (xs k).toInt)) hL
  subst h2
  have e : tmem (L, fun k => (xs k).toInt) [] = jm00 L xs := by
    unfold tmem jm00
    have : tcont [] = fun _ _ => .inl 0 := rfl
    rw [this]
    rfl
  rw [e] at h1
  exact ⟨n, Mf, h1, h3, h4⟩
