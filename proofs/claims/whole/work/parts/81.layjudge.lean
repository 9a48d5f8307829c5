/-! ===== lay and judge ===== -/
theorem pl_ix {v : Int32} {n k : Nat} (hn : n ≤ 20) (hk : k < 13) (hv : ¬ v < 0) : (∃ i, v = nI i ∧ i + k < n ∧ lg_cmp (v.toInt64 + (nI k).toInt64) ((nI n).toInt64) < 0) ∨ (((v + nI k) < 0 ∨ (¬ (v + nI k) < 0 ∧ nI n ≤ v + nI k)) ∧ ¬ lg_cmp (v.toInt64 + (nI k).toInt64) ((nI n).toInt64) < 0) := by
  have b1 : v.toInt < 2147483648 := Int32.toInt_lt v
  have e : (v.toInt64 + (nI k).toInt64).toInt = v.toInt + k := by
    have b2 : -2147483648 ≤ v.toInt := Int32.le_toInt v
    rw [Int64.toInt_add, wide, wide, nI_toInt (by omega)]
    unfold Int.bmod
    dsimp only
    split <;> omega
  have c : (lg_cmp (v.toInt64 + (nI k).toInt64) ((nI n).toInt64) < 0) ↔ v.toInt + k < n := by
    rw [lg_cmp_lt, Int64.lt_iff_toInt_lt, e, wide, nI_toInt (by omega)]
  rcases pk_ix v (n := 21) (by omega) with z | z | ⟨i, hi, rfl⟩
  · exact absurd z hv
  · have h2 := big_toInt (by omega) z
    refine Or.inr ⟨?_, fun q => by have := c.mp q; omega⟩
    have a := Int32.toInt_add v (nI k)
    rw [nI_toInt (by omega)] at a
    unfold Int.bmod at a
    dsimp only at a
    by_cases q : (v + nI k) < 0
    · exact Or.inl q
    · refine Or.inr ⟨q, Int32.le_iff_toInt_le.mpr ?_⟩
      have q2 : 0 ≤ (v + nI k).toInt := by
        have := Int32.le_iff_toInt_le.mp (Int32.not_lt.mp q)
        rwa [show (0 : Int32).toInt = 0 by decide] at this
      rw [nI_toInt (by omega)]
      split at a <;> omega
  · rw [nI_toInt (by omega)] at c
    by_cases q : i + k < n
    · exact Or.inl ⟨i, rfl, q, c.mpr (by omega)⟩
    · refine Or.inr ⟨Or.inr ?_, fun z => by have := c.mp z; omega⟩
      rw [nI_add]
      exact ⟨nI_pos (by omega), nI_le (by omega) (by omega)⟩
def LayStep (σ μ : Mm) (x y : Option (Int32 × Mm)) : Prop := ∃ a τ ρ, x = some (a, τ) ∧ y = some (a, ρ) ∧ ListR τ ρ ∧ (∀ k, k ≠ 75 → τ k = σ k) ∧ (∀ k, k < 12 ∨ (20 < k ∧ k ≠ 27) → ρ k = μ k) ∧ ρ 12 = fun _ => 0
theorem lay_loop {σ M b : Mm} {l n : Nat} {v : Int32} (hl : l < 4) (hn : n ≤ 20) (hP : nP b ≤ 12) (s0 : σ 0 0 = nI (nP b)) (s1 : σ 74 l = nI n) (s2 : ∀ i, i < nP b → σ 58 i = nI (stN b i)) (m0 : M 0 0 = nI (nP b)) (m1 : M 26 l = nI n) (m2 : ∀ i, i < nP b → M 14 i = nI (stN b i)) : ∀ d k F (σ' M' : Mm), k + d = nP b → d < F → (v < 0 → k = 0) → ListR σ' M' → (∀ j, j ≠ 75 → σ' j = σ j) → (∀ j, j ≠ 27 → M' j = M j) → ∃ a τ ρ, wh2 (f_X6_lay_s15 (nI l) v) F σ' (nI k) = some (a, τ) ∧ wh2 (f_X7_lay_s41 (nI l) v) F M' (nI k) = some (a, ρ) ∧ ListR τ ρ ∧ (∀ j, j ≠ 75 → τ j = σ j) ∧ ∀ j, j ≠ 27 → ρ j = M j := by
  intro d
  induction d with
  | zero =>
    intro k F σ' M' hk hF h0 hL hs hm
    obtain ⟨F, rfl⟩ : ∃ G, F = G + 1 := ⟨F - 1, by omega⟩
    refine ⟨nI (nP b), σ', M', ?_, ?_, hL, hs, hm⟩
    · show f_X6_lay_s15 (nI l) v _ σ' (nI k) = _
      unfold f_X6_lay_s15 f_X6_lay_j75
      rw [Option.bind_some, hs 0 (by omega), s0, if_pos (nI_le (by omega) (by omega)), Option.bind_some]
    · show f_X7_lay_s41 (nI l) v _ M' (nI k) = _
      unfold f_X7_lay_s41 f_X7_lay_j97
      rw [Option.bind_some, hm 0 (by omega), m0, if_pos (nI_le (by omega) (by omega)), Option.bind_some]
  | succ d ih =>
    intro k F σ' M' hk hF h0 hL hs hm
    obtain ⟨F, rfl⟩ : ∃ G, F = G + 1 := ⟨F - 1, by omega⟩
    have hp := x_hasPlace (σ := σ') hl hn (by rw [hs 74 (by omega), s1])
    by_cases hv : v < 0
    · obtain rfl := h0 hv
      refine ⟨-13, σ', M', ?_, ?_, hL, hs, hm⟩
      · show f_X6_lay_s15 (nI l) v _ σ' (nI 0) = _
        unfold f_X6_lay_s15
        rw [Option.bind_some, hs 0 (by omega), s0, if_neg (nI_ge (by omega) (by omega)), hp, show v + nI 0 = v from Int32.add_zero v, if_pos hv, Option.bind_some, if_pos rfl]
      · show f_X7_lay_s41 (nI l) v _ M' (nI 0) = _
        unfold f_X7_lay_s41
        rw [Option.bind_some, hm 0 (by omega), m0, if_neg (nI_ge (by omega) (by omega)), if_pos hv]
    · rcases pl_ix (v := v) hn (show k < 13 by omega) hv with ⟨i, rfl, hi, c⟩ | ⟨c0, c⟩
      · obtain ⟨a, τ, ρ, r1, r2, r3, r4, r5⟩ := ih (k + 1) F (us σ' 75 (20 * l + (i + k)) (nI (stN b k))) (us M' 27 (20 * l + (i + k)) (nI (stN b k))) (by omega) (by omega) (fun z => absurd z hv) (hL.put _ _) (fun j hj => (us_ne hj).trans (hs j hj)) (fun j hj => (us_ne hj).trans (hm j hj))
        refine ⟨a, τ, ρ, ?_, ?_, r3, r4, r5⟩
        · show f_X6_lay_s15 (nI l) (nI i) _ σ' (nI k) = _
          unfold f_X6_lay_s15 f_X3_putAt
          rw [Option.bind_some, hs 0 (by omega), s0, if_neg (nI_ge (by omega) (by omega)), hp, nI_add, if_neg (nI_pos (by omega)), if_neg (nI_ge (by omega) (by omega)), Option.bind_some, if_neg n10, row_at (by omega) (by omega), Option.bind_some, e20, row_put (by omega) (by omega), Option.bind_some, Option.bind_some, hs 58 (by omega), s2 k (by omega), show nI k + (1 : Int32) = nI (k + 1) from nI_1 k]
          exact r1
        · have stp : ∀ r, f_X7_lay_s41 (nI l) (nI i) r M' (nI k) = r (us M' 27 (20 * l + (i + k)) (nI (stN b k))) (nI (k + 1)) := by
            intro r
            unfold f_X7_lay_s41
            rw [Option.bind_some, hm 0 (by omega), m0, if_neg (nI_ge (by omega) (by omega)), if_neg hv, ald_nI (by omega) (by omega), Option.bind_some, hm 26 (by omega), m1, if_pos c, ald_nI (by omega) (by omega), Option.bind_some, hm 14 (by omega), m2 k (by omega), m20, nI_add, ast_nI (by omega) (by omega), Option.bind_some, show nI k + (1 : Int32) = nI (k + 1) from nI_1 k, Nat.add_assoc]
          exact (stp _).trans r2
      · refine ⟨-13, σ', M', ?_, ?_, hL, hs, hm⟩
        · show f_X6_lay_s15 (nI l) v _ σ' (nI k) = _
          unfold f_X6_lay_s15
          rw [Option.bind_some, hs 0 (by omega), s0, if_neg (nI_ge (by omega) (by omega)), hp]
          rcases c0 with c0 | ⟨c1, c2⟩
          · rw [if_pos c0, Option.bind_some, if_pos rfl]
          · rw [if_neg c1, if_pos c2, Option.bind_some, if_pos rfl]
        · show f_X7_lay_s41 (nI l) v _ M' (nI k) = _
          unfold f_X7_lay_s41
          rw [Option.bind_some, hm 0 (by omega), m0, if_neg (nI_ge (by omega) (by omega)), if_neg hv, ald_nI (by omega) (by omega), Option.bind_some, hm 26 (by omega), m1, if_neg c]
theorem lay_same {σ μ ρ : Mm} {x y : Option (Int32 × Mm)} {a : Int32} (h : ListR σ μ) (hx : x = some (a, σ)) (hy : y = some (a, sc μ 12 0)) : LayStep σ μ x y :=
  ⟨a, σ, sc μ 12 0, hx, hy, h.z, fun _ _ => rfl, fun k h1 => sc_ne (by omega), sc_eq'⟩
theorem lay_both {σ μ b : Mm} (h : Bk σ b) (hm : Bk μ b) (ok : BookOK b) (ht : TabOK b σ) (hL : ListR σ μ) (w v : Int32) : LayStep σ μ (f_X6_lay σ w v) (f_X7_lay μ w v) := by
  have hm' : Bk (sc μ 12 0) b := hm.sc (by omega)
  rcases isL w with ⟨l, hl, rfl, a1, a2⟩ | ⟨a1, a2⟩
  · rcases hL l hl with ⟨e1, e2⟩ | ⟨n, hn, e1, e2, e3, e4⟩
    · refine lay_same (ρ := μ) (a := -11) hL ?_ ?_
      · unfold f_X6_lay; rw [x_refusal hl a1, if_pos e1, Option.bind_some, if_neg (by decide)]
      · unfold f_X7_lay f_X7_lay_j21; rw [Option.bind_some, a2, Option.bind_some, if_neg n10, ald_nI (by omega) (by omega), Option.bind_some, sc_ne (by omega), e2, if_pos rfl, Option.bind_some, if_neg n10]
    · have hne : ¬ σ 74 l = -1 := by rw [e1]; exact neg1 (by omega)
      have hL' : ListR σ (LSt (sc μ 12 0) b) := by
        intro j hj
        rw [LSt_ne (by omega) (by omega), LSt_ne (by omega) (by omega), LSt_ne (by omega) (by omega)]
        exact hL.z j hj
      obtain ⟨a, τ, ρ, r1, r2, r3, r4, r5⟩ := lay_loop (σ := σ) (M := LSt (sc μ 12 0) b) (b := b) (v := v) hl hn ok.P12 (by rw [h 0 (by omega), ok.P]) e1 ht.2 (by rw [LSt_bk hm' 0 (by omega), ok.P]) (by rw [LSt_ne (by omega) (by omega), sc_ne (by omega), e3]) (fun i hi => LSt_st hi) (nP b) 0 5000 σ (LSt (sc μ 12 0) b) (by omega) (by have := ok.P12; omega) (fun _ => rfl) hL' (fun _ _ => rfl) (fun _ _ => rfl)
      refine ⟨a, τ, ρ, ?_, ?_, r3, r4, fun k hk => by rw [r5 k (by omega), LSt_ne (by omega) (by omega), sc_ne (by omega)], by rw [r5 12 (by omega), LSt_ne (by omega) (by omega), sc_eq']⟩
      · unfold f_X6_lay; rw [x_refusal hl a1, if_neg hne, Option.bind_some, if_pos rfl]; exact r1
      · unfold f_X7_lay; rw [Option.bind_some, a2, Option.bind_some, if_neg n10, ald_nI (by omega) (by omega), Option.bind_some, sc_ne (by omega), e2, if_neg n10, m_layStanding hm' ok, Option.bind_some]; exact r2
  · refine lay_same (ρ := μ) (a := -1) hL ?_ ?_
    · unfold f_X6_lay f_X6_refusalOfList; rw [a1, Option.bind_some, if_pos rfl, Option.bind_some, if_neg (by decide)]
    · unfold f_X7_lay f_X7_lay_j21; rw [Option.bind_some, a2, Option.bind_some, if_pos rfl, Option.bind_some, if_pos rfl]
theorem judge_loop {σ M b : Mm} {l n : Nat} {v : Int32} (hl : l < 4) (hn : n ≤ 20) (hP : nP b ≤ 12) (s0 : σ 0 0 = nI (nP b)) (s1 : σ 74 l = nI n) (s2 : ∀ i, i < nP b → σ 58 i = nI (stN b i)) (m0 : M 0 0 = nI (nP b)) (m1 : M 26 l = nI n) (m2 : ∀ i, i < nP b → M 14 i = nI (stN b i)) (e4 : ∀ i, i < n → σ 75 (20 * l + i) = M 27 (20 * l + i)) : ∀ d k F, k + d = nP b → d < F → (v < 0 → k = 0) → ∃ a, wh1 (f_X6_judge_s15 σ (nI l) v) F (nI k) = some a ∧ wh2 (f_X7_judge_s41 (nI l) v) F M (nI k) = some (a, M) := by
  have hp := x_hasPlace (σ := σ) hl hn s1
  intro d
  induction d with
  | zero =>
    intro k F hk hF h0
    obtain ⟨F, rfl⟩ : ∃ G, F = G + 1 := ⟨F - 1, by omega⟩
    refine ⟨-5, ?_, ?_⟩
    · show f_X6_judge_s15 σ (nI l) v _ (nI k) = _
      unfold f_X6_judge_s15
      rw [s0, if_pos (nI_le (by omega) (by omega))]
    · show f_X7_judge_s41 (nI l) v _ M (nI k) = _
      unfold f_X7_judge_s41
      rw [Option.bind_some, m0, if_pos (nI_le (by omega) (by omega))]
  | succ d ih =>
    intro k F hk hF h0
    obtain ⟨F, rfl⟩ : ∃ G, F = G + 1 := ⟨F - 1, by omega⟩
    by_cases hv : v < 0
    · obtain rfl := h0 hv
      refine ⟨(100 : Int32) + nI 0, ?_, ?_⟩
      · show f_X6_judge_s15 σ (nI l) v _ (nI 0) = _
        unfold f_X6_judge_s15
        rw [s0, if_neg (nI_ge (by omega) (by omega)), hp, show v + nI 0 = v from Int32.add_zero v, if_pos hv, Option.bind_some, if_pos rfl]
      · show f_X7_judge_s41 (nI l) v _ M (nI 0) = _
        unfold f_X7_judge_s41
        rw [Option.bind_some, m0, if_neg (nI_ge (by omega) (by omega)), if_pos hv]
    · rcases pl_ix (v := v) hn (show k < 13 by omega) hv with ⟨i, rfl, hi, c⟩ | ⟨c0, c⟩
      · have e5 := e4 (i + k) hi
        by_cases z : M 27 (20 * l + (i + k)) = nI (stN b k)
        · obtain ⟨a, r1, r2⟩ := ih (k + 1) F (by omega) (by omega) (fun z => absurd z hv)
          refine ⟨a, ?_, ?_⟩
          · have stp : ∀ r, f_X6_judge_s15 σ (nI l) (nI i) r (nI k) = r (nI (k + 1)) := by
              intro r
              unfold f_X6_judge_s15 f_X3_valueAt
              rw [s0, if_neg (nI_ge (by omega) (by omega)), hp, nI_add, if_neg (nI_pos (by omega)), if_neg (nI_ge (by omega) (by omega)), Option.bind_some, if_neg n10, e20, row_at (by omega) (by omega), Option.bind_some, Option.bind_some, row_at (by omega) (by omega), Option.bind_some, s2 k (by omega), e5, if_pos z, show nI k + (1 : Int32) = nI (k + 1) from nI_1 k]
            exact (stp _).trans r1
          · have stp : ∀ r, f_X7_judge_s41 (nI l) (nI i) r M (nI k) = r M (nI (k + 1)) := by
              intro r
              unfold f_X7_judge_s41
              rw [Option.bind_some, m0, if_neg (nI_ge (by omega) (by omega)), if_neg hv, ald_nI (by omega) (by omega), Option.bind_some, m1, if_pos c, m20, nI_add, ald_nI (by omega) (by omega), Option.bind_some, ald_nI (by omega) (by omega), Option.bind_some, m2 k (by omega), Nat.add_assoc, if_pos z, show nI k + (1 : Int32) = nI (k + 1) from nI_1 k]
            exact (stp _).trans r2
        · refine ⟨nI k, ?_, ?_⟩
          · show f_X6_judge_s15 σ (nI l) (nI i) _ (nI k) = _
            unfold f_X6_judge_s15 f_X3_valueAt
            rw [s0, if_neg (nI_ge (by omega) (by omega)), hp, nI_add, if_neg (nI_pos (by omega)), if_neg (nI_ge (by omega) (by omega)), Option.bind_some, if_neg n10, e20, row_at (by omega) (by omega), Option.bind_some, Option.bind_some, row_at (by omega) (by omega), Option.bind_some, s2 k (by omega), e5, if_neg z]
          · show f_X7_judge_s41 (nI l) (nI i) _ M (nI k) = _
            unfold f_X7_judge_s41
            rw [Option.bind_some, m0, if_neg (nI_ge (by omega) (by omega)), if_neg hv, ald_nI (by omega) (by omega), Option.bind_some, m1, if_pos c, m20, nI_add, ald_nI (by omega) (by omega), Option.bind_some, ald_nI (by omega) (by omega), Option.bind_some, m2 k (by omega), Nat.add_assoc, if_neg z]
      · refine ⟨(100 : Int32) + nI k, ?_, ?_⟩
        · show f_X6_judge_s15 σ (nI l) v _ (nI k) = _
          unfold f_X6_judge_s15
          rw [s0, if_neg (nI_ge (by omega) (by omega)), hp]
          rcases c0 with c0 | ⟨c1, c2⟩
          · rw [if_pos c0, Option.bind_some, if_pos rfl]
          · rw [if_neg c1, if_pos c2, Option.bind_some, if_pos rfl]
        · show f_X7_judge_s41 (nI l) v _ M (nI k) = _
          unfold f_X7_judge_s41
          rw [Option.bind_some, m0, if_neg (nI_ge (by omega) (by omega)), if_neg hv, ald_nI (by omega) (by omega), Option.bind_some, m1, if_neg c]
theorem judge_both {σ μ b : Mm} (h : Bk σ b) (hm : Bk μ b) (ok : BookOK b) (ht : TabOK b σ) (h0 : σ 64 0 = 0) (hL : ListR σ μ) (w v : Int32) : Both σ μ (Ask σ (f_X6_judge σ w v)) (f_X7_judge μ w v) := by
  have hm' : Bk (sc μ 12 0) b := hm.sc (by omega)
  rcases isL w with ⟨l, hl, rfl, a1, a2⟩ | ⟨a1, a2⟩
  · rcases hL l hl with ⟨e1, e2⟩ | ⟨n, hn, e1, e2, e3, e4⟩
    · refine Both.ask (a := -11) (ρ := sc μ 12 0) h hm ok ht h0 ?_ ?_ (fun _ _ => rfl)
      · unfold f_X6_judge; rw [x_refusal hl a1, if_pos e1, Option.bind_some, if_neg (by decide)]
      · unfold f_X7_judge f_X7_judge_j21; rw [Option.bind_some, a2, Option.bind_some, if_neg n10, ald_nI (by omega) (by omega), Option.bind_some, sc_ne (by omega), e2, if_pos rfl, Option.bind_some, if_neg n10]
    · have hne : ¬ σ 74 l = -1 := by rw [e1]; exact neg1 (by omega)
      obtain ⟨a, r1, r2⟩ := judge_loop (σ := σ) (M := LSt (sc μ 12 0) b) (b := b) (v := v) hl hn ok.P12 (by rw [h 0 (by omega), ok.P]) e1 ht.2 (by rw [LSt_bk hm' 0 (by omega), ok.P]) (by rw [LSt_ne (by omega) (by omega), sc_ne (by omega), e3]) (fun i hi => LSt_st hi) (fun i hi => by rw [LSt_ne (by omega) (by omega), sc_ne (by omega)]; exact e4 i hi) (nP b) 0 5000 (by omega) (by have := ok.P12; omega) (fun _ => rfl)
      refine Both.ask (a := a) (ρ := LSt (sc μ 12 0) b) h hm ok ht h0 ?_ ?_ (fun k hk => LSt_ne (by omega) (by omega))
      · unfold f_X6_judge; rw [x_refusal hl a1, if_neg hne, Option.bind_some, if_pos rfl]; exact r1
      · unfold f_X7_judge; rw [Option.bind_some, a2, Option.bind_some, if_neg n10, ald_nI (by omega) (by omega), Option.bind_some, sc_ne (by omega), e2, if_neg n10, m_layStanding hm' ok, Option.bind_some]; exact r2
  · refine Both.ask (a := -1) (ρ := sc μ 12 0) h hm ok ht h0 ?_ ?_ (fun _ _ => rfl)
    · unfold f_X6_judge f_X6_refusalOfList; rw [a1, Option.bind_some, if_pos rfl, Option.bind_some, if_neg (by decide)]
    · unfold f_X7_judge f_X7_judge_j21; rw [Option.bind_some, a2, Option.bind_some, if_pos rfl, Option.bind_some, if_pos rfl]
