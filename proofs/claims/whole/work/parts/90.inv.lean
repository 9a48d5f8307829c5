/-! ===== the invariant of both memories; every call keeps it and answers alike ===== -/
def nrm (σ : Mm) : Mm := fun k => if isSc k then fun _ => σ k 0 else σ k
theorem nrm_ge {σ : Mm} {k : Nat} (h : 12 ≤ k) : nrm σ k = σ k := by
  unfold nrm
  refine if_neg (fun z => ?_)
  unfold isSc at z
  simp only [Bool.or_eq_true, beq_iff_eq] at z
  omega
def Inv0 (σ μ : Mm) : Prop := ∃ b, Bk σ b ∧ Bk μ b ∧ BookOK b ∧ TabOK b σ ∧ σ 64 0 = 0 ∧ TapeR σ μ ∧ SheetR σ μ ∧ ListR σ μ ∧ SavR σ μ
def Inv (σ μ : Mm) : Prop := ∃ b, Cst b ∧ Bk σ b ∧ Bk μ b ∧ BookOK b ∧ TabOK b σ ∧ σ 64 0 = 0 ∧ TapeR σ μ ∧ SheetR σ μ ∧ ListR σ μ ∧ SavR σ μ
theorem TapeR.cong {σ μ τ ρ : Mm} (h : TapeR σ μ) (a : τ 70 = σ 70) (b : τ 71 = σ 71) (c : ρ 21 = μ 21) (d : ρ 22 = μ 22) : TapeR τ ρ := by
  unfold TapeR
  rw [a, b, c, d]
  exact h
theorem SheetR.cong {σ μ τ ρ : Mm} (h : SheetR σ μ) (a : τ 72 = σ 72) (b : τ 73 = σ 73) (c : ρ 23 = μ 23) (d : ρ 24 = μ 24) : SheetR τ ρ := by
  unfold SheetR
  rw [a, b, c, d]
  exact h
theorem ListR.cong {σ μ τ ρ : Mm} (h : ListR σ μ) (a : τ 74 = σ 74) (b : τ 75 = σ 75) (c : ρ 25 = μ 25) (d : ρ 26 = μ 26) (e : ρ 27 = μ 27) : ListR τ ρ := by
  unfold ListR
  rw [a, b, c, d, e]
  exact h
theorem SavR.cong {σ μ τ ρ : Mm} (h : SavR σ μ) (a : ∀ k, 20 ≤ k → k ≤ 40 → τ k = σ k) (c : ρ 28 = μ 28) (d : ρ 29 = μ 29) : SavR τ ρ := by
  unfold SavR
  rw [a 40 (by omega) (by omega), c, d]
  rcases h with h | ⟨h1, h2, b, h3, h4⟩
  · exact Or.inl h
  · exact Or.inr ⟨h1, h2, b, h3, fun k hk j hj => by rw [a (20 + k) (by omega) (by omega)]; exact h4 k hk j hj⟩
theorem eqB_nrm (b : Mm) : EqB b (nrm b) := by
  intro k hk j hj
  unfold nrm
  by_cases z : isSc k = true
  · rw [if_pos z]
    have hc : k = 0 ∨ k = 3 ∨ k = 4 ∨ k = 10 := by
      unfold isSc at z
      simp only [Bool.or_eq_true, beq_iff_eq] at z
      omega
    rw [cap_sc hc] at hj
    rw [show j = 0 by omega]
  · rw [if_neg z]
theorem inv_nrm {σ μ : Mm} (h : Inv0 σ μ) : Inv (nrm σ) (nrm μ) := by
  obtain ⟨b, h1, h2, h3, h4, h5, h6, h7, h8, h9⟩ := h
  refine ⟨nrm b, ⟨rfl, rfl, rfl, rfl⟩, fun k hk => ?_, fun k hk => ?_, h3.cong (eqB_nrm b), ?_, ?_, h6.cong (nrm_ge (by omega)) (nrm_ge (by omega)) (nrm_ge (by omega)) (nrm_ge (by omega)), h7.cong (nrm_ge (by omega)) (nrm_ge (by omega)) (nrm_ge (by omega)) (nrm_ge (by omega)), h8.cong (nrm_ge (by omega)) (nrm_ge (by omega)) (nrm_ge (by omega)) (nrm_ge (by omega)) (nrm_ge (by omega)), h9.cong (fun k k1 k2 => nrm_ge (by omega)) (nrm_ge (by omega)) (nrm_ge (by omega))⟩
  · unfold nrm
    rw [h1 k hk]
  · unfold nrm
    rw [h2 k hk]
  · have e : TabOK b (nrm σ) := h4.cong (fun k k1 k2 => nrm_ge (by omega))
    exact e.dn ⟨rfl, rfl, fun _ _ => rfl, rfl, rfl, fun _ _ => ⟨rfl, rfl⟩, fun _ _ => ⟨rfl, rfl, rfl⟩⟩ h3
  · rw [nrm_ge (by omega)]; exact h5
def Step (x y : Option (Int32 × Mm)) : Prop := ∃ a τ ρ, x = some (a, τ) ∧ y = some (a, ρ) ∧ Inv0 τ ρ
theorem Both.step {σ μ : Mm} {x y : Option (Int32 × Mm)} (hB : Both σ μ x y) (hI : Inv σ μ) : Step x y := by
  obtain ⟨b, hc, h1, h2, h3, h4, h5, h6, h7, h8, h9⟩ := hI
  obtain ⟨a, τ, ρ, c, q1, q2, q3, q4, q5, q6, q7, q8, q9⟩ := hB
  exact ⟨a, τ, ρ, q1, q2, c, q3, q4, q5, q6, q7, h6.cong (q8 _ (by omega)) (q8 _ (by omega)) (q9.1 _ (by omega)) (q9.1 _ (by omega)), h7.cong (q8 _ (by omega)) (q8 _ (by omega)) (q9.1 _ (by omega)) (q9.1 _ (by omega)), h8.cong (q8 _ (by omega)) (q8 _ (by omega)) (q9.1 _ (by omega)) (q9.1 _ (by omega)) (q9.1 _ (by omega)), h9.cong (fun k k1 k2 => q8 _ (by omega)) (q9.1 _ (by omega)) (q9.1 _ (by omega))⟩
theorem BothT.step {σ μ : Mm} {x y : Option (Int32 × Mm)} (hB : BothT σ μ x y) (hI : Inv σ μ) : Step x y := by
  obtain ⟨b, hc, h1, h2, h3, h4, h5, h6, h7, h8, h9⟩ := hI
  obtain ⟨a, τ, ρ, c, q1, q2, q3, q4, q5, q6, q7, q8, q9, q10, q11, q12⟩ := hB
  exact ⟨a, τ, ρ, q1, q2, c, q3, q4, q5, q6, q7, ⟨0, by omega, q9, q11, fun i hi => absurd hi (Nat.not_lt_zero _)⟩, h7.cong (q8 _ (by omega) (by omega)) (q8 _ (by omega) (by omega)) (q10 _ (by omega) (by omega)) (q10 _ (by omega) (by omega)), h8.cong (q8 _ (by omega) (by omega)) (q8 _ (by omega) (by omega)) (q10 _ (by omega) (by omega)) (q10 _ (by omega) (by omega)) (q10 _ (by omega) (by omega)), h9.cong (fun k k1 k2 => q8 _ (by omega) (by omega)) (q10 _ (by omega) (by omega)) (q10 _ (by omega) (by omega))⟩
theorem TapeStep.step {σ μ : Mm} {x y : Option (Int32 × Mm)} (hB : TapeStep σ μ x y) (hI : Inv σ μ) : Step x y := by
  obtain ⟨b, hc, h1, h2, h3, h4, h5, h6, h7, h8, h9⟩ := hI
  obtain ⟨a, τ, ρ, q1, q2, q3, q8, q10, q12⟩ := hB
  exact ⟨a, τ, ρ, q1, q2, b, fun k hk => by rw [q8 k (by omega) (by omega)]; exact h1 k hk, fun k hk => by rw [q10 k (by omega) (by omega) (by omega)]; exact h2 k hk, h3, h4.cong (fun k k1 k2 => q8 _ (by omega) (by omega)), by rw [q8 64 (by omega) (by omega)]; exact h5, q3, h7.cong (q8 _ (by omega) (by omega)) (q8 _ (by omega) (by omega)) (q10 _ (by omega) (by omega) (by omega)) (q10 _ (by omega) (by omega) (by omega)), h8.cong (q8 _ (by omega) (by omega)) (q8 _ (by omega) (by omega)) (q10 _ (by omega) (by omega) (by omega)) (q10 _ (by omega) (by omega) (by omega)) (q10 _ (by omega) (by omega) (by omega)), h9.cong (fun k k1 k2 => q8 _ (by omega) (by omega)) (q10 _ (by omega) (by omega) (by omega)) (q10 _ (by omega) (by omega) (by omega))⟩
theorem ListStep.step {σ μ : Mm} {x y : Option (Int32 × Mm)} (hB : ListStep σ μ x y) (hI : Inv σ μ) : Step x y := by
  obtain ⟨b, hc, h1, h2, h3, h4, h5, h6, h7, h8, h9⟩ := hI
  obtain ⟨a, τ, ρ, q1, q2, q3, q8, q10, q12⟩ := hB
  exact ⟨a, τ, ρ, q1, q2, b, fun k hk => by rw [q8 k (by omega) (by omega)]; exact h1 k hk, fun k hk => by rw [q10 k (by omega) (by omega) (by omega) (by omega)]; exact h2 k hk, h3, h4.cong (fun k k1 k2 => q8 _ (by omega) (by omega)), by rw [q8 64 (by omega) (by omega)]; exact h5, h6.cong (q8 _ (by omega) (by omega)) (q8 _ (by omega) (by omega)) (q10 _ (by omega) (by omega) (by omega) (by omega)) (q10 _ (by omega) (by omega) (by omega) (by omega)), h7.cong (q8 _ (by omega) (by omega)) (q8 _ (by omega) (by omega)) (q10 _ (by omega) (by omega) (by omega) (by omega)) (q10 _ (by omega) (by omega) (by omega) (by omega)), q3, h9.cong (fun k k1 k2 => q8 _ (by omega) (by omega)) (q10 _ (by omega) (by omega) (by omega) (by omega)) (q10 _ (by omega) (by omega) (by omega) (by omega))⟩
theorem LayStep.step {σ μ : Mm} {x y : Option (Int32 × Mm)} (hB : LayStep σ μ x y) (hI : Inv σ μ) : Step x y := by
  obtain ⟨b, hc, h1, h2, h3, h4, h5, h6, h7, h8, h9⟩ := hI
  obtain ⟨a, τ, ρ, q1, q2, q3, q8, q10, q12⟩ := hB
  exact ⟨a, τ, ρ, q1, q2, b, fun k hk => by rw [q8 k (by omega)]; exact h1 k hk, fun k hk => by rw [q10 k (by omega)]; exact h2 k hk, h3, h4.cong (fun k k1 k2 => q8 _ (by omega)), by rw [q8 64 (by omega)]; exact h5, h6.cong (q8 _ (by omega)) (q8 _ (by omega)) (q10 _ (by omega)) (q10 _ (by omega)), h7.cong (q8 _ (by omega)) (q8 _ (by omega)) (q10 _ (by omega)) (q10 _ (by omega)), q3, h9.cong (fun k k1 k2 => q8 _ (by omega)) (q10 _ (by omega)) (q10 _ (by omega))⟩
theorem SheetStep.step {σ μ : Mm} {x y : Option (Int32 × Mm)} (hB : SheetStep σ μ x y) (hI : Inv σ μ) : Step x y := by
  obtain ⟨b, hc, h1, h2, h3, h4, h5, h6, h7, h8, h9⟩ := hI
  obtain ⟨a, τ, ρ, q1, q2, q3, q8, q10, q12⟩ := hB
  exact ⟨a, τ, ρ, q1, q2, b, fun k hk => by rw [q8 k (by omega) (by omega)]; exact h1 k hk, fun k hk => by rw [q10 k (by omega) (by omega) (by omega)]; exact h2 k hk, h3, h4.cong (fun k k1 k2 => q8 _ (by omega) (by omega)), by rw [q8 64 (by omega) (by omega)]; exact h5, h6.cong (q8 _ (by omega) (by omega)) (q8 _ (by omega) (by omega)) (q10 _ (by omega) (by omega) (by omega)) (q10 _ (by omega) (by omega) (by omega)), q3, h8.cong (q8 _ (by omega) (by omega)) (q8 _ (by omega) (by omega)) (q10 _ (by omega) (by omega) (by omega)) (q10 _ (by omega) (by omega) (by omega)) (q10 _ (by omega) (by omega) (by omega)), h9.cong (fun k k1 k2 => q8 _ (by omega) (by omega)) (q10 _ (by omega) (by omega) (by omega)) (q10 _ (by omega) (by omega) (by omega))⟩
theorem ImStep.step {σ μ : Mm} {x y : Option (Int32 × Mm)} (hB : ImStep σ μ x y) (hI : Inv σ μ) : Step x y := by
  obtain ⟨b, hc, h1, h2, h3, h4, h5, h6, h7, h8, h9⟩ := hI
  obtain ⟨a, τ, ρ, q1, q2, q3, q8, q10, q12⟩ := hB
  exact ⟨a, τ, ρ, q1, q2, b, fun k hk => by rw [q8 k (by omega)]; exact h1 k hk, fun k hk => by rw [q10 k (by omega)]; exact h2 k hk, h3, h4.cong (fun k k1 k2 => q8 _ (by omega)), by rw [q8 64 (by omega)]; exact h5, h6.cong (q8 _ (by omega)) (q8 _ (by omega)) (q10 _ (by omega)) (q10 _ (by omega)), h7.cong (q8 _ (by omega)) (q8 _ (by omega)) (q10 _ (by omega)) (q10 _ (by omega)), h8.cong (q8 _ (by omega)) (q8 _ (by omega)) (q10 _ (by omega)) (q10 _ (by omega)) (q10 _ (by omega)), q3⟩
theorem UnStep.step {σ μ : Mm} {x y : Option (Int32 × Mm)} (hB : UnStep σ μ x y) (hI : Inv σ μ) : Step x y := by
  obtain ⟨b, hc, h1, h2, h3, h4, h5, h6, h7, h8, h9⟩ := hI
  obtain ⟨a, τ, ρ, c, q1, q2, q3, q4, q5, q6, q7, q8, q9, q10⟩ := hB
  exact ⟨a, τ, ρ, q1, q2, c, q3, q4, q5, q6, q7, h6.cong (q8 _ (by omega)) (q8 _ (by omega)) (q9 _ (by omega) (by omega)) (q9 _ (by omega) (by omega)), h7.cong (q8 _ (by omega)) (q8 _ (by omega)) (q9 _ (by omega) (by omega)) (q9 _ (by omega) (by omega)), h8.cong (q8 _ (by omega)) (q8 _ (by omega)) (q9 _ (by omega) (by omega)) (q9 _ (by omega) (by omega)) (q9 _ (by omega) (by omega)), h9.cong (fun k k1 k2 => q8 _ (by omega)) (q9 _ (by omega) (by omega)) (q9 _ (by omega) (by omega))⟩
theorem ask_step {σ μ : Mm} {f : Option Int32} {y : Option (Int32 × Mm)} (hB : ∃ a, f = some a ∧ y = some (a, sc μ 12 0)) (hI : Inv σ μ) : Step (Ask σ f) y := by
  obtain ⟨b, hc, h1, h2, h3, h4, h5, h6, h7, h8, h9⟩ := hI
  obtain ⟨a, rfl, q2⟩ := hB
  have q10 : ∀ k, k ≠ 12 → sc μ 12 0 k = μ k := fun k hk => sc_ne hk
  exact ⟨a, σ, sc μ 12 0, rfl, q2, b, h1, h2.sc (by omega), h3, h4, h5, h6.cong rfl rfl (q10 _ (by omega)) (q10 _ (by omega)), h7.cong rfl rfl (q10 _ (by omega)) (q10 _ (by omega)), h8.cong rfl rfl (q10 _ (by omega)) (q10 _ (by omega)) (q10 _ (by omega)), h9.cong (fun _ _ _ => rfl) (q10 _ (by omega)) (q10 _ (by omega))⟩
theorem st_join {σ μ : Mm} (hI : Inv σ μ) (w : Int32) : Step (f_X6_join σ w) (f_X7_join μ w) := by
  obtain ⟨b, hc, h1, h2, h3, h4, h5, h6, h7, h8, h9⟩ := id hI
  exact (join_both h1 h2 h3 h4 h5 w).step hI
theorem st_leave {σ μ : Mm} (hI : Inv σ μ) (w : Int32) : Step (f_X6_leave σ w) (f_X7_leave μ w) := by
  obtain ⟨b, hc, h1, h2, h3, h4, h5, h6, h7, h8, h9⟩ := id hI
  exact (leave_both h1 h2 h3 h4 h5 w).step hI
theorem st_back {σ μ : Mm} (hI : Inv σ μ) (w : Int32) : Step (f_X6_back σ w) (f_X7_back μ w) := by
  obtain ⟨b, hc, h1, h2, h3, h4, h5, h6, h7, h8, h9⟩ := id hI
  exact (back_both h1 h2 h3 h4 h5 w).step hI
theorem st_rate {σ μ : Mm} (hI : Inv σ μ) (w v : Int32) : Step (f_X6_rate σ w v) (f_X7_rate μ w v) := by
  obtain ⟨b, hc, h1, h2, h3, h4, h5, h6, h7, h8, h9⟩ := id hI
  exact (rate_both h1 h2 h3 h4 h5 w v).step hI
theorem st_of {σ μ : Mm} (hI : Inv σ μ) (w v : Int32) : Step (Ask σ (f_X6_of σ w v)) (f_X7_of μ w v) := by
  obtain ⟨b, hc, h1, h2, h3, h4, h5, h6, h7, h8, h9⟩ := id hI
  exact (of_both h1 h2 h3 h4 h5 w v).step hI
theorem st_tie {σ μ : Mm} (hI : Inv σ μ) (w v : Int32) : Step (Ask σ (f_X6_tie σ w v)) (f_X7_tie μ w v) := by
  obtain ⟨b, hc, h1, h2, h3, h4, h5, h6, h7, h8, h9⟩ := id hI
  exact (tie_both h1 h2 h3 h4 h5 w v).step hI
theorem st_rank {σ μ : Mm} (hI : Inv σ μ) (w : Int32) : Step (Ask σ (f_X6_rank σ w)) (f_X7_rank μ w) := by
  obtain ⟨b, hc, h1, h2, h3, h4, h5, h6, h7, h8, h9⟩ := id hI
  exact (rank_both h1 h2 h3 h4 h5 w).step hI
theorem st_nth {σ μ : Mm} (hI : Inv σ μ) (w : Int32) : Step (Ask σ (f_X6_nth σ w)) (f_X7_nth μ w) := by
  obtain ⟨b, hc, h1, h2, h3, h4, h5, h6, h7, h8, h9⟩ := id hI
  exact (nth_both h1 h2 h3 h4 h5 w).step hI
theorem st_explain {σ μ : Mm} (hI : Inv σ μ) (w v u : Int32) : Step (Ask σ (f_X6_explain σ w v u)) (f_X7_explain μ w v u) := by
  obtain ⟨b, hc, h1, h2, h3, h4, h5, h6, h7, h8, h9⟩ := id hI
  exact (explain_both h1 h2 h3 h4 h5 w v u).step hI
theorem st_met {σ μ : Mm} (hI : Inv σ μ) (w v : Int32) : Step (Ask σ (f_X6_met σ w v)) (f_X7_met μ w v) := by
  obtain ⟨b, hc, h1, h2, h3, h4, h5, h6, h7, h8, h9⟩ := id hI
  exact (met_both h1 h2 h3 h4 h5 w v).step hI
theorem st_cost {σ μ : Mm} (hI : Inv σ μ) (w v : Int32) : Step (Ask σ (f_X6_cost σ w v)) (f_X7_cost μ w v) := by
  obtain ⟨b, hc, h1, h2, h3, h4, h5, h6, h7, h8, h9⟩ := id hI
  exact (cost_both h1 h2 h3 h4 h5 w v).step hI
theorem st_pair {σ μ : Mm} (hI : Inv σ μ) : Step (f_X6_pair σ) (f_X7_pair μ) := by
  obtain ⟨b, hc, h1, h2, h3, h4, h5, h6, h7, h8, h9⟩ := id hI
  exact (pair_both h1 h2 h3 h4 h5).step hI
theorem st_least {σ μ : Mm} (hI : Inv σ μ) : Step (f_X6_least σ) (f_X7_least μ) := by
  obtain ⟨b, hc, h1, h2, h3, h4, h5, h6, h7, h8, h9⟩ := id hI
  exact (least_both h1 h2 h3 h4 h5).step hI
theorem st_ways {σ μ : Mm} (hI : Inv σ μ) : Step (f_X6_ways σ) (f_X7_ways μ) := by
  obtain ⟨b, hc, h1, h2, h3, h4, h5, h6, h7, h8, h9⟩ := id hI
  exact (ways_both h1 h2 h3 h4 h5).step hI
theorem st_board {σ μ : Mm} (hI : Inv σ μ) (w v u : Int32) : Step (Ask σ (f_X6_board σ w v u)) (f_X7_board μ w v u) := by
  obtain ⟨b, hc, h1, h2, h3, h4, h5, h6, h7, h8, h9⟩ := id hI
  exact (board_both h1 h2 h3 h4 h5 w v u).step hI
theorem st_bye {σ μ : Mm} (hI : Inv σ μ) (w : Int32) : Step (Ask σ (f_X6_bye σ w)) (f_X7_bye μ w) := by
  obtain ⟨b, hc, h1, h2, h3, h4, h5, h6, h7, h8, h9⟩ := id hI
  exact (bye_both h1 h2 h3 h4 h5 w).step hI
theorem st_result {σ μ : Mm} (hI : Inv σ μ) (w v : Int32) : Step (f_X6_result σ w v) (f_X7_result μ w v) := by
  obtain ⟨b, hc, h1, h2, h3, h4, h5, h6, h7, h8, h9⟩ := id hI
  exact (result_both h1 h2 h3 h4 h5 w v).step hI
theorem st_close {σ μ : Mm} (hI : Inv σ μ) : Step (f_X6_close σ) (f_X7_close μ) := by
  obtain ⟨b, hc, h1, h2, h3, h4, h5, h6, h7, h8, h9⟩ := id hI
  exact (close_both h1 h2 h3 h4 h5).step hI
theorem st_drop {σ μ : Mm} (hI : Inv σ μ) : Step (f_X6_drop σ) (f_X7_drop μ) := by
  obtain ⟨b, hc, h1, h2, h3, h4, h5, h6, h7, h8, h9⟩ := id hI
  exact (drop_both h1 h2 h3 h4 h5).step hI
theorem st_game {σ μ : Mm} (hI : Inv σ μ) (w v u : Int32) : Step (Ask σ (f_X6_game σ w v u)) (f_X7_game μ w v u) := by
  obtain ⟨b, hc, h1, h2, h3, h4, h5, h6, h7, h8, h9⟩ := id hI
  exact (game_both h1 h2 h3 h4 h5 w v u).step hI
theorem st_direct {σ μ : Mm} (hI : Inv σ μ) (w v : Int32) : Step (Ask σ (f_X6_direct σ w v)) (f_X7_direct μ w v) := by
  obtain ⟨b, hc, h1, h2, h3, h4, h5, h6, h7, h8, h9⟩ := id hI
  exact (direct_both h1 h2 h3 h4 h5 w v).step hI
theorem st_average {σ μ : Mm} (hI : Inv σ μ) (w v : Int32) : Step (Ask σ (f_X6_average σ w v)) (f_X7_average μ w v) := by
  obtain ⟨b, hc, h1, h2, h3, h4, h5, h6, h7, h8, h9⟩ := id hI
  exact (average_both h1 h2 h3 h4 h5 w v).step hI
theorem st_alike {σ μ : Mm} (hI : Inv σ μ) (w : Int32) : Step (Ask σ (f_X6_alike σ w)) (f_X7_alike μ w) := by
  obtain ⟨b, hc, h1, h2, h3, h4, h5, h6, h7, h8, h9⟩ := id hI
  exact (alike_both h1 h2 h3 h4 h5 w).step hI
theorem st_colours {σ μ : Mm} (hI : Inv σ μ) (w : Int32) : Step (Ask σ (f_X6_colours σ w)) (f_X7_colours μ w) := by
  obtain ⟨b, hc, h1, h2, h3, h4, h5, h6, h7, h8, h9⟩ := id hI
  exact (colours_both h1 h2 h3 h4 h5 w).step hI
theorem st_feed {σ μ : Mm} (hI : Inv σ μ) (w : Int32) : Step (f_X6_feed σ w) (f_X7_feed μ w) := by
  obtain ⟨b, hc, h1, h2, h3, h4, h5, h6, h7, h8, h9⟩ := id hI
  exact (feed_both h6 w).step hI
theorem st_clear {σ μ : Mm} (hI : Inv σ μ) : Step (f_X6_clear σ) (f_X7_clear μ) := by
  obtain ⟨b, hc, h1, h2, h3, h4, h5, h6, h7, h8, h9⟩ := id hI
  exact (clear_both h6).step hI
theorem st_results {σ μ : Mm} (hI : Inv σ μ) : Step (f_X6_results σ) (f_X7_results μ) := by
  obtain ⟨b, hc, h1, h2, h3, h4, h5, h6, h7, h8, h9⟩ := id hI
  exact (results_both h1 h2 h3 h4 h5 h6).step hI
theorem st_order {σ μ : Mm} (hI : Inv σ μ) : Step (f_X6_order σ) (f_X7_order μ) := by
  obtain ⟨b, hc, h1, h2, h3, h4, h5, h6, h7, h8, h9⟩ := id hI
  exact (order_both h1 h2 h3 h4 h5 h6).step hI
theorem st_ordered {σ μ : Mm} (hI : Inv σ μ) (w : Int32) : Step (Ask σ (f_X6_ordered σ w)) (f_X7_ordered μ w) := by
  obtain ⟨b, hc, h1, h2, h3, h4, h5, h6, h7, h8, h9⟩ := id hI
  exact (ordered_both h1 h2 h3 h4 h5 w).step hI
theorem st_line {σ μ : Mm} (hI : Inv σ μ) (w : Int32) : Step (f_X6_line σ w) (f_X7_line μ w) := by
  obtain ⟨b, hc, h1, h2, h3, h4, h5, h6, h7, h8, h9⟩ := id hI
  exact (line_both h1 h2 h3 h4 h7 w).step hI
theorem st_paper {σ μ : Mm} (hI : Inv σ μ) (w : Int32) : Step (Ask σ (f_X6_paper σ w)) (f_X7_paper μ w) := by
  obtain ⟨b, hc, h1, h2, h3, h4, h5, h6, h7, h8, h9⟩ := id hI
  exact ask_step (paper_both h7 w) hI
theorem st_told {σ μ : Mm} (hI : Inv σ μ) (w : Int32) : Step (Ask σ (f_X6_told σ w)) (f_X7_told μ w) := by
  obtain ⟨b, hc, h1, h2, h3, h4, h5, h6, h7, h8, h9⟩ := id hI
  exact (told_both h1 h2 h3 h4 h5 (by obtain ⟨n, g1, g2, g3, g4⟩ := h6; rw [g2, g3]) (by obtain ⟨n, g1, g2, g3, g4⟩ := h7; rw [g2, g3]) w).step hI
theorem st_list {σ μ : Mm} (hI : Inv σ μ) (w v : Int32) : Step (f_X6_list σ w v) (f_X7_list μ w v) := by
  obtain ⟨b, hc, h1, h2, h3, h4, h5, h6, h7, h8, h9⟩ := id hI
  exact (list_both h8 w v).step hI
theorem st_set {σ μ : Mm} (hI : Inv σ μ) (w v u : Int32) : Step (f_X6_set σ w v u) (f_X7_set μ w v u) := by
  obtain ⟨b, hc, h1, h2, h3, h4, h5, h6, h7, h8, h9⟩ := id hI
  exact (set_both h8 w v u).step hI
theorem st_get {σ μ : Mm} (hI : Inv σ μ) (w v : Int32) : Step (Ask σ (f_X6_get σ w v)) (f_X7_get μ w v) := by
  obtain ⟨b, hc, h1, h2, h3, h4, h5, h6, h7, h8, h9⟩ := id hI
  exact ask_step (get_both h8 w v) hI
theorem st_lay {σ μ : Mm} (hI : Inv σ μ) (w v : Int32) : Step (f_X6_lay σ w v) (f_X7_lay μ w v) := by
  obtain ⟨b, hc, h1, h2, h3, h4, h5, h6, h7, h8, h9⟩ := id hI
  exact (lay_both h1 h2 h3 h4 h8 w v).step hI
theorem st_judge {σ μ : Mm} (hI : Inv σ μ) (w v : Int32) : Step (Ask σ (f_X6_judge σ w v)) (f_X7_judge μ w v) := by
  obtain ⟨b, hc, h1, h2, h3, h4, h5, h6, h7, h8, h9⟩ := id hI
  exact (judge_both h1 h2 h3 h4 h5 h8 w v).step hI
theorem st_image {σ μ : Mm} (hI : Inv σ μ) : Step (f_X6_image σ) (f_X7_image μ) := by
  obtain ⟨b, hc, h1, h2, h3, h4, h5, h6, h7, h8, h9⟩ := id hI
  exact (image_both h1 h2 h3 hc).step hI
theorem st_undo {σ μ : Mm} (hI : Inv σ μ) : Step (f_X6_undo σ) (f_X7_undo μ) := by
  obtain ⟨b, hc, h1, h2, h3, h4, h5, h6, h7, h8, h9⟩ := id hI
  exact (undo_both h1 h2 h3 h4 h5 h9).step hI
