/-! ===== image and undo: giving back; both calls ===== -/
def GvM (μ : Mm) (i : Nat) : Mm := fun k x => if k = 30 then nI i else if offN k x < i then μ 29 (offN k x) else μ k x
theorem GvM_ne {μ : Mm} {i k : Nat} (hi : i ≤ 437) (h1 : 12 ≤ k) (h2 : k ≠ 30) : GvM μ i k = μ k := by
  funext x
  unfold GvM
  rw [if_neg h2, off_big h1, if_neg (by omega)]
theorem carry_give {μ : Mm} {i : Nat} (h1 : μ 31 0 = 0) (h2 : μ 32 0 = 1) (hi : i < 437) (v : Int32) : f_X7_carry (GvM μ i) v = some (μ 29 i, sc (GvM μ i) 30 (nI (i + 1))) := by
  have e0 : GvM μ i 30 0 = nI i := if_pos rfl
  unfold f_X7_carry f_X7_carry_j17
  rw [Option.bind_some, GvM_ne (by omega) (by omega) (by omega), h1, if_pos rfl, Option.bind_some, e0, Option.bind_some, show nI i + (1 : Int32) = nI (i + 1) from nI_1 i, sc_ne (by omega), GvM_ne (by omega) (by omega) (by omega), h2, if_neg n10, Option.bind_some, sc_at, nI_pred, ald_nI (by omega) (by omega), Option.bind_some, sc_ne (by omega), GvM_ne (by omega) (by omega) (by omega)]
theorem give_cell {μ : Mm} {i k x : Nat} (hk : k < 12) (ho : offN k x = i) (hj : ∀ k' x', offN k' x' = i → k' = k ∧ x' = x) : us (sc (GvM μ i) 30 (nI (i + 1))) k x (μ 29 i) = GvM μ (i + 1) := by
  funext r y
  by_cases z : r = 30
  · rw [us_ne (by omega), z, sc_at]; exact (if_pos rfl).symm
  · by_cases z2 : r = k ∧ y = x
    · obtain ⟨rfl, rfl⟩ := z2
      rw [us_at]
      unfold GvM
      rw [if_neg z, ho, if_pos (by omega)]
    · rw [us_off (by by_cases q : r = k; exact Or.inr (fun u => z2 ⟨q, u⟩); exact Or.inl q), sc_ne z]
      unfold GvM
      rw [if_neg z, if_neg z]
      have hne : offN r y ≠ i := fun q => z2 (hj r y q)
      by_cases z3 : offN r y < i
      · rw [if_pos z3, if_pos (by omega)]
      · rw [if_neg z3, if_neg (by omega)]
theorem give_sc {μ : Mm} {i k : Nat} (hk : k < 12) (ho : ∀ x, offN k x = i) (hj : ∀ k' x', offN k' x' = i → k' = k) : sc (sc (GvM μ i) 30 (nI (i + 1))) k (μ 29 i) = GvM μ (i + 1) := by
  funext r y
  by_cases z : r = 30
  · rw [sc_ne (by omega), z, sc_at]; exact (if_pos rfl).symm
  · by_cases z2 : r = k
    · subst z2
      rw [sc_at]
      unfold GvM
      rw [if_neg z, ho, if_pos (by omega)]
    · rw [sc_ne z2, sc_ne z]
      unfold GvM
      rw [if_neg z, if_neg z]
      have hne : offN r y ≠ i := fun q => z2 (hj r y q)
      by_cases z3 : offN r y < i
      · rw [if_pos z3, if_pos (by omega)]
      · rw [if_neg z3, if_neg (by omega)]
theorem give_9 {μ : Mm} (h1 : μ 31 0 = 0) (h2 : μ 32 0 = 1) : wh2 f_X7_carryAll_s190 5000 (GvM μ 77) (0 : Int32) = some (GvM μ 437) := by
  refine wh2_seq 120 (fun p => GvM μ (77 + 3 * p)) (fun p => nI p) _ (fun p hp r => ?_) (fun r => ?_) 5000 (by omega)
  · have c7 : us (sc (GvM μ (77 + 3 * p)) 30 (nI (77 + 3 * p + 1))) 7 p (μ 29 (77 + 3 * p)) = GvM μ (78 + 3 * p) := by
      rw [show 78 + 3 * p = 77 + 3 * p + 1 by omega]
      exact give_cell (by omega) (if_pos hp) (fun _ _ q => off_7 hp q)
    have c8 : us (sc (GvM μ (78 + 3 * p)) 30 (nI (78 + 3 * p + 1))) 8 p (μ 29 (78 + 3 * p)) = GvM μ (79 + 3 * p) := by
      rw [show 79 + 3 * p = 78 + 3 * p + 1 by omega]
      exact give_cell (by omega) (if_pos hp) (fun _ _ q => off_8 hp q)
    have c9 : us (sc (GvM μ (79 + 3 * p)) 30 (nI (79 + 3 * p + 1))) 9 p (μ 29 (79 + 3 * p)) = GvM μ (77 + 3 * (p + 1)) := by
      rw [show 77 + 3 * (p + 1) = 79 + 3 * p + 1 by omega]
      exact give_cell (by omega) (if_pos hp) (fun _ _ q => off_9 hp q)
    unfold f_X7_carryAll_s190
    rw [if_neg (show ¬ (120 : Int32) ≤ nI p from nI_ge (b := 120) hp (by omega)), ald_nI (by omega) (by omega), Option.bind_some, carry_give h1 h2 (by omega), Option.bind_some]
    dsimp only
    rw [ast_nI (by omega) (by omega), Option.bind_some, c7, ald_nI (by omega) (by omega), Option.bind_some, carry_give h1 h2 (by omega), Option.bind_some]
    dsimp only
    rw [ast_nI (by omega) (by omega), Option.bind_some, c8, ald_nI (by omega) (by omega), Option.bind_some, carry_give h1 h2 (by omega), Option.bind_some]
    dsimp only
    rw [ast_nI (by omega) (by omega), Option.bind_some, c9, show nI p + (1 : Int32) = nI (p + 1) from nI_1 p]
  · unfold f_X7_carryAll_s190
    rw [if_pos (show (120 : Int32) ≤ nI 120 by decide)]
theorem give_5 {μ : Mm} (h1 : μ 31 0 = 0) (h2 : μ 32 0 = 1) : wh2 f_X7_carryAll_s144 5000 (GvM μ 37) (0 : Int32) = some (GvM μ 437) := by
  refine wh2_seq 20 (fun p => GvM μ (37 + 2 * p)) (fun p => nI p) _ (fun p hp r => ?_) (fun r => ?_) 5000 (by omega)
  · have c5 : us (sc (GvM μ (37 + 2 * p)) 30 (nI (37 + 2 * p + 1))) 5 p (μ 29 (37 + 2 * p)) = GvM μ (38 + 2 * p) := by
      rw [show 38 + 2 * p = 37 + 2 * p + 1 by omega]
      exact give_cell (by omega) (if_pos hp) (fun _ _ q => off_5 hp q)
    have c6 : us (sc (GvM μ (38 + 2 * p)) 30 (nI (38 + 2 * p + 1))) 6 p (μ 29 (38 + 2 * p)) = GvM μ (37 + 2 * (p + 1)) := by
      rw [show 37 + 2 * (p + 1) = 38 + 2 * p + 1 by omega]
      exact give_cell (by omega) (if_pos hp) (fun _ _ q => off_6 hp q)
    unfold f_X7_carryAll_s144
    rw [if_neg (show ¬ (20 : Int32) ≤ nI p from nI_ge (b := 20) hp (by omega)), ald_nI (by omega) (by omega), Option.bind_some, carry_give h1 h2 (by omega), Option.bind_some]
    dsimp only
    rw [ast_nI (by omega) (by omega), Option.bind_some, c5, ald_nI (by omega) (by omega), Option.bind_some, carry_give h1 h2 (by omega), Option.bind_some]
    dsimp only
    rw [ast_nI (by omega) (by omega), Option.bind_some, c6, show nI p + (1 : Int32) = nI (p + 1) from nI_1 p]
  · unfold f_X7_carryAll_s144
    rw [if_pos (show (20 : Int32) ≤ nI 20 by decide)]
    exact give_9 h1 h2
theorem give_11 {μ : Mm} (h1 : μ 31 0 = 0) (h2 : μ 32 0 = 1) : wh2 f_X7_carryAll_s114 5000 (GvM μ 28) (0 : Int32) = some (GvM μ 437) := by
  refine wh2_seq 9 (fun p => GvM μ (28 + p)) (fun p => nI p) _ (fun p hp r => ?_) (fun r => ?_) 5000 (by omega)
  · have c5 : us (sc (GvM μ (28 + p)) 30 (nI (28 + p + 1))) 11 p (μ 29 (28 + p)) = GvM μ (28 + (p + 1)) := by
      rw [show 28 + (p + 1) = 28 + p + 1 by omega]
      exact give_cell (by omega) (if_pos hp) (fun _ _ q => off_11 hp q)
    unfold f_X7_carryAll_s114
    rw [if_neg (show ¬ (9 : Int32) ≤ nI p from nI_ge (b := 9) hp (by omega)), ald_nI (by omega) (by omega), Option.bind_some, carry_give h1 h2 (by omega), Option.bind_some]
    dsimp only
    rw [ast_nI (by omega) (by omega), Option.bind_some, c5, show nI p + (1 : Int32) = nI (p + 1) from nI_1 p]
  · unfold f_X7_carryAll_s114
    rw [if_pos (show (9 : Int32) ≤ nI 9 by decide)]
    exact give_5 h1 h2
theorem give_1 {μ : Mm} (h1 : μ 31 0 = 0) (h2 : μ 32 0 = 1) : wh2 f_X7_carryAll_s68 5000 (GvM μ 4) (0 : Int32) = some (GvM μ 437) := by
  refine wh2_seq 12 (fun p => GvM μ (4 + 2 * p)) (fun p => nI p) _ (fun p hp r => ?_) (fun r => ?_) 5000 (by omega)
  · have c5 : us (sc (GvM μ (4 + 2 * p)) 30 (nI (4 + 2 * p + 1))) 1 p (μ 29 (4 + 2 * p)) = GvM μ (5 + 2 * p) := by
      rw [show 5 + 2 * p = 4 + 2 * p + 1 by omega]
      exact give_cell (by omega) (if_pos hp) (fun _ _ q => off_1 hp q)
    have c6 : us (sc (GvM μ (5 + 2 * p)) 30 (nI (5 + 2 * p + 1))) 2 p (μ 29 (5 + 2 * p)) = GvM μ (4 + 2 * (p + 1)) := by
      rw [show 4 + 2 * (p + 1) = 5 + 2 * p + 1 by omega]
      exact give_cell (by omega) (if_pos hp) (fun _ _ q => off_2 hp q)
    unfold f_X7_carryAll_s68
    rw [if_neg (show ¬ (12 : Int32) ≤ nI p from nI_ge (b := 12) hp (by omega)), ald_nI (by omega) (by omega), Option.bind_some, carry_give h1 h2 (by omega), Option.bind_some]
    dsimp only
    rw [ast_nI (by omega) (by omega), Option.bind_some, c5, ald_nI (by omega) (by omega), Option.bind_some, carry_give h1 h2 (by omega), Option.bind_some]
    dsimp only
    rw [ast_nI (by omega) (by omega), Option.bind_some, c6, show nI p + (1 : Int32) = nI (p + 1) from nI_1 p]
  · unfold f_X7_carryAll_s68
    rw [if_pos (show (12 : Int32) ≤ nI 12 by decide)]
    exact give_11 h1 h2
theorem give_all {μ : Mm} : f_X7_carryAll μ (0 : Int32) = some (GvM (im1 μ 0) 437) := by
  have h1 : im1 μ 0 31 0 = 0 := im1_31
  have h2 : im1 μ 0 32 0 = 1 := im1_32
  have e0 : sc (sc (sc μ 32 1) 31 0) 30 0 = GvM (im1 μ 0) 0 := by
    funext k x
    unfold GvM
    by_cases z : k = 30
    · rw [if_pos z, z, sc_at]; rfl
    · rw [if_neg z, if_neg (Nat.not_lt_zero _)]; rfl
  have c0 : sc (sc (GvM (im1 μ 0) 0) 30 (nI (0 + 1))) 0 (im1 μ 0 29 0) = GvM (im1 μ 0) (0 + 1) := give_sc (by omega) (fun _ => rfl) (fun _ _ q => off_0 q)
  have c3 : sc (sc (GvM (im1 μ 0) (0 + 1)) 30 (nI (0 + 1 + 1))) 3 (im1 μ 0 29 (0 + 1)) = GvM (im1 μ 0) (0 + 1 + 1) := give_sc (by omega) (fun _ => rfl) (fun _ _ q => off_3 q)
  have c4 : sc (sc (GvM (im1 μ 0) (0 + 1 + 1)) 30 (nI (0 + 1 + 1 + 1))) 4 (im1 μ 0 29 (0 + 1 + 1)) = GvM (im1 μ 0) (0 + 1 + 1 + 1) := give_sc (by omega) (fun _ => rfl) (fun _ _ q => off_4 q)
  have c10 : sc (sc (GvM (im1 μ 0) (0 + 1 + 1 + 1)) 30 (nI (0 + 1 + 1 + 1 + 1))) 10 (im1 μ 0 29 (0 + 1 + 1 + 1)) = GvM (im1 μ 0) (0 + 1 + 1 + 1 + 1) := give_sc (by omega) (fun _ => rfl) (fun _ _ q => off_10 q)
  unfold f_X7_carryAll
  rw [Option.bind_some, show zb (0 : Int32) = some 0 from rfl, Option.bind_some, Option.bind_some, Option.bind_some, e0, Option.bind_some, carry_give (i := 0) h1 h2 (by omega), Option.bind_some]
  dsimp only
  rw [Option.bind_some, c0, Option.bind_some, carry_give (i := 0 + 1) h1 h2 (by omega), Option.bind_some]
  dsimp only
  rw [Option.bind_some, c3, Option.bind_some, carry_give (i := 0 + 1 + 1) h1 h2 (by omega), Option.bind_some]
  dsimp only
  rw [Option.bind_some, c4, Option.bind_some, carry_give (i := 0 + 1 + 1 + 1) h1 h2 (by omega), Option.bind_some]
  dsimp only
  rw [Option.bind_some, c10]
  exact give_1 h1 h2
theorem cap_pos {k : Nat} (hk : k < 12) : 0 < capN k := by
  have cs : k = 0 ∨ k = 1 ∨ k = 2 ∨ k = 3 ∨ k = 4 ∨ k = 5 ∨ k = 6 ∨ k = 7 ∨ k = 8 ∨ k = 9 ∨ k = 10 ∨ k = 11 := by omega
  rcases cs with z | z | z | z | z | z | z | z | z | z | z | z <;> subst z <;> decide
theorem mixR_cong {k : Nat} {f f' g g' : Nat → Int32} (hk : k < 12) (h : ∀ j, j < capN k → f j = f' j) (hg : g = g') : mixR k f g = mixR k f' g' := by
  unfold mixR
  subst hg
  by_cases z : isSc k = true
  · rw [if_pos z, if_pos z, h 0 (cap_pos hk)]
  · rw [if_neg z, if_neg z]
    funext j
    by_cases q : j < capN k
    · rw [if_pos q, if_pos q, h j q]
    · rw [if_neg q, if_neg q]
theorem off_out {k x : Nat} (hk : k < 12) (hs : isSc k ≠ true) (hx : ¬ x < capN k) : offN k x = 1000 := by
  have cs : k = 0 ∨ k = 1 ∨ k = 2 ∨ k = 3 ∨ k = 4 ∨ k = 5 ∨ k = 6 ∨ k = 7 ∨ k = 8 ∨ k = 9 ∨ k = 10 ∨ k = 11 := by omega
  rcases cs with z | z | z | z | z | z | z | z | z | z | z | z <;> subst z
  · exact absurd rfl hs
  · exact if_neg hx
  · exact if_neg hx
  · exact absurd rfl hs
  · exact absurd rfl hs
  · exact if_neg hx
  · exact if_neg hx
  · exact if_neg hx
  · exact if_neg hx
  · exact if_neg hx
  · exact absurd rfl hs
  · exact if_neg hx
theorem off_sc {k : Nat} (x : Nat) (hs : isSc k = true) : offN k x = offN k 0 := by
  have hc : k = 0 ∨ k = 3 ∨ k = 4 ∨ k = 10 := by
    unfold isSc at hs
    simp only [Bool.or_eq_true, beq_iff_eq] at hs
    omega
  rcases hc with e | e | e | e <;> subst e <;> rfl
theorem give_row {μ : Mm} {k : Nat} (hk : k < 12) : GvM (im1 μ 0) 437 k = mixR k (fun j => μ 29 (offN k j)) (μ k) := by
  have e29 : im1 μ 0 29 = μ 29 := im1_ne (by omega)
  have ek : im1 μ 0 k = μ k := im1_ne (by omega)
  funext x
  unfold GvM mixR
  rw [if_neg (by omega), e29, ek]
  by_cases z : isSc k = true
  · rw [if_pos z, off_sc x z, if_pos (off_lt hk (cap_pos hk))]
  · rw [if_neg z]
    by_cases q : x < capN k
    · rw [if_pos (off_lt hk q), if_pos q]
    · rw [if_neg (by rw [off_out hk z q]; omega), if_neg q]
def SavR (σ μ : Mm) : Prop := (σ 40 0 = 0 ∧ μ 28 0 = 0) ∨ (σ 40 0 = 1 ∧ μ 28 0 = 1 ∧ ∃ c, BookOK c ∧ ∀ k, k < 12 → ∀ j, j < capN k → σ (20 + k) j = c k j ∧ μ 29 (offN k j) = c k j)
def ImStep (σ μ : Mm) (x y : Option (Int32 × Mm)) : Prop := ∃ a τ ρ, x = some (a, τ) ∧ y = some (a, ρ) ∧ SavR τ ρ ∧ (∀ k, k < 20 ∨ 40 < k → τ k = σ k) ∧ (∀ k, k < 12 ∨ (12 < k ∧ k < 28) ∨ 32 < k → ρ k = μ k) ∧ ρ 12 = fun _ => 0
theorem image_both {σ μ b : Mm} (h : Bk σ b) (hm : Bk μ b) (ok : BookOK b) (hc : Cst b) : ImStep σ μ (f_X6_image σ) (f_X7_image μ) := by
  obtain ⟨τ, x1, x2, x3⟩ := cpyB_ok (d := 20) (s := 0) (σ := σ) (by omega) (o := nO b) (by rw [h 4 (by omega)]; exact ok.O) ok.O1
  have xe : f_X0_copy_saved σ = some τ := x1
  have hM : ∀ k, k < 12 → sc (sc μ 12 0) 28 1 k = b k := fun k hk => by rw [sc_ne (by omega), sc_ne (by omega)]; exact hm k hk
  have hcM : Cst (sc (sc μ 12 0) 28 1) := by
    unfold Cst
    rw [hM 0 (by omega), hM 3 (by omega), hM 4 (by omega), hM 10 (by omega)]
    exact hc
  have rk : ∀ k, k ≠ 28 → k ≠ 29 → k < 30 ∨ 32 < k → TkM (im1 (sc (sc μ 12 0) 28 1) 1) 437 k = sc μ 12 0 k := fun k h1 h2 h3 => by rw [TkM_ne h2 (by omega), im1_ne h3, sc_ne h1]
  refine ⟨b 3 0, sc τ 40 1, TkM (im1 (sc (sc μ 12 0) 28 1) 1) 437, ?_, ?_, Or.inr ⟨sc_at, ?_, b, ok, fun k hk j hj => ⟨?_, ?_⟩⟩, fun k hk => ?_, fun k hk => ?_, ?_⟩
  · unfold f_X6_image
    rw [xe, Option.bind_some, Option.bind_some, Option.bind_some, sc_ne (by omega), x2 3 (by omega), h 3 (by omega)]
  · unfold f_X7_image
    rw [Option.bind_some, Option.bind_some, take_all hcM, Option.bind_some, Option.bind_some, rk 3 (by omega) (by omega) (by omega), sc_ne (by omega), hm 3 (by omega)]
  · rw [TkM_ne (by omega) (by omega), im1_ne (by omega), sc_at]
  · rw [sc_ne (by omega), x3 k hk, mixR_in hj hk, Nat.zero_add, h k hk]
  · rw [take_im hk hj, hM k hk]
  · rw [sc_ne (by omega), x2 k (by omega)]
  · rw [rk k (by omega) (by omega) (by omega), sc_ne (by omega)]
  · rw [rk 12 (by omega) (by omega) (by omega), sc_eq']
def UnStep (σ μ : Mm) (x y : Option (Int32 × Mm)) : Prop := ∃ a τ ρ c, x = some (a, τ) ∧ y = some (a, ρ) ∧ Bk τ c ∧ Bk ρ c ∧ BookOK c ∧ TabOK c τ ∧ τ 64 0 = 0 ∧ Keep σ τ ∧ (∀ k, 20 < k → k < 30 ∨ 32 < k → ρ k = μ k) ∧ ρ 12 = fun _ => 0
theorem undo_both {σ μ b : Mm} (h : Bk σ b) (hm : Bk μ b) (ok : BookOK b) (ht : TabOK b σ) (h0 : σ 64 0 = 0) (hS : SavR σ μ) : UnStep σ μ (f_X6_undo σ) (f_X7_undo μ) := by
  rcases hS with ⟨s1, s2⟩ | ⟨s1, s2, c, okc, s3⟩
  · refine ⟨-3, σ, sc μ 12 0, b, ?_, ?_, h, hm.sc (by omega), ok, ht, h0, fun _ _ => rfl, fun k k1 _ => sc_ne (by omega), sc_eq'⟩
    · unfold f_X6_undo; rw [Option.bind_some, s1, if_pos rfl]
    · unfold f_X7_undo; rw [Option.bind_some, Option.bind_some, sc_ne (by omega), s2, if_pos rfl]
  · obtain ⟨τ, x1, x2, x3⟩ := cpyB_ok (d := 0) (s := 20) (σ := σ) (by omega) (o := nO c) (by rw [(s3 4 (by omega) 0 (by decide)).1]; exact okc.O) okc.O1
    have xe : f_X0_copy_book σ = some τ := x1
    have hbk : Bk τ (fun k => if k < 12 then mixR k (c k) (b k) else b k) := by
      intro k hk
      have := x3 k hk
      rw [Nat.zero_add] at this
      rw [this]
      refine Eq.trans ?_ (Eq.symm (if_pos hk))
      exact mixR_cong hk (fun j hj => (s3 k hk j hj).1) (h k hk)
    have okn : BookOK (fun k => if k < 12 then mixR k (c k) (b k) else b k) := okc.cong (fun k hk j hj => by
      rw [if_pos hk]
      exact mixR_in hj hk)
    obtain ⟨τ', r1, r2, r3⟩ := x_reckon hbk okn
    have hm12 : ∀ k, k < 12 → sc μ 12 0 k = b k := fun k hk => by rw [sc_ne (by omega)]; exact hm k hk
    have e3 : (fun k => if k < 12 then mixR k (c k) (b k) else b k : Mm) 3 0 = c 3 0 := rfl
    have hbm : Bk (GvM (im1 (sc μ 12 0) 0) 437) (fun k => if k < 12 then mixR k (c k) (b k) else b k) := by
      intro k hk
      rw [give_row hk]
      refine Eq.trans ?_ (Eq.symm (if_pos hk))
      exact mixR_cong hk (fun j hj => by rw [sc_ne (by omega)]; exact (s3 k hk j hj).2) (hm12 k hk)
    refine ⟨c 3 0, τ', GvM (im1 (sc μ 12 0) 0) 437, _, ?_, ?_, fun k hk => by rw [r2 k (by omega)]; exact hbk k hk, hbm, okn, r3, by rw [r2 64 (by omega), x2 64 (by omega), h0], fun k hk => by rw [r2 k (by omega), x2 k (by omega)], fun k k1 k2 => ?_, ?_⟩
    · unfold f_X6_undo
      rw [Option.bind_some, s1, if_neg n10, xe, Option.bind_some, r1, Option.bind_some, Option.bind_some, r2 3 (by omega), hbk 3 (by omega)]
      rfl
    · unfold f_X7_undo
      rw [Option.bind_some, Option.bind_some, sc_ne (by omega), s2, if_neg n10, give_all, Option.bind_some, Option.bind_some, hbm 3 (by omega)]
      rfl
    · rw [GvM_ne (by omega) (by omega) (by omega), im1_ne (by omega), sc_ne (by omega)]
    · rw [GvM_ne (by omega) (by omega) (by omega), im1_ne (by omega), sc_eq']
