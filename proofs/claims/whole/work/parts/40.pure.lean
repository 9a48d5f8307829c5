/-! ===== pure: loops that are counted, rows that are read and written in range ===== -/
theorem wh1_seq {A1 α : Type} {f : (A1 → Option α) → A1 → Option α} (n : Nat) (s1 : Nat → A1) (R : Option α) (hs : ∀ k, k < n → ∀ r, f r (s1 k) = r (s1 (k + 1))) (hx : ∀ r, f r (s1 n) = R) : ∀ F, n < F → wh1 f F (s1 0) = R := by
  have key : ∀ d k F, k + d = n → d < F → wh1 f F (s1 k) = R := by
    intro d
    induction d with
    | zero =>
      intro k F hk hF
      obtain ⟨F, rfl⟩ : ∃ G, F = G + 1 := ⟨F - 1, by omega⟩
      have hk' : k = n := by omega
      subst hk'
      exact hx _
    | succ d ih =>
      intro k F hk hF
      obtain ⟨F, rfl⟩ : ∃ G, F = G + 1 := ⟨F - 1, by omega⟩
      show f (wh1 f F) (s1 k) = R
      rw [hs k (by omega)]
      exact ih (k + 1) F (by omega) (by omega)
  exact fun F hF => key n 0 F (by omega) hF
theorem wh2_seq {A1 A2 α : Type} {f : (A1 → A2 → Option α) → A1 → A2 → Option α} (n : Nat) (s1 : Nat → A1) (s2 : Nat → A2) (R : Option α) (hs : ∀ k, k < n → ∀ r, f r (s1 k) (s2 k) = r (s1 (k + 1)) (s2 (k + 1))) (hx : ∀ r, f r (s1 n) (s2 n) = R) : ∀ F, n < F → wh2 f F (s1 0) (s2 0) = R := by
  have key : ∀ d k F, k + d = n → d < F → wh2 f F (s1 k) (s2 k) = R := by
    intro d
    induction d with
    | zero =>
      intro k F hk hF
      obtain ⟨F, rfl⟩ : ∃ G, F = G + 1 := ⟨F - 1, by omega⟩
      have hk' : k = n := by omega
      subst hk'
      exact hx _
    | succ d ih =>
      intro k F hk hF
      obtain ⟨F, rfl⟩ : ∃ G, F = G + 1 := ⟨F - 1, by omega⟩
      show f (wh2 f F) (s1 k) (s2 k) = R
      rw [hs k (by omega)]
      exact ih (k + 1) F (by omega) (by omega)
  exact fun F hF => key n 0 F (by omega) hF
theorem wh3_seq {A1 A2 A3 α : Type} {f : (A1 → A2 → A3 → Option α) → A1 → A2 → A3 → Option α} (n : Nat) (s1 : Nat → A1) (s2 : Nat → A2) (s3 : Nat → A3) (R : Option α) (hs : ∀ k, k < n → ∀ r, f r (s1 k) (s2 k) (s3 k) = r (s1 (k + 1)) (s2 (k + 1)) (s3 (k + 1))) (hx : ∀ r, f r (s1 n) (s2 n) (s3 n) = R) : ∀ F, n < F → wh3 f F (s1 0) (s2 0) (s3 0) = R := by
  have key : ∀ d k F, k + d = n → d < F → wh3 f F (s1 k) (s2 k) (s3 k) = R := by
    intro d
    induction d with
    | zero =>
      intro k F hk hF
      obtain ⟨F, rfl⟩ : ∃ G, F = G + 1 := ⟨F - 1, by omega⟩
      have hk' : k = n := by omega
      subst hk'
      exact hx _
    | succ d ih =>
      intro k F hk hF
      obtain ⟨F, rfl⟩ : ∃ G, F = G + 1 := ⟨F - 1, by omega⟩
      show f (wh3 f F) (s1 k) (s2 k) (s3 k) = R
      rw [hs k (by omega)]
      exact ih (k + 1) F (by omega) (by omega)
  exact fun F hF => key n 0 F (by omega) hF
theorem wh4_seq {A1 A2 A3 A4 α : Type} {f : (A1 → A2 → A3 → A4 → Option α) → A1 → A2 → A3 → A4 → Option α} (n : Nat) (s1 : Nat → A1) (s2 : Nat → A2) (s3 : Nat → A3) (s4 : Nat → A4) (R : Option α) (hs : ∀ k, k < n → ∀ r, f r (s1 k) (s2 k) (s3 k) (s4 k) = r (s1 (k + 1)) (s2 (k + 1)) (s3 (k + 1)) (s4 (k + 1))) (hx : ∀ r, f r (s1 n) (s2 n) (s3 n) (s4 n) = R) : ∀ F, n < F → wh4 f F (s1 0) (s2 0) (s3 0) (s4 0) = R := by
  have key : ∀ d k F, k + d = n → d < F → wh4 f F (s1 k) (s2 k) (s3 k) (s4 k) = R := by
    intro d
    induction d with
    | zero =>
      intro k F hk hF
      obtain ⟨F, rfl⟩ : ∃ G, F = G + 1 := ⟨F - 1, by omega⟩
      have hk' : k = n := by omega
      subst hk'
      exact hx _
    | succ d ih =>
      intro k F hk hF
      obtain ⟨F, rfl⟩ : ∃ G, F = G + 1 := ⟨F - 1, by omega⟩
      show f (wh4 f F) (s1 k) (s2 k) (s3 k) (s4 k) = R
      rw [hs k (by omega)]
      exact ih (k + 1) F (by omega) (by omega)
  exact fun F hF => key n 0 F (by omega) hF
/-- a place of a row of a memory is written -/
def us (σ : Mm) (k i : Nat) (v : Int32) : Mm := st σ k (upd (σ k) i v)
theorem us_ne {σ : Mm} {k i : Nat} {v : Int32} {j : Nat} (h : j ≠ k) : us σ k i v j = σ j := if_neg h
theorem us_eq {σ : Mm} {k i : Nat} {v : Int32} : us σ k i v k = upd (σ k) i v := if_pos rfl
theorem us_at {σ : Mm} {k i : Nat} {v : Int32} : us σ k i v k i = v := by rw [us_eq, upd, if_pos rfl]
theorem us_off {σ : Mm} {k i : Nat} {v : Int32} {k' j : Nat} (h : k' ≠ k ∨ j ≠ i) : us σ k i v k' j = σ k' j := by
  by_cases hk : k' = k
  · subst hk
    rw [us_eq, upd, if_neg (h.resolve_left (fun q => q rfl))]
  · rw [us_ne hk]
theorem sc_ne {σ : Mm} {k : Nat} {v : Int32} {j : Nat} (h : j ≠ k) : sc σ k v j = σ j := if_neg h
theorem sc_eq' {σ : Mm} {k : Nat} {v : Int32} : sc σ k v k = fun _ => v := if_pos rfl
theorem sc_at {σ : Mm} {k : Nat} {v : Int32} {j : Nat} : sc σ k v k j = v := by rw [sc_eq']
theorem ald_nI {n i : Nat} {f : Nat → Int32} (h : i < n) (hn : n < 2147483648) : ald n f (nI i) = some (f i) := by
  unfold ald
  rw [if_neg (nI_in h hn), nI_clamp (Nat.lt_trans h hn)]
theorem ast_nI {n i k : Nat} {σ : Mm} {v : Int32} (h : i < n) (hn : n < 2147483648) : ast n σ k (nI i) v = some (us σ k i v) := by
  unfold ast us
  rw [if_neg (nI_in h hn), nI_clamp (Nat.lt_trans h hn)]
/-! a Row's methods -/
theorem row_at {n k i : Nat} {σ : Mm} (h : i < n) (hn : n < 2147483648) : f_X2_at n k σ (nI i) = some (σ k i) := by
  unfold f_X2_at
  rw [if_neg (nI_pos (Nat.lt_trans h hn)), if_neg (show ¬ Int32.ofNat n ≤ nI i from nI_ge h hn), ald_nI h hn]
  rfl
theorem row_put {n k i : Nat} {σ : Mm} {v : Int32} (h : i < n) (hn : n < 2147483648) : f_X2_put n k σ (nI i) v = some (us σ k i v) := by
  unfold f_X2_put
  rw [if_neg (nI_pos (Nat.lt_trans h hn)), if_neg (show ¬ Int32.ofNat n ≤ nI i from nI_ge h hn), ast_nI h hn]
  rfl
theorem row_add {n k i : Nat} {σ : Mm} {v : Int32} (h : i < n) (hn : n < 2147483648) : f_X2_add n k σ (nI i) v = some (us σ k i (σ k i + v)) := by
  unfold f_X2_add
  rw [if_neg (nI_pos (Nat.lt_trans h hn)), if_neg (show ¬ Int32.ofNat n ≤ nI i from nI_ge h hn), ald_nI h hn]
  simp only [Option.bind_some]
  rw [ast_nI h hn]
  rfl
theorem row_fill {n k : Nat} {σ : Mm} {v : Int32} (hn : n < 5000) : f_X2_fill n k σ v = some (st σ k (fun j => if j < n then v else σ k j)) := by
  unfold f_X2_fill
  have h0 : st σ k (fun j => if j < 0 then v else σ k j) = σ := by
    funext j i
    by_cases hj : j = k
    · subst hj; simp [st]
    · simp [st, hj]
  have key := wh2_seq (f := f_X2_fill_s2 n k v) n (fun i => st σ k (fun j => if j < i then v else σ k j)) (fun i => nI i) (some (st σ k (fun j => if j < n then v else σ k j))) (fun i hi r => by
    unfold f_X2_fill_s2
    rw [if_neg (show ¬ Int32.ofNat n ≤ nI i from nI_ge hi (by omega)), ast_nI hi (by omega), Option.bind_some, show nI i + (1 : Int32) = nI (i + 1) from nI_1 i]
    congr 1
    funext j q
    by_cases hj : j = k
    · subst hj
      rw [us_eq]
      simp only [st_eq, upd]
      by_cases h1 : q = i
      · subst h1; simp
      · by_cases h2 : q < i
        · simp [h1, h2, Nat.lt_succ_of_lt h2]
        · have : ¬ q < i + 1 := by omega
          simp [h1, h2, this]
    · rw [us_ne hj]; simp [st, hj]) (fun r => by
    unfold f_X2_fill_s2
    rw [if_pos (show Int32.ofNat n ≤ nI n from nI_le (Nat.le_refl n) (by omega))]) 5000 hn
  rw [h0] at key
  exact key
theorem row_copy {n k n2 k2 : Nat} {σ : Mm} (hn : n < 5000) (hn2 : n ≤ n2) (h2 : n2 < 5000) (hk : k ≠ k2) : f_X2_copy n k n2 k2 σ = some (st σ k (fun j => if j < n then σ k2 j else σ k j)) := by
  unfold f_X2_copy
  have h0 : st σ k (fun j => if j < 0 then σ k2 j else σ k j) = σ := by
    funext j i
    by_cases hj : j = k
    · subst hj; simp [st]
    · simp [st, hj]
  have key := wh2_seq (f := f_X2_copy_s2 n k n2 k2) n (fun i => st σ k (fun j => if j < i then σ k2 j else σ k j)) (fun i => nI i) (some (st σ k (fun j => if j < n then σ k2 j else σ k j))) (fun i hi r => by
    unfold f_X2_copy_s2
    rw [if_neg (show ¬ Int32.ofNat n ≤ nI i from nI_ge hi (by omega)), row_at (by omega) (by omega), Option.bind_some, ast_nI hi (by omega), Option.bind_some, show nI i + (1 : Int32) = nI (i + 1) from nI_1 i]
    congr 1
    funext j q
    by_cases hj : j = k
    · subst hj
      rw [us_eq]
      simp only [st_eq, upd, st_ne σ _ (Ne.symm hk)]
      by_cases h1 : q = i
      · subst h1; simp
      · by_cases h2 : q < i
        · simp [h1, h2, Nat.lt_succ_of_lt h2]
        · have : ¬ q < i + 1 := by omega
          simp [h1, h2, this]
    · rw [us_ne hj]; simp [st, hj]) (fun r => by
    unfold f_X2_copy_s2
    rw [if_pos (show Int32.ofNat n ≤ nI n from nI_le (Nat.le_refl n) (by omega))]) 5000 hn
  rw [h0] at key
  exact key
