/-! ===== image and undo: the reference's one row ===== -/
def offN (k x : Nat) : Nat := if k = 0 then 0 else if k = 3 then 1 else if k = 4 then 2 else if k = 10 then 3 else if k = 1 then (if x < 12 then 4 + 2 * x else 1000) else if k = 2 then (if x < 12 then 5 + 2 * x else 1000) else if k = 11 then (if x < 9 then 28 + x else 1000) else if k = 5 then (if x < 20 then 37 + 2 * x else 1000) else if k = 6 then (if x < 20 then 38 + 2 * x else 1000) else if k = 7 then (if x < 120 then 77 + 3 * x else 1000) else if k = 8 then (if x < 120 then 78 + 3 * x else 1000) else if k = 9 then (if x < 120 then 79 + 3 * x else 1000) else 1000
theorem off_big {k x : Nat} (h : 12 ≤ k) : offN k x = 1000 := by
  unfold offN
  rw [if_neg (by omega), if_neg (by omega), if_neg (by omega), if_neg (by omega), if_neg (by omega), if_neg (by omega), if_neg (by omega), if_neg (by omega), if_neg (by omega), if_neg (by omega), if_neg (by omega), if_neg (by omega)]
theorem off_all (k x : Nat) : (k = 0 ∧ offN k x = 0) ∨ (k = 3 ∧ offN k x = 1) ∨ (k = 4 ∧ offN k x = 2) ∨ (k = 10 ∧ offN k x = 3) ∨ (k = 1 ∧ x < 12 ∧ offN k x = 4 + 2 * x) ∨ (k = 2 ∧ x < 12 ∧ offN k x = 5 + 2 * x) ∨ (k = 11 ∧ x < 9 ∧ offN k x = 28 + x) ∨ (k = 5 ∧ x < 20 ∧ offN k x = 37 + 2 * x) ∨ (k = 6 ∧ x < 20 ∧ offN k x = 38 + 2 * x) ∨ (k = 7 ∧ x < 120 ∧ offN k x = 77 + 3 * x) ∨ (k = 8 ∧ x < 120 ∧ offN k x = 78 + 3 * x) ∨ (k = 9 ∧ x < 120 ∧ offN k x = 79 + 3 * x) ∨ offN k x = 1000 := by
  by_cases hk : k < 12
  · have cs : k = 0 ∨ k = 1 ∨ k = 2 ∨ k = 3 ∨ k = 4 ∨ k = 5 ∨ k = 6 ∨ k = 7 ∨ k = 8 ∨ k = 9 ∨ k = 10 ∨ k = 11 := by omega
    rcases cs with z | z | z | z | z | z | z | z | z | z | z | z <;> subst z
    · exact Or.inl ⟨rfl, rfl⟩
    · have e : offN 1 x = if x < 12 then 4 + 2 * x else 1000 := rfl
      by_cases z : x < 12
      · rw [if_pos z] at e; exact Or.inr (Or.inr (Or.inr (Or.inr (Or.inl ⟨rfl, z, e⟩))))
      · rw [if_neg z] at e; exact Or.inr (Or.inr (Or.inr (Or.inr (Or.inr (Or.inr (Or.inr (Or.inr (Or.inr (Or.inr (Or.inr (Or.inr (e))))))))))))
    · have e : offN 2 x = if x < 12 then 5 + 2 * x else 1000 := rfl
      by_cases z : x < 12
      · rw [if_pos z] at e; exact Or.inr (Or.inr (Or.inr (Or.inr (Or.inr (Or.inl ⟨rfl, z, e⟩)))))
      · rw [if_neg z] at e; exact Or.inr (Or.inr (Or.inr (Or.inr (Or.inr (Or.inr (Or.inr (Or.inr (Or.inr (Or.inr (Or.inr (Or.inr (e))))))))))))
    · exact Or.inr (Or.inl ⟨rfl, rfl⟩)
    · exact Or.inr (Or.inr (Or.inl ⟨rfl, rfl⟩))
    · have e : offN 5 x = if x < 20 then 37 + 2 * x else 1000 := rfl
      by_cases z : x < 20
      · rw [if_pos z] at e; exact Or.inr (Or.inr (Or.inr (Or.inr (Or.inr (Or.inr (Or.inr (Or.inl ⟨rfl, z, e⟩)))))))
      · rw [if_neg z] at e; exact Or.inr (Or.inr (Or.inr (Or.inr (Or.inr (Or.inr (Or.inr (Or.inr (Or.inr (Or.inr (Or.inr (Or.inr (e))))))))))))
    · have e : offN 6 x = if x < 20 then 38 + 2 * x else 1000 := rfl
      by_cases z : x < 20
      · rw [if_pos z] at e; exact Or.inr (Or.inr (Or.inr (Or.inr (Or.inr (Or.inr (Or.inr (Or.inr (Or.inl ⟨rfl, z, e⟩))))))))
      · rw [if_neg z] at e; exact Or.inr (Or.inr (Or.inr (Or.inr (Or.inr (Or.inr (Or.inr (Or.inr (Or.inr (Or.inr (Or.inr (Or.inr (e))))))))))))
    · have e : offN 7 x = if x < 120 then 77 + 3 * x else 1000 := rfl
      by_cases z : x < 120
      · rw [if_pos z] at e; exact Or.inr (Or.inr (Or.inr (Or.inr (Or.inr (Or.inr (Or.inr (Or.inr (Or.inr (Or.inl ⟨rfl, z, e⟩)))))))))
      · rw [if_neg z] at e; exact Or.inr (Or.inr (Or.inr (Or.inr (Or.inr (Or.inr (Or.inr (Or.inr (Or.inr (Or.inr (Or.inr (Or.inr (e))))))))))))
    · have e : offN 8 x = if x < 120 then 78 + 3 * x else 1000 := rfl
      by_cases z : x < 120
      · rw [if_pos z] at e; exact Or.inr (Or.inr (Or.inr (Or.inr (Or.inr (Or.inr (Or.inr (Or.inr (Or.inr (Or.inr (Or.inl ⟨rfl, z, e⟩))))))))))
      · rw [if_neg z] at e; exact Or.inr (Or.inr (Or.inr (Or.inr (Or.inr (Or.inr (Or.inr (Or.inr (Or.inr (Or.inr (Or.inr (Or.inr (e))))))))))))
    · have e : offN 9 x = if x < 120 then 79 + 3 * x else 1000 := rfl
      by_cases z : x < 120
      · rw [if_pos z] at e; exact Or.inr (Or.inr (Or.inr (Or.inr (Or.inr (Or.inr (Or.inr (Or.inr (Or.inr (Or.inr (Or.inr (Or.inl ⟨rfl, z, e⟩)))))))))))
      · rw [if_neg z] at e; exact Or.inr (Or.inr (Or.inr (Or.inr (Or.inr (Or.inr (Or.inr (Or.inr (Or.inr (Or.inr (Or.inr (Or.inr (e))))))))))))
    · exact Or.inr (Or.inr (Or.inr (Or.inl ⟨rfl, rfl⟩)))
    · have e : offN 11 x = if x < 9 then 28 + x else 1000 := rfl
      by_cases z : x < 9
      · rw [if_pos z] at e; exact Or.inr (Or.inr (Or.inr (Or.inr (Or.inr (Or.inr (Or.inl ⟨rfl, z, e⟩))))))
      · rw [if_neg z] at e; exact Or.inr (Or.inr (Or.inr (Or.inr (Or.inr (Or.inr (Or.inr (Or.inr (Or.inr (Or.inr (Or.inr (Or.inr (e))))))))))))
  · exact Or.inr (Or.inr (Or.inr (Or.inr (Or.inr (Or.inr (Or.inr (Or.inr (Or.inr (Or.inr (Or.inr (Or.inr ((off_big (by omega))))))))))))))
theorem off_0 {k x : Nat} (h : offN k x = 0) : k = 0 := by rcases off_all k x with ⟨a, e⟩ | ⟨a, e⟩ | ⟨a, e⟩ | ⟨a, e⟩ | ⟨a, z, e⟩ | ⟨a, z, e⟩ | ⟨a, z, e⟩ | ⟨a, z, e⟩ | ⟨a, z, e⟩ | ⟨a, z, e⟩ | ⟨a, z, e⟩ | ⟨a, z, e⟩ | e <;> rw [e] at h <;> omega
theorem off_3 {k x : Nat} (h : offN k x = 1) : k = 3 := by rcases off_all k x with ⟨a, e⟩ | ⟨a, e⟩ | ⟨a, e⟩ | ⟨a, e⟩ | ⟨a, z, e⟩ | ⟨a, z, e⟩ | ⟨a, z, e⟩ | ⟨a, z, e⟩ | ⟨a, z, e⟩ | ⟨a, z, e⟩ | ⟨a, z, e⟩ | ⟨a, z, e⟩ | e <;> rw [e] at h <;> omega
theorem off_4 {k x : Nat} (h : offN k x = 2) : k = 4 := by rcases off_all k x with ⟨a, e⟩ | ⟨a, e⟩ | ⟨a, e⟩ | ⟨a, e⟩ | ⟨a, z, e⟩ | ⟨a, z, e⟩ | ⟨a, z, e⟩ | ⟨a, z, e⟩ | ⟨a, z, e⟩ | ⟨a, z, e⟩ | ⟨a, z, e⟩ | ⟨a, z, e⟩ | e <;> rw [e] at h <;> omega
theorem off_10 {k x : Nat} (h : offN k x = 3) : k = 10 := by rcases off_all k x with ⟨a, e⟩ | ⟨a, e⟩ | ⟨a, e⟩ | ⟨a, e⟩ | ⟨a, z, e⟩ | ⟨a, z, e⟩ | ⟨a, z, e⟩ | ⟨a, z, e⟩ | ⟨a, z, e⟩ | ⟨a, z, e⟩ | ⟨a, z, e⟩ | ⟨a, z, e⟩ | e <;> rw [e] at h <;> omega
theorem off_1 {k x p : Nat} (hp : p < 12) (h : offN k x = 4 + 2 * p) : k = 1 ∧ x = p := by rcases off_all k x with ⟨a, e⟩ | ⟨a, e⟩ | ⟨a, e⟩ | ⟨a, e⟩ | ⟨a, z, e⟩ | ⟨a, z, e⟩ | ⟨a, z, e⟩ | ⟨a, z, e⟩ | ⟨a, z, e⟩ | ⟨a, z, e⟩ | ⟨a, z, e⟩ | ⟨a, z, e⟩ | e <;> rw [e] at h <;> omega
theorem off_2 {k x p : Nat} (hp : p < 12) (h : offN k x = 5 + 2 * p) : k = 2 ∧ x = p := by rcases off_all k x with ⟨a, e⟩ | ⟨a, e⟩ | ⟨a, e⟩ | ⟨a, e⟩ | ⟨a, z, e⟩ | ⟨a, z, e⟩ | ⟨a, z, e⟩ | ⟨a, z, e⟩ | ⟨a, z, e⟩ | ⟨a, z, e⟩ | ⟨a, z, e⟩ | ⟨a, z, e⟩ | e <;> rw [e] at h <;> omega
theorem off_11 {k x p : Nat} (hp : p < 9) (h : offN k x = 28 + p) : k = 11 ∧ x = p := by rcases off_all k x with ⟨a, e⟩ | ⟨a, e⟩ | ⟨a, e⟩ | ⟨a, e⟩ | ⟨a, z, e⟩ | ⟨a, z, e⟩ | ⟨a, z, e⟩ | ⟨a, z, e⟩ | ⟨a, z, e⟩ | ⟨a, z, e⟩ | ⟨a, z, e⟩ | ⟨a, z, e⟩ | e <;> rw [e] at h <;> omega
theorem off_5 {k x p : Nat} (hp : p < 20) (h : offN k x = 37 + 2 * p) : k = 5 ∧ x = p := by rcases off_all k x with ⟨a, e⟩ | ⟨a, e⟩ | ⟨a, e⟩ | ⟨a, e⟩ | ⟨a, z, e⟩ | ⟨a, z, e⟩ | ⟨a, z, e⟩ | ⟨a, z, e⟩ | ⟨a, z, e⟩ | ⟨a, z, e⟩ | ⟨a, z, e⟩ | ⟨a, z, e⟩ | e <;> rw [e] at h <;> omega
theorem off_6 {k x p : Nat} (hp : p < 20) (h : offN k x = 38 + 2 * p) : k = 6 ∧ x = p := by rcases off_all k x with ⟨a, e⟩ | ⟨a, e⟩ | ⟨a, e⟩ | ⟨a, e⟩ | ⟨a, z, e⟩ | ⟨a, z, e⟩ | ⟨a, z, e⟩ | ⟨a, z, e⟩ | ⟨a, z, e⟩ | ⟨a, z, e⟩ | ⟨a, z, e⟩ | ⟨a, z, e⟩ | e <;> rw [e] at h <;> omega
theorem off_7 {k x p : Nat} (hp : p < 120) (h : offN k x = 77 + 3 * p) : k = 7 ∧ x = p := by rcases off_all k x with ⟨a, e⟩ | ⟨a, e⟩ | ⟨a, e⟩ | ⟨a, e⟩ | ⟨a, z, e⟩ | ⟨a, z, e⟩ | ⟨a, z, e⟩ | ⟨a, z, e⟩ | ⟨a, z, e⟩ | ⟨a, z, e⟩ | ⟨a, z, e⟩ | ⟨a, z, e⟩ | e <;> rw [e] at h <;> omega
theorem off_8 {k x p : Nat} (hp : p < 120) (h : offN k x = 78 + 3 * p) : k = 8 ∧ x = p := by rcases off_all k x with ⟨a, e⟩ | ⟨a, e⟩ | ⟨a, e⟩ | ⟨a, e⟩ | ⟨a, z, e⟩ | ⟨a, z, e⟩ | ⟨a, z, e⟩ | ⟨a, z, e⟩ | ⟨a, z, e⟩ | ⟨a, z, e⟩ | ⟨a, z, e⟩ | ⟨a, z, e⟩ | e <;> rw [e] at h <;> omega
theorem off_9 {k x p : Nat} (hp : p < 120) (h : offN k x = 79 + 3 * p) : k = 9 ∧ x = p := by rcases off_all k x with ⟨a, e⟩ | ⟨a, e⟩ | ⟨a, e⟩ | ⟨a, e⟩ | ⟨a, z, e⟩ | ⟨a, z, e⟩ | ⟨a, z, e⟩ | ⟨a, z, e⟩ | ⟨a, z, e⟩ | ⟨a, z, e⟩ | ⟨a, z, e⟩ | ⟨a, z, e⟩ | e <;> rw [e] at h <;> omega
theorem cap_sc {k : Nat} (h : k = 0 ∨ k = 3 ∨ k = 4 ∨ k = 10) : capN k = 1 := by rcases h with e | e | e | e <;> subst e <;> rfl
theorem off_lt {k x : Nat} (hk : k < 12) (hx : x < capN k) : offN k x < 437 := by
  have cs : k = 0 ∨ k = 1 ∨ k = 2 ∨ k = 3 ∨ k = 4 ∨ k = 5 ∨ k = 6 ∨ k = 7 ∨ k = 8 ∨ k = 9 ∨ k = 10 ∨ k = 11 := by omega
  rcases cs with z | z | z | z | z | z | z | z | z | z | z | z <;> subst z
  · exact (by decide : (0 : Nat) < 437)
  · have h : x < 12 := hx
    rw [show offN 1 x = 4 + 2 * x from if_pos h]; omega
  · have h : x < 12 := hx
    rw [show offN 2 x = 5 + 2 * x from if_pos h]; omega
  · exact (by decide : (1 : Nat) < 437)
  · exact (by decide : (2 : Nat) < 437)
  · have h : x < 20 := hx
    rw [show offN 5 x = 37 + 2 * x from if_pos h]; omega
  · have h : x < 20 := hx
    rw [show offN 6 x = 38 + 2 * x from if_pos h]; omega
  · have h : x < 120 := hx
    rw [show offN 7 x = 77 + 3 * x from if_pos h]; omega
  · have h : x < 120 := hx
    rw [show offN 8 x = 78 + 3 * x from if_pos h]; omega
  · have h : x < 120 := hx
    rw [show offN 9 x = 79 + 3 * x from if_pos h]; omega
  · exact (by decide : (3 : Nat) < 437)
  · have h : x < 9 := hx
    rw [show offN 11 x = 28 + x from if_pos h]; omega
/-! taking: the row is written, the book stays -/
def srcN (μ : Mm) (i : Nat) : Int32 := if i = 0 then μ 0 0 else if i = 1 then μ 3 0 else if i = 2 then μ 4 0 else if i = 3 then μ 10 0 else if i < 28 then (if i % 2 = 0 then μ 1 ((i - 4) / 2) else μ 2 ((i - 4) / 2)) else if i < 37 then μ 11 (i - 28) else if i < 77 then (if i % 2 = 1 then μ 5 ((i - 37) / 2) else μ 6 ((i - 37) / 2)) else if i % 3 = 2 then μ 7 ((i - 77) / 3) else if i % 3 = 0 then μ 8 ((i - 77) / 3) else μ 9 ((i - 77) / 3)
theorem src_1 {μ : Mm} {p : Nat} (hp : p < 12) : srcN μ (4 + 2 * p) = μ 1 p := by
  unfold srcN
  rw [if_neg (by omega), if_neg (by omega), if_neg (by omega), if_neg (by omega), if_pos (by omega), if_pos (by omega), show (4 + 2 * p - 4) / 2 = p by omega]
theorem src_2 {μ : Mm} {p : Nat} (hp : p < 12) : srcN μ (5 + 2 * p) = μ 2 p := by
  unfold srcN
  rw [if_neg (by omega), if_neg (by omega), if_neg (by omega), if_neg (by omega), if_pos (by omega), if_neg (by omega), show (5 + 2 * p - 4) / 2 = p by omega]
theorem src_11 {μ : Mm} {p : Nat} (hp : p < 9) : srcN μ (28 + p) = μ 11 p := by
  unfold srcN
  rw [if_neg (by omega), if_neg (by omega), if_neg (by omega), if_neg (by omega), if_neg (by omega), if_pos (by omega), show 28 + p - 28 = p by omega]
theorem src_5 {μ : Mm} {p : Nat} (hp : p < 20) : srcN μ (37 + 2 * p) = μ 5 p := by
  unfold srcN
  rw [if_neg (by omega), if_neg (by omega), if_neg (by omega), if_neg (by omega), if_neg (by omega), if_neg (by omega), if_pos (by omega), if_pos (by omega), show (37 + 2 * p - 37) / 2 = p by omega]
theorem src_6 {μ : Mm} {p : Nat} (hp : p < 20) : srcN μ (38 + 2 * p) = μ 6 p := by
  unfold srcN
  rw [if_neg (by omega), if_neg (by omega), if_neg (by omega), if_neg (by omega), if_neg (by omega), if_neg (by omega), if_pos (by omega), if_neg (by omega), show (38 + 2 * p - 37) / 2 = p by omega]
theorem src_7 {μ : Mm} {p : Nat} : srcN μ (77 + 3 * p) = μ 7 p := by
  unfold srcN
  rw [if_neg (by omega), if_neg (by omega), if_neg (by omega), if_neg (by omega), if_neg (by omega), if_neg (by omega), if_neg (by omega), if_pos (by omega), show (77 + 3 * p - 77) / 3 = p by omega]
theorem src_8 {μ : Mm} {p : Nat} : srcN μ (78 + 3 * p) = μ 8 p := by
  unfold srcN
  rw [if_neg (by omega), if_neg (by omega), if_neg (by omega), if_neg (by omega), if_neg (by omega), if_neg (by omega), if_neg (by omega), if_neg (by omega), if_pos (by omega), show (78 + 3 * p - 77) / 3 = p by omega]
theorem src_9 {μ : Mm} {p : Nat} : srcN μ (79 + 3 * p) = μ 9 p := by
  unfold srcN
  rw [if_neg (by omega), if_neg (by omega), if_neg (by omega), if_neg (by omega), if_neg (by omega), if_neg (by omega), if_neg (by omega), if_neg (by omega), if_neg (by omega), show (79 + 3 * p - 77) / 3 = p by omega]
def TkM (μ : Mm) (i : Nat) : Mm := fun k x => if k = 30 then nI i else if k = 29 ∧ x < i then srcN μ x else μ k x
theorem TkM_ne {μ : Mm} {i k : Nat} (h1 : k ≠ 29) (h2 : k ≠ 30) : TkM μ i k = μ k := by
  funext x
  unfold TkM
  rw [if_neg h2, if_neg (fun q => h1 q.1)]
theorem carry_take {μ : Mm} {i : Nat} (h1 : μ 31 0 = 1) (h2 : μ 32 0 = 1) (hi : i < 437) {v : Int32} (hv : v = srcN μ i) : f_X7_carry (TkM μ i) v = some (v, TkM μ (i + 1)) := by
  have e0 : TkM μ i 30 0 = nI i := if_pos rfl
  have key : sc (us (TkM μ i) 29 i v) 30 (nI (i + 1)) = TkM μ (i + 1) := by
    funext k x
    by_cases z : k = 30
    · rw [z, sc_at]; exact (if_pos rfl).symm
    · rw [sc_ne z]
      by_cases z2 : k = 29
      · subst z2
        by_cases z3 : x = i
        · rw [z3, us_at, hv]
          unfold TkM
          rw [if_neg z, if_pos ⟨rfl, by omega⟩]
        · rw [us_off (Or.inr z3)]
          unfold TkM
          rw [if_neg z, if_neg z]
          by_cases z4 : x < i
          · rw [if_pos ⟨rfl, z4⟩, if_pos ⟨rfl, by omega⟩]
          · rw [if_neg (fun q => z4 q.2), if_neg (fun q => absurd q.2 (by omega))]
      · rw [us_ne z2, TkM_ne z2 z, TkM_ne z2 z]
  unfold f_X7_carry
  rw [Option.bind_some, TkM_ne (by omega) (by omega), h1, if_neg n10, TkM_ne (by omega) (by omega), h2, if_neg n10, Option.bind_some, e0, ast_nI (by omega) (by omega), Option.bind_some]
  unfold f_X7_carry_j17
  rw [Option.bind_some, us_ne (by omega), e0, show nI i + (1 : Int32) = nI (i + 1) from nI_1 i, key, Option.bind_some, TkM_ne (by omega) (by omega), h2, if_neg n10, Option.bind_some, show TkM μ (i + 1) 30 0 = nI (i + 1) from if_pos rfl, nI_pred, ald_nI (by omega) (by omega), Option.bind_some]
  have e1 : TkM μ (i + 1) 29 i = v := by
    rw [hv]
    unfold TkM
    rw [if_neg (by omega), if_pos ⟨rfl, by omega⟩]
  rw [e1]
theorem us_self {σ : Mm} {k i : Nat} {v : Int32} (h : σ k i = v) : us σ k i v = σ := by
  funext r x
  by_cases z : r = k ∧ x = i
  · obtain ⟨rfl, rfl⟩ := z
    rw [us_at, h]
  · rw [us_off (by by_cases z1 : r = k; exact Or.inr (fun q => z ⟨z1, q⟩); exact Or.inl z1)]
theorem sc_self {σ : Mm} {k : Nat} {v : Int32} (h : σ k = fun _ => v) : sc σ k v = σ := by
  funext r x
  by_cases z : r = k
  · rw [z, sc_at, h]
  · rw [sc_ne z]
theorem take_9 {μ : Mm} (h1 : μ 31 0 = 1) (h2 : μ 32 0 = 1) : wh2 f_X7_carryAll_s190 5000 (TkM μ 77) (0 : Int32) = some (TkM μ 437) := by
  refine wh2_seq 120 (fun p => TkM μ (77 + 3 * p)) (fun p => nI p) _ (fun p hp r => ?_) (fun r => ?_) 5000 (by omega)
  · unfold f_X7_carryAll_s190
    rw [if_neg (show ¬ (120 : Int32) ≤ nI p from nI_ge (b := 120) hp (by omega)), ald_nI (by omega) (by omega), Option.bind_some, TkM_ne (by omega) (by omega), carry_take h1 h2 (by omega) src_7.symm, Option.bind_some]
    dsimp only
    rw [ast_nI (by omega) (by omega), Option.bind_some, us_self (by rw [TkM_ne (by omega) (by omega)]), ald_nI (by omega) (by omega), Option.bind_some, TkM_ne (by omega) (by omega), show 77 + 3 * p + 1 = 78 + 3 * p by omega, carry_take h1 h2 (by omega) src_8.symm, Option.bind_some]
    dsimp only
    rw [ast_nI (by omega) (by omega), Option.bind_some, us_self (by rw [TkM_ne (by omega) (by omega)]), ald_nI (by omega) (by omega), Option.bind_some, TkM_ne (by omega) (by omega), show 78 + 3 * p + 1 = 79 + 3 * p by omega, carry_take h1 h2 (by omega) src_9.symm, Option.bind_some]
    dsimp only
    rw [ast_nI (by omega) (by omega), Option.bind_some, us_self (by rw [TkM_ne (by omega) (by omega)]), show nI p + (1 : Int32) = nI (p + 1) from nI_1 p, show 79 + 3 * p + 1 = 77 + 3 * (p + 1) by omega]
  · unfold f_X7_carryAll_s190
    rw [if_pos (show (120 : Int32) ≤ nI 120 by decide)]
theorem take_5 {μ : Mm} (h1 : μ 31 0 = 1) (h2 : μ 32 0 = 1) : wh2 f_X7_carryAll_s144 5000 (TkM μ 37) (0 : Int32) = some (TkM μ 437) := by
  refine wh2_seq 20 (fun p => TkM μ (37 + 2 * p)) (fun p => nI p) _ (fun p hp r => ?_) (fun r => ?_) 5000 (by omega)
  · unfold f_X7_carryAll_s144
    rw [if_neg (show ¬ (20 : Int32) ≤ nI p from nI_ge (b := 20) hp (by omega)), ald_nI (by omega) (by omega), Option.bind_some, TkM_ne (by omega) (by omega), carry_take h1 h2 (by omega) (src_5 hp).symm, Option.bind_some]
    dsimp only
    rw [ast_nI (by omega) (by omega), Option.bind_some, us_self (by rw [TkM_ne (by omega) (by omega)]), ald_nI (by omega) (by omega), Option.bind_some, TkM_ne (by omega) (by omega), show 37 + 2 * p + 1 = 38 + 2 * p by omega, carry_take h1 h2 (by omega) (src_6 hp).symm, Option.bind_some]
    dsimp only
    rw [ast_nI (by omega) (by omega), Option.bind_some, us_self (by rw [TkM_ne (by omega) (by omega)]), show nI p + (1 : Int32) = nI (p + 1) from nI_1 p, show 38 + 2 * p + 1 = 37 + 2 * (p + 1) by omega]
  · unfold f_X7_carryAll_s144
    rw [if_pos (show (20 : Int32) ≤ nI 20 by decide)]
    exact take_9 h1 h2
theorem take_11 {μ : Mm} (h1 : μ 31 0 = 1) (h2 : μ 32 0 = 1) : wh2 f_X7_carryAll_s114 5000 (TkM μ 28) (0 : Int32) = some (TkM μ 437) := by
  refine wh2_seq 9 (fun p => TkM μ (28 + p)) (fun p => nI p) _ (fun p hp r => ?_) (fun r => ?_) 5000 (by omega)
  · unfold f_X7_carryAll_s114
    rw [if_neg (show ¬ (9 : Int32) ≤ nI p from nI_ge (b := 9) hp (by omega)), ald_nI (by omega) (by omega), Option.bind_some, TkM_ne (by omega) (by omega), carry_take h1 h2 (by omega) (src_11 hp).symm, Option.bind_some]
    dsimp only
    rw [ast_nI (by omega) (by omega), Option.bind_some, us_self (by rw [TkM_ne (by omega) (by omega)]), show nI p + (1 : Int32) = nI (p + 1) from nI_1 p, show 28 + p + 1 = 28 + (p + 1) by omega]
  · unfold f_X7_carryAll_s114
    rw [if_pos (show (9 : Int32) ≤ nI 9 by decide)]
    exact take_5 h1 h2
theorem take_1 {μ : Mm} (h1 : μ 31 0 = 1) (h2 : μ 32 0 = 1) : wh2 f_X7_carryAll_s68 5000 (TkM μ 4) (0 : Int32) = some (TkM μ 437) := by
  refine wh2_seq 12 (fun p => TkM μ (4 + 2 * p)) (fun p => nI p) _ (fun p hp r => ?_) (fun r => ?_) 5000 (by omega)
  · unfold f_X7_carryAll_s68
    rw [if_neg (show ¬ (12 : Int32) ≤ nI p from nI_ge (b := 12) hp (by omega)), ald_nI (by omega) (by omega), Option.bind_some, TkM_ne (by omega) (by omega), carry_take h1 h2 (by omega) (src_1 hp).symm, Option.bind_some]
    dsimp only
    rw [ast_nI (by omega) (by omega), Option.bind_some, us_self (by rw [TkM_ne (by omega) (by omega)]), ald_nI (by omega) (by omega), Option.bind_some, TkM_ne (by omega) (by omega), show 4 + 2 * p + 1 = 5 + 2 * p by omega, carry_take h1 h2 (by omega) (src_2 hp).symm, Option.bind_some]
    dsimp only
    rw [ast_nI (by omega) (by omega), Option.bind_some, us_self (by rw [TkM_ne (by omega) (by omega)]), show nI p + (1 : Int32) = nI (p + 1) from nI_1 p, show 5 + 2 * p + 1 = 4 + 2 * (p + 1) by omega]
  · unfold f_X7_carryAll_s68
    rw [if_pos (show (12 : Int32) ≤ nI 12 by decide)]
    exact take_11 h1 h2
def Cst (b : Mm) : Prop := (b 0 = fun _ => b 0 0) ∧ (b 3 = fun _ => b 3 0) ∧ (b 4 = fun _ => b 4 0) ∧ b 10 = fun _ => b 10 0
def im1 (μ : Mm) (t : Int32) : Mm := sc (sc (sc μ 32 1) 31 t) 30 0
theorem im1_ne {μ : Mm} {t : Int32} {k : Nat} (h : k < 30 ∨ 32 < k) : im1 μ t k = μ k := by unfold im1; rw [sc_ne (by omega), sc_ne (by omega), sc_ne (by omega)]
theorem im1_31 {μ : Mm} {t : Int32} : im1 μ t 31 0 = t := by unfold im1; rw [sc_ne (by omega), sc_at]
theorem im1_32 {μ : Mm} {t : Int32} : im1 μ t 32 0 = 1 := by unfold im1; rw [sc_ne (by omega), sc_ne (by omega), sc_at]
theorem take_all {μ : Mm} (hc : Cst μ) : f_X7_carryAll μ (1 : Int32) = some (TkM (im1 μ 1) 437) := by
  have h1 : im1 μ 1 31 0 = 1 := im1_31
  have h2 : im1 μ 1 32 0 = 1 := im1_32
  have e0 : sc (sc (sc μ 32 1) 31 1) 30 0 = TkM (im1 μ 1) 0 := by
    funext k x
    unfold TkM
    by_cases z : k = 30
    · rw [if_pos z, z, sc_at]; rfl
    · rw [if_neg z, if_neg (fun q => absurd q.2 (Nat.not_lt_zero _))]; rfl
  have cs : ∀ {i k}, k < 12 → μ k = (fun _ => μ k 0) → sc (TkM (im1 μ 1) i) k (im1 μ 1 k 0) = TkM (im1 μ 1) i := fun {i k} hk e => sc_self (by rw [TkM_ne (by omega) (by omega), im1_ne (by omega)]; exact e)
  obtain ⟨c0, c3, c4, c10⟩ := hc
  unfold f_X7_carryAll
  rw [Option.bind_some, show zb (1 : Int32) = some 1 from rfl, Option.bind_some, Option.bind_some, Option.bind_some, e0, Option.bind_some, TkM_ne (by omega) (by omega), carry_take (i := 0) (v := im1 μ 1 0 0) h1 h2 (by omega) rfl, Option.bind_some]
  dsimp only
  rw [Option.bind_some, cs (by omega) c0, Option.bind_some, TkM_ne (by omega) (by omega), carry_take (i := 0 + 1) (v := im1 μ 1 3 0) h1 h2 (by omega) rfl, Option.bind_some]
  dsimp only
  rw [Option.bind_some, cs (by omega) c3, Option.bind_some, TkM_ne (by omega) (by omega), carry_take (i := 0 + 1 + 1) (v := im1 μ 1 4 0) h1 h2 (by omega) rfl, Option.bind_some]
  dsimp only
  rw [Option.bind_some, cs (by omega) c4, Option.bind_some, TkM_ne (by omega) (by omega), carry_take (i := 0 + 1 + 1 + 1) (v := im1 μ 1 10 0) h1 h2 (by omega) rfl, Option.bind_some]
  dsimp only
  rw [Option.bind_some, cs (by omega) c10]
  exact take_1 h1 h2
theorem take_im {μ : Mm} {k x : Nat} (hk : k < 12) (hx : x < capN k) : TkM (im1 μ 1) 437 29 (offN k x) = μ k x := by
  have hl := off_lt hk hx
  have e : TkM (im1 μ 1) 437 29 (offN k x) = srcN (im1 μ 1) (offN k x) := by
    unfold TkM
    rw [if_neg (by omega), if_pos ⟨rfl, hl⟩]
  rw [e]
  have cs : k = 0 ∨ k = 1 ∨ k = 2 ∨ k = 3 ∨ k = 4 ∨ k = 5 ∨ k = 6 ∨ k = 7 ∨ k = 8 ∨ k = 9 ∨ k = 10 ∨ k = 11 := by omega
  rcases cs with z | z | z | z | z | z | z | z | z | z | z | z <;> subst z
  · have : x = 0 := by have : x < 1 := hx; omega
    subst this; rfl
  · have h : x < 12 := hx
    rw [show offN 1 x = 4 + 2 * x from if_pos h, src_1 h]; rfl
  · have h : x < 12 := hx
    rw [show offN 2 x = 5 + 2 * x from if_pos h, src_2 h]; rfl
  · have : x = 0 := by have : x < 1 := hx; omega
    subst this; rfl
  · have : x = 0 := by have : x < 1 := hx; omega
    subst this; rfl
  · have h : x < 20 := hx
    rw [show offN 5 x = 37 + 2 * x from if_pos h, src_5 h]; rfl
  · have h : x < 20 := hx
    rw [show offN 6 x = 38 + 2 * x from if_pos h, src_6 h]; rfl
  · have h : x < 120 := hx
    rw [show offN 7 x = 77 + 3 * x from if_pos h, src_7]; rfl
  · have h : x < 120 := hx
    rw [show offN 8 x = 78 + 3 * x from if_pos h, src_8]; rfl
  · have h : x < 120 := hx
    rw [show offN 9 x = 79 + 3 * x from if_pos h, src_9]; rfl
  · have : x = 0 := by have : x < 1 := hx; omega
    subst this; rfl
  · have h : x < 9 := hx
    rw [show offN 11 x = 28 + x from if_pos h, src_11 h]; rfl
