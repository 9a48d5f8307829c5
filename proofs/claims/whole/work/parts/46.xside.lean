/-! ===== the class's table: one side of a board ===== -/
theorem us_read {σ : Mm} {k i : Nat} {v : Int32} {k' j : Nat} : us σ k i v k' j = if k' = k ∧ j = i then v else σ k' j := by
  by_cases h : k' = k ∧ j = i
  · obtain ⟨rfl, rfl⟩ := h
    rw [if_pos ⟨rfl, rfl⟩, us_at]
  · rw [if_neg h]
    refine us_off ?_
    by_cases hk : k' = k
    · exact Or.inr (fun q => h ⟨hk, q⟩)
    · exact Or.inl hk
theorem e9 (x t : Nat) : (nI x * (9 : Int32)) + nI t = nI (9 * x + t) := by rw [show (9 : Int32) = nI 9 from rfl, pk_mul, nI_add, Nat.mul_comm]
theorem e12 (x t : Nat) : (nI x * (12 : Int32)) + nI t = nI (12 * x + t) := by rw [show (12 : Int32) = nI 12 from rfl, pk_mul, nI_add, Nat.mul_comm]
theorem e6 (x t : Nat) : (nI x * (6 : Int32)) + nI t = nI (6 * x + t) := by rw [show (6 : Int32) = nI 6 from rfl, pk_mul, nI_add, Nat.mul_comm]
theorem x_addTie {σ : Mm} {x t : Nat} {v : Int32} (hx : x < 12) (ht : t ≤ 8) : f_X4_addTie σ (nI x) (nI t) v = some (us σ 50 (9 * x + t) (σ 50 (9 * x + t) + v)) := by
  unfold f_X4_addTie
  rw [e9, row_add (by omega) (by omega)]
  rfl
theorem x_tieOf {σ : Mm} {x t : Nat} (hx : x < 12) (ht : t ≤ 8) : f_X4_tieOf σ (nI x) (nI t) = some (σ 50 (9 * x + t)) := by
  unfold f_X4_tieOf
  rw [e9, row_at (by omega) (by omega)]
  rfl
def outX (b : Mm) (x c : Nat) : Nat := if wN b c = x then oN b c else if oN b c = 1 then 3 else if oN b c = 3 then 1 else if oN b c = 4 then 5 else if oN b c = 5 then 4 else oN b c
def pf (o : Nat) : Nat := if o = 1 then 2 else if o = 4 then 2 else if o = 2 then 1 else 0
theorem outX_le {b : Mm} {x c : Nat} (h : oN b c ≤ 6) : outX b x c ≤ 6 := by unfold outX; (repeat' split) <;> omega
theorem pf_out {b : Mm} {x c : Nat} : pf (outX b x c) = mk b x c := by
  unfold pf outX mk
  (repeat' split) <;> omega
theorem lit_eq {n : Nat} (m : Nat) (hn : n < 2147483648) (hm : m < 2147483648) : (nI n = nI m) ↔ n = m := nI_eq hn hm
theorem x_pointsFor {o : Nat} (h : o ≤ 6) : f_X6_pointsFor (nI o) = some (nI (pf o)) := by
  have c1 : (nI o = (1 : Int32)) ↔ o = 1 := lit_eq 1 (by omega) (by omega)
  have c2 : (nI o = (2 : Int32)) ↔ o = 2 := lit_eq 2 (by omega) (by omega)
  have c4 : (nI o = (4 : Int32)) ↔ o = 4 := lit_eq 4 (by omega) (by omega)
  unfold f_X6_pointsFor pf
  simp only [c1, c2, c4]
  (repeat' split) <;> rfl
theorem x_over {o : Nat} (h : o ≤ 6) : f_X6_isOverTheBoard (nI o) = some (if 1 ≤ o ∧ o ≤ 3 then 1 else 0) := by
  unfold f_X6_isOverTheBoard
  by_cases h1 : o < 1
  · rw [if_pos (show nI o < (1 : Int32) from nI_lt (b := 1) h1 (by omega)), if_neg (by omega)]
  · rw [if_neg (show ¬ nI o < (1 : Int32) from nI_nlt (b := 1) (by omega) (by omega))]
    by_cases h3 : 3 < o
    · rw [if_pos (show (3 : Int32) < nI o from nI_lt (a := 3) h3 (by omega)), if_neg (by omega)]
    · rw [if_neg (show ¬ (3 : Int32) < nI o from nI_nlt (a := 3) (by omega) (by omega)), if_pos (by omega)]
theorem x_mirrored {o : Nat} (h : o ≤ 6) : f_X6_mirrored (nI o) = some (nI (if o = 1 then 3 else if o = 3 then 1 else if o = 4 then 5 else if o = 5 then 4 else o)) := by
  have c1 : (nI o = (1 : Int32)) ↔ o = 1 := lit_eq 1 (by omega) (by omega)
  have c3 : (nI o = (3 : Int32)) ↔ o = 3 := lit_eq 3 (by omega) (by omega)
  have c4 : (nI o = (4 : Int32)) ↔ o = 4 := lit_eq 4 (by omega) (by omega)
  have c5 : (nI o = (5 : Int32)) ↔ o = 5 := lit_eq 5 (by omega) (by omega)
  unfold f_X6_mirrored
  simp only [c1, c3, c4, c5]
  (repeat' split) <;> rfl
/-- a board of the book, as the class reads it -/
theorem x_boardCell (r d : Nat) : f_X0_boardCell (nI r) (nI d) = some (nI (6 * r + d)) := by unfold f_X0_boardCell; rw [e6]
theorem x_colourAt {σ b : Mm} (h : Bk σ b) (ok : BookOK b) {r d x : Nat} (hr : r < nR b) (hd : d < nB b r) (hx : x < nP b) : f_X0_colourAt σ (nI r) (nI d) (nI x) = some (if wN b (6 * r + d) = x then 0 else 1) := by
  have hP := ok.P12
  have hR := ok.R20
  have h6 := ok.B6 hr
  have hw := ok.WP hr hd
  unfold f_X0_colourAt
  rw [x_boardCell, Option.bind_some, row_at (by omega) (by omega), Option.bind_some, h 7 (by omega), ok.W hr hd]
  by_cases z : wN b (6 * r + d) = x
  · rw [if_pos (by rw [z]), if_pos z]
  · rw [if_neg (fun y => z ((nI_eq (by omega) (by omega)).mp y)), if_neg z]
theorem x_outcomeFor {σ b : Mm} (h : Bk σ b) (ok : BookOK b) {r d x : Nat} (hr : r < nR b) (hd : d < nB b r) (hx : x < nP b) : f_X0_outcomeFor σ (nI r) (nI d) (nI x) = some (nI (outX b x (6 * r + d))) := by
  have hP := ok.P12
  have hR := ok.R20
  have h6 := ok.B6 hr
  have ho := ok.o6 hr hd
  unfold f_X0_outcomeFor outX
  rw [x_boardCell, Option.bind_some, row_at (by omega) (by omega), Option.bind_some, h 9 (by omega), ok.o hr hd, x_colourAt h ok hr hd hx, Option.bind_some]
  by_cases z : wN b (6 * r + d) = x
  · rw [if_pos z, if_pos (by decide), if_pos z]
  · rw [if_neg z, if_neg (by decide), x_mirrored ho, if_neg z]
    rfl
theorem x_otherAt {σ b : Mm} (h : Bk σ b) (ok : BookOK b) {r d x : Nat} (hr : r < nR b) (hd : d < nB b r) (hx : x < nP b) : f_X0_otherAt σ (nI r) (nI d) (nI x) = some (nI (opp b x (6 * r + d))) := by
  have hP := ok.P12
  have hR := ok.R20
  have h6 := ok.B6 hr
  have hw := ok.WP hr hd
  unfold f_X0_otherAt opp
  rw [x_boardCell, Option.bind_some, row_at (by omega) (by omega), Option.bind_some, h 7 (by omega), ok.W hr hd]
  by_cases z : wN b (6 * r + d) = x
  · rw [if_pos (by rw [z]), row_at (by omega) (by omega), h 8 (by omega), ok.K hr hd, if_pos z]; rfl
  · rw [if_neg (fun y => z ((nI_eq (by omega) (by omega)).mp y)), if_neg z]; rfl
/-- what countPlayed does: the memory behind it -/
def cpd (b : Mm) (x r c : Nat) (σ : Mm) : Mm :=
  let s1 := us σ 51 x (σ 51 x + 1)
  let s2 := us s1 53 x (if wN b c = x then 0 else 1)
  let s3 := us s2 52 x (s2 52 x + (if wN b c = x then 1 else -1))
  let s4 := us s3 50 (9 * x + 5) (s3 50 (9 * x + 5) + (if wN b c = x then 0 else 1))
  let s5 := us s4 50 (9 * x + 4) (s4 50 (9 * x + 4) + (if outX b x c = 1 then 1 else 0))
  let s6 := us s5 56 (12 * x + opp b x c) (nI r)
  us s6 57 (12 * x + opp b x c) (nI (pf (outX b x c)))
theorem x_countPlayed {σ b : Mm} (h : Bk σ b) (ok : BookOK b) {r d x : Nat} (hr : r < nR b) (hd : d < nB b r) (hx : x < nP b) (hon : wN b (6 * r + d) = x ∨ kN b (6 * r + d) = x) : f_X4_countPlayed σ (nI r) (nI d) (nI x) = some (cpd b x r (6 * r + d) σ) := by
  have hP := ok.P12
  have hR := ok.R20
  have h6 := ok.B6 hr
  have ho := outX_le (b := b) (x := x) (ok.o6 hr hd)
  have hopp : opp b x (6 * r + d) < nP b := by
    unfold opp
    split
    · exact ok.KP hr hd
    · exact ok.WP hr hd
  have c1 : (nI (outX b x (6 * r + d)) = (1 : Int32)) ↔ outX b x (6 * r + d) = 1 := lit_eq 1 (by omega) (by omega)
  have l4 : (4 : Int32) = nI 4 := rfl
  have l5 : (5 : Int32) = nI 5 := rfl
  unfold f_X4_countPlayed f_X4_twoCell f_X4_countPlayed_j74 f_X4_countPlayed_j91 f_X4_countPlayed_j108
  simp only [l4, l5]
  rw [x_outcomeFor h ok hr hd hx, Option.bind_some, x_colourAt h ok hr hd hx, Option.bind_some, x_otherAt h ok hr hd hx, Option.bind_some, Option.bind_some, e12, row_add (by omega) (by omega), Option.bind_some, row_put (by omega) (by omega), Option.bind_some]
  unfold cpd
  dsimp only
  by_cases z : wN b (6 * r + d) = x
  · rw [if_pos z, if_pos (by decide), row_add (by omega) (by omega), Option.bind_some, if_neg (by decide), x_addTie (by omega) (by omega), Option.bind_some, if_pos z]
    by_cases o1 : outX b x (6 * r + d) = 1
    · rw [if_pos (c1.mpr o1), x_addTie (by omega) (by omega), Option.bind_some, row_put (by omega) (by omega), Option.bind_some, x_pointsFor ho, Option.bind_some, row_put (by omega) (by omega), if_pos o1]; rfl
    · rw [if_neg (fun q => o1 (c1.mp q)), x_addTie (by omega) (by omega), Option.bind_some, row_put (by omega) (by omega), Option.bind_some, x_pointsFor ho, Option.bind_some, row_put (by omega) (by omega), if_neg o1]; rfl
  · rw [if_neg z, if_neg (by decide), row_add (by omega) (by omega), Option.bind_some, if_pos (by decide), x_addTie (by omega) (by omega), Option.bind_some, if_neg z]
    by_cases o1 : outX b x (6 * r + d) = 1
    · rw [if_pos (c1.mpr o1), x_addTie (by omega) (by omega), Option.bind_some, row_put (by omega) (by omega), Option.bind_some, x_pointsFor ho, Option.bind_some, row_put (by omega) (by omega), if_pos o1]; rfl
    · rw [if_neg (fun q => o1 (c1.mp q)), x_addTie (by omega) (by omega), Option.bind_some, row_put (by omega) (by omega), Option.bind_some, x_pointsFor ho, Option.bind_some, row_put (by omega) (by omega), if_neg o1]; rfl
def csd (b : Mm) (x r c : Nat) (σ : Mm) : Mm :=
  let s1 := us σ 50 (9 * x) (σ 50 (9 * x) + nI (pf (outX b x c)))
  let s2 := if outX b x c = 4 then us s1 55 x (s1 55 x + 1) else s1
  if 1 ≤ outX b x c ∧ outX b x c ≤ 3 then cpd b x r c s2 else s2
theorem x_countSide {σ b : Mm} (h : Bk σ b) (ok : BookOK b) {r d x : Nat} (hr : r < nR b) (hd : d < nB b r) (hx : x < nP b) (hon : wN b (6 * r + d) = x ∨ kN b (6 * r + d) = x) : f_X4_countSide σ (nI r) (nI d) (nI x) = some (csd b x r (6 * r + d) σ) := by
  have hP := ok.P12
  have ho := outX_le (b := b) (x := x) (ok.o6 hr hd)
  have c4 : (nI (outX b x (6 * r + d)) = (4 : Int32)) ↔ outX b x (6 * r + d) = 4 := lit_eq 4 (by omega) (by omega)
  unfold f_X4_countSide f_X4_countSide_j38 csd
  dsimp only
  rw [x_outcomeFor h ok hr hd hx, Option.bind_some, x_pointsFor ho, Option.bind_some, show (0 : Int32) = nI 0 from rfl, x_addTie (by omega) (by omega), Option.bind_some, Nat.add_zero]
  by_cases o4 : outX b x (6 * r + d) = 4
  · rw [if_pos (c4.mpr o4), row_add (by omega) (by omega), Option.bind_some, x_over ho, Option.bind_some, if_pos o4]
    by_cases q : 1 ≤ outX b x (6 * r + d) ∧ outX b x (6 * r + d) ≤ 3
    · omega
    · rw [if_neg q, if_neg q, if_pos (by decide)]
  · rw [if_neg (fun q => o4 (c4.mp q)), x_over ho, Option.bind_some, if_neg o4]
    by_cases q : 1 ≤ outX b x (6 * r + d) ∧ outX b x (6 * r + d) ≤ 3
    · rw [if_pos q, if_pos q, if_neg (by decide), x_countPlayed (h.us (by omega)) ok hr hd hx hon]
      rfl
    · rw [if_neg q, if_neg q, if_pos (by decide)]
