/-! ===== the cost of a pair, on both sides ===== -/
def ad (a c : Nat) : Nat := (a - c) + (c - a)
def smg (b : Mm) (p q : Nat) : Bool := (decide (0 < balI b p) && decide (0 < balI b q)) || (decide (balI b p < 0) && decide (balI b q < 0))
def ltE (b : Mm) (p q : Nat) : Bool := decide (lat b p ≠ -5) && decide (lat b p = lat b q)
def costN (b : Mm) (p q : Nat) : Nat := 10 * ad (pts b p) (pts b q) + (if smg b p q then 3 else 0) + (if ltE b p q then 1 else 0)
def costO (b : Mm) (p q : Nat) : Option Nat := if met b p q = -5 then some (costN b p q) else none
theorem costN_le {b : Mm} (ok : BookOK b) (p q : Nat) : costN b p q ≤ 404 := by
  have h1 := pts_le ok p
  have h2 := pts_le ok q
  unfold costN ad
  split <;> split <;> omega
theorem ad_comm (a c : Nat) : ad a c = ad c a := Nat.add_comm _ _
theorem smg_comm (b : Mm) (p q : Nat) : smg b p q = smg b q p := by
  unfold smg
  rw [Bool.and_comm (decide (0 < balI b p)), Bool.and_comm (decide (balI b p < 0))]
theorem ltE_comm (b : Mm) (p q : Nat) : ltE b p q = ltE b q p := by
  unfold ltE
  by_cases h : lat b p = lat b q
  · rw [h]
  · rw [decide_eq_false h, decide_eq_false (show ¬ lat b q = lat b p from fun z => h z.symm), Bool.and_false, Bool.and_false]
theorem costN_comm (b : Mm) (p q : Nat) : costN b p q = costN b q p := by
  unfold costN
  rw [ad_comm, smg_comm, ltE_comm]
theorem pl_comm {b : Mm} (ok : BookOK b) {p q r c : Nat} (hr : r < nR b) (h : pl b p r = some c) (ho : opp b p c = q) : pl b q r = some c ∧ opp b q c = p := by
  obtain ⟨h1, h2, h3⟩ := pl_some h
  obtain ⟨d, hd, rfl, hw⟩ := brd_some h1
  have hne := ok.WK hr hd
  have hq : (wN b (6 * r + d) = q ∨ kN b (6 * r + d) = q) ∧ opp b q (6 * r + d) = p := by
    unfold opp at ho ⊢
    by_cases z : wN b (6 * r + d) = p
    · rw [if_pos z] at ho
      exact ⟨Or.inr ho, by rw [if_neg (fun y => hne (y.trans ho.symm))]; exact z⟩
    · rw [if_neg z] at ho
      exact ⟨Or.inl ho, by rw [if_pos ho]; exact hw.resolve_left z⟩
  exact ⟨by rw [pl_of (brd_one ok hr hd hq.1), if_pos ⟨h2, h3⟩], hq.2⟩
theorem met_comm5 {b : Mm} (ok : BookOK b) {p q : Nat} : met b p q = -5 ↔ met b q p = -5 := by
  have key : ∀ p q, met b p q ≠ -5 → met b q p ≠ -5 := by
    intro p q h
    obtain ⟨r, c, h1, h2, h3⟩ := (met_iff ok).mp h
    obtain ⟨h4, h5⟩ := pl_comm ok (Nat.lt_of_lt_of_le h1 ok.DR) h2 h3
    exact (met_iff ok).mpr ⟨r, c, h1, h4, h5⟩
  exact ⟨fun h => Classical.byContradiction (fun z => key q p z h), fun h => Classical.byContradiction (fun z => key p q z h)⟩
theorem costO_comm {b : Mm} (ok : BookOK b) (p q : Nat) : costO b p q = costO b q p := by
  unfold costO
  rw [costN_comm]
  by_cases h : met b p q = -5
  · rw [if_pos h, if_pos ((met_comm5 ok).mp h)]
  · rw [if_neg h, if_neg (fun z => h ((met_comm5 ok).mpr z))]
theorem met_neg {b : Mm} (ok : BookOK b) (p q : Nat) : (met b p q < 0) ↔ met b p q = -5 := by
  have hD := ok.D20
  unfold met
  rcases metL_spec (b := b) (x := p) (q := q) (nD b) with ⟨a1, _⟩ | ⟨r, c, a1, a2, _⟩
  · rw [a1]; exact ⟨fun _ => rfl, fun _ => by decide⟩
  · rw [a2]; exact ⟨fun z => absurd z (nI_pos (by omega)), fun z => absurd z (neg5 (by omega))⟩
theorem lat_cases (b : Mm) (p : Nat) : lat b p = -5 ∨ lat b p = 0 ∨ lat b p = 1 := by
  have key : ∀ n, latL b p n = -5 ∨ latL b p n = 0 ∨ latL b p n = 1 := by
    intro n
    induction n with
    | zero => exact Or.inl rfl
    | succ n ih =>
      cases h : pl b p n with
      | none => rw [latL_none h]; exact ih
      | some c =>
        rw [latL_some h]
        by_cases z : wN b c = p
        · rw [if_pos z]; exact Or.inr (Or.inl rfl)
        · rw [if_neg z]; exact Or.inr (Or.inr rfl)
  exact key _
theorem bal_in {b : Mm} (ok : BookOK b) (p : Nat) : ∃ n, n < 61 ∧ balI b p = nI n - nI 40 := by
  have hD := ok.D20
  have h1 : playedN b p ≤ 20 := Nat.le_trans (sum_le ok (m := 1) (fun _ => Nat.le_refl _)) (by omega)
  have h2 : blacksN b p ≤ 20 := Nat.le_trans (sum_le ok (m := 1) (fun c => by split <;> omega)) (by omega)
  refine ⟨playedN b p + 40 - 2 * blacksN b p, by omega, ?_⟩
  unfold balI
  rw [show (2 : Int32) = nI 2 from rfl, pk_mul]
  have e : nI (playedN b p) = nI (playedN b p + 40 - 2 * blacksN b p) + nI (2 * blacksN b p) - nI 40 := by
    rw [nI_add, pk_sub (by omega)]
    congr 1
    omega
  rw [e]
  simp only [Int32.sub_eq_add_neg]
  rw [Int32.add_assoc, Int32.add_assoc, Int32.add_comm (nI (2 * blacksN b p)), Int32.add_assoc (-nI 40)]
  rw [show -nI (2 * blacksN b p) + nI (2 * blacksN b p) = 0 from Int32.add_left_neg _, Int32.add_zero]
theorem bal_tab : ((List.range 61).all fun n => (List.range 61).all fun m => decide (((nI n - nI 40) * (nI m - nI 40) ≤ 0) ↔ ¬ (((decide (0 < nI n - nI 40) && decide (0 < nI m - nI 40)) || (decide (nI n - nI 40 < 0) && decide (nI m - nI 40 < 0))) = true))) = true := by decide +kernel
theorem bal_mul {b : Mm} (ok : BookOK b) (p q : Nat) : (balI b p * balI b q ≤ 0) ↔ ¬ smg b p q = true := by
  obtain ⟨n, hn, en⟩ := bal_in ok p
  obtain ⟨m, hm, em⟩ := bal_in ok q
  have h := of_decide_eq_true (List.all_eq_true.mp (List.all_eq_true.mp bal_tab n (List.mem_range.mpr hn)) m (List.mem_range.mpr hm))
  unfold smg
  rw [en, em]
  exact h
theorem ad_ge {a c : Nat} (h : c ≤ a) : nI a - nI c = nI (ad a c) := by
  rw [pk_sub h]; unfold ad; congr 1; omega
theorem ad_lt {a c : Nat} (h : a < c) : -(nI a - nI c) = nI (ad a c) := by
  rw [Int32.neg_sub, pk_sub (by omega)]; unfold ad; congr 1; omega
theorem x_abs {a c : Nat} (ha : a ≤ 40) (hc : c ≤ 40) : (if 0 ≤ nI a - nI c then nI a - nI c else 0 - (nI a - nI c)) = nI (ad a c) := by
  by_cases h : c ≤ a
  · rw [if_pos (by rw [pk_sub h]; exact nI_pos' (by omega)), ad_ge h]
  · rw [if_neg (fun z => by have := pk_sneg (a := a) (b := c) (by omega) (by omega); exact absurd this (by rw [Int32.not_lt]; exact z)), Int32.zero_sub, ad_lt (by omega)]
theorem m_costOf {μ b : Mm} (h : Bk μ b) (ok : BookOK b) {p q : Nat} (hp : p < nP b) (hq : q < nP b) : f_X7_costOf μ (nI p) (nI q) = some (nI (costN b p q)) := by
  have hp1 := pts_le ok p
  have hp2 := pts_le ok q
  have j68 : ∀ S T : Nat, f_X7_costOf_j68 μ (nI p) (nI q) (nI S) (nI T) = some (nI (S + T + (if ltE b p q then 1 else 0))) := by
    intro S T
    unfold f_X7_costOf_j68 ltE
    rw [m_latestOf h ok hp, Option.bind_some]
    rcases lat_cases b p with e | e | e
    · rw [e, if_pos (by decide), show nI S + nI T = nI (S + T) from nI_add _ _]
      simp
    all_goals
      rw [e, if_neg (by decide), Option.bind_some, m_latestOf h ok hq, Option.bind_some, show nI S + nI T = nI (S + T) from nI_add _ _]
      rcases lat_cases b q with g | g | g <;> rw [g]
    · rw [if_neg (by decide), if_neg (by decide), Int32.add_zero]; rfl
    · rw [if_pos rfl, if_pos (by decide)]; exact congrArg some (nI_1 _)
    · rw [if_neg (by decide), if_neg (by decide), Int32.add_zero]; rfl
    · rw [if_neg (by decide), if_neg (by decide), Int32.add_zero]; rfl
    · rw [if_neg (by decide), if_neg (by decide), Int32.add_zero]; rfl
    · rw [if_pos rfl, if_pos (by decide)]; exact congrArg some (nI_1 _)
  have j38 : f_X7_costOf_j38 μ (nI p) (nI q) (balI b p) (balI b q) (10 : Int32) (nI (ad (pts b p) (pts b q))) = some (nI (costN b p q)) := by
    have e10 : (10 : Int32) * nI (ad (pts b p) (pts b q)) = nI (10 * ad (pts b p) (pts b q)) := by rw [show (10 : Int32) = nI 10 from rfl, pk_mul]
    unfold f_X7_costOf_j38 f_X7_costOf_j63 f_X7_costOf_j53 f_X7_costOf_j63 costN smg
    rw [e10, show (3 : Int32) = nI 3 from rfl, show f_X7_costOf_j68 μ (nI p) (nI q) (nI (10 * ad (pts b p) (pts b q))) (0 : Int32) = f_X7_costOf_j68 μ (nI p) (nI q) (nI (10 * ad (pts b p) (pts b q))) (nI 0) from rfl, j68, j68]
    by_cases a1 : balI b p ≤ 0
    · rw [if_pos a1, decide_eq_false (show ¬ 0 < balI b p by rw [Int32.not_lt]; exact a1)]
      by_cases a2 : 0 ≤ balI b p
      · rw [if_pos a2, decide_eq_false (show ¬ balI b p < 0 by rw [Int32.not_lt]; exact a2)]
        simp
      · rw [if_neg a2, decide_eq_true (show balI b p < 0 by rw [← Int32.not_le]; exact a2)]
        by_cases a3 : 0 ≤ balI b q
        · rw [if_pos a3, decide_eq_false (show ¬ balI b q < 0 by rw [Int32.not_lt]; exact a3)]
          simp
        · rw [if_neg a3, decide_eq_true (show balI b q < 0 by rw [← Int32.not_le]; exact a3)]
          simp
    · have a4 : 0 < balI b p := by rw [← Int32.not_le]; exact a1
      have a5 : 0 ≤ balI b p := Int32.le_of_lt a4
      rw [if_neg a1, decide_eq_true a4, decide_eq_false (show ¬ balI b p < 0 by rw [Int32.not_lt]; exact a5)]
      by_cases a3 : 0 < balI b q
      · rw [if_pos a3, decide_eq_true a3]
        simp
      · rw [if_neg a3, if_pos a5, decide_eq_false a3]
        simp
  unfold f_X7_costOf
  rw [m_pointsOf h ok hp, Option.bind_some, m_pointsOf h ok hq, Option.bind_some, m_balanceOf h ok hp, Option.bind_some, m_balanceOf h ok hq, Option.bind_some]
  by_cases z : pts b q ≤ pts b p
  · rw [if_pos (by rw [pk_sub z]; exact nI_pos' (by omega)), ad_ge z, j38]
  · rw [if_neg (fun y => by have := pk_sneg (a := pts b p) (b := pts b q) (by omega) (by omega); exact absurd this (by rw [Int32.not_lt]; exact y)), ad_lt (by omega), j38]
def c5 : Option Nat → Int32
  | none => -5
  | some v => nI v
theorem x_costOf {σ b : Mm} (ok : BookOK b) (ht : TabOK b σ) {p q : Nat} (hp : p < nP b) (hq : q < nP b) : f_X4_costOf σ (nI p) (nI q) = some (c5 (costO b p q)) := by
  have hP := ok.P12
  have hp1 := pts_le ok p
  have hp2 := pts_le ok q
  obtain ⟨p0, -, p2, p3, -, -, pq⟩ := ht.1 p hp
  obtain ⟨q0, -, q2, q3, -, -, -⟩ := ht.1 q hq
  have j55 : ∀ S : Nat, f_X4_costOf_j55 σ (nI p) (nI q) (nI S) = some (nI (S + (if ltE b p q then 1 else 0))) := by
    intro S
    unfold f_X4_costOf_j55 ltE
    rw [row_at (by omega) (by omega), Option.bind_some, p3]
    by_cases e : lat b p = -5
    · rw [if_pos e]; simp [e]
    · rw [if_neg e, Option.bind_some, row_at (by omega) (by omega), Option.bind_some, q3]
      by_cases g : lat b p = lat b q
      · rw [if_pos g, decide_eq_true g, decide_eq_true e]; exact congrArg some (nI_1 _)
      · rw [if_neg g, decide_eq_false g, Bool.and_false]; rfl
  unfold f_X4_costOf costO
  rw [x_haveMet (by omega) (by omega), Option.bind_some, (pq q hq).1]
  by_cases z : met b p q = -5
  · rw [if_pos z, if_pos z, if_pos rfl, show (0 : Int32) = nI 0 from rfl, x_tieOf (by omega) (by omega), Option.bind_some, x_tieOf (by omega) (by omega), Option.bind_some, p0 0 (by omega), q0 0 (by omega), show tieN b p 0 = pts b p from rfl, show tieN b q 0 = pts b q from rfl, show nI 0 = (0 : Int32) from rfl, x_abs hp1 hp2, Option.bind_some, row_at (by omega) (by omega), Option.bind_some, row_at (by omega) (by omega), Option.bind_some, p2, q2, show (10 : Int32) * nI (ad (pts b p) (pts b q)) = nI (10 * ad (pts b p) (pts b q)) by rw [show (10 : Int32) = nI 10 from rfl, pk_mul]]
    by_cases y : smg b p q = true
    · rw [if_neg (fun w => (bal_mul ok p q).mp w y), show nI (10 * ad (pts b p) (pts b q)) + (3 : Int32) = nI (10 * ad (pts b p) (pts b q) + 3) from nI_add _ 3, j55]
      unfold costN
      rw [if_pos y]
      rfl
    · rw [if_pos ((bal_mul ok p q).mpr y), j55]
      unfold costN
      rw [if_neg y, Nat.add_zero]
      rfl
  · rw [if_neg z, if_neg z, if_neg (by decide)]
    rfl
