/-! ===== the class's table: opponents ===== -/
theorem x_countDone {σ b : Mm} (h : Bk σ b) (ok : BookOK b) : f_X0_countDone σ = some (nI (nD b)) := by
  have hO := ok.O1
  have hOR := ok.OR
  unfold f_X0_countDone nD
  rw [h 4 (by omega), h 3 (by omega), ok.O, ok.R]
  rcases (show nO b = 0 ∨ nO b = 1 by omega) with q | q
  · rw [q, if_pos (by decide)]; rfl
  · rw [q, if_neg (by decide), show (1 : Int32) = nI 1 from rfl, pk_sub (by omega)]
theorem neg5 {n : Nat} (h : n < 2147483648) : ¬ nI n = (-5 : Int32) := fun z => nI_pos h (by rw [z]; decide)
theorem neg1 {n : Nat} (h : n < 2147483648) : ¬ nI n = (-1 : Int32) := fun z => nI_pos h (by rw [z]; decide)
theorem metL_spec {b : Mm} {x q : Nat} : ∀ n, metL b x q n = -5 ∧ (∀ r, r < n → ∀ c, pl b x r = some c → opp b x c ≠ q) ∨ ∃ r c, r < n ∧ metL b x q n = nI r ∧ pl b x r = some c ∧ opp b x c = q ∧ madeL b x q n = mk b x c
  | 0 => Or.inl ⟨rfl, fun r hr => absurd hr (Nat.not_lt_zero _)⟩
  | n + 1 => by
    have ih := metL_spec (b := b) (x := x) (q := q) n
    cases h : pl b x n with
    | none =>
      rw [metL_none h, madeL_none h]
      rcases ih with ⟨a1, a2⟩ | ⟨r, c, a1, a2, a3, a4, a5⟩
      · refine Or.inl ⟨a1, fun r hr c hc => ?_⟩
        by_cases e : r = n
        · rw [e, h] at hc; cases hc
        · exact a2 r (by omega) c hc
      · exact Or.inr ⟨r, c, by omega, a2, a3, a4, a5⟩
    | some c =>
      rw [metL_some h, madeL_some h]
      by_cases e : opp b x c = q
      · rw [if_pos e, if_pos e]
        exact Or.inr ⟨n, c, Nat.lt_succ_self _, rfl, h, e, rfl⟩
      · rw [if_neg e, if_neg e]
        rcases ih with ⟨a1, a2⟩ | ⟨r, c', a1, a2, a3, a4, a5⟩
        · refine Or.inl ⟨a1, fun r hr d hd => ?_⟩
          by_cases e2 : r = n
          · rw [e2, h] at hd; cases hd; exact e
          · exact a2 r (by omega) d hd
        · exact Or.inr ⟨r, c', by omega, a2, a3, a4, a5⟩
theorem opp_two {b : Mm} (ok : BookOK b) {x r q c d : Nat} (hr : r < nR b) (hq : q < nR b) (h1 : brd b x r = some c) (h2 : brd b x q = some d) (e : opp b x c = opp b x d) : SameTwo b c d := by
  obtain ⟨-, -, -, -, -, -, n1, -, o1⟩ := cellOK ok hr h1
  obtain ⟨-, -, -, -, -, -, n2, -, o2⟩ := cellOK ok hq h2
  unfold opp at e
  unfold SameTwo
  (repeat' split at e) <;> omega
/-- whom one meets he had not met -/
theorem metL_new {b : Mm} (ok : BookOK b) {x n c : Nat} (hn : n < nR b) (h : brd b x n = some c) : metL b x (opp b x c) n = -5 := by
  rcases metL_spec (b := b) (x := x) (q := opp b x c) n with ⟨a1, -⟩ | ⟨r, d, a1, a2, a3, a4, a5⟩
  · exact a1
  · obtain ⟨p1, p2, p3⟩ := pl_some a3
    have hs := opp_two ok (show r < nR b by omega) hn p1 h a4
    obtain ⟨e, e1, e2, -⟩ := brd_some p1
    obtain ⟨f, f1, f2, -⟩ := brd_some h
    subst e2; subst f2
    exact absurd hs (ok.once a1 hn e1 f1 p2 p3)
theorem sm_point {f g : Nat → Nat} {o : Nat} : ∀ {P : Nat}, o < P → (∀ q, q < P → q ≠ o → g q = f q) → f o = 0 → sm g P = sm f P + g o
  | 0, h, _, _ => absurd h (Nat.not_lt_zero _)
  | P + 1, h, hq, h0 => by
    rw [sm_succ, sm_succ]
    by_cases e : o = P
    · subst e
      rw [sm_cong (f := g) (g := f) (fun k hk => hq k (by omega) (by omega)), h0]
      omega
    · rw [sm_point (P := P) (by omega) (fun q hq1 hq2 => hq q (by omega) hq2) h0, hq P (by omega) (Ne.symm e)]
      omega
/-- a sum over the players met is a sum over the rounds played -/
theorem sum_met {b : Mm} (ok : BookOK b) {x : Nat} (G : Nat → Nat → Nat) : ∀ n, n ≤ nD b → sm (fun q => if metL b x q n = -5 then 0 else G q (madeL b x q n)) (nP b) = sm (plF b x (fun c => G (opp b x c) (mk b x c))) n
  | 0, _ => by
    show sm (fun q => if (-5 : Int32) = -5 then 0 else _) (nP b) = 0
    have : ∀ P, sm (fun q => if (-5 : Int32) = -5 then 0 else G q (madeL b x q 0)) P = 0 := by
      intro P
      induction P with
      | zero => rfl
      | succ P ih => rw [sm_succ, ih, if_pos rfl]
    exact this _
  | n + 1, hn => by
    have ih := sum_met ok (x := x) G n (by omega)
    have hD := ok.D20
    have hnR : n < nR b := Nat.lt_of_lt_of_le (by omega) ok.DR
    rw [sm_succ, ← ih]
    cases h : pl b x n with
    | none =>
      rw [plF_none h, Nat.add_zero]
      exact sm_cong (fun q _ => by rw [metL_none h, madeL_none h])
    | some c =>
      have hb := (pl_some h).1
      have ho := (opp_lt ok hnR hb).1
      rw [plF_some h]
      have e := sm_point (f := fun q => if metL b x q n = -5 then 0 else G q (madeL b x q n)) (g := fun q => if metL b x q (n + 1) = -5 then 0 else G q (madeL b x q (n + 1))) (o := opp b x c) ho (fun q _ hq => by
        rw [metL_some h, madeL_some h, if_neg (Ne.symm hq), if_neg (Ne.symm hq)]) (by
        rw [if_pos (metL_new ok hnR hb)])
      rw [e]
      congr 1
      rw [metL_some h, madeL_some h, if_pos rfl, if_pos rfl, if_neg (neg5 (by omega))]
/-- the least that an opponent has -/
def fewL (b : Mm) (x : Nat) : Nat → Int32
  | 0 => -1
  | k + 1 => if met b x k = -5 then fewL b x k else if fewL b x k = -1 then nI (pts b k) else if nI (pts b k) < fewL b x k then nI (pts b k) else fewL b x k
theorem fewL_spec {b : Mm} (ok : BookOK b) {x : Nat} : ∀ k, (fewL b x k = -1 ∧ ∀ q, q < k → met b x q = -5) ∨ ∃ m, fewL b x k = nI m ∧ m ≤ 40 ∧ (∃ q, q < k ∧ met b x q ≠ -5 ∧ pts b q = m) ∧ ∀ q, q < k → met b x q ≠ -5 → m ≤ pts b q
  | 0 => Or.inl ⟨rfl, fun q h => absurd h (Nat.not_lt_zero _)⟩
  | k + 1 => by
    have ih := fewL_spec ok (x := x) k
    have hk40 := pts_le ok k
    have e : fewL b x (k + 1) = if met b x k = -5 then fewL b x k else if fewL b x k = -1 then nI (pts b k) else if nI (pts b k) < fewL b x k then nI (pts b k) else fewL b x k := rfl
    rw [e]
    by_cases hm : met b x k = -5
    · rw [if_pos hm]
      rcases ih with ⟨a1, a2⟩ | ⟨m, a1, a0, ⟨q, q1, q2, q3⟩, a3⟩
      · refine Or.inl ⟨a1, fun q hq => ?_⟩
        by_cases z : q = k
        · rw [z]; exact hm
        · exact a2 q (by omega)
      · refine Or.inr ⟨m, a1, a0, ⟨q, by omega, q2, q3⟩, fun z hz hz2 => ?_⟩
        by_cases y : z = k
        · rw [y] at hz2; exact absurd hm hz2
        · exact a3 z (by omega) hz2
    · rw [if_neg hm]
      rcases ih with ⟨a1, a2⟩ | ⟨m, a1, a0, ⟨q, q1, q2, q3⟩, a3⟩
      · rw [if_pos a1]
        refine Or.inr ⟨pts b k, rfl, hk40, ⟨k, Nat.lt_succ_self _, hm, rfl⟩, fun z hz hz2 => ?_⟩
        by_cases y : z = k
        · rw [y]; exact Nat.le_refl _
        · exact absurd (a2 z (by omega)) hz2
      · rw [a1, if_neg (neg1 (by omega))]
        by_cases y : pts b k < m
        · rw [if_pos (nI_lt y (by omega))]
          refine Or.inr ⟨pts b k, rfl, hk40, ⟨k, Nat.lt_succ_self _, hm, rfl⟩, fun z hz hz2 => ?_⟩
          by_cases w : z = k
          · rw [w]; exact Nat.le_refl _
          · have := a3 z (by omega) hz2
            omega
        · rw [if_neg (nI_nlt (by omega) (by omega))]
          refine Or.inr ⟨m, rfl, a0, ⟨q, by omega, q2, q3⟩, fun z hz hz2 => ?_⟩
          by_cases w : z = k
          · rw [w]; omega
          · exact a3 z (by omega) hz2
theorem leastL_spec {b : Mm} (ok : BookOK b) {x : Nat} : ∀ n, (leastL b x n = 1000000 ∧ ∀ r, r < n → pl b x r = none) ∨ ((∃ r c, r < n ∧ pl b x r = some c ∧ pts b (opp b x c) = leastL b x n) ∧ ∀ r c, r < n → pl b x r = some c → leastL b x n ≤ pts b (opp b x c))
  | 0 => Or.inl ⟨rfl, fun r h => absurd h (Nat.not_lt_zero _)⟩
  | n + 1 => by
    have ih := leastL_spec ok (x := x) n
    cases h : pl b x n with
    | none =>
      rw [leastL_none h]
      rcases ih with ⟨a1, a2⟩ | ⟨⟨r, c, a1, a2, a3⟩, a4⟩
      · refine Or.inl ⟨a1, fun r hr => ?_⟩
        by_cases e : r = n
        · rw [e]; exact h
        · exact a2 r (by omega)
      · refine Or.inr ⟨⟨r, c, by omega, a2, a3⟩, fun s d hs hd => ?_⟩
        by_cases e : s = n
        · rw [e, h] at hd; cases hd
        · exact a4 s d (by omega) hd
    | some c =>
      have h40 := pts_le ok (opp b x c)
      rw [leastL_some h]
      rcases ih with ⟨a1, a2⟩ | ⟨⟨r, d, a1, a2, a3⟩, a4⟩
      · rw [if_neg (by omega)]
        refine Or.inr ⟨⟨n, c, Nat.lt_succ_self _, h, rfl⟩, fun s d hs hd => ?_⟩
        by_cases e : s = n
        · rw [e, h] at hd; cases hd; exact Nat.le_refl _
        · rw [a2 s (by omega)] at hd; cases hd
      · by_cases y : leastL b x n ≤ pts b (opp b x c)
        · rw [if_pos y]
          refine Or.inr ⟨⟨r, d, by omega, a2, a3⟩, fun s f hs hf => ?_⟩
          by_cases e : s = n
          · rw [e, h] at hf; cases hf; exact y
          · exact a4 s f (by omega) hf
        · rw [if_neg y]
          refine Or.inr ⟨⟨n, c, Nat.lt_succ_self _, h, rfl⟩, fun s f hs hf => ?_⟩
          by_cases e : s = n
          · rw [e, h] at hf; cases hf; exact Nat.le_refl _
          · have := a4 s f (by omega) hf
            omega
theorem met_iff {b : Mm} (ok : BookOK b) {x q : Nat} : met b x q ≠ -5 ↔ ∃ r c, r < nD b ∧ pl b x r = some c ∧ opp b x c = q := by
  have hD := ok.D20
  unfold met
  rcases metL_spec (b := b) (x := x) (q := q) (nD b) with ⟨a1, a2⟩ | ⟨r, c, a1, a2, a3, a4, a5⟩
  · exact ⟨fun h => absurd a1 h, fun ⟨r, c, h1, h2, h3⟩ => absurd h3 (a2 r h1 c h2)⟩
  · exact ⟨fun _ => ⟨r, c, a1, a3, a4⟩, fun _ => by rw [a2]; exact neg5 (by omega)⟩
/-- the cut: both systems take away the same -/
theorem cut_eq {b : Mm} (ok : BookOK b) (x : Nat) : nI (oppsN b x) - (if (0 : Int32) < fewL b x (nP b) then fewL b x (nP b) else 0) = nI (cutN b x) := by
  have hD := ok.D20
  unfold cutN
  rcases fewL_spec ok (x := x) (nP b) with ⟨a1, a2⟩ | ⟨m, a1, a0, ⟨q, q1, q2, q3⟩, a3⟩
  · rcases leastL_spec ok (x := x) (nD b) with ⟨b1, b2⟩ | ⟨⟨r, c, b1, b2, b3⟩, b4⟩
    · rw [a1, if_neg (by decide), b1, if_pos (Nat.le_refl _)]
      exact Int32.sub_zero _
    · exact absurd (a2 _ (pl_opp ok b1 b2).1) ((met_iff ok).mpr ⟨r, c, b1, b2, rfl⟩)
  · obtain ⟨r0, c0, z1, z2, z3⟩ := (met_iff ok).mp q2
    rcases leastL_spec ok (x := x) (nD b) with ⟨b1, b2⟩ | ⟨⟨r, c, b1, b2, b3⟩, b4⟩
    · rw [b2 r0 z1] at z2; cases z2
    · have e1 := b4 r0 c0 z1 z2
      have e2 := a3 _ (pl_opp ok b1 b2).1 ((met_iff ok).mpr ⟨r, c, b1, b2, rfl⟩)
      rw [z3, q3] at e1
      rw [b3] at e2
      have e : leastL b x (nD b) = m := by omega
      have hs : m ≤ oppsN b x := by
        rcases leastL_sum (b := b) (p := x) (nD b) with y | y
        · omega
        · rw [e] at y; exact y
      rw [a1, e, if_neg (show ¬ (1000000 : Nat) ≤ m by omega)]
      by_cases h0 : 0 < m
      · rw [if_pos (show (0 : Int32) < nI m from nI_lt (a := 0) h0 (by omega)), pk_sub hs]
      · have : m = 0 := by omega
        subst this
        rw [if_neg (by decide), Nat.sub_zero]
        exact Int32.sub_zero _
