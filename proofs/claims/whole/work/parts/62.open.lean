/-! ===== the round that pairing opens ===== -/
def whB (b : Mm) (t p q : Nat) : Bool := if balI b p = balI b q then (if (lat b p = 1) ↔ (lat b q = 1) then decide (t % 2 = 0) else decide (lat b p = 1)) else decide (balI b p < balI b q)
theorem x_hasWhite {σ b : Mm} (ok : BookOK b) (ht : TabOK b σ) {t p q : Nat} (hp : p < nP b) (hq : q < nP b) (htt : t < 100) : f_X1_hasWhite σ (nI t) (nI p) (nI q) = some (if whB b t p q then 1 else 0) := by
  have hP := ok.P12
  obtain ⟨-, -, p2, p3, -, -, -⟩ := ht.1 p hp
  obtain ⟨-, -, q2, q3, -, -, -⟩ := ht.1 q hq
  unfold f_X1_hasWhite whB
  rw [row_at (by omega) (by omega), Option.bind_some, row_at (by omega) (by omega), Option.bind_some, p2, q2]
  by_cases e : balI b p = balI b q
  · rw [if_pos e, if_pos e, row_at (by omega) (by omega), Option.bind_some, p3]
    unfold f_X1_hasWhite_j66 f_X1_hasWhite_j88
    rw [row_at (by omega) (by omega), Option.bind_some, q3, odd_test (by omega)]
    have g2 : t % 2 = 0 ∨ t % 2 = 1 := by omega
    rcases lat_cases b p with e1 | e1 | e1 <;> rcases lat_cases b q with e2 | e2 | e2 <;> rcases g2 with g | g <;> rw [e1, e2, g] <;> decide
  · rw [if_neg e, if_neg e]
    by_cases g : balI b q ≤ balI b p
    · rw [if_pos g, decide_eq_false (show ¬ balI b p < balI b q by rw [Int32.not_lt]; exact g)]; rfl
    · rw [if_neg g, decide_eq_true (show balI b p < balI b q by rw [← Int32.not_le]; exact g)]; rfl
theorem m_isWhite {μ b : Mm} (h : Bk μ b) (ok : BookOK b) {t p q : Nat} (hp : p < nP b) (hq : q < nP b) (htt : t < 100) : f_X7_isWhite μ (nI p) (nI q) (nI t) = some (if whB b t p q then 1 else 0) := by
  unfold f_X7_isWhite whB
  rw [m_balanceOf h ok hp, Option.bind_some, m_balanceOf h ok hq, Option.bind_some]
  by_cases e : balI b p = balI b q
  · rw [if_pos e, if_pos e, m_latestOf h ok hp, Option.bind_some]
    unfold f_X7_isWhite_j48 f_X7_isWhite_j64
    rw [m_latestOf h ok hq, Option.bind_some, odd_test (by omega)]
    have g2 : t % 2 = 0 ∨ t % 2 = 1 := by omega
    rcases lat_cases b p with e1 | e1 | e1 <;> rcases lat_cases b q with e2 | e2 | e2 <;> rcases g2 with g | g <;> rw [e1, e2, g] <;> decide
  · rw [if_neg e, if_neg e]
    by_cases g : balI b q ≤ balI b p
    · rw [if_pos g, decide_eq_false (show ¬ balI b p < balI b q by rw [Int32.not_lt]; exact g)]; rfl
    · rw [if_neg g, decide_eq_true (show balI b p < balI b q by rw [← Int32.not_le]; exact g)]; rfl
/-- the places that are left after some boards -/
def setN (b : Mm) : Nat → Nat
  | 0 => 2 ^ nQ b - 1
  | t + 1 => rm2 (setN b t) (low (setN b t)) (mateN b (setN b t))
theorem nQ_even (b : Mm) : nQ b % 2 = 0 := by
  by_cases h : nS b % 2 = 0
  · have hb : byeO b = none := by unfold byeO; rw [if_pos (show (sAll b).length % 2 = 0 from h)]
    unfold nQ
    rw [seatL_none hb]
    exact h
  · obtain ⟨j, p, -, e2, -, -, e5⟩ := seat_eq h
    unfold nQ
    rw [e5, List.length_eraseIdx, if_pos (show j < (sAll b).length from e2)]
    show (nS b - 1) % 2 = 0
    omega
theorem sets_ok {b : Mm} (ok : BookOK b) (hv : (val b (2 ^ nQ b - 1)).1 ≠ none) : ∀ t, t ≤ nQ b / 2 → setN b t < 2 ^ nQ b ∧ pc (setN b t) = nQ b - 2 * t ∧ (val b (setN b t)).1 ≠ none ∧ (setN b t = 0 ∨ Rch (nQ b) (setN b t)) := by
  have hn : nQ b ≤ 12 := Nat.le_trans (nQ_le b) ok.P12
  have h4 := pw_lt hn
  have he := nQ_even b
  have hpos : 1 ≤ 2 ^ nQ b := Nat.one_le_two_pow
  intro t
  induction t with
  | zero => exact fun _ => ⟨show 2 ^ nQ b - 1 < _ by omega, pc_full hn, hv, Or.inr (rch_full hn)⟩
  | succ t ih =>
    intro ht
    obtain ⟨i1, i2, i3, i4⟩ := ih (by omega)
    have h0 : setN b t ≠ 0 := fun z => by
      rw [z] at i2
      have : pc 0 = 0 := by decide
      omega
    obtain ⟨v, hvv⟩ := Option.ne_none_iff_exists'.mp i3
    have hR := i4.resolve_left h0
    obtain ⟨m1, m2, m3, m4⟩ := mate_spec ok (by omega) i1 hvv
    obtain ⟨m5, c, w, m6, m7, m8⟩ := sw_bit m4
    obtain ⟨p1, p2, -⟩ := low_spec (show 1 ≤ setN b t by omega) (by omega)
    have hp := pc_rm2 p1 (show mateN b (setN b t) < 12 by omega) (by omega) p2 m5
    have hr := rm2_lt (j := mateN b (setN b t)) p2
    refine ⟨show rm2 _ _ _ < _ by omega, show pc (rm2 _ _ _) = _ by omega, ?_, ?_⟩
    · show (val b (rm2 _ _ _)).1 ≠ none
      rw [m7]
      simp
    · rcases rch_rm2 hn (by omega) i1 hR m2 m5 with z | ⟨-, z⟩
      · exact Or.inl z
      · exact Or.inr z
def lo (b : Mm) (t : Nat) : Nat := low (setN b t)
def hi (b : Mm) (t : Nat) : Nat := mateN b (setN b t)
theorem pick_ok {b : Mm} (ok : BookOK b) (hv : (val b (2 ^ nQ b - 1)).1 ≠ none) {t : Nat} (ht : t < nQ b / 2) : 1 ≤ setN b t ∧ setN b t < 2 ^ nQ b ∧ Rch (nQ b) (setN b t) ∧ (∃ v, (val b (setN b t)).1 = some v) ∧ lo b t < hi b t ∧ hi b t < nQ b ∧ (setN b t).testBit (lo b t) = true ∧ (setN b t).testBit (hi b t) = true ∧ cst b (lo b t) (hi b t) ≠ none := by
  have hn : nQ b ≤ 12 := Nat.le_trans (nQ_le b) ok.P12
  have h4 := pw_lt hn
  obtain ⟨i1, i2, i3, i4⟩ := sets_ok ok hv t (by omega)
  have h0 : setN b t ≠ 0 := fun z => by
    rw [z] at i2
    have : pc 0 = 0 := by decide
    omega
  obtain ⟨v, hvv⟩ := Option.ne_none_iff_exists'.mp i3
  obtain ⟨m1, m2, m3, m4⟩ := mate_spec ok (by omega) i1 hvv
  obtain ⟨m5, c, w, m6, m7, m8⟩ := sw_bit m4
  obtain ⟨p1, p2, -⟩ := low_spec (show 1 ≤ setN b t by omega) (by omega)
  exact ⟨by omega, i1, i4.resolve_left h0, ⟨v, hvv⟩, m2, m3, p2, m5, fun z => by rw [show cst b (low (setN b t)) (mateN b (setN b t)) = none from z] at m6; cases m6⟩
theorem setN_last {b : Mm} (ok : BookOK b) (hv : (val b (2 ^ nQ b - 1)).1 ≠ none) : setN b (nQ b / 2) = 0 := by
  have hn : nQ b ≤ 12 := Nat.le_trans (nQ_le b) ok.P12
  have h4 := pw_lt hn
  have he := nQ_even b
  obtain ⟨i1, i2, -, -⟩ := sets_ok ok hv (nQ b / 2) (Nat.le_refl _)
  exact pc_0 (by omega) (by omega)
theorem set_sub {b : Mm} {t k : Nat} : ∀ d, (setN b (t + d)).testBit k = true → (setN b t).testBit k = true ∧ (1 ≤ d → k ≠ lo b t ∧ k ≠ hi b t)
  | 0, h => ⟨h, fun z => absurd z (by omega)⟩
  | d + 1, h => by
    have e : setN b (t + (d + 1)) = rm2 (setN b (t + d)) (lo b (t + d)) (hi b (t + d)) := rfl
    rw [e, rm2_bit] at h
    simp only [Bool.and_eq_true, decide_eq_true_eq] at h
    obtain ⟨ih1, ih2⟩ := set_sub d h.1.1
    refine ⟨ih1, fun _ => ?_⟩
    by_cases z : d = 0
    · subst z; exact ⟨h.1.2, h.2⟩
    · exact ih2 (by omega)
def Pp (b : Mm) (t : Nat) : Nat := seat b (lo b t)
def Qq (b : Mm) (t : Nat) : Nat := seat b (hi b t)
def Ww (b : Mm) (t : Nat) : Nat := if whB b t (Pp b t) (Qq b t) then Pp b t else Qq b t
def Kk (b : Mm) (t : Nat) : Nat := if whB b t (Pp b t) (Qq b t) then Qq b t else Pp b t
def lay (f : Nat → Int32) (R : Nat) (g : Nat → Int32) : Nat → Nat → Int32
  | 0 => f
  | t + 1 => upd (lay f R g t) (6 * R + t) (g t)
/-- the book with a round opened, while t boards are laid -/
def opn (b : Mm) (t : Nat) : Mm := fun k => if k = 5 then upd (b 5) (nR b) (nI t) else if k = 6 then upd (b 6) (nR b) (i5 (byeO b)) else if k = 7 then lay (b 7) (nR b) (fun t => nI (Ww b t)) t else if k = 8 then lay (b 8) (nR b) (fun t => nI (Kk b t)) t else if k = 9 then lay (b 9) (nR b) (fun _ => 0) t else b k
def newB (b : Mm) : Mm := sc (sc (opn b (nQ b / 2)) 3 (nI (nR b + 1))) 4 1
theorem upd_upd {f : Nat → Int32} {i : Nat} {v w : Int32} : upd (upd f i v) i w = upd f i w := by
  funext j
  unfold upd
  by_cases h : j = i
  · rw [if_pos h, if_pos h]
  · rw [if_neg h, if_neg h, if_neg h]
theorem upd_at {f : Nat → Int32} {i : Nat} {v : Int32} : upd f i v i = v := if_pos rfl
theorem upd_off {f : Nat → Int32} {i j : Nat} {v : Int32} (h : j ≠ i) : upd f i v j = f j := if_neg h
/-- rows 5 .. 9 of a memory are those of the round opened so far -/
def Opn (b τ : Mm) (t : Nat) : Prop := ∀ k, 5 ≤ k → k ≤ 9 → τ k = opn b t k
theorem Opn.next {b τ ρ : Mm} {t : Nat} (h : Opn b τ t) (h5 : ρ 5 = upd (τ 5) (nR b) (nI (t + 1))) (h6 : ρ 6 = τ 6) (h7 : ρ 7 = upd (τ 7) (6 * nR b + t) (nI (Ww b t))) (h8 : ρ 8 = upd (τ 8) (6 * nR b + t) (nI (Kk b t))) (h9 : ρ 9 = upd (τ 9) (6 * nR b + t) 0) : Opn b ρ (t + 1) := by
  intro k k1 k2
  have e : k = 5 ∨ k = 6 ∨ k = 7 ∨ k = 8 ∨ k = 9 := by omega
  rcases e with e | e | e | e | e <;> subst e
  · rw [h5, h 5 (by omega) (by omega)]; exact upd_upd
  · rw [h6, h 6 (by omega) (by omega)]; rfl
  · rw [h7, h 7 (by omega) (by omega)]; rfl
  · rw [h8, h 8 (by omega) (by omega)]; rfl
  · rw [h9, h 9 (by omega) (by omega)]; rfl
