/-! ===== pair, least and ways, on both sides ===== -/
def Keep (σ τ : Mm) : Prop := ∀ k, (12 ≤ k ∧ k < 50) ∨ 65 < k → τ k = σ k
def KeepM (μ ρ : Mm) : Prop := (∀ k, 20 < k → ρ k = μ k) ∧ ρ 12 = fun _ => 0
/-- both systems answer alike, and hold one book afterwards -/
def Both (σ μ : Mm) (x y : Option (Int32 × Mm)) : Prop := ∃ a τ ρ c, x = some (a, τ) ∧ y = some (a, ρ) ∧ Bk τ c ∧ Bk ρ c ∧ BookOK c ∧ TabOK c τ ∧ τ 64 0 = 0 ∧ Keep σ τ ∧ KeepM μ ρ
theorem m_putBoard {ρ b : Mm} (h : Bk ρ b) (ok : BookOK b) {R t p q W K : Nat} (hp : p < nP b) (hq : q < nP b) (h5 : ρ 5 R = nI t) (hR : R < 20) (ht : t < 6) (hw : W = if whB b t p q then p else q) (hk : K = if whB b t p q then q else p) : f_X7_putBoard ρ (nI R) (nI p) (nI q) = some (brdx ρ R t W K) := by
  have m6 : ((6 : Int32) * nI R) + nI t = nI (6 * R + t) := by rw [show (6 : Int32) = nI 6 from rfl, pk_mul, nI_add]
  unfold f_X7_putBoard
  rw [ald_nI (by omega) (by omega), h5, Option.bind_some, Option.bind_some, m_isWhite h ok hp hq (by omega), Option.bind_some, m6]
  unfold f_X7_putBoard_j43 f_X7_putBoard_j60 brdx
  by_cases z : whB b t p q = true
  · rw [if_pos z] at hw hk
    rw [if_pos z, if_neg (by decide), ast_nI (by omega) (by omega), Option.bind_some, if_neg (by decide), ast_nI (by omega) (by omega), Option.bind_some, ast_nI (by omega) (by omega), Option.bind_some, us_ne (by omega), us_ne (by omega), us_ne (by omega), ald_nI (by omega) (by omega), Option.bind_some, h5, show nI t + (1 : Int32) = nI (t + 1) from nI_1 t, ast_nI (by omega) (by omega), Option.bind_some, hw, hk]
  · rw [if_neg z] at hw hk
    rw [if_neg z, if_pos rfl, ast_nI (by omega) (by omega), Option.bind_some, if_pos rfl, ast_nI (by omega) (by omega), Option.bind_some, ast_nI (by omega) (by omega), Option.bind_some, us_ne (by omega), us_ne (by omega), us_ne (by omega), ald_nI (by omega) (by omega), Option.bind_some, h5, show nI t + (1 : Int32) = nI (t + 1) from nI_1 t, ast_nI (by omega) (by omega), Option.bind_some, hw, hk]
theorem whB_agr {b c : Mm} (h : Agr b c) (ok : BookOK b) (t p q : Nat) : whB c t p q = whB b t p q := by
  unfold whB
  rw [h.bal ok, h.bal ok, h.lats ok, h.lats ok]
theorem m_pairLoop {μ τ b : Mm} (h : Bk τ b) (ok : BookOK b) (hP : Plc b μ τ) (hB : Bst b τ) (hR : nR b < 20) (hv : (val b (2 ^ nQ b - 1)).1 ≠ none) : ∃ o, wh2 (f_X7_pair_s78 (nI (nR b))) 5000 (us (us τ 5 (nR b) 0) 6 (nR b) (i5 (byeO b))) (nI (2 ^ nQ b - 1)) = some o ∧ o.1 = nI (nQ b / 2) ∧ Bk o.2 (newB b) ∧ ∀ k, 12 ≤ k → o.2 k = τ k := by
  have hn : nQ b ≤ 12 := Nat.le_trans (nQ_le b) ok.P12
  have h4 := pw_lt hn
  refine wh2_inv (nQ b / 2) (fun t ρ => Opn b ρ t ∧ ∀ k, k < 5 ∨ 9 < k → ρ k = τ k) (fun t => nI (setN b t)) _ (fun t htt ρ hI => ?_) (fun ρ hI r => ?_) 5000 (by omega) _ ⟨opn_0 ?_ ?_ ?_ ?_ ?_, fun k hk => ?_⟩
  · obtain ⟨t0, t1⟩ := hI
    obtain ⟨q1, q2, q3, ⟨v, q4⟩, q5, q6, q7, q8, -⟩ := pick_ok ok hv htt
    have hA := opn_agr b t
    have hbo : Bk ρ (opn b t) := fun k hk => by
      by_cases e : 5 ≤ k ∧ k ≤ 9
      · exact t0 k e.1 e.2
      · rw [t1 k (by omega), opn_ne (by omega)]; exact h k hk
    obtain ⟨a0, a15, a16, a17, a18⟩ := hP
    have hP' : Plc b ρ ρ := ⟨fun _ _ => rfl, by rw [t1 15 (by omega)]; exact a15, by rw [t1 16 (by omega)]; exact a16, by rw [t1 17 (by omega)]; exact a17, by rw [t1 18 (by omega)]; exact a18⟩
    have hB' : Bst b ρ := fun s hs => by rw [t1 19 (by omega), t1 20 (by omega)]; exact hB s hs
    have s1 : ρ 16 (low (setN b t)) = nI (Pp b t) := by rw [t1 16 (by omega)]; exact a16 _ _ (seat_at (show lo b t < nQ b by omega))
    have s2 : ρ 16 (mateN b (setN b t)) = nI (Qq b t) := by rw [t1 16 (by omega)]; exact a16 _ _ (seat_at q6)
    have hl12 : low (setN b t) < 12 := by have : lo b t < 12 := by omega
                                          exact this
    have hm12 : mateN b (setN b t) < 12 := by have : hi b t < 12 := by omega
                                              exact this
    have hPp : Pp b t < nP b := seat_lt (by omega)
    have hQq : Qq b t < nP b := seat_lt q6
    refine ⟨brdx ρ (nR b) t (Ww b t) (Kk b t), ⟨brdx_opn t0, fun k hk => by rw [brdx_ne (by omega)]; exact t1 k hk⟩, fun r => ?_⟩
    unfold f_X7_pair_s78
    rw [if_neg (nI_ne0 (by omega) (by omega)), m_leastBit q1 (by omega), Option.bind_some, m_earliestWith ok hP' hB' q1 q2 q4, Option.bind_some, ald_nI hl12 (by omega), Option.bind_some, ald_nI hm12 (by omega), Option.bind_some, s1, s2, m_putBoard hbo (hA.ok ok) (W := Ww b t) (K := Kk b t) (by rw [hA.P]; exact hPp) (by rw [hA.P]; exact hQq) (by rw [t0 5 (by omega) (by omega)]; exact upd_at) hR (by omega) (by rw [whB_agr hA ok]; rfl) (by rw [whB_agr hA ok]; rfl), Option.bind_some, m_two hl12 hm12]
    rfl
  · obtain ⟨t0, t1⟩ := hI
    refine ⟨(nI (nQ b / 2), sc (sc ρ 3 (nI (nR b + 1))) 4 1), ?_, rfl, ?_, fun k hk => ?_⟩
    · unfold f_X7_pair_s78
      rw [setN_last ok hv, if_pos (show nI 0 = (0 : Int32) from rfl)]
      unfold f_X7_pair_j130
      rw [Option.bind_some, t1 3 (by omega), h 3 (by omega), ok.R, Option.bind_some, Option.bind_some, sc_ne (by omega), sc_ne (by omega), ald_nI (by omega) (by omega), Option.bind_some, t0 5 (by omega) (by omega), show nI (nR b) + (1 : Int32) = nI (nR b + 1) from nI_1 _]
      show some (upd (b 5) (nR b) (nI (nQ b / 2)) (nR b), _) = _
      rw [upd_at]
    · show Bk (sc (sc ρ 3 (nI (nR b + 1))) 4 1) (newB b)
      refine newB_bk (fun k k1 k2 => by rw [sc_ne (by omega), sc_ne (by omega)]; exact t0 k k1 k2) (by rw [sc_ne (by omega), sc_eq']) (by rw [sc_eq']) (fun k hk h2 => ?_)
      rw [sc_ne (by omega), sc_ne (by omega), t1 k (by omega)]
      exact h k hk
    · show sc (sc ρ 3 (nI (nR b + 1))) 4 1 k = τ k
      rw [sc_ne (by omega), sc_ne (by omega), t1 k (by omega)]
  · rw [us_ne (by omega), us_eq, h 5 (by omega)]
  · rw [us_eq, us_ne (by omega), h 6 (by omega)]
  · rw [us_ne (by omega), us_ne (by omega), h 7 (by omega)]
  · rw [us_ne (by omega), us_ne (by omega), h 8 (by omega)]
  · rw [us_ne (by omega), us_ne (by omega), h 9 (by omega)]
  · rw [us_ne (by omega), us_ne (by omega)]
theorem Both.same {σ μ b : Mm} {x y : Option (Int32 × Mm)} {a : Int32} (h : Bk σ b) (hm : Bk μ b) (ok : BookOK b) (ht : TabOK b σ) (h0 : σ 64 0 = 0) (hx : x = some (a, σ)) (hy : y = some (a, sc μ 12 0)) : Both σ μ x y :=
  ⟨a, σ, sc μ 12 0, b, hx, hy, h, hm.sc (by omega), ok, ht, h0, fun _ _ => rfl, fun k hk => sc_ne (by omega), sc_eq'⟩
theorem m_wrongPairing {μ b : Mm} (h : Bk μ b) (ok : BookOK b) : f_X7_wrongPairing μ = some (if nO b = 1 then -3 else if 2 ≤ nS b then 0 else -2) := by
  have hS : nS b ≤ nP b := sK_len b (nP b)
  have hP := ok.P12
  have hO := ok.O1
  unfold f_X7_wrongPairing
  rw [h 4 (by omega), ok.O]
  by_cases z : nO b = 1
  · rw [if_pos (by rw [z]; rfl), if_pos z]
  · rw [if_neg (show ¬ nI (nO b) = (1 : Int32) from fun y => z ((nI_eq (b := 1) (by omega) (by omega)).mp y)), if_neg z, m_manyIn h ok, Option.bind_some]
    by_cases y : 2 ≤ nS b
    · rw [if_pos y, if_pos (show (2 : Int32) ≤ nI (nS b) from nI_le (a := 2) y (by omega))]
    · rw [if_neg y, if_neg (show ¬ (2 : Int32) ≤ nI (nS b) from nI_ge (b := 2) (by omega) (by omega))]
theorem c9_neg (o : Option Nat) : c9 o = (-9 : Int32) ∨ ∃ v, o = some v := by
  cases o with
  | none => exact Or.inl rfl
  | some v => exact Or.inr ⟨v, rfl⟩
theorem m_full {μ τ b : Mm} (ok : BookOK b) (hP : Plc b μ τ) (hB : Bst b τ) : ((1 : Int32) <<< (τ 15 0 &&& 31)) - (1 : Int32) = nI (2 ^ nQ b - 1) ∧ ald 4096 (τ 19) (nI (2 ^ nQ b - 1)) = some (c6 (val b (2 ^ nQ b - 1)).1) ∧ ald 4096 (τ 20) (nI (2 ^ nQ b - 1)) = some (nI (val b (2 ^ nQ b - 1)).2) := by
  have hn : nQ b ≤ 12 := Nat.le_trans (nQ_le b) ok.P12
  have h4 := pw_lt hn
  have hpos : 1 ≤ 2 ^ nQ b := Nat.one_le_two_pow
  obtain ⟨-, a15, -⟩ := hP
  refine ⟨by rw [a15, whole_tab _ (by omega)], ?_, ?_⟩
  · rw [ald_nI (by omega) (by omega), (hB _ (by omega)).1]
  · rw [ald_nI (by omega) (by omega), (hB _ (by omega)).2]
theorem x_full {σ τ b : Mm} (ok : BookOK b) (hA : Arr b σ τ) (h65 : τ 65 0 = 1) (hpos : 1 ≤ nQ b) : f_X1_leastCost τ = some (c9 (val b (2 ^ nQ b - 1)).1) ∧ f_X1_countWays τ = some (nI (val b (2 ^ nQ b - 1)).2) := by
  have hn : nQ b ≤ 12 := Nat.le_trans (nQ_le b) ok.P12
  have h4 := pw_lt hn
  have h2 : 2 ^ 1 ≤ 2 ^ nQ b := Nat.pow_le_pow_right (by omega) hpos
  obtain ⟨-, -, a61, -, -, -, aT⟩ := hA
  obtain ⟨e1, e2⟩ := aT (2 ^ nQ b - 1) (by omega) (by omega) (rch_full hn)
  unfold f_X1_leastCost f_X1_countWays
  rw [x_wholeSet hn a61, Option.bind_some, Option.bind_some, row_at (by omega) (by omega), row_at (by omega) (by omega), Option.bind_some, Option.bind_some, e1, e2]
  exact ⟨rfl, rfl⟩
theorem nQ_pos {b : Mm} (h : 2 ≤ nS b) : 1 ≤ nQ b := by
  by_cases z : nS b % 2 = 0
  · have hb : byeO b = none := by unfold byeO; rw [if_pos (show (sAll b).length % 2 = 0 from z)]
    unfold nQ
    rw [seatL_none hb]
    show 1 ≤ nS b
    omega
  · obtain ⟨j, p, -, e2, -, -, e5⟩ := seat_eq z
    unfold nQ
    rw [e5, List.length_eraseIdx, if_pos (show j < (sAll b).length from e2)]
    show 1 ≤ nS b - 1
    omega
theorem arr_keep {σ τ b : Mm} (hA : Arr b σ τ) : Keep σ τ := fun k hk => hA.1 k (by omega)
theorem plc_keep {μ ρ b : Mm} (hP : Plc b (sc μ 12 0) ρ) : KeepM μ ρ := ⟨fun k hk => by rw [hP.1 k (by omega), sc_ne (by omega)], by rw [hP.1 12 (by omega), sc_eq']⟩
