/-! ===== seats and the bye, on both sides ===== -/
theorem inB_iff {b : Mm} (ok : BookOK b) {p : Nat} (hp : p < nP b) : (b 2 p = (1 : Int32)) ↔ inB b p = true := by
  have h := ok.inn hp
  unfold inB
  rw [h.1, decide_eq_true_iff]
  exact nI_eq (b := 1) (by omega) (by omega)
def nS (b : Mm) : Nat := (sAll b).length
theorem x_seatAll {σ b : Mm} (h : Bk σ b) (ok : BookOK b) (ht : TabOK b σ) : ∃ τ, f_X1_seatAll σ = some τ ∧ (∀ k, k ≠ 60 → k ≠ 61 → τ k = σ k) ∧ Laid (τ 60) (sAll b) ∧ τ 61 = fun _ => nI (nS b) := by
  have hP := ok.P12
  unfold f_X1_seatAll
  rw [Option.bind_some]
  refine wh2_inv (nP b) (fun k τ => (∀ j, j ≠ 60 → j ≠ 61 → τ j = σ j) ∧ Laid (τ 60) (sK b k) ∧ τ 61 = fun _ => nI (sK b k).length) (fun k => nI k) _ (fun k hk τ hI => ?_) (fun τ hI r => ?_) 5000 (by omega) (sc σ 61 0) ⟨fun j h1 h2 => sc_ne h2, Laid.nil, by rw [sc_eq']; rfl⟩
  · obtain ⟨t0, t1, t2⟩ := hI
    have hb : Bk τ b := fun j hj => by rw [t0 j (by omega) (by omega)]; exact h j hj
    have es : τ 58 k = nI (stN b k) := by rw [t0 58 (by omega) (by omega)]; exact ht.2 k hk
    have hs := stN_lt hk
    have hl := sK_len b k
    by_cases hi : inB b (stN b k) = true
    · refine ⟨sc (us τ 60 (sK b k).length (nI (stN b k))) 61 (nI ((sK b k).length + 1)), ⟨fun j h1 h2 => ?_, ?_, ?_⟩, fun r => ?_⟩
      · rw [sc_ne h2, us_ne h1, t0 j h1 h2]
      · rw [sK_succ, if_pos hi, sc_ne (by omega)]
        refine Laid.push t1 (fun i hi2 => ?_) us_at
        exact us_off (Or.inr hi2)
      · rw [sc_eq', sK_succ, if_pos hi, List.length_append]; rfl
      · unfold f_X1_seatAll_s7
        rw [Option.bind_some, hb 0 (by omega), ok.P, if_neg (nI_ge hk (by omega)), row_at (by omega) (by omega), Option.bind_some, es, row_at (by omega) (by omega), Option.bind_some, hb 2 (by omega), if_pos ((inB_iff ok hs).mpr hi), Option.bind_some, t2, row_put (by omega) (by omega), Option.bind_some, Option.bind_some, us_ne (by omega), t2, Option.bind_some, show nI (sK b k).length + (1 : Int32) = nI ((sK b k).length + 1) from nI_1 _, show nI k + (1 : Int32) = nI (k + 1) from nI_1 k]
    · refine ⟨τ, ⟨t0, ?_, ?_⟩, fun r => ?_⟩
      · rw [sK_succ, if_neg hi, List.append_nil]; exact t1
      · rw [sK_succ, if_neg hi, List.append_nil]; exact t2
      · unfold f_X1_seatAll_s7
        rw [Option.bind_some, hb 0 (by omega), ok.P, if_neg (nI_ge hk (by omega)), row_at (by omega) (by omega), Option.bind_some, es, row_at (by omega) (by omega), Option.bind_some, hb 2 (by omega), if_neg (fun z => hi ((inB_iff ok hs).mp z)), show nI k + (1 : Int32) = nI (k + 1) from nI_1 k]
  · obtain ⟨t0, t1, t2⟩ := hI
    have hb : Bk τ b := fun j hj => by rw [t0 j (by omega) (by omega)]; exact h j hj
    refine ⟨τ, ?_, t0, t1, t2⟩
    unfold f_X1_seatAll_s7
    rw [Option.bind_some, hb 0 (by omega), ok.P, if_pos (nI_le (Nat.le_refl _) (by omega))]
theorem byesN_le {b : Mm} (ok : BookOK b) (p : Nat) : byesN b p ≤ 20 := by
  have h1 := sm_le (f := fun r => if b 6 r = nI p then 1 else 0) (c := 1) (n := nD b) (fun k _ => by split <;> omega)
  have := ok.D20
  unfold byesN
  omega
theorem forfN_le {b : Mm} (ok : BookOK b) (p : Nat) : forfN b p ≤ 20 := by
  have h1 := sm_le (f := forfF b p) (c := 1) (n := nD b) (fun k _ => by unfold forfF; (repeat' split) <;> omega)
  have := ok.D20
  unfold forfN
  omega
theorem odd_test {n : Nat} (h : n < 2147483648) : (nz (2 : Int32) (nI n - nI n / (2 : Int32) * (2 : Int32))) = some (nI (n % 2)) := by
  unfold nz
  rw [if_neg (by decide), show (2 : Int32) = nI 2 from rfl, pk_rem h (by omega) (by omega)]
theorem x_seatOfBye {σ b : Mm} (h : Bk σ b) (ok : BookOK b) (ht : TabOK b σ) (hL : Laid (σ 60) (sAll b)) (hn : σ 61 = fun _ => nI (nS b)) (h1 : 1 ≤ nS b) : f_X1_seatOfBye σ = some (nI (match fnd (fun i => noB b ((sAll b).getD i 0)) (nS b) with | none => nS b - 1 | some j => j)) := by
  have hP := ok.P12
  have hS : nS b ≤ nP b := sK_len b (nP b)
  have hmem : ∀ i, i < nS b → ∃ p, p = (sAll b).getD i 0 ∧ p < nP b ∧ σ 60 i = nI p := by
    intro i hi
    have e : (sAll b)[i]? = some ((sAll b)[i]'hi) := List.getElem?_eq_getElem hi
    refine ⟨(sAll b)[i]'hi, by simp [List.getD, e], (sK_mem (Nat.le_refl _) (List.getElem_mem hi)).1, hL i _ e⟩
  have step : ∀ i, i < nS b → ∀ r : Int32 → Option Int32, f_X1_seatOfBye_s7 σ r (nI i) = if noB b ((sAll b).getD i 0) then some (nI i) else r (nI i + (-1 : Int32)) := by
    intro i hi r
    obtain ⟨p, e1, hp, e2⟩ := hmem i hi
    obtain ⟨-, -, -, -, a4, a5, -⟩ := ht.1 p hp
    have b1 := byesN_le ok p
    have b2 := forfN_le ok p
    unfold f_X1_seatOfBye_s7
    rw [if_neg (nI_pos (by omega)), row_at (by omega) (by omega), Option.bind_some, e2, row_at (by omega) (by omega), Option.bind_some, a4, ← e1]
    unfold noB
    by_cases z1 : byesN b p = 0
    · rw [if_pos (by rw [z1]; rfl), row_at (by omega) (by omega), Option.bind_some, a5]
      by_cases z2 : forfN b p = 0
      · rw [if_pos (by rw [z2]; rfl), if_pos (by simp [z1, z2])]
      · rw [if_neg (nI_ne0 (by omega) (by omega)), if_neg (by simp [z2])]
    · rw [if_neg (nI_ne0 (by omega) (by omega)), if_neg (by simp [z1])]
  have st0 : σ 61 0 - (1 : Int32) = nI (nS b - 0) - 1 := by rw [hn]; rfl
  have e1 : ∀ k, k < nS b → nI (nS b - k) - 1 = nI (nS b - 1 - k) := fun k hk => by rw [show nS b - k = (nS b - 1 - k) + 1 by omega, nI_pred]
  have e2 : ∀ k, k < nS b → nI (nS b - 1 - k) + (-1 : Int32) = nI (nS b - (k + 1)) - 1 := fun k hk => by rw [show nS b - (k + 1) = nS b - 1 - k by omega, Int32.sub_eq_add_neg]
  unfold f_X1_seatOfBye
  rw [st0]
  cases hf : fnd (fun i => noB b ((sAll b).getD i 0)) (nS b) with
  | none =>
    refine wh1_seq (nS b) (fun k => nI (nS b - k) - 1) _ (fun k hk r => ?_) (fun r => ?_) 5000 (by omega)
    · rw [e1 k hk, step _ (by omega), fnd_none hf _ (by omega), e2 k hk]; rfl
    · unfold f_X1_seatOfBye_s7 f_X1_seatOfBye_j56
      rw [Nat.sub_self, if_pos (by decide), hn]
      show some (nI (nS b) - 1) = some (nI (nS b - 1))
      rw [show (1 : Int32) = nI 1 from rfl, pk_sub h1]
  | some j =>
    obtain ⟨hj, hq⟩ := fnd_some hf
    have hlast : ∀ i, j < i → i < nS b → noB b ((sAll b).getD i 0) = false := by
      have gen : ∀ n, ∀ j, fnd (fun i => noB b ((sAll b).getD i 0)) n = some j → ∀ i, j < i → i < n → noB b ((sAll b).getD i 0) = false := by
        intro n
        induction n with
        | zero => intro j hh i _ hi; omega
        | succ n ih =>
          intro j hh i h1 h2
          have e : fnd (fun i => noB b ((sAll b).getD i 0)) (n + 1) = if noB b ((sAll b).getD n 0) then some n else fnd (fun i => noB b ((sAll b).getD i 0)) n := rfl
          rw [e] at hh
          by_cases q : noB b ((sAll b).getD n 0) = true
          · rw [if_pos q] at hh; cases hh; omega
          · rw [if_neg q] at hh
            by_cases z : i = n
            · rw [z]; exact Bool.eq_false_iff.mpr q
            · exact ih j hh i h1 (by omega)
      exact gen _ j hf
    refine wh1_seq (nS b - 1 - j) (fun k => nI (nS b - k) - 1) _ (fun k hk r => ?_) (fun r => ?_) 5000 (by omega)
    · rw [e1 k (by omega), step _ (by omega), hlast _ (by omega) (by omega), e2 k (by omega)]; rfl
    · rw [e1 _ (by omega), show nS b - 1 - (nS b - 1 - j) = j by omega, step j hj, if_pos hq]
theorem seat_eq {b : Mm} (h1 : ¬ nS b % 2 = 0) : ∃ j p, (match fnd (fun i => noB b ((sAll b).getD i 0)) (nS b) with | none => nS b - 1 | some j => j) = j ∧ j < nS b ∧ (sAll b)[j]? = some p ∧ byeO b = some p ∧ seatL b = (sAll b).eraseIdx j := by
  have hpos : 1 ≤ nS b := by omega
  have hl := fnd_last (noB b) (nS b) (sAll b) rfl
  have hgl : (sAll b).getLast? = (sAll b)[nS b - 1]? := List.getLast?_eq_getElem?
  have fin : ∀ j p, (sAll b)[j]? = some p → byeO b = some p → seatL b = (sAll b).eraseIdx j := by
    intro j p hp hb
    unfold seatL
    rw [hb, erase_filter _ j p (sK_nodup b) hp]
  have hne : ¬ (sAll b).length % 2 = 0 := h1
  cases hf : fnd (fun i => noB b ((sAll b).getD i 0)) (nS b) with
  | none =>
    rw [hf] at hl
    have hj : nS b - 1 < (sAll b).length := by show nS b - 1 < nS b; omega
    have hp : (sAll b)[nS b - 1]? = some ((sAll b)[nS b - 1]'hj) := List.getElem?_eq_getElem hj
    have hb : byeO b = some ((sAll b)[nS b - 1]'hj) := by
      unfold byeO
      rw [if_neg hne, hl]
      show (sAll b).getLast? = _
      rw [hgl, hp]
    exact ⟨nS b - 1, _, rfl, by omega, hp, hb, fin _ _ hp hb⟩
  | some j =>
    rw [hf] at hl
    have hj := (fnd_some hf).1
    have hp : (sAll b)[j]? = some ((sAll b)[j]'hj) := List.getElem?_eq_getElem hj
    have hb : byeO b = some ((sAll b)[j]'hj) := by
      unfold byeO
      rw [if_neg hne, hl]
      show some ((sAll b).getD j 0) = _
      rw [List.getD, hp]
      rfl
    exact ⟨j, _, rfl, hj, hp, hb, fin _ _ hp hb⟩
def nQ (b : Mm) : Nat := (seatL b).length
theorem x_giveBye {σ b : Mm} (h : Bk σ b) (ok : BookOK b) (ht : TabOK b σ) (hL : Laid (σ 60) (sAll b)) (hn : σ 61 = fun _ => nI (nS b)) : ∃ τ, f_X1_giveBye σ = some τ ∧ (∀ k, k < 60 ∨ 62 < k → τ k = σ k) ∧ Laid (τ 60) (seatL b) ∧ τ 61 = (fun _ => nI (nQ b)) ∧ τ 62 = fun _ => i5 (byeO b) := by
  have hP := ok.P12
  have hS : nS b ≤ nP b := sK_len b (nP b)
  unfold f_X1_giveBye
  rw [Option.bind_some, Option.bind_some, sc_ne (by omega), hn, odd_test (by omega), Option.bind_some]
  by_cases h0 : nS b % 2 = 0
  · have hb : byeO b = none := by unfold byeO; rw [if_pos (show (sAll b).length % 2 = 0 from h0)]
    rw [h0, if_pos (by decide)]
    refine ⟨_, rfl, fun k hk => sc_ne (by omega), ?_, ?_, ?_⟩
    · rw [sc_ne (by omega), seatL_none hb]; exact hL
    · rw [sc_ne (by omega), hn]; unfold nQ; rw [seatL_none hb]; rfl
    · rw [sc_eq', hb]; rfl
  · obtain ⟨j, p, e1, e2, e3, e4, e5⟩ := seat_eq h0
    have hQ : nQ b = nS b - 1 := by unfold nQ; rw [e5, List.length_eraseIdx, if_pos (show j < (sAll b).length from e2)]; rfl
    have ht' : TabOK b (sc σ 62 (-5 : Int32)) := ht.cong (fun k _ _ => sc_ne (by omega))
    have hb' : Bk (sc σ 62 (-5 : Int32)) b := h.sc (by omega)
    rw [if_neg (by rw [show nS b % 2 = 1 by omega]; decide), x_seatOfBye hb' ok ht' (by rw [sc_ne (by omega)]; exact hL) (by rw [sc_ne (by omega)]; exact hn) (by omega), Option.bind_some, e1, row_at (by omega) (by omega), Option.bind_some, sc_ne (by omega), hL j p e3, Option.bind_some, Option.bind_some, sc_ne (by omega), sc_ne (by omega), hn, Option.bind_some]
    have em : nI (nS b) - (1 : Int32) = nI (nQ b) := by rw [hQ, show (1 : Int32) = nI 1 from rfl, pk_sub (by omega)]
    have es : wh2 f_X1_giveBye_s45 5000 (sc (sc (sc σ 62 (-5 : Int32)) 62 (nI p)) 61 (nI (nS b) - (1 : Int32))) (nI j) = wh2 f_X1_giveBye_s45 5000 (sc (sc (sc σ 62 (-5 : Int32)) 62 (nI p)) 61 (nI (nQ b))) (nI (j + 0)) := by rw [em]; rfl
    show ∃ τ, wh2 f_X1_giveBye_s45 5000 (sc (sc (sc σ 62 (-5 : Int32)) 62 (nI p)) 61 (nI (nS b) - (1 : Int32))) (nI j) = some τ ∧ _
    rw [es]
    refine wh2_inv (nQ b - j) (fun k τ => (∀ z, z ≠ 60 → τ z = (sc (sc (sc σ 62 (-5 : Int32)) 62 (nI p)) 61 (nI (nQ b))) z) ∧ ∀ i, τ 60 i = if j ≤ i ∧ i < j + k then σ 60 (i + 1) else σ 60 i) (fun k => nI (j + k)) _ (fun k hk τ hI => ?_) (fun τ hI r => ?_) 5000 (by omega) _ ⟨fun _ _ => rfl, fun i => by rw [if_neg (by omega), sc_ne (by omega), sc_ne (by omega), sc_ne (by omega)]⟩
    · obtain ⟨t0, t1⟩ := hI
      have c61 : τ 61 0 = nI (nQ b) := by rw [t0 61 (by omega), sc_eq']
      refine ⟨us τ 60 (j + k) (σ 60 (j + k + 1)), ⟨fun z hz => (us_ne hz).trans (t0 z hz), fun i => ?_⟩, fun r => ?_⟩
      · rw [us_read]
        by_cases hi : i = j + k
        · rw [if_pos ⟨rfl, hi⟩, if_pos (by omega), hi]
        · rw [if_neg (fun z => hi z.2), t1]
          by_cases h2 : j ≤ i ∧ i < j + k
          · rw [if_pos h2, if_pos (by omega)]
          · rw [if_neg h2, if_neg (by omega)]
      · unfold f_X1_giveBye_s45
        rw [Option.bind_some, c61, if_neg (nI_ge (by omega) (by omega)), show nI (j + k) + (1 : Int32) = nI (j + k + 1) from nI_1 _, row_at (by omega) (by omega), Option.bind_some, t1, if_neg (by omega), row_put (by omega) (by omega), Option.bind_some]
        rfl
    · obtain ⟨t0, t1⟩ := hI
      have c61 : τ 61 0 = nI (nQ b) := by rw [t0 61 (by omega), sc_eq']
      refine ⟨τ, ?_, fun k hk => ?_, fun i q hq => ?_, ?_, ?_⟩
      · unfold f_X1_giveBye_s45
        rw [Option.bind_some, c61, if_pos (nI_le (by omega) (by omega))]
      · rw [t0 k (by omega), sc_ne (by omega), sc_ne (by omega), sc_ne (by omega)]
      · rw [e5, List.getElem?_eraseIdx] at hq
        rw [t1]
        by_cases hi : i < j
        · rw [if_pos hi] at hq
          rw [if_neg (by omega)]
          exact hL i q hq
        · rw [if_neg hi] at hq
          have := (List.getElem?_eq_some_iff.mp hq).1
          rw [if_pos (show j ≤ i ∧ i < j + (nQ b - j) by rw [hQ]; have : i + 1 < nS b := this; omega)]
          exact hL (i + 1) q hq
      · rw [t0 61 (by omega), sc_eq']
      · rw [t0 62 (by omega), sc_ne (by omega), sc_eq', e4]
        rfl
