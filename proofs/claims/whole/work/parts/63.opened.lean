/-! ===== opening the round, on both sides ===== -/
def brdx (τ : Mm) (R t : Nat) (a c : Nat) : Mm := us (us (us (us τ 7 (6 * R + t) (nI a)) 8 (6 * R + t) (nI c)) 9 (6 * R + t) 0) 5 R (nI (t + 1))
theorem x_addBoard {τ : Mm} {R t a c : Nat} (h3 : τ 3 = fun _ => nI (R + 1)) (h5 : τ 5 R = nI t) (hR : R < 20) (ht : t < 6) : f_X0_addBoard τ (nI a) (nI c) = some (brdx τ R t a c) := by
  unfold f_X0_addBoard brdx
  rw [Option.bind_some, h3, nI_pred, row_at (by omega) (by omega), Option.bind_some, h5, x_boardCell, Option.bind_some, row_put (by omega) (by omega), Option.bind_some, row_put (by omega) (by omega), Option.bind_some, row_put (by omega) (by omega), Option.bind_some, row_add (by omega) (by omega), Option.bind_some, us_ne (by omega), us_ne (by omega), us_ne (by omega), h5, show nI t + (1 : Int32) = nI (t + 1) from nI_1 t]
theorem brdx_ne {τ : Mm} {R t a c k : Nat} (h : k < 5 ∨ k = 6 ∨ 9 < k) : brdx τ R t a c k = τ k := by
  unfold brdx
  rw [us_ne (by omega), us_ne (by omega), us_ne (by omega), us_ne (by omega)]
theorem brdx_opn {b τ : Mm} {t : Nat} (h : Opn b τ t) : Opn b (brdx τ (nR b) t (Ww b t) (Kk b t)) (t + 1) := by
  refine h.next ?_ (brdx_ne (by omega)) ?_ ?_ ?_
  · unfold brdx; rw [us_eq, us_ne (by omega), us_ne (by omega), us_ne (by omega)]
  · unfold brdx; rw [us_ne (by omega), us_ne (by omega), us_ne (by omega), us_eq]
  · unfold brdx; rw [us_ne (by omega), us_ne (by omega), us_eq, us_ne (by omega)]
  · unfold brdx; rw [us_ne (by omega), us_eq, us_ne (by omega), us_ne (by omega)]
theorem x_seatBoard {τ b : Mm} (ok : BookOK b) (ht : TabOK b τ) {t : Nat} (hp : Pp b t < nP b) (hq : Qq b t < nP b) (h3 : τ 3 = fun _ => nI (nR b + 1)) (h5 : τ 5 (nR b) = nI t) (hR : nR b < 20) (ht6 : t < 6) : f_X1_seatBoard τ (nI t) (nI (Pp b t)) (nI (Qq b t)) = some (brdx τ (nR b) t (Ww b t) (Kk b t)) := by
  unfold f_X1_seatBoard Ww Kk
  rw [x_hasWhite ok ht hp hq (by omega), Option.bind_some]
  by_cases z : whB b t (Pp b t) (Qq b t) = true
  · rw [if_pos z, if_pos z, if_pos z, if_neg (by decide), x_addBoard h3 h5 hR ht6, Option.bind_some]
  · rw [if_neg z, if_neg z, if_neg z, if_pos rfl, x_addBoard h3 h5 hR ht6, Option.bind_some]
theorem opn_0 {b τ : Mm} (h5 : τ 5 = upd (b 5) (nR b) 0) (h6 : τ 6 = upd (b 6) (nR b) (i5 (byeO b))) (h7 : τ 7 = b 7) (h8 : τ 8 = b 8) (h9 : τ 9 = b 9) : Opn b τ 0 := by
  intro k k1 k2
  have e : k = 5 ∨ k = 6 ∨ k = 7 ∨ k = 8 ∨ k = 9 := by omega
  rcases e with e | e | e | e | e <;> subst e
  · exact h5
  · exact h6
  · exact h7
  · exact h8
  · exact h9
theorem newB_bk {b τ : Mm} (h : Opn b τ (nQ b / 2)) (h3 : τ 3 = fun _ => nI (nR b + 1)) (h4 : τ 4 = fun _ => 1) (ho : ∀ k, k < 12 → k < 3 ∨ 9 < k → τ k = b k) : Bk τ (newB b) := by
  intro k hk
  unfold newB
  by_cases e4 : k = 4
  · subst e4; rw [sc_eq', h4]
  · rw [sc_ne e4]
    by_cases e3 : k = 3
    · subst e3; rw [sc_eq', h3]
    · rw [sc_ne e3]
      by_cases e : 5 ≤ k ∧ k ≤ 9
      · exact h k e.1 e.2
      · rw [ho k hk (by omega)]
        unfold opn
        rw [if_neg (by omega), if_neg (by omega), if_neg (by omega), if_neg (by omega), if_neg (by omega)]
theorem x_openRound {σ0 σ b : Mm} (h : Bk σ b) (ok : BookOK b) (ht : TabOK b σ) (hA : Arr b σ0 σ) (hR : nR b < 20) (hv : (val b (2 ^ nQ b - 1)).1 ≠ none) : ∃ τ, f_X1_openRound σ = some τ ∧ Bk τ (newB b) ∧ ∀ k, 12 ≤ k → τ k = σ k := by
  have hn : nQ b ≤ 12 := Nat.le_trans (nQ_le b) ok.P12
  have h4 := pw_lt hn
  obtain ⟨a0, a60, a61, a62, a64, a63, aT⟩ := hA
  unfold f_X1_openRound f_X0_startRound
  rw [Option.bind_some, a62, Option.bind_some, h 3 (by omega), ok.R, row_put (by omega) (by omega), Option.bind_some, Option.bind_some, us_ne (by omega), h 3 (by omega), ok.R, row_put (by omega) (by omega), Option.bind_some, Option.bind_some, us_ne (by omega), us_ne (by omega), h 3 (by omega), ok.R, Option.bind_some, Option.bind_some, Option.bind_some, show nI (nR b) + (1 : Int32) = nI (nR b + 1) from nI_1 _]
  have e61 : sc (sc (us (us σ 5 (nR b) 0) 6 (nR b) (i5 (byeO b))) 3 (nI (nR b + 1))) 4 1 61 = fun _ => nI (nQ b) := by rw [sc_ne (by omega), sc_ne (by omega), us_ne (by omega), us_ne (by omega)]; exact a61
  rw [x_wholeSet hn e61, Option.bind_some]
  refine wh3_inv (nQ b / 2) (fun t τ => Opn b τ t ∧ (τ 3 = fun _ => nI (nR b + 1)) ∧ (τ 4 = fun _ => 1) ∧ ∀ k, k < 3 ∨ 9 < k → τ k = σ k) (fun t => nI (setN b t)) (fun t => nI t) _ (fun t htt τ hI => ?_) (fun τ hI r => ?_) 5000 (by omega) _ ⟨opn_0 ?_ ?_ ?_ ?_ ?_, ?_, ?_, fun k hk => ?_⟩
  · obtain ⟨t0, t3, t4, t1⟩ := hI
    obtain ⟨q1, q2, q3, ⟨v, q4⟩, q5, q6, q7, q8, -⟩ := pick_ok ok hv htt
    have c61 : τ 61 = fun _ => nI (nQ b) := by rw [t1 61 (by omega)]; exact a61
    have hT : TabOK b τ := ht.cong (fun k k1 _ => t1 k (by omega))
    have hA' : ∃ σ0, Arr b σ0 τ := ⟨τ, fun _ _ => rfl, by rw [t1 60 (by omega)]; exact a60, c61, by rw [t1 62 (by omega)]; exact a62, by rw [t1 64 (by omega)]; exact a64, fun i j h1 h2 => by rw [t1 63 (by omega)]; exact a63 i j h1 h2, fun s h1 h2 h3 => by rw [t1 64 (by omega), t1 65 (by omega)]; exact aT s h1 h2 h3⟩
    have e5 : τ 5 (nR b) = nI t := by rw [t0 5 (by omega) (by omega)]; exact upd_at
    refine ⟨brdx τ (nR b) t (Ww b t) (Kk b t), ⟨brdx_opn t0, by rw [brdx_ne (by omega)]; exact t3, by rw [brdx_ne (by omega)]; exact t4, fun k hk => by rw [brdx_ne (by omega)]; exact t1 k hk⟩, fun r => ?_⟩
    have s1 : τ 60 (low (setN b t)) = nI (Pp b t) := by rw [t1 60 (by omega)]; exact a60 _ _ (seat_at (show lo b t < nQ b by omega))
    have s2 : τ 60 (mateN b (setN b t)) = nI (Qq b t) := by rw [t1 60 (by omega)]; exact a60 _ _ (seat_at q6)
    have hl12 : low (setN b t) < 12 := by have : lo b t < 12 := by omega
                                          exact this
    have hm12 : mateN b (setN b t) < 12 := by have : hi b t < 12 := by omega
                                              exact this
    unfold f_X1_openRound_s18
    rw [Option.bind_some, c61, show nz (2 : Int32) (nI (nQ b) / (2 : Int32)) = some (nI (nQ b / 2)) by unfold nz; rw [if_neg (by decide), show (2 : Int32) = nI 2 from rfl, pk_div (by omega) (by omega) (by omega)], Option.bind_some, if_neg (nI_ge htt (by omega)), x_firstSeat q1 (by omega), Option.bind_some, x_earliestMate ok hA' q1 q2 q3 q4, Option.bind_some, row_at hl12 (by omega), Option.bind_some, row_at hm12 (by omega), Option.bind_some, s1, s2, x_seatBoard ok hT (seat_lt (by omega)) (seat_lt q6) t3 e5 hR (by omega), Option.bind_some, x_without hl12 hm12, Option.bind_some, show nI t + (1 : Int32) = nI (t + 1) from nI_1 t]
    rfl
  · obtain ⟨t0, t3, t4, t1⟩ := hI
    refine ⟨τ, ?_, newB_bk t0 t3 t4 (fun k hk h2 => by rw [t1 k h2]; exact h k hk), fun k hk => t1 k (by omega)⟩
    unfold f_X1_openRound_s18
    rw [Option.bind_some, t1 61 (by omega), a61, show nz (2 : Int32) (nI (nQ b) / (2 : Int32)) = some (nI (nQ b / 2)) by unfold nz; rw [if_neg (by decide), show (2 : Int32) = nI 2 from rfl, pk_div (by omega) (by omega) (by omega)], Option.bind_some, if_pos (nI_le (Nat.le_refl _) (by omega))]
  · rw [sc_ne (by omega), sc_ne (by omega), us_ne (by omega), us_eq, h 5 (by omega)]
  · rw [sc_ne (by omega), sc_ne (by omega), us_eq, us_ne (by omega), h 6 (by omega)]
  · rw [sc_ne (by omega), sc_ne (by omega), us_ne (by omega), us_ne (by omega), h 7 (by omega)]
  · rw [sc_ne (by omega), sc_ne (by omega), us_ne (by omega), us_ne (by omega), h 8 (by omega)]
  · rw [sc_ne (by omega), sc_ne (by omega), us_ne (by omega), us_ne (by omega), h 9 (by omega)]
  · rw [sc_ne (by omega), sc_eq']
  · rw [sc_eq']
  · rw [sc_ne (by omega), sc_ne (by omega), us_ne (by omega), us_ne (by omega)]
/-! books that agree on all that was done -/
theorem Sm.cong {b c : Mm} {k j m : Nat} (h : Sm b k j m) (e : c k j = b k j) : Sm c k j m := by
  have e2 : gN c k j = gN b k j := by unfold gN; rw [e]
  unfold Sm
  rw [e2, e]
  exact h
def Agr (b c : Mm) : Prop := (∀ k, k < 5 ∨ k = 10 ∨ k = 11 → c k = b k) ∧ (∀ r, r < nR b → c 5 r = b 5 r ∧ c 6 r = b 6 r) ∧ ∀ d, d < 6 * nR b → c 7 d = b 7 d ∧ c 8 d = b 8 d ∧ c 9 d = b 9 d
theorem fnd_cong {q q' : Nat → Bool} : ∀ {n : Nat}, (∀ i, i < n → q i = q' i) → fnd q n = fnd q' n
  | 0, _ => rfl
  | n + 1, h => by
    show (if q n then some n else fnd q n) = (if q' n then some n else fnd q' n)
    rw [h n (Nat.lt_succ_self _), fnd_cong (fun i hi => h i (by omega))]
theorem Agr.P {b c : Mm} (h : Agr b c) : nP c = nP b := by unfold nP gN; rw [h.1 0 (by omega)]
theorem Agr.R {b c : Mm} (h : Agr b c) : nR c = nR b := by unfold nR gN; rw [h.1 3 (by omega)]
theorem Agr.O {b c : Mm} (h : Agr b c) : nO c = nO b := by unfold nO gN; rw [h.1 4 (by omega)]
theorem Agr.D {b c : Mm} (h : Agr b c) : nD c = nD b := by unfold nD; rw [h.R, h.O]
theorem Agr.B {b c : Mm} (h : Agr b c) {r : Nat} (hr : r < nR b) : nB c r = nB b r := by unfold nB gN; rw [(h.2.1 r hr).1]
theorem Agr.w {b c : Mm} (h : Agr b c) {d : Nat} (hd : d < 6 * nR b) : wN c d = wN b d ∧ kN c d = kN b d ∧ oN c d = oN b d := by
  obtain ⟨e1, e2, e3⟩ := h.2.2 d hd
  unfold wN kN oN gN
  rw [e1, e2, e3]
  exact ⟨rfl, rfl, rfl⟩
theorem Agr.pls {b c : Mm} (h : Agr b c) (ok : BookOK b) {p r : Nat} (hr : r < nR b) : pl c p r = pl b p r := by
  have h6 := ok.B6 hr
  have hb : brd c p r = brd b p r := by
    unfold brd
    rw [h.B hr, fnd_cong (q := onB c p r) (q' := onB b p r) (fun i hi => by
      obtain ⟨e1, e2, -⟩ := h.w (d := 6 * r + i) (by omega)
      unfold onB
      rw [e1, e2])]
  cases hx : brd b p r with
  | none =>
    rw [hx] at hb
    have e1 : pl c p r = none := by unfold pl; rw [hb]
    have e2 : pl b p r = none := by unfold pl; rw [hx]
    rw [e1, e2]
  | some d =>
    rw [hx] at hb
    obtain ⟨i, hi, e, -⟩ := brd_some hx
    rw [pl_of hb, pl_of hx, (h.w (d := d) (by omega)).2.2]
theorem Agr.bal {b c : Mm} (h : Agr b c) (ok : BookOK b) (p : Nat) : balI c p = balI b p := by
  have e : ∀ r, r < nD b → pl c p r = pl b p r := fun r hr => h.pls ok (Nat.lt_of_lt_of_le hr ok.DR)
  have e1 : playedN c p = playedN b p := by
    unfold playedN
    rw [h.D]
    exact sm_cong (fun k hk => by unfold plF; rw [e k hk])
  have e2 : blacksN c p = blacksN b p := by
    unfold blacksN
    rw [h.D]
    refine sm_cong (fun k hk => ?_)
    have hkR := Nat.lt_of_lt_of_le hk ok.DR
    cases hx : pl b p k with
    | none => rw [plF_none hx, plF_none ((e k hk).trans hx)]
    | some d =>
      obtain ⟨i, hi, e3, -⟩ := brd_some (pl_some hx).1
      have h6 := ok.B6 hkR
      rw [plF_some hx, plF_some ((e k hk).trans hx), (h.w (d := d) (by omega)).2.1]
  unfold balI
  rw [e1, e2]
theorem Agr.lats {b c : Mm} (h : Agr b c) (ok : BookOK b) (p : Nat) : lat c p = lat b p := by
  have key : ∀ n, n ≤ nD b → latL c p n = latL b p n := by
    intro n
    induction n with
    | zero => intro _; rfl
    | succ n ih =>
      intro hn
      have hnR : n < nR b := Nat.lt_of_lt_of_le hn ok.DR
      have e := h.pls ok (p := p) hnR
      cases hx : pl b p n with
      | none => rw [latL_none hx, latL_none (e.trans hx)]; exact ih (by omega)
      | some d =>
        obtain ⟨i, hi, e3, -⟩ := brd_some (pl_some hx).1
        have h6 := ok.B6 hnR
        rw [latL_some hx, latL_some (e.trans hx), (h.w (d := d) (by omega)).1]
  show latL c p (nD c) = latL b p (nD b)
  rw [h.D]
  exact key _ (Nat.le_refl _)
