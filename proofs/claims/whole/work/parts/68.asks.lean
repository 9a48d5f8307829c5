/-! ===== players, pairs of players and ranges, on both sides ===== -/
theorem n10 : ¬ (1 : Int32) = 0 := by decide
theorem neg_toInt {w : Int32} (h : w < 0) : w.toInt < 0 := by
  have := Int32.lt_iff_toInt_lt.mp h
  simpa using this
theorem big_toInt {w : Int32} {n : Nat} (hn : n < 2147483648) (h : nI n ≤ w) : (n : Int) ≤ w.toInt := by
  have := Int32.le_iff_toInt_le.mp h
  rw [nI_toInt (by omega)] at this
  exact this
theorem rng (w : Int32) (N : Nat) (l : Int64) (hl : l.toInt = N) (hN : N < 2147483647) : (∃ n, n ≤ N ∧ w = nI n ∧ f_X7_in w.toInt64 (0 : Int64) l = some 1) ∨ ((w < 0 ∨ (¬ w < 0 ∧ nI (N + 1) ≤ w)) ∧ f_X7_in w.toInt64 (0 : Int64) l = some 0) := by
  have hm := m_in (x := w.toInt) (lo := 0) (hi := N) (a := w.toInt64) (l := 0) (h := l) (wide w) (by decide) hl
  rcases pk_ix w (n := N + 1) (by omega) with h | h | ⟨j, hj, rfl⟩
  · refine Or.inr ⟨Or.inl h, ?_⟩
    have := neg_toInt h
    rw [hm, if_neg (by omega)]
  · have h2 := big_toInt (by omega) h
    have h0 : ¬ w < 0 := fun z => by have := neg_toInt z; omega
    refine Or.inr ⟨Or.inr ⟨h0, h⟩, ?_⟩
    rw [hm, if_neg (by omega)]
  · refine Or.inl ⟨j, by omega, rfl, ?_⟩
    rw [hm, nI_toInt (by omega), if_pos (by omega)]
theorem isPl {σ μ b : Mm} (h : Bk σ b) (hm : Bk μ b) (ok : BookOK b) (w : Int32) : (∃ p, p < nP b ∧ w = nI p ∧ f_X6_isPlayer σ w = some 1 ∧ f_X7_isPlayer μ w = some 1) ∨ (f_X6_isPlayer σ w = some 0 ∧ f_X7_isPlayer μ w = some 0) := by
  have hP := ok.P12
  have hin := m_in (x := w.toInt) (lo := 0) (hi := (nP b : Int) - 1) (a := w.toInt64) (l := 0) (h := (nI (nP b) - (1 : Int32)).toInt64) (wide w) (by decide) (by rw [wide]; exact pk_sub_toInt (a := nP b) (b := 1) (by omega) (by omega))
  have hx : f_X6_isPlayer σ w = if w < 0 then some 0 else if nI (nP b) ≤ w then some 0 else some 1 := by
    unfold f_X6_isPlayer
    rw [h 0 (by omega), ok.P]
  have hy : f_X7_isPlayer μ w = zb (if 0 ≤ w.toInt ∧ w.toInt ≤ (nP b : Int) - 1 then 1 else 0) := by
    unfold f_X7_isPlayer
    rw [hm 0 (by omega), ok.P, hin, Option.bind_some]
  rcases pk_ix w (n := nP b) (by omega) with e | e | ⟨j, hj, rfl⟩
  · refine Or.inr ⟨by rw [hx, if_pos e], ?_⟩
    have := neg_toInt e
    rw [hy, if_neg (by omega)]; rfl
  · have h2 := big_toInt (by omega) e
    have h0 : ¬ w < 0 := fun z => by have := neg_toInt z; omega
    refine Or.inr ⟨by rw [hx, if_neg h0, if_pos e], ?_⟩
    rw [hy, if_neg (by omega)]; rfl
  · refine Or.inl ⟨j, hj, rfl, by rw [hx, if_neg (nI_pos (by omega)), if_neg (nI_ge hj (by omega))], ?_⟩
    rw [hy, nI_toInt (by omega), if_pos (by omega)]; rfl
theorem areT {σ μ b : Mm} (h : Bk σ b) (hm : Bk μ b) (ok : BookOK b) (w v : Int32) : (∃ p q, p < nP b ∧ q < nP b ∧ p ≠ q ∧ w = nI p ∧ v = nI q ∧ f_X6_areTwo σ w v = some 1 ∧ f_X7_areTwo μ w v = some 1) ∨ (f_X6_areTwo σ w v = some 0 ∧ f_X7_areTwo μ w v = some 0) := by
  have hP := ok.P12
  rcases isPl h hm ok w with ⟨p, hp, rfl, a1, a2⟩ | ⟨a1, a2⟩
  · rcases isPl h hm ok v with ⟨q, hq, rfl, c1, c2⟩ | ⟨c1, c2⟩
    · by_cases e : p = q
      · refine Or.inr ⟨?_, ?_⟩
        · unfold f_X6_areTwo; rw [a1, Option.bind_some, if_neg n10, c1, Option.bind_some, if_neg n10, if_pos (by rw [e])]
        · unfold f_X7_areTwo; rw [a2, Option.bind_some, if_neg n10, c2, Option.bind_some, if_neg n10, if_pos (by rw [e])]
      · have e2 : ¬ nI p = nI q := fun z => e ((nI_eq (by omega) (by omega)).mp z)
        refine Or.inl ⟨p, q, hp, hq, e, rfl, rfl, ?_, ?_⟩
        · unfold f_X6_areTwo; rw [a1, Option.bind_some, if_neg n10, c1, Option.bind_some, if_neg n10, if_neg e2]
        · unfold f_X7_areTwo; rw [a2, Option.bind_some, if_neg n10, c2, Option.bind_some, if_neg n10, if_neg e2]
    · refine Or.inr ⟨?_, ?_⟩
      · unfold f_X6_areTwo; rw [a1, Option.bind_some, if_neg n10, c1, Option.bind_some, if_pos rfl]
      · unfold f_X7_areTwo; rw [a2, Option.bind_some, if_neg n10, c2, Option.bind_some, if_pos rfl]
  · refine Or.inr ⟨?_, ?_⟩
    · unfold f_X6_areTwo; rw [a1, Option.bind_some, if_pos rfl]
    · unfold f_X7_areTwo; rw [a2, Option.bind_some, if_pos rfl]
/-- a call of the class that only answers -/
def Ask (σ : Mm) (x : Option Int32) : Option (Int32 × Mm) := x.bind fun a => some (a, σ)
theorem Both.ask {σ μ b ρ : Mm} {x : Option Int32} {y : Option (Int32 × Mm)} {a : Int32} (h : Bk σ b) (hm : Bk μ b) (ok : BookOK b) (ht : TabOK b σ) (h0 : σ 64 0 = 0) (hx : x = some a) (hy : y = some (a, ρ)) (hr : ∀ k, k < 13 ∨ 20 < k → ρ k = sc μ 12 0 k) : Both σ μ (Ask σ x) y := by
  refine ⟨a, σ, ρ, b, by rw [hx]; rfl, hy, h, fun k hk => by rw [hr k (by omega), sc_ne (by omega)]; exact hm k hk, ok, ht, h0, fun _ _ => rfl, fun k hk => by rw [hr k (by omega), sc_ne (by omega)], by rw [hr 12 (by omega), sc_eq']⟩
theorem x_countMet {σ b : Mm} (h : Bk σ b) (ok : BookOK b) (ht : TabOK b σ) {p : Nat} (hp : p < nP b) : f_X4_countMet σ (nI p) = some (nI (playedN b p)) := by
  have hP := ok.P12
  have e : playedN b p = sm (fun q => if met b p q = -5 then 0 else 1) (nP b) := (sum_met ok (x := p) (fun _ _ => 1) (nD b) (Nat.le_refl _)).symm
  unfold f_X4_countMet
  rw [e]
  refine wh2_seq (nP b) (fun k => nI (sm (fun q => if met b p q = -5 then 0 else 1) k)) (fun k => nI k) _ (fun k hk r => ?_) (fun r => ?_) 5000 (by omega)
  · unfold f_X4_countMet_s4
    obtain ⟨-, -, -, -, -, -, pq⟩ := ht.1 p hp
    rw [h 0 (by omega), ok.P, if_neg (nI_ge hk (by omega)), x_haveMet (by omega) (by omega), Option.bind_some, (pq k hk).1, show nI k + (1 : Int32) = nI (k + 1) from nI_1 k]
    by_cases z : met b p k = -5
    · rw [if_pos z, if_pos rfl, sm_succ, if_pos z]; rfl
    · rw [if_neg z, if_neg n10, sm_succ, if_neg z, nI_1]
  · unfold f_X4_countMet_s4
    rw [h 0 (by omega), ok.P, if_pos (nI_le (Nat.le_refl _) (by omega))]
theorem nI_ne {n m : Nat} (hn : n < 2147483648) (hm : m < 2147483648) (h : n ≠ m) : ¬ nI n = nI m := fun z => h ((nI_eq hn hm).mp z)
theorem out_ne {w : Int32} {N : Nat} (hN : N < 2147483647) (h : w < 0 ∨ (¬ w < 0 ∧ nI (N + 1) ≤ w)) {n : Nat} (hn : n ≤ N) : ¬ w = nI n := by
  intro z
  subst z
  rcases h with h | ⟨-, h⟩
  · exact nI_pos (by omega) h
  · exact nI_ge (a := n) (b := N + 1) (by omega) (by omega) h
theorem of_both {σ μ b : Mm} (h : Bk σ b) (hm : Bk μ b) (ok : BookOK b) (ht : TabOK b σ) (h0 : σ 64 0 = 0) (w v : Int32) : Both σ μ (Ask σ (f_X6_of σ w v)) (f_X7_of μ w v) := by
  have hP := ok.P12
  have hm' : Bk (sc μ 12 0) b := hm.sc (by omega)
  have fin : ∀ {x : Option Int32} {y : Option (Int32 × Mm)} (a : Int32), x = some a → y = some (a, sc μ 12 0) → Both σ μ (Ask σ x) y := fun a hx hy => Both.ask h hm ok ht h0 hx hy (fun _ _ => rfl)
  rcases isPl h hm' ok w with ⟨p, hp, rfl, a1, a2⟩ | ⟨a1, a2⟩
  · obtain ⟨t0, t1, t2, t3, t4, t5, -⟩ := ht.1 p hp
    rcases rng v 8 (8 : Int64) (by decide) (by omega) with ⟨n, hn, rfl, c1⟩ | ⟨c0, c1⟩
    · unfold f_X6_of f_X7_of
      rw [a1, Option.bind_some, if_neg n10, Option.bind_some, a2, Option.bind_some, if_neg n10, c1, Option.bind_some, if_neg n10]
      have hcase : n = 0 ∨ n = 1 ∨ n = 2 ∨ n = 3 ∨ n = 4 ∨ n = 5 ∨ n = 6 ∨ n = 7 ∨ n = 8 := by omega
      rcases hcase with e | e | e | e | e | e | e | e | e <;> subst e
      · exact fin (b 1 p) (by rw [if_pos (by decide), row_at (by omega) (by omega), h 1 (by omega)]; rfl) (by rw [if_pos (by decide), ald_nI (by omega) (by omega), hm' 1 (by omega)]; rfl)
      · exact fin (b 2 p) (by rw [if_neg (by decide), if_pos (by decide), row_at (by omega) (by omega), h 2 (by omega)]; rfl) (by rw [if_neg (by decide), if_pos (by decide), ald_nI (by omega) (by omega), hm' 2 (by omega)]; rfl)
      · exact fin (nI (pts b p)) (by rw [if_neg (by decide), if_neg (by decide), if_pos (by decide), show (0 : Int32) = nI 0 from rfl, x_tieOf (by omega) (by omega), t0 0 (by omega)]; rfl) (by rw [if_neg (by decide), if_neg (by decide), if_pos (by decide), m_pointsOf hm' ok hp]; rfl)
      · exact fin (nI (playedN b p)) (by rw [if_neg (by decide), if_neg (by decide), if_neg (by decide), if_pos (by decide), row_at (by omega) (by omega), t1]; rfl) (by rw [if_neg (by decide), if_neg (by decide), if_neg (by decide), if_pos (by decide), m_playedMany hm' ok hp]; rfl)
      · exact fin (balI b p + 100) (by rw [if_neg (by decide), if_neg (by decide), if_neg (by decide), if_neg (by decide), if_pos (by decide), row_at (by omega) (by omega), t2]; rfl) (by rw [if_neg (by decide), if_neg (by decide), if_neg (by decide), if_neg (by decide), if_pos (by decide), m_balanceOf hm' ok hp]; rfl)
      · exact fin (lat b p) (by rw [if_neg (by decide), if_neg (by decide), if_neg (by decide), if_neg (by decide), if_neg (by decide), if_pos (by decide), row_at (by omega) (by omega), t3]; rfl) (by rw [if_neg (by decide), if_neg (by decide), if_neg (by decide), if_neg (by decide), if_neg (by decide), if_pos (by decide), m_latestOf hm' ok hp]; rfl)
      · exact fin (nI (byesN b p)) (by rw [if_neg (by decide), if_neg (by decide), if_neg (by decide), if_neg (by decide), if_neg (by decide), if_neg (by decide), if_pos (by decide), row_at (by omega) (by omega), t4]; rfl) (by rw [if_neg (by decide), if_neg (by decide), if_neg (by decide), if_neg (by decide), if_neg (by decide), if_neg (by decide), if_pos (by decide), m_byesOf hm' ok]; rfl)
      · exact fin (nI (forfN b p)) (by rw [if_neg (by decide), if_neg (by decide), if_neg (by decide), if_neg (by decide), if_neg (by decide), if_neg (by decide), if_neg (by decide), if_pos (by decide), row_at (by omega) (by omega), t5]; rfl) (by rw [if_neg (by decide), if_neg (by decide), if_neg (by decide), if_neg (by decide), if_neg (by decide), if_neg (by decide), if_neg (by decide), if_neg (by decide), m_forfeitsOf hm' ok hp]; rfl)
      · exact fin (nI (playedN b p)) (by rw [if_neg (by decide), if_neg (by decide), if_neg (by decide), if_neg (by decide), if_neg (by decide), if_neg (by decide), if_neg (by decide), if_neg (by decide), if_pos (by decide), x_countMet h ok ht hp]; rfl) (by rw [if_neg (by decide), if_neg (by decide), if_neg (by decide), if_neg (by decide), if_neg (by decide), if_neg (by decide), if_neg (by decide), if_pos (by decide), m_playedMany hm' ok hp]; rfl)
    · refine fin (-1) ?_ ?_
      · unfold f_X6_of
        rw [a1, Option.bind_some, if_neg n10, if_neg (show ¬ v = (0 : Int32) from out_ne (by omega) c0 (n := 0) (by omega)), if_neg (show ¬ v = (1 : Int32) from out_ne (by omega) c0 (n := 1) (by omega)), if_neg (show ¬ v = (2 : Int32) from out_ne (by omega) c0 (n := 2) (by omega)), if_neg (show ¬ v = (3 : Int32) from out_ne (by omega) c0 (n := 3) (by omega)), if_neg (show ¬ v = (4 : Int32) from out_ne (by omega) c0 (n := 4) (by omega)), if_neg (show ¬ v = (5 : Int32) from out_ne (by omega) c0 (n := 5) (by omega)), if_neg (show ¬ v = (6 : Int32) from out_ne (by omega) c0 (n := 6) (by omega)), if_neg (show ¬ v = (7 : Int32) from out_ne (by omega) c0 (n := 7) (by omega)), if_neg (show ¬ v = (8 : Int32) from out_ne (by omega) c0 (n := 8) (by omega))]
      · unfold f_X7_of
        rw [Option.bind_some, a2, Option.bind_some, if_neg n10, c1, Option.bind_some, if_pos rfl]
  · refine fin (-1) ?_ ?_
    · unfold f_X6_of; rw [a1, Option.bind_some, if_pos rfl]
    · unfold f_X7_of; rw [Option.bind_some, a2, Option.bind_some, if_pos rfl]
