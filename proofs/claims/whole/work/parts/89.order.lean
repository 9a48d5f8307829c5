/-! ===== order ===== -/
def obN (v : Nat) : Nat := if v = 111 then 0 else if v = 99 then 1 else if v = 98 then 2 else if v = 119 then 3 else if v = 107 then 4 else if v = 103 then 5 else if v = 100 then 6 else if v = 114 then 7 else 8
def obI (v : Nat) : Int32 := if obN v = 8 then -1 else nI (obN v)
def obJ (v : Nat) : Int32 := if obN v = 8 then -1 else nI (obN v + 1)
theorem ob_le (v : Nat) : obN v ≤ 8 := by unfold obN; (repeat' split) <;> omega
theorem ob_tab : ∀ v, v < 128 → f_J0_indexOf_0f7a4 1 (nI v) = some (obI v) := by decide +kernel
theorem ob_tabm : ∀ v, v < 128 → f_X7_tieBy (nI v) = some (obJ v) := by decide +kernel
theorem ob_inj : ∀ v, v < 128 → ∀ w, w < 128 → obN v = obN w → obN v < 8 → v = w := by decide +kernel
def pc8 (m : Nat) : Nat := (m.testBit 0).toNat + (m.testBit 1).toNat + (m.testBit 2).toNat + (m.testBit 3).toNat + (m.testBit 4).toNat + (m.testBit 5).toNat + (m.testBit 6).toNat + (m.testBit 7).toNat
theorem sb_set : ∀ m, m < 256 → ∀ t, t < 8 → (nI m ||| ((1 : Int32) <<< (nI t &&& 31))) = nI (m ||| 2 ^ t) ∧ (m ||| 2 ^ t) < 256 ∧ (m.testBit t = false → pc8 (m ||| 2 ^ t) = pc8 m + 1) := by decide +kernel
theorem sb_get : ∀ m, m < 256 → ∀ t, t < 8 → ((nI m >>> (nI t &&& 31)) &&& (1 : Int32)) = if m.testBit t then 1 else 0 := by decide +kernel
theorem pc8_le (m : Nat) : pc8 m ≤ 8 := by
  have h : ∀ b : Bool, b.toNat ≤ 1 := fun b => by cases b <;> decide
  have h0 := h (m.testBit 0)
  have h1 := h (m.testBit 1)
  have h2 := h (m.testBit 2)
  have h3 := h (m.testBit 3)
  have h4 := h (m.testBit 4)
  have h5 := h (m.testBit 5)
  have h6 := h (m.testBit 6)
  have h7 := h (m.testBit 7)
  unfold pc8
  omega
/-- x is among the first j -/
def amg (T : Nat → Nat) (x : Nat) : Nat → Bool
  | 0 => false
  | j + 1 => amg T x j || T j == x
theorem amg_of {T : Nat → Nat} {x : Nat} : ∀ j, amg T x j = true ↔ ∃ i, i < j ∧ T i = x
  | 0 => ⟨fun h => (by cases h), fun ⟨i, hi, _⟩ => absurd hi (Nat.not_lt_zero _)⟩
  | j + 1 => by
    have ih := amg_of (T := T) (x := x) j
    unfold amg
    constructor
    · intro h
      rcases (Bool.or_eq_true _ _).mp h with h | h
      · obtain ⟨i, h1, h2⟩ := ih.mp h
        exact ⟨i, by omega, h2⟩
      · exact ⟨j, by omega, by simpa using h⟩
    · rintro ⟨i, h1, h2⟩
      by_cases e : i = j
      · subst e; simp [h2]
      · have := ih.mpr ⟨i, by omega, h2⟩
        simp [this]
theorem nft : ¬ (false = true) := by decide
theorem m_isAgain {μ : Mm} {T : Nat → Nat} {k : Nat} (hk : k < 40) (h : ∀ i, i ≤ k → T i < 128 ∧ μ 21 i = nI (T i)) : f_X7_isAgain μ (nI k) = some (if amg T (T k) k then 1 else 0) := by
  unfold f_X7_isAgain
  refine wh2_seq k (fun j => if amg T (T k) j then (1 : Int32) else 0) (fun j => nI j) _ (fun j hj r => ?_) (fun r => ?_) 5000 (by omega)
  · have ej : amg T (T k) (j + 1) = (amg T (T k) j || T j == T k) := rfl
    unfold f_X7_isAgain_s4 f_X7_isAgain_j28
    rw [if_neg (nI_ge (by omega) (by omega))]
    cases z : amg T (T k) j with
    | true =>
      rw [if_pos rfl, if_neg n10, show nI j + (1 : Int32) = nI (j + 1) from nI_1 j, ej, z, Bool.true_or, if_pos rfl]
    | false =>
      rw [if_neg nft, if_pos rfl, ald_nI (by omega) (by omega), Option.bind_some, ald_nI (by omega) (by omega), Option.bind_some, (h j (by omega)).2, (h k (by omega)).2, show nI j + (1 : Int32) = nI (j + 1) from nI_1 j, ej, z, Bool.false_or]
      have t1 := (h j (by omega)).1
      have t2 := (h k (by omega)).1
      by_cases e : T j = T k
      · rw [if_pos (by rw [e]), if_pos (by simpa using e)]
      · rw [if_neg (nI_ne (by omega) (by omega) e), if_neg (by simpa using e)]
  · unfold f_X7_isAgain_s4
    rw [if_pos (nI_le (by omega) (by omega))]
    cases amg T (T k) k <;> rfl
def oRow (b : Mm) (T : Nat → Nat) (k : Nat) : Nat → Int32 := fun j => if 1 ≤ j ∧ j ≤ k then nI (obN (T (j - 1)) + 1) else b 11 j
theorem oRow_0 {b : Mm} {T : Nat → Nat} : oRow b T 0 = b 11 := by
  funext j
  unfold oRow
  rw [if_neg (by omega)]
theorem oRow_us {μ b : Mm} {T : Nat → Nat} {k : Nat} : us (st μ 11 (oRow b T k)) 11 (k + 1) (nI (obN (T k) + 1)) = st μ 11 (oRow b T (k + 1)) := by
  funext r j
  by_cases e : r = 11
  · subst e
    rw [st_eq]
    by_cases z : j = k + 1
    · subst z
      rw [us_at]
      unfold oRow
      rw [if_pos (by omega), show k + 1 - 1 = k by omega]
    · rw [us_off (Or.inr z), st_eq]
      unfold oRow
      by_cases z2 : 1 ≤ j ∧ j ≤ k
      · rw [if_pos z2, if_pos (by omega)]
      · rw [if_neg z2, if_neg (by omega)]
  · rw [us_ne e, st_ne _ _ e, st_ne _ _ e]
theorem ord_ok {b : Mm} (ok : BookOK b) {T : Nat → Nat} {n : Nat} (hn : n ≤ 8) (hT : ∀ i, i < n → obN (T i) < 8) : BookOK (sc (st b 11 (oRow b T n)) 10 (nI (n + 1))) := by
  have hk1 := ok.K1
  obtain ⟨o1, o2, o3, o4, o5, o6, o7, o8, o9, o10, o11, o12, o13, o14⟩ := ok
  have hK : nK (sc (st b 11 (oRow b T n)) 10 (nI (n + 1))) = n + 1 := gN_of (n := n + 1) sc_at (by omega)
  refine ⟨o1, o2, o3, o4, o5, o6, o7, o8, o9, o10, o11, Sm.of (n := n + 1) sc_at (by omega) (by omega), by rw [hK]; omega, fun i hi => ?_⟩
  rw [hK] at hi
  have e : sc (st b 11 (oRow b T n)) 10 (nI (n + 1)) 11 i = oRow b T n i := by rw [sc_ne (by omega), st_eq]
  by_cases z : i = 0
  · subst z
    have e0 : oRow b T n 0 = b 11 0 := if_neg (by omega)
    exact Sm.cong (o14 0 hk1) (e.trans e0)
  · have e1 : oRow b T n i = nI (obN (T (i - 1)) + 1) := if_pos (by omega)
    have := hT (i - 1) (by omega)
    exact Sm.of (n := obN (T (i - 1)) + 1) (e.trans e1) (by omega) (by omega)
theorem bk_st {σ b : Mm} (h : Bk σ b) {k : Nat} {f : Nat → Int32} : Bk (st σ k f) (st b k f) := by
  intro j hj
  by_cases e : j = k
  · subst e; rw [st_eq, st_eq]
  · rw [st_ne _ _ e, st_ne _ _ e]; exact h j hj
def seenN (T : Nat → Nat) : Nat → Nat
  | 0 => 0
  | k + 1 => seenN T k ||| 2 ^ obN (T k)
theorem seen_ok {T : Nat → Nat} {K : Nat} (h : ∀ i, i < K → T i < 128 ∧ obN (T i) < 8 ∧ amg T (T i) i = false) : ∀ k, k ≤ K → seenN T k < 256 ∧ pc8 (seenN T k) = k ∧ ∀ t, t < 8 → ((seenN T k).testBit t = true ↔ ∃ i, i < k ∧ obN (T i) = t)
  | 0, _ => ⟨(show (0 : Nat) < 256 by omega), (show pc8 0 = 0 by decide), fun t _ => ⟨fun z => (by rw [show seenN T 0 = 0 from rfl, Nat.zero_testBit] at z; cases z), fun ⟨i, hi, _⟩ => absurd hi (Nat.not_lt_zero _)⟩⟩
  | k + 1, hk => by
    obtain ⟨a1, a2, a3⟩ := seen_ok h k (by omega)
    obtain ⟨g0, g1, g2⟩ := h k (by omega)
    obtain ⟨-, s2, s3⟩ := sb_set _ a1 _ g1
    have hb : (seenN T k).testBit (obN (T k)) = false := by
      cases z : (seenN T k).testBit (obN (T k)) with
      | false => rfl
      | true =>
        obtain ⟨i, i1, i2⟩ := (a3 _ g1).mp z
        have e := ob_inj _ (h i (by omega)).1 _ g0 i2 (by rw [i2]; exact g1)
        have := (amg_of (T := T) (x := T k) k).mpr ⟨i, i1, e⟩
        rw [g2] at this
        cases this
    have e1 : seenN T (k + 1) = seenN T k ||| 2 ^ obN (T k) := rfl
    refine ⟨by rw [e1]; exact s2, by rw [e1, s3 hb, a2], fun t ht => ?_⟩
    rw [e1, Nat.testBit_or, Nat.testBit_two_pow, Bool.or_eq_true, decide_eq_true_eq, a3 t ht]
    constructor
    · rintro (⟨i, i1, i2⟩ | e)
      · exact ⟨i, by omega, i2⟩
      · exact ⟨k, by omega, e⟩
    · rintro ⟨i, i1, i2⟩
      by_cases e : i = k
      · subst e; exact Or.inr i2
      · exact Or.inl ⟨i, by omega, i2⟩
theorem order_both {σ μ b : Mm} (h : Bk σ b) (hm : Bk μ b) (ok : BookOK b) (ht : TabOK b σ) (h0 : σ 64 0 = 0) (hTp : TapeR σ μ) : BothT σ μ (f_X6_order σ) (f_X7_order μ) := by
  obtain ⟨n, t1, t2, t3, t4⟩ := hTp
  have hmz : ∀ k, k ≠ 12 → k ≠ 22 → sc (sc μ 12 0) 22 0 k = μ k := fun k k1 k2 => by rw [sc_ne k2, sc_ne k1]
  have hmb : Bk (sc (sc μ 12 0) 22 0) b := (hm.sc (by omega)).sc (by omega)
  have hm12 : sc (sc μ 12 0) 22 0 12 = fun _ => 0 := by rw [sc_ne (by omega), sc_eq']
  have tv : ∀ i, ∃ v, i < n → v < 128 ∧ σ 70 i = nI v ∧ μ 21 i = nI v := fun i => by
    by_cases hi : i < n
    · obtain ⟨g1, v, g2, g3, g4⟩ := t4 i hi
      exact ⟨v, fun _ => ⟨by omega, g4, by rw [← g1]; exact g4⟩⟩
    · exact ⟨0, fun z => absurd z hi⟩
  obtain ⟨T, hTv⟩ := Classical.axiomOfChoice tv
  obtain ⟨K, k1, k2, k3⟩ := firstB (fun i => decide (obN (T i) ≠ 8) && !amg T (T i) i) n
  have kg : ∀ i, i < K → T i < 128 ∧ obN (T i) < 8 ∧ amg T (T i) i = false := fun i hi => by
    have h' : (decide (obN (T i) ≠ 8) && !amg T (T i) i) = true := k2 i hi
    have hl := ob_le (T i)
    cases hx : amg T (T i) i with
    | true => rw [hx, Bool.not_true, Bool.and_false] at h'; cases h'
    | false =>
      rw [hx, Bool.not_false, Bool.and_true] at h'
      have := of_decide_eq_true h'
      exact ⟨(hTv i (by omega)).1, by omega, rfl⟩
  have sk := seen_ok kg
  have K8 : K ≤ 8 := by
    have := pc8_le (seenN T K)
    rw [(sk K (Nat.le_refl _)).2.1] at this
    exact this
  have bad : K < n → obN (T K) = 8 ∨ (obN (T K) < 8 ∧ amg T (T K) K = true) := fun hKn => by
    have hl := ob_le (T K)
    rcases k3 with e | e
    · omega
    · have e' : (decide (obN (T K) ≠ 8) && !amg T (T K) K) = false := e
      by_cases z : obN (T K) = 8
      · exact Or.inl z
      · refine Or.inr ⟨by omega, ?_⟩
        rw [decide_eq_true z, Bool.true_and] at e'
        cases hx : amg T (T K) K with
        | true => rfl
        | false => rw [hx] at e'; cases e'
  have x00 : ∀ q, (∀ r, f_X6_faultOfOrder_s4 σ r (nI (seenN T K)) (nI K) = some q) → f_X6_faultOfOrder σ = some q := fun q hq => by
    unfold f_X6_faultOfOrder
    refine wh2_seq K (fun k => nI (seenN T k)) (fun k => nI k) _ (fun k hk r => ?_) hq 5000 (by omega)
    obtain ⟨g1, g2, g3⟩ := kg k hk
    obtain ⟨a1, a2, a3⟩ := sk k (by omega)
    have ht' := hTv k (by omega)
    have hb : (seenN T k).testBit (obN (T k)) = false := by
      cases z : (seenN T k).testBit (obN (T k)) with
      | false => rfl
      | true =>
        obtain ⟨i, i1, i2⟩ := (a3 _ g2).mp z
        have e := ob_inj _ (kg i (by omega)).1 _ g1 i2 (by rw [i2]; exact g2)
        have := (amg_of (T := T) (x := T k) k).mpr ⟨i, i1, e⟩
        rw [g3] at this
        cases this
    unfold f_X6_faultOfOrder_s4
    rw [t2, if_neg (nI_ge (by omega) (by omega)), x_byte (by omega), Option.bind_some, ht'.2.1, i2c_tab _ g1, ob_tab _ g1, Option.bind_some]
    unfold obI
    rw [if_neg (show ¬ obN (T k) = 8 by omega), if_neg (nI_pos (by omega)), sb_get _ a1 _ g2, hb, if_neg nft, if_pos rfl, (sb_set _ a1 _ g2).1, show nI k + (1 : Int32) = nI (k + 1) from nI_1 k]
    rfl
  have y0 : ∀ q, f_X7_order_j48 (sc (sc μ 12 0) 22 0) (nI n) (nI K) = q → f_X7_order μ = q := by
    intro q hq
    unfold f_X7_order
    rw [Option.bind_some, Option.bind_some, Option.bind_some, sc_ne (show 22 ≠ 12 by omega), t3]
    refine wh2_seq K (fun _ => sc (sc μ 12 0) 22 0) (fun i => nI i) _ (fun k hk r => ?_) (fun r => ?_) 5000 (by omega)
    · obtain ⟨g1, g2, g3⟩ := kg k hk
      have ag := m_isAgain (μ := sc (sc μ 12 0) 22 0) (T := T) (k := k) (by omega) (fun i hi => ⟨(hTv i (by omega)).1, by rw [hmz 21 (by omega) (by omega)]; exact (hTv i (by omega)).2.2⟩)
      unfold f_X7_order_s17
      rw [if_neg (nI_ge (by omega) (by omega)), ald_nI (by omega) (by omega), Option.bind_some, hmz 21 (by omega) (by omega), (hTv k (by omega)).2.2, ob_tabm _ g1, Option.bind_some]
      unfold obJ
      rw [if_neg (show ¬ obN (T k) = 8 by omega), if_neg (show ¬ nI (obN (T k) + 1) ≤ (0 : Int32) from nI_nle (by omega) (by omega)), ag, Option.bind_some, g3, if_neg nft, if_pos rfl, show nI k + (1 : Int32) = nI (k + 1) from nI_1 k]
    · unfold f_X7_order_s17
      by_cases z1 : n ≤ K
      · rw [if_pos (nI_le z1 (by omega)), hq]
      · have ht' := hTv K (by omega)
        rw [if_neg (nI_ge (by omega) (by omega)), ald_nI (by omega) (by omega), Option.bind_some, hmz 21 (by omega) (by omega), ht'.2.2, ob_tabm _ ht'.1, Option.bind_some]
        unfold obJ
        rcases bad (by omega) with z | ⟨z, z2⟩
        · rw [if_pos z, if_pos (by decide), hq]
        · have ag := m_isAgain (μ := sc (sc μ 12 0) 22 0) (T := T) (k := K) (by omega) (fun i hi => ⟨(hTv i (by omega)).1, by rw [hmz 21 (by omega) (by omega)]; exact (hTv i (by omega)).2.2⟩)
          rw [if_neg (show ¬ obN (T K) = 8 by omega), if_neg (show ¬ nI (obN (T K) + 1) ≤ (0 : Int32) from nI_nle (by omega) (by omega)), ag, Option.bind_some, z2, if_pos rfl, if_neg n10, hq]
  by_cases z : K < n ∨ n = 0
  · have xf : f_X6_faultOfOrder σ = some (nI K) := x00 _ (fun r => by
      unfold f_X6_faultOfOrder_s4 f_X6_faultOfOrder_j56
      by_cases z1 : n ≤ K
      · have e : n = 0 := by omega
        have e2 : K = 0 := by omega
        rw [t2, if_pos (nI_le z1 (by omega)), e, e2, if_pos (show nI 0 = (0 : Int32) from rfl)]
        rfl
      · have ht' := hTv K (by omega)
        rw [t2, if_neg (nI_ge (by omega) (by omega)), x_byte (by omega), Option.bind_some, ht'.2.1, i2c_tab _ ht'.1, ob_tab _ ht'.1, Option.bind_some]
        unfold obI
        rcases bad (by omega) with y | ⟨y, y2⟩
        · rw [if_pos y, if_pos (by decide)]
        · obtain ⟨a1, a2, a3⟩ := sk K (Nat.le_refl _)
          obtain ⟨i, i1, i2⟩ := (amg_of (T := T) (x := T K) K).mp y2
          have hb := (a3 _ y).mpr ⟨i, i1, by rw [i2]⟩
          rw [if_neg (show ¬ obN (T K) = 8 by omega), if_neg (nI_pos (by omega)), sb_get _ a1 _ y, hb, if_pos rfl, if_neg n10])
    refine ⟨(-100 : Int32) - nI K, sc σ 71 0, sc (sc μ 12 0) 22 0, b, ?_, y0 _ ?_, h.sc (by omega), hmb, ok, ht.cong (fun k k1 k2 => sc_ne (by omega)), by rw [sc_ne (by omega)]; exact h0, fun k k1 k2 => sc_ne k2, sc_at, fun k k1 k2 => hmz k (by omega) k2, sc_at, hm12⟩
    · unfold f_X6_order f_X6_order_j22
      rw [xf, Option.bind_some, if_neg (neg5 (by omega)), Option.bind_some, if_neg (neg5 (by omega))]
    · unfold f_X7_order_j48
      by_cases z1 : K < n
      · rw [if_pos (nI_lt z1 (by omega))]
      · rw [if_neg (nI_nlt (by omega) (by omega)), if_pos (show nI n = (0 : Int32) by rw [show n = 0 by omega]; rfl)]
  · have eK : K = n := by omega
    have hn0 : n ≠ 0 := fun q => z (Or.inr q)
    have xf : f_X6_faultOfOrder σ = some (-5) := x00 _ (fun r => by
      unfold f_X6_faultOfOrder_s4 f_X6_faultOfOrder_j56
      rw [t2, if_pos (nI_le (by omega) (by omega)), if_neg (show ¬ nI n = (0 : Int32) from nI_ne0 (by omega) (by omega))])
    have okc := ord_ok ok (T := T) (n := n) (by omega) (fun i hi => (kg i (by omega)).2.1)
    have xr : f_X6_readOrder σ = some (sc (st σ 11 (oRow b T n)) 10 (nI (n + 1))) := by
      unfold f_X6_readOrder
      have e0 : wh2 f_X6_readOrder_s2 5000 σ (0 : Int32) = wh2 f_X6_readOrder_s2 5000 (st σ 11 (oRow b T 0)) (nI 0) := by
        have : st σ 11 (oRow b T 0) = σ := by
          funext r j
          by_cases e : r = 11
          · subst e; rw [st_eq, oRow_0, h 11 (by omega)]
          · rw [st_ne _ _ e]
        rw [this]; rfl
      rw [e0]
      refine wh2_seq n (fun k => st σ 11 (oRow b T k)) (fun k => nI k) _ (fun k hk r => ?_) (fun r => ?_) 5000 (by omega)
      · obtain ⟨g1, g2, g3⟩ := kg k (by omega)
        unfold f_X6_readOrder_s2
        rw [Option.bind_some, st_ne _ _ (show 71 ≠ 11 by omega), t2, if_neg (nI_ge (by omega) (by omega)), x_byte (by omega), Option.bind_some, st_ne _ _ (show 70 ≠ 11 by omega), (hTv k hk).2.1, i2c_tab _ g1, ob_tab _ g1, Option.bind_some]
        unfold obI
        rw [if_neg (show ¬ obN (T k) = 8 by omega), show nI k + (1 : Int32) = nI (k + 1) from nI_1 k, show nI (obN (T k)) + (1 : Int32) = nI (obN (T k) + 1) from nI_1 _, row_put (by omega) (by omega), Option.bind_some, oRow_us]
      · unfold f_X6_readOrder_s2 f_X6_readOrder_j48
        rw [Option.bind_some, st_ne _ _ (show 71 ≠ 11 by omega), t2, if_pos (nI_le (Nat.le_refl _) (by omega)), Option.bind_some, Option.bind_some, show nI n + (1 : Int32) = nI (n + 1) from nI_1 n]
    have hbk : Bk (sc (st σ 11 (oRow b T n)) 10 (nI (n + 1))) (sc (st b 11 (oRow b T n)) 10 (nI (n + 1))) := bk_sc (bk_st h)
    obtain ⟨τ, d1, d2, d3⟩ := x_reckon hbk okc
    have yl : wh2 (f_X7_order_s64 (nI n)) 5000 (sc (sc μ 12 0) 22 0) (0 : Int32) = some (nI (n + 1), sc (st (sc (sc μ 12 0) 22 0) 11 (oRow b T n)) 10 (nI (n + 1))) := by
      have e0 : wh2 (f_X7_order_s64 (nI n)) 5000 (sc (sc μ 12 0) 22 0) (0 : Int32) = wh2 (f_X7_order_s64 (nI n)) 5000 (st (sc (sc μ 12 0) 22 0) 11 (oRow b T 0)) (nI 0) := by
        have : st (sc (sc μ 12 0) 22 0) 11 (oRow b T 0) = sc (sc μ 12 0) 22 0 := by
          funext r j
          by_cases e : r = 11
          · subst e; rw [st_eq, oRow_0, hmb 11 (by omega)]
          · rw [st_ne _ _ e]
        rw [this]; rfl
      rw [e0]
      refine wh2_seq n (fun k => st (sc (sc μ 12 0) 22 0) 11 (oRow b T k)) (fun k => nI k) _ (fun k hk r => ?_) (fun r => ?_) 5000 (by omega)
      · obtain ⟨g1, g2, g3⟩ := kg k (by omega)
        unfold f_X7_order_s64
        rw [if_neg (nI_ge (by omega) (by omega)), ald_nI (by omega) (by omega), Option.bind_some, st_ne _ _ (show 21 ≠ 11 by omega), hmz 21 (by omega) (by omega), (hTv k hk).2.2, ob_tabm _ g1, Option.bind_some]
        unfold obJ
        rw [if_neg (show ¬ obN (T k) = 8 by omega), show nI k + (1 : Int32) = nI (k + 1) from nI_1 k, ast_nI (by omega) (by omega), Option.bind_some, oRow_us]
      · unfold f_X7_order_s64 f_X7_order_j92
        rw [if_pos (nI_le (Nat.le_refl _) (by omega)), Option.bind_some, Option.bind_some, sc_at, show nI n + (1 : Int32) = nI (n + 1) from nI_1 n]
    refine ⟨nI (n + 1), sc τ 71 0, sc (st (sc (sc μ 12 0) 22 0) 11 (oRow b T n)) 10 (nI (n + 1)), sc (st b 11 (oRow b T n)) 10 (nI (n + 1)), ?_, y0 _ ?_, fun k hk => by rw [sc_ne (by omega), d2 k (by omega)]; exact hbk k hk, bk_sc (bk_st hmb), okc, d3.cong (fun k k1 k2 => sc_ne (by omega)), by rw [sc_ne (by omega), d2 64 (by omega), sc_ne (by omega), st_ne _ _ (by omega)]; exact h0, fun k k1 k2 => by rw [sc_ne k2, d2 k (by omega), sc_ne (by omega), st_ne _ _ (by omega)], sc_at, fun k k1 k2 => by rw [sc_ne (by omega), st_ne _ _ (by omega)]; exact hmz k (by omega) k2, by rw [sc_ne (by omega), st_ne _ _ (by omega), sc_at], by rw [sc_ne (by omega), st_ne _ _ (by omega)]; exact hm12⟩
    · unfold f_X6_order f_X6_order_j22
      rw [xf, Option.bind_some, if_pos rfl, xr, Option.bind_some, d1, Option.bind_some, Option.bind_some, if_pos rfl, Option.bind_some, sc_ne (by omega), d2 10 (by omega), sc_at]
    · unfold f_X7_order_j48
      rw [if_neg (nI_nlt (by omega) (by omega)), if_neg (show ¬ nI n = (0 : Int32) from nI_ne0 (by omega) (by omega)), yl]
