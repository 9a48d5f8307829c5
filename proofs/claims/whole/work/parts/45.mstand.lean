/-! ===== the reference's standing ===== -/
/-- the tie-breaks as they are laid in a row -/
def TT (μ b : Mm) (k : Nat) : Prop := ∀ p, p < nP b → ∀ t, t ≤ 8 → μ k (9 * p + t) = nI (tieN b p t)
theorem ord_le {b : Mm} (ok : BookOK b) {i : Nat} (hi : i < nK b) : gN b 11 i ≤ 8 := (ok.ord hi).2
def gg (d : Nat → Bool) (n : Nat) : Nat → Option Nat
  | 0 => none
  | k + 1 => if d (n - 1 - k) then some (n - 1 - k) else gg d n k
theorem gg_spec (d : Nat → Bool) (n : Nat) : ∀ k, k ≤ n → (∀ i, gg d n k = some i → n - k ≤ i ∧ i < n ∧ d i = true ∧ ∀ j, n - k ≤ j → j < i → d j = false) ∧ (gg d n k = none → ∀ j, n - k ≤ j → j < n → d j = false)
  | 0, _ => ⟨fun i h => (by cases h), fun _ j h1 h2 => absurd h2 (by omega)⟩
  | k + 1, hk => by
    obtain ⟨ih1, ih2⟩ := gg_spec d n k (by omega)
    have e : gg d n (k + 1) = if d (n - 1 - k) then some (n - 1 - k) else gg d n k := rfl
    rw [e]
    by_cases q : d (n - 1 - k) = true
    · rw [if_pos q]
      exact ⟨fun i h => by cases h; exact ⟨by omega, by omega, q, fun j h1 h2 => absurd h2 (by omega)⟩, fun h => (by cases h)⟩
    · rw [if_neg q]
      have q' := Bool.eq_false_iff.mpr q
      refine ⟨fun i h => ?_, fun h j h1 h2 => ?_⟩
      · obtain ⟨a1, a2, a3, a4⟩ := ih1 i h
        refine ⟨by omega, a2, a3, fun j h1 h2 => ?_⟩
        by_cases z : j = n - 1 - k
        · rw [z]; exact q'
        · exact a4 j (by omega) h2
      · by_cases z : j = n - 1 - k
        · rw [z]; exact q'
        · exact ih2 h j (by omega) h2
theorem gg_fs (d : Nat → Bool) (n : Nat) : gg d n n = fs d n := by
  obtain ⟨h1, h2⟩ := gg_spec d n n (Nat.le_refl _)
  cases h : gg d n n with
  | none => exact (fs_eq_none (fun j hj => h2 h j (by omega) hj)).symm
  | some i =>
    obtain ⟨a1, a2, a3, a4⟩ := h1 i h
    exact (fs_eq a2 a3 (fun j hj => a4 j (by omega) hj)).symm
def difI (b : Mm) (o : Option Nat) : Int32 := match o with
  | none => -1
  | some i => nI (gN b 11 i)
theorem m_differsIn {μ b : Mm} (h : Bk μ b) (ok : BookOK b) (hT : TT μ b 13) {p q : Nat} (hp : p < nP b) (hq : q < nP b) : f_X7_differsIn μ (nI p) (nI q) = some (difI b (dfK b p q)) := by
  have hK := ok.K9
  have hK1 := ok.K1
  have hP := ok.P12
  have h0 : μ 10 0 - (1 : Int32) = nI (nK b - 0) - 1 := by rw [h 10 (by omega), ok.Kn]; rfl
  unfold f_X7_differsIn
  rw [h0]
  have e0 : (-1 : Int32) = difI b (gg (fun i => decide (tK b p i ≠ tK b q i)) (nK b) 0) := rfl
  rw [e0]
  refine wh2_seq (nK b) (fun k => difI b (gg (fun i => decide (tK b p i ≠ tK b q i)) (nK b) k)) (fun k => nI (nK b - k) - 1) _ (fun k hk r => ?_) (fun r => ?_) 5000 (by omega)
  · have e1 : nI (nK b - k) - 1 = nI (nK b - 1 - k) := by
      rw [show nK b - k = (nK b - 1 - k) + 1 by omega, nI_pred]
    have hi : nK b - 1 - k < nK b := by omega
    have ho := ok.ord hi
    have e9 : ∀ x : Nat, ((9 : Int32) * nI x) + nI (gN b 11 (nK b - 1 - k)) = nI (9 * x + gN b 11 (nK b - 1 - k)) := fun x => by rw [show (9 : Int32) = nI 9 from rfl, pk_mul, nI_add]
    unfold f_X7_differsIn_s10
    rw [e1, if_neg (nI_pos (by omega)), h 11 (by omega), ald_nI (by omega) (by omega), Option.bind_some, ho.1, e9, ald_nI (by omega) (by omega), hT p hp _ ho.2, Option.bind_some, Option.bind_some, e9, ald_nI (by omega) (by omega), hT q hq _ ho.2, Option.bind_some, Option.bind_some]
    have e2 : nI (nK b - 1 - k) + (-1 : Int32) = nI (nK b - (k + 1)) - 1 := by
      rw [show nK b - (k + 1) = nK b - 1 - k by omega, Int32.sub_eq_add_neg]
    rw [e2]
    have t1 := tie_le ok (w := gN b 11 (nK b - 1 - k)) hp
    have t2 := tie_le ok (w := gN b 11 (nK b - 1 - k)) hq
    have eg : gg (fun i => decide (tK b p i ≠ tK b q i)) (nK b) (k + 1) = if decide (tK b p (nK b - 1 - k) ≠ tK b q (nK b - 1 - k)) then some (nK b - 1 - k) else gg (fun i => decide (tK b p i ≠ tK b q i)) (nK b) k := rfl
    rw [eg]
    by_cases z : tK b p (nK b - 1 - k) = tK b q (nK b - 1 - k)
    · rw [if_pos (show nI (tieN b p (gN b 11 (nK b - 1 - k))) = nI (tieN b q (gN b 11 (nK b - 1 - k))) from congrArg nI z), if_neg (by simpa using z)]
    · rw [if_neg (show ¬ nI (tieN b p (gN b 11 (nK b - 1 - k))) = nI (tieN b q (gN b 11 (nK b - 1 - k))) from fun y => z ((nI_eq (Nat.lt_of_le_of_lt t1 (by omega)) (Nat.lt_of_le_of_lt t2 (by omega))).mp y)), if_pos (by simpa using z)]
      rfl
  · unfold f_X7_differsIn_s10
    rw [Nat.sub_self, gg_fs, if_pos (by decide)]
    rfl
theorem m_isAhead {μ b : Mm} (h : Bk μ b) (ok : BookOK b) (hT : TT μ b 13) {p q : Nat} (hp : p < nP b) (hq : q < nP b) : f_X7_isAhead μ (nI p) (nI q) = some (if ahd b p q then 1 else 0) := by
  have hP := ok.P12
  unfold f_X7_isAhead
  rw [m_differsIn h ok hT hp hq, Option.bind_some]
  cases hd : dfK b p q with
  | none =>
    rw [show difI b none = (-1 : Int32) from rfl, if_neg (by decide), ahd_none hd]
    by_cases z : p < q
    · rw [if_neg (nI_ge z (by omega)), if_pos (by simpa using z)]
    · rw [if_pos (nI_le (by omega) (by omega)), if_neg (by simpa using z)]
  | some i =>
    have hi := (dfK_some hd).1
    have ho := ok.ord hi
    have t1 := tie_le ok (w := gN b 11 i) hp
    have t2 := tie_le ok (w := gN b 11 i) hq
    have e9 : ∀ x : Nat, ((9 : Int32) * nI x) + nI (gN b 11 i) = nI (9 * x + gN b 11 i) := fun x => by rw [show (9 : Int32) = nI 9 from rfl, pk_mul, nI_add]
    rw [show difI b (some i) = nI (gN b 11 i) from rfl, if_pos (nI_pos' (by omega)), e9, ald_nI (by omega) (by omega), hT p hp _ ho.2, Option.bind_some, e9, ald_nI (by omega) (by omega), hT q hq _ ho.2, Option.bind_some, ahd_some hd]
    by_cases z : tK b q i < tK b p i
    · rw [if_neg (show ¬ nI (tieN b p (gN b 11 i)) ≤ nI (tieN b q (gN b 11 i)) from nI_ge z (by omega)), if_pos (by simpa using z)]
    · rw [if_pos (show nI (tieN b p (gN b 11 i)) ≤ nI (tieN b q (gN b 11 i)) from nI_le (Nat.not_lt.mp z) (by omega)), if_neg (by simpa using z)]
theorem m_aheadOf {μ b : Mm} (h : Bk μ b) (ok : BookOK b) (hT : TT μ b 13) {p : Nat} (hp : p < nP b) : f_X7_aheadOf μ (nI p) = some (nI (rkN b p)) := by
  have hP := ok.P12
  unfold f_X7_aheadOf rkN rk
  refine wh2_seq (nP b) (fun k => nI (sm (fun q => if ahd b q p then 1 else 0) k)) (fun k => nI k) _ (fun k hk r => ?_) (fun r => ?_) 5000 (by omega)
  · unfold f_X7_aheadOf_s4
    rw [h 0 (by omega), ok.P, if_neg (nI_ge hk (by omega)), show nI k + (1 : Int32) = nI (k + 1) from nI_1 k]
    by_cases z : k = p
    · subst z
      rw [if_pos rfl, acc_0 (by simp [ahd_irr])]
    · rw [if_neg (fun y => z ((nI_eq (by omega) (by omega)).mp y)), m_isAhead h ok hT hk hp, Option.bind_some]
      cases ha : ahd b k p with
      | false => rw [if_pos (by decide), acc_0 (by simp [ha])]
      | true => rw [if_neg (by decide), acc_1 (by simp [ha])]
  · unfold f_X7_aheadOf_s4
    rw [h 0 (by omega), ok.P, if_pos (nI_le (Nat.le_refl _) (by omega))]
/-- the rows while they are laid -/
def L13 (μ b : Mm) (n : Nat) : Mm := st μ 13 (fun x => if x < n then nI (tieN b (x / 9) (x % 9)) else μ 13 x)
theorem L13_bk {μ b : Mm} (h : Bk μ b) (n : Nat) : Bk (L13 μ b n) b := h.st (by omega)
theorem L13_0 (μ b : Mm) : L13 μ b 0 = μ := by
  funext k x
  unfold L13 st
  by_cases hk : k = 13
  · subst hk; simp
  · simp [hk]
theorem L13_us (μ b : Mm) (n : Nat) : us (L13 μ b n) 13 n (nI (tieN b (n / 9) (n % 9))) = L13 μ b (n + 1) := by
  funext k x
  by_cases hk : k = 13
  · subst hk
    rw [us_eq]
    unfold L13 upd
    rw [st_eq, st_eq]
    by_cases hx : x = n
    · subst hx; simp
    · by_cases h2 : x < n
      · simp [hx, h2, Nat.lt_succ_of_lt h2]
      · have : ¬ x < n + 1 := by omega
        simp [hx, h2, this]
  · rw [us_ne hk]
    unfold L13
    rw [st_ne _ _ hk, st_ne _ _ hk]
theorem L13_TT {μ b : Mm} : TT (L13 μ b (9 * nP b)) b 13 := by
  intro p hp t ht
  unfold L13
  rw [st_eq, if_pos (by omega), show (9 * p + t) / 9 = p by omega, show (9 * p + t) % 9 = t by omega]
def L14 (μ b : Mm) (n : Nat) : Mm := st μ 14 (fun x => match fnd (fun p => rkN b p == x) n with
  | none => μ 14 x
  | some p => nI p)
theorem L14_us (μ b : Mm) (n : Nat) : us (L14 μ b n) 14 (rkN b n) (nI n) = L14 μ b (n + 1) := by
  funext k x
  by_cases hk : k = 14
  · subst hk
    rw [us_eq]
    unfold L14 upd
    rw [st_eq, st_eq]
    have e : fnd (fun p => rkN b p == x) (n + 1) = if (rkN b n == x) then some n else fnd (fun p => rkN b p == x) n := rfl
    rw [e]
    by_cases hx : x = rkN b n
    · subst hx; simp
    · have : ¬ rkN b n = x := fun z => hx z.symm
      simp [hx, this]
  · rw [us_ne hk]
    unfold L14
    rw [st_ne _ _ hk, st_ne _ _ hk]
theorem L14_0 (μ b : Mm) : L14 μ b 0 = μ := by
  funext k x
  unfold L14 st
  by_cases hk : k = 14
  · subst hk; simp [fnd]
  · simp [hk]
/-- the reference with its standing laid -/
def LSt (μ b : Mm) : Mm := L14 (L13 μ b (9 * nP b)) b (nP b)
theorem LSt_ne {μ b : Mm} {k : Nat} (h1 : k ≠ 13) (h2 : k ≠ 14) : LSt μ b k = μ k := by
  unfold LSt L14 L13
  rw [st_ne _ _ h2, st_ne _ _ h1]
theorem LSt_bk {μ b : Mm} (h : Bk μ b) : Bk (LSt μ b) b := fun k hk => by rw [LSt_ne (by omega) (by omega)]; exact h k hk
theorem LSt_TT {μ b : Mm} : TT (LSt μ b) b 13 := by
  intro p hp t ht
  unfold LSt L14
  rw [st_ne _ _ (by omega)]
  exact L13_TT p hp t ht
theorem LSt_st {μ b : Mm} {i : Nat} (hi : i < nP b) : LSt μ b 14 i = nI (stN b i) := by
  obtain ⟨p, h1, h2, h3, h4⟩ := stN_fnd hi
  unfold LSt L14
  rw [st_eq, h3, h4]
theorem m_layStanding {μ b : Mm} (h : Bk μ b) (ok : BookOK b) : f_X7_layStanding μ = some (LSt μ b) := by
  have hP := ok.P12
  unfold f_X7_layStanding
  have e0 : wh2 f_X7_layStanding_s2 5000 μ (0 : Int32) = wh2 f_X7_layStanding_s2 5000 (L13 μ b (9 * 0)) (nI 0) := by rw [show 9 * 0 = 0 from rfl, L13_0]; rfl
  rw [e0]
  refine wh2_seq (nP b) (fun k => L13 μ b (9 * k)) (fun k => nI k) _ (fun p hp r2 => ?_) (fun r2 => ?_) 5000 (by omega)
  · unfold f_X7_layStanding_s2
    rw [Option.bind_some, (L13_bk h _) 0 (by omega), ok.P, if_neg (nI_ge hp (by omega))]
    refine wh2_seq 9 (fun t => L13 μ b (9 * p + t)) (fun t => nI t) _ (fun t ht r => ?_) (fun r => ?_) 5000 (by omega)
    · unfold f_X7_layStanding_s12
      rw [if_neg (show ¬ (9 : Int32) ≤ nI t from nI_ge (b := 9) ht (by omega)), m_tieOf (L13_bk h _) ok hp (by omega), Option.bind_some, show ((9 : Int32) * nI p) + nI t = nI (9 * p + t) by rw [show (9 : Int32) = nI 9 from rfl, pk_mul, nI_add], ast_nI (by omega) (by omega), Option.bind_some, show nI t + (1 : Int32) = nI (t + 1) from nI_1 t]
      have e : nI (tieN b p t) = nI (tieN b ((9 * p + t) / 9) ((9 * p + t) % 9)) := by rw [show (9 * p + t) / 9 = p by omega, show (9 * p + t) % 9 = t by omega]
      rw [e, L13_us]
      rfl
    · unfold f_X7_layStanding_s12
      rw [if_pos (show (9 : Int32) ≤ nI 9 by decide), show nI p + (1 : Int32) = nI (p + 1) from nI_1 p]
      rfl
  · unfold f_X7_layStanding_s2
    rw [Option.bind_some, (L13_bk h _) 0 (by omega), ok.P, if_pos (nI_le (Nat.le_refl _) (by omega))]
    have e1 : wh2 f_X7_layStanding_s49 5000 (L13 μ b (9 * nP b)) (0 : Int32) = wh2 f_X7_layStanding_s49 5000 (L14 (L13 μ b (9 * nP b)) b 0) (nI 0) := by rw [L14_0]; rfl
    rw [e1]
    refine wh2_seq (nP b) (fun k => L14 (L13 μ b (9 * nP b)) b k) (fun k => nI k) _ (fun p hp r => ?_) (fun r => ?_) 5000 (by omega)
    · have hb : Bk (L14 (L13 μ b (9 * nP b)) b p) b := (L13_bk h _).st (by omega)
      have hT : TT (L14 (L13 μ b (9 * nP b)) b p) b 13 := by
        intro x hx t ht
        unfold L14
        rw [st_ne _ _ (by omega)]
        exact L13_TT x hx t ht
      have hr := rkN_lt hp
      unfold f_X7_layStanding_s49
      rw [Option.bind_some, hb 0 (by omega), ok.P, if_neg (nI_ge hp (by omega)), m_aheadOf hb ok hT hp, Option.bind_some, ast_nI (by omega) (by omega), Option.bind_some, L14_us, show nI p + (1 : Int32) = nI (p + 1) from nI_1 p]
    · have hb : Bk (L14 (L13 μ b (9 * nP b)) b (nP b)) b := (L13_bk h _).st (by omega)
      unfold f_X7_layStanding_s49
      rw [Option.bind_some, hb 0 (by omega), ok.P, if_pos (nI_le (Nat.le_refl _) (by omega))]
      rfl
