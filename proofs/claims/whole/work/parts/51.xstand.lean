/-! ===== the class's standing ===== -/
theorem x_firstDifference {σ b : Mm} (h : Bk σ b) (ok : BookOK b) (hT : TT σ b 50) {p q : Nat} (hp : p < nP b) (hq : q < nP b) : f_X4_firstDifference σ (nI p) (nI q) = some (match dfK b p q with | none => -5 | some i => nI (gN b 11 i)) := by
  have hK := ok.K9
  have hP := ok.P12
  have step : ∀ k, k < nK b → ∀ r : Int32 → Option Int32, f_X4_firstDifference_s2 σ (nI p) (nI q) r (nI k) = if tK b p k = tK b q k then r (nI (k + 1)) else some (nI (gN b 11 k)) := by
    intro k hk r
    have ho := ok.ord hk
    have t1 : tK b p k ≤ 3000 := tie_le ok hp
    have t2 : tK b q k ≤ 3000 := tie_le ok hq
    unfold f_X4_firstDifference_s2
    rw [h 10 (by omega), ok.Kn, if_neg (nI_ge hk (by omega)), row_at (by omega) (by omega), Option.bind_some, h 11 (by omega), ho.1, x_tieOf (by omega) ho.2, Option.bind_some, hT p hp _ ho.2, x_tieOf (by omega) ho.2, Option.bind_some, hT q hq _ ho.2, show nI k + (1 : Int32) = nI (k + 1) from nI_1 k]
    show (if nI (tK b p k) = nI (tK b q k) then _ else _) = _
    by_cases z : tK b p k = tK b q k
    · rw [if_pos (by rw [z]), if_pos z]
    · rw [if_neg (fun y => z ((nI_eq (by omega) (by omega)).mp y)), if_neg z]
  unfold f_X4_firstDifference
  cases hd : dfK b p q with
  | none =>
    refine wh1_seq (nK b) (fun k => nI k) _ (fun k hk r => ?_) (fun r => ?_) 5000 (by omega)
    · rw [step k hk r, if_pos (dfK_none hd k hk)]
    · unfold f_X4_firstDifference_s2
      rw [h 10 (by omega), ok.Kn, if_pos (nI_le (Nat.le_refl _) (by omega))]
  | some i =>
    obtain ⟨i1, i2, i3⟩ := dfK_some hd
    refine wh1_seq i (fun k => nI k) _ (fun k hk r => ?_) (fun r => ?_) 5000 (by omega)
    · rw [step k (by omega) r, if_pos (i3 k hk)]
    · rw [step i i1 r, if_neg i2]
theorem x_isAhead {σ b : Mm} (h : Bk σ b) (ok : BookOK b) (hT : TT σ b 50) {p q : Nat} (hp : p < nP b) (hq : q < nP b) : f_X4_isAhead σ (nI p) (nI q) = some (if ahd b p q then 1 else 0) := by
  have hP := ok.P12
  unfold f_X4_isAhead
  rw [x_firstDifference h ok hT hp hq, Option.bind_some]
  cases hd : dfK b p q with
  | none =>
    dsimp only
    rw [if_pos (by decide), ahd_none hd]
    by_cases z : p < q
    · rw [if_neg (nI_ge z (by omega)), if_pos (by simpa using z)]
    · rw [if_pos (nI_le (by omega) (by omega)), if_neg (by simpa using z)]
  | some i =>
    have hi := (dfK_some hd).1
    have ho := ok.ord hi
    have t1 : tK b p i ≤ 3000 := tie_le ok hp
    have t2 : tK b q i ≤ 3000 := tie_le ok hq
    dsimp only
    rw [if_neg (neg5 (by omega)), x_tieOf (by omega) ho.2, Option.bind_some, hT p hp _ ho.2, x_tieOf (by omega) ho.2, Option.bind_some, hT q hq _ ho.2, ahd_some hd]
    show (if nI (tK b p i) ≤ nI (tK b q i) then _ else _) = _
    by_cases z : tK b q i < tK b p i
    · rw [if_neg (nI_ge z (by omega)), if_pos (by simpa using z)]
    · rw [if_pos (nI_le (Nat.not_lt.mp z) (by omega)), if_neg (by simpa using z)]
/-- the rank among the first n -/
def rkT (b : Mm) (n p : Nat) : Nat := rk (ahd b) n p
theorem rkT_succ (b : Mm) (n p : Nat) : rkT b (n + 1) p = rkT b n p + (if ahd b n p then 1 else 0) := rfl
theorem rkT_lt {b : Mm} {n p : Nat} (hp : p < n) : rkT b n p < n := rk_lt (ahd_irr b p) hp
theorem rkT_le {b : Mm} {n p : Nat} : rkT b n p ≤ n := by
  have := sm_mono (f := fun q => if ahd b q p then 1 else 0) (g := fun _ => 1) (n := n) (fun k _ => by split <;> omega)
  rw [sm_one] at this
  exact this
theorem rkT_up {b : Mm} {n p q : Nat} (hp : p < n) (h : ahd b p q = true) : rkT b n p < rkT b n q := rk_up (ahd_irr b p) (fun _ _ hx => ahd_tr hx h) hp h
theorem rkT_inj {b : Mm} {n p q : Nat} (hp : p < n) (hq : q < n) (h : rkT b n p = rkT b n q) : p = q := by
  refine Classical.byContradiction (fun hne => ?_)
  have ht := ahd_tot (b := b) hne
  cases h1 : ahd b p q with
  | true => have := rkT_up hp h1; omega
  | false => rw [h1] at ht; have := rkT_up hq ht; omega
/-- the standing of the first n, laid -/
def Std (b : Mm) (n : Nat) (f : Nat → Int32) : Prop := ∀ p, p < n → f (rkT b n p) = nI p
theorem Std.at {b : Mm} {n i : Nat} {f : Nat → Int32} (h : Std b n f) (hi : i < n) : ∃ p, p < n ∧ rkT b n p = i ∧ f i = nI p := by
  obtain ⟨p, hp, he⟩ := fb_onto (n := n) (f := rkT b n) (fun p hp => rkT_lt hp) (fun p q hpq hq e => absurd (rkT_inj (by omega) hq e) (by omega)) hi
  exact ⟨p, hp, he, by rw [← he]; exact h p hp⟩
theorem x_stand {σ b : Mm} (h : Bk σ b) (ok : BookOK b) (hT : TT σ b 50) : ∃ τ, f_X4_stand σ = some τ ∧ (∀ k, k ≠ 58 → τ k = σ k) ∧ ∀ i, i < nP b → τ 58 i = nI (stN b i) := by
  have hP := ok.P12
  unfold f_X4_stand
  refine wh2_inv (nP b) (fun n τ => (∀ k, k ≠ 58 → τ k = σ k) ∧ Std b n (τ 58)) (fun n => nI n) _ (fun n hn τ hI => ?_) (fun τ hI r => ?_) 5000 (by omega) σ ⟨fun _ _ => rfl, fun p hp => absurd hp (Nat.not_lt_zero _)⟩
  · obtain ⟨t0, t1⟩ := hI
    -- where the new one goes; behind it all move by one
    have hr := rkT_le (b := b) (n := n) (p := n)
    -- who stands at place j < n is behind him just if j is his rank or more
    have side : ∀ j p, j < n → p < n → rkT b n p = j → (ahd b n p = true ↔ rkT b n n ≤ j) := by
      intro j p hj hp hrp
      have hne : n ≠ p := by omega
      have ht := ahd_tot (b := b) hne
      cases hc : ahd b n p with
      | true =>
        refine ⟨fun _ => ?_, fun _ => rfl⟩
        have hm := sm_mono (f := fun q => if ahd b q n then 1 else 0) (g := fun q => if ahd b q p then 1 else 0) (n := n) (fun k hk => by
          cases hk1 : ahd b k n with
          | false => simp
          | true => rw [ahd_tr hk1 hc]; simp)
        rw [← hrp]
        exact hm
      | false =>
        rw [hc] at ht
        refine ⟨fun q => (by cases q), fun hle => ?_⟩
        have := rkT_up hp ht
        omega
    let G : Nat → Mm := fun d => st τ 58 (fun i => if n - d < i ∧ i ≤ n then τ 58 (i - 1) else τ 58 i)
    have hG0 : G 0 = τ := by
      funext k i
      by_cases hk : k = 58
      · subst hk
        show st τ 58 _ 58 i = _
        rw [st_eq, if_neg (by omega)]
      · show st τ 58 _ k i = _
        rw [st_ne _ _ hk]
    have hGs : ∀ d i, G d 58 i = if n - d < i ∧ i ≤ n then τ 58 (i - 1) else τ 58 i := fun d i => congrFun (st_eq _ _ _) i
    have hGk : ∀ d k, k ≠ 58 → G d k = σ k := fun d k hk => (st_ne _ _ hk).trans (t0 k hk)
    have hGb : ∀ d, Bk (G d) b := fun d k hk => by rw [hGk d k (by omega)]; exact h k hk
    have hGT : ∀ d, TT (G d) b 50 := fun d p hp t ht => by rw [hGk d 50 (by omega)]; exact hT p hp t ht
    let ρ : Mm := us (G (n - rkT b n n)) 58 (rkT b n n) (nI n)
    have hρ : ∀ k, k ≠ 58 → ρ k = σ k := fun k hk => (us_ne hk).trans (hGk _ k hk)
    refine ⟨ρ, ⟨hρ, fun p hp => ?_⟩, fun r2 => ?_⟩
    · rw [rkT_succ]
      by_cases e : p = n
      · subst e
        rw [ahd_irr]
        show us _ 58 _ _ 58 (rkT b p p + 0) = _
        rw [Nat.add_zero, us_at]
      · have hpn : p < n := by omega
        have hlt := rkT_lt (b := b) hpn
        have hs := side _ p hlt hpn rfl
        by_cases ha : ahd b n p = true
        · have hle := hs.mp ha
          rw [if_pos ha]
          show us _ 58 _ _ 58 (rkT b n p + 1) = _
          rw [us_skip (by omega), hGs, if_pos (by omega), Nat.add_sub_cancel]
          exact t1 p hpn
        · have hle : ¬ rkT b n n ≤ rkT b n p := fun q => ha (hs.mpr q)
          rw [if_neg ha]
          show us _ 58 _ _ 58 (rkT b n p + 0) = _
          rw [Nat.add_zero, us_skip (by omega), hGs, if_neg (by omega)]
          exact t1 p hpn
    · unfold f_X4_stand_s2
      have hb0 : Bk τ b := fun k hk => by rw [t0 k (by omega)]; exact h k hk
      rw [Option.bind_some, hb0 0 (by omega), ok.P, if_neg (nI_ge hn (by omega))]
      have e0 : wh2 (f_X4_stand_s15 r2 (nI n)) 5000 τ (nI n) = wh2 (f_X4_stand_s15 r2 (nI n)) 5000 (G 0) (nI (n - 0)) := by rw [hG0]; rfl
      rw [e0]
      have ej : ∀ d, d = n - rkT b n n → f_X4_stand_j61 r2 (G d) (nI n) (nI (n - d)) = r2 ρ (nI (n + 1)) := by
        intro d hd
        subst hd
        unfold f_X4_stand_j61
        rw [show n - (n - rkT b n n) = rkT b n n by omega, row_put (by omega) (by omega), Option.bind_some, show nI n + (1 : Int32) = nI (n + 1) from nI_1 n]
      refine wh2_seq (n - rkT b n n) (fun d => G d) (fun d => nI (n - d)) _ (fun d hd r => ?_) (fun r => ?_) 5000 (by omega)
      · have hj : n - d - 1 < n := by omega
        obtain ⟨p, hp, hrp, hfp⟩ := t1.at hj
        have ha := (side _ p hj hp hrp).mpr (by omega)
        have e1 : nI (n - d) - (1 : Int32) = nI (n - d - 1) := by rw [show n - d = (n - d - 1) + 1 by omega, nI_pred]; rfl
        have eR : G d 58 (n - d - 1) = nI p := by rw [hGs, if_neg (by omega)]; exact hfp
        unfold f_X4_stand_s15
        rw [if_neg (nI_nle (by omega) (by omega)), e1, row_at (by omega) (by omega), Option.bind_some, eR, x_isAhead (hGb d) ok (hGT d) hn (by omega), Option.bind_some, ha, if_pos rfl, if_neg (by decide), Option.bind_some, row_put (by omega) (by omega), Option.bind_some]
        have e2 : nI (n - d) + (-1 : Int32) = nI (n - (d + 1)) := by rw [show n - d = (n - (d + 1)) + 1 by omega, pk_m1]
        rw [e2]
        congr 1
        funext k i
        by_cases hk : k = 58
        · subst hk
          rw [us_eq]
          show (if i = n - d then nI p else G d 58 i) = G (d + 1) 58 i
          rw [hGs, hGs]
          by_cases hi : i = n - d
          · rw [if_pos hi, if_pos (by omega), hi]; exact hfp.symm
          · rw [if_neg hi]
            by_cases h2 : n - d < i ∧ i ≤ n
            · rw [if_pos h2, if_pos (by omega)]
            · rw [if_neg h2, if_neg (by omega)]
        · rw [us_ne hk, hGk d k hk, hGk (d + 1) k hk]
      · unfold f_X4_stand_s15
        by_cases hz : rkT b n n = 0
        · rw [if_pos (by rw [hz, Nat.sub_zero, Nat.sub_self]; decide)]
          exact ej _ rfl
        · have hj : rkT b n n - 1 < n := by omega
          obtain ⟨p, hp, hrp, hfp⟩ := t1.at hj
          have ha : ahd b n p = false := by
            cases hc : ahd b n p with
            | false => rfl
            | true => have := (side _ p hj hp hrp).mp hc; omega
          have e0' : n - (n - rkT b n n) = rkT b n n := by omega
          have e1 : nI (rkT b n n) - (1 : Int32) = nI (rkT b n n - 1) := by
            obtain ⟨z, hz'⟩ : ∃ z, rkT b n n = z + 1 := ⟨rkT b n n - 1, by omega⟩
            rw [hz', nI_pred]; rfl
          have eR : G (n - rkT b n n) 58 (rkT b n n - 1) = nI p := by rw [hGs, if_neg (by omega)]; exact hfp
          have ejj := ej _ rfl
          rw [e0'] at ejj ⊢
          rw [if_neg (nI_nle (by omega) (by omega)), e1, row_at (by omega) (by omega), Option.bind_some, eR, x_isAhead (hGb _) ok (hGT _) hn (by omega), Option.bind_some, ha, if_pos (by decide)]
          exact ejj
  · obtain ⟨t0, t1⟩ := hI
    refine ⟨τ, ?_, t0, fun i hi => ?_⟩
    · unfold f_X4_stand_s2
      rw [Option.bind_some, t0 0 (by omega), h 0 (by omega), ok.P, if_pos (nI_le (Nat.le_refl _) (by omega))]
    · obtain ⟨p, hp, he, hf⟩ := t1.at hi
      rw [hf]
      congr 1
      exact (rkN_inj (stN_lt hi) hp ((rkN_stN hi).trans he.symm)).symm
