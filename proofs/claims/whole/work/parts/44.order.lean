/-! ===== a strict order of small numbers, ranks; the standing ===== -/
theorem sm_mono {f g : Nat → Nat} : ∀ {n : Nat}, (∀ k, k < n → f k ≤ g k) → sm f n ≤ sm g n
  | 0, _ => Nat.le_refl _
  | n + 1, h => by
    have h1 := sm_mono (n := n) (fun k hk => h k (by omega))
    have h2 := h n (by omega)
    rw [sm_succ, sm_succ]
    omega
theorem sm_lt {f g : Nat → Nat} {j : Nat} : ∀ {n : Nat}, (∀ k, k < n → f k ≤ g k) → j < n → f j < g j → sm f n < sm g n
  | 0, _, hj, _ => absurd hj (Nat.not_lt_zero _)
  | n + 1, h, hj, hl => by
    rw [sm_succ, sm_succ]
    have h2 := h n (by omega)
    by_cases q : j = n
    · subst q
      have := sm_mono (n := j) (fun k hk => h k (by omega))
      omega
    · have := sm_lt (n := n) (fun k hk => h k (by omega)) (by omega) hl
      omega
theorem sm_one : ∀ n : Nat, sm (fun _ => 1) n = n
  | 0 => rfl
  | n + 1 => by rw [sm_succ, sm_one n]
def rk (A : Nat → Nat → Bool) (P p : Nat) : Nat := sm (fun q => if A q p then 1 else 0) P
theorem rk_lt {A : Nat → Nat → Bool} {P p : Nat} (irr : A p p = false) (hp : p < P) : rk A P p < P := by
  have := sm_lt (f := fun q => if A q p then 1 else 0) (g := fun _ => 1) (j := p) (n := P) (fun k _ => by split <;> omega) hp (by simp [irr])
  rw [sm_one] at this
  exact this
theorem rk_up {A : Nat → Nat → Bool} {P p q : Nat} (irr : A p p = false) (tr : ∀ x, x < P → A x p = true → A x q = true) (hp : p < P) (h : A p q = true) : rk A P p < rk A P q := by
  refine sm_lt (j := p) (fun k hk => ?_) hp (by simp [irr, h])
  cases hk1 : A k p with
  | false => simp
  | true => rw [tr k hk hk1]; simp
def fs (d : Nat → Bool) : Nat → Option Nat
  | 0 => none
  | n + 1 => match fs d n with
    | some i => some i
    | none => if d n then some n else none
theorem fs_spec (d : Nat → Bool) : ∀ n, (∀ i, fs d n = some i → i < n ∧ d i = true ∧ ∀ j, j < i → d j = false) ∧ (fs d n = none → ∀ j, j < n → d j = false)
  | 0 => ⟨fun i h => (by cases h), fun _ j hj => absurd hj (Nat.not_lt_zero _)⟩
  | n + 1 => by
    obtain ⟨ih1, ih2⟩ := fs_spec d n
    have e : fs d (n + 1) = match fs d n with | some i => some i | none => if d n then some n else none := rfl
    cases h : fs d n with
    | some i =>
      rw [h] at e
      rw [e]
      obtain ⟨a1, a2, a3⟩ := ih1 i h
      exact ⟨fun j hj => by cases hj; exact ⟨by omega, a2, a3⟩, fun q => by cases q⟩
    | none =>
      rw [h] at e
      rw [e]
      have h0 := ih2 h
      dsimp only
      by_cases q : d n = true
      · rw [if_pos q]
        exact ⟨fun j hj => by cases hj; exact ⟨Nat.lt_succ_self _, q, h0⟩, fun z => by cases z⟩
      · rw [if_neg q]
        refine ⟨fun j hj => (by cases hj), fun _ j hj => ?_⟩
        rcases Nat.lt_or_ge j n with r | r
        · exact h0 j r
        · have : j = n := by omega
          subst this
          exact Bool.eq_false_iff.mpr q
theorem fs_eq {d : Nat → Bool} {n i : Nat} (hi : i < n) (h1 : d i = true) (h2 : ∀ j, j < i → d j = false) : fs d n = some i := by
  cases h : fs d n with
  | none => rw [(fs_spec d n).2 h i hi] at h1; cases h1
  | some k =>
    obtain ⟨a1, a2, a3⟩ := (fs_spec d n).1 k h
    rcases Nat.lt_trichotomy i k with q | q | q
    · rw [a3 i q] at h1; cases h1
    · rw [q]
    · rw [h2 k q] at a2; cases a2
theorem fs_eq_none {d : Nat → Bool} {n : Nat} (h : ∀ j, j < n → d j = false) : fs d n = none := by
  cases hh : fs d n with
  | none => rfl
  | some k =>
    obtain ⟨a1, a2, -⟩ := (fs_spec d n).1 k hh
    rw [h k a1] at a2; cases a2
/-! the order of the standing -/
def tK (b : Mm) (p i : Nat) : Nat := tieN b p (gN b 11 i)
def dfK (b : Mm) (p q : Nat) : Option Nat := fs (fun i => decide (tK b p i ≠ tK b q i)) (nK b)
def ahd (b : Mm) (p q : Nat) : Bool := match dfK b p q with
  | none => decide (p < q)
  | some i => decide (tK b q i < tK b p i)
theorem dfK_comm (b : Mm) (p q : Nat) : dfK b p q = dfK b q p := by
  unfold dfK
  congr 1
  funext i
  by_cases h : tK b p i = tK b q i
  · simp [h]
  · simp [h, Ne.symm h]
theorem ahd_none {b : Mm} {p q : Nat} (h : dfK b p q = none) : ahd b p q = decide (p < q) := by unfold ahd; rw [h]
theorem ahd_some {b : Mm} {p q i : Nat} (h : dfK b p q = some i) : ahd b p q = decide (tK b q i < tK b p i) := by unfold ahd; rw [h]
theorem dfK_some {b : Mm} {p q i : Nat} (h : dfK b p q = some i) : i < nK b ∧ tK b p i ≠ tK b q i ∧ ∀ j, j < i → tK b p j = tK b q j := by
  obtain ⟨a1, a2, a3⟩ := (fs_spec _ _).1 i h
  refine ⟨a1, by simpa using a2, fun j hj => ?_⟩
  have := a3 j hj
  simpa using this
theorem dfK_none {b : Mm} {p q : Nat} (h : dfK b p q = none) : ∀ j, j < nK b → tK b p j = tK b q j := by
  intro j hj
  have := (fs_spec _ _).2 h j hj
  simpa using this
theorem ahd_irr (b : Mm) (p : Nat) : ahd b p p = false := by
  cases h : dfK b p p with
  | none => rw [ahd_none h]; simp
  | some i => exact absurd rfl (dfK_some h).2.1
theorem ahd_tot {b : Mm} {p q : Nat} (hpq : p ≠ q) : ahd b q p = !ahd b p q := by
  cases h : dfK b p q with
  | none =>
    rw [ahd_none h, ahd_none ((dfK_comm b q p).trans h)]
    by_cases z : p < q
    · have : ¬ q < p := by omega
      simp [z, this]
    · have : q < p := by omega
      simp [z, this]
  | some i =>
    rw [ahd_some h, ahd_some ((dfK_comm b q p).trans h)]
    have hne := (dfK_some h).2.1
    by_cases z : tK b q i < tK b p i
    · have : ¬ tK b p i < tK b q i := by omega
      simp [z, this]
    · have : tK b p i < tK b q i := by omega
      simp [z, this]
theorem dfK_at {b : Mm} {p q i : Nat} (hi : i < nK b) (h1 : tK b p i ≠ tK b q i) (h2 : ∀ j, j < i → tK b p j = tK b q j) : dfK b p q = some i := fs_eq hi (by simpa using h1) (fun j hj => by simpa using h2 j hj)
theorem ahd_tr {b : Mm} {p q r : Nat} (h1 : ahd b p q = true) (h2 : ahd b q r = true) : ahd b p r = true := by
  cases a : dfK b p q with
  | none =>
    have ea := dfK_none a
    rw [ahd_none a] at h1
    cases c : dfK b q r with
    | none =>
      have ec := dfK_none c
      rw [ahd_none c] at h2
      have e : dfK b p r = none := fs_eq_none (fun j hj => by simpa using (ea j hj).trans (ec j hj))
      rw [ahd_none e]
      simp at h1 h2 ⊢
      omega
    | some k =>
      obtain ⟨k1, k2, k3⟩ := dfK_some c
      rw [ahd_some c] at h2
      have e : dfK b p r = some k := dfK_at k1 (by rw [ea k k1]; exact k2) (fun j hj => (ea j (by omega)).trans (k3 j hj))
      rw [ahd_some e, ea k k1]
      exact h2
  | some i =>
    obtain ⟨i1, i2, i3⟩ := dfK_some a
    rw [ahd_some a] at h1
    cases c : dfK b q r with
    | none =>
      have ec := dfK_none c
      have e : dfK b p r = some i := dfK_at i1 (by rw [← ec i i1]; exact i2) (fun j hj => (i3 j hj).trans (ec j (by omega)))
      rw [ahd_some e, ← ec i i1]
      exact h1
    | some k =>
      obtain ⟨k1, k2, k3⟩ := dfK_some c
      rw [ahd_some c] at h2
      simp at h1 h2
      rcases Nat.lt_trichotomy i k with z | z | z
      · have e : dfK b p r = some i := dfK_at i1 (by rw [← k3 i z]; exact i2) (fun j hj => (i3 j hj).trans (k3 j (by omega)))
        rw [ahd_some e, ← k3 i z]
        simpa using h1
      · subst z
        have e : dfK b p r = some i := dfK_at i1 (by omega) (fun j hj => (i3 j hj).trans (k3 j hj))
        rw [ahd_some e]
        simp
        omega
      · have e : dfK b p r = some k := dfK_at k1 (by rw [i3 k z]; exact k2) (fun j hj => (i3 j (by omega)).trans (k3 j hj))
        rw [ahd_some e, i3 k z]
        simpa using h2
def rkN (b : Mm) (p : Nat) : Nat := rk (ahd b) (nP b) p
theorem rkN_lt {b : Mm} {p : Nat} (hp : p < nP b) : rkN b p < nP b := rk_lt (ahd_irr b p) hp
theorem rkN_ahd {b : Mm} {p q : Nat} (hp : p < nP b) (h : ahd b p q = true) : rkN b p < rkN b q := rk_up (ahd_irr b p) (fun _ _ hx => ahd_tr hx h) hp h
theorem rkN_inj {b : Mm} {p q : Nat} (hp : p < nP b) (hq : q < nP b) (h : rkN b p = rkN b q) : p = q := by
  refine Classical.byContradiction (fun hne => ?_)
  have ht := ahd_tot (b := b) hne
  cases h1 : ahd b p q with
  | true => have := rkN_ahd hp h1; omega
  | false => rw [h1] at ht; have := rkN_ahd hq ht; omega
def stN (b : Mm) (i : Nat) : Nat := (fnd (fun p => rkN b p == i) (nP b)).getD 0
theorem stN_fnd {b : Mm} {i : Nat} (hi : i < nP b) : ∃ p, p < nP b ∧ rkN b p = i ∧ fnd (fun p => rkN b p == i) (nP b) = some p ∧ stN b i = p := by
  obtain ⟨p, hp, he⟩ := fb_onto (n := nP b) (f := rkN b) (fun p hp => rkN_lt hp) (fun p q hpq hq e => absurd (rkN_inj (by omega) hq e) (by omega)) hi
  have hf : fnd (fun p => rkN b p == i) (nP b) = some p := fnd_one hp (by simpa using he) (fun d hd hq => rkN_inj hd hp (by simp at hq; omega))
  exact ⟨p, hp, he, hf, by unfold stN; rw [hf]; rfl⟩
theorem stN_lt {b : Mm} {i : Nat} (hi : i < nP b) : stN b i < nP b := by obtain ⟨p, h1, h2, h3, h4⟩ := stN_fnd hi; rw [h4]; exact h1
theorem rkN_stN {b : Mm} {i : Nat} (hi : i < nP b) : rkN b (stN b i) = i := by obtain ⟨p, h1, h2, h3, h4⟩ := stN_fnd hi; rw [h4]; exact h2
theorem stN_rkN {b : Mm} {p : Nat} (hp : p < nP b) : stN b (rkN b p) = p := rkN_inj (stN_lt (rkN_lt hp)) hp (rkN_stN (rkN_lt hp))
theorem stN_inj {b : Mm} {i j : Nat} (hi : i < nP b) (hj : j < nP b) (h : stN b i = stN b j) : i = j := by rw [← rkN_stN hi, ← rkN_stN hj, h]
/-! the tie-breaks are small -/
theorem plF_le {b : Mm} {p m r : Nat} {f : Nat → Nat} (hf : ∀ c, f c ≤ m) : plF b p f r ≤ m := by
  unfold plF
  split
  · omega
  · exact hf _
theorem sum_le {b : Mm} (ok : BookOK b) {p m : Nat} {f : Nat → Nat} (hf : ∀ c, f c ≤ m) : sm (plF b p f) (nD b) ≤ 20 * m := by
  have h1 := sm_le (f := plF b p f) (c := m) (n := nD b) (fun k _ => plF_le hf)
  exact Nat.le_trans h1 (Nat.mul_le_mul_right m ok.D20)
theorem tie_le {b : Mm} (ok : BookOK b) {p w : Nat} (hp : p < nP b) : tieN b p w ≤ 3000 := by
  have ho : oppsN b p ≤ 20 * 40 := sum_le ok (fun c => pts_le ok _)
  unfold tieN
  split
  · have := pts_le ok p; omega
  · omega
  · unfold cutN; split <;> omega
  · have : beatN b p ≤ 20 * 80 := sum_le ok (fun c => by have h1 := mk_le b p c; have h2 := pts_le ok (opp b p c); exact Nat.le_trans (Nat.mul_le_mul h1 h2) (by omega))
    omega
  · have : winsN b p ≤ 20 * 1 := sum_le ok (fun c => by split <;> omega)
    omega
  · have : blacksN b p ≤ 20 * 1 := sum_le ok (fun c => by split <;> omega)
    omega
  · have h1 : growN b p ≤ nD b * 40 := sm_le (fun k hk => ptsN_le (by have := ok.D20; omega))
    have := ok.D20
    omega
  · have : dirN b p ≤ 20 * 2 := sum_le ok (fun c => by
      split
      · exact mk_le _ _ _
      · omega)
    omega
  · exact (ok.rating hp).2
