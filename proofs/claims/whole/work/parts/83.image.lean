/-! ===== image and undo: the class's copies, books that agree in range ===== -/
def capN (k : Nat) : Nat := if k = 1 then 12 else if k = 2 then 12 else if k = 5 then 20 else if k = 6 then 20 else if k = 7 then 120 else if k = 8 then 120 else if k = 9 then 120 else if k = 11 then 9 else 1
def isSc (k : Nat) : Bool := k == 0 || k == 3 || k == 4 || k == 10
def mixR (k : Nat) (f g : Nat → Int32) : Nat → Int32 := if isSc k then fun _ => f 0 else fun j => if j < capN k then f j else g j
theorem mixR_in {k j : Nat} {f g : Nat → Int32} (h : j < capN k) (hk : k < 12) : mixR k f g j = f j := by
  unfold mixR
  by_cases z : isSc k = true
  · have e : j = 0 := by
      have hc : k = 0 ∨ k = 3 ∨ k = 4 ∨ k = 10 := by
        unfold isSc at z
        simp only [Bool.or_eq_true, beq_iff_eq] at z
        omega
      have h1 : capN k = 1 := by rcases hc with e | e | e | e <;> subst e <;> rfl
      omega
    rw [if_pos z, e]
  · rw [if_neg z]
    exact if_pos h
theorem row_cpy {n k n2 k2 : Nat} {σ : Mm} (hn : n < 5000) (hn2 : n ≤ n2) (h2 : n2 < 5000) (hk : k ≠ k2) : ∃ τ, f_X2_copy n k n2 k2 σ = some τ ∧ (∀ r, r ≠ k → τ r = σ r) ∧ τ k = fun j => if j < n then σ k2 j else σ k j :=
  ⟨_, row_copy hn hn2 h2 hk, fun r hr => st_ne _ _ hr, st_eq _ _ _⟩
def cpyB (d s : Nat) (σ : Mm) : Option Mm :=
  (some (σ s 0)).bind fun x1 =>
  (some (sc σ d x1)).bind fun σ =>
  (f_X2_copy 12 (d + 1) 12 (s + 1) σ).bind fun σ =>
  (f_X2_copy 12 (d + 2) 12 (s + 2) σ).bind fun σ =>
  (some (σ (s + 3) 0)).bind fun x2 =>
  (some (sc σ (d + 3) x2)).bind fun σ =>
  (some (σ (s + 4) 0)).bind fun x3 =>
  (zb x3).bind fun _ =>
  (some (sc σ (d + 4) x3)).bind fun σ =>
  (f_X2_copy 20 (d + 5) 20 (s + 5) σ).bind fun σ =>
  (f_X2_copy 20 (d + 6) 20 (s + 6) σ).bind fun σ =>
  (f_X2_copy 120 (d + 7) 120 (s + 7) σ).bind fun σ =>
  (f_X2_copy 120 (d + 8) 120 (s + 8) σ).bind fun σ =>
  (f_X2_copy 120 (d + 9) 120 (s + 9) σ).bind fun σ =>
  (some (σ (s + 10) 0)).bind fun x5 =>
  (some (sc σ (d + 10) x5)).bind fun σ =>
  (f_X2_copy 9 (d + 11) 9 (s + 11) σ).bind fun σ =>
  some σ
theorem cpyB_ok {d s : Nat} {σ : Mm} (hds : s + 11 < d ∨ d + 11 < s) {o : Nat} (hz : σ (s + 4) 0 = nI o) (ho : o ≤ 1) : ∃ τ, cpyB d s σ = some τ ∧ (∀ r, r < d ∨ d + 11 < r → τ r = σ r) ∧ ∀ k, k < 12 → τ (d + k) = mixR k (σ (s + k)) (σ (d + k)) := by
  obtain ⟨t1, e1, f1, g1⟩ := row_cpy (n := 12) (k := d + 1) (n2 := 12) (k2 := s + 1) (σ := sc σ d (σ s 0)) (by omega) (by omega) (by omega) (by omega)
  obtain ⟨t2, e2, f2, g2⟩ := row_cpy (n := 12) (k := d + 2) (n2 := 12) (k2 := s + 2) (σ := t1) (by omega) (by omega) (by omega) (by omega)
  obtain ⟨t5, e5, f5, g5⟩ := row_cpy (n := 20) (k := d + 5) (n2 := 20) (k2 := s + 5) (σ := sc (sc t2 (d + 3) (σ (s + 3) 0)) (d + 4) (σ (s + 4) 0)) (by omega) (by omega) (by omega) (by omega)
  obtain ⟨t6, e6, f6, g6⟩ := row_cpy (n := 20) (k := d + 6) (n2 := 20) (k2 := s + 6) (σ := t5) (by omega) (by omega) (by omega) (by omega)
  obtain ⟨t7, e7, f7, g7⟩ := row_cpy (n := 120) (k := d + 7) (n2 := 120) (k2 := s + 7) (σ := t6) (by omega) (by omega) (by omega) (by omega)
  obtain ⟨t8, e8, f8, g8⟩ := row_cpy (n := 120) (k := d + 8) (n2 := 120) (k2 := s + 8) (σ := t7) (by omega) (by omega) (by omega) (by omega)
  obtain ⟨t9, e9, f9, g9⟩ := row_cpy (n := 120) (k := d + 9) (n2 := 120) (k2 := s + 9) (σ := t8) (by omega) (by omega) (by omega) (by omega)
  obtain ⟨t11, e11, f11, g11⟩ := row_cpy (n := 9) (k := d + 11) (n2 := 9) (k2 := s + 11) (σ := sc t9 (d + 10) (σ (s + 10) 0)) (by omega) (by omega) (by omega) (by omega)
  have q2 : ∀ r, r ≠ d → r ≠ d + 1 → r ≠ d + 2 → t2 r = σ r := fun r h1 h2 h3 => by rw [f2 r h3, f1 r h2, sc_ne h1]
  have q3 : ∀ r, r ≠ d → r ≠ d + 1 → r ≠ d + 2 → r ≠ d + 3 → r ≠ d + 4 → (sc (sc t2 (d + 3) (σ (s + 3) 0)) (d + 4) (σ (s + 4) 0)) r = σ r := fun r h1 h2 h3 h4 h5 => by rw [sc_ne h5, sc_ne h4, q2 r h1 h2 h3]
  have q9 : ∀ r, r ≠ d + 5 → r ≠ d + 6 → r ≠ d + 7 → r ≠ d + 8 → r ≠ d + 9 → t9 r = (sc (sc t2 (d + 3) (σ (s + 3) 0)) (d + 4) (σ (s + 4) 0)) r := fun r h1 h2 h3 h4 h5 => by rw [f9 r h5, f8 r h4, f7 r h3, f6 r h2, f5 r h1]
  refine ⟨t11, ?_, fun r hr => ?_, fun k hk => ?_⟩
  · unfold cpyB
    rw [Option.bind_some, Option.bind_some, e1, Option.bind_some, e2, Option.bind_some, Option.bind_some, q2 (s + 3) (by omega) (by omega) (by omega), Option.bind_some, Option.bind_some, sc_ne (by omega), q2 (s + 4) (by omega) (by omega) (by omega)]
    have ez : zb (σ (s + 4) 0) = some (σ (s + 4) 0) := by
      rw [hz]
      have : o = 0 ∨ o = 1 := by omega
      rcases this with z | z <;> subst z <;> rfl
    rw [ez, Option.bind_some, Option.bind_some, e5, Option.bind_some, e6, Option.bind_some, e7, Option.bind_some, e8, Option.bind_some, e9, Option.bind_some, Option.bind_some, q9 (s + 10) (by omega) (by omega) (by omega) (by omega) (by omega), q3 (s + 10) (by omega) (by omega) (by omega) (by omega) (by omega), Option.bind_some, e11, Option.bind_some]
  · rw [f11 r (by omega), sc_ne (by omega), q9 r (by omega) (by omega) (by omega) (by omega) (by omega), q3 r (by omega) (by omega) (by omega) (by omega) (by omega)]
  · have cs : k = 0 ∨ k = 1 ∨ k = 2 ∨ k = 3 ∨ k = 4 ∨ k = 5 ∨ k = 6 ∨ k = 7 ∨ k = 8 ∨ k = 9 ∨ k = 10 ∨ k = 11 := by omega
    rcases cs with z | z | z | z | z | z | z | z | z | z | z | z <;> subst z
    · rw [f11 _ (by omega), sc_ne (by omega), q9 _ (by omega) (by omega) (by omega) (by omega) (by omega), sc_ne (by omega), sc_ne (by omega), f2 _ (by omega), f1 _ (by omega)]
      exact sc_eq'
    · rw [f11 _ (by omega), sc_ne (by omega), q9 _ (by omega) (by omega) (by omega) (by omega) (by omega), sc_ne (by omega), sc_ne (by omega), f2 _ (by omega), g1, sc_ne (show s + 1 ≠ d by omega), sc_ne (show d + 1 ≠ d by omega)]
      rfl
    · rw [f11 _ (by omega), sc_ne (by omega), q9 _ (by omega) (by omega) (by omega) (by omega) (by omega), sc_ne (by omega), sc_ne (by omega), g2, f1 _ (show s + 2 ≠ d + 1 by omega), sc_ne (show s + 2 ≠ d by omega), f1 _ (show d + 2 ≠ d + 1 by omega), sc_ne (show d + 2 ≠ d by omega)]
      rfl
    · rw [f11 _ (by omega), sc_ne (by omega), q9 _ (by omega) (by omega) (by omega) (by omega) (by omega), sc_ne (by omega)]
      exact sc_eq'
    · rw [f11 _ (by omega), sc_ne (by omega), q9 _ (by omega) (by omega) (by omega) (by omega) (by omega)]
      exact sc_eq'
    · rw [f11 _ (by omega), sc_ne (by omega), f9 _ (by omega), f8 _ (by omega), f7 _ (by omega), f6 _ (by omega), g5, q3 (s + 5) (by omega) (by omega) (by omega) (by omega) (by omega), q3 (d + 5) (by omega) (by omega) (by omega) (by omega) (by omega)]
      rfl
    · rw [f11 _ (by omega), sc_ne (by omega), f9 _ (by omega), f8 _ (by omega), f7 _ (by omega), g6, f5 (s + 6) (by omega), f5 (d + 6) (by omega), q3 (s + 6) (by omega) (by omega) (by omega) (by omega) (by omega), q3 (d + 6) (by omega) (by omega) (by omega) (by omega) (by omega)]
      rfl
    · rw [f11 _ (by omega), sc_ne (by omega), f9 _ (by omega), f8 _ (by omega), g7, f6 (s + 7) (by omega), f6 (d + 7) (by omega), f5 (s + 7) (by omega), f5 (d + 7) (by omega), q3 (s + 7) (by omega) (by omega) (by omega) (by omega) (by omega), q3 (d + 7) (by omega) (by omega) (by omega) (by omega) (by omega)]
      rfl
    · rw [f11 _ (by omega), sc_ne (by omega), f9 _ (by omega), g8, f7 (s + 8) (by omega), f7 (d + 8) (by omega), f6 (s + 8) (by omega), f6 (d + 8) (by omega), f5 (s + 8) (by omega), f5 (d + 8) (by omega), q3 (s + 8) (by omega) (by omega) (by omega) (by omega) (by omega), q3 (d + 8) (by omega) (by omega) (by omega) (by omega) (by omega)]
      rfl
    · rw [f11 _ (by omega), sc_ne (by omega), g9, f8 (s + 9) (by omega), f8 (d + 9) (by omega), f7 (s + 9) (by omega), f7 (d + 9) (by omega), f6 (s + 9) (by omega), f6 (d + 9) (by omega), f5 (s + 9) (by omega), f5 (d + 9) (by omega), q3 (s + 9) (by omega) (by omega) (by omega) (by omega) (by omega), q3 (d + 9) (by omega) (by omega) (by omega) (by omega) (by omega)]
      rfl
    · rw [f11 _ (by omega)]
      exact sc_eq'
    · rw [g11, sc_ne (show s + 11 ≠ d + 10 by omega), sc_ne (show d + 11 ≠ d + 10 by omega), q9 (s + 11) (by omega) (by omega) (by omega) (by omega) (by omega), q9 (d + 11) (by omega) (by omega) (by omega) (by omega) (by omega), q3 (s + 11) (by omega) (by omega) (by omega) (by omega) (by omega), q3 (d + 11) (by omega) (by omega) (by omega) (by omega) (by omega)]
      rfl
/-- cells in range agree -/
def EqB (b c : Mm) : Prop := ∀ k, k < 12 → ∀ j, j < capN k → c k j = b k j
theorem EqB.g {b c : Mm} (h : EqB b c) {k j : Nat} (hk : k < 12) (hj : j < capN k) : gN c k j = gN b k j := by unfold gN; rw [h k hk j hj]
theorem EqB.S {b c : Mm} (h : EqB b c) {k j m : Nat} (hk : k < 12) (hj : j < capN k) (s : Sm b k j m) : Sm c k j m := by
  unfold Sm
  rw [h k hk j hj, h.g hk hj]
  exact s
theorem BookOK.cong {b c : Mm} (ok : BookOK b) (h : EqB b c) : BookOK c := by
  have hP : nP c = nP b := h.g (by omega) (by decide)
  have hR : nR c = nR b := h.g (by omega) (by decide)
  have hO : nO c = nO b := h.g (by omega) (by decide)
  have hK : nK c = nK b := h.g (by omega) (by decide)
  have hD : nD c = nD b := by unfold nD; rw [hR, hO]
  have hP12 := ok.P12
  have hR20 := ok.R20
  have hK9 := ok.K9
  have hDR := ok.DR
  have hB : ∀ r, r < nR b → nB c r = nB b r := fun r hr => h.g (by omega) (show r < 20 by omega)
  have hW : ∀ d, d < 120 → wN c d = wN b d := fun d hd => h.g (by omega) (show d < 120 from hd)
  have hk : ∀ d, d < 120 → kN c d = kN b d := fun d hd => h.g (by omega) (show d < 120 from hd)
  have ho : ∀ d, d < 120 → oN c d = oN b d := fun d hd => h.g (by omega) (show d < 120 from hd)
  have h6 : ∀ r, r < nR b → c 6 r = b 6 r := fun r hr => h 6 (by omega) r (show r < 20 by omega)
  have in6 : ∀ {r d}, r < nR b → d < nB b r → 6 * r + d < 120 := fun hr hd => by have := ok.B6 hr; omega
  obtain ⟨o1, o2, o3, o4, o5, o6, o7, o8, o9, o10, o11, o12, o13, o14⟩ := ok
  refine ⟨h.S (by omega) (by decide) o1, h.S (by omega) (by decide) o2, h.S (by omega) (by decide) o3, by rw [hO, hR]; exact o4, fun p hp => ?_, fun r hr => ?_, fun r hr => ?_, fun r hr e he => ?_, fun r hr e f he hf hef => ?_, fun r hr e he => ?_, fun r q hrq hq e f he hf => ?_, h.S (by omega) (by decide) o12, by rw [hK]; exact o13, fun i hi => ?_⟩
  · rw [hP] at hp
    exact ⟨h.S (by omega) (show p < 12 by omega) (o5 p hp).1, h.S (by omega) (show p < 12 by omega) (o5 p hp).2⟩
  · rw [hR] at hr
    exact h.S (by omega) (show r < 20 by omega) (o6 r hr)
  · rw [hR] at hr
    rw [h6 r hr, hP, h.g (k := 6) (by omega) (show r < 20 by omega)]
    exact o7 r hr
  · rw [hR] at hr
    rw [hB r hr] at he
    have hi := in6 hr he
    obtain ⟨a1, a2, a3, a4, a5, a6, a7⟩ := o8 r hr e he
    rw [h6 r hr, hP, hW _ hi, hk _ hi]
    exact ⟨h.S (by omega) (show 6 * r + e < 120 from hi) a1, h.S (by omega) (show 6 * r + e < 120 from hi) a2, h.S (by omega) (show 6 * r + e < 120 from hi) a3, a4, a5, a6, a7⟩
  · rw [hR] at hr
    rw [hB r hr] at he hf
    rw [hW _ (in6 hr he), hW _ (in6 hr hf), hk _ (in6 hr he), hk _ (in6 hr hf)]
    exact o9 r hr e f he hf hef
  · rw [hD] at hr
    have hr' : r < nR b := by omega
    rw [hB r hr'] at he
    rw [ho _ (in6 hr' he)]
    exact o10 r hr e he
  · rw [hR] at hq
    have hr : r < nR b := by omega
    rw [hB r hr] at he
    rw [hB q hq] at hf
    unfold SameTwo
    rw [ho _ (in6 hr he), hW _ (in6 hr he), hW _ (in6 hq hf), hk _ (in6 hr he), hk _ (in6 hq hf)]
    exact o11 r q hrq hq e f he hf
  · rw [hK] at hi
    exact h.S (by omega) (show i < 9 by omega) (o14 i hi)
