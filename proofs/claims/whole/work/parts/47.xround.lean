/-! ===== the class's table, round by round ===== -/
theorem wh2_inv {A1 A2 α : Type} {f : (A1 → A2 → Option α) → A1 → A2 → Option α} (n : Nat) (I : Nat → A1 → Prop) (s2 : Nat → A2) (Po : α → Prop) (hs : ∀ k, k < n → ∀ a, I k a → ∃ a', I (k + 1) a' ∧ ∀ r, f r a (s2 k) = r a' (s2 (k + 1))) (hx : ∀ a, I n a → ∀ r, ∃ o, f r a (s2 n) = some o ∧ Po o) : ∀ F, n < F → ∀ a, I 0 a → ∃ o, wh2 f F a (s2 0) = some o ∧ Po o := by
  have key : ∀ d k F a, k + d = n → d < F → I k a → ∃ o, wh2 f F a (s2 k) = some o ∧ Po o := by
    intro d
    induction d with
    | zero =>
      intro k F a hk hF hI
      obtain ⟨F, rfl⟩ : ∃ G, F = G + 1 := ⟨F - 1, by omega⟩
      have hk' : k = n := by omega
      subst hk'
      exact hx a hI _
    | succ d ih =>
      intro k F a hk hF hI
      obtain ⟨F, rfl⟩ : ∃ G, F = G + 1 := ⟨F - 1, by omega⟩
      obtain ⟨a', h1, h2⟩ := hs k (by omega) a hI
      show ∃ o, f (wh2 f F) a (s2 k) = some o ∧ Po o
      rw [h2]
      exact ih (k + 1) F a' (by omega) (by omega) h1
  exact fun F hF a hI => key n 0 F a (by omega) hF hI
theorem bal1 (A M : Int32) : A - M + 1 = A + 1 - M := by
  rw [Int32.sub_eq_add_neg, Int32.sub_eq_add_neg, Int32.add_assoc, Int32.add_comm (-M) 1, ← Int32.add_assoc]
theorem bal2 (A M : Int32) : A - M + (-1) = A + 1 - (M + 2) := by
  rw [show (-1 : Int32) = 1 + -2 by decide]
  simp only [Int32.sub_eq_add_neg, Int32.neg_add]
  ac_rfl
def madeL (b : Mm) (p q : Nat) : Nat → Nat
  | 0 => 0
  | n + 1 => match pl b p n with
    | none => madeL b p q n
    | some c => if opp b p c = q then mk b p c else madeL b p q n
theorem madeL_none {b : Mm} {p q k : Nat} (h : pl b p k = none) : madeL b p q (k + 1) = madeL b p q k := by
  show (match pl b p k with | none => madeL b p q k | some c => if opp b p c = q then mk b p c else madeL b p q k) = _
  rw [h]
theorem madeL_some {b : Mm} {p q k c : Nat} (h : pl b p k = some c) : madeL b p q (k + 1) = if opp b p c = q then mk b p c else madeL b p q k := by
  show (match pl b p k with | none => madeL b p q k | some c => if opp b p c = q then mk b p c else madeL b p q k) = _
  rw [h]
def wF (b : Mm) (x : Nat) : Nat → Nat := plF b x (fun c => if mk b x c = 2 then 1 else 0)
def kF (b : Mm) (x : Nat) : Nat → Nat := plF b x (fun c => if kN b c = x then 1 else 0)
def oF (b : Mm) (x : Nat) : Nat → Nat := plF b x (fun _ => 1)
def gF (b : Mm) (x : Nat) : Nat → Nat := fun r => ptsN b x (r + 1)
def yF (b : Mm) (x : Nat) : Nat → Nat := fun r => if b 6 r = nI x then 1 else 0
/-- what the table says of a player: behind n rounds (boards), g rounds (growth), y rounds (byes) -/
def VI (b : Mm) (x n g y : Nat) (σ : Mm) : Prop :=
  σ 50 (9 * x) = nI (ptsN b x n) ∧ (σ 50 (9 * x + 1) = 0 ∧ σ 50 (9 * x + 2) = 0 ∧ σ 50 (9 * x + 3) = 0 ∧ σ 50 (9 * x + 7) = 0 ∧ σ 50 (9 * x + 8) = 0) ∧
  σ 50 (9 * x + 4) = nI (sm (wF b x) n) ∧ σ 50 (9 * x + 5) = nI (sm (kF b x) n) ∧ σ 50 (9 * x + 6) = nI (sm (gF b x) g) ∧
  σ 51 x = nI (sm (oF b x) n) ∧ σ 52 x = nI (sm (oF b x) n) - (2 : Int32) * nI (sm (kF b x) n) ∧ σ 53 x = latL b x n ∧ σ 54 x = nI (sm (yF b x) y) ∧ σ 55 x = nI (sm (forfF b x) n) ∧
  ∀ q, q < nP b → σ 56 (12 * x + q) = metL b x q n ∧ σ 57 (12 * x + q) = nI (madeL b x q n)
/-- a cell of the table that isn't player x's -/
def Off (x k j : Nat) : Prop := ¬ (k = 50 ∧ 9 * x ≤ j ∧ j ≤ 9 * x + 8) ∧ ¬ ((k = 51 ∨ k = 52 ∨ k = 53 ∨ k = 54 ∨ k = 55) ∧ j = x) ∧ ¬ ((k = 56 ∨ k = 57) ∧ 12 * x ≤ j ∧ j < 12 * x + 12)
theorem VI.cong {b : Mm} {x z n g y : Nat} {σ τ : Mm} (ok : BookOK b) (hxz : x ≠ z) (h : VI b x n g y σ) (ho : ∀ k j, Off z k j → τ k j = σ k j) : VI b x n g y τ := by
  have hP := ok.P12
  obtain ⟨h0, ⟨h1, h2, h3, h7, h8⟩, h4, h5, h6, a1, a2, a3, a4, a5, hq⟩ := h
  refine ⟨?_, ⟨?_, ?_, ?_, ?_, ?_⟩, ?_, ?_, ?_, ?_, ?_, ?_, ?_, ?_, fun q hqP => ⟨?_, ?_⟩⟩
  · rw [ho _ _ ⟨by omega, by omega, by omega⟩]; exact h0
  · rw [ho _ _ ⟨by omega, by omega, by omega⟩]; exact h1
  · rw [ho _ _ ⟨by omega, by omega, by omega⟩]; exact h2
  · rw [ho _ _ ⟨by omega, by omega, by omega⟩]; exact h3
  · rw [ho _ _ ⟨by omega, by omega, by omega⟩]; exact h7
  · rw [ho _ _ ⟨by omega, by omega, by omega⟩]; exact h8
  · rw [ho _ _ ⟨by omega, by omega, by omega⟩]; exact h4
  · rw [ho _ _ ⟨by omega, by omega, by omega⟩]; exact h5
  · rw [ho _ _ ⟨by omega, by omega, by omega⟩]; exact h6
  · rw [ho _ _ ⟨by omega, by omega, by omega⟩]; exact a1
  · rw [ho _ _ ⟨by omega, by omega, by omega⟩]; exact a2
  · rw [ho _ _ ⟨by omega, by omega, by omega⟩]; exact a3
  · rw [ho _ _ ⟨by omega, by omega, by omega⟩]; exact a4
  · rw [ho _ _ ⟨by omega, by omega, by omega⟩]; exact a5
  · rw [ho _ _ ⟨by omega, by omega, by omega⟩]; exact (hq q hqP).1
  · rw [ho _ _ ⟨by omega, by omega, by omega⟩]; exact (hq q hqP).2
theorem us_skip {σ : Mm} {k i : Nat} {v : Int32} {k' j : Nat} (h : ¬ (k' = k ∧ j = i)) : us σ k i v k' j = σ k' j := by rw [us_read, if_neg h]
theorem cpd_off {b σ : Mm} {x r c k j : Nat} (ho : opp b x c < 12) (h : Off x k j) : cpd b x r c σ k j = σ k j := by
  obtain ⟨h1, h2, h3⟩ := h
  unfold cpd
  rw [us_skip (by omega), us_skip (by omega), us_skip (by omega), us_skip (by omega), us_skip (by omega), us_skip (by omega), us_skip (by omega)]
theorem csd_off {b σ : Mm} {x r c k j : Nat} (ho : opp b x c < 12) (h : Off x k j) : csd b x r c σ k j = σ k j := by
  have h' := h
  obtain ⟨h1, h2, h3⟩ := h
  unfold csd
  by_cases q : 1 ≤ outX b x c ∧ outX b x c ≤ 3
  · rw [if_pos q, cpd_off ho h', if_neg (by omega), us_skip (by omega)]
  · rw [if_neg q]
    by_cases o4 : outX b x c = 4
    · rw [if_pos o4, us_skip (by omega), us_skip (by omega)]
    · rw [if_neg o4, us_skip (by omega)]
theorem pl_of {b : Mm} {x r c : Nat} (h : brd b x r = some c) : pl b x r = if 1 ≤ oN b c ∧ oN b c ≤ 3 then some c else none := by unfold pl; rw [h]
theorem VI.side {b σ : Mm} {x r d : Nat} (ok : BookOK b) (hr : r < nR b) (hd : d < nB b r) (hx : x < nP b) (hb : brd b x r = some (6 * r + d)) (h : VI b x r r r σ) : VI b x (r + 1) r r (csd b x r (6 * r + d) σ) := by
  have hP := ok.P12
  obtain ⟨hlt, -, -, -, hw, hk, hne, ho6, hor⟩ := cellOK ok hr hb
  have hopp := opp_lt ok hr hb
  obtain ⟨h0, ⟨h1, h2, h3, h7, h8⟩, h4, h5, h6, a1, a2, a3, a4, a5, hq⟩ := h
  have hnb : ¬ b 6 r = nI x := fun z => by
    have := ok.noBye hr hd hx z
    rcases hor with q | q
    · exact this.1 q
    · exact this.2 q
  have ep : ptsN b x (r + 1) = ptsN b x r + pf (outX b x (6 * r + d)) := by
    unfold ptsN
    rw [sm_succ, pf_out]
    unfold mi
    rw [if_neg hnb, hb]
  have ef : sm (forfF b x) (r + 1) = sm (forfF b x) r + (if outX b x (6 * r + d) = 4 then 1 else 0) := by
    rw [sm_succ]
    unfold forfF
    rw [hb]
    dsimp only
    unfold outX
    (repeat' split) <;> omega
  have eo : (1 ≤ outX b x (6 * r + d) ∧ outX b x (6 * r + d) ≤ 3) ↔ (1 ≤ oN b (6 * r + d) ∧ oN b (6 * r + d) ≤ 3) := by
    unfold outX
    (repeat' split) <;> omega
  generalize hc : 6 * r + d = c at *
  unfold csd
  dsimp only
  by_cases q : 1 ≤ outX b x c ∧ outX b x c ≤ 3
  · have hpl : pl b x r = some c := by rw [pl_of hb, if_pos (eo.mp q)]
    have ew : sm (wF b x) (r + 1) = sm (wF b x) r + (if outX b x c = 1 then 1 else 0) := by
      rw [sm_succ]
      unfold wF
      rw [plF_some hpl]
      have := eo.mp q
      unfold outX mk at *
      (repeat' split) <;> omega
    have ek : sm (kF b x) (r + 1) = sm (kF b x) r + (if wN b c = x then 0 else 1) := by
      rw [sm_succ]
      unfold kF
      rw [plF_some hpl]
      (repeat' split) <;> omega
    have eO : sm (oF b x) (r + 1) = sm (oF b x) r + 1 := by
      rw [sm_succ]
      unfold oF
      rw [plF_some hpl]
    rw [if_pos q, if_neg (by omega)]
    unfold cpd
    dsimp only
    refine ⟨?_, ⟨?_, ?_, ?_, ?_, ?_⟩, ?_, ?_, ?_, ?_, ?_, ?_, ?_, ?_, fun z hz => ⟨?_, ?_⟩⟩
    · rw [us_skip (by omega), us_skip (by omega), us_skip (by omega), us_skip (by omega), us_skip (by omega), us_skip (by omega), us_skip (by omega), us_at, h0, nI_add, ep]
    · (repeat rw [us_skip (by omega)]); exact h1
    · (repeat rw [us_skip (by omega)]); exact h2
    · (repeat rw [us_skip (by omega)]); exact h3
    · (repeat rw [us_skip (by omega)]); exact h7
    · (repeat rw [us_skip (by omega)]); exact h8
    · rw [us_skip (by omega), us_skip (by omega), us_at, us_skip (by omega), us_skip (by omega), us_skip (by omega), us_skip (by omega), us_skip (by omega), h4, ew]
      split
      · exact nI_1 _
      · rw [Nat.add_zero, Int32.add_zero]
    · rw [us_skip (by omega), us_skip (by omega), us_skip (by omega), us_at, us_skip (by omega), us_skip (by omega), us_skip (by omega), us_skip (by omega), h5, ek]
      split
      · rw [Nat.add_zero, Int32.add_zero]
      · exact nI_1 _
    · (repeat rw [us_skip (by omega)]); exact h6
    · rw [us_skip (by omega), us_skip (by omega), us_skip (by omega), us_skip (by omega), us_skip (by omega), us_skip (by omega), us_at, us_skip (by omega), a1, eO]
      exact nI_1 _
    · rw [us_skip (by omega), us_skip (by omega), us_skip (by omega), us_skip (by omega), us_at, us_skip (by omega), us_skip (by omega), us_skip (by omega), a2, eO, ek]
      by_cases zw : wN b c = x
      · rw [if_pos zw, if_pos zw, bal1, nI_1]
        rfl
      · rw [if_neg zw, if_neg zw, bal2, nI_1, ← nI_1 (sm (kF b x) r), Int32.mul_add]
        rfl
    · rw [us_skip (by omega), us_skip (by omega), us_skip (by omega), us_skip (by omega), us_skip (by omega), us_at, latL_some hpl]
    · (repeat rw [us_skip (by omega)]); exact a4
    · rw [us_skip (by omega), us_skip (by omega), us_skip (by omega), us_skip (by omega), us_skip (by omega), us_skip (by omega), us_skip (by omega), us_skip (by omega), a5, ef, if_neg (by omega)]
      rfl
    · rw [metL_some hpl]
      by_cases e : opp b x c = z
      · subst e
        rw [us_skip (by omega), us_at, if_pos rfl]
      · rw [if_neg e, us_skip (by omega), us_skip (by omega), us_skip (by omega), us_skip (by omega), us_skip (by omega), us_skip (by omega), us_skip (by omega), us_skip (by omega)]
        exact (hq z hz).1
    · rw [madeL_some hpl]
      by_cases e : opp b x c = z
      · subst e
        rw [us_at, if_pos rfl, pf_out]
      · rw [if_neg e, us_skip (by omega), us_skip (by omega), us_skip (by omega), us_skip (by omega), us_skip (by omega), us_skip (by omega), us_skip (by omega), us_skip (by omega)]
        exact (hq z hz).2
  · have hpl : pl b x r = none := by rw [pl_of hb, if_neg (fun y => q (eo.mpr y))]
    have ew : sm (wF b x) (r + 1) = sm (wF b x) r := by rw [sm_succ]; unfold wF; rw [plF_none hpl]; rfl
    have ek : sm (kF b x) (r + 1) = sm (kF b x) r := by rw [sm_succ]; unfold kF; rw [plF_none hpl]; rfl
    have eO : sm (oF b x) (r + 1) = sm (oF b x) r := by rw [sm_succ]; unfold oF; rw [plF_none hpl]; rfl
    rw [if_neg q]
    have key : ∀ τ : Mm, (∀ k j, ¬ (k = 50 ∧ j = 9 * x) → ¬ (k = 55 ∧ j = x) → τ k j = σ k j) → τ 50 (9 * x) = nI (ptsN b x (r + 1)) → τ 55 x = nI (sm (forfF b x) (r + 1)) → VI b x (r + 1) r r τ := by
      intro τ hτ t0 t5
      refine ⟨t0, ⟨?_, ?_, ?_, ?_, ?_⟩, ?_, ?_, ?_, ?_, ?_, ?_, ?_, t5, fun z hz => ⟨?_, ?_⟩⟩
      · rw [hτ _ _ (by omega) (by omega)]; exact h1
      · rw [hτ _ _ (by omega) (by omega)]; exact h2
      · rw [hτ _ _ (by omega) (by omega)]; exact h3
      · rw [hτ _ _ (by omega) (by omega)]; exact h7
      · rw [hτ _ _ (by omega) (by omega)]; exact h8
      · rw [hτ _ _ (by omega) (by omega), ew]; exact h4
      · rw [hτ _ _ (by omega) (by omega), ek]; exact h5
      · rw [hτ _ _ (by omega) (by omega)]; exact h6
      · rw [hτ _ _ (by omega) (by omega), eO]; exact a1
      · rw [hτ _ _ (by omega) (by omega), eO, ek]; exact a2
      · rw [hτ _ _ (by omega) (by omega), latL_none hpl]; exact a3
      · rw [hτ _ _ (by omega) (by omega)]; exact a4
      · rw [hτ _ _ (by omega) (by omega), metL_none hpl]; exact (hq z hz).1
      · rw [hτ _ _ (by omega) (by omega), madeL_none hpl]; exact (hq z hz).2
    by_cases o4 : outX b x c = 4
    · rw [if_pos o4]
      refine key _ (fun k j n1 n2 => by rw [us_skip (by omega), us_skip (by omega)]) ?_ ?_
      · rw [us_skip (by omega), us_at, h0, nI_add, ep]
      · rw [us_at, us_skip (by omega), a5, ef, if_pos o4]
        exact nI_1 _
    · rw [if_neg o4]
      refine key _ (fun k j n1 n2 => by rw [us_skip (by omega)]) ?_ ?_
      · rw [us_at, h0, nI_add, ep]
      · rw [us_skip (by omega), a5, ef, if_neg o4]
        rfl
