/-! ===== books that agree on the rounds that are done have one table ===== -/
def Dn (b c : Mm) : Prop := nP c = nP b ∧ nD c = nD b ∧ (∀ p, p < nP b → c 1 p = b 1 p) ∧ c 10 0 = b 10 0 ∧ c 11 = b 11 ∧ (∀ r, r < nD b → c 5 r = b 5 r ∧ c 6 r = b 6 r) ∧ ∀ d, d < 6 * nD b → c 7 d = b 7 d ∧ c 8 d = b 8 d ∧ c 9 d = b 9 d
theorem Dn.cel {b c : Mm} (h : Dn b c) {d : Nat} (hd : d < 6 * nD b) : wN c d = wN b d ∧ kN c d = kN b d ∧ oN c d = oN b d := by
  obtain ⟨e1, e2, e3⟩ := h.2.2.2.2.2.2 d hd
  unfold wN kN oN gN
  rw [e1, e2, e3]
  exact ⟨rfl, rfl, rfl⟩
theorem Dn.br {b c : Mm} (h : Dn b c) (ok : BookOK b) {p r : Nat} (hr : r < nD b) : brd c p r = brd b p r := by
  have h6 := ok.B6 (Nat.lt_of_lt_of_le hr ok.DR)
  have hB : nB c r = nB b r := by unfold nB gN; rw [(h.2.2.2.2.2.1 r hr).1]
  unfold brd
  rw [hB, fnd_cong (q := onB c p r) (q' := onB b p r) (fun i hi => by
    obtain ⟨e1, e2, -⟩ := h.cel (d := 6 * r + i) (by omega)
    unfold onB
    rw [e1, e2])]
theorem Dn.brc {b c : Mm} (h : Dn b c) (ok : BookOK b) {p r d : Nat} (hr : r < nD b) (hb : brd b p r = some d) : wN c d = wN b d ∧ kN c d = kN b d ∧ oN c d = oN b d := by
  have h6 := ok.B6 (Nat.lt_of_lt_of_le hr ok.DR)
  obtain ⟨i, hi, e, -⟩ := brd_some hb
  exact h.cel (by omega)
theorem Dn.op {b c : Mm} (h : Dn b c) (ok : BookOK b) {p r d : Nat} (hr : r < nD b) (hb : brd b p r = some d) : opp c p d = opp b p d ∧ mk c p d = mk b p d := by
  obtain ⟨e1, e2, e3⟩ := h.brc ok hr hb
  unfold opp mk
  rw [e1, e2, e3]
  exact ⟨rfl, rfl⟩
theorem Dn.pls {b c : Mm} (h : Dn b c) (ok : BookOK b) {p r : Nat} (hr : r < nD b) : pl c p r = pl b p r := by
  have hb := h.br ok (p := p) hr
  cases hx : brd b p r with
  | none =>
    rw [hx] at hb
    have e1 : pl c p r = none := by unfold pl; rw [hb]
    have e2 : pl b p r = none := by unfold pl; rw [hx]
    rw [e1, e2]
  | some d =>
    rw [hx] at hb
    rw [pl_of hb, pl_of hx, (h.brc ok hr hx).2.2]
theorem Dn.mis {b c : Mm} (h : Dn b c) (ok : BookOK b) {p r : Nat} (hr : r < nD b) : mi c p r = mi b p r := by
  have hb := h.br ok (p := p) hr
  unfold mi
  rw [(h.2.2.2.2.2.1 r hr).2, hb]
  cases hx : brd b p r with
  | none => rfl
  | some d =>
    dsimp only
    rw [(h.op ok hr hx).2]
theorem Dn.ptn {b c : Mm} (h : Dn b c) (ok : BookOK b) {p n : Nat} (hn : n ≤ nD b) : ptsN c p n = ptsN b p n := by
  unfold ptsN
  exact sm_cong (fun k hk => h.mis ok (by omega))
theorem Dn.pt {b c : Mm} (h : Dn b c) (ok : BookOK b) (p : Nat) : pts c p = pts b p := by
  unfold pts
  rw [h.2.1]
  exact h.ptn ok (Nat.le_refl _)
theorem Dn.plf {b c : Mm} (h : Dn b c) (ok : BookOK b) {p r : Nat} {f g : Nat → Nat} (hr : r < nD b) (hf : ∀ d, brd b p r = some d → f d = g d) : plF c p f r = plF b p g r := by
  have e := h.pls ok (p := p) hr
  cases hx : pl b p r with
  | none => rw [plF_none hx, plF_none (e.trans hx)]
  | some d => rw [plF_some hx, plF_some (e.trans hx), hf d (pl_some hx).1]
theorem Dn.sum {b c : Mm} (h : Dn b c) (ok : BookOK b) {p : Nat} {f g : Nat → Nat} (hf : ∀ r d, r < nD b → brd b p r = some d → f d = g d) : sm (plF c p f) (nD c) = sm (plF b p g) (nD b) := by
  rw [h.2.1]
  exact sm_cong (fun k hk => h.plf ok hk (fun d => hf k d hk))
theorem Dn.played {b c : Mm} (h : Dn b c) (ok : BookOK b) (p : Nat) : playedN c p = playedN b p := h.sum ok (fun _ _ _ _ => rfl)
theorem Dn.blacks {b c : Mm} (h : Dn b c) (ok : BookOK b) (p : Nat) : blacksN c p = blacksN b p := h.sum ok (fun r d hr hb => by rw [(h.brc ok hr hb).2.1])
theorem Dn.wins {b c : Mm} (h : Dn b c) (ok : BookOK b) (p : Nat) : winsN c p = winsN b p := h.sum ok (fun r d hr hb => by rw [(h.op ok hr hb).2])
theorem Dn.opps {b c : Mm} (h : Dn b c) (ok : BookOK b) (p : Nat) : oppsN c p = oppsN b p := h.sum ok (fun r d hr hb => by rw [(h.op ok hr hb).1, h.pt ok])
theorem Dn.beat {b c : Mm} (h : Dn b c) (ok : BookOK b) (p : Nat) : beatN c p = beatN b p := h.sum ok (fun r d hr hb => by rw [(h.op ok hr hb).1, (h.op ok hr hb).2, h.pt ok])
theorem Dn.dir {b c : Mm} (h : Dn b c) (ok : BookOK b) (p : Nat) : dirN c p = dirN b p := h.sum ok (fun r d hr hb => by rw [(h.op ok hr hb).1, (h.op ok hr hb).2, h.pt ok, h.pt ok])
theorem Dn.grow {b c : Mm} (h : Dn b c) (ok : BookOK b) (p : Nat) : growN c p = growN b p := by
  unfold growN
  rw [h.2.1]
  exact sm_cong (fun k hk => h.ptn ok (by omega))
theorem Dn.byes {b c : Mm} (h : Dn b c) (p : Nat) : byesN c p = byesN b p := by
  unfold byesN
  rw [h.2.1]
  exact sm_cong (fun k hk => by rw [(h.2.2.2.2.2.1 k hk).2])
theorem Dn.forf {b c : Mm} (h : Dn b c) (ok : BookOK b) (p : Nat) : forfN c p = forfN b p := by
  unfold forfN
  rw [h.2.1]
  refine sm_cong (fun k hk => ?_)
  unfold forfF
  rw [h.br ok hk]
  cases hx : brd b p k with
  | none => rfl
  | some d =>
    obtain ⟨e1, e2, e3⟩ := h.brc ok hk hx
    dsimp only
    rw [e1, e3]
theorem Dn.least {b c : Mm} (h : Dn b c) (ok : BookOK b) (p : Nat) : ∀ n, n ≤ nD b → leastL c p n = leastL b p n
  | 0, _ => rfl
  | n + 1, hn => by
    have ih := Dn.least h ok p n (by omega)
    have e := h.pls ok (p := p) (r := n) (by omega)
    cases hx : pl b p n with
    | none => rw [leastL_none hx, leastL_none (e.trans hx), ih]
    | some d => rw [leastL_some hx, leastL_some (e.trans hx), ih, (h.op ok (by omega) (pl_some hx).1).1, h.pt ok]
theorem Dn.cut {b c : Mm} (h : Dn b c) (ok : BookOK b) (p : Nat) : cutN c p = cutN b p := by
  unfold cutN
  rw [h.2.1, h.least ok p _ (Nat.le_refl _), h.opps ok]
theorem Dn.mets {b c : Mm} (h : Dn b c) (ok : BookOK b) (p q : Nat) : ∀ n, n ≤ nD b → metL c p q n = metL b p q n ∧ madeL c p q n = madeL b p q n
  | 0, _ => ⟨rfl, rfl⟩
  | n + 1, hn => by
    obtain ⟨i1, i2⟩ := Dn.mets h ok p q n (by omega)
    have e := h.pls ok (p := p) (r := n) (by omega)
    cases hx : pl b p n with
    | none => rw [metL_none hx, metL_none (e.trans hx), madeL_none hx, madeL_none (e.trans hx)]; exact ⟨i1, i2⟩
    | some d => rw [metL_some hx, metL_some (e.trans hx), madeL_some hx, madeL_some (e.trans hx), (h.op ok (by omega) (pl_some hx).1).1, (h.op ok (by omega) (pl_some hx).1).2, i1, i2]; exact ⟨rfl, rfl⟩
theorem Dn.lats {b c : Mm} (h : Dn b c) (ok : BookOK b) (p : Nat) : lat c p = lat b p := by
  have key : ∀ n, n ≤ nD b → latL c p n = latL b p n := by
    intro n
    induction n with
    | zero => intro _; rfl
    | succ n ih =>
      intro hn
      have e := h.pls ok (p := p) (r := n) (by omega)
      cases hx : pl b p n with
      | none => rw [latL_none hx, latL_none (e.trans hx)]; exact ih (by omega)
      | some d => rw [latL_some hx, latL_some (e.trans hx), (h.brc ok (by omega) (pl_some hx).1).1]
  show latL c p (nD c) = latL b p (nD b)
  rw [h.2.1]
  exact key _ (Nat.le_refl _)
theorem Dn.tie {b c : Mm} (h : Dn b c) (ok : BookOK b) {p : Nat} (hp : p < nP b) (w : Nat) : tieN c p w = tieN b p w := by
  have h8 : gN c 1 p = gN b 1 p := by unfold gN; rw [h.2.2.1 p hp]
  match w with
  | 0 => exact h.pt ok p
  | 1 => exact h.opps ok p
  | 2 => exact h.cut ok p
  | 3 => exact h.beat ok p
  | 4 => exact h.wins ok p
  | 5 => exact h.blacks ok p
  | 6 => exact h.grow ok p
  | 7 => exact h.dir ok p
  | w + 8 => exact h8
theorem Dn.ah {b c : Mm} (h : Dn b c) (ok : BookOK b) {p q : Nat} (hp : p < nP b) (hq : q < nP b) : ahd c p q = ahd b p q := by
  have eK : nK c = nK b := by unfold nK gN; rw [h.2.2.2.1]
  have et : ∀ x, x < nP b → ∀ i, tK c x i = tK b x i := fun x hx i => by
    unfold tK
    rw [show gN c 11 i = gN b 11 i by unfold gN; rw [h.2.2.2.2.1]]
    exact h.tie ok hx _
  have ed : dfK c p q = dfK b p q := by
    unfold dfK
    rw [eK, show (fun i => decide (tK c p i ≠ tK c q i)) = (fun i => decide (tK b p i ≠ tK b q i)) from funext (fun i => by rw [et p hp, et q hq])]
  unfold ahd
  rw [ed]
  cases dfK b p q with
  | none => rfl
  | some i =>
    dsimp only
    rw [et p hp, et q hq]
theorem Dn.rks {b c : Mm} (h : Dn b c) (ok : BookOK b) {p : Nat} (hp : p < nP b) : rkN c p = rkN b p := by
  unfold rkN rk
  rw [h.1]
  exact sm_cong (fun k hk => by rw [h.ah ok hk hp])
theorem Dn.sts {b c : Mm} (h : Dn b c) (ok : BookOK b) (i : Nat) : stN c i = stN b i := by
  unfold stN
  rw [h.1, fnd_cong (q := fun p => rkN c p == i) (q' := fun p => rkN b p == i) (fun p hp => by rw [h.rks ok hp])]
theorem TabOK.dn {b c τ : Mm} (ht : TabOK b τ) (h : Dn b c) (ok : BookOK b) : TabOK c τ := by
  refine ⟨fun x hx => ?_, fun i hi => by rw [h.sts ok]; exact ht.2 i (by rw [← h.1]; exact hi)⟩
  have hx' : x < nP b := by rw [← h.1]; exact hx
  obtain ⟨h0, a1, a2, a3, a4, a5, hq⟩ := ht.1 x hx'
  refine ⟨fun t ht => by rw [h.tie ok hx']; exact h0 t ht, by rw [h.played ok]; exact a1, ?_, by rw [h.lats ok]; exact a3, by rw [h.byes]; exact a4, by rw [h.forf ok]; exact a5, fun q hqP => ?_⟩
  · unfold balI; rw [h.played ok, h.blacks ok]; exact a2
  · have hqP' : q < nP b := by rw [← h.1]; exact hqP
    obtain ⟨e1, e2⟩ := h.mets ok x q (nD b) (Nat.le_refl _)
    unfold met
    rw [h.2.1, e1, e2]
    exact hq q hqP'
