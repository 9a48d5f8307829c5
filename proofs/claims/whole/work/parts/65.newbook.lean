/-! ===== the book with the round that pairing opened ===== -/
theorem lay_off {f : Nat → Int32} {R d : Nat} {g : Nat → Int32} (h : d < 6 * R) : ∀ t, lay f R g t d = f d
  | 0 => rfl
  | t + 1 => by
    show upd (lay f R g t) (6 * R + t) (g t) d = f d
    rw [upd_off (by omega), lay_off h t]
theorem lay_at {f : Nat → Int32} {R t : Nat} {g : Nat → Int32} : ∀ n, t < n → lay f R g n (6 * R + t) = g t
  | 0, h => absurd h (Nat.not_lt_zero _)
  | n + 1, h => by
    show upd (lay f R g n) (6 * R + n) (g n) (6 * R + t) = g t
    by_cases e : t = n
    · subst e; exact upd_at
    · rw [upd_off (by omega), lay_at n (by omega)]
theorem opn_ne {b : Mm} {t k : Nat} (h : k < 5 ∨ 9 < k) : opn b t k = b k := by
  unfold opn
  rw [if_neg (by omega), if_neg (by omega), if_neg (by omega), if_neg (by omega), if_neg (by omega)]
theorem opn_agr (b : Mm) (t : Nat) : Agr b (opn b t) := by
  refine ⟨fun k hk => opn_ne (by omega), fun r hr => ⟨upd_off (by omega), upd_off (by omega)⟩, fun d hd => ⟨lay_off hd t, lay_off hd t, lay_off hd t⟩⟩
theorem newB_ne {b : Mm} {k : Nat} (h3 : k ≠ 3) (h4 : k ≠ 4) : newB b k = opn b (nQ b / 2) k := by
  unfold newB
  rw [sc_ne h4, sc_ne h3]
theorem newB_dn {b : Mm} (ok : BookOK b) (hO : nO b = 0) : Dn b (newB b) := by
  have h20 := ok.R20
  have hD : nD b = nR b := by unfold nD; omega
  have h3 : nR (newB b) = nR b + 1 := gN_of (by unfold newB; rw [sc_ne (by omega), sc_at]) (by omega)
  have h4 : nO (newB b) = 1 := gN_of (n := 1) (by unfold newB; rw [sc_at]; rfl) (by omega)
  refine ⟨?_, ?_, fun p _ => ?_, ?_, ?_, fun r hr => ?_, fun d hd => ?_⟩
  · unfold nP gN; rw [newB_ne (by omega) (by omega), opn_ne (by omega)]
  · unfold nD; rw [h3, h4, hO]; omega
  · rw [newB_ne (by omega) (by omega), opn_ne (by omega)]
  · rw [newB_ne (by omega) (by omega), opn_ne (by omega)]
  · rw [newB_ne (by omega) (by omega), opn_ne (by omega)]
  · rw [hD] at hr
    rw [newB_ne (by omega) (by omega), newB_ne (by omega) (by omega)]
    exact (opn_agr b _).2.1 r hr
  · rw [hD] at hd
    rw [newB_ne (by omega) (by omega), newB_ne (by omega) (by omega), newB_ne (by omega) (by omega)]
    exact (opn_agr b _).2.2 d hd
theorem nodup_inj : ∀ (L : List Nat) (i j p : Nat), L.Nodup → L[i]? = some p → L[j]? = some p → i = j
  | [], i, j, p, _, h, _ => by simp at h
  | a :: t, 0, 0, p, _, _, _ => rfl
  | a :: t, 0, j + 1, p, hn, h, h2 => by
    simp at h h2
    subst h
    exact absurd (List.mem_of_getElem? h2) (List.nodup_cons.mp hn).1
  | a :: t, i + 1, 0, p, hn, h, h2 => by
    simp at h h2
    subst h2
    exact absurd (List.mem_of_getElem? h) (List.nodup_cons.mp hn).1
  | a :: t, i + 1, j + 1, p, hn, h, h2 => by
    simp at h h2
    rw [nodup_inj t i j p (List.nodup_cons.mp hn).2 h h2]
theorem seat_inj {b : Mm} {i j : Nat} (hi : i < nQ b) (hj : j < nQ b) (h : seat b i = seat b j) : i = j := nodup_inj (seatL b) i j (seat b i) (by unfold seatL; exact List.Pairwise.filter _ (sK_nodup b)) (seat_at hi) (by rw [h]; exact seat_at hj)
theorem seat_bye {b : Mm} {i : Nat} (hi : i < nQ b) : byeO b ≠ some (seat b i) := by
  have h := List.mem_of_getElem? (seat_at hi)
  unfold seatL at h
  exact of_decide_eq_true (List.mem_filter.mp h).2
theorem Agr.ok {b c : Mm} (h : Agr b c) (ok : BookOK b) : BookOK c := by
  have hc : ∀ {r d : Nat}, r < nR b → d < nB b r → 6 * r + d < 6 * nR b := fun {r d} hr hd => by have := ok.B6 hr; omega
  refine ⟨?_, ?_, ?_, ?_, fun p hp => ?_, fun r hr => ?_, fun r hr => ?_, fun r hr d hd => ?_, fun r hr d e hd he hne => ?_, fun r hr d hd => ?_, fun r q hrq hq d e hd he h1 h3 => ?_, ?_, ?_, fun i hi => ?_⟩
  · exact Sm.cong ok.1 (by rw [h.1 0 (by omega)])
  · exact Sm.cong ok.2.1 (by rw [h.1 3 (by omega)])
  · exact Sm.cong ok.2.2.1 (by rw [h.1 4 (by omega)])
  · rw [h.R, h.O]; exact ok.OR
  · rw [h.P] at hp
    exact ⟨Sm.cong (ok.rating hp) (by rw [h.1 1 (by omega)]), Sm.cong (ok.inn hp) (by rw [h.1 2 (by omega)])⟩
  · rw [h.R] at hr
    exact Sm.cong ⟨ok.B hr, ok.B6 hr⟩ (h.2.1 r hr).1
  · rw [h.R] at hr
    rw [show gN c 6 r = gN b 6 r by unfold gN; rw [(h.2.1 r hr).2], (h.2.1 r hr).2, h.P]
    exact ok.bye hr
  · rw [h.R] at hr
    rw [h.B hr] at hd
    obtain ⟨e1, e2, e3⟩ := h.2.2 _ (hc hr hd)
    obtain ⟨f1, f2, f3⟩ := h.w (hc hr hd)
    rw [f1, f2, h.P, (h.2.1 r hr).2]
    obtain ⟨g1, g2, g3, g4, g5, g6, g7⟩ := ok.2.2.2.2.2.2.2.1 r hr d hd
    exact ⟨g1.cong e1, g2.cong e2, g3.cong e3, g4, g5, g6, g7⟩
  · rw [h.R] at hr
    rw [h.B hr] at hd he
    obtain ⟨f1, f2, f3⟩ := h.w (hc hr hd)
    obtain ⟨g1, g2, g3⟩ := h.w (hc hr he)
    rw [f1, f2, g1, g2]
    exact ok.apart hr hd he hne
  · rw [h.D] at hr
    have hrR := Nat.lt_of_lt_of_le hr ok.DR
    rw [h.B hrR] at hd
    rw [(h.w (hc hrR hd)).2.2]
    exact ok.done hr hd
  · rw [h.R] at hq
    have hr : r < nR b := by omega
    rw [h.B hr] at hd
    rw [h.B hq] at he
    obtain ⟨f1, f2, f3⟩ := h.w (hc hr hd)
    obtain ⟨g1, g2, g3⟩ := h.w (hc hq he)
    rw [f3] at h1 h3
    unfold SameTwo
    rw [f1, f2, g1, g2]
    exact ok.once hrq hq hd he h1 h3
  · exact Sm.cong ⟨ok.Kn, ok.K9⟩ (by rw [h.1 10 (by omega)])
  · rw [show nK c = nK b by unfold nK gN; rw [h.1 10 (by omega)]]; exact ok.K1
  · rw [show nK c = nK b by unfold nK gN; rw [h.1 10 (by omega)]] at hi
    exact Sm.cong (ok.ord hi) (by rw [h.1 11 (by omega)])
theorem newB_ok {b : Mm} (ok : BookOK b) (hO : nO b = 0) (hR : nR b < 20) (hv : (val b (2 ^ nQ b - 1)).1 ≠ none) : BookOK (newB b) := by
  have hP := ok.P12
  have hn : nQ b ≤ 12 := Nat.le_trans (nQ_le b) ok.P12
  have hD : nD b = nR b := by unfold nD; omega
  have hA := opn_agr b (nQ b / 2)
  have h3 : nR (newB b) = nR b + 1 := gN_of (by unfold newB; rw [sc_ne (by omega), sc_at]) (by omega)
  have h4 : nO (newB b) = 1 := gN_of (n := 1) (by unfold newB; rw [sc_at]; rfl) (by omega)
  have hDn := newB_dn ok hO
  have hPn : nP (newB b) = nP b := hDn.1
  have hDD : nD (newB b) = nR b := by rw [hDn.2.1, hD]
  have hKn : nK (newB b) = nK b := by unfold nK gN; rw [hDn.2.2.2.1]
  have v5 : newB b 5 (nR b) = nI (nQ b / 2) := by rw [newB_ne (by omega) (by omega)]; exact upd_at
  have v6 : newB b 6 (nR b) = i5 (byeO b) := by rw [newB_ne (by omega) (by omega)]; exact upd_at
  have nb : nB (newB b) (nR b) = nQ b / 2 := gN_of v5 (by omega)
  have nbr : ∀ r, r < nR b → nB (newB b) r = nB b r := fun r hr => by unfold nB gN; rw [(hDn.2.2.2.2.2.1 r (by omega)).1]
  have pk := fun t (ht : t < nQ b / 2) => pick_ok ok hv ht
  have hPp : ∀ t, t < nQ b / 2 → Pp b t < nP b := fun t ht => seat_lt (by have := (pk t ht).2.2.2.2; omega)
  have hQq : ∀ t, t < nQ b / 2 → Qq b t < nP b := fun t ht => seat_lt (by have := (pk t ht).2.2.2.2; omega)
  have hWl : ∀ t, t < nQ b / 2 → Ww b t < nP b := fun t ht => by unfold Ww; split; exact hPp t ht; exact hQq t ht
  have hKl : ∀ t, t < nQ b / 2 → Kk b t < nP b := fun t ht => by unfold Kk; split; exact hQq t ht; exact hPp t ht
  have v7 : ∀ t, t < nQ b / 2 → newB b 7 (6 * nR b + t) = nI (Ww b t) := fun t ht => by rw [newB_ne (by omega) (by omega)]; exact lay_at _ ht
  have v8 : ∀ t, t < nQ b / 2 → newB b 8 (6 * nR b + t) = nI (Kk b t) := fun t ht => by rw [newB_ne (by omega) (by omega)]; exact lay_at _ ht
  have v9 : ∀ t, t < nQ b / 2 → newB b 9 (6 * nR b + t) = nI 0 := fun t ht => by rw [newB_ne (by omega) (by omega)]; exact lay_at _ ht
  have n7 : ∀ t, t < nQ b / 2 → wN (newB b) (6 * nR b + t) = Ww b t := fun t ht => gN_of (v7 t ht) (by have := hWl t ht; omega)
  have n8 : ∀ t, t < nQ b / 2 → kN (newB b) (6 * nR b + t) = Kk b t := fun t ht => gN_of (v8 t ht) (by have := hKl t ht; omega)
  have two : ∀ t, (Ww b t = Pp b t ∧ Kk b t = Qq b t) ∨ (Ww b t = Qq b t ∧ Kk b t = Pp b t) := fun t => by
    unfold Ww Kk
    by_cases z : whB b t (Pp b t) (Qq b t) = true
    · rw [if_pos z, if_pos z]; exact Or.inl ⟨rfl, rfl⟩
    · rw [if_neg z, if_neg z]; exact Or.inr ⟨rfl, rfl⟩
  have pq : ∀ t, t < nQ b / 2 → Pp b t ≠ Qq b t := fun t ht z => by
    obtain ⟨-, -, -, -, q5, q6, -⟩ := pk t ht
    have := seat_inj (by omega) q6 z
    omega
  have far : ∀ t u, t < u → u < nQ b / 2 → Pp b t ≠ Pp b u ∧ Pp b t ≠ Qq b u ∧ Qq b t ≠ Pp b u ∧ Qq b t ≠ Qq b u := fun t u htu hu => by
    obtain ⟨-, -, -, -, q5, q6, q7, q8, -⟩ := pk t (by omega)
    obtain ⟨-, -, -, -, w5, w6, w7, w8, -⟩ := pk u hu
    obtain ⟨d, rfl⟩ : ∃ d, u = t + d := ⟨u - t, by omega⟩
    obtain ⟨l1, l2⟩ := (set_sub d w7).2 (by omega)
    obtain ⟨m1, m2⟩ := (set_sub d w8).2 (by omega)
    exact ⟨fun z => l1 (seat_inj (by omega) (by omega) z).symm, fun z => m1 (seat_inj (by omega) (by omega) z).symm, fun z => l2 (seat_inj (by omega) (by omega) z).symm, fun z => m2 (seat_inj (by omega) (by omega) z).symm⟩
  have wkn : ∀ t u, t < nQ b / 2 → u < nQ b / 2 → t ≠ u → Ww b t ≠ Ww b u ∧ Ww b t ≠ Kk b u ∧ Kk b t ≠ Kk b u := fun t u ht hu hne => by
    have f : Pp b t ≠ Pp b u ∧ Pp b t ≠ Qq b u ∧ Qq b t ≠ Pp b u ∧ Qq b t ≠ Qq b u := by
      by_cases z : t < u
      · exact far t u z hu
      · obtain ⟨a1, a2, a3, a4⟩ := far u t (by omega) ht
        exact ⟨fun y => a1 y.symm, fun y => a3 y.symm, fun y => a2 y.symm, fun y => a4 y.symm⟩
    obtain ⟨f1, f2, f3, f4⟩ := f
    rcases two t with ⟨a1, a2⟩ | ⟨a1, a2⟩ <;> rcases two u with ⟨c1, c2⟩ | ⟨c1, c2⟩ <;> rw [a1, a2, c1, c2] <;> exact ⟨by assumption, by assumption, by assumption⟩
  have wb : ∀ t, t < nQ b / 2 → byeO b ≠ some (Ww b t) ∧ byeO b ≠ some (Kk b t) := fun t ht => by
    obtain ⟨-, -, -, -, q5, q6, -⟩ := pk t ht
    have e1 : byeO b ≠ some (Pp b t) := seat_bye (by omega)
    have e2 : byeO b ≠ some (Qq b t) := seat_bye q6
    rcases two t with ⟨a1, a2⟩ | ⟨a1, a2⟩ <;> rw [a1, a2]
    · exact ⟨e1, e2⟩
    · exact ⟨e2, e1⟩
  have c6 : ∀ {r d : Nat}, r < nR b → d < nB b r → 6 * r + d < 6 * nD b := fun {r d} hr hd => by have := ok.B6 hr; omega
  refine ⟨?_, ?_, ?_, ?_, fun p hp => ?_, fun r hr => ?_, fun r hr => ?_, fun r hr d hd => ?_, fun r hr d e hd he hne => ?_, fun r hr d hd => ?_, fun r q hrq hq d e hd he g1 g3 => ?_, ?_, ?_, fun i hi => ?_⟩
  · exact Sm.cong ok.1 (by rw [newB_ne (by omega) (by omega), opn_ne (by omega)])
  · exact Sm.of (n := nR b + 1) (by unfold newB; rw [sc_ne (by omega), sc_at]) (by omega) (by omega)
  · exact Sm.of (n := 1) (by unfold newB; rw [sc_at]; rfl) (by omega) (by omega)
  · rw [h3, h4]; omega
  · rw [hPn] at hp
    exact ⟨Sm.cong (ok.rating hp) (hDn.2.2.1 p hp), Sm.cong (ok.inn hp) (by rw [newB_ne (by omega) (by omega), opn_ne (by omega)])⟩
  · rw [h3] at hr
    by_cases z : r < nR b
    · exact Sm.cong ⟨ok.B z, ok.B6 z⟩ (hDn.2.2.2.2.2.1 r (by omega)).1
    · rw [show r = nR b by omega]
      exact Sm.of v5 (by omega) (by omega)
  · rw [h3] at hr
    rw [hPn]
    by_cases z : r < nR b
    · rw [show gN (newB b) 6 r = gN b 6 r by unfold gN; rw [(hDn.2.2.2.2.2.1 r (by omega)).2], (hDn.2.2.2.2.2.1 r (by omega)).2]
      exact ok.bye z
    · rw [show r = nR b by omega, v6]
      cases hb : byeO b with
      | none => exact Or.inl rfl
      | some p =>
        have hp := byeO_lt hb
        have e : gN (newB b) 6 (nR b) = p := gN_of (by rw [v6, hb]; rfl) (by omega)
        rw [e]
        exact Or.inr ⟨rfl, hp⟩
  · rw [h3] at hr
    by_cases z : r < nR b
    · rw [nbr r z] at hd
      obtain ⟨e1, e2, e3⟩ := hDn.2.2.2.2.2.2 _ (c6 z hd)
      obtain ⟨f1, f2, f3⟩ := hDn.cel (c6 z hd)
      rw [f1, f2, hPn, (hDn.2.2.2.2.2.1 r (by omega)).2]
      obtain ⟨g1, g2, g3, g4, g5, g6, g7⟩ := ok.2.2.2.2.2.2.2.1 r z d hd
      exact ⟨g1.cong e1, g2.cong e2, g3.cong e3, g4, g5, g6, g7⟩
    · have er : r = nR b := by omega
      subst er
      rw [nb] at hd
      have b1 := hWl d hd
      have b2 := hKl d hd
      obtain ⟨b3, b4⟩ := wb d hd
      rw [n7 d hd, n8 d hd, hPn, v6]
      refine ⟨Sm.of (v7 d hd) (by omega) (by omega), Sm.of (v8 d hd) (by omega) (by omega), Sm.of (v9 d hd) (by omega) (by omega), b1, b2, ?_, fun p hp hb => ?_⟩
      · have := pq d hd
        rcases two d with ⟨a1, a2⟩ | ⟨a1, a2⟩ <;> rw [a1, a2]
        · exact this
        · exact fun z => this z.symm
      · have hb' := (i5_eq ok hp).mp hb.symm
        exact ⟨fun z => b3 (by rw [z]; exact hb'), fun z => b4 (by rw [z]; exact hb')⟩
  · rw [h3] at hr
    by_cases z : r < nR b
    · rw [nbr r z] at hd he
      obtain ⟨f1, f2, f3⟩ := hDn.cel (c6 z hd)
      obtain ⟨g1, g2, g3⟩ := hDn.cel (c6 z he)
      rw [f1, f2, g1, g2]
      exact ok.apart z hd he hne
    · have er : r = nR b := by omega
      subst er
      rw [nb] at hd he
      rw [n7 d hd, n8 d hd, n7 e he, n8 e he]
      exact wkn d e hd he hne
  · rw [hDD] at hr
    rw [nbr r hr] at hd
    rw [(hDn.cel (c6 hr hd)).2.2]
    exact ok.done (by omega) hd
  · rw [h3] at hq
    have hr : r < nR b := by omega
    rw [nbr r hr] at hd
    obtain ⟨f1, f2, f3⟩ := hDn.cel (c6 hr hd)
    rw [f3] at g1 g3
    unfold SameTwo
    rw [f1, f2]
    by_cases z : q < nR b
    · rw [nbr q z] at he
      obtain ⟨k1, k2, k3⟩ := hDn.cel (c6 z he)
      rw [k1, k2]
      exact ok.once hrq z hd he g1 g3
    · have er : q = nR b := by omega
      subst er
      rw [nb] at he
      rw [n7 e he, n8 e he]
      intro hsame
      have hc := (pk e he).2.2.2.2.2.2.2.2
      have hm : met b (Pp b e) (Qq b e) = -5 := by
        refine Classical.byContradiction (fun y => hc ?_)
        show costO b (Pp b e) (Qq b e) = none
        unfold costO
        rw [if_neg y]
      have hne := ok.WK hr hd
      have key : ∀ x y, x ≠ y → ((wN b (6 * r + d) = x ∧ kN b (6 * r + d) = y) ∨ (wN b (6 * r + d) = y ∧ kN b (6 * r + d) = x)) → met b x y ≠ -5 := by
        intro x y hxy hs
        refine (met_iff ok).mpr ⟨r, 6 * r + d, by omega, ?_, ?_⟩
        · rw [pl_of (brd_one ok hr hd (hs.elim (fun a => Or.inl a.1) (fun a => Or.inr a.2))), if_pos ⟨g1, g3⟩]
        · unfold opp
          rcases hs with ⟨a1, a2⟩ | ⟨a1, a2⟩
          · rw [if_pos a1, a2]
          · rw [if_neg (by rw [a1]; exact fun w => hxy w.symm), a1]
      refine key _ _ (pq e he) ?_ hm
      rcases two e with ⟨a1, a2⟩ | ⟨a1, a2⟩ <;> rw [a1, a2] at hsame
      · exact hsame.elim (fun a => Or.inl a) (fun a => Or.inr a)
      · exact hsame.elim (fun a => Or.inr a) (fun a => Or.inl a)
  · exact Sm.cong ⟨ok.Kn, ok.K9⟩ (by rw [hDn.2.2.2.1])
  · rw [hKn]; exact ok.K1
  · rw [hKn] at hi
    exact Sm.cong (ok.ord hi) (by rw [hDn.2.2.2.2.1])
