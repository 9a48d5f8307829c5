/-! ===== the start of both, and the law from its entry ===== -/
theorem x0_row : x0 11 = m0 11 := by
  funext j
  show brk 11 j = tz0 j
  by_cases h0 : j = 0
  · subst h0; rfl
  by_cases h1 : j = 1
  · subst h1; rfl
  by_cases h2 : j = 2
  · subst h2; rfl
  by_cases h3 : j = 3
  · subst h3; rfl
  by_cases h4 : j = 4
  · subst h4; rfl
  have e1 : brk 11 j = 0 := by
    unfold brk
    rw [us_off (Or.inr h4), us_off (Or.inr h3), us_off (Or.inr h2), us_off (Or.inr h1), us_off (Or.inr h0)]
  rw [e1]
  unfold tz0
  by_cases h5 : j = 5
  · subst h5; rfl
  by_cases h6 : j = 6
  · subst h6; rfl
  by_cases h7 : j = 7
  · subst h7; rfl
  by_cases h8 : j = 8
  · subst h8; rfl
  rw [upd_off h8, upd_off h7, upd_off h6, upd_off h5, upd_off h4, upd_off h3, upd_off h2, upd_off h1, upd_off h0]
theorem inv_0 : Inv0 x0 m0 := by
  have hP : nP x0 = 0 := by decide
  have hR : nR x0 = 0 := by decide
  have hO : nO x0 = 0 := by decide
  have hK : nK x0 = 5 := by decide
  refine ⟨x0, fun _ _ => rfl, fun k hk => ?_, ?_, ⟨fun x hx => ?_, fun i hi => ?_⟩, rfl, ⟨0, by omega, rfl, rfl, fun i hi => absurd hi (Nat.not_lt_zero _)⟩, ⟨0, by omega, rfl, rfl, fun i hi => absurd hi (Nat.not_lt_zero _)⟩, fun l hl => Or.inl ⟨?_, rfl⟩, Or.inl ⟨rfl, rfl⟩⟩
  · have cs : k = 0 ∨ k = 1 ∨ k = 2 ∨ k = 3 ∨ k = 4 ∨ k = 5 ∨ k = 6 ∨ k = 7 ∨ k = 8 ∨ k = 9 ∨ k = 10 ∨ k = 11 := by omega
    rcases cs with z | z | z | z | z | z | z | z | z | z | z | z <;> subst z <;> first | rfl | exact x0_row.symm
  · refine ⟨Sm.of (n := 0) rfl (by omega) (by omega), Sm.of (n := 0) rfl (by omega) (by omega), Sm.of (n := 0) rfl (by omega) (by omega), by rw [hO, hR]; exact Nat.le_refl _, fun p hp => absurd hp (by rw [hP]; omega), fun r hr => absurd hr (by rw [hR]; omega), fun r hr => absurd hr (by rw [hR]; omega), fun r hr => absurd hr (by rw [hR]; omega), fun r hr => absurd hr (by rw [hR]; omega), fun r hr => absurd hr (by unfold nD; rw [hR]; omega), fun r q hrq hq => absurd hq (by rw [hR]; omega), Sm.of (n := 5) rfl (by omega) (by omega), by rw [hK]; omega, fun i hi => ?_⟩
    rw [hK] at hi
    have cs : i = 0 ∨ i = 1 ∨ i = 2 ∨ i = 3 ∨ i = 4 := by omega
    rcases cs with z | z | z | z | z <;> subst z
    · exact Sm.of (n := 0) rfl (by omega) (by omega)
    · exact Sm.of (n := 1) rfl (by omega) (by omega)
    · exact Sm.of (n := 3) rfl (by omega) (by omega)
    · exact Sm.of (n := 4) rfl (by omega) (by omega)
    · exact Sm.of (n := 8) rfl (by omega) (by omega)
  · exact absurd hx (by rw [hP]; omega)
  · exact absurd hi (by rw [hP]; omega)
  · show lst0 l = -1
    exact if_pos hl
theorem in_wT {w : Cond} {args : Array Value} {s : State} (hts : ∀ w ∈ lw_tbl, w.before args s = true) (h : w ∈ lw_tbl) : w.before args s = true := hts w h
set_option maxHeartbeats 8000000 in
set_option maxRecDepth 100000 in
theorem str_start {s : State} {b : Nat} (hts : ∀ w ∈ lw_tbl, w.before #[Value.ref b] s = true) (hgv : (Jvm.Cond.and given_1 narrow_1).before #[Value.ref b] s = true) : ∃ adK adV : Nat → Nat, SFx adK adV (fun q : Nat => s.heap.size ≤ q) s s.heap := by
  have hs := flat_of_before _ hgv
  have hA : ∀ a : Nat, a < s.heap.size → ¬ s.heap.size ≤ a := fun a h => Nat.not_le.mpr h
  obtain ⟨adK, adV, hS, hev⟩ := vk_Sof (args := #[Value.ref b]) (s := s) (N := 2) (tm := fun i => match i with | 0 => .string RX6 225 | _ => .string RX6 244) (len := kLen) (byt := kByt) (A := fun q : Nat => s.heap.size ≤ q) (fun i hi => match i, hi with | 0, _ => by decide | 1, _ => by decide | z + 2, hj => absurd hj (by omega)) (fun i hi => match i, hi with | 0, _ => hs _ (by decide +kernel) | 1, _ => hs _ (by decide +kernel) | z + 2, hj => absurd hj (by omega)) (fun i hi => match i, hi with | 0, _ => hs _ (by decide +kernel) | 1, _ => hs _ (by decide +kernel) | z + 2, hj => absurd hj (by omega)) (fun i hi => match i, hi with | 0, _ => hs _ (by decide +kernel) | 1, _ => hs _ (by decide +kernel) | z + 2, hj => absurd hj (by omega)) (fun i hi => match i, hi with | 0, _ => hs _ (by decide +kernel) | 1, _ => hs _ (by decide +kernel) | z + 2, hj => absurd hj (by omega)) (fun i hi => match i, hi with | 0, _ => (fun j hj => match j, hj with | 0, _ => hs _ (by decide +kernel) | 1, _ => hs _ (by decide +kernel) | 2, _ => hs _ (by decide +kernel) | 3, _ => hs _ (by decide +kernel) | 4, _ => hs _ (by decide +kernel) | 5, _ => hs _ (by decide +kernel) | 6, _ => hs _ (by decide +kernel) | z + 7, hj => absurd hj (by show ¬ z + 7 < 7; omega)) | 1, _ => (fun j hj => match j, hj with | 0, _ => hs _ (by decide +kernel) | 1, _ => hs _ (by decide +kernel) | 2, _ => hs _ (by decide +kernel) | 3, _ => hs _ (by decide +kernel) | 4, _ => hs _ (by decide +kernel) | 5, _ => hs _ (by decide +kernel) | 6, _ => hs _ (by decide +kernel) | 7, _ => hs _ (by decide +kernel) | z + 8, hj => absurd hj (by show ¬ z + 8 < 8; omega)) | z + 2, hj => absurd hj (by omega)) (fun i j hi hj hne => match i, j, hi, hj, hne with | 0, 0, _, _, h => absurd rfl h | 0, 1, _, _, _ => Or.inl (hs _ (by decide +kernel)) | 1, 0, _, _, _ => Or.inr (hs _ (by decide +kernel)) | 1, 1, _, _, h => absurd rfl h | z + 2, _, hi, _, _ => absurd hi (by omega) | _, z + 2, _, hj, _ => absurd hj (by omega)) hA
  refine ⟨adK, adV, hS, ⟨vk_R.of (hts _ (in_t3 (List.mem_of_getElem? (i := 156) (by decide +kernel)))) (hev 0 (by omega)), vk_R.of (hts _ (in_t4 (List.mem_of_getElem? (i := 13) (by decide +kernel)))) (hev 1 (by omega))⟩, ?_⟩
  exact va_Zof (hts _ (in_t3 (List.mem_of_getElem? (i := 175) (by decide +kernel)))) (hts _ (wsL_law_in _ q11)) (va_eqi (hs _ (by decide +kernel))) hA
theorem tab_start {s : State} {args : Array Value} (hT : ∀ w ∈ wsL_law, w.before args s = true) : ∃ (D : va_G) (cI cZ : ClassId), va_K D vwCl [(cI, FieldType.int), (cZ, FieldType.boolean)] s := by
  obtain ⟨c0, s0, h0⟩ := u_known (C := RX0) (T := TX0) (N := 12) (n := 12) hT inlX0 (hT _ q25)
  obtain ⟨c1, s1, h1⟩ := u_known (C := RX1) (T := TX1) (N := 8) (n := 8) hT inlX1 (hT _ q132)
  obtain ⟨c2, s2, h2⟩ := u_known (C := RX2) (T := TX2) (N := 1) (n := 1) hT inlX2 (hT _ q31)
  obtain ⟨c3, s3, h3⟩ := u_known (C := RX3) (T := TX3) (N := 2) (n := 2) hT inlX3 (hT _ q169)
  obtain ⟨c4, s4, h4⟩ := u_known (C := RX4) (T := TX4) (N := 10) (n := 10) hT inlX4 (hT _ q93)
  obtain ⟨c5, s5, h5⟩ := u_known (C := RX5) (T := TX5) (N := 2) (n := 2) hT inlX5 (hT _ q156)
  obtain ⟨c6, s6, h6⟩ := u_known (C := RX6) (T := TX6) (N := 8) (n := 8) hT inlX6 (hT _ q17)
  obtain ⟨c7, s7, h7⟩ := u_known (C := RX7) (T := TX7) (N := 33) (n := 33) hT inlX7 (hT _ q760)
  obtain ⟨cI, kI, oI1, fI, hkI, hkindI⟩ := Cond.arrayClass_spec (hT _ q41)
  obtain ⟨cZ, kZ, oZ1, fZ, hkZ, hkindZ⟩ := Cond.arrayClass_spec (hT _ q831)
  refine ⟨(fun k => match k with | 0 => c0 | 1 => c1 | 2 => c2 | 3 => c3 | 4 => c4 | 5 => c5 | 6 => c6 | _ => c7, fun k => match k with | 0 => s0 | 1 => s1 | 2 => s2 | 3 => s3 | 4 => s4 | 5 => s5 | 6 => s6 | _ => s7), cI, cZ, fun k q hq => ?_, fun k q hq => ?_⟩
  · match k, hq with
    | 0, hq => cases hq; exact h0
    | 1, hq => cases hq; exact h1
    | 2, hq => cases hq; exact h2
    | 3, hq => cases hq; exact h3
    | 4, hq => cases hq; exact h4
    | 5, hq => cases hq; exact h5
    | 6, hq => cases hq; exact h6
    | 7, hq => cases hq; exact h7
    | z + 8, hq => simp at hq
  · match k, hq with
    | 0, hq => cases hq; exact ⟨fun n z => ⟨fun k h => (by cases h), kI, hkI, oI1, hkindI⟩, fI⟩
    | 1, hq => cases hq; exact ⟨fun n z => ⟨fun k h => (by cases h), kZ, hkZ, oZ1, hkindZ⟩, fZ⟩
    | z + 2, hq => simp at hq
