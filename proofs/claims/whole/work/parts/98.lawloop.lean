/-! ===== the law's loop and start ===== -/
set_option maxHeartbeats 8000000 in
set_option maxRecDepth 100000 in
theorem law_loop {p : Program} {l : Launch} {e : Env} {s : State} {m : MethodId} {below : List Frame} {meth : Method} {c : Code} {D : va_G} {cI cZ : ClassId} {a1 a2 : Nat → Nat} {adK adV : Nat → Nat} {b L : Nat} {xs : Nat → Int32} (hx : p.tables.exec = Jvm.exec) (hb : c.code = code) (hml : c.maxLocals = 4) (hown : s.vm.findClass RL = some m.cls) (hT : ∀ w ∈ wsL_law, w.before #[Value.ref b] s = true) (hX : va_X b L xs s s.heap) (hbl : b < s.heap.size) (hK : va_K D vwCl [(cI, FieldType.int), (cZ, FieldType.boolean)] s) (hE : SFx adK adV (fun q : Nat => s.heap.size ≤ q) s s.heap) (hL : L ≤ 2048) (hr : meth.sig.returnType = ret) (hlocks : meth.locks = false) : ∀ (n i : Nat) (σ μ : Mm) (H : Heap) (locs : List Loc) (ls : Array Slot), i ≤ L → L + 1 ≤ i + n → Inv σ μ → BD D (fun q : Nat => s.heap.size ≤ q) s.heap (xW cI a1 σ ++ mW cI cZ a2 μ) H locs → lv_has ls 4 [(0, .ref b), (1, .ref (a1 0)), (2, .ref (a2 0)), (3, .int (nI i))] → W p l e room_1 s m #[Value.ref b] below meth c H locs 95 19633 (lw_Z below #[Value.ref b] s) (F0 m 18 ls []) := by
  have hA : ∀ q : Nat, s.heap.size ≤ q → (fun q : Nat => s.heap.size ≤ q) q := fun _ h => h
  have hbA : ¬ (fun q : Nat => s.heap.size ≤ q) b := Nat.not_le.mpr hbl
  intro n
  induction n with
  | zero =>
    intro i σ μ H locs ls h1 h2
    exact absurd h2 (by omega)
  | succ n ih =>
    intro i σ μ H locs ls hi hin hI B hl
    refine lv_iload_n hx hb dL_law_18 rfl (lv_at hl 3 rfl) ?_
    refine lv_aload_n hx hb dL_law_19 rfl (lv_at hl 0 rfl) ?_
    refine va_slen hx hb hX hbl hbA B.2.2 dL_law_20 ?_
    refine lv_iconst (v := (4 : Int32)) hx hb dL_law_21 (by decide) ?_
    refine lv_isub hx hb dL_law_22 ?_
    have eL : (Int32.ofNat L - (4 : Int32)).toInt = (L : Int) - 4 := pk_sub_toInt (a := L) (b := 4) (by omega) (by omega)
    refine lv_icmp_gt (tgt := 1207) hx hb dL_law_23 (by decide) (fun q => ?_) (fun q => ?_)
    · refine lv_iconst (v := 1) hx hb dL_law_1207 (by decide) ?_
      refine va_forget (fun q hq => B.2.2.2.2 q hq) ?_
      refine W.widen (k := 600000) (n := 7302250) (Nat.le_of_ble_eq_true rfl) (Nat.le_of_ble_eq_true rfl) ?_
      exact lw_ret hx hb hr hlocks dL_law_1208
    · have hi4 : i + 4 ≤ L := by
        have q2 := Int32.le_iff_toInt_le.mp (Int32.not_lt.mp q)
        rw [eL, nI_toInt (by omega)] at q2
        omega
      have K : ∀ (τ ρ : Mm) (H : Heap) (locs : List Loc), Inv0 τ ρ → BD D (fun q : Nat => s.heap.size ≤ q) s.heap (xW cI a1 τ ++ mW cI cZ a2 ρ) H locs → W p l e room_1 s m #[Value.ref b] below meth c H locs 95 19633 (lw_Z below #[Value.ref b] s) (F0 m 1201 ls []) := by
        intro τ ρ H locs hI2 B
        have e4 : nI i + (4 : Int32) = nI (i + 4) := by rw [show (4 : Int32) = nI 4 from rfl, nI_add]
        refine lv_iinc (v := nI (i + 4)) (lv' := [(3, .int (nI (i + 4))), (0, .ref b), (1, .ref (a1 0)), (2, .ref (a2 0))]) hx hb dL_law_1201 hl (k := 3) rfl (by rw [← e4]; rfl) (by decide) rfl (fun ls hl => ?_)
        refine lv_goto (tgt := 18) hx hb dL_law_1204 (by decide) ?_
        have B2 : BD D (fun q : Nat => s.heap.size ≤ q) s.heap (xW cI a1 (nrm τ) ++ mW cI cZ a2 (nrm ρ)) H locs := B
        exact ih (i + 4) (nrm τ) (nrm ρ) H locs ls hi4 (by omega) (inv_nrm hI2) B2 (lv_sub hl [1, 2, 3, 0] rfl)
      refine lv_aload_n hx hb dL_law_26 rfl (lv_at hl 0 rfl) ?_
      refine lv_iload_n hx hb dL_law_27 rfl (lv_at hl 3 rfl) ?_
      refine va_sld hx hb hX hbl hbA B.2.2 (vp_in_nI (show i < L by omega) (by omega)) dL_law_28 ?_
      refine lv_bipush (v := (63 : Int32)) hx hb dL_law_29 (by decide) ?_
      refine lv_iand hx hb dL_law_31 ?_
      obtain ⟨t, ht, et⟩ := pk_andE (xs (nI i).toNatClampNeg) (m := 63) 6 (by decide)
      have et2 : xs (nI i).toNatClampNeg &&& (63 : Int32) = nI t := et
      rw [et2]
      by_cases z0 : t = 0
      · subst z0
        refine lv_tableIn (off := 172) (tgt := 204) hx hb dL_law_32 (by decide) (by decide) rfl (by decide) ?_
        exact law_0 hx hb hml hown hT hX hbl hK hE hL hi4 hI B hl K
      by_cases z1 : t = 1
      · subst z1
        refine lv_tableIn (off := 195) (tgt := 227) hx hb dL_law_32 (by decide) (by decide) rfl (by decide) ?_
        exact law_1 hx hb hml hown hT hX hbl hK hE hL hi4 hI B hl K
      by_cases z2 : t = 2
      · subst z2
        refine lv_tableIn (off := 218) (tgt := 250) hx hb dL_law_32 (by decide) (by decide) rfl (by decide) ?_
        exact law_2 hx hb hml hown hT hX hbl hK hE hL hi4 hI B hl K
      by_cases z3 : t = 3
      · subst z3
        refine lv_tableIn (off := 241) (tgt := 273) hx hb dL_law_32 (by decide) (by decide) rfl (by decide) ?_
        exact law_3 hx hb hml hown hT hX hbl hK hE hL hi4 hI B hl K
      by_cases z4 : t = 4
      · subst z4
        refine lv_tableIn (off := 274) (tgt := 306) hx hb dL_law_32 (by decide) (by decide) rfl (by decide) ?_
        exact law_4 hx hb hml hown hT hX hbl hK hE hL hi4 hI B hl K
      by_cases z5 : t = 5
      · subst z5
        refine lv_tableIn (off := 307) (tgt := 339) hx hb dL_law_32 (by decide) (by decide) rfl (by decide) ?_
        exact law_5 hx hb hml hown hT hX hbl hK hE hL hi4 hI B hl K
      by_cases z6 : t = 6
      · subst z6
        refine lv_tableIn (off := 340) (tgt := 372) hx hb dL_law_32 (by decide) (by decide) rfl (by decide) ?_
        exact law_6 hx hb hml hown hT hX hbl hK hE hL hi4 hI B hl K
      by_cases z7 : t = 7
      · subst z7
        refine lv_tableIn (off := 363) (tgt := 395) hx hb dL_law_32 (by decide) (by decide) rfl (by decide) ?_
        exact law_7 hx hb hml hown hT hX hbl hK hE hL hi4 hI B hl K
      by_cases z8 : t = 8
      · subst z8
        refine lv_tableIn (off := 386) (tgt := 418) hx hb dL_law_32 (by decide) (by decide) rfl (by decide) ?_
        exact law_8 hx hb hml hown hT hX hbl hK hE hL hi4 hI B hl K
      by_cases z9 : t = 9
      · subst z9
        refine lv_tableIn (off := 429) (tgt := 461) hx hb dL_law_32 (by decide) (by decide) rfl (by decide) ?_
        exact law_9 hx hb hml hown hT hX hbl hK hE hL hi4 hI B hl K
      by_cases z10 : t = 10
      · subst z10
        refine lv_tableIn (off := 462) (tgt := 494) hx hb dL_law_32 (by decide) (by decide) rfl (by decide) ?_
        exact law_10 hx hb hml hown hT hX hbl hK hE hL hi4 hI B hl K
      by_cases z11 : t = 11
      · subst z11
        refine lv_tableIn (off := 495) (tgt := 527) hx hb dL_law_32 (by decide) (by decide) rfl (by decide) ?_
        exact law_11 hx hb hml hown hT hX hbl hK hE hL hi4 hI B hl K
      by_cases z12 : t = 12
      · subst z12
        refine lv_tableIn (off := 508) (tgt := 540) hx hb dL_law_32 (by decide) (by decide) rfl (by decide) ?_
        exact law_12 hx hb hml hown hT hX hbl hK hE hL hi4 hI B hl K
      by_cases z13 : t = 13
      · subst z13
        refine lv_tableIn (off := 521) (tgt := 553) hx hb dL_law_32 (by decide) (by decide) rfl (by decide) ?_
        exact law_13 hx hb hml hown hT hX hbl hK hE hL hi4 hI B hl K
      by_cases z14 : t = 14
      · subst z14
        refine lv_tableIn (off := 534) (tgt := 566) hx hb dL_law_32 (by decide) (by decide) rfl (by decide) ?_
        exact law_14 hx hb hml hown hT hX hbl hK hE hL hi4 hI B hl K
      by_cases z15 : t = 15
      · subst z15
        refine lv_tableIn (off := 577) (tgt := 609) hx hb dL_law_32 (by decide) (by decide) rfl (by decide) ?_
        exact law_15 hx hb hml hown hT hX hbl hK hE hL hi4 hI B hl K
      by_cases z16 : t = 16
      · subst z16
        refine lv_tableIn (off := 600) (tgt := 632) hx hb dL_law_32 (by decide) (by decide) rfl (by decide) ?_
        exact law_16 hx hb hml hown hT hX hbl hK hE hL hi4 hI B hl K
      by_cases z17 : t = 17
      · subst z17
        refine lv_tableIn (off := 633) (tgt := 665) hx hb dL_law_32 (by decide) (by decide) rfl (by decide) ?_
        exact law_17 hx hb hml hown hT hX hbl hK hE hL hi4 hI B hl K
      by_cases z18 : t = 18
      · subst z18
        refine lv_tableIn (off := 646) (tgt := 678) hx hb dL_law_32 (by decide) (by decide) rfl (by decide) ?_
        exact law_18 hx hb hml hown hT hX hbl hK hE hL hi4 hI B hl K
      by_cases z19 : t = 19
      · subst z19
        refine lv_tableIn (off := 659) (tgt := 691) hx hb dL_law_32 (by decide) (by decide) rfl (by decide) ?_
        exact law_19 hx hb hml hown hT hX hbl hK hE hL hi4 hI B hl K
      by_cases z20 : t = 20
      · subst z20
        refine lv_tableIn (off := 702) (tgt := 734) hx hb dL_law_32 (by decide) (by decide) rfl (by decide) ?_
        exact law_20 hx hb hml hown hT hX hbl hK hE hL hi4 hI B hl K
      by_cases z21 : t = 21
      · subst z21
        refine lv_tableIn (off := 735) (tgt := 767) hx hb dL_law_32 (by decide) (by decide) rfl (by decide) ?_
        exact law_21 hx hb hml hown hT hX hbl hK hE hL hi4 hI B hl K
      by_cases z22 : t = 22
      · subst z22
        refine lv_tableIn (off := 768) (tgt := 800) hx hb dL_law_32 (by decide) (by decide) rfl (by decide) ?_
        exact law_22 hx hb hml hown hT hX hbl hK hE hL hi4 hI B hl K
      by_cases z23 : t = 23
      · subst z23
        refine lv_tableIn (off := 791) (tgt := 823) hx hb dL_law_32 (by decide) (by decide) rfl (by decide) ?_
        exact law_23 hx hb hml hown hT hX hbl hK hE hL hi4 hI B hl K
      by_cases z24 : t = 24
      · subst z24
        refine lv_tableIn (off := 814) (tgt := 846) hx hb dL_law_32 (by decide) (by decide) rfl (by decide) ?_
        exact law_24 hx hb hml hown hT hX hbl hK hE hL hi4 hI B hl K
      by_cases z25 : t = 25
      · subst z25
        refine lv_tableIn (off := 837) (tgt := 869) hx hb dL_law_32 (by decide) (by decide) rfl (by decide) ?_
        exact law_25 hx hb hml hown hT hX hbl hK hE hL hi4 hI B hl K
      by_cases z26 : t = 26
      · subst z26
        refine lv_tableIn (off := 850) (tgt := 882) hx hb dL_law_32 (by decide) (by decide) rfl (by decide) ?_
        exact law_26 hx hb hml hown hT hX hbl hK hE hL hi4 hI B hl K
      by_cases z27 : t = 27
      · subst z27
        refine lv_tableIn (off := 863) (tgt := 895) hx hb dL_law_32 (by decide) (by decide) rfl (by decide) ?_
        exact law_27 hx hb hml hown hT hX hbl hK hE hL hi4 hI B hl K
      by_cases z28 : t = 28
      · subst z28
        refine lv_tableIn (off := 876) (tgt := 908) hx hb dL_law_32 (by decide) (by decide) rfl (by decide) ?_
        exact law_28 hx hb hml hown hT hX hbl hK hE hL hi4 hI B hl K
      by_cases z29 : t = 29
      · subst z29
        refine lv_tableIn (off := 899) (tgt := 931) hx hb dL_law_32 (by decide) (by decide) rfl (by decide) ?_
        exact law_29 hx hb hml hown hT hX hbl hK hE hL hi4 hI B hl K
      by_cases z30 : t = 30
      · subst z30
        refine lv_tableIn (off := 922) (tgt := 954) hx hb dL_law_32 (by decide) (by decide) rfl (by decide) ?_
        exact law_30 hx hb hml hown hT hX hbl hK hE hL hi4 hI B hl K
      by_cases z31 : t = 31
      · subst z31
        refine lv_tableIn (off := 945) (tgt := 977) hx hb dL_law_32 (by decide) (by decide) rfl (by decide) ?_
        exact law_31 hx hb hml hown hT hX hbl hK hE hL hi4 hI B hl K
      by_cases z32 : t = 32
      · subst z32
        refine lv_tableIn (off := 968) (tgt := 1000) hx hb dL_law_32 (by decide) (by decide) rfl (by decide) ?_
        exact law_32 hx hb hml hown hT hX hbl hK hE hL hi4 hI B hl K
      by_cases z33 : t = 33
      · subst z33
        refine lv_tableIn (off := 1001) (tgt := 1033) hx hb dL_law_32 (by decide) (by decide) rfl (by decide) ?_
        exact law_33 hx hb hml hown hT hX hbl hK hE hL hi4 hI B hl K
      by_cases z34 : t = 34
      · subst z34
        refine lv_tableIn (off := 1044) (tgt := 1076) hx hb dL_law_32 (by decide) (by decide) rfl (by decide) ?_
        exact law_34 hx hb hml hown hT hX hbl hK hE hL hi4 hI B hl K
      by_cases z35 : t = 35
      · subst z35
        refine lv_tableIn (off := 1077) (tgt := 1109) hx hb dL_law_32 (by decide) (by decide) rfl (by decide) ?_
        exact law_35 hx hb hml hown hT hX hbl hK hE hL hi4 hI B hl K
      by_cases z36 : t = 36
      · subst z36
        refine lv_tableIn (off := 1110) (tgt := 1142) hx hb dL_law_32 (by decide) (by decide) rfl (by decide) ?_
        exact law_36 hx hb hml hown hT hX hbl hK hE hL hi4 hI B hl K
      by_cases z37 : t = 37
      · subst z37
        refine lv_tableIn (off := 1143) (tgt := 1175) hx hb dL_law_32 (by decide) (by decide) rfl (by decide) ?_
        exact law_37 hx hb hml hown hT hX hbl hK hE hL hi4 hI B hl K
      by_cases z38 : t = 38
      · subst z38
        refine lv_tableIn (off := 1156) (tgt := 1188) hx hb dL_law_32 (by decide) (by decide) rfl (by decide) ?_
        exact law_38 hx hb hml hown hT hX hbl hK hE hL hi4 hI B hl K
      refine lv_tableOut (tgt := 1201) hx hb dL_law_32 (Or.inr (by rw [nI_toInt (by omega)]; omega)) (by decide) ?_
      obtain ⟨bb, hc, hI2⟩ := hI
      exact K σ μ H locs ⟨bb, hI2⟩ B
