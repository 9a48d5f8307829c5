def f_X7_differsIn_s10 (σ : Mm) (v1 : Int32) (v2 : Int32) (r10 : Int32 → Int32 → Option Int32) (v3 v4 : Int32) : Option Int32 :=
  if v4 < 0 then
    some v3
  else
    (ald 9 (σ 11) v4).bind fun x1 =>
    (ald 108 (σ 13) (((9 : Int32) * v1) + x1)).bind fun x2 =>
    (ald 9 (σ 11) v4).bind fun x3 =>
    (ald 108 (σ 13) (((9 : Int32) * v2) + x3)).bind fun x4 =>
    if x2 = x4 then
      r10 v3 (v4 + (-1 : Int32))
    else
      (ald 9 (σ 11) v4).bind fun x5 =>
      r10 x5 (v4 + (-1 : Int32))
def f_X7_differsIn (σ : Mm) (w1 : Int32) (w2 : Int32) : Option Int32 :=
  wh2 (f_X7_differsIn_s10 σ w1 w2) 5000 (-1 : Int32) ((σ 10 0) - (1 : Int32))
set_option maxHeartbeats 4000000 in
set_option maxRecDepth 100000 in
theorem c_X7_differsIn (l : Launch) (D : va_G) (cI cZ : ClassId) (a : Nat → Nat) (w1 : Int32) (w2 : Int32) : CTr l D [(cI, FieldType.int), (cZ, FieldType.boolean)] (mW cI cZ a) yX7_differsIn (.code yX7_differsIn cX7_differsIn 5 (some FieldType.int) :: wsL_law) ({ frames := 0, cells := 0, slots := 0, locals := 0 } : Room) [.ref (a 0), .int w1, .int w2] (fun σ => f_X7_differsIn σ w1 w2) := by
  refine CTr.of (by decide +kernel) (Nat.le_of_ble_eq_true rfl) ?_
  intro σ r hm p e s m below meth c A ls H locs hx hb hr hlk hml hT hown hK hA B hl
  have hown : s.vm.findClass RX7 = some m.cls := hown
  have hl : lv_has ls 5 [(0, .ref (a 0)), (1, .int w1), (2, .int w2)] := hl
  have hm : f_X7_differsIn σ w1 w2 = some r := hm
  unfold f_X7_differsIn at hm
  have L10 : ∀ (v1 : Int32) (v2 : Int32) (nn : Nat) (v3 : Int32) (v4 : Int32), wh2 (f_X7_differsIn_s10 σ v1 v2) nn v3 v4 = some r → ∀ (H : Heap) (locs : List Loc) (ls : Array Slot), BD D A s.heap ((mW cI cZ a) σ) H locs → lv_has ls 5 [(0, .ref (a 0)), (1, .int v1), (2, .int v2), (3, .int v3), (4, .int v4)] → W p l e ({ frames := 0, cells := 0, slots := 0, locals := 0 } : Room) s m ([.ref (a 0), .int w1, .int w2] : List Value).toArray below meth c H locs 0 0 (MQ below (QI D [(cI, FieldType.int), (cZ, FieldType.boolean)] (mW cI cZ a) A (r, σ)) ([.ref (a 0), .int w1, .int w2] : List Value).toArray s 0 0 A) (F0 m 10 ls []) := by
    intro v1 v2
    refine loop2 (fun r10 ih10 v3 v4 hm H locs ls B hl => ?_)
    unfold f_X7_differsIn_s10 at hm
    refine lv_iload hx hb dX7_differsIn_10 (lv_at hl 4 rfl) ?_
    refine lv_if_lt (tgt := 70) hx hb dX7_differsIn_12 (by decide) (fun q => ?_) (fun q => ?_)
    · have hm := ift hm q
      refine lv_iload_n hx hb dX7_differsIn_70 rfl (lv_at hl 3 rfl) ?_
      exact x_iretr hx hb hr hlk hK B dX7_differsIn_71 hm
    · have hm := iff hm q
      refine lv_aload_n hx hb dX7_differsIn_15 rfl (lv_at hl 0 rfl) ?_
      refine x_getv (T := TX7) (N := 33) hx hb hT hown hK B mV_tiesOf inlX7 rfl (by decide) q778 rfl dX7_differsIn_16 ?_
      refine lv_bipush (v := (9 : Int32)) hx hb dX7_differsIn_19 (by decide) ?_
      refine lv_iload_n hx hb dX7_differsIn_21 rfl (lv_at hl 1 rfl) ?_
      refine lv_imul hx hb dX7_differsIn_22 ?_
      refine lv_aload_n hx hb dX7_differsIn_23 rfl (lv_at hl 0 rfl) ?_
      refine x_getv (T := TX7) (N := 33) hx hb hT hown hK B mV_ties inlX7 rfl (by decide) q776 rfl dX7_differsIn_24 ?_
      refine lv_iload hx hb dX7_differsIn_27 (lv_at hl 4 rfl) ?_
      refine x_iald (t0 := 0) hx hb hK B mA_ties rfl dX7_differsIn_29 hm (fun x1 hm => ?_)
      refine lv_iadd hx hb dX7_differsIn_30 ?_
      refine x_iald (t0 := 0) hx hb hK B mA_tiesOf rfl dX7_differsIn_31 hm (fun x2 hm => ?_)
      refine lv_aload_n hx hb dX7_differsIn_32 rfl (lv_at hl 0 rfl) ?_
      refine x_getv (T := TX7) (N := 33) hx hb hT hown hK B mV_tiesOf inlX7 rfl (by decide) q778 rfl dX7_differsIn_33 ?_
      refine lv_bipush (v := (9 : Int32)) hx hb dX7_differsIn_36 (by decide) ?_
      refine lv_iload_n hx hb dX7_differsIn_38 rfl (lv_at hl 2 rfl) ?_
      refine lv_imul hx hb dX7_differsIn_39 ?_
      refine lv_aload_n hx hb dX7_differsIn_40 rfl (lv_at hl 0 rfl) ?_
      refine x_getv (T := TX7) (N := 33) hx hb hT hown hK B mV_ties inlX7 rfl (by decide) q776 rfl dX7_differsIn_41 ?_
      refine lv_iload hx hb dX7_differsIn_44 (lv_at hl 4 rfl) ?_
      refine x_iald (t0 := 0) hx hb hK B mA_ties rfl dX7_differsIn_46 hm (fun x3 hm => ?_)
      refine lv_iadd hx hb dX7_differsIn_47 ?_
      refine x_iald (t0 := 0) hx hb hK B mA_tiesOf rfl dX7_differsIn_48 hm (fun x4 hm => ?_)
      refine lv_icmp_eq (tgt := 62) hx hb dX7_differsIn_49 (by decide) (fun q => ?_) (fun q => ?_)
      · have hm := ift hm q
        refine lv_iload_n hx hb dX7_differsIn_62 rfl (lv_at hl 3 rfl) ?_
        refine lv_istore_n (lv' := [(3, .int v3), (0, .ref (a 0)), (1, .int v1), (2, .int v2), (4, .int v4)]) hx hb dX7_differsIn_63 rfl hl (by decide) rfl (fun ls hl => ?_)
        refine lv_iinc (v := (v4 + (-1 : Int32))) (lv' := [(4, .int (v4 + (-1 : Int32))), (3, .int v3), (0, .ref (a 0)), (1, .int v1), (2, .int v2)]) hx hb dX7_differsIn_64 hl (k := 4) rfl rfl (by decide) rfl (fun ls hl => ?_)
        refine lv_goto (tgt := 10) hx hb dX7_differsIn_67 (by decide) ?_
        exact ih10 v3 (v4 + (-1 : Int32)) hm H locs ls B (lv_sub hl [2, 3, 4, 1, 0] rfl)
      · have hm := iff hm q
        refine lv_aload_n hx hb dX7_differsIn_52 rfl (lv_at hl 0 rfl) ?_
        refine x_getv (T := TX7) (N := 33) hx hb hT hown hK B mV_ties inlX7 rfl (by decide) q776 rfl dX7_differsIn_53 ?_
        refine lv_iload hx hb dX7_differsIn_56 (lv_at hl 4 rfl) ?_
        refine x_iald (t0 := 0) hx hb hK B mA_ties rfl dX7_differsIn_58 hm (fun x5 hm => ?_)
        refine lv_goto (tgt := 63) hx hb dX7_differsIn_59 (by decide) ?_
        refine lv_istore_n (lv' := [(3, .int x5), (0, .ref (a 0)), (1, .int v1), (2, .int v2), (4, .int v4)]) hx hb dX7_differsIn_63 rfl hl (by decide) rfl (fun ls hl => ?_)
        refine lv_iinc (v := (v4 + (-1 : Int32))) (lv' := [(4, .int (v4 + (-1 : Int32))), (3, .int x5), (0, .ref (a 0)), (1, .int v1), (2, .int v2)]) hx hb dX7_differsIn_64 hl (k := 4) rfl rfl (by decide) rfl (fun ls hl => ?_)
        refine lv_goto (tgt := 10) hx hb dX7_differsIn_67 (by decide) ?_
        exact ih10 x5 (v4 + (-1 : Int32)) hm H locs ls B (lv_sub hl [2, 3, 4, 1, 0] rfl)
  refine lv_iconst (v := (-1 : Int32)) hx hb dX7_differsIn_0 (by decide) ?_
  refine lv_istore_n (lv' := [(3, .int (-1 : Int32)), (0, .ref (a 0)), (1, .int w1), (2, .int w2)]) hx hb dX7_differsIn_1 rfl hl (by decide) rfl (fun ls hl => ?_)
  refine lv_aload_n hx hb dX7_differsIn_2 rfl (lv_at hl 1 rfl) ?_
  refine x_geti (T := TX7) (N := 33) hx hb hT hown hK B mI_tieMany inlX7 rfl (by decide) q775 rfl dX7_differsIn_3 ?_
  refine lv_iconst (v := (1 : Int32)) hx hb dX7_differsIn_6 (by decide) ?_
  refine lv_isub hx hb dX7_differsIn_7 ?_
  refine lv_istore (lv' := [(4, .int ((σ 10 0) - (1 : Int32))), (3, .int (-1 : Int32)), (0, .ref (a 0)), (1, .int w1), (2, .int w2)]) hx hb dX7_differsIn_8 hl (by decide) rfl (fun ls hl => ?_)
  exact L10 w1 w2 5000 (-1 : Int32) ((σ 10 0) - (1 : Int32)) hm H locs ls B (lv_sub hl [2, 3, 4, 1, 0] rfl)
def f_X7_isAhead (σ : Mm) (w1 : Int32) (w2 : Int32) : Option Int32 :=
  (f_X7_differsIn σ w1 w2).bind fun x1 =>
  if 0 ≤ x1 then
    (ald 108 (σ 13) (((9 : Int32) * w1) + x1)).bind fun x2 =>
    (ald 108 (σ 13) (((9 : Int32) * w2) + x1)).bind fun x3 =>
    if x2 ≤ x3 then
      some (0 : Int32)
    else
      some (1 : Int32)
  else
    if w2 ≤ w1 then
      some (0 : Int32)
    else
      some (1 : Int32)
set_option maxHeartbeats 4000000 in
set_option maxRecDepth 100000 in
theorem c_X7_isAhead (l : Launch) (D : va_G) (cI cZ : ClassId) (a : Nat → Nat) (w1 : Int32) (w2 : Int32) : CTr l D [(cI, FieldType.int), (cZ, FieldType.boolean)] (mW cI cZ a) yX7_isAhead (.code yX7_isAhead cX7_isAhead 4 (some FieldType.boolean) :: wsL_law) ({ frames := 1, cells := 0, slots := 0, locals := 24 } : Room) [.ref (a 0), .int w1, .int w2] (fun σ => f_X7_isAhead σ w1 w2) := by
  refine CTr.of (by decide +kernel) (Nat.le_of_ble_eq_true rfl) ?_
  intro σ r hm p e s m below meth c A ls H locs hx hb hr hlk hml hT hown hK hA B hl
  have hown : s.vm.findClass RX7 = some m.cls := hown
  have hl : lv_has ls 4 [(0, .ref (a 0)), (1, .int w1), (2, .int w2)] := hl
  have hm : f_X7_isAhead σ w1 w2 = some r := hm
  unfold f_X7_isAhead at hm
  refine lv_aload_n hx hb dX7_isAhead_0 rfl (lv_at hl 0 rfl) ?_
  refine lv_iload_n hx hb dX7_isAhead_1 rfl (lv_at hl 1 rfl) ?_
  refine lv_iload_n hx hb dX7_isAhead_2 rfl (lv_at hl 2 rfl) ?_
  refine x_callVr (rest := []) hx hb hml hT hown hK hA B hl.1 (c_X7_differsIn l D cI cZ a w1 w2) mi_X7_differsIn mv_X7_differsIn mO_M rfl q907 ⟨rfl, rfl⟩ ⟨Nat.le_of_ble_eq_true rfl, Nat.le_of_ble_eq_true rfl⟩ rfl rfl (Nat.le_of_ble_eq_true rfl) dX7_isAhead_3 hm (fun x1 H locs B hm => ?_)
  refine lv_istore_n (lv' := [(3, .int x1), (0, .ref (a 0)), (1, .int w1), (2, .int w2)]) hx hb dX7_isAhead_6 rfl hl (by decide) rfl (fun ls hl => ?_)
  refine lv_iload_n hx hb dX7_isAhead_7 rfl (lv_at hl 0 rfl) ?_
  refine lv_if_ge (tgt := 24) hx hb dX7_isAhead_8 (by decide) (fun q => ?_) (fun q => ?_)
  · have hm := ift hm q
    refine lv_aload_n hx hb dX7_isAhead_24 rfl (lv_at hl 1 rfl) ?_
    refine x_getv (T := TX7) (N := 33) hx hb hT hown hK B mV_tiesOf inlX7 rfl (by decide) q778 rfl dX7_isAhead_25 ?_
    refine lv_bipush (v := (9 : Int32)) hx hb dX7_isAhead_28 (by decide) ?_
    refine lv_iload_n hx hb dX7_isAhead_30 rfl (lv_at hl 2 rfl) ?_
    refine lv_imul hx hb dX7_isAhead_31 ?_
    refine lv_iload_n hx hb dX7_isAhead_32 rfl (lv_at hl 0 rfl) ?_
    refine lv_iadd hx hb dX7_isAhead_33 ?_
    refine x_iald (t0 := 0) hx hb hK B mA_tiesOf rfl dX7_isAhead_34 hm (fun x2 hm => ?_)
    refine lv_aload_n hx hb dX7_isAhead_35 rfl (lv_at hl 1 rfl) ?_
    refine x_getv (T := TX7) (N := 33) hx hb hT hown hK B mV_tiesOf inlX7 rfl (by decide) q778 rfl dX7_isAhead_36 ?_
    refine lv_bipush (v := (9 : Int32)) hx hb dX7_isAhead_39 (by decide) ?_
    refine lv_iload_n hx hb dX7_isAhead_41 rfl (lv_at hl 3 rfl) ?_
    refine lv_imul hx hb dX7_isAhead_42 ?_
    refine lv_iload_n hx hb dX7_isAhead_43 rfl (lv_at hl 0 rfl) ?_
    refine lv_iadd hx hb dX7_isAhead_44 ?_
    refine x_iald (t0 := 0) hx hb hK B mA_tiesOf rfl dX7_isAhead_45 hm (fun x3 hm => ?_)
    refine lv_icmp_le (tgt := 53) hx hb dX7_isAhead_46 (by decide) (fun q => ?_) (fun q => ?_)
    · have hm := ift hm q
      refine lv_iconst (v := (0 : Int32)) hx hb dX7_isAhead_53 (by decide) ?_
      exact x_zretr hx hb hr hlk hK B rfl dX7_isAhead_54 hm
    · have hm := iff hm q
      refine lv_iconst (v := (1 : Int32)) hx hb dX7_isAhead_49 (by decide) ?_
      refine lv_goto (tgt := 54) hx hb dX7_isAhead_50 (by decide) ?_
      exact x_zretr hx hb hr hlk hK B rfl dX7_isAhead_54 hm
  · have hm := iff hm q
    refine lv_iload_n hx hb dX7_isAhead_11 rfl (lv_at hl 2 rfl) ?_
    refine lv_iload_n hx hb dX7_isAhead_12 rfl (lv_at hl 3 rfl) ?_
    refine lv_icmp_ge (tgt := 20) hx hb dX7_isAhead_13 (by decide) (fun q => ?_) (fun q => ?_)
    · have hm := ift hm q
      refine lv_iconst (v := (0 : Int32)) hx hb dX7_isAhead_20 (by decide) ?_
      refine lv_goto (tgt := 54) hx hb dX7_isAhead_21 (by decide) ?_
      exact x_zretr hx hb hr hlk hK B rfl dX7_isAhead_54 hm
    · have hm := iff hm q
      refine lv_iconst (v := (1 : Int32)) hx hb dX7_isAhead_16 (by decide) ?_
      refine lv_goto (tgt := 54) hx hb dX7_isAhead_17 (by decide) ?_
      exact x_zretr hx hb hr hlk hK B rfl dX7_isAhead_54 hm
def f_X7_aheadOf_s4 (σ : Mm) (v1 : Int32) (r4 : Int32 → Int32 → Option Int32) (v2 v3 : Int32) : Option Int32 :=
  if (σ 0 0) ≤ v3 then
    some v2
  else
    if v3 = v1 then
      r4 (v2 + (0 : Int32)) (v3 + (1 : Int32))
    else
      (f_X7_isAhead σ v3 v1).bind fun x1 =>
      if x1 = 0 then
        r4 (v2 + (0 : Int32)) (v3 + (1 : Int32))
      else
        r4 (v2 + (1 : Int32)) (v3 + (1 : Int32))
def f_X7_aheadOf (σ : Mm) (w1 : Int32) : Option Int32 :=
  wh2 (f_X7_aheadOf_s4 σ w1) 5000 (0 : Int32) (0 : Int32)
set_option maxHeartbeats 4000000 in
set_option maxRecDepth 100000 in
theorem c_X7_aheadOf (l : Launch) (D : va_G) (cI cZ : ClassId) (a : Nat → Nat) (w1 : Int32) : CTr l D [(cI, FieldType.int), (cZ, FieldType.boolean)] (mW cI cZ a) yX7_aheadOf (.code yX7_aheadOf cX7_aheadOf 4 (some FieldType.int) :: wsL_law) ({ frames := 2, cells := 0, slots := 0, locals := 47 } : Room) [.ref (a 0), .int w1] (fun σ => f_X7_aheadOf σ w1) := by
  refine CTr.of (by decide +kernel) (Nat.le_of_ble_eq_true rfl) ?_
  intro σ r hm p e s m below meth c A ls H locs hx hb hr hlk hml hT hown hK hA B hl
  have hown : s.vm.findClass RX7 = some m.cls := hown
  have hl : lv_has ls 4 [(0, .ref (a 0)), (1, .int w1)] := hl
  have hm : f_X7_aheadOf σ w1 = some r := hm
  unfold f_X7_aheadOf at hm
  have L4 : ∀ (v1 : Int32) (nn : Nat) (v2 : Int32) (v3 : Int32), wh2 (f_X7_aheadOf_s4 σ v1) nn v2 v3 = some r → ∀ (H : Heap) (locs : List Loc) (ls : Array Slot), BD D A s.heap ((mW cI cZ a) σ) H locs → lv_has ls 4 [(0, .ref (a 0)), (1, .int v1), (2, .int v2), (3, .int v3)] → W p l e ({ frames := 2, cells := 0, slots := 0, locals := 47 } : Room) s m ([.ref (a 0), .int w1] : List Value).toArray below meth c H locs 0 0 (MQ below (QI D [(cI, FieldType.int), (cZ, FieldType.boolean)] (mW cI cZ a) A (r, σ)) ([.ref (a 0), .int w1] : List Value).toArray s 0 0 A) (F0 m 4 ls []) := by
    intro v1
    refine loop2 (fun r4 ih4 v2 v3 hm H locs ls B hl => ?_)
    unfold f_X7_aheadOf_s4 at hm
    refine lv_iload_n hx hb dX7_aheadOf_4 rfl (lv_at hl 3 rfl) ?_
    refine lv_aload_n hx hb dX7_aheadOf_5 rfl (lv_at hl 0 rfl) ?_
    refine x_geti (T := TX7) (N := 33) hx hb hT hown hK B mI_players inlX7 rfl (by decide) q765 rfl dX7_aheadOf_6 ?_
    refine lv_icmp_ge (tgt := 40) hx hb dX7_aheadOf_9 (by decide) (fun q => ?_) (fun q => ?_)
    · have hm := ift hm q
      refine lv_iload_n hx hb dX7_aheadOf_40 rfl (lv_at hl 2 rfl) ?_
      exact x_iretr hx hb hr hlk hK B dX7_aheadOf_41 hm
    · have hm := iff hm q
      refine lv_iload_n hx hb dX7_aheadOf_12 rfl (lv_at hl 2 rfl) ?_
      refine lv_iload_n hx hb dX7_aheadOf_13 rfl (lv_at hl 3 rfl) ?_
      refine lv_iload_n hx hb dX7_aheadOf_14 rfl (lv_at hl 1 rfl) ?_
      refine lv_icmp_eq (tgt := 31) hx hb dX7_aheadOf_15 (by decide) (fun q => ?_) (fun q => ?_)
      · have hm := ift hm q
        refine lv_iconst (v := (0 : Int32)) hx hb dX7_aheadOf_31 (by decide) ?_
        refine lv_iadd hx hb dX7_aheadOf_32 ?_
        refine lv_istore_n (lv' := [(2, .int (v2 + (0 : Int32))), (0, .ref (a 0)), (1, .int v1), (3, .int v3)]) hx hb dX7_aheadOf_33 rfl hl (by decide) rfl (fun ls hl => ?_)
        refine lv_iinc (v := (v3 + (1 : Int32))) (lv' := [(3, .int (v3 + (1 : Int32))), (2, .int (v2 + (0 : Int32))), (0, .ref (a 0)), (1, .int v1)]) hx hb dX7_aheadOf_34 hl (k := 3) rfl rfl (by decide) rfl (fun ls hl => ?_)
        refine lv_goto (tgt := 4) hx hb dX7_aheadOf_37 (by decide) ?_
        exact ih4 (v2 + (0 : Int32)) (v3 + (1 : Int32)) hm H locs ls B (lv_sub hl [2, 3, 1, 0] rfl)
      · have hm := iff hm q
        refine lv_aload_n hx hb dX7_aheadOf_18 rfl (lv_at hl 0 rfl) ?_
        refine lv_iload_n hx hb dX7_aheadOf_19 rfl (lv_at hl 3 rfl) ?_
        refine lv_iload_n hx hb dX7_aheadOf_20 rfl (lv_at hl 1 rfl) ?_
        refine x_callVr (rest := [.int v2]) hx hb hml hT hown hK hA B hl.1 (c_X7_isAhead l D cI cZ a v3 v1) mi_X7_isAhead mv_X7_isAhead mO_M rfl q904 ⟨rfl, rfl⟩ ⟨Nat.le_of_ble_eq_true rfl, Nat.le_of_ble_eq_true rfl⟩ rfl rfl (Nat.le_of_ble_eq_true rfl) dX7_aheadOf_21 hm (fun x1 H locs B hm => ?_)
        refine lv_if_eq (tgt := 31) hx hb dX7_aheadOf_24 (by decide) (fun q => ?_) (fun q => ?_)
        · have hm := ift hm q
          refine lv_iconst (v := (0 : Int32)) hx hb dX7_aheadOf_31 (by decide) ?_
          refine lv_iadd hx hb dX7_aheadOf_32 ?_
          refine lv_istore_n (lv' := [(2, .int (v2 + (0 : Int32))), (0, .ref (a 0)), (1, .int v1), (3, .int v3)]) hx hb dX7_aheadOf_33 rfl hl (by decide) rfl (fun ls hl => ?_)
          refine lv_iinc (v := (v3 + (1 : Int32))) (lv' := [(3, .int (v3 + (1 : Int32))), (2, .int (v2 + (0 : Int32))), (0, .ref (a 0)), (1, .int v1)]) hx hb dX7_aheadOf_34 hl (k := 3) rfl rfl (by decide) rfl (fun ls hl => ?_)
          refine lv_goto (tgt := 4) hx hb dX7_aheadOf_37 (by decide) ?_
          exact ih4 (v2 + (0 : Int32)) (v3 + (1 : Int32)) hm H locs ls B (lv_sub hl [2, 3, 1, 0] rfl)
        · have hm := iff hm q
          refine lv_iconst (v := (1 : Int32)) hx hb dX7_aheadOf_27 (by decide) ?_
          refine lv_goto (tgt := 32) hx hb dX7_aheadOf_28 (by decide) ?_
          refine lv_iadd hx hb dX7_aheadOf_32 ?_
          refine lv_istore_n (lv' := [(2, .int (v2 + (1 : Int32))), (0, .ref (a 0)), (1, .int v1), (3, .int v3)]) hx hb dX7_aheadOf_33 rfl hl (by decide) rfl (fun ls hl => ?_)
          refine lv_iinc (v := (v3 + (1 : Int32))) (lv' := [(3, .int (v3 + (1 : Int32))), (2, .int (v2 + (1 : Int32))), (0, .ref (a 0)), (1, .int v1)]) hx hb dX7_aheadOf_34 hl (k := 3) rfl rfl (by decide) rfl (fun ls hl => ?_)
          refine lv_goto (tgt := 4) hx hb dX7_aheadOf_37 (by decide) ?_
          exact ih4 (v2 + (1 : Int32)) (v3 + (1 : Int32)) hm H locs ls B (lv_sub hl [2, 3, 1, 0] rfl)
  refine lv_iconst (v := (0 : Int32)) hx hb dX7_aheadOf_0 (by decide) ?_
  refine lv_istore_n (lv' := [(2, .int (0 : Int32)), (0, .ref (a 0)), (1, .int w1)]) hx hb dX7_aheadOf_1 rfl hl (by decide) rfl (fun ls hl => ?_)
  refine lv_iconst (v := (0 : Int32)) hx hb dX7_aheadOf_2 (by decide) ?_
  refine lv_istore_n (lv' := [(3, .int (0 : Int32)), (2, .int (0 : Int32)), (0, .ref (a 0)), (1, .int w1)]) hx hb dX7_aheadOf_3 rfl hl (by decide) rfl (fun ls hl => ?_)
  exact L4 w1 5000 (0 : Int32) (0 : Int32) hm H locs ls B (lv_sub hl [2, 3, 1, 0] rfl)
def f_X7_layStanding_s49 (r49 : Mm → Int32 → Option Mm) (σ : Mm) (v1 : Int32) : Option Mm :=
  (some (σ 0 0)).bind fun x1 =>
  if x1 ≤ v1 then
    some σ
  else
    (f_X7_aheadOf σ v1).bind fun x2 =>
    (ast 12 σ 14 x2 v1).bind fun σ =>
    r49 σ (v1 + (1 : Int32))
def f_X7_layStanding_s12 (r2 : Mm → Int32 → Option Mm) (v1 : Int32) (r12 : Mm → Int32 → Option Mm) (σ : Mm) (v2 : Int32) : Option Mm :=
  if (9 : Int32) ≤ v2 then
    r2 σ (v1 + (1 : Int32))
  else
    (f_X7_tieOf σ v1 v2).bind fun x3 =>
    (ast 108 σ 13 (((9 : Int32) * v1) + v2) x3).bind fun σ =>
    r12 σ (v2 + (1 : Int32))
def f_X7_layStanding_s2 (r2 : Mm → Int32 → Option Mm) (σ : Mm) (v1 : Int32) : Option Mm :=
  (some (σ 0 0)).bind fun x4 =>
  if x4 ≤ v1 then
    wh2 (f_X7_layStanding_s49) 5000 σ (0 : Int32)
  else
    wh2 (f_X7_layStanding_s12 r2 v1) 5000 σ (0 : Int32)
def f_X7_layStanding (σ : Mm) : Option Mm :=
  wh2 (f_X7_layStanding_s2) 5000 σ (0 : Int32)
set_option maxHeartbeats 4000000 in
set_option maxRecDepth 100000 in
theorem c_X7_layStanding (l : Launch) (D : va_G) (cI cZ : ClassId) (a : Nat → Nat) : CTv l D [(cI, FieldType.int), (cZ, FieldType.boolean)] (mW cI cZ a) yX7_layStanding (.code yX7_layStanding cX7_layStanding 3 (none : Option FieldType) :: wsL_law) ({ frames := 6, cells := 0, slots := 0, locals := 141 } : Room) [.ref (a 0)] (fun σ => f_X7_layStanding σ) := by
  refine CTv.of (by decide +kernel) (Nat.le_of_ble_eq_true rfl) ?_
  intro σ out hm p e s m below meth c A ls H locs hx hb hr hlk hml hT hown hK hA B hl
  have hown : s.vm.findClass RX7 = some m.cls := hown
  have hl : lv_has ls 3 [(0, .ref (a 0))] := hl
  have hm : f_X7_layStanding σ = some out := hm
  unfold f_X7_layStanding at hm
  have L49 : ∀ (nn : Nat) (σ : Mm) (v1 : Int32), wh2 f_X7_layStanding_s49 nn σ v1 = some out → ∀ (H : Heap) (locs : List Loc) (ls : Array Slot), BD D A s.heap ((mW cI cZ a) σ) H locs → lv_has ls 3 [(0, .ref (a 0)), (1, .int v1)] → W p l e ({ frames := 6, cells := 0, slots := 0, locals := 141 } : Room) s m ([.ref (a 0)] : List Value).toArray below meth c H locs 0 0 (MQ below (QV D [(cI, FieldType.int), (cZ, FieldType.boolean)] (mW cI cZ a) A out) ([.ref (a 0)] : List Value).toArray s 0 0 A) (F0 m 49 ls []) := by
    refine loop2 (fun r49 ih49 σ v1 hm H locs ls B hl => ?_)
    unfold f_X7_layStanding_s49 at hm
    refine lv_iload_n hx hb dX7_layStanding_49 rfl (lv_at hl 1 rfl) ?_
    refine lv_aload_n hx hb dX7_layStanding_50 rfl (lv_at hl 0 rfl) ?_
    refine x_getib (T := TX7) (N := 33) hx hb hT hown hK B mI_players inlX7 rfl (by decide) q765 rfl dX7_layStanding_51 hm (fun x1 hm => ?_)
    refine lv_icmp_ge (tgt := 74) hx hb dX7_layStanding_54 (by decide) (fun q => ?_) (fun q => ?_)
    · have hm := ift hm q
      exact x_vret hx hb hr hlk hK B dX7_layStanding_74 hm
    · have hm := iff hm q
      refine lv_aload_n hx hb dX7_layStanding_57 rfl (lv_at hl 0 rfl) ?_
      refine x_getv (T := TX7) (N := 33) hx hb hT hown hK B mV_standing inlX7 rfl (by decide) q779 rfl dX7_layStanding_58 ?_
      refine lv_aload_n hx hb dX7_layStanding_61 rfl (lv_at hl 0 rfl) ?_
      refine lv_iload_n hx hb dX7_layStanding_62 rfl (lv_at hl 1 rfl) ?_
      refine x_callVr (rest := [.ref (a 10)]) hx hb hml hT hown hK hA B hl.1 (c_X7_aheadOf l D cI cZ a v1) mi_X7_aheadOf mv_X7_aheadOf mO_M rfl q901 ⟨rfl, rfl⟩ ⟨Nat.le_of_ble_eq_true rfl, Nat.le_of_ble_eq_true rfl⟩ rfl rfl (Nat.le_of_ble_eq_true rfl) dX7_layStanding_63 hm (fun x2 H locs B hm => ?_)
      refine lv_iload_n hx hb dX7_layStanding_66 rfl (lv_at hl 1 rfl) ?_
      refine x_iast (t0 := 0) hx hb hK B mA_standing rfl dX7_layStanding_67 hm (fun σ H locs B hm => ?_)
      refine lv_iinc (v := (v1 + (1 : Int32))) (lv' := [(1, .int (v1 + (1 : Int32))), (0, .ref (a 0))]) hx hb dX7_layStanding_68 hl (k := 1) rfl rfl (by decide) rfl (fun ls hl => ?_)
      refine lv_goto (tgt := 49) hx hb dX7_layStanding_71 (by decide) ?_
      exact ih49 σ (v1 + (1 : Int32)) hm H locs ls B (lv_sub hl [1, 0] rfl)
  have L2 : ∀ (nn : Nat) (σ : Mm) (v1 : Int32), wh2 f_X7_layStanding_s2 nn σ v1 = some out → ∀ (H : Heap) (locs : List Loc) (ls : Array Slot), BD D A s.heap ((mW cI cZ a) σ) H locs → lv_has ls 3 [(0, .ref (a 0)), (1, .int v1)] → W p l e ({ frames := 6, cells := 0, slots := 0, locals := 141 } : Room) s m ([.ref (a 0)] : List Value).toArray below meth c H locs 0 0 (MQ below (QV D [(cI, FieldType.int), (cZ, FieldType.boolean)] (mW cI cZ a) A out) ([.ref (a 0)] : List Value).toArray s 0 0 A) (F0 m 2 ls []) := by
    refine loop2 (fun r2 ih2 σ v1 hm H locs ls B hl => ?_)
    unfold f_X7_layStanding_s2 at hm
    have L12 : ∀ (v1 : Int32) (nn : Nat) (σ : Mm) (v2 : Int32), wh2 (f_X7_layStanding_s12 r2 v1) nn σ v2 = some out → ∀ (H : Heap) (locs : List Loc) (ls : Array Slot), BD D A s.heap ((mW cI cZ a) σ) H locs → lv_has ls 3 [(0, .ref (a 0)), (1, .int v1), (2, .int v2)] → W p l e ({ frames := 6, cells := 0, slots := 0, locals := 141 } : Room) s m ([.ref (a 0)] : List Value).toArray below meth c H locs 0 0 (MQ below (QV D [(cI, FieldType.int), (cZ, FieldType.boolean)] (mW cI cZ a) A out) ([.ref (a 0)] : List Value).toArray s 0 0 A) (F0 m 12 ls []) := by
      intro v1
      refine loop2 (fun r12 ih12 σ v2 hm H locs ls B hl => ?_)
      unfold f_X7_layStanding_s12 at hm
      refine lv_iload_n hx hb dX7_layStanding_12 rfl (lv_at hl 2 rfl) ?_
      refine lv_bipush (v := (9 : Int32)) hx hb dX7_layStanding_13 (by decide) ?_
      refine lv_icmp_ge (tgt := 41) hx hb dX7_layStanding_15 (by decide) (fun q => ?_) (fun q => ?_)
      · have hm := ift hm q
        refine lv_iinc (v := (v1 + (1 : Int32))) (lv' := [(1, .int (v1 + (1 : Int32))), (0, .ref (a 0)), (2, .int v2)]) hx hb dX7_layStanding_41 hl (k := 1) rfl rfl (by decide) rfl (fun ls hl => ?_)
        refine lv_goto (tgt := 2) hx hb dX7_layStanding_44 (by decide) ?_
        exact ih2 σ (v1 + (1 : Int32)) hm H locs ls B (lv_sub hl [1, 0] rfl)
      · have hm := iff hm q
        refine lv_aload_n hx hb dX7_layStanding_18 rfl (lv_at hl 0 rfl) ?_
        refine x_getv (T := TX7) (N := 33) hx hb hT hown hK B mV_tiesOf inlX7 rfl (by decide) q778 rfl dX7_layStanding_19 ?_
        refine lv_bipush (v := (9 : Int32)) hx hb dX7_layStanding_22 (by decide) ?_
        refine lv_iload_n hx hb dX7_layStanding_24 rfl (lv_at hl 1 rfl) ?_
        refine lv_imul hx hb dX7_layStanding_25 ?_
        refine lv_iload_n hx hb dX7_layStanding_26 rfl (lv_at hl 2 rfl) ?_
        refine lv_iadd hx hb dX7_layStanding_27 ?_
        refine lv_aload_n hx hb dX7_layStanding_28 rfl (lv_at hl 0 rfl) ?_
        refine lv_iload_n hx hb dX7_layStanding_29 rfl (lv_at hl 1 rfl) ?_
        refine lv_iload_n hx hb dX7_layStanding_30 rfl (lv_at hl 2 rfl) ?_
        refine x_callVr (rest := [.int (((9 : Int32) * v1) + v2), .ref (a 9)]) hx hb hml hT hown hK hA B hl.1 (c_X7_tieOf l D cI cZ a v1 v2) mi_X7_tieOf mv_X7_tieOf mO_M rfl q851 ⟨rfl, rfl⟩ ⟨Nat.le_of_ble_eq_true rfl, Nat.le_of_ble_eq_true rfl⟩ rfl rfl (Nat.le_of_ble_eq_true rfl) dX7_layStanding_31 hm (fun x3 H locs B hm => ?_)
        refine x_iast (t0 := 0) hx hb hK B mA_tiesOf rfl dX7_layStanding_34 hm (fun σ H locs B hm => ?_)
        refine lv_iinc (v := (v2 + (1 : Int32))) (lv' := [(2, .int (v2 + (1 : Int32))), (0, .ref (a 0)), (1, .int v1)]) hx hb dX7_layStanding_35 hl (k := 2) rfl rfl (by decide) rfl (fun ls hl => ?_)
        refine lv_goto (tgt := 12) hx hb dX7_layStanding_38 (by decide) ?_
        exact ih12 σ (v2 + (1 : Int32)) hm H locs ls B (lv_sub hl [1, 2, 0] rfl)
    refine lv_iload_n hx hb dX7_layStanding_2 rfl (lv_at hl 1 rfl) ?_
    refine lv_aload_n hx hb dX7_layStanding_3 rfl (lv_at hl 0 rfl) ?_
    refine x_getib (T := TX7) (N := 33) hx hb hT hown hK B mI_players inlX7 rfl (by decide) q765 rfl dX7_layStanding_4 hm (fun x4 hm => ?_)
    refine lv_icmp_ge (tgt := 47) hx hb dX7_layStanding_7 (by decide) (fun q => ?_) (fun q => ?_)
    · have hm := ift hm q
      refine lv_iconst (v := (0 : Int32)) hx hb dX7_layStanding_47 (by decide) ?_
      refine lv_istore_n (lv' := [(1, .int (0 : Int32)), (0, .ref (a 0))]) hx hb dX7_layStanding_48 rfl hl (by decide) rfl (fun ls hl => ?_)
      exact L49 5000 σ (0 : Int32) hm H locs ls B (lv_sub hl [1, 0] rfl)
    · have hm := iff hm q
      refine lv_iconst (v := (0 : Int32)) hx hb dX7_layStanding_10 (by decide) ?_
      refine lv_istore_n (lv' := [(2, .int (0 : Int32)), (0, .ref (a 0)), (1, .int v1)]) hx hb dX7_layStanding_11 rfl hl (by decide) rfl (fun ls hl => ?_)
      exact L12 v1 5000 σ (0 : Int32) hm H locs ls B (lv_sub hl [1, 2, 0] rfl)
  refine lv_iconst (v := (0 : Int32)) hx hb dX7_layStanding_0 (by decide) ?_
  refine lv_istore_n (lv' := [(1, .int (0 : Int32)), (0, .ref (a 0))]) hx hb dX7_layStanding_1 rfl hl (by decide) rfl (fun ls hl => ?_)
  exact L2 5000 σ (0 : Int32) hm H locs ls B (lv_sub hl [1, 0] rfl)
def f_X7_costOf_j68 (σ : Mm) (v1 v2 s0 s1 : Int32) : Option Int32 :=
  (f_X7_latestOf σ v1).bind fun x1 =>
  if x1 < 0 then
    some ((s0 + s1) + (0 : Int32))
  else
    (f_X7_latestOf σ v1).bind fun x2 =>
    (f_X7_latestOf σ v2).bind fun x3 =>
    if x2 = x3 then
      some ((s0 + s1) + (1 : Int32))
    else
      some ((s0 + s1) + (0 : Int32))
def f_X7_costOf_j63 (σ : Mm) (v1 v2 s0 : Int32) : Option Int32 :=
  f_X7_costOf_j68 σ v1 v2 s0 (3 : Int32)
def f_X7_costOf_j53 (σ : Mm) (v1 v2 v4 v5 s0 : Int32) : Option Int32 :=
  if 0 ≤ v4 then
    f_X7_costOf_j68 σ v1 v2 s0 (0 : Int32)
  else
    if 0 ≤ v5 then
      f_X7_costOf_j68 σ v1 v2 s0 (0 : Int32)
    else
      f_X7_costOf_j63 σ v1 v2 s0
def f_X7_costOf_j38 (σ : Mm) (v1 v2 v4 v5 s0 s1 : Int32) : Option Int32 :=
  if v4 ≤ 0 then
    f_X7_costOf_j53 σ v1 v2 v4 v5 (s0 * s1)
  else
    if 0 < v5 then
      f_X7_costOf_j63 σ v1 v2 (s0 * s1)
    else
      f_X7_costOf_j53 σ v1 v2 v4 v5 (s0 * s1)
def f_X7_costOf (σ : Mm) (w1 : Int32) (w2 : Int32) : Option Int32 :=
  (f_X7_pointsOf σ w1).bind fun x4 =>
  (f_X7_pointsOf σ w2).bind fun x5 =>
  (f_X7_balanceOf σ w1).bind fun x6 =>
  (f_X7_balanceOf σ w2).bind fun x7 =>
  if 0 ≤ (x4 - x5) then
    f_X7_costOf_j38 σ w1 w2 x6 x7 (10 : Int32) (x4 - x5)
  else
    f_X7_costOf_j38 σ w1 w2 x6 x7 (10 : Int32) (-(x4 - x5))
set_option maxHeartbeats 4000000 in
set_option maxRecDepth 100000 in
theorem c_X7_costOf (l : Launch) (D : va_G) (cI cZ : ClassId) (a : Nat → Nat) (w1 : Int32) (w2 : Int32) : CTr l D [(cI, FieldType.int), (cZ, FieldType.boolean)] (mW cI cZ a) yX7_costOf (.code yX7_costOf cX7_costOf 7 (some FieldType.int) :: wsL_law) ({ frames := 4, cells := 0, slots := 0, locals := 92 } : Room) [.ref (a 0), .int w1, .int w2] (fun σ => f_X7_costOf σ w1 w2) := by
  refine CTr.of (by decide +kernel) (Nat.le_of_ble_eq_true rfl) ?_
  intro σ r hm p e s m below meth c A ls H locs hx hb hr hlk hml hT hown hK hA B hl
  have hown : s.vm.findClass RX7 = some m.cls := hown
  have hl : lv_has ls 7 [(0, .ref (a 0)), (1, .int w1), (2, .int w2)] := hl
  have hm : f_X7_costOf σ w1 w2 = some r := hm
  unfold f_X7_costOf at hm
  have j68 : ∀ (v1 : Int32) (v2 : Int32) (s0 : Int32) (s1 : Int32) (H : Heap) (locs : List Loc) (ls : Array Slot), BD D A s.heap ((mW cI cZ a) σ) H locs → lv_has ls 7 [(0, .ref (a 0)), (1, .int v1), (2, .int v2)] → f_X7_costOf_j68 σ v1 v2 s0 s1 = some r → W p l e ({ frames := 4, cells := 0, slots := 0, locals := 92 } : Room) s m ([.ref (a 0), .int w1, .int w2] : List Value).toArray below meth c H locs 0 0 (MQ below (QI D [(cI, FieldType.int), (cZ, FieldType.boolean)] (mW cI cZ a) A (r, σ)) ([.ref (a 0), .int w1, .int w2] : List Value).toArray s 0 0 A) (F0 m 68 ls [.int s1, .int s0]) := by
    intro v1 v2 s0 s1 H locs ls B hl hm
    unfold f_X7_costOf_j68 at hm
    refine lv_iadd hx hb dX7_costOf_68 ?_
    refine lv_istore (lv' := [(6, .int (s0 + s1)), (0, .ref (a 0)), (1, .int v1), (2, .int v2)]) hx hb dX7_costOf_69 hl (by decide) rfl (fun ls hl => ?_)
    refine lv_iload hx hb dX7_costOf_71 (lv_at hl 0 rfl) ?_
    refine lv_aload_n hx hb dX7_costOf_73 rfl (lv_at hl 1 rfl) ?_
    refine lv_iload_n hx hb dX7_costOf_74 rfl (lv_at hl 2 rfl) ?_
    refine x_callVr (rest := [.int (s0 + s1)]) hx hb hml hT hown hK hA B hl.1 (c_X7_latestOf l D cI cZ a v1) mi_X7_latestOf mv_X7_latestOf mO_M rfl q931 ⟨rfl, rfl⟩ ⟨Nat.le_of_ble_eq_true rfl, Nat.le_of_ble_eq_true rfl⟩ rfl rfl (Nat.le_of_ble_eq_true rfl) dX7_costOf_75 hm (fun x1 H locs B hm => ?_)
    refine lv_if_lt (tgt := 98) hx hb dX7_costOf_78 (by decide) (fun q => ?_) (fun q => ?_)
    · have hm := ift hm q
      refine lv_iconst (v := (0 : Int32)) hx hb dX7_costOf_98 (by decide) ?_
      refine lv_iadd hx hb dX7_costOf_99 ?_
      exact x_iretr hx hb hr hlk hK B dX7_costOf_100 hm
    · have hm := iff hm q
      refine lv_aload_n hx hb dX7_costOf_81 rfl (lv_at hl 1 rfl) ?_
      refine lv_iload_n hx hb dX7_costOf_82 rfl (lv_at hl 2 rfl) ?_
      refine x_callVr (rest := [.int (s0 + s1)]) hx hb hml hT hown hK hA B hl.1 (c_X7_latestOf l D cI cZ a v1) mi_X7_latestOf mv_X7_latestOf mO_M rfl q931 ⟨rfl, rfl⟩ ⟨Nat.le_of_ble_eq_true rfl, Nat.le_of_ble_eq_true rfl⟩ rfl rfl (Nat.le_of_ble_eq_true rfl) dX7_costOf_83 hm (fun x2 H locs B hm => ?_)
      refine lv_aload_n hx hb dX7_costOf_86 rfl (lv_at hl 1 rfl) ?_
      refine lv_iload_n hx hb dX7_costOf_87 rfl (lv_at hl 3 rfl) ?_
      refine x_callVr (rest := [.int x2, .int (s0 + s1)]) hx hb hml hT hown hK hA B hl.1 (c_X7_latestOf l D cI cZ a v2) mi_X7_latestOf mv_X7_latestOf mO_M rfl q931 ⟨rfl, rfl⟩ ⟨Nat.le_of_ble_eq_true rfl, Nat.le_of_ble_eq_true rfl⟩ rfl rfl (Nat.le_of_ble_eq_true rfl) dX7_costOf_88 hm (fun x3 H locs B hm => ?_)
      refine lv_icmp_ne (tgt := 98) hx hb dX7_costOf_91 (by decide) (fun q => ?_) (fun q => ?_)
      · have hm := iff hm q
        refine lv_iconst (v := (0 : Int32)) hx hb dX7_costOf_98 (by decide) ?_
        refine lv_iadd hx hb dX7_costOf_99 ?_
        exact x_iretr hx hb hr hlk hK B dX7_costOf_100 hm
      · have hm := ift hm q
        refine lv_iconst (v := (1 : Int32)) hx hb dX7_costOf_94 (by decide) ?_
        refine lv_goto (tgt := 99) hx hb dX7_costOf_95 (by decide) ?_
        refine lv_iadd hx hb dX7_costOf_99 ?_
        exact x_iretr hx hb hr hlk hK B dX7_costOf_100 hm
  have j63 : ∀ (v1 : Int32) (v2 : Int32) (s0 : Int32) (H : Heap) (locs : List Loc) (ls : Array Slot), BD D A s.heap ((mW cI cZ a) σ) H locs → lv_has ls 7 [(0, .ref (a 0)), (1, .int v1), (2, .int v2)] → f_X7_costOf_j63 σ v1 v2 s0 = some r → W p l e ({ frames := 4, cells := 0, slots := 0, locals := 92 } : Room) s m ([.ref (a 0), .int w1, .int w2] : List Value).toArray below meth c H locs 0 0 (MQ below (QI D [(cI, FieldType.int), (cZ, FieldType.boolean)] (mW cI cZ a) A (r, σ)) ([.ref (a 0), .int w1, .int w2] : List Value).toArray s 0 0 A) (F0 m 63 ls [.int s0]) := by
    intro v1 v2 s0 H locs ls B hl hm
    unfold f_X7_costOf_j63 at hm
    refine lv_iconst (v := (3 : Int32)) hx hb dX7_costOf_63 (by decide) ?_
    refine lv_goto (tgt := 68) hx hb dX7_costOf_64 (by decide) ?_
    exact j68 v1 v2 s0 (3 : Int32) H locs ls B (lv_sub hl [0, 1, 2] rfl) hm
  have j53 : ∀ (v1 : Int32) (v2 : Int32) (v4 : Int32) (v5 : Int32) (s0 : Int32) (H : Heap) (locs : List Loc) (ls : Array Slot), BD D A s.heap ((mW cI cZ a) σ) H locs → lv_has ls 7 [(0, .ref (a 0)), (1, .int v1), (2, .int v2), (4, .int v4), (5, .int v5)] → f_X7_costOf_j53 σ v1 v2 v4 v5 s0 = some r → W p l e ({ frames := 4, cells := 0, slots := 0, locals := 92 } : Room) s m ([.ref (a 0), .int w1, .int w2] : List Value).toArray below meth c H locs 0 0 (MQ below (QI D [(cI, FieldType.int), (cZ, FieldType.boolean)] (mW cI cZ a) A (r, σ)) ([.ref (a 0), .int w1, .int w2] : List Value).toArray s 0 0 A) (F0 m 53 ls [.int s0]) := by
    intro v1 v2 v4 v5 s0 H locs ls B hl hm
    unfold f_X7_costOf_j53 at hm
    refine lv_iload hx hb dX7_costOf_53 (lv_at hl 3 rfl) ?_
    refine lv_if_ge (tgt := 67) hx hb dX7_costOf_55 (by decide) (fun q => ?_) (fun q => ?_)
    · have hm := ift hm q
      refine lv_iconst (v := (0 : Int32)) hx hb dX7_costOf_67 (by decide) ?_
      exact j68 v1 v2 s0 (0 : Int32) H locs ls B (lv_sub hl [0, 1, 2] rfl) hm
    · have hm := iff hm q
      refine lv_iload hx hb dX7_costOf_58 (lv_at hl 4 rfl) ?_
      refine lv_if_ge (tgt := 67) hx hb dX7_costOf_60 (by decide) (fun q => ?_) (fun q => ?_)
      · have hm := ift hm q
        refine lv_iconst (v := (0 : Int32)) hx hb dX7_costOf_67 (by decide) ?_
        exact j68 v1 v2 s0 (0 : Int32) H locs ls B (lv_sub hl [0, 1, 2] rfl) hm
      · have hm := iff hm q
        exact j63 v1 v2 s0 H locs ls B (lv_sub hl [0, 1, 2] rfl) hm
  have j38 : ∀ (v1 : Int32) (v2 : Int32) (v4 : Int32) (v5 : Int32) (s0 : Int32) (s1 : Int32) (H : Heap) (locs : List Loc) (ls : Array Slot), BD D A s.heap ((mW cI cZ a) σ) H locs → lv_has ls 7 [(0, .ref (a 0)), (1, .int v1), (2, .int v2), (4, .int v4), (5, .int v5)] → f_X7_costOf_j38 σ v1 v2 v4 v5 s0 s1 = some r → W p l e ({ frames := 4, cells := 0, slots := 0, locals := 92 } : Room) s m ([.ref (a 0), .int w1, .int w2] : List Value).toArray below meth c H locs 0 0 (MQ below (QI D [(cI, FieldType.int), (cZ, FieldType.boolean)] (mW cI cZ a) A (r, σ)) ([.ref (a 0), .int w1, .int w2] : List Value).toArray s 0 0 A) (F0 m 38 ls [.int s1, .int s0]) := by
    intro v1 v2 v4 v5 s0 s1 H locs ls B hl hm
    unfold f_X7_costOf_j38 at hm
    refine lv_imul hx hb dX7_costOf_38 ?_
    refine lv_istore (lv' := [(6, .int (s0 * s1)), (0, .ref (a 0)), (1, .int v1), (2, .int v2), (4, .int v4), (5, .int v5)]) hx hb dX7_costOf_39 hl (by decide) rfl (fun ls hl => ?_)
    refine lv_iload hx hb dX7_costOf_41 (lv_at hl 0 rfl) ?_
    refine lv_iload hx hb dX7_costOf_43 (lv_at hl 4 rfl) ?_
    refine lv_if_le (tgt := 53) hx hb dX7_costOf_45 (by decide) (fun q => ?_) (fun q => ?_)
    · have hm := ift hm q
      exact j53 v1 v2 v4 v5 (s0 * s1) H locs ls B (lv_sub hl [1, 2, 3, 4, 5] rfl) hm
    · have hm := iff hm q
      refine lv_iload hx hb dX7_costOf_48 (lv_at hl 5 rfl) ?_
      refine lv_if_gt (tgt := 63) hx hb dX7_costOf_50 (by decide) (fun q => ?_) (fun q => ?_)
      · have hm := ift hm q
        exact j63 v1 v2 (s0 * s1) H locs ls B (lv_sub hl [1, 2, 3] rfl) hm
      · have hm := iff hm q
        exact j53 v1 v2 v4 v5 (s0 * s1) H locs ls B (lv_sub hl [1, 2, 3, 4, 5] rfl) hm
  refine lv_aload_n hx hb dX7_costOf_0 rfl (lv_at hl 0 rfl) ?_
  refine lv_iload_n hx hb dX7_costOf_1 rfl (lv_at hl 1 rfl) ?_
  refine x_callVr (rest := []) hx hb hml hT hown hK hA B hl.1 (c_X7_pointsOf l D cI cZ a w1) mi_X7_pointsOf mv_X7_pointsOf mO_M rfl q854 ⟨rfl, rfl⟩ ⟨Nat.le_of_ble_eq_true rfl, Nat.le_of_ble_eq_true rfl⟩ rfl rfl (Nat.le_of_ble_eq_true rfl) dX7_costOf_2 hm (fun x4 H locs B hm => ?_)
  refine lv_aload_n hx hb dX7_costOf_5 rfl (lv_at hl 0 rfl) ?_
  refine lv_iload_n hx hb dX7_costOf_6 rfl (lv_at hl 2 rfl) ?_
  refine x_callVr (rest := [.int x4]) hx hb hml hT hown hK hA B hl.1 (c_X7_pointsOf l D cI cZ a w2) mi_X7_pointsOf mv_X7_pointsOf mO_M rfl q854 ⟨rfl, rfl⟩ ⟨Nat.le_of_ble_eq_true rfl, Nat.le_of_ble_eq_true rfl⟩ rfl rfl (Nat.le_of_ble_eq_true rfl) dX7_costOf_7 hm (fun x5 H locs B hm => ?_)
  refine lv_isub hx hb dX7_costOf_10 ?_
  refine lv_istore_n (lv' := [(3, .int (x4 - x5)), (0, .ref (a 0)), (1, .int w1), (2, .int w2)]) hx hb dX7_costOf_11 rfl hl (by decide) rfl (fun ls hl => ?_)
  refine lv_aload_n hx hb dX7_costOf_12 rfl (lv_at hl 1 rfl) ?_
  refine lv_iload_n hx hb dX7_costOf_13 rfl (lv_at hl 2 rfl) ?_
  refine x_callVr (rest := []) hx hb hml hT hown hK hA B hl.1 (c_X7_balanceOf l D cI cZ a w1) mi_X7_balanceOf mv_X7_balanceOf mO_M rfl q925 ⟨rfl, rfl⟩ ⟨Nat.le_of_ble_eq_true rfl, Nat.le_of_ble_eq_true rfl⟩ rfl rfl (Nat.le_of_ble_eq_true rfl) dX7_costOf_14 hm (fun x6 H locs B hm => ?_)
  refine lv_istore (lv' := [(4, .int x6), (3, .int (x4 - x5)), (0, .ref (a 0)), (1, .int w1), (2, .int w2)]) hx hb dX7_costOf_17 hl (by decide) rfl (fun ls hl => ?_)
  refine lv_aload_n hx hb dX7_costOf_19 rfl (lv_at hl 2 rfl) ?_
  refine lv_iload_n hx hb dX7_costOf_20 rfl (lv_at hl 4 rfl) ?_
  refine x_callVr (rest := []) hx hb hml hT hown hK hA B hl.1 (c_X7_balanceOf l D cI cZ a w2) mi_X7_balanceOf mv_X7_balanceOf mO_M rfl q925 ⟨rfl, rfl⟩ ⟨Nat.le_of_ble_eq_true rfl, Nat.le_of_ble_eq_true rfl⟩ rfl rfl (Nat.le_of_ble_eq_true rfl) dX7_costOf_21 hm (fun x7 H locs B hm => ?_)
  refine lv_istore (lv' := [(5, .int x7), (4, .int x6), (3, .int (x4 - x5)), (0, .ref (a 0)), (1, .int w1), (2, .int w2)]) hx hb dX7_costOf_24 hl (by decide) rfl (fun ls hl => ?_)
  refine lv_bipush (v := (10 : Int32)) hx hb dX7_costOf_26 (by decide) ?_
  refine lv_iload_n hx hb dX7_costOf_28 rfl (lv_at hl 2 rfl) ?_
  refine lv_if_ge (tgt := 37) hx hb dX7_costOf_29 (by decide) (fun q => ?_) (fun q => ?_)
  · have hm := ift hm q
    refine lv_iload_n hx hb dX7_costOf_37 rfl (lv_at hl 2 rfl) ?_
    exact j38 w1 w2 x6 x7 (10 : Int32) (x4 - x5) H locs ls B (lv_sub hl [3, 4, 5, 1, 0] rfl) hm
  · have hm := iff hm q
    refine lv_iload_n hx hb dX7_costOf_32 rfl (lv_at hl 2 rfl) ?_
    refine lv_ineg hx hb dX7_costOf_33 ?_
    refine lv_goto (tgt := 38) hx hb dX7_costOf_34 (by decide) ?_
    exact j38 w1 w2 x6 x7 (10 : Int32) (-(x4 - x5)) H locs ls B (lv_sub hl [3, 4, 5, 1, 0] rfl) hm
def f_X7_layBye_j114 (σ : Mm) (s1 : Int32) : Option Mm :=
  (some (sc σ 17 s1)).bind fun σ =>
  some σ
def f_X7_layBye_j84 (σ : Mm) (v1 : Int32) : Option Mm :=
  (f_X7_manyIn σ).bind fun x1 =>
  (nz (2 : Int32) (x1 - x1 / (2 : Int32) * (2 : Int32))).bind fun x2 =>
  if x2 = 0 then
    f_X7_layBye_j114 σ (-5 : Int32)
  else
    (some (σ 17 0)).bind fun x3 =>
    if 0 ≤ x3 then
      (some (σ 17 0)).bind fun x4 =>
      f_X7_layBye_j114 σ x4
    else
      f_X7_layBye_j114 σ v1
def f_X7_layBye_j75 (r11 : Mm → Int32 → Int32 → Option Mm) (σ : Mm) (v1 v2 s1 : Int32) : Option Mm :=
  (some (sc σ 17 s1)).bind fun σ =>
  r11 σ v1 (v2 + (1 : Int32))
def f_X7_layBye_j71 (r11 : Mm → Int32 → Int32 → Option Mm) (σ : Mm) (v1 v2 : Int32) : Option Mm :=
  (some (σ 17 0)).bind fun x5 =>
  f_X7_layBye_j75 r11 σ v1 v2 x5
def f_X7_layBye_j41 (r11 : Mm → Int32 → Int32 → Option Mm) (σ : Mm) (v2 v3 s0 : Int32) : Option Mm :=
  (ald 12 (σ 2) v3).bind fun x6 =>
  if x6 = (1 : Int32) then
    (f_X7_byesOf σ v3).bind fun x7 =>
    (f_X7_forfeitsOf σ v3).bind fun x8 =>
    if (x7 + x8) = 0 then
      f_X7_layBye_j75 r11 σ s0 v2 v3
    else
      f_X7_layBye_j71 r11 σ s0 v2
  else
    f_X7_layBye_j71 r11 σ s0 v2
def f_X7_layBye_s11 (r11 : Mm → Int32 → Int32 → Option Mm) (σ : Mm) (v1 v2 : Int32) : Option Mm :=
  (some (σ 0 0)).bind fun x9 =>
  if x9 ≤ v2 then
    f_X7_layBye_j84 σ v1
  else
    (ald 12 (σ 14) v2).bind fun x10 =>
    (ald 12 (σ 2) x10).bind fun x11 =>
    if x11 = (1 : Int32) then
      f_X7_layBye_j41 r11 σ v2 x10 x10
    else
      f_X7_layBye_j41 r11 σ v2 x10 v1
def f_X7_layBye (σ : Mm) : Option Mm :=
  (some (sc σ 17 (-5 : Int32))).bind fun σ =>
  wh3 (f_X7_layBye_s11) 5000 σ (-5 : Int32) (0 : Int32)
set_option maxHeartbeats 4000000 in
set_option maxRecDepth 100000 in
theorem c_X7_layBye (l : Launch) (D : va_G) (cI cZ : ClassId) (a : Nat → Nat) : CTv l D [(cI, FieldType.int), (cZ, FieldType.boolean)] (mW cI cZ a) yX7_layBye (.code yX7_layBye cX7_layBye 4 (none : Option FieldType) :: wsL_law) ({ frames := 2, cells := 0, slots := 0, locals := 48 } : Room) [.ref (a 0)] (fun σ => f_X7_layBye σ) := by
  refine CTv.of (by decide +kernel) (Nat.le_of_ble_eq_true rfl) ?_
  intro σ out hm p e s m below meth c A ls H locs hx hb hr hlk hml hT hown hK hA B hl
  have hown : s.vm.findClass RX7 = some m.cls := hown
  have hl : lv_has ls 4 [(0, .ref (a 0))] := hl
  have hm : f_X7_layBye σ = some out := hm
  unfold f_X7_layBye at hm
  have j114 : ∀ (σ : Mm) (s1 : Int32) (H : Heap) (locs : List Loc) (ls : Array Slot), BD D A s.heap ((mW cI cZ a) σ) H locs → lv_has ls 4 [] → f_X7_layBye_j114 σ s1 = some out → W p l e ({ frames := 2, cells := 0, slots := 0, locals := 48 } : Room) s m ([.ref (a 0)] : List Value).toArray below meth c H locs 0 0 (MQ below (QV D [(cI, FieldType.int), (cZ, FieldType.boolean)] (mW cI cZ a) A out) ([.ref (a 0)] : List Value).toArray s 0 0 A) (F0 m 114 ls [.int s1, .ref (a 0)]) := by
    intro σ s1 H locs ls B hl hm
    unfold f_X7_layBye_j114 at hm
    refine x_puti (T := TX7) (N := 33) hx hb hT hown hK B mI_byeNow inlX7 tyX7_ok nmX7 rfl (by decide) q782 rfl rfl rfl rfl rfl dX7_layBye_114 hm (fun σ H locs B hm => ?_)
    exact x_vret hx hb hr hlk hK B dX7_layBye_117 hm
  have j84 : ∀ (σ : Mm) (v1 : Int32) (H : Heap) (locs : List Loc) (ls : Array Slot), BD D A s.heap ((mW cI cZ a) σ) H locs → lv_has ls 4 [(0, .ref (a 0)), (1, .int v1)] → f_X7_layBye_j84 σ v1 = some out → W p l e ({ frames := 2, cells := 0, slots := 0, locals := 48 } : Room) s m ([.ref (a 0)] : List Value).toArray below meth c H locs 0 0 (MQ below (QV D [(cI, FieldType.int), (cZ, FieldType.boolean)] (mW cI cZ a) A out) ([.ref (a 0)] : List Value).toArray s 0 0 A) (F0 m 84 ls []) := by
    intro σ v1 H locs ls B hl hm
    unfold f_X7_layBye_j84 at hm
    refine lv_aload_n hx hb dX7_layBye_84 rfl (lv_at hl 0 rfl) ?_
    refine lv_aload_n hx hb dX7_layBye_85 rfl (lv_at hl 0 rfl) ?_
    refine x_callVr (rest := [.ref (a 0)]) hx hb hml hT hown hK hA B hl.1 (c_X7_manyIn l D cI cZ a) mi_X7_manyIn mv_X7_manyIn mO_M rfl q839 ⟨rfl, rfl⟩ ⟨Nat.le_of_ble_eq_true rfl, Nat.le_of_ble_eq_true rfl⟩ rfl rfl (Nat.le_of_ble_eq_true rfl) dX7_layBye_86 hm (fun x1 H locs B hm => ?_)
    refine lv_iconst (v := (2 : Int32)) hx hb dX7_layBye_89 (by decide) ?_
    refine x_irem hx hb dX7_layBye_90 hm (fun x2 hm => ?_)
    refine lv_if_ne (tgt := 99) hx hb dX7_layBye_91 (by decide) (fun q => ?_) (fun q => ?_)
    · have hm := iff hm q
      refine lv_aload_n hx hb dX7_layBye_99 rfl (lv_at hl 0 rfl) ?_
      refine x_getib (T := TX7) (N := 33) hx hb hT hown hK B mI_byeNow inlX7 rfl (by decide) q782 rfl dX7_layBye_100 hm (fun x3 hm => ?_)
      refine lv_if_ge (tgt := 110) hx hb dX7_layBye_103 (by decide) (fun q => ?_) (fun q => ?_)
      · have hm := ift hm q
        refine lv_aload_n hx hb dX7_layBye_110 rfl (lv_at hl 0 rfl) ?_
        refine x_getib (T := TX7) (N := 33) hx hb hT hown hK B mI_byeNow inlX7 rfl (by decide) q782 rfl dX7_layBye_111 hm (fun x4 hm => ?_)
        exact j114 σ x4 H locs ls B (lv_sub hl [] rfl) hm
      · have hm := iff hm q
        refine lv_iload_n hx hb dX7_layBye_106 rfl (lv_at hl 1 rfl) ?_
        refine lv_goto (tgt := 114) hx hb dX7_layBye_107 (by decide) ?_
        exact j114 σ v1 H locs ls B (lv_sub hl [] rfl) hm
    · have hm := ift hm q
      refine lv_bipush (v := (-5 : Int32)) hx hb dX7_layBye_94 (by decide) ?_
      refine lv_goto (tgt := 114) hx hb dX7_layBye_96 (by decide) ?_
      exact j114 σ (-5 : Int32) H locs ls B (lv_sub hl [] rfl) hm
  have L11 : ∀ (nn : Nat) (σ : Mm) (v1 : Int32) (v2 : Int32), wh3 f_X7_layBye_s11 nn σ v1 v2 = some out → ∀ (H : Heap) (locs : List Loc) (ls : Array Slot), BD D A s.heap ((mW cI cZ a) σ) H locs → lv_has ls 4 [(0, .ref (a 0)), (1, .int v1), (2, .int v2)] → W p l e ({ frames := 2, cells := 0, slots := 0, locals := 48 } : Room) s m ([.ref (a 0)] : List Value).toArray below meth c H locs 0 0 (MQ below (QV D [(cI, FieldType.int), (cZ, FieldType.boolean)] (mW cI cZ a) A out) ([.ref (a 0)] : List Value).toArray s 0 0 A) (F0 m 11 ls []) := by
    refine loop3 (fun r11 ih11 σ v1 v2 hm H locs ls B hl => ?_)
    unfold f_X7_layBye_s11 at hm
    have j75 : ∀ (σ : Mm) (v1 : Int32) (v2 : Int32) (s1 : Int32) (H : Heap) (locs : List Loc) (ls : Array Slot), BD D A s.heap ((mW cI cZ a) σ) H locs → lv_has ls 4 [(0, .ref (a 0)), (1, .int v1), (2, .int v2)] → f_X7_layBye_j75 r11 σ v1 v2 s1 = some out → W p l e ({ frames := 2, cells := 0, slots := 0, locals := 48 } : Room) s m ([.ref (a 0)] : List Value).toArray below meth c H locs 0 0 (MQ below (QV D [(cI, FieldType.int), (cZ, FieldType.boolean)] (mW cI cZ a) A out) ([.ref (a 0)] : List Value).toArray s 0 0 A) (F0 m 75 ls [.int s1, .ref (a 0)]) := by
      intro σ v1 v2 s1 H locs ls B hl hm
      unfold f_X7_layBye_j75 at hm
      refine x_puti (T := TX7) (N := 33) hx hb hT hown hK B mI_byeNow inlX7 tyX7_ok nmX7 rfl (by decide) q782 rfl rfl rfl rfl rfl dX7_layBye_75 hm (fun σ H locs B hm => ?_)
      refine lv_iinc (v := (v2 + (1 : Int32))) (lv' := [(2, .int (v2 + (1 : Int32))), (0, .ref (a 0)), (1, .int v1)]) hx hb dX7_layBye_78 hl (k := 2) rfl rfl (by decide) rfl (fun ls hl => ?_)
      refine lv_goto (tgt := 11) hx hb dX7_layBye_81 (by decide) ?_
      exact ih11 σ v1 (v2 + (1 : Int32)) hm H locs ls B (lv_sub hl [1, 2, 0] rfl)
    have j71 : ∀ (σ : Mm) (v1 : Int32) (v2 : Int32) (H : Heap) (locs : List Loc) (ls : Array Slot), BD D A s.heap ((mW cI cZ a) σ) H locs → lv_has ls 4 [(0, .ref (a 0)), (1, .int v1), (2, .int v2)] → f_X7_layBye_j71 r11 σ v1 v2 = some out → W p l e ({ frames := 2, cells := 0, slots := 0, locals := 48 } : Room) s m ([.ref (a 0)] : List Value).toArray below meth c H locs 0 0 (MQ below (QV D [(cI, FieldType.int), (cZ, FieldType.boolean)] (mW cI cZ a) A out) ([.ref (a 0)] : List Value).toArray s 0 0 A) (F0 m 71 ls [.ref (a 0)]) := by
      intro σ v1 v2 H locs ls B hl hm
      unfold f_X7_layBye_j71 at hm
      refine lv_aload_n hx hb dX7_layBye_71 rfl (lv_at hl 0 rfl) ?_
      refine x_getib (T := TX7) (N := 33) hx hb hT hown hK B mI_byeNow inlX7 rfl (by decide) q782 rfl dX7_layBye_72 hm (fun x5 hm => ?_)
      exact j75 σ v1 v2 x5 H locs ls B (lv_sub hl [0, 1, 2] rfl) hm
    have j41 : ∀ (σ : Mm) (v2 : Int32) (v3 : Int32) (s0 : Int32) (H : Heap) (locs : List Loc) (ls : Array Slot), BD D A s.heap ((mW cI cZ a) σ) H locs → lv_has ls 4 [(0, .ref (a 0)), (2, .int v2), (3, .int v3)] → f_X7_layBye_j41 r11 σ v2 v3 s0 = some out → W p l e ({ frames := 2, cells := 0, slots := 0, locals := 48 } : Room) s m ([.ref (a 0)] : List Value).toArray below meth c H locs 0 0 (MQ below (QV D [(cI, FieldType.int), (cZ, FieldType.boolean)] (mW cI cZ a) A out) ([.ref (a 0)] : List Value).toArray s 0 0 A) (F0 m 41 ls [.int s0]) := by
      intro σ v2 v3 s0 H locs ls B hl hm
      unfold f_X7_layBye_j41 at hm
      refine lv_istore_n (lv' := [(1, .int s0), (0, .ref (a 0)), (2, .int v2), (3, .int v3)]) hx hb dX7_layBye_41 rfl hl (by decide) rfl (fun ls hl => ?_)
      refine lv_aload_n hx hb dX7_layBye_42 rfl (lv_at hl 1 rfl) ?_
      refine lv_aload_n hx hb dX7_layBye_43 rfl (lv_at hl 1 rfl) ?_
      refine x_getv (T := TX7) (N := 33) hx hb hT hown hK B mV_isIn inlX7 rfl (by decide) q767 rfl dX7_layBye_44 ?_
      refine lv_iload_n hx hb dX7_layBye_47 rfl (lv_at hl 3 rfl) ?_
      refine x_iald (t0 := 0) hx hb hK B mA_isIn rfl dX7_layBye_48 hm (fun x6 hm => ?_)
      refine lv_iconst (v := (1 : Int32)) hx hb dX7_layBye_49 (by decide) ?_
      refine lv_icmp_ne (tgt := 71) hx hb dX7_layBye_50 (by decide) (fun q => ?_) (fun q => ?_)
      · have hm := iff hm q
        exact j71 σ s0 v2 H locs ls B (lv_sub hl [1, 0, 2] rfl) hm
      · have hm := ift hm q
        refine lv_aload_n hx hb dX7_layBye_53 rfl (lv_at hl 1 rfl) ?_
        refine lv_iload_n hx hb dX7_layBye_54 rfl (lv_at hl 3 rfl) ?_
        refine x_callVr (rest := [.ref (a 0)]) hx hb hml hT hown hK hA B hl.1 (c_X7_byesOf l D cI cZ a v3) mi_X7_byesOf mv_X7_byesOf mO_M rfl q913 ⟨rfl, rfl⟩ ⟨Nat.le_of_ble_eq_true rfl, Nat.le_of_ble_eq_true rfl⟩ rfl rfl (Nat.le_of_ble_eq_true rfl) dX7_layBye_55 hm (fun x7 H locs B hm => ?_)
        refine lv_aload_n hx hb dX7_layBye_58 rfl (lv_at hl 1 rfl) ?_
        refine lv_iload_n hx hb dX7_layBye_59 rfl (lv_at hl 3 rfl) ?_
        refine x_callVr (rest := [.int x7, .ref (a 0)]) hx hb hml hT hown hK hA B hl.1 (c_X7_forfeitsOf l D cI cZ a v3) mi_X7_forfeitsOf mv_X7_forfeitsOf mO_M rfl q916 ⟨rfl, rfl⟩ ⟨Nat.le_of_ble_eq_true rfl, Nat.le_of_ble_eq_true rfl⟩ rfl rfl (Nat.le_of_ble_eq_true rfl) dX7_layBye_60 hm (fun x8 H locs B hm => ?_)
        refine lv_iadd hx hb dX7_layBye_63 ?_
        refine lv_if_ne (tgt := 71) hx hb dX7_layBye_64 (by decide) (fun q => ?_) (fun q => ?_)
        · have hm := iff hm q
          exact j71 σ s0 v2 H locs ls B (lv_sub hl [1, 0, 2] rfl) hm
        · have hm := ift hm q
          refine lv_iload_n hx hb dX7_layBye_67 rfl (lv_at hl 3 rfl) ?_
          refine lv_goto (tgt := 75) hx hb dX7_layBye_68 (by decide) ?_
          exact j75 σ s0 v2 v3 H locs ls B (lv_sub hl [1, 0, 2] rfl) hm
    refine lv_iload_n hx hb dX7_layBye_11 rfl (lv_at hl 2 rfl) ?_
    refine lv_aload_n hx hb dX7_layBye_12 rfl (lv_at hl 0 rfl) ?_
    refine x_getib (T := TX7) (N := 33) hx hb hT hown hK B mI_players inlX7 rfl (by decide) q765 rfl dX7_layBye_13 hm (fun x9 hm => ?_)
    refine lv_icmp_ge (tgt := 84) hx hb dX7_layBye_16 (by decide) (fun q => ?_) (fun q => ?_)
    · have hm := ift hm q
      exact j84 σ v1 H locs ls B (lv_sub hl [0, 1] rfl) hm
    · have hm := iff hm q
      refine lv_aload_n hx hb dX7_layBye_19 rfl (lv_at hl 0 rfl) ?_
      refine x_getv (T := TX7) (N := 33) hx hb hT hown hK B mV_standing inlX7 rfl (by decide) q779 rfl dX7_layBye_20 ?_
      refine lv_iload_n hx hb dX7_layBye_23 rfl (lv_at hl 2 rfl) ?_
      refine x_iald (t0 := 0) hx hb hK B mA_standing rfl dX7_layBye_24 hm (fun x10 hm => ?_)
      refine lv_istore_n (lv' := [(3, .int x10), (0, .ref (a 0)), (1, .int v1), (2, .int v2)]) hx hb dX7_layBye_25 rfl hl (by decide) rfl (fun ls hl => ?_)
      refine lv_aload_n hx hb dX7_layBye_26 rfl (lv_at hl 1 rfl) ?_
      refine x_getv (T := TX7) (N := 33) hx hb hT hown hK B mV_isIn inlX7 rfl (by decide) q767 rfl dX7_layBye_27 ?_
      refine lv_iload_n hx hb dX7_layBye_30 rfl (lv_at hl 0 rfl) ?_
      refine x_iald (t0 := 0) hx hb hK B mA_isIn rfl dX7_layBye_31 hm (fun x11 hm => ?_)
      refine lv_iconst (v := (1 : Int32)) hx hb dX7_layBye_32 (by decide) ?_
      refine lv_icmp_ne (tgt := 40) hx hb dX7_layBye_33 (by decide) (fun q => ?_) (fun q => ?_)
      · have hm := iff hm q
        refine lv_iload_n hx hb dX7_layBye_40 rfl (lv_at hl 2 rfl) ?_
        exact j41 σ v2 x10 v1 H locs ls B (lv_sub hl [1, 3, 0] rfl) hm
      · have hm := ift hm q
        refine lv_iload_n hx hb dX7_layBye_36 rfl (lv_at hl 0 rfl) ?_
        refine lv_goto (tgt := 41) hx hb dX7_layBye_37 (by decide) ?_
        exact j41 σ v2 x10 x10 H locs ls B (lv_sub hl [1, 3, 0] rfl) hm
  refine lv_aload_n hx hb dX7_layBye_0 rfl (lv_at hl 0 rfl) ?_
  refine lv_bipush (v := (-5 : Int32)) hx hb dX7_layBye_1 (by decide) ?_
  refine x_puti (T := TX7) (N := 33) hx hb hT hown hK B mI_byeNow inlX7 tyX7_ok nmX7 rfl (by decide) q782 rfl rfl rfl rfl rfl dX7_layBye_3 hm (fun σ H locs B hm => ?_)
  refine lv_bipush (v := (-5 : Int32)) hx hb dX7_layBye_6 (by decide) ?_
  refine lv_istore_n (lv' := [(1, .int (-5 : Int32)), (0, .ref (a 0))]) hx hb dX7_layBye_8 rfl hl (by decide) rfl (fun ls hl => ?_)
  refine lv_iconst (v := (0 : Int32)) hx hb dX7_layBye_9 (by decide) ?_
  refine lv_istore_n (lv' := [(2, .int (0 : Int32)), (1, .int (-5 : Int32)), (0, .ref (a 0))]) hx hb dX7_layBye_10 rfl hl (by decide) rfl (fun ls hl => ?_)
  exact L11 5000 σ (-5 : Int32) (0 : Int32) hm H locs ls B (lv_sub hl [2, 1, 0] rfl)
def f_X7_layPlaces_j131 (r76 : Mm → Int32 → Option Mm) (r86 : Mm → Int32 → Option Mm) (σ : Mm) (v1 v2 s0 : Int32) : Option Mm :=
  (ast 144 σ 18 (((12 : Int32) * v1) + v2) s0).bind fun σ =>
  (ast 144 σ 18 (((12 : Int32) * v2) + v1) s0).bind fun σ =>
  r86 σ (v2 + (1 : Int32))
def f_X7_layPlaces_s86 (r76 : Mm → Int32 → Option Mm) (v1 : Int32) (r86 : Mm → Int32 → Option Mm) (σ : Mm) (v2 : Int32) : Option Mm :=
  if v1 ≤ v2 then
    r76 σ (v1 + (1 : Int32))
  else
    (ald 12 (σ 16) v1).bind fun x1 =>
    (ald 12 (σ 16) v2).bind fun x2 =>
    (f_X7_metIn σ x1 x2).bind fun x3 =>
    if x3 < 0 then
      (ald 12 (σ 16) v1).bind fun x4 =>
      (ald 12 (σ 16) v2).bind fun x5 =>
      (f_X7_costOf σ x4 x5).bind fun x6 =>
      f_X7_layPlaces_j131 r76 r86 σ v1 v2 x6
    else
      f_X7_layPlaces_j131 r76 r86 σ v1 v2 (1000000 : Int32)
def f_X7_layPlaces_s76 (r76 : Mm → Int32 → Option Mm) (σ : Mm) (v1 : Int32) : Option Mm :=
  (some (σ 15 0)).bind fun x7 =>
  if x7 ≤ v1 then
    some σ
  else
    wh2 (f_X7_layPlaces_s86 r76 v1) 5000 σ (0 : Int32)
def f_X7_layPlaces_s15 (r15 : Mm → Int32 → Option Mm) (σ : Mm) (v1 : Int32) : Option Mm :=
  (some (σ 0 0)).bind fun x8 =>
  if x8 ≤ v1 then
    wh2 (f_X7_layPlaces_s76) 5000 σ (0 : Int32)
  else
    (ald 12 (σ 14) v1).bind fun x9 =>
    (ald 12 (σ 2) x9).bind fun x10 =>
    if x10 = (1 : Int32) then
      (some (σ 17 0)).bind fun x11 =>
      if x9 = x11 then
        r15 σ (v1 + (1 : Int32))
      else
        (some (σ 15 0)).bind fun x12 =>
        (ast 12 σ 16 x12 x9).bind fun σ =>
        (some (σ 15 0)).bind fun x13 =>
        (some (sc σ 15 (x13 + (1 : Int32)))).bind fun σ =>
        r15 σ (v1 + (1 : Int32))
    else
      r15 σ (v1 + (1 : Int32))
def f_X7_layPlaces (σ : Mm) : Option Mm :=
  (f_X7_layStanding σ).bind fun σ =>
  (f_X7_layBye σ).bind fun σ =>
  (some (sc σ 15 (0 : Int32))).bind fun σ =>
  wh2 (f_X7_layPlaces_s15) 5000 σ (0 : Int32)
set_option maxHeartbeats 4000000 in
set_option maxRecDepth 100000 in
theorem c_X7_layPlaces (l : Launch) (D : va_G) (cI cZ : ClassId) (a : Nat → Nat) : CTv l D [(cI, FieldType.int), (cZ, FieldType.boolean)] (mW cI cZ a) yX7_layPlaces (.code yX7_layPlaces cX7_layPlaces 4 (none : Option FieldType) :: wsL_law) ({ frames := 7, cells := 0, slots := 0, locals := 163 } : Room) [.ref (a 0)] (fun σ => f_X7_layPlaces σ) := by
  refine CTv.of (by decide +kernel) (Nat.le_of_ble_eq_true rfl) ?_
  intro σ out hm p e s m below meth c A ls H locs hx hb hr hlk hml hT hown hK hA B hl
  have hown : s.vm.findClass RX7 = some m.cls := hown
  have hl : lv_has ls 4 [(0, .ref (a 0))] := hl
  have hm : f_X7_layPlaces σ = some out := hm
  unfold f_X7_layPlaces at hm
  have L76 : ∀ (nn : Nat) (σ : Mm) (v1 : Int32), wh2 f_X7_layPlaces_s76 nn σ v1 = some out → ∀ (H : Heap) (locs : List Loc) (ls : Array Slot), BD D A s.heap ((mW cI cZ a) σ) H locs → lv_has ls 4 [(0, .ref (a 0)), (1, .int v1)] → W p l e ({ frames := 7, cells := 0, slots := 0, locals := 163 } : Room) s m ([.ref (a 0)] : List Value).toArray below meth c H locs 0 0 (MQ below (QV D [(cI, FieldType.int), (cZ, FieldType.boolean)] (mW cI cZ a) A out) ([.ref (a 0)] : List Value).toArray s 0 0 A) (F0 m 76 ls []) := by
    refine loop2 (fun r76 ih76 σ v1 hm H locs ls B hl => ?_)
    unfold f_X7_layPlaces_s76 at hm
    have L86 : ∀ (v1 : Int32) (nn : Nat) (σ : Mm) (v2 : Int32), wh2 (f_X7_layPlaces_s86 r76 v1) nn σ v2 = some out → ∀ (H : Heap) (locs : List Loc) (ls : Array Slot), BD D A s.heap ((mW cI cZ a) σ) H locs → lv_has ls 4 [(0, .ref (a 0)), (1, .int v1), (2, .int v2)] → W p l e ({ frames := 7, cells := 0, slots := 0, locals := 163 } : Room) s m ([.ref (a 0)] : List Value).toArray below meth c H locs 0 0 (MQ below (QV D [(cI, FieldType.int), (cZ, FieldType.boolean)] (mW cI cZ a) A out) ([.ref (a 0)] : List Value).toArray s 0 0 A) (F0 m 86 ls []) := by
      intro v1
      refine loop2 (fun r86 ih86 σ v2 hm H locs ls B hl => ?_)
      unfold f_X7_layPlaces_s86 at hm
      have j131 : ∀ (σ : Mm) (v2 : Int32) (s0 : Int32) (H : Heap) (locs : List Loc) (ls : Array Slot), BD D A s.heap ((mW cI cZ a) σ) H locs → lv_has ls 4 [(0, .ref (a 0)), (1, .int v1), (2, .int v2)] → f_X7_layPlaces_j131 r76 r86 σ v1 v2 s0 = some out → W p l e ({ frames := 7, cells := 0, slots := 0, locals := 163 } : Room) s m ([.ref (a 0)] : List Value).toArray below meth c H locs 0 0 (MQ below (QV D [(cI, FieldType.int), (cZ, FieldType.boolean)] (mW cI cZ a) A out) ([.ref (a 0)] : List Value).toArray s 0 0 A) (F0 m 131 ls [.int s0]) := by
        intro σ v2 s0 H locs ls B hl hm
        unfold f_X7_layPlaces_j131 at hm
        refine lv_istore_n (lv' := [(3, .int s0), (0, .ref (a 0)), (1, .int v1), (2, .int v2)]) hx hb dX7_layPlaces_131 rfl hl (by decide) rfl (fun ls hl => ?_)
        refine lv_aload_n hx hb dX7_layPlaces_132 rfl (lv_at hl 1 rfl) ?_
        refine x_getv (T := TX7) (N := 33) hx hb hT hown hK B mV_costs inlX7 rfl (by decide) q783 rfl dX7_layPlaces_133 ?_
        refine lv_bipush (v := (12 : Int32)) hx hb dX7_layPlaces_136 (by decide) ?_
        refine lv_iload_n hx hb dX7_layPlaces_138 rfl (lv_at hl 2 rfl) ?_
        refine lv_imul hx hb dX7_layPlaces_139 ?_
        refine lv_iload_n hx hb dX7_layPlaces_140 rfl (lv_at hl 3 rfl) ?_
        refine lv_iadd hx hb dX7_layPlaces_141 ?_
        refine lv_iload_n hx hb dX7_layPlaces_142 rfl (lv_at hl 0 rfl) ?_
        refine x_iast (t0 := 0) hx hb hK B mA_costs rfl dX7_layPlaces_143 hm (fun σ H locs B hm => ?_)
        refine lv_aload_n hx hb dX7_layPlaces_144 rfl (lv_at hl 1 rfl) ?_
        refine x_getv (T := TX7) (N := 33) hx hb hT hown hK B mV_costs inlX7 rfl (by decide) q783 rfl dX7_layPlaces_145 ?_
        refine lv_bipush (v := (12 : Int32)) hx hb dX7_layPlaces_148 (by decide) ?_
        refine lv_iload_n hx hb dX7_layPlaces_150 rfl (lv_at hl 3 rfl) ?_
        refine lv_imul hx hb dX7_layPlaces_151 ?_
        refine lv_iload_n hx hb dX7_layPlaces_152 rfl (lv_at hl 2 rfl) ?_
        refine lv_iadd hx hb dX7_layPlaces_153 ?_
        refine lv_iload_n hx hb dX7_layPlaces_154 rfl (lv_at hl 0 rfl) ?_
        refine x_iast (t0 := 0) hx hb hK B mA_costs rfl dX7_layPlaces_155 hm (fun σ H locs B hm => ?_)
        refine lv_iinc (v := (v2 + (1 : Int32))) (lv' := [(2, .int (v2 + (1 : Int32))), (3, .int s0), (0, .ref (a 0)), (1, .int v1)]) hx hb dX7_layPlaces_156 hl (k := 3) rfl rfl (by decide) rfl (fun ls hl => ?_)
        refine lv_goto (tgt := 86) hx hb dX7_layPlaces_159 (by decide) ?_
        exact ih86 σ (v2 + (1 : Int32)) hm H locs ls B (lv_sub hl [2, 3, 0] rfl)
      refine lv_iload_n hx hb dX7_layPlaces_86 rfl (lv_at hl 2 rfl) ?_
      refine lv_iload_n hx hb dX7_layPlaces_87 rfl (lv_at hl 1 rfl) ?_
      refine lv_icmp_ge (tgt := 162) hx hb dX7_layPlaces_88 (by decide) (fun q => ?_) (fun q => ?_)
      · have hm := ift hm q
        refine lv_iinc (v := (v1 + (1 : Int32))) (lv' := [(1, .int (v1 + (1 : Int32))), (0, .ref (a 0)), (2, .int v2)]) hx hb dX7_layPlaces_162 hl (k := 1) rfl rfl (by decide) rfl (fun ls hl => ?_)
        refine lv_goto (tgt := 76) hx hb dX7_layPlaces_165 (by decide) ?_
        exact ih76 σ (v1 + (1 : Int32)) hm H locs ls B (lv_sub hl [1, 0] rfl)
      · have hm := iff hm q
        refine lv_aload_n hx hb dX7_layPlaces_91 rfl (lv_at hl 0 rfl) ?_
        refine lv_aload_n hx hb dX7_layPlaces_92 rfl (lv_at hl 0 rfl) ?_
        refine x_getv (T := TX7) (N := 33) hx hb hT hown hK B mV_atPlace inlX7 rfl (by decide) q781 rfl dX7_layPlaces_93 ?_
        refine lv_iload_n hx hb dX7_layPlaces_96 rfl (lv_at hl 1 rfl) ?_
        refine x_iald (t0 := 0) hx hb hK B mA_atPlace rfl dX7_layPlaces_97 hm (fun x1 hm => ?_)
        refine lv_aload_n hx hb dX7_layPlaces_98 rfl (lv_at hl 0 rfl) ?_
        refine x_getv (T := TX7) (N := 33) hx hb hT hown hK B mV_atPlace inlX7 rfl (by decide) q781 rfl dX7_layPlaces_99 ?_
        refine lv_iload_n hx hb dX7_layPlaces_102 rfl (lv_at hl 2 rfl) ?_
        refine x_iald (t0 := 0) hx hb hK B mA_atPlace rfl dX7_layPlaces_103 hm (fun x2 hm => ?_)
        refine x_callVr (rest := []) hx hb hml hT hown hK hA B hl.1 (c_X7_metIn l D cI cZ a x1 x2) mi_X7_metIn mv_X7_metIn mO_M rfl q919 ⟨rfl, rfl⟩ ⟨Nat.le_of_ble_eq_true rfl, Nat.le_of_ble_eq_true rfl⟩ rfl rfl (Nat.le_of_ble_eq_true rfl) dX7_layPlaces_104 hm (fun x3 H locs B hm => ?_)
        refine lv_if_lt (tgt := 115) hx hb dX7_layPlaces_107 (by decide) (fun q => ?_) (fun q => ?_)
        · have hm := ift hm q
          refine lv_aload_n hx hb dX7_layPlaces_115 rfl (lv_at hl 0 rfl) ?_
          refine lv_aload_n hx hb dX7_layPlaces_116 rfl (lv_at hl 0 rfl) ?_
          refine x_getv (T := TX7) (N := 33) hx hb hT hown hK B mV_atPlace inlX7 rfl (by decide) q781 rfl dX7_layPlaces_117 ?_
          refine lv_iload_n hx hb dX7_layPlaces_120 rfl (lv_at hl 1 rfl) ?_
          refine x_iald (t0 := 0) hx hb hK B mA_atPlace rfl dX7_layPlaces_121 hm (fun x4 hm => ?_)
          refine lv_aload_n hx hb dX7_layPlaces_122 rfl (lv_at hl 0 rfl) ?_
          refine x_getv (T := TX7) (N := 33) hx hb hT hown hK B mV_atPlace inlX7 rfl (by decide) q781 rfl dX7_layPlaces_123 ?_
          refine lv_iload_n hx hb dX7_layPlaces_126 rfl (lv_at hl 2 rfl) ?_
          refine x_iald (t0 := 0) hx hb hK B mA_atPlace rfl dX7_layPlaces_127 hm (fun x5 hm => ?_)
          refine x_callVr (rest := []) hx hb hml hT hown hK hA B hl.1 (c_X7_costOf l D cI cZ a x4 x5) mi_X7_costOf mv_X7_costOf mO_M rfl q922 ⟨rfl, rfl⟩ ⟨Nat.le_of_ble_eq_true rfl, Nat.le_of_ble_eq_true rfl⟩ rfl rfl (Nat.le_of_ble_eq_true rfl) dX7_layPlaces_128 hm (fun x6 H locs B hm => ?_)
          exact j131 σ v2 x6 H locs ls B (lv_sub hl [0, 1, 2] rfl) hm
        · have hm := iff hm q
          refine lv_ldc (v := (1000000 : Int32)) hx hb hown (hT _ q875) dX7_layPlaces_110 ?_
          refine lv_goto (tgt := 131) hx hb dX7_layPlaces_112 (by decide) ?_
          exact j131 σ v2 (1000000 : Int32) H locs ls B (lv_sub hl [0, 1, 2] rfl) hm
    refine lv_iload_n hx hb dX7_layPlaces_76 rfl (lv_at hl 1 rfl) ?_
    refine lv_aload_n hx hb dX7_layPlaces_77 rfl (lv_at hl 0 rfl) ?_
    refine x_getib (T := TX7) (N := 33) hx hb hT hown hK B mI_paired inlX7 rfl (by decide) q780 rfl dX7_layPlaces_78 hm (fun x7 hm => ?_)
    refine lv_icmp_ge (tgt := 168) hx hb dX7_layPlaces_81 (by decide) (fun q => ?_) (fun q => ?_)
    · have hm := ift hm q
      exact x_vret hx hb hr hlk hK B dX7_layPlaces_168 hm
    · have hm := iff hm q
      refine lv_iconst (v := (0 : Int32)) hx hb dX7_layPlaces_84 (by decide) ?_
      refine lv_istore_n (lv' := [(2, .int (0 : Int32)), (0, .ref (a 0)), (1, .int v1)]) hx hb dX7_layPlaces_85 rfl hl (by decide) rfl (fun ls hl => ?_)
      exact L86 v1 5000 σ (0 : Int32) hm H locs ls B (lv_sub hl [1, 2, 0] rfl)
  have L15 : ∀ (nn : Nat) (σ : Mm) (v1 : Int32), wh2 f_X7_layPlaces_s15 nn σ v1 = some out → ∀ (H : Heap) (locs : List Loc) (ls : Array Slot), BD D A s.heap ((mW cI cZ a) σ) H locs → lv_has ls 4 [(0, .ref (a 0)), (1, .int v1)] → W p l e ({ frames := 7, cells := 0, slots := 0, locals := 163 } : Room) s m ([.ref (a 0)] : List Value).toArray below meth c H locs 0 0 (MQ below (QV D [(cI, FieldType.int), (cZ, FieldType.boolean)] (mW cI cZ a) A out) ([.ref (a 0)] : List Value).toArray s 0 0 A) (F0 m 15 ls []) := by
    refine loop2 (fun r15 ih15 σ v1 hm H locs ls B hl => ?_)
    unfold f_X7_layPlaces_s15 at hm
    refine lv_iload_n hx hb dX7_layPlaces_15 rfl (lv_at hl 1 rfl) ?_
    refine lv_aload_n hx hb dX7_layPlaces_16 rfl (lv_at hl 0 rfl) ?_
    refine x_getib (T := TX7) (N := 33) hx hb hT hown hK B mI_players inlX7 rfl (by decide) q765 rfl dX7_layPlaces_17 hm (fun x8 hm => ?_)
    refine lv_icmp_ge (tgt := 74) hx hb dX7_layPlaces_20 (by decide) (fun q => ?_) (fun q => ?_)
    · have hm := ift hm q
      refine lv_iconst (v := (0 : Int32)) hx hb dX7_layPlaces_74 (by decide) ?_
      refine lv_istore_n (lv' := [(1, .int (0 : Int32)), (0, .ref (a 0))]) hx hb dX7_layPlaces_75 rfl hl (by decide) rfl (fun ls hl => ?_)
      exact L76 5000 σ (0 : Int32) hm H locs ls B (lv_sub hl [1, 0] rfl)
    · have hm := iff hm q
      refine lv_aload_n hx hb dX7_layPlaces_23 rfl (lv_at hl 0 rfl) ?_
      refine x_getv (T := TX7) (N := 33) hx hb hT hown hK B mV_standing inlX7 rfl (by decide) q779 rfl dX7_layPlaces_24 ?_
      refine lv_iload_n hx hb dX7_layPlaces_27 rfl (lv_at hl 1 rfl) ?_
      refine x_iald (t0 := 0) hx hb hK B mA_standing rfl dX7_layPlaces_28 hm (fun x9 hm => ?_)
      refine lv_istore_n (lv' := [(2, .int x9), (0, .ref (a 0)), (1, .int v1)]) hx hb dX7_layPlaces_29 rfl hl (by decide) rfl (fun ls hl => ?_)
      refine lv_aload_n hx hb dX7_layPlaces_30 rfl (lv_at hl 1 rfl) ?_
      refine x_getv (T := TX7) (N := 33) hx hb hT hown hK B mV_isIn inlX7 rfl (by decide) q767 rfl dX7_layPlaces_31 ?_
      refine lv_iload_n hx hb dX7_layPlaces_34 rfl (lv_at hl 0 rfl) ?_
      refine x_iald (t0 := 0) hx hb hK B mA_isIn rfl dX7_layPlaces_35 hm (fun x10 hm => ?_)
      refine lv_iconst (v := (1 : Int32)) hx hb dX7_layPlaces_36 (by decide) ?_
      refine lv_icmp_ne (tgt := 68) hx hb dX7_layPlaces_37 (by decide) (fun q => ?_) (fun q => ?_)
      · have hm := iff hm q
        refine lv_iinc (v := (v1 + (1 : Int32))) (lv' := [(1, .int (v1 + (1 : Int32))), (2, .int x9), (0, .ref (a 0))]) hx hb dX7_layPlaces_68 hl (k := 2) rfl rfl (by decide) rfl (fun ls hl => ?_)
        refine lv_goto (tgt := 15) hx hb dX7_layPlaces_71 (by decide) ?_
        exact ih15 σ (v1 + (1 : Int32)) hm H locs ls B (lv_sub hl [2, 0] rfl)
      · have hm := ift hm q
        refine lv_iload_n hx hb dX7_layPlaces_40 rfl (lv_at hl 0 rfl) ?_
        refine lv_aload_n hx hb dX7_layPlaces_41 rfl (lv_at hl 1 rfl) ?_
        refine x_getib (T := TX7) (N := 33) hx hb hT hown hK B mI_byeNow inlX7 rfl (by decide) q782 rfl dX7_layPlaces_42 hm (fun x11 hm => ?_)
        refine lv_icmp_eq (tgt := 68) hx hb dX7_layPlaces_45 (by decide) (fun q => ?_) (fun q => ?_)
        · have hm := ift hm q
          refine lv_iinc (v := (v1 + (1 : Int32))) (lv' := [(1, .int (v1 + (1 : Int32))), (2, .int x9), (0, .ref (a 0))]) hx hb dX7_layPlaces_68 hl (k := 2) rfl rfl (by decide) rfl (fun ls hl => ?_)
          refine lv_goto (tgt := 15) hx hb dX7_layPlaces_71 (by decide) ?_
          exact ih15 σ (v1 + (1 : Int32)) hm H locs ls B (lv_sub hl [2, 0] rfl)
        · have hm := iff hm q
          refine lv_aload_n hx hb dX7_layPlaces_48 rfl (lv_at hl 1 rfl) ?_
          refine x_getv (T := TX7) (N := 33) hx hb hT hown hK B mV_atPlace inlX7 rfl (by decide) q781 rfl dX7_layPlaces_49 ?_
          refine lv_aload_n hx hb dX7_layPlaces_52 rfl (lv_at hl 1 rfl) ?_
          refine x_getib (T := TX7) (N := 33) hx hb hT hown hK B mI_paired inlX7 rfl (by decide) q780 rfl dX7_layPlaces_53 hm (fun x12 hm => ?_)
          refine lv_iload_n hx hb dX7_layPlaces_56 rfl (lv_at hl 0 rfl) ?_
          refine x_iast (t0 := 0) hx hb hK B mA_atPlace rfl dX7_layPlaces_57 hm (fun σ H locs B hm => ?_)
          refine lv_aload_n hx hb dX7_layPlaces_58 rfl (lv_at hl 1 rfl) ?_
          refine lv_dup hx hb dX7_layPlaces_59 rfl ?_
          refine x_getib (T := TX7) (N := 33) hx hb hT hown hK B mI_paired inlX7 rfl (by decide) q780 rfl dX7_layPlaces_60 hm (fun x13 hm => ?_)
          refine lv_iconst (v := (1 : Int32)) hx hb dX7_layPlaces_63 (by decide) ?_
          refine lv_iadd hx hb dX7_layPlaces_64 ?_
          refine x_puti (T := TX7) (N := 33) hx hb hT hown hK B mI_paired inlX7 tyX7_ok nmX7 rfl (by decide) q780 rfl rfl rfl rfl rfl dX7_layPlaces_65 hm (fun σ H locs B hm => ?_)
          refine lv_iinc (v := (v1 + (1 : Int32))) (lv' := [(1, .int (v1 + (1 : Int32))), (2, .int x9), (0, .ref (a 0))]) hx hb dX7_layPlaces_68 hl (k := 2) rfl rfl (by decide) rfl (fun ls hl => ?_)
          refine lv_goto (tgt := 15) hx hb dX7_layPlaces_71 (by decide) ?_
          exact ih15 σ (v1 + (1 : Int32)) hm H locs ls B (lv_sub hl [2, 0] rfl)
  refine lv_aload_n hx hb dX7_layPlaces_0 rfl (lv_at hl 0 rfl) ?_
  refine x_callVv (rest := []) hx hb hml hT hown hK hA B hl.1 (c_X7_layStanding l D cI cZ a) mi_X7_layStanding mv_X7_layStanding mO_M rfl q848 ⟨rfl, rfl⟩ ⟨Nat.le_of_ble_eq_true rfl, Nat.le_of_ble_eq_true rfl⟩ rfl rfl (Nat.le_of_ble_eq_true rfl) dX7_layPlaces_1 hm (fun σ H locs B hm => ?_)
  refine lv_aload_n hx hb dX7_layPlaces_4 rfl (lv_at hl 0 rfl) ?_
  refine x_callVv (rest := []) hx hb hml hT hown hK hA B hl.1 (c_X7_layBye l D cI cZ a) mi_X7_layBye mv_X7_layBye mO_M rfl q910 ⟨rfl, rfl⟩ ⟨Nat.le_of_ble_eq_true rfl, Nat.le_of_ble_eq_true rfl⟩ rfl rfl (Nat.le_of_ble_eq_true rfl) dX7_layPlaces_5 hm (fun σ H locs B hm => ?_)
  refine lv_aload_n hx hb dX7_layPlaces_8 rfl (lv_at hl 0 rfl) ?_
  refine lv_iconst (v := (0 : Int32)) hx hb dX7_layPlaces_9 (by decide) ?_
  refine x_puti (T := TX7) (N := 33) hx hb hT hown hK B mI_paired inlX7 tyX7_ok nmX7 rfl (by decide) q780 rfl rfl rfl rfl rfl dX7_layPlaces_10 hm (fun σ H locs B hm => ?_)
  refine lv_iconst (v := (0 : Int32)) hx hb dX7_layPlaces_13 (by decide) ?_
  refine lv_istore_n (lv' := [(1, .int (0 : Int32)), (0, .ref (a 0))]) hx hb dX7_layPlaces_14 rfl hl (by decide) rfl (fun ls hl => ?_)
  exact L15 5000 σ (0 : Int32) hm H locs ls B (lv_sub hl [1, 0] rfl)
def f_X7_leastBit_s2 (v0 : Int32) (r2 : Int32 → Option Int32) (v1 : Int32) : Option Int32 :=
  if ((v0 >>> (v1 &&& 31)) &&& (1 : Int32)) = 0 then
    r2 (v1 + (1 : Int32))
  else
    some v1
def f_X7_leastBit (w0 : Int32) : Option Int32 :=
  wh1 (f_X7_leastBit_s2 w0) 5000 (0 : Int32)
set_option maxHeartbeats 4000000 in
set_option maxRecDepth 100000 in
theorem c_X7_leastBit (l : Launch) (D : va_G) (cI cZ : ClassId) (ww : Mm → va_W) (w0 : Int32) : CTr l D [(cI, FieldType.int), (cZ, FieldType.boolean)] ww yX7_leastBit (.code yX7_leastBit cX7_leastBit 2 (some FieldType.int) :: wsL_law) ({ frames := 0, cells := 0, slots := 0, locals := 0 } : Room) [.int w0] (fun σ => f_X7_leastBit w0) := by
  refine CTr.of (by decide +kernel) (Nat.le_of_ble_eq_true rfl) ?_
  intro σ r hm p e s m below meth c A ls H locs hx hb hr hlk hml hT hown hK hA B hl
  have hown : s.vm.findClass RX7 = some m.cls := hown
  have hl : lv_has ls 2 [(0, .int w0)] := hl
  have hm : f_X7_leastBit w0 = some r := hm
  unfold f_X7_leastBit at hm
  have L2 : ∀ (v0 : Int32) (nn : Nat) (v1 : Int32), wh1 (f_X7_leastBit_s2 v0) nn v1 = some r → ∀ (H : Heap) (locs : List Loc) (ls : Array Slot), BD D A s.heap (ww σ) H locs → lv_has ls 2 [(0, .int v0), (1, .int v1)] → W p l e ({ frames := 0, cells := 0, slots := 0, locals := 0 } : Room) s m ([.int w0] : List Value).toArray below meth c H locs 0 0 (MQ below (QI D [(cI, FieldType.int), (cZ, FieldType.boolean)] ww A (r, σ)) ([.int w0] : List Value).toArray s 0 0 A) (F0 m 2 ls []) := by
    intro v0
    refine loop1 (fun r2 ih2 v1 hm H locs ls B hl => ?_)
    unfold f_X7_leastBit_s2 at hm
    refine lv_iload_n hx hb dX7_leastBit_2 rfl (lv_at hl 0 rfl) ?_
    refine lv_iload_n hx hb dX7_leastBit_3 rfl (lv_at hl 1 rfl) ?_
    refine lv_ishr hx hb dX7_leastBit_4 ?_
    refine lv_iconst (v := (1 : Int32)) hx hb dX7_leastBit_5 (by decide) ?_
    refine lv_iand hx hb dX7_leastBit_6 ?_
    refine lv_if_ne (tgt := 16) hx hb dX7_leastBit_7 (by decide) (fun q => ?_) (fun q => ?_)
    · have hm := iff hm q
      refine lv_iload_n hx hb dX7_leastBit_16 rfl (lv_at hl 1 rfl) ?_
      exact x_iretr hx hb hr hlk hK B dX7_leastBit_17 hm
    · have hm := ift hm q
      refine lv_iinc (v := (v1 + (1 : Int32))) (lv' := [(1, .int (v1 + (1 : Int32))), (0, .int v0)]) hx hb dX7_leastBit_10 hl (k := 1) rfl rfl (by decide) rfl (fun ls hl => ?_)
      refine lv_goto (tgt := 2) hx hb dX7_leastBit_13 (by decide) ?_
      exact ih2 (v1 + (1 : Int32)) hm H locs ls B (lv_sub hl [1, 0] rfl)
  refine lv_iconst (v := (0 : Int32)) hx hb dX7_leastBit_0 (by decide) ?_
  refine lv_istore_n (lv' := [(1, .int (0 : Int32)), (0, .int w0)]) hx hb dX7_leastBit_1 rfl hl (by decide) rfl (fun ls hl => ?_)
  exact L2 w0 5000 (0 : Int32) hm H locs ls B (lv_sub hl [1, 0] rfl)
def f_X7_layBests_j150 (r20 : Mm → Int32 → Option Mm) (r54 : Mm → Int32 → Option Mm) (σ : Mm) (v1 v2 v3 v4 s1 s2 : Int32) : Option Mm :=
  (ast 4096 σ 19 s1 s2).bind fun σ =>
  (ald 4096 (σ 20) v1).bind fun x1 =>
  (ald 4096 (σ 20) v4).bind fun x2 =>
  (ast 4096 σ 20 v1 (x1 + x2)).bind fun σ =>
  r54 σ (v3 + (1 : Int32))
def f_X7_layBests_s54 (r20 : Mm → Int32 → Option Mm) (v1 : Int32) (v2 : Int32) (r54 : Mm → Int32 → Option Mm) (σ : Mm) (v3 : Int32) : Option Mm :=
  (some (σ 15 0)).bind fun x3 =>
  if x3 ≤ v3 then
    r20 σ (v1 + (1 : Int32))
  else
    if ((v1 >>> (v3 &&& 31)) &&& (1 : Int32)) = (1 : Int32) then
      (ald 144 (σ 18) (((12 : Int32) * v2) + v3)).bind fun x4 =>
      if (1000000 : Int32) ≤ x4 then
        r54 σ (v3 + (1 : Int32))
      else
        (ald 4096 (σ 19) ((v1 &&& (((1 : Int32) <<< (v2 &&& 31)) ^^^ (-1 : Int32))) &&& (((1 : Int32) <<< (v3 &&& 31)) ^^^ (-1 : Int32)))).bind fun x5 =>
        (ald 144 (σ 18) (((12 : Int32) * v2) + v3)).bind fun x6 =>
        (ald 4096 (σ 19) v1).bind fun x7 =>
        if x7 ≤ (x5 + x6) then
          (ald 4096 (σ 19) v1).bind fun x8 =>
          f_X7_layBests_j150 r20 r54 σ v1 v2 v3 ((v1 &&& (((1 : Int32) <<< (v2 &&& 31)) ^^^ (-1 : Int32))) &&& (((1 : Int32) <<< (v3 &&& 31)) ^^^ (-1 : Int32))) v1 x8
        else
          f_X7_layBests_j150 r20 r54 σ v1 v2 v3 ((v1 &&& (((1 : Int32) <<< (v2 &&& 31)) ^^^ (-1 : Int32))) &&& (((1 : Int32) <<< (v3 &&& 31)) ^^^ (-1 : Int32))) v1 (x5 + x6)
    else
      r54 σ (v3 + (1 : Int32))
def f_X7_layBests_s20 (r20 : Mm → Int32 → Option Mm) (σ : Mm) (v1 : Int32) : Option Mm :=
  (some (σ 15 0)).bind fun x9 =>
  if ((1 : Int32) <<< (x9 &&& 31)) ≤ v1 then
    some σ
  else
    (f_X7_leastBit v1).bind fun x10 =>
    (ast 4096 σ 19 v1 (1000000 : Int32)).bind fun σ =>
    (ast 4096 σ 20 v1 (0 : Int32)).bind fun σ =>
    wh2 (f_X7_layBests_s54 r20 v1 x10) 5000 σ (x10 + (1 : Int32))
def f_X7_layBests (σ : Mm) : Option Mm :=
  (f_X7_layPlaces σ).bind fun σ =>
  (ast 4096 σ 19 (0 : Int32) (0 : Int32)).bind fun σ =>
  (ast 4096 σ 20 (0 : Int32) (1 : Int32)).bind fun σ =>
  wh2 (f_X7_layBests_s20) 5000 σ (1 : Int32)
set_option maxHeartbeats 4000000 in
set_option maxRecDepth 100000 in
theorem c_X7_layBests (l : Launch) (D : va_G) (cI cZ : ClassId) (a : Nat → Nat) : CTv l D [(cI, FieldType.int), (cZ, FieldType.boolean)] (mW cI cZ a) yX7_layBests (.code yX7_layBests cX7_layBests 6 (none : Option FieldType) :: wsL_law) ({ frames := 8, cells := 0, slots := 0, locals := 186 } : Room) [.ref (a 0)] (fun σ => f_X7_layBests σ) := by
  refine CTv.of (by decide +kernel) (Nat.le_of_ble_eq_true rfl) ?_
  intro σ out hm p e s m below meth c A ls H locs hx hb hr hlk hml hT hown hK hA B hl
  have hown : s.vm.findClass RX7 = some m.cls := hown
  have hl : lv_has ls 6 [(0, .ref (a 0))] := hl
  have hm : f_X7_layBests σ = some out := hm
  unfold f_X7_layBests at hm
  have L20 : ∀ (nn : Nat) (σ : Mm) (v1 : Int32), wh2 f_X7_layBests_s20 nn σ v1 = some out → ∀ (H : Heap) (locs : List Loc) (ls : Array Slot), BD D A s.heap ((mW cI cZ a) σ) H locs → lv_has ls 6 [(0, .ref (a 0)), (1, .int v1)] → W p l e ({ frames := 8, cells := 0, slots := 0, locals := 186 } : Room) s m ([.ref (a 0)] : List Value).toArray below meth c H locs 0 0 (MQ below (QV D [(cI, FieldType.int), (cZ, FieldType.boolean)] (mW cI cZ a) A out) ([.ref (a 0)] : List Value).toArray s 0 0 A) (F0 m 20 ls []) := by
    refine loop2 (fun r20 ih20 σ v1 hm H locs ls B hl => ?_)
    unfold f_X7_layBests_s20 at hm
    have L54 : ∀ (v1 : Int32) (v2 : Int32) (nn : Nat) (σ : Mm) (v3 : Int32), wh2 (f_X7_layBests_s54 r20 v1 v2) nn σ v3 = some out → ∀ (H : Heap) (locs : List Loc) (ls : Array Slot), BD D A s.heap ((mW cI cZ a) σ) H locs → lv_has ls 6 [(0, .ref (a 0)), (1, .int v1), (2, .int v2), (3, .int v3)] → W p l e ({ frames := 8, cells := 0, slots := 0, locals := 186 } : Room) s m ([.ref (a 0)] : List Value).toArray below meth c H locs 0 0 (MQ below (QV D [(cI, FieldType.int), (cZ, FieldType.boolean)] (mW cI cZ a) A out) ([.ref (a 0)] : List Value).toArray s 0 0 A) (F0 m 54 ls []) := by
      intro v1 v2
      refine loop2 (fun r54 ih54 σ v3 hm H locs ls B hl => ?_)
      unfold f_X7_layBests_s54 at hm
      have j150 : ∀ (σ : Mm) (v3 : Int32) (v4 : Int32) (s1 : Int32) (s2 : Int32) (H : Heap) (locs : List Loc) (ls : Array Slot), BD D A s.heap ((mW cI cZ a) σ) H locs → lv_has ls 6 [(0, .ref (a 0)), (1, .int v1), (2, .int v2), (3, .int v3), (4, .int v4)] → f_X7_layBests_j150 r20 r54 σ v1 v2 v3 v4 s1 s2 = some out → W p l e ({ frames := 8, cells := 0, slots := 0, locals := 186 } : Room) s m ([.ref (a 0)] : List Value).toArray below meth c H locs 0 0 (MQ below (QV D [(cI, FieldType.int), (cZ, FieldType.boolean)] (mW cI cZ a) A out) ([.ref (a 0)] : List Value).toArray s 0 0 A) (F0 m 150 ls [.int s2, .int s1, .ref (a 13)]) := by
        intro σ v3 v4 s1 s2 H locs ls B hl hm
        unfold f_X7_layBests_j150 at hm
        refine x_iast (t0 := 0) hx hb hK B mA_bests rfl dX7_layBests_150 hm (fun σ H locs B hm => ?_)
        refine lv_aload_n hx hb dX7_layBests_151 rfl (lv_at hl 0 rfl) ?_
        refine x_getv (T := TX7) (N := 33) hx hb hT hown hK B mV_manyWays inlX7 rfl (by decide) q785 rfl dX7_layBests_152 ?_
        refine lv_iload_n hx hb dX7_layBests_155 rfl (lv_at hl 1 rfl) ?_
        refine lv_dup2_11 hx hb dX7_layBests_156 rfl rfl ?_
        refine x_iald (t0 := 0) hx hb hK B mA_manyWays rfl dX7_layBests_157 hm (fun x1 hm => ?_)
        refine lv_aload_n hx hb dX7_layBests_158 rfl (lv_at hl 0 rfl) ?_
        refine x_getv (T := TX7) (N := 33) hx hb hT hown hK B mV_manyWays inlX7 rfl (by decide) q785 rfl dX7_layBests_159 ?_
        refine lv_iload hx hb dX7_layBests_162 (lv_at hl 4 rfl) ?_
        refine x_iald (t0 := 0) hx hb hK B mA_manyWays rfl dX7_layBests_164 hm (fun x2 hm => ?_)
        refine lv_iadd hx hb dX7_layBests_165 ?_
        refine x_iast (t0 := 0) hx hb hK B mA_manyWays rfl dX7_layBests_166 hm (fun σ H locs B hm => ?_)
        refine lv_iinc (v := (v3 + (1 : Int32))) (lv' := [(3, .int (v3 + (1 : Int32))), (0, .ref (a 0)), (1, .int v1), (2, .int v2), (4, .int v4)]) hx hb dX7_layBests_167 hl (k := 3) rfl rfl (by decide) rfl (fun ls hl => ?_)
        refine lv_goto (tgt := 54) hx hb dX7_layBests_170 (by decide) ?_
        exact ih54 σ (v3 + (1 : Int32)) hm H locs ls B (lv_sub hl [1, 2, 3, 0] rfl)
      refine lv_iload_n hx hb dX7_layBests_54 rfl (lv_at hl 3 rfl) ?_
      refine lv_aload_n hx hb dX7_layBests_55 rfl (lv_at hl 0 rfl) ?_
      refine x_getib (T := TX7) (N := 33) hx hb hT hown hK B mI_paired inlX7 rfl (by decide) q780 rfl dX7_layBests_56 hm (fun x3 hm => ?_)
      refine lv_icmp_ge (tgt := 173) hx hb dX7_layBests_59 (by decide) (fun q => ?_) (fun q => ?_)
      · have hm := ift hm q
        refine lv_iinc (v := (v1 + (1 : Int32))) (lv' := [(1, .int (v1 + (1 : Int32))), (0, .ref (a 0)), (2, .int v2), (3, .int v3)]) hx hb dX7_layBests_173 hl (k := 1) rfl rfl (by decide) rfl (fun ls hl => ?_)
        refine lv_goto (tgt := 20) hx hb dX7_layBests_176 (by decide) ?_
        exact ih20 σ (v1 + (1 : Int32)) hm H locs ls B (lv_sub hl [1, 0] rfl)
      · have hm := iff hm q
        refine lv_iload_n hx hb dX7_layBests_62 rfl (lv_at hl 1 rfl) ?_
        refine lv_iconst (v := (1 : Int32)) hx hb dX7_layBests_63 (by decide) ?_
        refine lv_iload_n hx hb dX7_layBests_64 rfl (lv_at hl 2 rfl) ?_
        refine lv_ishl hx hb dX7_layBests_65 ?_
        refine lv_iconst (v := (-1 : Int32)) hx hb dX7_layBests_66 (by decide) ?_
        refine lv_ixor hx hb dX7_layBests_67 ?_
        refine lv_iand hx hb dX7_layBests_68 ?_
        refine lv_iconst (v := (1 : Int32)) hx hb dX7_layBests_69 (by decide) ?_
        refine lv_iload_n hx hb dX7_layBests_70 rfl (lv_at hl 3 rfl) ?_
        refine lv_ishl hx hb dX7_layBests_71 ?_
        refine lv_iconst (v := (-1 : Int32)) hx hb dX7_layBests_72 (by decide) ?_
        refine lv_ixor hx hb dX7_layBests_73 ?_
        refine lv_iand hx hb dX7_layBests_74 ?_
        refine lv_istore (lv' := [(4, .int ((v1 &&& (((1 : Int32) <<< (v2 &&& 31)) ^^^ (-1 : Int32))) &&& (((1 : Int32) <<< (v3 &&& 31)) ^^^ (-1 : Int32)))), (0, .ref (a 0)), (1, .int v1), (2, .int v2), (3, .int v3)]) hx hb dX7_layBests_75 hl (by decide) rfl (fun ls hl => ?_)
        refine lv_iload_n hx hb dX7_layBests_77 rfl (lv_at hl 2 rfl) ?_
        refine lv_iload_n hx hb dX7_layBests_78 rfl (lv_at hl 4 rfl) ?_
        refine lv_ishr hx hb dX7_layBests_79 ?_
        refine lv_iconst (v := (1 : Int32)) hx hb dX7_layBests_80 (by decide) ?_
        refine lv_iand hx hb dX7_layBests_81 ?_
        refine lv_iconst (v := (1 : Int32)) hx hb dX7_layBests_82 (by decide) ?_
        refine lv_icmp_ne (tgt := 167) hx hb dX7_layBests_83 (by decide) (fun q => ?_) (fun q => ?_)
        · have hm := iff hm q
          refine lv_iinc (v := (v3 + (1 : Int32))) (lv' := [(3, .int (v3 + (1 : Int32))), (4, .int ((v1 &&& (((1 : Int32) <<< (v2 &&& 31)) ^^^ (-1 : Int32))) &&& (((1 : Int32) <<< (v3 &&& 31)) ^^^ (-1 : Int32)))), (0, .ref (a 0)), (1, .int v1), (2, .int v2)]) hx hb dX7_layBests_167 hl (k := 4) rfl rfl (by decide) rfl (fun ls hl => ?_)
          refine lv_goto (tgt := 54) hx hb dX7_layBests_170 (by decide) ?_
          exact ih54 σ (v3 + (1 : Int32)) hm H locs ls B (lv_sub hl [2, 3, 4, 0] rfl)
        · have hm := ift hm q
          refine lv_aload_n hx hb dX7_layBests_86 rfl (lv_at hl 1 rfl) ?_
          refine x_getv (T := TX7) (N := 33) hx hb hT hown hK B mV_costs inlX7 rfl (by decide) q783 rfl dX7_layBests_87 ?_
          refine lv_bipush (v := (12 : Int32)) hx hb dX7_layBests_90 (by decide) ?_
          refine lv_iload_n hx hb dX7_layBests_92 rfl (lv_at hl 3 rfl) ?_
          refine lv_imul hx hb dX7_layBests_93 ?_
          refine lv_iload_n hx hb dX7_layBests_94 rfl (lv_at hl 4 rfl) ?_
          refine lv_iadd hx hb dX7_layBests_95 ?_
          refine x_iald (t0 := 0) hx hb hK B mA_costs rfl dX7_layBests_96 hm (fun x4 hm => ?_)
          refine lv_ldc (v := (1000000 : Int32)) hx hb hown (hT _ q875) dX7_layBests_97 ?_
          refine lv_icmp_ge (tgt := 167) hx hb dX7_layBests_99 (by decide) (fun q => ?_) (fun q => ?_)
          · have hm := ift hm q
            refine lv_iinc (v := (v3 + (1 : Int32))) (lv' := [(3, .int (v3 + (1 : Int32))), (4, .int ((v1 &&& (((1 : Int32) <<< (v2 &&& 31)) ^^^ (-1 : Int32))) &&& (((1 : Int32) <<< (v3 &&& 31)) ^^^ (-1 : Int32)))), (0, .ref (a 0)), (1, .int v1), (2, .int v2)]) hx hb dX7_layBests_167 hl (k := 4) rfl rfl (by decide) rfl (fun ls hl => ?_)
            refine lv_goto (tgt := 54) hx hb dX7_layBests_170 (by decide) ?_
            exact ih54 σ (v3 + (1 : Int32)) hm H locs ls B (lv_sub hl [2, 3, 4, 0] rfl)
          · have hm := iff hm q
            refine lv_aload_n hx hb dX7_layBests_102 rfl (lv_at hl 1 rfl) ?_
            refine x_getv (T := TX7) (N := 33) hx hb hT hown hK B mV_bests inlX7 rfl (by decide) q784 rfl dX7_layBests_103 ?_
            refine lv_iload hx hb dX7_layBests_106 (lv_at hl 0 rfl) ?_
            refine x_iald (t0 := 0) hx hb hK B mA_bests rfl dX7_layBests_108 hm (fun x5 hm => ?_)
            refine lv_aload_n hx hb dX7_layBests_109 rfl (lv_at hl 1 rfl) ?_
            refine x_getv (T := TX7) (N := 33) hx hb hT hown hK B mV_costs inlX7 rfl (by decide) q783 rfl dX7_layBests_110 ?_
            refine lv_bipush (v := (12 : Int32)) hx hb dX7_layBests_113 (by decide) ?_
            refine lv_iload_n hx hb dX7_layBests_115 rfl (lv_at hl 3 rfl) ?_
            refine lv_imul hx hb dX7_layBests_116 ?_
            refine lv_iload_n hx hb dX7_layBests_117 rfl (lv_at hl 4 rfl) ?_
            refine lv_iadd hx hb dX7_layBests_118 ?_
            refine x_iald (t0 := 0) hx hb hK B mA_costs rfl dX7_layBests_119 hm (fun x6 hm => ?_)
            refine lv_iadd hx hb dX7_layBests_120 ?_
            refine lv_istore (lv' := [(5, .int (x5 + x6)), (4, .int ((v1 &&& (((1 : Int32) <<< (v2 &&& 31)) ^^^ (-1 : Int32))) &&& (((1 : Int32) <<< (v3 &&& 31)) ^^^ (-1 : Int32)))), (0, .ref (a 0)), (1, .int v1), (2, .int v2), (3, .int v3)]) hx hb dX7_layBests_121 hl (by decide) rfl (fun ls hl => ?_)
            refine lv_aload_n hx hb dX7_layBests_123 rfl (lv_at hl 2 rfl) ?_
            refine x_getv (T := TX7) (N := 33) hx hb hT hown hK B mV_bests inlX7 rfl (by decide) q784 rfl dX7_layBests_124 ?_
            refine lv_iload_n hx hb dX7_layBests_127 rfl (lv_at hl 3 rfl) ?_
            refine lv_iload hx hb dX7_layBests_128 (lv_at hl 0 rfl) ?_
            refine lv_aload_n hx hb dX7_layBests_130 rfl (lv_at hl 2 rfl) ?_
            refine x_getv (T := TX7) (N := 33) hx hb hT hown hK B mV_bests inlX7 rfl (by decide) q784 rfl dX7_layBests_131 ?_
            refine lv_iload_n hx hb dX7_layBests_134 rfl (lv_at hl 3 rfl) ?_
            refine x_iald (t0 := 0) hx hb hK B mA_bests rfl dX7_layBests_135 hm (fun x7 hm => ?_)
            refine lv_icmp_ge (tgt := 144) hx hb dX7_layBests_136 (by decide) (fun q => ?_) (fun q => ?_)
            · have hm := ift hm q
              refine lv_aload_n hx hb dX7_layBests_144 rfl (lv_at hl 2 rfl) ?_
              refine x_getv (T := TX7) (N := 33) hx hb hT hown hK B mV_bests inlX7 rfl (by decide) q784 rfl dX7_layBests_145 ?_
              refine lv_iload_n hx hb dX7_layBests_148 rfl (lv_at hl 3 rfl) ?_
              refine x_iald (t0 := 0) hx hb hK B mA_bests rfl dX7_layBests_149 hm (fun x8 hm => ?_)
              exact j150 σ v3 ((v1 &&& (((1 : Int32) <<< (v2 &&& 31)) ^^^ (-1 : Int32))) &&& (((1 : Int32) <<< (v3 &&& 31)) ^^^ (-1 : Int32))) v1 x8 H locs ls B (lv_sub hl [2, 3, 4, 5, 1] rfl) hm
            · have hm := iff hm q
              refine lv_iload hx hb dX7_layBests_139 (lv_at hl 0 rfl) ?_
              refine lv_goto (tgt := 150) hx hb dX7_layBests_141 (by decide) ?_
              exact j150 σ v3 ((v1 &&& (((1 : Int32) <<< (v2 &&& 31)) ^^^ (-1 : Int32))) &&& (((1 : Int32) <<< (v3 &&& 31)) ^^^ (-1 : Int32))) v1 (x5 + x6) H locs ls B (lv_sub hl [2, 3, 4, 5, 1] rfl) hm
    refine lv_iload_n hx hb dX7_layBests_20 rfl (lv_at hl 1 rfl) ?_
    refine lv_iconst (v := (1 : Int32)) hx hb dX7_layBests_21 (by decide) ?_
    refine lv_aload_n hx hb dX7_layBests_22 rfl (lv_at hl 0 rfl) ?_
    refine x_getib (T := TX7) (N := 33) hx hb hT hown hK B mI_paired inlX7 rfl (by decide) q780 rfl dX7_layBests_23 hm (fun x9 hm => ?_)
    refine lv_ishl hx hb dX7_layBests_26 ?_
    refine lv_icmp_ge (tgt := 179) hx hb dX7_layBests_27 (by decide) (fun q => ?_) (fun q => ?_)
    · have hm := ift hm q
      exact x_vret hx hb hr hlk hK B dX7_layBests_179 hm
    · have hm := iff hm q
      refine lv_iload_n hx hb dX7_layBests_30 rfl (lv_at hl 1 rfl) ?_
      refine x_callSr (rest := []) hx hb hml hT hown hK hA B hl.1 (c_X7_leastBit l D cI cZ (mW cI cZ a) v1) mi_X7_leastBit q935 q934 ⟨rfl, rfl⟩ ⟨Nat.le_of_ble_eq_true rfl, Nat.le_of_ble_eq_true rfl⟩ rfl rfl (Nat.le_of_ble_eq_true rfl) dX7_layBests_31 hm (fun x10 H locs B hm => ?_)
      refine lv_istore_n (lv' := [(2, .int x10), (0, .ref (a 0)), (1, .int v1)]) hx hb dX7_layBests_34 rfl hl (by decide) rfl (fun ls hl => ?_)
      refine lv_aload_n hx hb dX7_layBests_35 rfl (lv_at hl 1 rfl) ?_
      refine x_getv (T := TX7) (N := 33) hx hb hT hown hK B mV_bests inlX7 rfl (by decide) q784 rfl dX7_layBests_36 ?_
      refine lv_iload_n hx hb dX7_layBests_39 rfl (lv_at hl 2 rfl) ?_
      refine lv_ldc (v := (1000000 : Int32)) hx hb hown (hT _ q875) dX7_layBests_40 ?_
      refine x_iast (t0 := 0) hx hb hK B mA_bests rfl dX7_layBests_42 hm (fun σ H locs B hm => ?_)
      refine lv_aload_n hx hb dX7_layBests_43 rfl (lv_at hl 1 rfl) ?_
      refine x_getv (T := TX7) (N := 33) hx hb hT hown hK B mV_manyWays inlX7 rfl (by decide) q785 rfl dX7_layBests_44 ?_
      refine lv_iload_n hx hb dX7_layBests_47 rfl (lv_at hl 2 rfl) ?_
      refine lv_iconst (v := (0 : Int32)) hx hb dX7_layBests_48 (by decide) ?_
      refine x_iast (t0 := 0) hx hb hK B mA_manyWays rfl dX7_layBests_49 hm (fun σ H locs B hm => ?_)
      refine lv_iload_n hx hb dX7_layBests_50 rfl (lv_at hl 0 rfl) ?_
      refine lv_iconst (v := (1 : Int32)) hx hb dX7_layBests_51 (by decide) ?_
      refine lv_iadd hx hb dX7_layBests_52 ?_
      refine lv_istore_n (lv' := [(3, .int (x10 + (1 : Int32))), (2, .int x10), (0, .ref (a 0)), (1, .int v1)]) hx hb dX7_layBests_53 rfl hl (by decide) rfl (fun ls hl => ?_)
      exact L54 v1 x10 5000 σ (x10 + (1 : Int32)) hm H locs ls B (lv_sub hl [2, 3, 1, 0] rfl)
  refine lv_aload_n hx hb dX7_layBests_0 rfl (lv_at hl 0 rfl) ?_
  refine x_callVv (rest := []) hx hb hml hT hown hK hA B hl.1 (c_X7_layPlaces l D cI cZ a) mi_X7_layPlaces mv_X7_layPlaces mO_M rfl q845 ⟨rfl, rfl⟩ ⟨Nat.le_of_ble_eq_true rfl, Nat.le_of_ble_eq_true rfl⟩ rfl rfl (Nat.le_of_ble_eq_true rfl) dX7_layBests_1 hm (fun σ H locs B hm => ?_)
  refine lv_aload_n hx hb dX7_layBests_4 rfl (lv_at hl 0 rfl) ?_
  refine x_getv (T := TX7) (N := 33) hx hb hT hown hK B mV_bests inlX7 rfl (by decide) q784 rfl dX7_layBests_5 ?_
  refine lv_iconst (v := (0 : Int32)) hx hb dX7_layBests_8 (by decide) ?_
  refine lv_iconst (v := (0 : Int32)) hx hb dX7_layBests_9 (by decide) ?_
  refine x_iast (t0 := 0) hx hb hK B mA_bests rfl dX7_layBests_10 hm (fun σ H locs B hm => ?_)
  refine lv_aload_n hx hb dX7_layBests_11 rfl (lv_at hl 0 rfl) ?_
  refine x_getv (T := TX7) (N := 33) hx hb hT hown hK B mV_manyWays inlX7 rfl (by decide) q785 rfl dX7_layBests_12 ?_
  refine lv_iconst (v := (0 : Int32)) hx hb dX7_layBests_15 (by decide) ?_
  refine lv_iconst (v := (1 : Int32)) hx hb dX7_layBests_16 (by decide) ?_
  refine x_iast (t0 := 0) hx hb hK B mA_manyWays rfl dX7_layBests_17 hm (fun σ H locs B hm => ?_)
  refine lv_iconst (v := (1 : Int32)) hx hb dX7_layBests_18 (by decide) ?_
  refine lv_istore_n (lv' := [(1, .int (1 : Int32)), (0, .ref (a 0))]) hx hb dX7_layBests_19 rfl hl (by decide) rfl (fun ls hl => ?_)
  exact L20 5000 σ (1 : Int32) hm H locs ls B (lv_sub hl [1, 0] rfl)
def f_X7_isWhite_j64 (σ : Mm) (v3 v6 s0 : Int32) : Option Int32 :=
  if v6 = s0 then
    (nz (2 : Int32) (v3 - v3 / (2 : Int32) * (2 : Int32))).bind fun x1 =>
    if x1 = 0 then
      some (1 : Int32)
    else
      some (0 : Int32)
  else
    zb v6
def f_X7_isWhite_j48 (σ : Mm) (v2 v3 s0 : Int32) : Option Int32 :=
  (f_X7_latestOf σ v2).bind fun x2 =>
  if x2 = (1 : Int32) then
    f_X7_isWhite_j64 σ v3 s0 (1 : Int32)
  else
    f_X7_isWhite_j64 σ v3 s0 (0 : Int32)
def f_X7_isWhite (σ : Mm) (w1 : Int32) (w2 : Int32) (w3 : Int32) : Option Int32 :=
  (f_X7_balanceOf σ w1).bind fun x3 =>
  (f_X7_balanceOf σ w2).bind fun x4 =>
  if x3 = x4 then
    (f_X7_latestOf σ w1).bind fun x5 =>
    if x5 = (1 : Int32) then
      f_X7_isWhite_j48 σ w2 w3 (1 : Int32)
    else
      f_X7_isWhite_j48 σ w2 w3 (0 : Int32)
  else
    if x4 ≤ x3 then
      some (0 : Int32)
    else
      some (1 : Int32)
set_option maxHeartbeats 4000000 in
set_option maxRecDepth 100000 in
theorem c_X7_isWhite (l : Launch) (D : va_G) (cI cZ : ClassId) (a : Nat → Nat) (w1 : Int32) (w2 : Int32) (w3 : Int32) : CTr l D [(cI, FieldType.int), (cZ, FieldType.boolean)] (mW cI cZ a) yX7_isWhite (.code yX7_isWhite cX7_isWhite 8 (some FieldType.boolean) :: wsL_law) ({ frames := 4, cells := 0, slots := 0, locals := 92 } : Room) [.ref (a 0), .int w1, .int w2, .int w3] (fun σ => f_X7_isWhite σ w1 w2 w3) := by
  refine CTr.of (by decide +kernel) (Nat.le_of_ble_eq_true rfl) ?_
  intro σ r hm p e s m below meth c A ls H locs hx hb hr hlk hml hT hown hK hA B hl
  have hown : s.vm.findClass RX7 = some m.cls := hown
  have hl : lv_has ls 8 [(0, .ref (a 0)), (1, .int w1), (2, .int w2), (3, .int w3)] := hl
  have hm : f_X7_isWhite σ w1 w2 w3 = some r := hm
  unfold f_X7_isWhite at hm
  have j64 : ∀ (v3 : Int32) (v6 : Int32) (s0 : Int32) (H : Heap) (locs : List Loc) (ls : Array Slot), BD D A s.heap ((mW cI cZ a) σ) H locs → lv_has ls 8 [(3, .int v3), (6, .int v6)] → f_X7_isWhite_j64 σ v3 v6 s0 = some r → W p l e ({ frames := 4, cells := 0, slots := 0, locals := 92 } : Room) s m ([.ref (a 0), .int w1, .int w2, .int w3] : List Value).toArray below meth c H locs 0 0 (MQ below (QI D [(cI, FieldType.int), (cZ, FieldType.boolean)] (mW cI cZ a) A (r, σ)) ([.ref (a 0), .int w1, .int w2, .int w3] : List Value).toArray s 0 0 A) (F0 m 64 ls [.int s0]) := by
    intro v3 v6 s0 H locs ls B hl hm
    unfold f_X7_isWhite_j64 at hm
    refine lv_istore (lv' := [(7, .int s0), (3, .int v3), (6, .int v6)]) hx hb dX7_isWhite_64 hl (by decide) rfl (fun ls hl => ?_)
    refine lv_iload hx hb dX7_isWhite_66 (lv_at hl 2 rfl) ?_
    refine lv_iload hx hb dX7_isWhite_68 (lv_at hl 0 rfl) ?_
    refine lv_icmp_eq (tgt := 78) hx hb dX7_isWhite_70 (by decide) (fun q => ?_) (fun q => ?_)
    · have hm := ift hm q
      refine lv_iload_n hx hb dX7_isWhite_78 rfl (lv_at hl 1 rfl) ?_
      refine lv_iconst (v := (2 : Int32)) hx hb dX7_isWhite_79 (by decide) ?_
      refine x_irem hx hb dX7_isWhite_80 hm (fun x1 hm => ?_)
      refine lv_if_ne (tgt := 88) hx hb dX7_isWhite_81 (by decide) (fun q => ?_) (fun q => ?_)
      · have hm := iff hm q
        refine lv_iconst (v := (0 : Int32)) hx hb dX7_isWhite_88 (by decide) ?_
        exact x_zretr hx hb hr hlk hK B rfl dX7_isWhite_89 hm
      · have hm := ift hm q
        refine lv_iconst (v := (1 : Int32)) hx hb dX7_isWhite_84 (by decide) ?_
        refine lv_goto (tgt := 89) hx hb dX7_isWhite_85 (by decide) ?_
        exact x_zretr hx hb hr hlk hK B rfl dX7_isWhite_89 hm
    · have hm := iff hm q
      refine lv_iload hx hb dX7_isWhite_73 (lv_at hl 2 rfl) ?_
      refine lv_goto (tgt := 89) hx hb dX7_isWhite_75 (by decide) ?_
      exact x_zbretr hx hb hr hlk hK B dX7_isWhite_89 hm
  have j48 : ∀ (v2 : Int32) (v3 : Int32) (s0 : Int32) (H : Heap) (locs : List Loc) (ls : Array Slot), BD D A s.heap ((mW cI cZ a) σ) H locs → lv_has ls 8 [(0, .ref (a 0)), (2, .int v2), (3, .int v3)] → f_X7_isWhite_j48 σ v2 v3 s0 = some r → W p l e ({ frames := 4, cells := 0, slots := 0, locals := 92 } : Room) s m ([.ref (a 0), .int w1, .int w2, .int w3] : List Value).toArray below meth c H locs 0 0 (MQ below (QI D [(cI, FieldType.int), (cZ, FieldType.boolean)] (mW cI cZ a) A (r, σ)) ([.ref (a 0), .int w1, .int w2, .int w3] : List Value).toArray s 0 0 A) (F0 m 48 ls [.int s0]) := by
    intro v2 v3 s0 H locs ls B hl hm
    unfold f_X7_isWhite_j48 at hm
    refine lv_istore (lv' := [(6, .int s0), (0, .ref (a 0)), (2, .int v2), (3, .int v3)]) hx hb dX7_isWhite_48 hl (by decide) rfl (fun ls hl => ?_)
    refine lv_aload_n hx hb dX7_isWhite_50 rfl (lv_at hl 1 rfl) ?_
    refine lv_iload_n hx hb dX7_isWhite_51 rfl (lv_at hl 2 rfl) ?_
    refine x_callVr (rest := []) hx hb hml hT hown hK hA B hl.1 (c_X7_latestOf l D cI cZ a v2) mi_X7_latestOf mv_X7_latestOf mO_M rfl q931 ⟨rfl, rfl⟩ ⟨Nat.le_of_ble_eq_true rfl, Nat.le_of_ble_eq_true rfl⟩ rfl rfl (Nat.le_of_ble_eq_true rfl) dX7_isWhite_52 hm (fun x2 H locs B hm => ?_)
    refine lv_iconst (v := (1 : Int32)) hx hb dX7_isWhite_55 (by decide) ?_
    refine lv_icmp_ne (tgt := 63) hx hb dX7_isWhite_56 (by decide) (fun q => ?_) (fun q => ?_)
    · have hm := iff hm q
      refine lv_iconst (v := (0 : Int32)) hx hb dX7_isWhite_63 (by decide) ?_
      exact j64 v3 s0 (0 : Int32) H locs ls B (lv_sub hl [3, 0] rfl) hm
    · have hm := ift hm q
      refine lv_iconst (v := (1 : Int32)) hx hb dX7_isWhite_59 (by decide) ?_
      refine lv_goto (tgt := 64) hx hb dX7_isWhite_60 (by decide) ?_
      exact j64 v3 s0 (1 : Int32) H locs ls B (lv_sub hl [3, 0] rfl) hm
  refine lv_aload_n hx hb dX7_isWhite_0 rfl (lv_at hl 0 rfl) ?_
  refine lv_iload_n hx hb dX7_isWhite_1 rfl (lv_at hl 1 rfl) ?_
  refine x_callVr (rest := []) hx hb hml hT hown hK hA B hl.1 (c_X7_balanceOf l D cI cZ a w1) mi_X7_balanceOf mv_X7_balanceOf mO_M rfl q925 ⟨rfl, rfl⟩ ⟨Nat.le_of_ble_eq_true rfl, Nat.le_of_ble_eq_true rfl⟩ rfl rfl (Nat.le_of_ble_eq_true rfl) dX7_isWhite_2 hm (fun x3 H locs B hm => ?_)
  refine lv_istore (lv' := [(4, .int x3), (0, .ref (a 0)), (1, .int w1), (2, .int w2), (3, .int w3)]) hx hb dX7_isWhite_5 hl (by decide) rfl (fun ls hl => ?_)
  refine lv_aload_n hx hb dX7_isWhite_7 rfl (lv_at hl 1 rfl) ?_
  refine lv_iload_n hx hb dX7_isWhite_8 rfl (lv_at hl 3 rfl) ?_
  refine x_callVr (rest := []) hx hb hml hT hown hK hA B hl.1 (c_X7_balanceOf l D cI cZ a w2) mi_X7_balanceOf mv_X7_balanceOf mO_M rfl q925 ⟨rfl, rfl⟩ ⟨Nat.le_of_ble_eq_true rfl, Nat.le_of_ble_eq_true rfl⟩ rfl rfl (Nat.le_of_ble_eq_true rfl) dX7_isWhite_9 hm (fun x4 H locs B hm => ?_)
  refine lv_istore (lv' := [(5, .int x4), (4, .int x3), (0, .ref (a 0)), (1, .int w1), (2, .int w2), (3, .int w3)]) hx hb dX7_isWhite_12 hl (by decide) rfl (fun ls hl => ?_)
  refine lv_iload hx hb dX7_isWhite_14 (lv_at hl 1 rfl) ?_
  refine lv_iload hx hb dX7_isWhite_16 (lv_at hl 0 rfl) ?_
  refine lv_icmp_eq (tgt := 34) hx hb dX7_isWhite_18 (by decide) (fun q => ?_) (fun q => ?_)
  · have hm := ift hm q
    refine lv_aload_n hx hb dX7_isWhite_34 rfl (lv_at hl 2 rfl) ?_
    refine lv_iload_n hx hb dX7_isWhite_35 rfl (lv_at hl 3 rfl) ?_
    refine x_callVr (rest := []) hx hb hml hT hown hK hA B hl.1 (c_X7_latestOf l D cI cZ a w1) mi_X7_latestOf mv_X7_latestOf mO_M rfl q931 ⟨rfl, rfl⟩ ⟨Nat.le_of_ble_eq_true rfl, Nat.le_of_ble_eq_true rfl⟩ rfl rfl (Nat.le_of_ble_eq_true rfl) dX7_isWhite_36 hm (fun x5 H locs B hm => ?_)
    refine lv_iconst (v := (1 : Int32)) hx hb dX7_isWhite_39 (by decide) ?_
    refine lv_icmp_ne (tgt := 47) hx hb dX7_isWhite_40 (by decide) (fun q => ?_) (fun q => ?_)
    · have hm := iff hm q
      refine lv_iconst (v := (0 : Int32)) hx hb dX7_isWhite_47 (by decide) ?_
      exact j48 w2 w3 (0 : Int32) H locs ls B (lv_sub hl [2, 4, 5] rfl) hm
    · have hm := ift hm q
      refine lv_iconst (v := (1 : Int32)) hx hb dX7_isWhite_43 (by decide) ?_
      refine lv_goto (tgt := 48) hx hb dX7_isWhite_44 (by decide) ?_
      exact j48 w2 w3 (1 : Int32) H locs ls B (lv_sub hl [2, 4, 5] rfl) hm
  · have hm := iff hm q
    refine lv_iload hx hb dX7_isWhite_21 (lv_at hl 1 rfl) ?_
    refine lv_iload hx hb dX7_isWhite_23 (lv_at hl 0 rfl) ?_
    refine lv_icmp_ge (tgt := 32) hx hb dX7_isWhite_25 (by decide) (fun q => ?_) (fun q => ?_)
    · have hm := ift hm q
      refine lv_iconst (v := (0 : Int32)) hx hb dX7_isWhite_32 (by decide) ?_
      exact x_zretr hx hb hr hlk hK B rfl dX7_isWhite_33 hm
    · have hm := iff hm q
      refine lv_iconst (v := (1 : Int32)) hx hb dX7_isWhite_28 (by decide) ?_
      refine lv_goto (tgt := 33) hx hb dX7_isWhite_29 (by decide) ?_
      exact x_zretr hx hb hr hlk hK B rfl dX7_isWhite_33 hm
def f_X7_putBoard_j60 (σ : Mm) (v1 v4 s1 s2 : Int32) : Option Mm :=
  (ast 120 σ 8 s1 s2).bind fun σ =>
  (ast 120 σ 9 v4 (0 : Int32)).bind fun σ =>
  (ald 20 (σ 5) v1).bind fun x1 =>
  (ast 20 σ 5 v1 (x1 + (1 : Int32))).bind fun σ =>
  some σ
def f_X7_putBoard_j43 (σ : Mm) (v1 v2 v3 v4 v5 s1 s2 : Int32) : Option Mm :=
  (ast 120 σ 7 s1 s2).bind fun σ =>
  if v5 = 0 then
    f_X7_putBoard_j60 σ v1 v4 v4 v2
  else
    f_X7_putBoard_j60 σ v1 v4 v4 v3
def f_X7_putBoard (σ : Mm) (w1 : Int32) (w2 : Int32) (w3 : Int32) : Option Mm :=
  (ald 20 (σ 5) w1).bind fun x2 =>
  (ald 20 (σ 5) w1).bind fun x3 =>
  (f_X7_isWhite σ w2 w3 x3).bind fun x4 =>
  if x4 = 0 then
    f_X7_putBoard_j43 σ w1 w2 w3 (((6 : Int32) * w1) + x2) x4 (((6 : Int32) * w1) + x2) w3
  else
    f_X7_putBoard_j43 σ w1 w2 w3 (((6 : Int32) * w1) + x2) x4 (((6 : Int32) * w1) + x2) w2
set_option maxHeartbeats 4000000 in
set_option maxRecDepth 100000 in
theorem c_X7_putBoard (l : Launch) (D : va_G) (cI cZ : ClassId) (a : Nat → Nat) (w1 : Int32) (w2 : Int32) (w3 : Int32) : CTv l D [(cI, FieldType.int), (cZ, FieldType.boolean)] (mW cI cZ a) yX7_putBoard (.code yX7_putBoard cX7_putBoard 6 (none : Option FieldType) :: wsL_law) ({ frames := 5, cells := 0, slots := 0, locals := 119 } : Room) [.ref (a 0), .int w1, .int w2, .int w3] (fun σ => f_X7_putBoard σ w1 w2 w3) := by
  refine CTv.of (by decide +kernel) (Nat.le_of_ble_eq_true rfl) ?_
  intro σ out hm p e s m below meth c A ls H locs hx hb hr hlk hml hT hown hK hA B hl
  have hown : s.vm.findClass RX7 = some m.cls := hown
  have hl : lv_has ls 6 [(0, .ref (a 0)), (1, .int w1), (2, .int w2), (3, .int w3)] := hl
  have hm : f_X7_putBoard σ w1 w2 w3 = some out := hm
  unfold f_X7_putBoard at hm
  have j60 : ∀ (σ : Mm) (v1 : Int32) (v4 : Int32) (s1 : Int32) (s2 : Int32) (H : Heap) (locs : List Loc) (ls : Array Slot), BD D A s.heap ((mW cI cZ a) σ) H locs → lv_has ls 6 [(0, .ref (a 0)), (1, .int v1), (4, .int v4)] → f_X7_putBoard_j60 σ v1 v4 s1 s2 = some out → W p l e ({ frames := 5, cells := 0, slots := 0, locals := 119 } : Room) s m ([.ref (a 0), .int w1, .int w2, .int w3] : List Value).toArray below meth c H locs 0 0 (MQ below (QV D [(cI, FieldType.int), (cZ, FieldType.boolean)] (mW cI cZ a) A out) ([.ref (a 0), .int w1, .int w2, .int w3] : List Value).toArray s 0 0 A) (F0 m 60 ls [.int s2, .int s1, .ref (a 6)]) := by
    intro σ v1 v4 s1 s2 H locs ls B hl hm
    unfold f_X7_putBoard_j60 at hm
    refine x_iast (t0 := 0) hx hb hK B mA_blacks rfl dX7_putBoard_60 hm (fun σ H locs B hm => ?_)
    refine lv_aload_n hx hb dX7_putBoard_61 rfl (lv_at hl 0 rfl) ?_
    refine x_getv (T := TX7) (N := 33) hx hb hT hown hK B mV_results0 inlX7 rfl (by decide) q774 rfl dX7_putBoard_62 ?_
    refine lv_iload hx hb dX7_putBoard_65 (lv_at hl 2 rfl) ?_
    refine lv_iconst (v := (0 : Int32)) hx hb dX7_putBoard_67 (by decide) ?_
    refine x_iast (t0 := 0) hx hb hK B mA_results0 rfl dX7_putBoard_68 hm (fun σ H locs B hm => ?_)
    refine lv_aload_n hx hb dX7_putBoard_69 rfl (lv_at hl 0 rfl) ?_
    refine x_getv (T := TX7) (N := 33) hx hb hT hown hK B mV_boardMany inlX7 rfl (by decide) q770 rfl dX7_putBoard_70 ?_
    refine lv_iload_n hx hb dX7_putBoard_73 rfl (lv_at hl 1 rfl) ?_
    refine lv_dup2_11 hx hb dX7_putBoard_74 rfl rfl ?_
    refine x_iald (t0 := 0) hx hb hK B mA_boardMany rfl dX7_putBoard_75 hm (fun x1 hm => ?_)
    refine lv_iconst (v := (1 : Int32)) hx hb dX7_putBoard_76 (by decide) ?_
    refine lv_iadd hx hb dX7_putBoard_77 ?_
    refine x_iast (t0 := 0) hx hb hK B mA_boardMany rfl dX7_putBoard_78 hm (fun σ H locs B hm => ?_)
    exact x_vret hx hb hr hlk hK B dX7_putBoard_79 hm
  have j43 : ∀ (σ : Mm) (v1 : Int32) (v2 : Int32) (v3 : Int32) (v4 : Int32) (v5 : Int32) (s1 : Int32) (s2 : Int32) (H : Heap) (locs : List Loc) (ls : Array Slot), BD D A s.heap ((mW cI cZ a) σ) H locs → lv_has ls 6 [(0, .ref (a 0)), (1, .int v1), (2, .int v2), (3, .int v3), (4, .int v4), (5, .int v5)] → f_X7_putBoard_j43 σ v1 v2 v3 v4 v5 s1 s2 = some out → W p l e ({ frames := 5, cells := 0, slots := 0, locals := 119 } : Room) s m ([.ref (a 0), .int w1, .int w2, .int w3] : List Value).toArray below meth c H locs 0 0 (MQ below (QV D [(cI, FieldType.int), (cZ, FieldType.boolean)] (mW cI cZ a) A out) ([.ref (a 0), .int w1, .int w2, .int w3] : List Value).toArray s 0 0 A) (F0 m 43 ls [.int s2, .int s1, .ref (a 5)]) := by
    intro σ v1 v2 v3 v4 v5 s1 s2 H locs ls B hl hm
    unfold f_X7_putBoard_j43 at hm
    refine x_iast (t0 := 0) hx hb hK B mA_whites rfl dX7_putBoard_43 hm (fun σ H locs B hm => ?_)
    refine lv_aload_n hx hb dX7_putBoard_44 rfl (lv_at hl 0 rfl) ?_
    refine x_getv (T := TX7) (N := 33) hx hb hT hown hK B mV_blacks inlX7 rfl (by decide) q773 rfl dX7_putBoard_45 ?_
    refine lv_iload hx hb dX7_putBoard_48 (lv_at hl 4 rfl) ?_
    refine lv_iload hx hb dX7_putBoard_50 (lv_at hl 5 rfl) ?_
    refine lv_if_eq (tgt := 59) hx hb dX7_putBoard_52 (by decide) (fun q => ?_) (fun q => ?_)
    · have hm := ift hm q
      refine lv_iload_n hx hb dX7_putBoard_59 rfl (lv_at hl 2 rfl) ?_
      exact j60 σ v1 v4 v4 v2 H locs ls B (lv_sub hl [0, 1, 4] rfl) hm
    · have hm := iff hm q
      refine lv_iload_n hx hb dX7_putBoard_55 rfl (lv_at hl 3 rfl) ?_
      refine lv_goto (tgt := 60) hx hb dX7_putBoard_56 (by decide) ?_
      exact j60 σ v1 v4 v4 v3 H locs ls B (lv_sub hl [0, 1, 4] rfl) hm
  refine lv_bipush (v := (6 : Int32)) hx hb dX7_putBoard_0 (by decide) ?_
  refine lv_iload_n hx hb dX7_putBoard_2 rfl (lv_at hl 1 rfl) ?_
  refine lv_imul hx hb dX7_putBoard_3 ?_
  refine lv_aload_n hx hb dX7_putBoard_4 rfl (lv_at hl 0 rfl) ?_
  refine x_getv (T := TX7) (N := 33) hx hb hT hown hK B mV_boardMany inlX7 rfl (by decide) q770 rfl dX7_putBoard_5 ?_
  refine lv_iload_n hx hb dX7_putBoard_8 rfl (lv_at hl 1 rfl) ?_
  refine x_iald (t0 := 0) hx hb hK B mA_boardMany rfl dX7_putBoard_9 hm (fun x2 hm => ?_)
  refine lv_iadd hx hb dX7_putBoard_10 ?_
  refine lv_istore (lv' := [(4, .int (((6 : Int32) * w1) + x2)), (0, .ref (a 0)), (1, .int w1), (2, .int w2), (3, .int w3)]) hx hb dX7_putBoard_11 hl (by decide) rfl (fun ls hl => ?_)
  refine lv_aload_n hx hb dX7_putBoard_13 rfl (lv_at hl 1 rfl) ?_
  refine lv_iload_n hx hb dX7_putBoard_14 rfl (lv_at hl 3 rfl) ?_
  refine lv_iload_n hx hb dX7_putBoard_15 rfl (lv_at hl 4 rfl) ?_
  refine lv_aload_n hx hb dX7_putBoard_16 rfl (lv_at hl 1 rfl) ?_
  refine x_getv (T := TX7) (N := 33) hx hb hT hown hK B mV_boardMany inlX7 rfl (by decide) q770 rfl dX7_putBoard_17 ?_
  refine lv_iload_n hx hb dX7_putBoard_20 rfl (lv_at hl 2 rfl) ?_
  refine x_iald (t0 := 0) hx hb hK B mA_boardMany rfl dX7_putBoard_21 hm (fun x3 hm => ?_)
  refine x_callVr (rest := []) hx hb hml hT hown hK hA B hl.1 (c_X7_isWhite l D cI cZ a w2 w3 x3) mi_X7_isWhite mv_X7_isWhite mO_M rfl q943 ⟨rfl, rfl⟩ ⟨Nat.le_of_ble_eq_true rfl, Nat.le_of_ble_eq_true rfl⟩ rfl rfl (Nat.le_of_ble_eq_true rfl) dX7_putBoard_22 hm (fun x4 H locs B hm => ?_)
  refine lv_istore (lv' := [(5, .int x4), (4, .int (((6 : Int32) * w1) + x2)), (0, .ref (a 0)), (1, .int w1), (2, .int w2), (3, .int w3)]) hx hb dX7_putBoard_25 hl (by decide) rfl (fun ls hl => ?_)
  refine lv_aload_n hx hb dX7_putBoard_27 rfl (lv_at hl 2 rfl) ?_
  refine x_getv (T := TX7) (N := 33) hx hb hT hown hK B mV_whites inlX7 rfl (by decide) q772 rfl dX7_putBoard_28 ?_
  refine lv_iload hx hb dX7_putBoard_31 (lv_at hl 1 rfl) ?_
  refine lv_iload hx hb dX7_putBoard_33 (lv_at hl 0 rfl) ?_
  refine lv_if_eq (tgt := 42) hx hb dX7_putBoard_35 (by decide) (fun q => ?_) (fun q => ?_)
  · have hm := ift hm q
    refine lv_iload_n hx hb dX7_putBoard_42 rfl (lv_at hl 5 rfl) ?_
    exact j43 σ w1 w2 w3 (((6 : Int32) * w1) + x2) x4 (((6 : Int32) * w1) + x2) w3 H locs ls B (lv_sub hl [2, 3, 4, 5, 1, 0] rfl) hm
  · have hm := iff hm q
    refine lv_iload_n hx hb dX7_putBoard_38 rfl (lv_at hl 4 rfl) ?_
    refine lv_goto (tgt := 43) hx hb dX7_putBoard_39 (by decide) ?_
    exact j43 σ w1 w2 w3 (((6 : Int32) * w1) + x2) x4 (((6 : Int32) * w1) + x2) w2 H locs ls B (lv_sub hl [2, 3, 4, 5, 1, 0] rfl) hm
def f_X7_earliestWith_j53 (r15 : Int32 → Int32 → Option Int32) (σ : Mm) (v1 v2 v3 v4 s0 : Int32) : Option Int32 :=
  if s0 = 0 then
    r15 v3 (v4 + (-1 : Int32))
  else
    (ald 4096 (σ 19) ((v1 &&& (((1 : Int32) <<< (v2 &&& 31)) ^^^ (-1 : Int32))) &&& (((1 : Int32) <<< (v4 &&& 31)) ^^^ (-1 : Int32)))).bind fun x1 =>
    (ald 144 (σ 18) (((12 : Int32) * v2) + v4)).bind fun x2 =>
    (ald 4096 (σ 19) v1).bind fun x3 =>
    if (x1 + x2) = x3 then
      r15 v4 (v4 + (-1 : Int32))
    else
      r15 v3 (v4 + (-1 : Int32))
def f_X7_earliestWith_s15 (σ : Mm) (v1 : Int32) (v2 : Int32) (r15 : Int32 → Int32 → Option Int32) (v3 v4 : Int32) : Option Int32 :=
  if v4 ≤ v2 then
    some v3
  else
    if ((v1 >>> (v4 &&& 31)) &&& (1 : Int32)) = (1 : Int32) then
      (ald 144 (σ 18) (((12 : Int32) * v2) + v4)).bind fun x4 =>
      if (1000000 : Int32) ≤ x4 then
        f_X7_earliestWith_j53 r15 σ v1 v2 v3 v4 (0 : Int32)
      else
        f_X7_earliestWith_j53 r15 σ v1 v2 v3 v4 (1 : Int32)
    else
      f_X7_earliestWith_j53 r15 σ v1 v2 v3 v4 (0 : Int32)
def f_X7_earliestWith (σ : Mm) (w1 : Int32) : Option Int32 :=
  (f_X7_leastBit w1).bind fun x5 =>
  wh2 (f_X7_earliestWith_s15 σ w1 x5) 5000 (-1 : Int32) ((σ 15 0) - (1 : Int32))
set_option maxHeartbeats 4000000 in
set_option maxRecDepth 100000 in
theorem c_X7_earliestWith (l : Launch) (D : va_G) (cI cZ : ClassId) (a : Nat → Nat) (w1 : Int32) : CTr l D [(cI, FieldType.int), (cZ, FieldType.boolean)] (mW cI cZ a) yX7_earliestWith (.code yX7_earliestWith cX7_earliestWith 7 (some FieldType.int) :: wsL_law) ({ frames := 1, cells := 0, slots := 0, locals := 21 } : Room) [.ref (a 0), .int w1] (fun σ => f_X7_earliestWith σ w1) := by
  refine CTr.of (by decide +kernel) (Nat.le_of_ble_eq_true rfl) ?_
  intro σ r hm p e s m below meth c A ls H locs hx hb hr hlk hml hT hown hK hA B hl
  have hown : s.vm.findClass RX7 = some m.cls := hown
  have hl : lv_has ls 7 [(0, .ref (a 0)), (1, .int w1)] := hl
  have hm : f_X7_earliestWith σ w1 = some r := hm
  unfold f_X7_earliestWith at hm
  have L15 : ∀ (v1 : Int32) (v2 : Int32) (nn : Nat) (v3 : Int32) (v4 : Int32), wh2 (f_X7_earliestWith_s15 σ v1 v2) nn v3 v4 = some r → ∀ (H : Heap) (locs : List Loc) (ls : Array Slot), BD D A s.heap ((mW cI cZ a) σ) H locs → lv_has ls 7 [(0, .ref (a 0)), (1, .int v1), (2, .int v2), (3, .int v3), (4, .int v4)] → W p l e ({ frames := 1, cells := 0, slots := 0, locals := 21 } : Room) s m ([.ref (a 0), .int w1] : List Value).toArray below meth c H locs 0 0 (MQ below (QI D [(cI, FieldType.int), (cZ, FieldType.boolean)] (mW cI cZ a) A (r, σ)) ([.ref (a 0), .int w1] : List Value).toArray s 0 0 A) (F0 m 15 ls []) := by
    intro v1 v2
    refine loop2 (fun r15 ih15 v3 v4 hm H locs ls B hl => ?_)
    unfold f_X7_earliestWith_s15 at hm
    have j53 : ∀ (v3 : Int32) (v4 : Int32) (s0 : Int32) (H : Heap) (locs : List Loc) (ls : Array Slot), BD D A s.heap ((mW cI cZ a) σ) H locs → lv_has ls 7 [(0, .ref (a 0)), (1, .int v1), (2, .int v2), (3, .int v3), (4, .int v4)] → f_X7_earliestWith_j53 r15 σ v1 v2 v3 v4 s0 = some r → W p l e ({ frames := 1, cells := 0, slots := 0, locals := 21 } : Room) s m ([.ref (a 0), .int w1] : List Value).toArray below meth c H locs 0 0 (MQ below (QI D [(cI, FieldType.int), (cZ, FieldType.boolean)] (mW cI cZ a) A (r, σ)) ([.ref (a 0), .int w1] : List Value).toArray s 0 0 A) (F0 m 53 ls [.int s0]) := by
      intro v3 v4 s0 H locs ls B hl hm
      unfold f_X7_earliestWith_j53 at hm
      refine lv_istore (lv' := [(5, .int s0), (0, .ref (a 0)), (1, .int v1), (2, .int v2), (3, .int v3), (4, .int v4)]) hx hb dX7_earliestWith_53 hl (by decide) rfl (fun ls hl => ?_)
      refine lv_iload_n hx hb dX7_earliestWith_55 rfl (lv_at hl 2 rfl) ?_
      refine lv_iconst (v := (1 : Int32)) hx hb dX7_earliestWith_56 (by decide) ?_
      refine lv_iload_n hx hb dX7_earliestWith_57 rfl (lv_at hl 3 rfl) ?_
      refine lv_ishl hx hb dX7_earliestWith_58 ?_
      refine lv_iconst (v := (-1 : Int32)) hx hb dX7_earliestWith_59 (by decide) ?_
      refine lv_ixor hx hb dX7_earliestWith_60 ?_
      refine lv_iand hx hb dX7_earliestWith_61 ?_
      refine lv_iconst (v := (1 : Int32)) hx hb dX7_earliestWith_62 (by decide) ?_
      refine lv_iload hx hb dX7_earliestWith_63 (lv_at hl 5 rfl) ?_
      refine lv_ishl hx hb dX7_earliestWith_65 ?_
      refine lv_iconst (v := (-1 : Int32)) hx hb dX7_earliestWith_66 (by decide) ?_
      refine lv_ixor hx hb dX7_earliestWith_67 ?_
      refine lv_iand hx hb dX7_earliestWith_68 ?_
      refine lv_istore (lv' := [(6, .int ((v1 &&& (((1 : Int32) <<< (v2 &&& 31)) ^^^ (-1 : Int32))) &&& (((1 : Int32) <<< (v4 &&& 31)) ^^^ (-1 : Int32)))), (5, .int s0), (0, .ref (a 0)), (1, .int v1), (2, .int v2), (3, .int v3), (4, .int v4)]) hx hb dX7_earliestWith_69 hl (by decide) rfl (fun ls hl => ?_)
      refine lv_iload hx hb dX7_earliestWith_71 (lv_at hl 1 rfl) ?_
      refine lv_if_eq (tgt := 110) hx hb dX7_earliestWith_73 (by decide) (fun q => ?_) (fun q => ?_)
      · have hm := ift hm q
        refine lv_iload_n hx hb dX7_earliestWith_110 rfl (lv_at hl 5 rfl) ?_
        refine lv_istore_n (lv' := [(3, .int v3), (6, .int ((v1 &&& (((1 : Int32) <<< (v2 &&& 31)) ^^^ (-1 : Int32))) &&& (((1 : Int32) <<< (v4 &&& 31)) ^^^ (-1 : Int32)))), (5, .int s0), (0, .ref (a 0)), (1, .int v1), (2, .int v2), (4, .int v4)]) hx hb dX7_earliestWith_111 rfl hl (by decide) rfl (fun ls hl => ?_)
        refine lv_iinc (v := (v4 + (-1 : Int32))) (lv' := [(4, .int (v4 + (-1 : Int32))), (3, .int v3), (6, .int ((v1 &&& (((1 : Int32) <<< (v2 &&& 31)) ^^^ (-1 : Int32))) &&& (((1 : Int32) <<< (v4 &&& 31)) ^^^ (-1 : Int32)))), (5, .int s0), (0, .ref (a 0)), (1, .int v1), (2, .int v2)]) hx hb dX7_earliestWith_112 hl (k := 6) rfl rfl (by decide) rfl (fun ls hl => ?_)
        refine lv_goto (tgt := 15) hx hb dX7_earliestWith_115 (by decide) ?_
        exact ih15 v3 (v4 + (-1 : Int32)) hm H locs ls B (lv_sub hl [4, 5, 6, 1, 0] rfl)
      · have hm := iff hm q
        refine lv_aload_n hx hb dX7_earliestWith_76 rfl (lv_at hl 2 rfl) ?_
        refine x_getv (T := TX7) (N := 33) hx hb hT hown hK B mV_bests inlX7 rfl (by decide) q784 rfl dX7_earliestWith_77 ?_
        refine lv_iload hx hb dX7_earliestWith_80 (lv_at hl 0 rfl) ?_
        refine x_iald (t0 := 0) hx hb hK B mA_bests rfl dX7_earliestWith_82 hm (fun x1 hm => ?_)
        refine lv_aload_n hx hb dX7_earliestWith_83 rfl (lv_at hl 2 rfl) ?_
        refine x_getv (T := TX7) (N := 33) hx hb hT hown hK B mV_costs inlX7 rfl (by decide) q783 rfl dX7_earliestWith_84 ?_
        refine lv_bipush (v := (12 : Int32)) hx hb dX7_earliestWith_87 (by decide) ?_
        refine lv_iload_n hx hb dX7_earliestWith_89 rfl (lv_at hl 4 rfl) ?_
        refine lv_imul hx hb dX7_earliestWith_90 ?_
        refine lv_iload hx hb dX7_earliestWith_91 (lv_at hl 6 rfl) ?_
        refine lv_iadd hx hb dX7_earliestWith_93 ?_
        refine x_iald (t0 := 0) hx hb hK B mA_costs rfl dX7_earliestWith_94 hm (fun x2 hm => ?_)
        refine lv_iadd hx hb dX7_earliestWith_95 ?_
        refine lv_aload_n hx hb dX7_earliestWith_96 rfl (lv_at hl 2 rfl) ?_
        refine x_getv (T := TX7) (N := 33) hx hb hT hown hK B mV_bests inlX7 rfl (by decide) q784 rfl dX7_earliestWith_97 ?_
        refine lv_iload_n hx hb dX7_earliestWith_100 rfl (lv_at hl 3 rfl) ?_
        refine x_iald (t0 := 0) hx hb hK B mA_bests rfl dX7_earliestWith_101 hm (fun x3 hm => ?_)
        refine lv_icmp_ne (tgt := 110) hx hb dX7_earliestWith_102 (by decide) (fun q => ?_) (fun q => ?_)
        · have hm := iff hm q
          refine lv_iload_n hx hb dX7_earliestWith_110 rfl (lv_at hl 5 rfl) ?_
          refine lv_istore_n (lv' := [(3, .int v3), (6, .int ((v1 &&& (((1 : Int32) <<< (v2 &&& 31)) ^^^ (-1 : Int32))) &&& (((1 : Int32) <<< (v4 &&& 31)) ^^^ (-1 : Int32)))), (5, .int s0), (0, .ref (a 0)), (1, .int v1), (2, .int v2), (4, .int v4)]) hx hb dX7_earliestWith_111 rfl hl (by decide) rfl (fun ls hl => ?_)
          refine lv_iinc (v := (v4 + (-1 : Int32))) (lv' := [(4, .int (v4 + (-1 : Int32))), (3, .int v3), (6, .int ((v1 &&& (((1 : Int32) <<< (v2 &&& 31)) ^^^ (-1 : Int32))) &&& (((1 : Int32) <<< (v4 &&& 31)) ^^^ (-1 : Int32)))), (5, .int s0), (0, .ref (a 0)), (1, .int v1), (2, .int v2)]) hx hb dX7_earliestWith_112 hl (k := 6) rfl rfl (by decide) rfl (fun ls hl => ?_)
          refine lv_goto (tgt := 15) hx hb dX7_earliestWith_115 (by decide) ?_
          exact ih15 v3 (v4 + (-1 : Int32)) hm H locs ls B (lv_sub hl [4, 5, 6, 1, 0] rfl)
        · have hm := ift hm q
          refine lv_iload hx hb dX7_earliestWith_105 (lv_at hl 6 rfl) ?_
          refine lv_goto (tgt := 111) hx hb dX7_earliestWith_107 (by decide) ?_
          refine lv_istore_n (lv' := [(3, .int v4), (6, .int ((v1 &&& (((1 : Int32) <<< (v2 &&& 31)) ^^^ (-1 : Int32))) &&& (((1 : Int32) <<< (v4 &&& 31)) ^^^ (-1 : Int32)))), (5, .int s0), (0, .ref (a 0)), (1, .int v1), (2, .int v2), (4, .int v4)]) hx hb dX7_earliestWith_111 rfl hl (by decide) rfl (fun ls hl => ?_)
          refine lv_iinc (v := (v4 + (-1 : Int32))) (lv' := [(4, .int (v4 + (-1 : Int32))), (3, .int v4), (6, .int ((v1 &&& (((1 : Int32) <<< (v2 &&& 31)) ^^^ (-1 : Int32))) &&& (((1 : Int32) <<< (v4 &&& 31)) ^^^ (-1 : Int32)))), (5, .int s0), (0, .ref (a 0)), (1, .int v1), (2, .int v2)]) hx hb dX7_earliestWith_112 hl (k := 6) rfl rfl (by decide) rfl (fun ls hl => ?_)
          refine lv_goto (tgt := 15) hx hb dX7_earliestWith_115 (by decide) ?_
          exact ih15 v4 (v4 + (-1 : Int32)) hm H locs ls B (lv_sub hl [4, 5, 6, 1, 0] rfl)
    refine lv_iload hx hb dX7_earliestWith_15 (lv_at hl 4 rfl) ?_
    refine lv_iload_n hx hb dX7_earliestWith_17 rfl (lv_at hl 2 rfl) ?_
    refine lv_icmp_le (tgt := 118) hx hb dX7_earliestWith_18 (by decide) (fun q => ?_) (fun q => ?_)
    · have hm := ift hm q
      refine lv_iload_n hx hb dX7_earliestWith_118 rfl (lv_at hl 3 rfl) ?_
      exact x_iretr hx hb hr hlk hK B dX7_earliestWith_119 hm
    · have hm := iff hm q
      refine lv_iload_n hx hb dX7_earliestWith_21 rfl (lv_at hl 1 rfl) ?_
      refine lv_iload hx hb dX7_earliestWith_22 (lv_at hl 4 rfl) ?_
      refine lv_ishr hx hb dX7_earliestWith_24 ?_
      refine lv_iconst (v := (1 : Int32)) hx hb dX7_earliestWith_25 (by decide) ?_
      refine lv_iand hx hb dX7_earliestWith_26 ?_
      refine lv_iconst (v := (1 : Int32)) hx hb dX7_earliestWith_27 (by decide) ?_
      refine lv_icmp_ne (tgt := 52) hx hb dX7_earliestWith_28 (by decide) (fun q => ?_) (fun q => ?_)
      · have hm := iff hm q
        refine lv_iconst (v := (0 : Int32)) hx hb dX7_earliestWith_52 (by decide) ?_
        exact j53 v3 v4 (0 : Int32) H locs ls B (lv_sub hl [0, 1, 2, 3, 4] rfl) hm
      · have hm := ift hm q
        refine lv_aload_n hx hb dX7_earliestWith_31 rfl (lv_at hl 0 rfl) ?_
        refine x_getv (T := TX7) (N := 33) hx hb hT hown hK B mV_costs inlX7 rfl (by decide) q783 rfl dX7_earliestWith_32 ?_
        refine lv_bipush (v := (12 : Int32)) hx hb dX7_earliestWith_35 (by decide) ?_
        refine lv_iload_n hx hb dX7_earliestWith_37 rfl (lv_at hl 2 rfl) ?_
        refine lv_imul hx hb dX7_earliestWith_38 ?_
        refine lv_iload hx hb dX7_earliestWith_39 (lv_at hl 4 rfl) ?_
        refine lv_iadd hx hb dX7_earliestWith_41 ?_
        refine x_iald (t0 := 0) hx hb hK B mA_costs rfl dX7_earliestWith_42 hm (fun x4 hm => ?_)
        refine lv_ldc (v := (1000000 : Int32)) hx hb hown (hT _ q875) dX7_earliestWith_43 ?_
        refine lv_icmp_ge (tgt := 52) hx hb dX7_earliestWith_45 (by decide) (fun q => ?_) (fun q => ?_)
        · have hm := ift hm q
          refine lv_iconst (v := (0 : Int32)) hx hb dX7_earliestWith_52 (by decide) ?_
          exact j53 v3 v4 (0 : Int32) H locs ls B (lv_sub hl [0, 1, 2, 3, 4] rfl) hm
        · have hm := iff hm q
          refine lv_iconst (v := (1 : Int32)) hx hb dX7_earliestWith_48 (by decide) ?_
          refine lv_goto (tgt := 53) hx hb dX7_earliestWith_49 (by decide) ?_
          exact j53 v3 v4 (1 : Int32) H locs ls B (lv_sub hl [0, 1, 2, 3, 4] rfl) hm
  refine lv_iload_n hx hb dX7_earliestWith_0 rfl (lv_at hl 1 rfl) ?_
  refine x_callSr (rest := []) hx hb hml hT hown hK hA B hl.1 (c_X7_leastBit l D cI cZ (mW cI cZ a) w1) mi_X7_leastBit q935 q934 ⟨rfl, rfl⟩ ⟨Nat.le_of_ble_eq_true rfl, Nat.le_of_ble_eq_true rfl⟩ rfl rfl (Nat.le_of_ble_eq_true rfl) dX7_earliestWith_1 hm (fun x5 H locs B hm => ?_)
  refine lv_istore_n (lv' := [(2, .int x5), (0, .ref (a 0)), (1, .int w1)]) hx hb dX7_earliestWith_4 rfl hl (by decide) rfl (fun ls hl => ?_)
  refine lv_iconst (v := (-1 : Int32)) hx hb dX7_earliestWith_5 (by decide) ?_
  refine lv_istore_n (lv' := [(3, .int (-1 : Int32)), (2, .int x5), (0, .ref (a 0)), (1, .int w1)]) hx hb dX7_earliestWith_6 rfl hl (by decide) rfl (fun ls hl => ?_)
  refine lv_aload_n hx hb dX7_earliestWith_7 rfl (lv_at hl 2 rfl) ?_
  refine x_geti (T := TX7) (N := 33) hx hb hT hown hK B mI_paired inlX7 rfl (by decide) q780 rfl dX7_earliestWith_8 ?_
  refine lv_iconst (v := (1 : Int32)) hx hb dX7_earliestWith_11 (by decide) ?_
  refine lv_isub hx hb dX7_earliestWith_12 ?_
  refine lv_istore (lv' := [(4, .int ((σ 15 0) - (1 : Int32))), (3, .int (-1 : Int32)), (2, .int x5), (0, .ref (a 0)), (1, .int w1)]) hx hb dX7_earliestWith_13 hl (by decide) rfl (fun ls hl => ?_)
  exact L15 w1 x5 5000 (-1 : Int32) ((σ 15 0) - (1 : Int32)) hm H locs ls B (lv_sub hl [3, 4, 2, 1, 0] rfl)
def f_X7_wrongPairing (σ : Mm) : Option Int32 :=
  if (σ 4 0) = (1 : Int32) then
    some (-3 : Int32)
  else
    (f_X7_manyIn σ).bind fun x1 =>
    if (2 : Int32) ≤ x1 then
      some (0 : Int32)
    else
      some (-2 : Int32)
set_option maxHeartbeats 4000000 in
set_option maxRecDepth 100000 in
theorem c_X7_wrongPairing (l : Launch) (D : va_G) (cI cZ : ClassId) (a : Nat → Nat) : CTr l D [(cI, FieldType.int), (cZ, FieldType.boolean)] (mW cI cZ a) yX7_wrongPairing (.code yX7_wrongPairing cX7_wrongPairing 1 (some FieldType.int) :: wsL_law) ({ frames := 1, cells := 0, slots := 0, locals := 22 } : Room) [.ref (a 0)] (fun σ => f_X7_wrongPairing σ) := by
  refine CTr.of (by decide +kernel) (Nat.le_of_ble_eq_true rfl) ?_
  intro σ r hm p e s m below meth c A ls H locs hx hb hr hlk hml hT hown hK hA B hl
  have hown : s.vm.findClass RX7 = some m.cls := hown
  have hl : lv_has ls 1 [(0, .ref (a 0))] := hl
  have hm : f_X7_wrongPairing σ = some r := hm
  unfold f_X7_wrongPairing at hm
  refine lv_aload_n hx hb dX7_wrongPairing_0 rfl (lv_at hl 0 rfl) ?_
  refine x_geti (T := TX7) (N := 33) hx hb hT hown hK B mI_isOpen inlX7 rfl (by decide) q769 rfl dX7_wrongPairing_1 ?_
  refine lv_iconst (v := (1 : Int32)) hx hb dX7_wrongPairing_4 (by decide) ?_
  refine lv_icmp_ne (tgt := 13) hx hb dX7_wrongPairing_5 (by decide) (fun q => ?_) (fun q => ?_)
  · have hm := iff hm q
    refine lv_aload_n hx hb dX7_wrongPairing_13 rfl (lv_at hl 0 rfl) ?_
    refine x_callVr (rest := []) hx hb hml hT hown hK hA B hl.1 (c_X7_manyIn l D cI cZ a) mi_X7_manyIn mv_X7_manyIn mO_M rfl q839 ⟨rfl, rfl⟩ ⟨Nat.le_of_ble_eq_true rfl, Nat.le_of_ble_eq_true rfl⟩ rfl rfl (Nat.le_of_ble_eq_true rfl) dX7_wrongPairing_14 hm (fun x1 H locs B hm => ?_)
    refine lv_iconst (v := (2 : Int32)) hx hb dX7_wrongPairing_17 (by decide) ?_
    refine lv_icmp_ge (tgt := 26) hx hb dX7_wrongPairing_18 (by decide) (fun q => ?_) (fun q => ?_)
    · have hm := ift hm q
      refine lv_iconst (v := (0 : Int32)) hx hb dX7_wrongPairing_26 (by decide) ?_
      exact x_iretr hx hb hr hlk hK B dX7_wrongPairing_27 hm
    · have hm := iff hm q
      refine lv_bipush (v := (-2 : Int32)) hx hb dX7_wrongPairing_21 (by decide) ?_
      refine lv_goto (tgt := 27) hx hb dX7_wrongPairing_23 (by decide) ?_
      exact x_iretr hx hb hr hlk hK B dX7_wrongPairing_27 hm
  · have hm := ift hm q
    refine lv_bipush (v := (-3 : Int32)) hx hb dX7_wrongPairing_8 (by decide) ?_
    refine lv_goto (tgt := 27) hx hb dX7_wrongPairing_10 (by decide) ?_
    exact x_iretr hx hb hr hlk hK B dX7_wrongPairing_27 hm
def f_X7_pair_j130 (σ : Mm) (v2 : Int32) : Option (Int32 × Mm) :=
  (some (σ 3 0)).bind fun x1 =>
  (some (sc σ 3 (x1 + (1 : Int32)))).bind fun σ =>
  (some (sc σ 4 (1 : Int32))).bind fun σ =>
  (ald 20 (σ 5) v2).bind fun x2 =>
  some (x2, σ)
def f_X7_pair_s78 (v2 : Int32) (r78 : Mm → Int32 → Option (Int32 × Mm)) (σ : Mm) (v1 : Int32) : Option (Int32 × Mm) :=
  if v1 = 0 then
    f_X7_pair_j130 σ v2
  else
    (f_X7_leastBit v1).bind fun x3 =>
    (f_X7_earliestWith σ v1).bind fun x4 =>
    (ald 12 (σ 16) x3).bind fun x5 =>
    (ald 12 (σ 16) x4).bind fun x6 =>
    (f_X7_putBoard σ v2 x5 x6).bind fun σ =>
    r78 σ (v1 &&& ((((1 : Int32) <<< (x3 &&& 31)) ^^^ (-1 : Int32)) &&& (((1 : Int32) <<< (x4 &&& 31)) ^^^ (-1 : Int32))))
def f_X7_pair (σ : Mm) : Option (Int32 × Mm) :=
  (some (sc σ 12 (0 : Int32))).bind fun σ =>
  (f_X7_wrongPairing σ).bind fun x7 =>
  if 0 ≤ x7 then
    (some (σ 3 0)).bind fun x8 =>
    if x8 = (20 : Int32) then
      some ((-4 : Int32), σ)
    else
      (f_X7_layBests σ).bind fun σ =>
      (some (σ 15 0)).bind fun x9 =>
      (ald 4096 (σ 19) (((1 : Int32) <<< (x9 &&& 31)) - (1 : Int32))).bind fun x10 =>
      if x10 < (1000000 : Int32) then
        (some (σ 3 0)).bind fun x11 =>
        (ast 20 σ 5 x11 (0 : Int32)).bind fun σ =>
        (some (σ 17 0)).bind fun x12 =>
        (ast 20 σ 6 x11 x12).bind fun σ =>
        wh2 (f_X7_pair_s78 x11) 5000 σ (((1 : Int32) <<< (x9 &&& 31)) - (1 : Int32))
      else
        some ((-9 : Int32), σ)
  else
    (f_X7_wrongPairing σ).bind fun x13 =>
    some (x13, σ)
set_option maxHeartbeats 4000000 in
set_option maxRecDepth 100000 in
theorem c_X7_pair (l : Launch) (D : va_G) (cI cZ : ClassId) (a : Nat → Nat) : CTi l D [(cI, FieldType.int), (cZ, FieldType.boolean)] (mW cI cZ a) yX7_pair (.code yX7_pair cX7_pair 5 (some FieldType.int) :: wsL_law) ({ frames := 9, cells := 0, slots := 0, locals := 211 } : Room) [.ref (a 0)] (fun σ => f_X7_pair σ) := by
  refine CTi.of (by decide +kernel) (Nat.le_of_ble_eq_true rfl) ?_
  intro σ out hm p e s m below meth c A ls H locs hx hb hr hlk hml hT hown hK hA B hl
  have hown : s.vm.findClass RX7 = some m.cls := hown
  have hl : lv_has ls 5 [(0, .ref (a 0))] := hl
  have hm : f_X7_pair σ = some out := hm
  unfold f_X7_pair at hm
  have j130 : ∀ (σ : Mm) (v2 : Int32) (H : Heap) (locs : List Loc) (ls : Array Slot), BD D A s.heap ((mW cI cZ a) σ) H locs → lv_has ls 5 [(0, .ref (a 0)), (2, .int v2)] → f_X7_pair_j130 σ v2 = some out → W p l e ({ frames := 9, cells := 0, slots := 0, locals := 211 } : Room) s m ([.ref (a 0)] : List Value).toArray below meth c H locs 0 0 (MQ below (QI D [(cI, FieldType.int), (cZ, FieldType.boolean)] (mW cI cZ a) A out) ([.ref (a 0)] : List Value).toArray s 0 0 A) (F0 m 130 ls []) := by
    intro σ v2 H locs ls B hl hm
    unfold f_X7_pair_j130 at hm
    refine lv_aload_n hx hb dX7_pair_130 rfl (lv_at hl 0 rfl) ?_
    refine lv_dup hx hb dX7_pair_131 rfl ?_
    refine x_getib (T := TX7) (N := 33) hx hb hT hown hK B mI_rounds inlX7 rfl (by decide) q768 rfl dX7_pair_132 hm (fun x1 hm => ?_)
    refine lv_iconst (v := (1 : Int32)) hx hb dX7_pair_135 (by decide) ?_
    refine lv_iadd hx hb dX7_pair_136 ?_
    refine x_puti (T := TX7) (N := 33) hx hb hT hown hK B mI_rounds inlX7 tyX7_ok nmX7 rfl (by decide) q768 rfl rfl rfl rfl rfl dX7_pair_137 hm (fun σ H locs B hm => ?_)
    refine lv_aload_n hx hb dX7_pair_140 rfl (lv_at hl 0 rfl) ?_
    refine lv_iconst (v := (1 : Int32)) hx hb dX7_pair_141 (by decide) ?_
    refine x_puti (T := TX7) (N := 33) hx hb hT hown hK B mI_isOpen inlX7 tyX7_ok nmX7 rfl (by decide) q769 rfl rfl rfl rfl rfl dX7_pair_142 hm (fun σ H locs B hm => ?_)
    refine lv_aload_n hx hb dX7_pair_145 rfl (lv_at hl 0 rfl) ?_
    refine x_getv (T := TX7) (N := 33) hx hb hT hown hK B mV_boardMany inlX7 rfl (by decide) q770 rfl dX7_pair_146 ?_
    refine lv_iload_n hx hb dX7_pair_149 rfl (lv_at hl 1 rfl) ?_
    refine x_iald (t0 := 0) hx hb hK B mA_boardMany rfl dX7_pair_150 hm (fun x2 hm => ?_)
    exact x_iret hx hb hr hlk hK B dX7_pair_151 hm
  have L78 : ∀ (v2 : Int32) (nn : Nat) (σ : Mm) (v1 : Int32), wh2 (f_X7_pair_s78 v2) nn σ v1 = some out → ∀ (H : Heap) (locs : List Loc) (ls : Array Slot), BD D A s.heap ((mW cI cZ a) σ) H locs → lv_has ls 5 [(0, .ref (a 0)), (1, .int v1), (2, .int v2)] → W p l e ({ frames := 9, cells := 0, slots := 0, locals := 211 } : Room) s m ([.ref (a 0)] : List Value).toArray below meth c H locs 0 0 (MQ below (QI D [(cI, FieldType.int), (cZ, FieldType.boolean)] (mW cI cZ a) A out) ([.ref (a 0)] : List Value).toArray s 0 0 A) (F0 m 78 ls []) := by
    intro v2
    refine loop2 (fun r78 ih78 σ v1 hm H locs ls B hl => ?_)
    unfold f_X7_pair_s78 at hm
    refine lv_iload_n hx hb dX7_pair_78 rfl (lv_at hl 1 rfl) ?_
    refine lv_if_eq (tgt := 130) hx hb dX7_pair_79 (by decide) (fun q => ?_) (fun q => ?_)
    · have hm := ift hm q
      exact j130 σ v2 H locs ls B (lv_sub hl [0, 2] rfl) hm
    · have hm := iff hm q
      refine lv_iload_n hx hb dX7_pair_82 rfl (lv_at hl 1 rfl) ?_
      refine x_callSr (rest := []) hx hb hml hT hown hK hA B hl.1 (c_X7_leastBit l D cI cZ (mW cI cZ a) v1) mi_X7_leastBit q935 q934 ⟨rfl, rfl⟩ ⟨Nat.le_of_ble_eq_true rfl, Nat.le_of_ble_eq_true rfl⟩ rfl rfl (Nat.le_of_ble_eq_true rfl) dX7_pair_83 hm (fun x3 H locs B hm => ?_)
      refine lv_istore_n (lv' := [(3, .int x3), (0, .ref (a 0)), (1, .int v1), (2, .int v2)]) hx hb dX7_pair_86 rfl hl (by decide) rfl (fun ls hl => ?_)
      refine lv_aload_n hx hb dX7_pair_87 rfl (lv_at hl 1 rfl) ?_
      refine lv_iload_n hx hb dX7_pair_88 rfl (lv_at hl 2 rfl) ?_
      refine x_callVr (rest := []) hx hb hml hT hown hK hA B hl.1 (c_X7_earliestWith l D cI cZ a v1) mi_X7_earliestWith mv_X7_earliestWith mO_M rfl q937 ⟨rfl, rfl⟩ ⟨Nat.le_of_ble_eq_true rfl, Nat.le_of_ble_eq_true rfl⟩ rfl rfl (Nat.le_of_ble_eq_true rfl) dX7_pair_89 hm (fun x4 H locs B hm => ?_)
      refine lv_istore (lv' := [(4, .int x4), (3, .int x3), (0, .ref (a 0)), (1, .int v1), (2, .int v2)]) hx hb dX7_pair_92 hl (by decide) rfl (fun ls hl => ?_)
      refine lv_aload_n hx hb dX7_pair_94 rfl (lv_at hl 2 rfl) ?_
      refine lv_iload_n hx hb dX7_pair_95 rfl (lv_at hl 4 rfl) ?_
      refine lv_aload_n hx hb dX7_pair_96 rfl (lv_at hl 2 rfl) ?_
      refine x_getv (T := TX7) (N := 33) hx hb hT hown hK B mV_atPlace inlX7 rfl (by decide) q781 rfl dX7_pair_97 ?_
      refine lv_iload_n hx hb dX7_pair_100 rfl (lv_at hl 1 rfl) ?_
      refine x_iald (t0 := 0) hx hb hK B mA_atPlace rfl dX7_pair_101 hm (fun x5 hm => ?_)
      refine lv_aload_n hx hb dX7_pair_102 rfl (lv_at hl 2 rfl) ?_
      refine x_getv (T := TX7) (N := 33) hx hb hT hown hK B mV_atPlace inlX7 rfl (by decide) q781 rfl dX7_pair_103 ?_
      refine lv_iload hx hb dX7_pair_106 (lv_at hl 0 rfl) ?_
      refine x_iald (t0 := 0) hx hb hK B mA_atPlace rfl dX7_pair_108 hm (fun x6 hm => ?_)
      refine x_callVv (rest := []) hx hb hml hT hown hK hA B hl.1 (c_X7_putBoard l D cI cZ a v2 x5 x6) mi_X7_putBoard mv_X7_putBoard mO_M rfl q940 ⟨rfl, rfl⟩ ⟨Nat.le_of_ble_eq_true rfl, Nat.le_of_ble_eq_true rfl⟩ rfl rfl (Nat.le_of_ble_eq_true rfl) dX7_pair_109 hm (fun σ H locs B hm => ?_)
      refine lv_iload_n hx hb dX7_pair_112 rfl (lv_at hl 3 rfl) ?_
      refine lv_iconst (v := (1 : Int32)) hx hb dX7_pair_113 (by decide) ?_
      refine lv_iload_n hx hb dX7_pair_114 rfl (lv_at hl 1 rfl) ?_
      refine lv_ishl hx hb dX7_pair_115 ?_
      refine lv_iconst (v := (-1 : Int32)) hx hb dX7_pair_116 (by decide) ?_
      refine lv_ixor hx hb dX7_pair_117 ?_
      refine lv_iconst (v := (1 : Int32)) hx hb dX7_pair_118 (by decide) ?_
      refine lv_iload hx hb dX7_pair_119 (lv_at hl 0 rfl) ?_
      refine lv_ishl hx hb dX7_pair_121 ?_
      refine lv_iconst (v := (-1 : Int32)) hx hb dX7_pair_122 (by decide) ?_
      refine lv_ixor hx hb dX7_pair_123 ?_
      refine lv_iand hx hb dX7_pair_124 ?_
      refine lv_iand hx hb dX7_pair_125 ?_
      refine lv_istore_n (lv' := [(1, .int (v1 &&& ((((1 : Int32) <<< (x3 &&& 31)) ^^^ (-1 : Int32)) &&& (((1 : Int32) <<< (x4 &&& 31)) ^^^ (-1 : Int32))))), (4, .int x4), (3, .int x3), (0, .ref (a 0)), (2, .int v2)]) hx hb dX7_pair_126 rfl hl (by decide) rfl (fun ls hl => ?_)
      refine lv_goto (tgt := 78) hx hb dX7_pair_127 (by decide) ?_
      exact ih78 σ (v1 &&& ((((1 : Int32) <<< (x3 &&& 31)) ^^^ (-1 : Int32)) &&& (((1 : Int32) <<< (x4 &&& 31)) ^^^ (-1 : Int32)))) hm H locs ls B (lv_sub hl [3, 0, 4] rfl)
  refine lv_aload_n hx hb dX7_pair_0 rfl (lv_at hl 0 rfl) ?_
  refine lv_iconst (v := (0 : Int32)) hx hb dX7_pair_1 (by decide) ?_
  refine x_puti (T := TX7) (N := 33) hx hb hT hown hK B mI_thrown inlX7 tyX7_ok nmX7 rfl (by decide) q777 rfl rfl rfl rfl rfl dX7_pair_2 hm (fun σ H locs B hm => ?_)
  refine lv_aload_n hx hb dX7_pair_5 rfl (lv_at hl 0 rfl) ?_
  refine x_callVr (rest := []) hx hb hml hT hown hK hA B hl.1 (c_X7_wrongPairing l D cI cZ a) mi_X7_wrongPairing mv_X7_wrongPairing mO_M rfl q836 ⟨rfl, rfl⟩ ⟨Nat.le_of_ble_eq_true rfl, Nat.le_of_ble_eq_true rfl⟩ rfl rfl (Nat.le_of_ble_eq_true rfl) dX7_pair_6 hm (fun x7 H locs B hm => ?_)
  refine lv_if_ge (tgt := 17) hx hb dX7_pair_9 (by decide) (fun q => ?_) (fun q => ?_)
  · have hm := ift hm q
    refine lv_aload_n hx hb dX7_pair_17 rfl (lv_at hl 0 rfl) ?_
    refine x_getib (T := TX7) (N := 33) hx hb hT hown hK B mI_rounds inlX7 rfl (by decide) q768 rfl dX7_pair_18 hm (fun x8 hm => ?_)
    refine lv_bipush (v := (20 : Int32)) hx hb dX7_pair_21 (by decide) ?_
    refine lv_icmp_ne (tgt := 29) hx hb dX7_pair_23 (by decide) (fun q => ?_) (fun q => ?_)
    · have hm := iff hm q
      refine lv_aload_n hx hb dX7_pair_29 rfl (lv_at hl 0 rfl) ?_
      refine x_callVv (rest := []) hx hb hml hT hown hK hA B hl.1 (c_X7_layBests l D cI cZ a) mi_X7_layBests mv_X7_layBests mO_M rfl q842 ⟨rfl, rfl⟩ ⟨Nat.le_of_ble_eq_true rfl, Nat.le_of_ble_eq_true rfl⟩ rfl rfl (Nat.le_of_ble_eq_true rfl) dX7_pair_30 hm (fun σ H locs B hm => ?_)
      refine lv_iconst (v := (1 : Int32)) hx hb dX7_pair_33 (by decide) ?_
      refine lv_aload_n hx hb dX7_pair_34 rfl (lv_at hl 0 rfl) ?_
      refine x_getib (T := TX7) (N := 33) hx hb hT hown hK B mI_paired inlX7 rfl (by decide) q780 rfl dX7_pair_35 hm (fun x9 hm => ?_)
      refine lv_ishl hx hb dX7_pair_38 ?_
      refine lv_iconst (v := (1 : Int32)) hx hb dX7_pair_39 (by decide) ?_
      refine lv_isub hx hb dX7_pair_40 ?_
      refine lv_istore_n (lv' := [(1, .int (((1 : Int32) <<< (x9 &&& 31)) - (1 : Int32))), (0, .ref (a 0))]) hx hb dX7_pair_41 rfl hl (by decide) rfl (fun ls hl => ?_)
      refine lv_aload_n hx hb dX7_pair_42 rfl (lv_at hl 1 rfl) ?_
      refine x_getv (T := TX7) (N := 33) hx hb hT hown hK B mV_bests inlX7 rfl (by decide) q784 rfl dX7_pair_43 ?_
      refine lv_iload_n hx hb dX7_pair_46 rfl (lv_at hl 0 rfl) ?_
      refine x_iald (t0 := 0) hx hb hK B mA_bests rfl dX7_pair_47 hm (fun x10 hm => ?_)
      refine lv_ldc (v := (1000000 : Int32)) hx hb hown (hT _ q875) dX7_pair_48 ?_
      refine lv_icmp_lt (tgt := 56) hx hb dX7_pair_50 (by decide) (fun q => ?_) (fun q => ?_)
      · have hm := ift hm q
        refine lv_aload_n hx hb dX7_pair_56 rfl (lv_at hl 1 rfl) ?_
        refine x_getib (T := TX7) (N := 33) hx hb hT hown hK B mI_rounds inlX7 rfl (by decide) q768 rfl dX7_pair_57 hm (fun x11 hm => ?_)
        refine lv_istore_n (lv' := [(2, .int x11), (1, .int (((1 : Int32) <<< (x9 &&& 31)) - (1 : Int32))), (0, .ref (a 0))]) hx hb dX7_pair_60 rfl hl (by decide) rfl (fun ls hl => ?_)
        refine lv_aload_n hx hb dX7_pair_61 rfl (lv_at hl 2 rfl) ?_
        refine x_getv (T := TX7) (N := 33) hx hb hT hown hK B mV_boardMany inlX7 rfl (by decide) q770 rfl dX7_pair_62 ?_
        refine lv_iload_n hx hb dX7_pair_65 rfl (lv_at hl 0 rfl) ?_
        refine lv_iconst (v := (0 : Int32)) hx hb dX7_pair_66 (by decide) ?_
        refine x_iast (t0 := 0) hx hb hK B mA_boardMany rfl dX7_pair_67 hm (fun σ H locs B hm => ?_)
        refine lv_aload_n hx hb dX7_pair_68 rfl (lv_at hl 2 rfl) ?_
        refine x_getv (T := TX7) (N := 33) hx hb hT hown hK B mV_byes inlX7 rfl (by decide) q771 rfl dX7_pair_69 ?_
        refine lv_iload_n hx hb dX7_pair_72 rfl (lv_at hl 0 rfl) ?_
        refine lv_aload_n hx hb dX7_pair_73 rfl (lv_at hl 2 rfl) ?_
        refine x_getib (T := TX7) (N := 33) hx hb hT hown hK B mI_byeNow inlX7 rfl (by decide) q782 rfl dX7_pair_74 hm (fun x12 hm => ?_)
        refine x_iast (t0 := 0) hx hb hK B mA_byes rfl dX7_pair_77 hm (fun σ H locs B hm => ?_)
        exact L78 x11 5000 σ (((1 : Int32) <<< (x9 &&& 31)) - (1 : Int32)) hm H locs ls B (lv_sub hl [2, 1, 0] rfl)
      · have hm := iff hm q
        refine lv_bipush (v := (-9 : Int32)) hx hb dX7_pair_53 (by decide) ?_
        exact x_iret hx hb hr hlk hK B dX7_pair_55 hm
    · have hm := ift hm q
      refine lv_bipush (v := (-4 : Int32)) hx hb dX7_pair_26 (by decide) ?_
      exact x_iret hx hb hr hlk hK B dX7_pair_28 hm
  · have hm := iff hm q
    refine lv_aload_n hx hb dX7_pair_12 rfl (lv_at hl 0 rfl) ?_
    refine x_callVr (rest := []) hx hb hml hT hown hK hA B hl.1 (c_X7_wrongPairing l D cI cZ a) mi_X7_wrongPairing mv_X7_wrongPairing mO_M rfl q836 ⟨rfl, rfl⟩ ⟨Nat.le_of_ble_eq_true rfl, Nat.le_of_ble_eq_true rfl⟩ rfl rfl (Nat.le_of_ble_eq_true rfl) dX7_pair_13 hm (fun x13 H locs B hm => ?_)
    exact x_iret hx hb hr hlk hK B dX7_pair_16 hm
