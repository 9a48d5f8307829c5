def f_X7_in (w0 : Int64) (w2 : Int64) (w4 : Int64) : Option Int32 :=
  if (lg_cmp w0 w2) < 0 then
    some (0 : Int32)
  else
    if 0 < (lg_cmp w0 w4) then
      some (0 : Int32)
    else
      some (1 : Int32)
set_option maxHeartbeats 4000000 in
set_option maxRecDepth 100000 in
theorem c_X7_in (l : Launch) (D : va_G) (cI cZ : ClassId) (ww : Mm → va_W) (w0 : Int64) (w2 : Int64) (w4 : Int64) : CTr l D [(cI, FieldType.int), (cZ, FieldType.boolean)] ww yX7_in (.code yX7_in cX7_in 6 (some FieldType.boolean) :: wsL_law) ({ frames := 0, cells := 0, slots := 0, locals := 0 } : Room) [.long w0, .long w2, .long w4] (fun σ => f_X7_in w0 w2 w4) := by
  refine CTr.of (by decide +kernel) (Nat.le_of_ble_eq_true rfl) ?_
  intro σ r hm p e s m below meth c A ls H locs hx hb hr hlk hml hT hown hK hA B hl
  have hown : s.vm.findClass RX7 = some m.cls := hown
  have hl : lv_has ls 6 [(0, .long w0), (2, .long w2), (4, .long w4)] := hl
  have hm : f_X7_in w0 w2 w4 = some r := hm
  unfold f_X7_in at hm
  refine lv_lload_n hx hb dX7_in_0 rfl (lv_at hl 0 rfl) ?_
  refine lv_lload_n hx hb dX7_in_1 rfl (lv_at hl 1 rfl) ?_
  refine W.lcmp hx hb dX7_in_2 ?_
  refine lv_if_lt (tgt := 17) hx hb dX7_in_3 (by decide) (fun q => ?_) (fun q => ?_)
  · have hm := ift hm q
    refine lv_iconst (v := (0 : Int32)) hx hb dX7_in_17 (by decide) ?_
    exact x_zretr hx hb hr hlk hK B rfl dX7_in_18 hm
  · have hm := iff hm q
    refine lv_lload_n hx hb dX7_in_6 rfl (lv_at hl 0 rfl) ?_
    refine lv_lload hx hb dX7_in_7 (lv_at hl 2 rfl) ?_
    refine W.lcmp hx hb dX7_in_9 ?_
    refine lv_if_gt (tgt := 17) hx hb dX7_in_10 (by decide) (fun q => ?_) (fun q => ?_)
    · have hm := ift hm q
      refine lv_iconst (v := (0 : Int32)) hx hb dX7_in_17 (by decide) ?_
      exact x_zretr hx hb hr hlk hK B rfl dX7_in_18 hm
    · have hm := iff hm q
      refine lv_iconst (v := (1 : Int32)) hx hb dX7_in_13 (by decide) ?_
      refine lv_goto (tgt := 18) hx hb dX7_in_14 (by decide) ?_
      exact x_zretr hx hb hr hlk hK B rfl dX7_in_18 hm
def f_X7_isPlayer (σ : Mm) (w1 : Int32) : Option Int32 :=
  (f_X7_in (w1.toInt64) (0 : Int64) (((σ 0 0) - (1 : Int32)).toInt64)).bind fun x1 =>
  zb x1
set_option maxHeartbeats 4000000 in
set_option maxRecDepth 100000 in
theorem c_X7_isPlayer (l : Launch) (D : va_G) (cI cZ : ClassId) (a : Nat → Nat) (w1 : Int32) : CTr l D [(cI, FieldType.int), (cZ, FieldType.boolean)] (mW cI cZ a) yX7_isPlayer (.code yX7_isPlayer cX7_isPlayer 2 (some FieldType.boolean) :: wsL_law) ({ frames := 1, cells := 0, slots := 0, locals := 25 } : Room) [.ref (a 0), .int w1] (fun σ => f_X7_isPlayer σ w1) := by
  refine CTr.of (by decide +kernel) (Nat.le_of_ble_eq_true rfl) ?_
  intro σ r hm p e s m below meth c A ls H locs hx hb hr hlk hml hT hown hK hA B hl
  have hown : s.vm.findClass RX7 = some m.cls := hown
  have hl : lv_has ls 2 [(0, .ref (a 0)), (1, .int w1)] := hl
  have hm : f_X7_isPlayer σ w1 = some r := hm
  unfold f_X7_isPlayer at hm
  refine lv_iload_n hx hb dX7_isPlayer_0 rfl (lv_at hl 1 rfl) ?_
  refine lv_i2l (v := w1.toInt64) hx hb dX7_isPlayer_1 rfl ?_
  refine lv_lconst (v := 0) hx hb dX7_isPlayer_2 (by decide) ?_
  refine lv_aload_n hx hb dX7_isPlayer_3 rfl (lv_at hl 0 rfl) ?_
  refine x_geti (T := TX7) (N := 33) hx hb hT hown hK B mI_players inlX7 rfl (by decide) q765 rfl dX7_isPlayer_4 ?_
  refine lv_iconst (v := (1 : Int32)) hx hb dX7_isPlayer_7 (by decide) ?_
  refine lv_isub hx hb dX7_isPlayer_8 ?_
  refine lv_i2l (v := ((σ 0 0) - (1 : Int32)).toInt64) hx hb dX7_isPlayer_9 rfl ?_
  refine x_callSr (rest := []) hx hb hml hT hown hK hA B hl.1 (c_X7_in l D cI cZ (mW cI cZ a) (w1.toInt64) (0 : Int64) (((σ 0 0) - (1 : Int32)).toInt64)) mi_X7_in q881 q880 ⟨rfl, rfl⟩ ⟨Nat.le_of_ble_eq_true rfl, Nat.le_of_ble_eq_true rfl⟩ rfl rfl (Nat.le_of_ble_eq_true rfl) dX7_isPlayer_10 hm (fun x1 H locs B hm => ?_)
  exact x_zbretr hx hb hr hlk hK B dX7_isPlayer_13 hm
def f_X7_areTwo (σ : Mm) (w1 : Int32) (w2 : Int32) : Option Int32 :=
  (f_X7_isPlayer σ w1).bind fun x1 =>
  if x1 = 0 then
    some (0 : Int32)
  else
    (f_X7_isPlayer σ w2).bind fun x2 =>
    if x2 = 0 then
      some (0 : Int32)
    else
      if w1 = w2 then
        some (0 : Int32)
      else
        some (1 : Int32)
set_option maxHeartbeats 4000000 in
set_option maxRecDepth 100000 in
theorem c_X7_areTwo (l : Launch) (D : va_G) (cI cZ : ClassId) (a : Nat → Nat) (w1 : Int32) (w2 : Int32) : CTr l D [(cI, FieldType.int), (cZ, FieldType.boolean)] (mW cI cZ a) yX7_areTwo (.code yX7_areTwo cX7_areTwo 3 (some FieldType.boolean) :: wsL_law) ({ frames := 2, cells := 0, slots := 0, locals := 46 } : Room) [.ref (a 0), .int w1, .int w2] (fun σ => f_X7_areTwo σ w1 w2) := by
  refine CTr.of (by decide +kernel) (Nat.le_of_ble_eq_true rfl) ?_
  intro σ r hm p e s m below meth c A ls H locs hx hb hr hlk hml hT hown hK hA B hl
  have hown : s.vm.findClass RX7 = some m.cls := hown
  have hl : lv_has ls 3 [(0, .ref (a 0)), (1, .int w1), (2, .int w2)] := hl
  have hm : f_X7_areTwo σ w1 w2 = some r := hm
  unfold f_X7_areTwo at hm
  refine lv_aload_n hx hb dX7_areTwo_0 rfl (lv_at hl 0 rfl) ?_
  refine lv_iload_n hx hb dX7_areTwo_1 rfl (lv_at hl 1 rfl) ?_
  refine x_callVr (rest := []) hx hb hml hT hown hK hA B hl.1 (c_X7_isPlayer l D cI cZ a w1) mi_X7_isPlayer mv_X7_isPlayer mO_M rfl q963 ⟨rfl, rfl⟩ ⟨Nat.le_of_ble_eq_true rfl, Nat.le_of_ble_eq_true rfl⟩ rfl rfl (Nat.le_of_ble_eq_true rfl) dX7_areTwo_2 hm (fun x1 H locs B hm => ?_)
  refine lv_if_eq (tgt := 25) hx hb dX7_areTwo_5 (by decide) (fun q => ?_) (fun q => ?_)
  · have hm := ift hm q
    refine lv_iconst (v := (0 : Int32)) hx hb dX7_areTwo_25 (by decide) ?_
    exact x_zretr hx hb hr hlk hK B rfl dX7_areTwo_26 hm
  · have hm := iff hm q
    refine lv_aload_n hx hb dX7_areTwo_8 rfl (lv_at hl 0 rfl) ?_
    refine lv_iload_n hx hb dX7_areTwo_9 rfl (lv_at hl 2 rfl) ?_
    refine x_callVr (rest := []) hx hb hml hT hown hK hA B hl.1 (c_X7_isPlayer l D cI cZ a w2) mi_X7_isPlayer mv_X7_isPlayer mO_M rfl q963 ⟨rfl, rfl⟩ ⟨Nat.le_of_ble_eq_true rfl, Nat.le_of_ble_eq_true rfl⟩ rfl rfl (Nat.le_of_ble_eq_true rfl) dX7_areTwo_10 hm (fun x2 H locs B hm => ?_)
    refine lv_if_eq (tgt := 25) hx hb dX7_areTwo_13 (by decide) (fun q => ?_) (fun q => ?_)
    · have hm := ift hm q
      refine lv_iconst (v := (0 : Int32)) hx hb dX7_areTwo_25 (by decide) ?_
      exact x_zretr hx hb hr hlk hK B rfl dX7_areTwo_26 hm
    · have hm := iff hm q
      refine lv_iload_n hx hb dX7_areTwo_16 rfl (lv_at hl 1 rfl) ?_
      refine lv_iload_n hx hb dX7_areTwo_17 rfl (lv_at hl 2 rfl) ?_
      refine lv_icmp_eq (tgt := 25) hx hb dX7_areTwo_18 (by decide) (fun q => ?_) (fun q => ?_)
      · have hm := ift hm q
        refine lv_iconst (v := (0 : Int32)) hx hb dX7_areTwo_25 (by decide) ?_
        exact x_zretr hx hb hr hlk hK B rfl dX7_areTwo_26 hm
      · have hm := iff hm q
        refine lv_iconst (v := (1 : Int32)) hx hb dX7_areTwo_21 (by decide) ?_
        refine lv_goto (tgt := 26) hx hb dX7_areTwo_22 (by decide) ?_
        exact x_zretr hx hb hr hlk hK B rfl dX7_areTwo_26 hm
def f_X7_manyIn_s4 (σ : Mm) (r4 : Int32 → Int32 → Option Int32) (v1 v2 : Int32) : Option Int32 :=
  if (σ 0 0) ≤ v2 then
    some v1
  else
    (ald 12 (σ 2) v2).bind fun x1 =>
    r4 (v1 + x1) (v2 + (1 : Int32))
def f_X7_manyIn (σ : Mm) : Option Int32 :=
  wh2 (f_X7_manyIn_s4 σ) 5000 (0 : Int32) (0 : Int32)
set_option maxHeartbeats 4000000 in
set_option maxRecDepth 100000 in
theorem c_X7_manyIn (l : Launch) (D : va_G) (cI cZ : ClassId) (a : Nat → Nat) : CTr l D [(cI, FieldType.int), (cZ, FieldType.boolean)] (mW cI cZ a) yX7_manyIn (.code yX7_manyIn cX7_manyIn 3 (some FieldType.int) :: wsL_law) ({ frames := 0, cells := 0, slots := 0, locals := 0 } : Room) [.ref (a 0)] (fun σ => f_X7_manyIn σ) := by
  refine CTr.of (by decide +kernel) (Nat.le_of_ble_eq_true rfl) ?_
  intro σ r hm p e s m below meth c A ls H locs hx hb hr hlk hml hT hown hK hA B hl
  have hown : s.vm.findClass RX7 = some m.cls := hown
  have hl : lv_has ls 3 [(0, .ref (a 0))] := hl
  have hm : f_X7_manyIn σ = some r := hm
  unfold f_X7_manyIn at hm
  have L4 : ∀ (nn : Nat) (v1 : Int32) (v2 : Int32), wh2 (f_X7_manyIn_s4 σ) nn v1 v2 = some r → ∀ (H : Heap) (locs : List Loc) (ls : Array Slot), BD D A s.heap ((mW cI cZ a) σ) H locs → lv_has ls 3 [(0, .ref (a 0)), (1, .int v1), (2, .int v2)] → W p l e ({ frames := 0, cells := 0, slots := 0, locals := 0 } : Room) s m ([.ref (a 0)] : List Value).toArray below meth c H locs 0 0 (MQ below (QI D [(cI, FieldType.int), (cZ, FieldType.boolean)] (mW cI cZ a) A (r, σ)) ([.ref (a 0)] : List Value).toArray s 0 0 A) (F0 m 4 ls []) := by
    refine loop2 (fun r4 ih4 v1 v2 hm H locs ls B hl => ?_)
    unfold f_X7_manyIn_s4 at hm
    refine lv_iload_n hx hb dX7_manyIn_4 rfl (lv_at hl 2 rfl) ?_
    refine lv_aload_n hx hb dX7_manyIn_5 rfl (lv_at hl 0 rfl) ?_
    refine x_geti (T := TX7) (N := 33) hx hb hT hown hK B mI_players inlX7 rfl (by decide) q765 rfl dX7_manyIn_6 ?_
    refine lv_icmp_ge (tgt := 27) hx hb dX7_manyIn_9 (by decide) (fun q => ?_) (fun q => ?_)
    · have hm := ift hm q
      refine lv_iload_n hx hb dX7_manyIn_27 rfl (lv_at hl 1 rfl) ?_
      exact x_iretr hx hb hr hlk hK B dX7_manyIn_28 hm
    · have hm := iff hm q
      refine lv_iload_n hx hb dX7_manyIn_12 rfl (lv_at hl 1 rfl) ?_
      refine lv_aload_n hx hb dX7_manyIn_13 rfl (lv_at hl 0 rfl) ?_
      refine x_getv (T := TX7) (N := 33) hx hb hT hown hK B mV_isIn inlX7 rfl (by decide) q767 rfl dX7_manyIn_14 ?_
      refine lv_iload_n hx hb dX7_manyIn_17 rfl (lv_at hl 2 rfl) ?_
      refine x_iald (t0 := 0) hx hb hK B mA_isIn rfl dX7_manyIn_18 hm (fun x1 hm => ?_)
      refine lv_iadd hx hb dX7_manyIn_19 ?_
      refine lv_istore_n (lv' := [(1, .int (v1 + x1)), (0, .ref (a 0)), (2, .int v2)]) hx hb dX7_manyIn_20 rfl hl (by decide) rfl (fun ls hl => ?_)
      refine lv_iinc (v := (v2 + (1 : Int32))) (lv' := [(2, .int (v2 + (1 : Int32))), (1, .int (v1 + x1)), (0, .ref (a 0))]) hx hb dX7_manyIn_21 hl (k := 2) rfl rfl (by decide) rfl (fun ls hl => ?_)
      refine lv_goto (tgt := 4) hx hb dX7_manyIn_24 (by decide) ?_
      exact ih4 (v1 + x1) (v2 + (1 : Int32)) hm H locs ls B (lv_sub hl [2, 1, 0] rfl)
  refine lv_iconst (v := (0 : Int32)) hx hb dX7_manyIn_0 (by decide) ?_
  refine lv_istore_n (lv' := [(1, .int (0 : Int32)), (0, .ref (a 0))]) hx hb dX7_manyIn_1 rfl hl (by decide) rfl (fun ls hl => ?_)
  refine lv_iconst (v := (0 : Int32)) hx hb dX7_manyIn_2 (by decide) ?_
  refine lv_istore_n (lv' := [(2, .int (0 : Int32)), (1, .int (0 : Int32)), (0, .ref (a 0))]) hx hb dX7_manyIn_3 rfl hl (by decide) rfl (fun ls hl => ?_)
  exact L4 5000 (0 : Int32) (0 : Int32) hm H locs ls B (lv_sub hl [2, 1, 0] rfl)
def f_X7_done (σ : Mm) : Option Int32 :=
  some ((σ 3 0) - (σ 4 0))
set_option maxHeartbeats 4000000 in
set_option maxRecDepth 100000 in
theorem c_X7_done (l : Launch) (D : va_G) (cI cZ : ClassId) (a : Nat → Nat) : CTr l D [(cI, FieldType.int), (cZ, FieldType.boolean)] (mW cI cZ a) yX7_done (.code yX7_done cX7_done 1 (some FieldType.int) :: wsL_law) ({ frames := 0, cells := 0, slots := 0, locals := 0 } : Room) [.ref (a 0)] (fun σ => f_X7_done σ) := by
  refine CTr.of (by decide +kernel) (Nat.le_of_ble_eq_true rfl) ?_
  intro σ r hm p e s m below meth c A ls H locs hx hb hr hlk hml hT hown hK hA B hl
  have hown : s.vm.findClass RX7 = some m.cls := hown
  have hl : lv_has ls 1 [(0, .ref (a 0))] := hl
  have hm : f_X7_done σ = some r := hm
  unfold f_X7_done at hm
  refine lv_aload_n hx hb dX7_done_0 rfl (lv_at hl 0 rfl) ?_
  refine x_geti (T := TX7) (N := 33) hx hb hT hown hK B mI_rounds inlX7 rfl (by decide) q768 rfl dX7_done_1 ?_
  refine lv_aload_n hx hb dX7_done_4 rfl (lv_at hl 0 rfl) ?_
  refine x_geti (T := TX7) (N := 33) hx hb hT hown hK B mI_isOpen inlX7 rfl (by decide) q769 rfl dX7_done_5 ?_
  refine lv_isub hx hb dX7_done_8 ?_
  exact x_iretr hx hb hr hlk hK B dX7_done_9 hm
def f_X7_boardOf_j48 (r5 : Int32 → Int32 → Option Int32) (σ : Mm) (v1 v2 v4 : Int32) : Option Int32 :=
  r5 (((6 : Int32) * v2) + v4) (v4 + (1 : Int32))
def f_X7_boardOf_s5 (σ : Mm) (v1 : Int32) (v2 : Int32) (r5 : Int32 → Int32 → Option Int32) (v3 v4 : Int32) : Option Int32 :=
  (ald 20 (σ 5) v2).bind fun x1 =>
  if x1 ≤ v4 then
    some v3
  else
    (ald 120 (σ 7) (((6 : Int32) * v2) + v4)).bind fun x2 =>
    if x2 = v1 then
      f_X7_boardOf_j48 r5 σ v1 v2 v4
    else
      (ald 120 (σ 8) (((6 : Int32) * v2) + v4)).bind fun x3 =>
      if x3 = v1 then
        f_X7_boardOf_j48 r5 σ v1 v2 v4
      else
        r5 v3 (v4 + (1 : Int32))
def f_X7_boardOf (σ : Mm) (w1 : Int32) (w2 : Int32) : Option Int32 :=
  wh2 (f_X7_boardOf_s5 σ w1 w2) 5000 (-1 : Int32) (0 : Int32)
set_option maxHeartbeats 4000000 in
set_option maxRecDepth 100000 in
theorem c_X7_boardOf (l : Launch) (D : va_G) (cI cZ : ClassId) (a : Nat → Nat) (w1 : Int32) (w2 : Int32) : CTr l D [(cI, FieldType.int), (cZ, FieldType.boolean)] (mW cI cZ a) yX7_boardOf (.code yX7_boardOf cX7_boardOf 5 (some FieldType.int) :: wsL_law) ({ frames := 0, cells := 0, slots := 0, locals := 0 } : Room) [.ref (a 0), .int w1, .int w2] (fun σ => f_X7_boardOf σ w1 w2) := by
  refine CTr.of (by decide +kernel) (Nat.le_of_ble_eq_true rfl) ?_
  intro σ r hm p e s m below meth c A ls H locs hx hb hr hlk hml hT hown hK hA B hl
  have hown : s.vm.findClass RX7 = some m.cls := hown
  have hl : lv_has ls 5 [(0, .ref (a 0)), (1, .int w1), (2, .int w2)] := hl
  have hm : f_X7_boardOf σ w1 w2 = some r := hm
  unfold f_X7_boardOf at hm
  have L5 : ∀ (v1 : Int32) (v2 : Int32) (nn : Nat) (v3 : Int32) (v4 : Int32), wh2 (f_X7_boardOf_s5 σ v1 v2) nn v3 v4 = some r → ∀ (H : Heap) (locs : List Loc) (ls : Array Slot), BD D A s.heap ((mW cI cZ a) σ) H locs → lv_has ls 5 [(0, .ref (a 0)), (1, .int v1), (2, .int v2), (3, .int v3), (4, .int v4)] → W p l e ({ frames := 0, cells := 0, slots := 0, locals := 0 } : Room) s m ([.ref (a 0), .int w1, .int w2] : List Value).toArray below meth c H locs 0 0 (MQ below (QI D [(cI, FieldType.int), (cZ, FieldType.boolean)] (mW cI cZ a) A (r, σ)) ([.ref (a 0), .int w1, .int w2] : List Value).toArray s 0 0 A) (F0 m 5 ls []) := by
    intro v1 v2
    refine loop2 (fun r5 ih5 v3 v4 hm H locs ls B hl => ?_)
    unfold f_X7_boardOf_s5 at hm
    have j48 : ∀ (v4 : Int32) (H : Heap) (locs : List Loc) (ls : Array Slot), BD D A s.heap ((mW cI cZ a) σ) H locs → lv_has ls 5 [(0, .ref (a 0)), (1, .int v1), (2, .int v2), (4, .int v4)] → f_X7_boardOf_j48 r5 σ v1 v2 v4 = some r → W p l e ({ frames := 0, cells := 0, slots := 0, locals := 0 } : Room) s m ([.ref (a 0), .int w1, .int w2] : List Value).toArray below meth c H locs 0 0 (MQ below (QI D [(cI, FieldType.int), (cZ, FieldType.boolean)] (mW cI cZ a) A (r, σ)) ([.ref (a 0), .int w1, .int w2] : List Value).toArray s 0 0 A) (F0 m 48 ls []) := by
      intro v4 H locs ls B hl hm
      unfold f_X7_boardOf_j48 at hm
      refine lv_bipush (v := (6 : Int32)) hx hb dX7_boardOf_48 (by decide) ?_
      refine lv_iload_n hx hb dX7_boardOf_50 rfl (lv_at hl 2 rfl) ?_
      refine lv_imul hx hb dX7_boardOf_51 ?_
      refine lv_iload hx hb dX7_boardOf_52 (lv_at hl 3 rfl) ?_
      refine lv_iadd hx hb dX7_boardOf_54 ?_
      refine lv_goto (tgt := 59) hx hb dX7_boardOf_55 (by decide) ?_
      refine lv_istore_n (lv' := [(3, .int (((6 : Int32) * v2) + v4)), (0, .ref (a 0)), (1, .int v1), (2, .int v2), (4, .int v4)]) hx hb dX7_boardOf_59 rfl hl (by decide) rfl (fun ls hl => ?_)
      refine lv_iinc (v := (v4 + (1 : Int32))) (lv' := [(4, .int (v4 + (1 : Int32))), (3, .int (((6 : Int32) * v2) + v4)), (0, .ref (a 0)), (1, .int v1), (2, .int v2)]) hx hb dX7_boardOf_60 hl (k := 4) rfl rfl (by decide) rfl (fun ls hl => ?_)
      refine lv_goto (tgt := 5) hx hb dX7_boardOf_63 (by decide) ?_
      exact ih5 (((6 : Int32) * v2) + v4) (v4 + (1 : Int32)) hm H locs ls B (lv_sub hl [2, 3, 4, 1, 0] rfl)
    refine lv_iload hx hb dX7_boardOf_5 (lv_at hl 4 rfl) ?_
    refine lv_aload_n hx hb dX7_boardOf_7 rfl (lv_at hl 0 rfl) ?_
    refine x_getv (T := TX7) (N := 33) hx hb hT hown hK B mV_boardMany inlX7 rfl (by decide) q770 rfl dX7_boardOf_8 ?_
    refine lv_iload_n hx hb dX7_boardOf_11 rfl (lv_at hl 2 rfl) ?_
    refine x_iald (t0 := 0) hx hb hK B mA_boardMany rfl dX7_boardOf_12 hm (fun x1 hm => ?_)
    refine lv_icmp_ge (tgt := 66) hx hb dX7_boardOf_13 (by decide) (fun q => ?_) (fun q => ?_)
    · have hm := ift hm q
      refine lv_iload_n hx hb dX7_boardOf_66 rfl (lv_at hl 3 rfl) ?_
      exact x_iretr hx hb hr hlk hK B dX7_boardOf_67 hm
    · have hm := iff hm q
      refine lv_aload_n hx hb dX7_boardOf_16 rfl (lv_at hl 0 rfl) ?_
      refine x_getv (T := TX7) (N := 33) hx hb hT hown hK B mV_whites inlX7 rfl (by decide) q772 rfl dX7_boardOf_17 ?_
      refine lv_bipush (v := (6 : Int32)) hx hb dX7_boardOf_20 (by decide) ?_
      refine lv_iload_n hx hb dX7_boardOf_22 rfl (lv_at hl 2 rfl) ?_
      refine lv_imul hx hb dX7_boardOf_23 ?_
      refine lv_iload hx hb dX7_boardOf_24 (lv_at hl 4 rfl) ?_
      refine lv_iadd hx hb dX7_boardOf_26 ?_
      refine x_iald (t0 := 0) hx hb hK B mA_whites rfl dX7_boardOf_27 hm (fun x2 hm => ?_)
      refine lv_iload_n hx hb dX7_boardOf_28 rfl (lv_at hl 1 rfl) ?_
      refine lv_icmp_eq (tgt := 48) hx hb dX7_boardOf_29 (by decide) (fun q => ?_) (fun q => ?_)
      · have hm := ift hm q
        exact j48 v4 H locs ls B (lv_sub hl [0, 1, 2, 4] rfl) hm
      · have hm := iff hm q
        refine lv_aload_n hx hb dX7_boardOf_32 rfl (lv_at hl 0 rfl) ?_
        refine x_getv (T := TX7) (N := 33) hx hb hT hown hK B mV_blacks inlX7 rfl (by decide) q773 rfl dX7_boardOf_33 ?_
        refine lv_bipush (v := (6 : Int32)) hx hb dX7_boardOf_36 (by decide) ?_
        refine lv_iload_n hx hb dX7_boardOf_38 rfl (lv_at hl 2 rfl) ?_
        refine lv_imul hx hb dX7_boardOf_39 ?_
        refine lv_iload hx hb dX7_boardOf_40 (lv_at hl 4 rfl) ?_
        refine lv_iadd hx hb dX7_boardOf_42 ?_
        refine x_iald (t0 := 0) hx hb hK B mA_blacks rfl dX7_boardOf_43 hm (fun x3 hm => ?_)
        refine lv_iload_n hx hb dX7_boardOf_44 rfl (lv_at hl 1 rfl) ?_
        refine lv_icmp_ne (tgt := 58) hx hb dX7_boardOf_45 (by decide) (fun q => ?_) (fun q => ?_)
        · have hm := iff hm q
          refine lv_iload_n hx hb dX7_boardOf_58 rfl (lv_at hl 3 rfl) ?_
          refine lv_istore_n (lv' := [(3, .int v3), (0, .ref (a 0)), (1, .int v1), (2, .int v2), (4, .int v4)]) hx hb dX7_boardOf_59 rfl hl (by decide) rfl (fun ls hl => ?_)
          refine lv_iinc (v := (v4 + (1 : Int32))) (lv' := [(4, .int (v4 + (1 : Int32))), (3, .int v3), (0, .ref (a 0)), (1, .int v1), (2, .int v2)]) hx hb dX7_boardOf_60 hl (k := 4) rfl rfl (by decide) rfl (fun ls hl => ?_)
          refine lv_goto (tgt := 5) hx hb dX7_boardOf_63 (by decide) ?_
          exact ih5 v3 (v4 + (1 : Int32)) hm H locs ls B (lv_sub hl [2, 3, 4, 1, 0] rfl)
        · have hm := ift hm q
          exact j48 v4 H locs ls B (lv_sub hl [0, 1, 2, 4] rfl) hm
  refine lv_iconst (v := (-1 : Int32)) hx hb dX7_boardOf_0 (by decide) ?_
  refine lv_istore_n (lv' := [(3, .int (-1 : Int32)), (0, .ref (a 0)), (1, .int w1), (2, .int w2)]) hx hb dX7_boardOf_1 rfl hl (by decide) rfl (fun ls hl => ?_)
  refine lv_iconst (v := (0 : Int32)) hx hb dX7_boardOf_2 (by decide) ?_
  refine lv_istore (lv' := [(4, .int (0 : Int32)), (3, .int (-1 : Int32)), (0, .ref (a 0)), (1, .int w1), (2, .int w2)]) hx hb dX7_boardOf_3 hl (by decide) rfl (fun ls hl => ?_)
  exact L5 w1 w2 5000 (-1 : Int32) (0 : Int32) hm H locs ls B (lv_sub hl [2, 3, 4, 1, 0] rfl)
def f_X7_otherOn (σ : Mm) (w1 : Int32) (w2 : Int32) : Option Int32 :=
  (ald 120 (σ 7) w1).bind fun x1 =>
  if x1 = w2 then
    (ald 120 (σ 8) w1).bind fun x3 =>
    some x3
  else
    (ald 120 (σ 7) w1).bind fun x2 =>
    some x2
set_option maxHeartbeats 4000000 in
set_option maxRecDepth 100000 in
theorem c_X7_otherOn (l : Launch) (D : va_G) (cI cZ : ClassId) (a : Nat → Nat) (w1 : Int32) (w2 : Int32) : CTr l D [(cI, FieldType.int), (cZ, FieldType.boolean)] (mW cI cZ a) yX7_otherOn (.code yX7_otherOn cX7_otherOn 3 (some FieldType.int) :: wsL_law) ({ frames := 0, cells := 0, slots := 0, locals := 0 } : Room) [.ref (a 0), .int w1, .int w2] (fun σ => f_X7_otherOn σ w1 w2) := by
  refine CTr.of (by decide +kernel) (Nat.le_of_ble_eq_true rfl) ?_
  intro σ r hm p e s m below meth c A ls H locs hx hb hr hlk hml hT hown hK hA B hl
  have hown : s.vm.findClass RX7 = some m.cls := hown
  have hl : lv_has ls 3 [(0, .ref (a 0)), (1, .int w1), (2, .int w2)] := hl
  have hm : f_X7_otherOn σ w1 w2 = some r := hm
  unfold f_X7_otherOn at hm
  refine lv_aload_n hx hb dX7_otherOn_0 rfl (lv_at hl 0 rfl) ?_
  refine x_getv (T := TX7) (N := 33) hx hb hT hown hK B mV_whites inlX7 rfl (by decide) q772 rfl dX7_otherOn_1 ?_
  refine lv_iload_n hx hb dX7_otherOn_4 rfl (lv_at hl 1 rfl) ?_
  refine x_iald (t0 := 0) hx hb hK B mA_whites rfl dX7_otherOn_5 hm (fun x1 hm => ?_)
  refine lv_iload_n hx hb dX7_otherOn_6 rfl (lv_at hl 2 rfl) ?_
  refine lv_icmp_ne (tgt := 19) hx hb dX7_otherOn_7 (by decide) (fun q => ?_) (fun q => ?_)
  · have hm := iff hm q
    refine lv_aload_n hx hb dX7_otherOn_19 rfl (lv_at hl 0 rfl) ?_
    refine x_getv (T := TX7) (N := 33) hx hb hT hown hK B mV_whites inlX7 rfl (by decide) q772 rfl dX7_otherOn_20 ?_
    refine lv_iload_n hx hb dX7_otherOn_23 rfl (lv_at hl 1 rfl) ?_
    refine x_iald (t0 := 0) hx hb hK B mA_whites rfl dX7_otherOn_24 hm (fun x2 hm => ?_)
    exact x_iretr hx hb hr hlk hK B dX7_otherOn_25 hm
  · have hm := ift hm q
    refine lv_aload_n hx hb dX7_otherOn_10 rfl (lv_at hl 0 rfl) ?_
    refine x_getv (T := TX7) (N := 33) hx hb hT hown hK B mV_blacks inlX7 rfl (by decide) q773 rfl dX7_otherOn_11 ?_
    refine lv_iload_n hx hb dX7_otherOn_14 rfl (lv_at hl 1 rfl) ?_
    refine x_iald (t0 := 0) hx hb hK B mA_blacks rfl dX7_otherOn_15 hm (fun x3 hm => ?_)
    refine lv_goto (tgt := 25) hx hb dX7_otherOn_16 (by decide) ?_
    exact x_iretr hx hb hr hlk hK B dX7_otherOn_25 hm
def f_X7_madeOn_j61 (σ : Mm) : Option Int32 :=
  some (2 : Int32)
def f_X7_madeOn_j58 (σ : Mm) (s0 s1 : Int32) : Option Int32 :=
  if s0 = s1 then
    f_X7_madeOn_j61 σ
  else
    some (0 : Int32)
def f_X7_madeOn_j44 (σ : Mm) (v3 v4 s0 s1 : Int32) : Option Int32 :=
  if s0 = s1 then
    f_X7_madeOn_j61 σ
  else
    if v4 = 0 then
      f_X7_madeOn_j58 σ v3 (5 : Int32)
    else
      f_X7_madeOn_j58 σ v3 (4 : Int32)
def f_X7_madeOn_j22 (σ : Mm) (v3 s0 : Int32) : Option Int32 :=
  if v3 = (2 : Int32) then
    some (1 : Int32)
  else
    if s0 = 0 then
      f_X7_madeOn_j44 σ v3 s0 v3 (3 : Int32)
    else
      f_X7_madeOn_j44 σ v3 s0 v3 (1 : Int32)
def f_X7_madeOn (σ : Mm) (w1 : Int32) (w2 : Int32) : Option Int32 :=
  (ald 120 (σ 9) w1).bind fun x1 =>
  (ald 120 (σ 7) w1).bind fun x2 =>
  if x2 = w2 then
    f_X7_madeOn_j22 σ x1 (1 : Int32)
  else
    f_X7_madeOn_j22 σ x1 (0 : Int32)
set_option maxHeartbeats 4000000 in
set_option maxRecDepth 100000 in
theorem c_X7_madeOn (l : Launch) (D : va_G) (cI cZ : ClassId) (a : Nat → Nat) (w1 : Int32) (w2 : Int32) : CTr l D [(cI, FieldType.int), (cZ, FieldType.boolean)] (mW cI cZ a) yX7_madeOn (.code yX7_madeOn cX7_madeOn 5 (some FieldType.int) :: wsL_law) ({ frames := 0, cells := 0, slots := 0, locals := 0 } : Room) [.ref (a 0), .int w1, .int w2] (fun σ => f_X7_madeOn σ w1 w2) := by
  refine CTr.of (by decide +kernel) (Nat.le_of_ble_eq_true rfl) ?_
  intro σ r hm p e s m below meth c A ls H locs hx hb hr hlk hml hT hown hK hA B hl
  have hown : s.vm.findClass RX7 = some m.cls := hown
  have hl : lv_has ls 5 [(0, .ref (a 0)), (1, .int w1), (2, .int w2)] := hl
  have hm : f_X7_madeOn σ w1 w2 = some r := hm
  unfold f_X7_madeOn at hm
  have j61 : ∀  (H : Heap) (locs : List Loc) (ls : Array Slot), BD D A s.heap ((mW cI cZ a) σ) H locs → lv_has ls 5 [] → f_X7_madeOn_j61 σ = some r → W p l e ({ frames := 0, cells := 0, slots := 0, locals := 0 } : Room) s m ([.ref (a 0), .int w1, .int w2] : List Value).toArray below meth c H locs 0 0 (MQ below (QI D [(cI, FieldType.int), (cZ, FieldType.boolean)] (mW cI cZ a) A (r, σ)) ([.ref (a 0), .int w1, .int w2] : List Value).toArray s 0 0 A) (F0 m 61 ls []) := by
    intro  H locs ls B hl hm
    unfold f_X7_madeOn_j61 at hm
    refine lv_iconst (v := (2 : Int32)) hx hb dX7_madeOn_61 (by decide) ?_
    refine lv_goto (tgt := 66) hx hb dX7_madeOn_62 (by decide) ?_
    exact x_iretr hx hb hr hlk hK B dX7_madeOn_66 hm
  have j58 : ∀ (s0 : Int32) (s1 : Int32) (H : Heap) (locs : List Loc) (ls : Array Slot), BD D A s.heap ((mW cI cZ a) σ) H locs → lv_has ls 5 [] → f_X7_madeOn_j58 σ s0 s1 = some r → W p l e ({ frames := 0, cells := 0, slots := 0, locals := 0 } : Room) s m ([.ref (a 0), .int w1, .int w2] : List Value).toArray below meth c H locs 0 0 (MQ below (QI D [(cI, FieldType.int), (cZ, FieldType.boolean)] (mW cI cZ a) A (r, σ)) ([.ref (a 0), .int w1, .int w2] : List Value).toArray s 0 0 A) (F0 m 58 ls [.int s1, .int s0]) := by
    intro s0 s1 H locs ls B hl hm
    unfold f_X7_madeOn_j58 at hm
    refine lv_icmp_ne (tgt := 65) hx hb dX7_madeOn_58 (by decide) (fun q => ?_) (fun q => ?_)
    · have hm := iff hm q
      refine lv_iconst (v := (0 : Int32)) hx hb dX7_madeOn_65 (by decide) ?_
      exact x_iretr hx hb hr hlk hK B dX7_madeOn_66 hm
    · have hm := ift hm q
      exact j61  H locs ls B (lv_sub hl [] rfl) hm
  have j44 : ∀ (v3 : Int32) (v4 : Int32) (s0 : Int32) (s1 : Int32) (H : Heap) (locs : List Loc) (ls : Array Slot), BD D A s.heap ((mW cI cZ a) σ) H locs → lv_has ls 5 [(3, .int v3), (4, .int v4)] → f_X7_madeOn_j44 σ v3 v4 s0 s1 = some r → W p l e ({ frames := 0, cells := 0, slots := 0, locals := 0 } : Room) s m ([.ref (a 0), .int w1, .int w2] : List Value).toArray below meth c H locs 0 0 (MQ below (QI D [(cI, FieldType.int), (cZ, FieldType.boolean)] (mW cI cZ a) A (r, σ)) ([.ref (a 0), .int w1, .int w2] : List Value).toArray s 0 0 A) (F0 m 44 ls [.int s1, .int s0]) := by
    intro v3 v4 s0 s1 H locs ls B hl hm
    unfold f_X7_madeOn_j44 at hm
    refine lv_icmp_eq (tgt := 61) hx hb dX7_madeOn_44 (by decide) (fun q => ?_) (fun q => ?_)
    · have hm := ift hm q
      exact j61  H locs ls B (lv_sub hl [] rfl) hm
    · have hm := iff hm q
      refine lv_iload_n hx hb dX7_madeOn_47 rfl (lv_at hl 0 rfl) ?_
      refine lv_iload hx hb dX7_madeOn_48 (lv_at hl 1 rfl) ?_
      refine lv_if_eq (tgt := 57) hx hb dX7_madeOn_50 (by decide) (fun q => ?_) (fun q => ?_)
      · have hm := ift hm q
        refine lv_iconst (v := (5 : Int32)) hx hb dX7_madeOn_57 (by decide) ?_
        exact j58 v3 (5 : Int32) H locs ls B (lv_sub hl [] rfl) hm
      · have hm := iff hm q
        refine lv_iconst (v := (4 : Int32)) hx hb dX7_madeOn_53 (by decide) ?_
        refine lv_goto (tgt := 58) hx hb dX7_madeOn_54 (by decide) ?_
        exact j58 v3 (4 : Int32) H locs ls B (lv_sub hl [] rfl) hm
  have j22 : ∀ (v3 : Int32) (s0 : Int32) (H : Heap) (locs : List Loc) (ls : Array Slot), BD D A s.heap ((mW cI cZ a) σ) H locs → lv_has ls 5 [(3, .int v3)] → f_X7_madeOn_j22 σ v3 s0 = some r → W p l e ({ frames := 0, cells := 0, slots := 0, locals := 0 } : Room) s m ([.ref (a 0), .int w1, .int w2] : List Value).toArray below meth c H locs 0 0 (MQ below (QI D [(cI, FieldType.int), (cZ, FieldType.boolean)] (mW cI cZ a) A (r, σ)) ([.ref (a 0), .int w1, .int w2] : List Value).toArray s 0 0 A) (F0 m 22 ls [.int s0]) := by
    intro v3 s0 H locs ls B hl hm
    unfold f_X7_madeOn_j22 at hm
    refine lv_istore (lv' := [(4, .int s0), (3, .int v3)]) hx hb dX7_madeOn_22 hl (by decide) rfl (fun ls hl => ?_)
    refine lv_iload_n hx hb dX7_madeOn_24 rfl (lv_at hl 1 rfl) ?_
    refine lv_iconst (v := (2 : Int32)) hx hb dX7_madeOn_25 (by decide) ?_
    refine lv_icmp_ne (tgt := 33) hx hb dX7_madeOn_26 (by decide) (fun q => ?_) (fun q => ?_)
    · have hm := iff hm q
      refine lv_iload_n hx hb dX7_madeOn_33 rfl (lv_at hl 1 rfl) ?_
      refine lv_iload hx hb dX7_madeOn_34 (lv_at hl 0 rfl) ?_
      refine lv_if_eq (tgt := 43) hx hb dX7_madeOn_36 (by decide) (fun q => ?_) (fun q => ?_)
      · have hm := ift hm q
        refine lv_iconst (v := (3 : Int32)) hx hb dX7_madeOn_43 (by decide) ?_
        exact j44 v3 s0 v3 (3 : Int32) H locs ls B (lv_sub hl [1, 0] rfl) hm
      · have hm := iff hm q
        refine lv_iconst (v := (1 : Int32)) hx hb dX7_madeOn_39 (by decide) ?_
        refine lv_goto (tgt := 44) hx hb dX7_madeOn_40 (by decide) ?_
        exact j44 v3 s0 v3 (1 : Int32) H locs ls B (lv_sub hl [1, 0] rfl) hm
    · have hm := ift hm q
      refine lv_iconst (v := (1 : Int32)) hx hb dX7_madeOn_29 (by decide) ?_
      refine lv_goto (tgt := 66) hx hb dX7_madeOn_30 (by decide) ?_
      exact x_iretr hx hb hr hlk hK B dX7_madeOn_66 hm
  refine lv_aload_n hx hb dX7_madeOn_0 rfl (lv_at hl 0 rfl) ?_
  refine x_getv (T := TX7) (N := 33) hx hb hT hown hK B mV_results0 inlX7 rfl (by decide) q774 rfl dX7_madeOn_1 ?_
  refine lv_iload_n hx hb dX7_madeOn_4 rfl (lv_at hl 1 rfl) ?_
  refine x_iald (t0 := 0) hx hb hK B mA_results0 rfl dX7_madeOn_5 hm (fun x1 hm => ?_)
  refine lv_istore_n (lv' := [(3, .int x1), (0, .ref (a 0)), (1, .int w1), (2, .int w2)]) hx hb dX7_madeOn_6 rfl hl (by decide) rfl (fun ls hl => ?_)
  refine lv_aload_n hx hb dX7_madeOn_7 rfl (lv_at hl 1 rfl) ?_
  refine x_getv (T := TX7) (N := 33) hx hb hT hown hK B mV_whites inlX7 rfl (by decide) q772 rfl dX7_madeOn_8 ?_
  refine lv_iload_n hx hb dX7_madeOn_11 rfl (lv_at hl 2 rfl) ?_
  refine x_iald (t0 := 0) hx hb hK B mA_whites rfl dX7_madeOn_12 hm (fun x2 hm => ?_)
  refine lv_iload_n hx hb dX7_madeOn_13 rfl (lv_at hl 3 rfl) ?_
  refine lv_icmp_ne (tgt := 21) hx hb dX7_madeOn_14 (by decide) (fun q => ?_) (fun q => ?_)
  · have hm := iff hm q
    refine lv_iconst (v := (0 : Int32)) hx hb dX7_madeOn_21 (by decide) ?_
    exact j22 x1 (0 : Int32) H locs ls B (lv_sub hl [0] rfl) hm
  · have hm := ift hm q
    refine lv_iconst (v := (1 : Int32)) hx hb dX7_madeOn_17 (by decide) ?_
    refine lv_goto (tgt := 22) hx hb dX7_madeOn_18 (by decide) ?_
    exact j22 x1 (1 : Int32) H locs ls B (lv_sub hl [0] rfl) hm
def f_X7_playedIn (σ : Mm) (w1 : Int32) (w2 : Int32) : Option Int32 :=
  (f_X7_boardOf σ w1 w2).bind fun x1 =>
  if x1 < 0 then
    some (-1 : Int32)
  else
    (f_X7_done σ).bind fun x2 =>
    if x2 ≤ w2 then
      some (-1 : Int32)
    else
      (ald 120 (σ 9) x1).bind fun x3 =>
      (f_X7_in (x3.toInt64) (1 : Int64) (3 : Int64)).bind fun x4 =>
      if x4 = 0 then
        some (-1 : Int32)
      else
        some x1
set_option maxHeartbeats 4000000 in
set_option maxRecDepth 100000 in
theorem c_X7_playedIn (l : Launch) (D : va_G) (cI cZ : ClassId) (a : Nat → Nat) (w1 : Int32) (w2 : Int32) : CTr l D [(cI, FieldType.int), (cZ, FieldType.boolean)] (mW cI cZ a) yX7_playedIn (.code yX7_playedIn cX7_playedIn 4 (some FieldType.int) :: wsL_law) ({ frames := 1, cells := 0, slots := 0, locals := 25 } : Room) [.ref (a 0), .int w1, .int w2] (fun σ => f_X7_playedIn σ w1 w2) := by
  refine CTr.of (by decide +kernel) (Nat.le_of_ble_eq_true rfl) ?_
  intro σ r hm p e s m below meth c A ls H locs hx hb hr hlk hml hT hown hK hA B hl
  have hown : s.vm.findClass RX7 = some m.cls := hown
  have hl : lv_has ls 4 [(0, .ref (a 0)), (1, .int w1), (2, .int w2)] := hl
  have hm : f_X7_playedIn σ w1 w2 = some r := hm
  unfold f_X7_playedIn at hm
  refine lv_aload_n hx hb dX7_playedIn_0 rfl (lv_at hl 0 rfl) ?_
  refine lv_iload_n hx hb dX7_playedIn_1 rfl (lv_at hl 1 rfl) ?_
  refine lv_iload_n hx hb dX7_playedIn_2 rfl (lv_at hl 2 rfl) ?_
  refine x_callVr (rest := []) hx hb hml hT hown hK hA B hl.1 (c_X7_boardOf l D cI cZ a w1 w2) mi_X7_boardOf mv_X7_boardOf mO_M rfl q866 ⟨rfl, rfl⟩ ⟨Nat.le_of_ble_eq_true rfl, Nat.le_of_ble_eq_true rfl⟩ rfl rfl (Nat.le_of_ble_eq_true rfl) dX7_playedIn_3 hm (fun x1 H locs B hm => ?_)
  refine lv_istore_n (lv' := [(3, .int x1), (0, .ref (a 0)), (1, .int w1), (2, .int w2)]) hx hb dX7_playedIn_6 rfl hl (by decide) rfl (fun ls hl => ?_)
  refine lv_iload_n hx hb dX7_playedIn_7 rfl (lv_at hl 0 rfl) ?_
  refine lv_if_lt (tgt := 40) hx hb dX7_playedIn_8 (by decide) (fun q => ?_) (fun q => ?_)
  · have hm := ift hm q
    refine lv_iconst (v := (-1 : Int32)) hx hb dX7_playedIn_40 (by decide) ?_
    exact x_iretr hx hb hr hlk hK B dX7_playedIn_41 hm
  · have hm := iff hm q
    refine lv_iload_n hx hb dX7_playedIn_11 rfl (lv_at hl 3 rfl) ?_
    refine lv_aload_n hx hb dX7_playedIn_12 rfl (lv_at hl 1 rfl) ?_
    refine x_callVr (rest := [.int w2]) hx hb hml hT hown hK hA B hl.1 (c_X7_done l D cI cZ a) mi_X7_done mv_X7_done mO_M rfl q857 ⟨rfl, rfl⟩ ⟨Nat.le_of_ble_eq_true rfl, Nat.le_of_ble_eq_true rfl⟩ rfl rfl (Nat.le_of_ble_eq_true rfl) dX7_playedIn_13 hm (fun x2 H locs B hm => ?_)
    refine lv_icmp_ge (tgt := 40) hx hb dX7_playedIn_16 (by decide) (fun q => ?_) (fun q => ?_)
    · have hm := ift hm q
      refine lv_iconst (v := (-1 : Int32)) hx hb dX7_playedIn_40 (by decide) ?_
      exact x_iretr hx hb hr hlk hK B dX7_playedIn_41 hm
    · have hm := iff hm q
      refine lv_aload_n hx hb dX7_playedIn_19 rfl (lv_at hl 1 rfl) ?_
      refine x_getv (T := TX7) (N := 33) hx hb hT hown hK B mV_results0 inlX7 rfl (by decide) q774 rfl dX7_playedIn_20 ?_
      refine lv_iload_n hx hb dX7_playedIn_23 rfl (lv_at hl 0 rfl) ?_
      refine x_iald (t0 := 0) hx hb hK B mA_results0 rfl dX7_playedIn_24 hm (fun x3 hm => ?_)
      refine lv_i2l (v := x3.toInt64) hx hb dX7_playedIn_25 rfl ?_
      refine lv_lconst (v := 1) hx hb dX7_playedIn_26 (by decide) ?_
      refine lv_ldc2 (v := 3) hx hb hown (hT _ q879) dX7_playedIn_27 ?_
      refine x_callSr (rest := []) hx hb hml hT hown hK hA B hl.1 (c_X7_in l D cI cZ (mW cI cZ a) (x3.toInt64) (1 : Int64) (3 : Int64)) mi_X7_in q881 q880 ⟨rfl, rfl⟩ ⟨Nat.le_of_ble_eq_true rfl, Nat.le_of_ble_eq_true rfl⟩ rfl rfl (Nat.le_of_ble_eq_true rfl) dX7_playedIn_30 hm (fun x4 H locs B hm => ?_)
      refine lv_if_eq (tgt := 40) hx hb dX7_playedIn_33 (by decide) (fun q => ?_) (fun q => ?_)
      · have hm := ift hm q
        refine lv_iconst (v := (-1 : Int32)) hx hb dX7_playedIn_40 (by decide) ?_
        exact x_iretr hx hb hr hlk hK B dX7_playedIn_41 hm
      · have hm := iff hm q
        refine lv_iload_n hx hb dX7_playedIn_36 rfl (lv_at hl 0 rfl) ?_
        refine lv_goto (tgt := 41) hx hb dX7_playedIn_37 (by decide) ?_
        exact x_iretr hx hb hr hlk hK B dX7_playedIn_41 hm
def f_X7_madeIn (σ : Mm) (w1 : Int32) (w2 : Int32) : Option Int32 :=
  (f_X7_boardOf σ w1 w2).bind fun x1 =>
  (ald 20 (σ 6) w2).bind fun x2 =>
  if x2 = w1 then
    some (2 : Int32)
  else
    if x1 < 0 then
      some (0 : Int32)
    else
      (f_X7_madeOn σ x1 w1).bind fun x3 =>
      some x3
set_option maxHeartbeats 4000000 in
set_option maxRecDepth 100000 in
theorem c_X7_madeIn (l : Launch) (D : va_G) (cI cZ : ClassId) (a : Nat → Nat) (w1 : Int32) (w2 : Int32) : CTr l D [(cI, FieldType.int), (cZ, FieldType.boolean)] (mW cI cZ a) yX7_madeIn (.code yX7_madeIn cX7_madeIn 4 (some FieldType.int) :: wsL_law) ({ frames := 1, cells := 0, slots := 0, locals := 24 } : Room) [.ref (a 0), .int w1, .int w2] (fun σ => f_X7_madeIn σ w1 w2) := by
  refine CTr.of (by decide +kernel) (Nat.le_of_ble_eq_true rfl) ?_
  intro σ r hm p e s m below meth c A ls H locs hx hb hr hlk hml hT hown hK hA B hl
  have hown : s.vm.findClass RX7 = some m.cls := hown
  have hl : lv_has ls 4 [(0, .ref (a 0)), (1, .int w1), (2, .int w2)] := hl
  have hm : f_X7_madeIn σ w1 w2 = some r := hm
  unfold f_X7_madeIn at hm
  refine lv_aload_n hx hb dX7_madeIn_0 rfl (lv_at hl 0 rfl) ?_
  refine lv_iload_n hx hb dX7_madeIn_1 rfl (lv_at hl 1 rfl) ?_
  refine lv_iload_n hx hb dX7_madeIn_2 rfl (lv_at hl 2 rfl) ?_
  refine x_callVr (rest := []) hx hb hml hT hown hK hA B hl.1 (c_X7_boardOf l D cI cZ a w1 w2) mi_X7_boardOf mv_X7_boardOf mO_M rfl q866 ⟨rfl, rfl⟩ ⟨Nat.le_of_ble_eq_true rfl, Nat.le_of_ble_eq_true rfl⟩ rfl rfl (Nat.le_of_ble_eq_true rfl) dX7_madeIn_3 hm (fun x1 H locs B hm => ?_)
  refine lv_istore_n (lv' := [(3, .int x1), (0, .ref (a 0)), (1, .int w1), (2, .int w2)]) hx hb dX7_madeIn_6 rfl hl (by decide) rfl (fun ls hl => ?_)
  refine lv_aload_n hx hb dX7_madeIn_7 rfl (lv_at hl 1 rfl) ?_
  refine x_getv (T := TX7) (N := 33) hx hb hT hown hK B mV_byes inlX7 rfl (by decide) q771 rfl dX7_madeIn_8 ?_
  refine lv_iload_n hx hb dX7_madeIn_11 rfl (lv_at hl 3 rfl) ?_
  refine x_iald (t0 := 0) hx hb hK B mA_byes rfl dX7_madeIn_12 hm (fun x2 hm => ?_)
  refine lv_iload_n hx hb dX7_madeIn_13 rfl (lv_at hl 2 rfl) ?_
  refine lv_icmp_ne (tgt := 21) hx hb dX7_madeIn_14 (by decide) (fun q => ?_) (fun q => ?_)
  · have hm := iff hm q
    refine lv_iload_n hx hb dX7_madeIn_21 rfl (lv_at hl 0 rfl) ?_
    refine lv_if_lt (tgt := 34) hx hb dX7_madeIn_22 (by decide) (fun q => ?_) (fun q => ?_)
    · have hm := ift hm q
      refine lv_iconst (v := (0 : Int32)) hx hb dX7_madeIn_34 (by decide) ?_
      exact x_iretr hx hb hr hlk hK B dX7_madeIn_35 hm
    · have hm := iff hm q
      refine lv_aload_n hx hb dX7_madeIn_25 rfl (lv_at hl 1 rfl) ?_
      refine lv_iload_n hx hb dX7_madeIn_26 rfl (lv_at hl 0 rfl) ?_
      refine lv_iload_n hx hb dX7_madeIn_27 rfl (lv_at hl 2 rfl) ?_
      refine x_callVr (rest := []) hx hb hml hT hown hK hA B hl.1 (c_X7_madeOn l D cI cZ a x1 w1) mi_X7_madeOn mv_X7_madeOn mO_M rfl q869 ⟨rfl, rfl⟩ ⟨Nat.le_of_ble_eq_true rfl, Nat.le_of_ble_eq_true rfl⟩ rfl rfl (Nat.le_of_ble_eq_true rfl) dX7_madeIn_28 hm (fun x3 H locs B hm => ?_)
      refine lv_goto (tgt := 35) hx hb dX7_madeIn_31 (by decide) ?_
      exact x_iretr hx hb hr hlk hK B dX7_madeIn_35 hm
  · have hm := ift hm q
    refine lv_iconst (v := (2 : Int32)) hx hb dX7_madeIn_17 (by decide) ?_
    refine lv_goto (tgt := 35) hx hb dX7_madeIn_18 (by decide) ?_
    exact x_iretr hx hb hr hlk hK B dX7_madeIn_35 hm
def f_X7_pointsBehind_s5 (σ : Mm) (v1 : Int32) (v2 : Int32) (r5 : Int32 → Int32 → Option Int32) (v3 v4 : Int32) : Option Int32 :=
  if v2 ≤ v4 then
    some v3
  else
    (f_X7_madeIn σ v1 v4).bind fun x1 =>
    r5 (v3 + x1) (v4 + (1 : Int32))
def f_X7_pointsBehind (σ : Mm) (w1 : Int32) (w2 : Int32) : Option Int32 :=
  wh2 (f_X7_pointsBehind_s5 σ w1 w2) 5000 (0 : Int32) (0 : Int32)
set_option maxHeartbeats 4000000 in
set_option maxRecDepth 100000 in
theorem c_X7_pointsBehind (l : Launch) (D : va_G) (cI cZ : ClassId) (a : Nat → Nat) (w1 : Int32) (w2 : Int32) : CTr l D [(cI, FieldType.int), (cZ, FieldType.boolean)] (mW cI cZ a) yX7_pointsBehind (.code yX7_pointsBehind cX7_pointsBehind 5 (some FieldType.int) :: wsL_law) ({ frames := 2, cells := 0, slots := 0, locals := 47 } : Room) [.ref (a 0), .int w1, .int w2] (fun σ => f_X7_pointsBehind σ w1 w2) := by
  refine CTr.of (by decide +kernel) (Nat.le_of_ble_eq_true rfl) ?_
  intro σ r hm p e s m below meth c A ls H locs hx hb hr hlk hml hT hown hK hA B hl
  have hown : s.vm.findClass RX7 = some m.cls := hown
  have hl : lv_has ls 5 [(0, .ref (a 0)), (1, .int w1), (2, .int w2)] := hl
  have hm : f_X7_pointsBehind σ w1 w2 = some r := hm
  unfold f_X7_pointsBehind at hm
  have L5 : ∀ (v1 : Int32) (v2 : Int32) (nn : Nat) (v3 : Int32) (v4 : Int32), wh2 (f_X7_pointsBehind_s5 σ v1 v2) nn v3 v4 = some r → ∀ (H : Heap) (locs : List Loc) (ls : Array Slot), BD D A s.heap ((mW cI cZ a) σ) H locs → lv_has ls 5 [(0, .ref (a 0)), (1, .int v1), (2, .int v2), (3, .int v3), (4, .int v4)] → W p l e ({ frames := 2, cells := 0, slots := 0, locals := 47 } : Room) s m ([.ref (a 0), .int w1, .int w2] : List Value).toArray below meth c H locs 0 0 (MQ below (QI D [(cI, FieldType.int), (cZ, FieldType.boolean)] (mW cI cZ a) A (r, σ)) ([.ref (a 0), .int w1, .int w2] : List Value).toArray s 0 0 A) (F0 m 5 ls []) := by
    intro v1 v2
    refine loop2 (fun r5 ih5 v3 v4 hm H locs ls B hl => ?_)
    unfold f_X7_pointsBehind_s5 at hm
    refine lv_iload hx hb dX7_pointsBehind_5 (lv_at hl 4 rfl) ?_
    refine lv_iload_n hx hb dX7_pointsBehind_7 rfl (lv_at hl 2 rfl) ?_
    refine lv_icmp_ge (tgt := 27) hx hb dX7_pointsBehind_8 (by decide) (fun q => ?_) (fun q => ?_)
    · have hm := ift hm q
      refine lv_iload_n hx hb dX7_pointsBehind_27 rfl (lv_at hl 3 rfl) ?_
      exact x_iretr hx hb hr hlk hK B dX7_pointsBehind_28 hm
    · have hm := iff hm q
      refine lv_iload_n hx hb dX7_pointsBehind_11 rfl (lv_at hl 3 rfl) ?_
      refine lv_aload_n hx hb dX7_pointsBehind_12 rfl (lv_at hl 0 rfl) ?_
      refine lv_iload_n hx hb dX7_pointsBehind_13 rfl (lv_at hl 1 rfl) ?_
      refine lv_iload hx hb dX7_pointsBehind_14 (lv_at hl 4 rfl) ?_
      refine x_callVr (rest := [.int v3]) hx hb hml hT hown hK hA B hl.1 (c_X7_madeIn l D cI cZ a v1 v4) mi_X7_madeIn mv_X7_madeIn mO_M rfl q863 ⟨rfl, rfl⟩ ⟨Nat.le_of_ble_eq_true rfl, Nat.le_of_ble_eq_true rfl⟩ rfl rfl (Nat.le_of_ble_eq_true rfl) dX7_pointsBehind_16 hm (fun x1 H locs B hm => ?_)
      refine lv_iadd hx hb dX7_pointsBehind_19 ?_
      refine lv_istore_n (lv' := [(3, .int (v3 + x1)), (0, .ref (a 0)), (1, .int v1), (2, .int v2), (4, .int v4)]) hx hb dX7_pointsBehind_20 rfl hl (by decide) rfl (fun ls hl => ?_)
      refine lv_iinc (v := (v4 + (1 : Int32))) (lv' := [(4, .int (v4 + (1 : Int32))), (3, .int (v3 + x1)), (0, .ref (a 0)), (1, .int v1), (2, .int v2)]) hx hb dX7_pointsBehind_21 hl (k := 4) rfl rfl (by decide) rfl (fun ls hl => ?_)
      refine lv_goto (tgt := 5) hx hb dX7_pointsBehind_24 (by decide) ?_
      exact ih5 (v3 + x1) (v4 + (1 : Int32)) hm H locs ls B (lv_sub hl [2, 3, 4, 1, 0] rfl)
  refine lv_iconst (v := (0 : Int32)) hx hb dX7_pointsBehind_0 (by decide) ?_
  refine lv_istore_n (lv' := [(3, .int (0 : Int32)), (0, .ref (a 0)), (1, .int w1), (2, .int w2)]) hx hb dX7_pointsBehind_1 rfl hl (by decide) rfl (fun ls hl => ?_)
  refine lv_iconst (v := (0 : Int32)) hx hb dX7_pointsBehind_2 (by decide) ?_
  refine lv_istore (lv' := [(4, .int (0 : Int32)), (3, .int (0 : Int32)), (0, .ref (a 0)), (1, .int w1), (2, .int w2)]) hx hb dX7_pointsBehind_3 hl (by decide) rfl (fun ls hl => ?_)
  exact L5 w1 w2 5000 (0 : Int32) (0 : Int32) hm H locs ls B (lv_sub hl [2, 3, 4, 1, 0] rfl)
def f_X7_pointsOf (σ : Mm) (w1 : Int32) : Option Int32 :=
  (f_X7_done σ).bind fun x1 =>
  (f_X7_pointsBehind σ w1 x1).bind fun x2 =>
  some x2
set_option maxHeartbeats 4000000 in
set_option maxRecDepth 100000 in
theorem c_X7_pointsOf (l : Launch) (D : va_G) (cI cZ : ClassId) (a : Nat → Nat) (w1 : Int32) : CTr l D [(cI, FieldType.int), (cZ, FieldType.boolean)] (mW cI cZ a) yX7_pointsOf (.code yX7_pointsOf cX7_pointsOf 2 (some FieldType.int) :: wsL_law) ({ frames := 3, cells := 0, slots := 0, locals := 71 } : Room) [.ref (a 0), .int w1] (fun σ => f_X7_pointsOf σ w1) := by
  refine CTr.of (by decide +kernel) (Nat.le_of_ble_eq_true rfl) ?_
  intro σ r hm p e s m below meth c A ls H locs hx hb hr hlk hml hT hown hK hA B hl
  have hown : s.vm.findClass RX7 = some m.cls := hown
  have hl : lv_has ls 2 [(0, .ref (a 0)), (1, .int w1)] := hl
  have hm : f_X7_pointsOf σ w1 = some r := hm
  unfold f_X7_pointsOf at hm
  refine lv_aload_n hx hb dX7_pointsOf_0 rfl (lv_at hl 0 rfl) ?_
  refine lv_iload_n hx hb dX7_pointsOf_1 rfl (lv_at hl 1 rfl) ?_
  refine lv_aload_n hx hb dX7_pointsOf_2 rfl (lv_at hl 0 rfl) ?_
  refine x_callVr (rest := [.int w1, .ref (a 0)]) hx hb hml hT hown hK hA B hl.1 (c_X7_done l D cI cZ a) mi_X7_done mv_X7_done mO_M rfl q857 ⟨rfl, rfl⟩ ⟨Nat.le_of_ble_eq_true rfl, Nat.le_of_ble_eq_true rfl⟩ rfl rfl (Nat.le_of_ble_eq_true rfl) dX7_pointsOf_3 hm (fun x1 H locs B hm => ?_)
  refine x_callVr (rest := []) hx hb hml hT hown hK hA B hl.1 (c_X7_pointsBehind l D cI cZ a w1 x1) mi_X7_pointsBehind mv_X7_pointsBehind mO_M rfl q860 ⟨rfl, rfl⟩ ⟨Nat.le_of_ble_eq_true rfl, Nat.le_of_ble_eq_true rfl⟩ rfl rfl (Nat.le_of_ble_eq_true rfl) dX7_pointsOf_6 hm (fun x2 H locs B hm => ?_)
  exact x_iretr hx hb hr hlk hK B dX7_pointsOf_9 hm
def f_X7_metIn_s6 (σ : Mm) (v1 : Int32) (v2 : Int32) (r6 : Int32 → Int32 → Option Int32) (v3 v4 : Int32) : Option Int32 :=
  (f_X7_done σ).bind fun x1 =>
  if x1 ≤ v4 then
    some v3
  else
    (f_X7_playedIn σ v1 v4).bind fun x2 =>
    if x2 < 0 then
      r6 v3 (v4 + (1 : Int32))
    else
      (f_X7_otherOn σ x2 v1).bind fun x3 =>
      if x3 = v2 then
        r6 v4 (v4 + (1 : Int32))
      else
        r6 v3 (v4 + (1 : Int32))
def f_X7_metIn (σ : Mm) (w1 : Int32) (w2 : Int32) : Option Int32 :=
  wh2 (f_X7_metIn_s6 σ w1 w2) 5000 (-5 : Int32) (0 : Int32)
set_option maxHeartbeats 4000000 in
set_option maxRecDepth 100000 in
theorem c_X7_metIn (l : Launch) (D : va_G) (cI cZ : ClassId) (a : Nat → Nat) (w1 : Int32) (w2 : Int32) : CTr l D [(cI, FieldType.int), (cZ, FieldType.boolean)] (mW cI cZ a) yX7_metIn (.code yX7_metIn cX7_metIn 6 (some FieldType.int) :: wsL_law) ({ frames := 2, cells := 0, slots := 0, locals := 48 } : Room) [.ref (a 0), .int w1, .int w2] (fun σ => f_X7_metIn σ w1 w2) := by
  refine CTr.of (by decide +kernel) (Nat.le_of_ble_eq_true rfl) ?_
  intro σ r hm p e s m below meth c A ls H locs hx hb hr hlk hml hT hown hK hA B hl
  have hown : s.vm.findClass RX7 = some m.cls := hown
  have hl : lv_has ls 6 [(0, .ref (a 0)), (1, .int w1), (2, .int w2)] := hl
  have hm : f_X7_metIn σ w1 w2 = some r := hm
  unfold f_X7_metIn at hm
  have L6 : ∀ (v1 : Int32) (v2 : Int32) (nn : Nat) (v3 : Int32) (v4 : Int32), wh2 (f_X7_metIn_s6 σ v1 v2) nn v3 v4 = some r → ∀ (H : Heap) (locs : List Loc) (ls : Array Slot), BD D A s.heap ((mW cI cZ a) σ) H locs → lv_has ls 6 [(0, .ref (a 0)), (1, .int v1), (2, .int v2), (3, .int v3), (4, .int v4)] → W p l e ({ frames := 2, cells := 0, slots := 0, locals := 48 } : Room) s m ([.ref (a 0), .int w1, .int w2] : List Value).toArray below meth c H locs 0 0 (MQ below (QI D [(cI, FieldType.int), (cZ, FieldType.boolean)] (mW cI cZ a) A (r, σ)) ([.ref (a 0), .int w1, .int w2] : List Value).toArray s 0 0 A) (F0 m 6 ls []) := by
    intro v1 v2
    refine loop2 (fun r6 ih6 v3 v4 hm H locs ls B hl => ?_)
    unfold f_X7_metIn_s6 at hm
    refine lv_iload hx hb dX7_metIn_6 (lv_at hl 4 rfl) ?_
    refine lv_aload_n hx hb dX7_metIn_8 rfl (lv_at hl 0 rfl) ?_
    refine x_callVr (rest := [.int v4]) hx hb hml hT hown hK hA B hl.1 (c_X7_done l D cI cZ a) mi_X7_done mv_X7_done mO_M rfl q857 ⟨rfl, rfl⟩ ⟨Nat.le_of_ble_eq_true rfl, Nat.le_of_ble_eq_true rfl⟩ rfl rfl (Nat.le_of_ble_eq_true rfl) dX7_metIn_9 hm (fun x1 H locs B hm => ?_)
    refine lv_icmp_ge (tgt := 53) hx hb dX7_metIn_12 (by decide) (fun q => ?_) (fun q => ?_)
    · have hm := ift hm q
      refine lv_iload_n hx hb dX7_metIn_53 rfl (lv_at hl 3 rfl) ?_
      exact x_iretr hx hb hr hlk hK B dX7_metIn_54 hm
    · have hm := iff hm q
      refine lv_aload_n hx hb dX7_metIn_15 rfl (lv_at hl 0 rfl) ?_
      refine lv_iload_n hx hb dX7_metIn_16 rfl (lv_at hl 1 rfl) ?_
      refine lv_iload hx hb dX7_metIn_17 (lv_at hl 4 rfl) ?_
      refine x_callVr (rest := []) hx hb hml hT hown hK hA B hl.1 (c_X7_playedIn l D cI cZ a v1 v4) mi_X7_playedIn mv_X7_playedIn mO_M rfl q876 ⟨rfl, rfl⟩ ⟨Nat.le_of_ble_eq_true rfl, Nat.le_of_ble_eq_true rfl⟩ rfl rfl (Nat.le_of_ble_eq_true rfl) dX7_metIn_19 hm (fun x2 H locs B hm => ?_)
      refine lv_istore (lv' := [(5, .int x2), (0, .ref (a 0)), (1, .int v1), (2, .int v2), (3, .int v3), (4, .int v4)]) hx hb dX7_metIn_22 hl (by decide) rfl (fun ls hl => ?_)
      refine lv_iload hx hb dX7_metIn_24 (lv_at hl 0 rfl) ?_
      refine lv_if_lt (tgt := 45) hx hb dX7_metIn_26 (by decide) (fun q => ?_) (fun q => ?_)
      · have hm := ift hm q
        refine lv_iload_n hx hb dX7_metIn_45 rfl (lv_at hl 4 rfl) ?_
        refine lv_istore_n (lv' := [(3, .int v3), (5, .int x2), (0, .ref (a 0)), (1, .int v1), (2, .int v2), (4, .int v4)]) hx hb dX7_metIn_46 rfl hl (by decide) rfl (fun ls hl => ?_)
        refine lv_iinc (v := (v4 + (1 : Int32))) (lv' := [(4, .int (v4 + (1 : Int32))), (3, .int v3), (5, .int x2), (0, .ref (a 0)), (1, .int v1), (2, .int v2)]) hx hb dX7_metIn_47 hl (k := 5) rfl rfl (by decide) rfl (fun ls hl => ?_)
        refine lv_goto (tgt := 6) hx hb dX7_metIn_50 (by decide) ?_
        exact ih6 v3 (v4 + (1 : Int32)) hm H locs ls B (lv_sub hl [3, 4, 5, 1, 0] rfl)
      · have hm := iff hm q
        refine lv_aload_n hx hb dX7_metIn_29 rfl (lv_at hl 1 rfl) ?_
        refine lv_iload hx hb dX7_metIn_30 (lv_at hl 0 rfl) ?_
        refine lv_iload_n hx hb dX7_metIn_32 rfl (lv_at hl 2 rfl) ?_
        refine x_callVr (rest := []) hx hb hml hT hown hK hA B hl.1 (c_X7_otherOn l D cI cZ a x2 v1) mi_X7_otherOn mv_X7_otherOn mO_M rfl q883 ⟨rfl, rfl⟩ ⟨Nat.le_of_ble_eq_true rfl, Nat.le_of_ble_eq_true rfl⟩ rfl rfl (Nat.le_of_ble_eq_true rfl) dX7_metIn_33 hm (fun x3 H locs B hm => ?_)
        refine lv_iload_n hx hb dX7_metIn_36 rfl (lv_at hl 3 rfl) ?_
        refine lv_icmp_ne (tgt := 45) hx hb dX7_metIn_37 (by decide) (fun q => ?_) (fun q => ?_)
        · have hm := iff hm q
          refine lv_iload_n hx hb dX7_metIn_45 rfl (lv_at hl 4 rfl) ?_
          refine lv_istore_n (lv' := [(3, .int v3), (5, .int x2), (0, .ref (a 0)), (1, .int v1), (2, .int v2), (4, .int v4)]) hx hb dX7_metIn_46 rfl hl (by decide) rfl (fun ls hl => ?_)
          refine lv_iinc (v := (v4 + (1 : Int32))) (lv' := [(4, .int (v4 + (1 : Int32))), (3, .int v3), (5, .int x2), (0, .ref (a 0)), (1, .int v1), (2, .int v2)]) hx hb dX7_metIn_47 hl (k := 5) rfl rfl (by decide) rfl (fun ls hl => ?_)
          refine lv_goto (tgt := 6) hx hb dX7_metIn_50 (by decide) ?_
          exact ih6 v3 (v4 + (1 : Int32)) hm H locs ls B (lv_sub hl [3, 4, 5, 1, 0] rfl)
        · have hm := ift hm q
          refine lv_iload hx hb dX7_metIn_40 (lv_at hl 5 rfl) ?_
          refine lv_goto (tgt := 46) hx hb dX7_metIn_42 (by decide) ?_
          refine lv_istore_n (lv' := [(3, .int v4), (5, .int x2), (0, .ref (a 0)), (1, .int v1), (2, .int v2), (4, .int v4)]) hx hb dX7_metIn_46 rfl hl (by decide) rfl (fun ls hl => ?_)
          refine lv_iinc (v := (v4 + (1 : Int32))) (lv' := [(4, .int (v4 + (1 : Int32))), (3, .int v4), (5, .int x2), (0, .ref (a 0)), (1, .int v1), (2, .int v2)]) hx hb dX7_metIn_47 hl (k := 5) rfl rfl (by decide) rfl (fun ls hl => ?_)
          refine lv_goto (tgt := 6) hx hb dX7_metIn_50 (by decide) ?_
          exact ih6 v4 (v4 + (1 : Int32)) hm H locs ls B (lv_sub hl [3, 4, 5, 1, 0] rfl)
  refine lv_bipush (v := (-5 : Int32)) hx hb dX7_metIn_0 (by decide) ?_
  refine lv_istore_n (lv' := [(3, .int (-5 : Int32)), (0, .ref (a 0)), (1, .int w1), (2, .int w2)]) hx hb dX7_metIn_2 rfl hl (by decide) rfl (fun ls hl => ?_)
  refine lv_iconst (v := (0 : Int32)) hx hb dX7_metIn_3 (by decide) ?_
  refine lv_istore (lv' := [(4, .int (0 : Int32)), (3, .int (-5 : Int32)), (0, .ref (a 0)), (1, .int w1), (2, .int w2)]) hx hb dX7_metIn_4 hl (by decide) rfl (fun ls hl => ?_)
  exact L6 w1 w2 5000 (-5 : Int32) (0 : Int32) hm H locs ls B (lv_sub hl [2, 3, 4, 1, 0] rfl)
def f_X7_playedMany_s4 (σ : Mm) (v1 : Int32) (r4 : Int32 → Int32 → Option Int32) (v2 v3 : Int32) : Option Int32 :=
  (f_X7_done σ).bind fun x1 =>
  if x1 ≤ v3 then
    some v2
  else
    (f_X7_playedIn σ v1 v3).bind fun x2 =>
    if x2 < 0 then
      r4 (v2 + (0 : Int32)) (v3 + (1 : Int32))
    else
      r4 (v2 + (1 : Int32)) (v3 + (1 : Int32))
def f_X7_playedMany (σ : Mm) (w1 : Int32) : Option Int32 :=
  wh2 (f_X7_playedMany_s4 σ w1) 5000 (0 : Int32) (0 : Int32)
set_option maxHeartbeats 4000000 in
set_option maxRecDepth 100000 in
theorem c_X7_playedMany (l : Launch) (D : va_G) (cI cZ : ClassId) (a : Nat → Nat) (w1 : Int32) : CTr l D [(cI, FieldType.int), (cZ, FieldType.boolean)] (mW cI cZ a) yX7_playedMany (.code yX7_playedMany cX7_playedMany 4 (some FieldType.int) :: wsL_law) ({ frames := 2, cells := 0, slots := 0, locals := 48 } : Room) [.ref (a 0), .int w1] (fun σ => f_X7_playedMany σ w1) := by
  refine CTr.of (by decide +kernel) (Nat.le_of_ble_eq_true rfl) ?_
  intro σ r hm p e s m below meth c A ls H locs hx hb hr hlk hml hT hown hK hA B hl
  have hown : s.vm.findClass RX7 = some m.cls := hown
  have hl : lv_has ls 4 [(0, .ref (a 0)), (1, .int w1)] := hl
  have hm : f_X7_playedMany σ w1 = some r := hm
  unfold f_X7_playedMany at hm
  have L4 : ∀ (v1 : Int32) (nn : Nat) (v2 : Int32) (v3 : Int32), wh2 (f_X7_playedMany_s4 σ v1) nn v2 v3 = some r → ∀ (H : Heap) (locs : List Loc) (ls : Array Slot), BD D A s.heap ((mW cI cZ a) σ) H locs → lv_has ls 4 [(0, .ref (a 0)), (1, .int v1), (2, .int v2), (3, .int v3)] → W p l e ({ frames := 2, cells := 0, slots := 0, locals := 48 } : Room) s m ([.ref (a 0), .int w1] : List Value).toArray below meth c H locs 0 0 (MQ below (QI D [(cI, FieldType.int), (cZ, FieldType.boolean)] (mW cI cZ a) A (r, σ)) ([.ref (a 0), .int w1] : List Value).toArray s 0 0 A) (F0 m 4 ls []) := by
    intro v1
    refine loop2 (fun r4 ih4 v2 v3 hm H locs ls B hl => ?_)
    unfold f_X7_playedMany_s4 at hm
    refine lv_iload_n hx hb dX7_playedMany_4 rfl (lv_at hl 3 rfl) ?_
    refine lv_aload_n hx hb dX7_playedMany_5 rfl (lv_at hl 0 rfl) ?_
    refine x_callVr (rest := [.int v3]) hx hb hml hT hown hK hA B hl.1 (c_X7_done l D cI cZ a) mi_X7_done mv_X7_done mO_M rfl q857 ⟨rfl, rfl⟩ ⟨Nat.le_of_ble_eq_true rfl, Nat.le_of_ble_eq_true rfl⟩ rfl rfl (Nat.le_of_ble_eq_true rfl) dX7_playedMany_6 hm (fun x1 H locs B hm => ?_)
    refine lv_icmp_ge (tgt := 35) hx hb dX7_playedMany_9 (by decide) (fun q => ?_) (fun q => ?_)
    · have hm := ift hm q
      refine lv_iload_n hx hb dX7_playedMany_35 rfl (lv_at hl 2 rfl) ?_
      exact x_iretr hx hb hr hlk hK B dX7_playedMany_36 hm
    · have hm := iff hm q
      refine lv_iload_n hx hb dX7_playedMany_12 rfl (lv_at hl 2 rfl) ?_
      refine lv_aload_n hx hb dX7_playedMany_13 rfl (lv_at hl 0 rfl) ?_
      refine lv_iload_n hx hb dX7_playedMany_14 rfl (lv_at hl 1 rfl) ?_
      refine lv_iload_n hx hb dX7_playedMany_15 rfl (lv_at hl 3 rfl) ?_
      refine x_callVr (rest := [.int v2]) hx hb hml hT hown hK hA B hl.1 (c_X7_playedIn l D cI cZ a v1 v3) mi_X7_playedIn mv_X7_playedIn mO_M rfl q876 ⟨rfl, rfl⟩ ⟨Nat.le_of_ble_eq_true rfl, Nat.le_of_ble_eq_true rfl⟩ rfl rfl (Nat.le_of_ble_eq_true rfl) dX7_playedMany_16 hm (fun x2 H locs B hm => ?_)
      refine lv_if_lt (tgt := 26) hx hb dX7_playedMany_19 (by decide) (fun q => ?_) (fun q => ?_)
      · have hm := ift hm q
        refine lv_iconst (v := (0 : Int32)) hx hb dX7_playedMany_26 (by decide) ?_
        refine lv_iadd hx hb dX7_playedMany_27 ?_
        refine lv_istore_n (lv' := [(2, .int (v2 + (0 : Int32))), (0, .ref (a 0)), (1, .int v1), (3, .int v3)]) hx hb dX7_playedMany_28 rfl hl (by decide) rfl (fun ls hl => ?_)
        refine lv_iinc (v := (v3 + (1 : Int32))) (lv' := [(3, .int (v3 + (1 : Int32))), (2, .int (v2 + (0 : Int32))), (0, .ref (a 0)), (1, .int v1)]) hx hb dX7_playedMany_29 hl (k := 3) rfl rfl (by decide) rfl (fun ls hl => ?_)
        refine lv_goto (tgt := 4) hx hb dX7_playedMany_32 (by decide) ?_
        exact ih4 (v2 + (0 : Int32)) (v3 + (1 : Int32)) hm H locs ls B (lv_sub hl [2, 3, 1, 0] rfl)
      · have hm := iff hm q
        refine lv_iconst (v := (1 : Int32)) hx hb dX7_playedMany_22 (by decide) ?_
        refine lv_goto (tgt := 27) hx hb dX7_playedMany_23 (by decide) ?_
        refine lv_iadd hx hb dX7_playedMany_27 ?_
        refine lv_istore_n (lv' := [(2, .int (v2 + (1 : Int32))), (0, .ref (a 0)), (1, .int v1), (3, .int v3)]) hx hb dX7_playedMany_28 rfl hl (by decide) rfl (fun ls hl => ?_)
        refine lv_iinc (v := (v3 + (1 : Int32))) (lv' := [(3, .int (v3 + (1 : Int32))), (2, .int (v2 + (1 : Int32))), (0, .ref (a 0)), (1, .int v1)]) hx hb dX7_playedMany_29 hl (k := 3) rfl rfl (by decide) rfl (fun ls hl => ?_)
        refine lv_goto (tgt := 4) hx hb dX7_playedMany_32 (by decide) ?_
        exact ih4 (v2 + (1 : Int32)) (v3 + (1 : Int32)) hm H locs ls B (lv_sub hl [2, 3, 1, 0] rfl)
  refine lv_iconst (v := (0 : Int32)) hx hb dX7_playedMany_0 (by decide) ?_
  refine lv_istore_n (lv' := [(2, .int (0 : Int32)), (0, .ref (a 0)), (1, .int w1)]) hx hb dX7_playedMany_1 rfl hl (by decide) rfl (fun ls hl => ?_)
  refine lv_iconst (v := (0 : Int32)) hx hb dX7_playedMany_2 (by decide) ?_
  refine lv_istore_n (lv' := [(3, .int (0 : Int32)), (2, .int (0 : Int32)), (0, .ref (a 0)), (1, .int w1)]) hx hb dX7_playedMany_3 rfl hl (by decide) rfl (fun ls hl => ?_)
  exact L4 w1 5000 (0 : Int32) (0 : Int32) hm H locs ls B (lv_sub hl [2, 3, 1, 0] rfl)
def f_X7_blacksOf_s4 (σ : Mm) (v1 : Int32) (r4 : Int32 → Int32 → Option Int32) (v2 v3 : Int32) : Option Int32 :=
  (f_X7_done σ).bind fun x1 =>
  if x1 ≤ v3 then
    some v2
  else
    (f_X7_playedIn σ v1 v3).bind fun x2 =>
    if x2 < 0 then
      r4 (v2 + (0 : Int32)) (v3 + (1 : Int32))
    else
      (f_X7_playedIn σ v1 v3).bind fun x3 =>
      (ald 120 (σ 8) x3).bind fun x4 =>
      if x4 = v1 then
        r4 (v2 + (1 : Int32)) (v3 + (1 : Int32))
      else
        r4 (v2 + (0 : Int32)) (v3 + (1 : Int32))
def f_X7_blacksOf (σ : Mm) (w1 : Int32) : Option Int32 :=
  wh2 (f_X7_blacksOf_s4 σ w1) 5000 (0 : Int32) (0 : Int32)
set_option maxHeartbeats 4000000 in
set_option maxRecDepth 100000 in
theorem c_X7_blacksOf (l : Launch) (D : va_G) (cI cZ : ClassId) (a : Nat → Nat) (w1 : Int32) : CTr l D [(cI, FieldType.int), (cZ, FieldType.boolean)] (mW cI cZ a) yX7_blacksOf (.code yX7_blacksOf cX7_blacksOf 4 (some FieldType.int) :: wsL_law) ({ frames := 2, cells := 0, slots := 0, locals := 48 } : Room) [.ref (a 0), .int w1] (fun σ => f_X7_blacksOf σ w1) := by
  refine CTr.of (by decide +kernel) (Nat.le_of_ble_eq_true rfl) ?_
  intro σ r hm p e s m below meth c A ls H locs hx hb hr hlk hml hT hown hK hA B hl
  have hown : s.vm.findClass RX7 = some m.cls := hown
  have hl : lv_has ls 4 [(0, .ref (a 0)), (1, .int w1)] := hl
  have hm : f_X7_blacksOf σ w1 = some r := hm
  unfold f_X7_blacksOf at hm
  have L4 : ∀ (v1 : Int32) (nn : Nat) (v2 : Int32) (v3 : Int32), wh2 (f_X7_blacksOf_s4 σ v1) nn v2 v3 = some r → ∀ (H : Heap) (locs : List Loc) (ls : Array Slot), BD D A s.heap ((mW cI cZ a) σ) H locs → lv_has ls 4 [(0, .ref (a 0)), (1, .int v1), (2, .int v2), (3, .int v3)] → W p l e ({ frames := 2, cells := 0, slots := 0, locals := 48 } : Room) s m ([.ref (a 0), .int w1] : List Value).toArray below meth c H locs 0 0 (MQ below (QI D [(cI, FieldType.int), (cZ, FieldType.boolean)] (mW cI cZ a) A (r, σ)) ([.ref (a 0), .int w1] : List Value).toArray s 0 0 A) (F0 m 4 ls []) := by
    intro v1
    refine loop2 (fun r4 ih4 v2 v3 hm H locs ls B hl => ?_)
    unfold f_X7_blacksOf_s4 at hm
    refine lv_iload_n hx hb dX7_blacksOf_4 rfl (lv_at hl 3 rfl) ?_
    refine lv_aload_n hx hb dX7_blacksOf_5 rfl (lv_at hl 0 rfl) ?_
    refine x_callVr (rest := [.int v3]) hx hb hml hT hown hK hA B hl.1 (c_X7_done l D cI cZ a) mi_X7_done mv_X7_done mO_M rfl q857 ⟨rfl, rfl⟩ ⟨Nat.le_of_ble_eq_true rfl, Nat.le_of_ble_eq_true rfl⟩ rfl rfl (Nat.le_of_ble_eq_true rfl) dX7_blacksOf_6 hm (fun x1 H locs B hm => ?_)
    refine lv_icmp_ge (tgt := 50) hx hb dX7_blacksOf_9 (by decide) (fun q => ?_) (fun q => ?_)
    · have hm := ift hm q
      refine lv_iload_n hx hb dX7_blacksOf_50 rfl (lv_at hl 2 rfl) ?_
      exact x_iretr hx hb hr hlk hK B dX7_blacksOf_51 hm
    · have hm := iff hm q
      refine lv_iload_n hx hb dX7_blacksOf_12 rfl (lv_at hl 2 rfl) ?_
      refine lv_aload_n hx hb dX7_blacksOf_13 rfl (lv_at hl 0 rfl) ?_
      refine lv_iload_n hx hb dX7_blacksOf_14 rfl (lv_at hl 1 rfl) ?_
      refine lv_iload_n hx hb dX7_blacksOf_15 rfl (lv_at hl 3 rfl) ?_
      refine x_callVr (rest := [.int v2]) hx hb hml hT hown hK hA B hl.1 (c_X7_playedIn l D cI cZ a v1 v3) mi_X7_playedIn mv_X7_playedIn mO_M rfl q876 ⟨rfl, rfl⟩ ⟨Nat.le_of_ble_eq_true rfl, Nat.le_of_ble_eq_true rfl⟩ rfl rfl (Nat.le_of_ble_eq_true rfl) dX7_blacksOf_16 hm (fun x2 H locs B hm => ?_)
      refine lv_if_lt (tgt := 41) hx hb dX7_blacksOf_19 (by decide) (fun q => ?_) (fun q => ?_)
      · have hm := ift hm q
        refine lv_iconst (v := (0 : Int32)) hx hb dX7_blacksOf_41 (by decide) ?_
        refine lv_iadd hx hb dX7_blacksOf_42 ?_
        refine lv_istore_n (lv' := [(2, .int (v2 + (0 : Int32))), (0, .ref (a 0)), (1, .int v1), (3, .int v3)]) hx hb dX7_blacksOf_43 rfl hl (by decide) rfl (fun ls hl => ?_)
        refine lv_iinc (v := (v3 + (1 : Int32))) (lv' := [(3, .int (v3 + (1 : Int32))), (2, .int (v2 + (0 : Int32))), (0, .ref (a 0)), (1, .int v1)]) hx hb dX7_blacksOf_44 hl (k := 3) rfl rfl (by decide) rfl (fun ls hl => ?_)
        refine lv_goto (tgt := 4) hx hb dX7_blacksOf_47 (by decide) ?_
        exact ih4 (v2 + (0 : Int32)) (v3 + (1 : Int32)) hm H locs ls B (lv_sub hl [2, 3, 1, 0] rfl)
      · have hm := iff hm q
        refine lv_aload_n hx hb dX7_blacksOf_22 rfl (lv_at hl 0 rfl) ?_
        refine x_getv (T := TX7) (N := 33) hx hb hT hown hK B mV_blacks inlX7 rfl (by decide) q773 rfl dX7_blacksOf_23 ?_
        refine lv_aload_n hx hb dX7_blacksOf_26 rfl (lv_at hl 0 rfl) ?_
        refine lv_iload_n hx hb dX7_blacksOf_27 rfl (lv_at hl 1 rfl) ?_
        refine lv_iload_n hx hb dX7_blacksOf_28 rfl (lv_at hl 3 rfl) ?_
        refine x_callVr (rest := [.ref (a 6), .int v2]) hx hb hml hT hown hK hA B hl.1 (c_X7_playedIn l D cI cZ a v1 v3) mi_X7_playedIn mv_X7_playedIn mO_M rfl q876 ⟨rfl, rfl⟩ ⟨Nat.le_of_ble_eq_true rfl, Nat.le_of_ble_eq_true rfl⟩ rfl rfl (Nat.le_of_ble_eq_true rfl) dX7_blacksOf_29 hm (fun x3 H locs B hm => ?_)
        refine x_iald (t0 := 0) hx hb hK B mA_blacks rfl dX7_blacksOf_32 hm (fun x4 hm => ?_)
        refine lv_iload_n hx hb dX7_blacksOf_33 rfl (lv_at hl 1 rfl) ?_
        refine lv_icmp_ne (tgt := 41) hx hb dX7_blacksOf_34 (by decide) (fun q => ?_) (fun q => ?_)
        · have hm := iff hm q
          refine lv_iconst (v := (0 : Int32)) hx hb dX7_blacksOf_41 (by decide) ?_
          refine lv_iadd hx hb dX7_blacksOf_42 ?_
          refine lv_istore_n (lv' := [(2, .int (v2 + (0 : Int32))), (0, .ref (a 0)), (1, .int v1), (3, .int v3)]) hx hb dX7_blacksOf_43 rfl hl (by decide) rfl (fun ls hl => ?_)
          refine lv_iinc (v := (v3 + (1 : Int32))) (lv' := [(3, .int (v3 + (1 : Int32))), (2, .int (v2 + (0 : Int32))), (0, .ref (a 0)), (1, .int v1)]) hx hb dX7_blacksOf_44 hl (k := 3) rfl rfl (by decide) rfl (fun ls hl => ?_)
          refine lv_goto (tgt := 4) hx hb dX7_blacksOf_47 (by decide) ?_
          exact ih4 (v2 + (0 : Int32)) (v3 + (1 : Int32)) hm H locs ls B (lv_sub hl [2, 3, 1, 0] rfl)
        · have hm := ift hm q
          refine lv_iconst (v := (1 : Int32)) hx hb dX7_blacksOf_37 (by decide) ?_
          refine lv_goto (tgt := 42) hx hb dX7_blacksOf_38 (by decide) ?_
          refine lv_iadd hx hb dX7_blacksOf_42 ?_
          refine lv_istore_n (lv' := [(2, .int (v2 + (1 : Int32))), (0, .ref (a 0)), (1, .int v1), (3, .int v3)]) hx hb dX7_blacksOf_43 rfl hl (by decide) rfl (fun ls hl => ?_)
          refine lv_iinc (v := (v3 + (1 : Int32))) (lv' := [(3, .int (v3 + (1 : Int32))), (2, .int (v2 + (1 : Int32))), (0, .ref (a 0)), (1, .int v1)]) hx hb dX7_blacksOf_44 hl (k := 3) rfl rfl (by decide) rfl (fun ls hl => ?_)
          refine lv_goto (tgt := 4) hx hb dX7_blacksOf_47 (by decide) ?_
          exact ih4 (v2 + (1 : Int32)) (v3 + (1 : Int32)) hm H locs ls B (lv_sub hl [2, 3, 1, 0] rfl)
  refine lv_iconst (v := (0 : Int32)) hx hb dX7_blacksOf_0 (by decide) ?_
  refine lv_istore_n (lv' := [(2, .int (0 : Int32)), (0, .ref (a 0)), (1, .int w1)]) hx hb dX7_blacksOf_1 rfl hl (by decide) rfl (fun ls hl => ?_)
  refine lv_iconst (v := (0 : Int32)) hx hb dX7_blacksOf_2 (by decide) ?_
  refine lv_istore_n (lv' := [(3, .int (0 : Int32)), (2, .int (0 : Int32)), (0, .ref (a 0)), (1, .int w1)]) hx hb dX7_blacksOf_3 rfl hl (by decide) rfl (fun ls hl => ?_)
  exact L4 w1 5000 (0 : Int32) (0 : Int32) hm H locs ls B (lv_sub hl [2, 3, 1, 0] rfl)
def f_X7_balanceOf (σ : Mm) (w1 : Int32) : Option Int32 :=
  (f_X7_playedMany σ w1).bind fun x1 =>
  (f_X7_blacksOf σ w1).bind fun x2 =>
  some (x1 - ((2 : Int32) * x2))
set_option maxHeartbeats 4000000 in
set_option maxRecDepth 100000 in
theorem c_X7_balanceOf (l : Launch) (D : va_G) (cI cZ : ClassId) (a : Nat → Nat) (w1 : Int32) : CTr l D [(cI, FieldType.int), (cZ, FieldType.boolean)] (mW cI cZ a) yX7_balanceOf (.code yX7_balanceOf cX7_balanceOf 2 (some FieldType.int) :: wsL_law) ({ frames := 3, cells := 0, slots := 0, locals := 71 } : Room) [.ref (a 0), .int w1] (fun σ => f_X7_balanceOf σ w1) := by
  refine CTr.of (by decide +kernel) (Nat.le_of_ble_eq_true rfl) ?_
  intro σ r hm p e s m below meth c A ls H locs hx hb hr hlk hml hT hown hK hA B hl
  have hown : s.vm.findClass RX7 = some m.cls := hown
  have hl : lv_has ls 2 [(0, .ref (a 0)), (1, .int w1)] := hl
  have hm : f_X7_balanceOf σ w1 = some r := hm
  unfold f_X7_balanceOf at hm
  refine lv_aload_n hx hb dX7_balanceOf_0 rfl (lv_at hl 0 rfl) ?_
  refine lv_iload_n hx hb dX7_balanceOf_1 rfl (lv_at hl 1 rfl) ?_
  refine x_callVr (rest := []) hx hb hml hT hown hK hA B hl.1 (c_X7_playedMany l D cI cZ a w1) mi_X7_playedMany mv_X7_playedMany mO_M rfl q928 ⟨rfl, rfl⟩ ⟨Nat.le_of_ble_eq_true rfl, Nat.le_of_ble_eq_true rfl⟩ rfl rfl (Nat.le_of_ble_eq_true rfl) dX7_balanceOf_2 hm (fun x1 H locs B hm => ?_)
  refine lv_iconst (v := (2 : Int32)) hx hb dX7_balanceOf_5 (by decide) ?_
  refine lv_aload_n hx hb dX7_balanceOf_6 rfl (lv_at hl 0 rfl) ?_
  refine lv_iload_n hx hb dX7_balanceOf_7 rfl (lv_at hl 1 rfl) ?_
  refine x_callVr (rest := [.int (2 : Int32), .int x1]) hx hb hml hT hown hK hA B hl.1 (c_X7_blacksOf l D cI cZ a w1) mi_X7_blacksOf mv_X7_blacksOf mO_M rfl q892 ⟨rfl, rfl⟩ ⟨Nat.le_of_ble_eq_true rfl, Nat.le_of_ble_eq_true rfl⟩ rfl rfl (Nat.le_of_ble_eq_true rfl) dX7_balanceOf_8 hm (fun x2 H locs B hm => ?_)
  refine lv_imul hx hb dX7_balanceOf_11 ?_
  refine lv_isub hx hb dX7_balanceOf_12 ?_
  exact x_iretr hx hb hr hlk hK B dX7_balanceOf_13 hm
def f_X7_latestOf_s5 (σ : Mm) (v1 : Int32) (r5 : Int32 → Int32 → Option Int32) (v2 v3 : Int32) : Option Int32 :=
  (f_X7_done σ).bind fun x1 =>
  if x1 ≤ v3 then
    some v2
  else
    (f_X7_playedIn σ v1 v3).bind fun x2 =>
    if 0 ≤ x2 then
      (ald 120 (σ 7) x2).bind fun x3 =>
      if x3 = v1 then
        r5 (0 : Int32) (v3 + (1 : Int32))
      else
        r5 (1 : Int32) (v3 + (1 : Int32))
    else
      r5 v2 (v3 + (1 : Int32))
def f_X7_latestOf (σ : Mm) (w1 : Int32) : Option Int32 :=
  wh2 (f_X7_latestOf_s5 σ w1) 5000 (-5 : Int32) (0 : Int32)
set_option maxHeartbeats 4000000 in
set_option maxRecDepth 100000 in
theorem c_X7_latestOf (l : Launch) (D : va_G) (cI cZ : ClassId) (a : Nat → Nat) (w1 : Int32) : CTr l D [(cI, FieldType.int), (cZ, FieldType.boolean)] (mW cI cZ a) yX7_latestOf (.code yX7_latestOf cX7_latestOf 5 (some FieldType.int) :: wsL_law) ({ frames := 2, cells := 0, slots := 0, locals := 48 } : Room) [.ref (a 0), .int w1] (fun σ => f_X7_latestOf σ w1) := by
  refine CTr.of (by decide +kernel) (Nat.le_of_ble_eq_true rfl) ?_
  intro σ r hm p e s m below meth c A ls H locs hx hb hr hlk hml hT hown hK hA B hl
  have hown : s.vm.findClass RX7 = some m.cls := hown
  have hl : lv_has ls 5 [(0, .ref (a 0)), (1, .int w1)] := hl
  have hm : f_X7_latestOf σ w1 = some r := hm
  unfold f_X7_latestOf at hm
  have L5 : ∀ (v1 : Int32) (nn : Nat) (v2 : Int32) (v3 : Int32), wh2 (f_X7_latestOf_s5 σ v1) nn v2 v3 = some r → ∀ (H : Heap) (locs : List Loc) (ls : Array Slot), BD D A s.heap ((mW cI cZ a) σ) H locs → lv_has ls 5 [(0, .ref (a 0)), (1, .int v1), (2, .int v2), (3, .int v3)] → W p l e ({ frames := 2, cells := 0, slots := 0, locals := 48 } : Room) s m ([.ref (a 0), .int w1] : List Value).toArray below meth c H locs 0 0 (MQ below (QI D [(cI, FieldType.int), (cZ, FieldType.boolean)] (mW cI cZ a) A (r, σ)) ([.ref (a 0), .int w1] : List Value).toArray s 0 0 A) (F0 m 5 ls []) := by
    intro v1
    refine loop2 (fun r5 ih5 v2 v3 hm H locs ls B hl => ?_)
    unfold f_X7_latestOf_s5 at hm
    refine lv_iload_n hx hb dX7_latestOf_5 rfl (lv_at hl 3 rfl) ?_
    refine lv_aload_n hx hb dX7_latestOf_6 rfl (lv_at hl 0 rfl) ?_
    refine x_callVr (rest := [.int v3]) hx hb hml hT hown hK hA B hl.1 (c_X7_done l D cI cZ a) mi_X7_done mv_X7_done mO_M rfl q857 ⟨rfl, rfl⟩ ⟨Nat.le_of_ble_eq_true rfl, Nat.le_of_ble_eq_true rfl⟩ rfl rfl (Nat.le_of_ble_eq_true rfl) dX7_latestOf_7 hm (fun x1 H locs B hm => ?_)
    refine lv_icmp_ge (tgt := 53) hx hb dX7_latestOf_10 (by decide) (fun q => ?_) (fun q => ?_)
    · have hm := ift hm q
      refine lv_iload_n hx hb dX7_latestOf_53 rfl (lv_at hl 2 rfl) ?_
      exact x_iretr hx hb hr hlk hK B dX7_latestOf_54 hm
    · have hm := iff hm q
      refine lv_aload_n hx hb dX7_latestOf_13 rfl (lv_at hl 0 rfl) ?_
      refine lv_iload_n hx hb dX7_latestOf_14 rfl (lv_at hl 1 rfl) ?_
      refine lv_iload_n hx hb dX7_latestOf_15 rfl (lv_at hl 3 rfl) ?_
      refine x_callVr (rest := []) hx hb hml hT hown hK hA B hl.1 (c_X7_playedIn l D cI cZ a v1 v3) mi_X7_playedIn mv_X7_playedIn mO_M rfl q876 ⟨rfl, rfl⟩ ⟨Nat.le_of_ble_eq_true rfl, Nat.le_of_ble_eq_true rfl⟩ rfl rfl (Nat.le_of_ble_eq_true rfl) dX7_latestOf_16 hm (fun x2 H locs B hm => ?_)
      refine lv_istore (lv' := [(4, .int x2), (0, .ref (a 0)), (1, .int v1), (2, .int v2), (3, .int v3)]) hx hb dX7_latestOf_19 hl (by decide) rfl (fun ls hl => ?_)
      refine lv_iload hx hb dX7_latestOf_21 (lv_at hl 0 rfl) ?_
      refine lv_if_ge (tgt := 30) hx hb dX7_latestOf_23 (by decide) (fun q => ?_) (fun q => ?_)
      · have hm := ift hm q
        refine lv_aload_n hx hb dX7_latestOf_30 rfl (lv_at hl 1 rfl) ?_
        refine x_getv (T := TX7) (N := 33) hx hb hT hown hK B mV_whites inlX7 rfl (by decide) q772 rfl dX7_latestOf_31 ?_
        refine lv_iload hx hb dX7_latestOf_34 (lv_at hl 0 rfl) ?_
        refine x_iald (t0 := 0) hx hb hK B mA_whites rfl dX7_latestOf_36 hm (fun x3 hm => ?_)
        refine lv_iload_n hx hb dX7_latestOf_37 rfl (lv_at hl 2 rfl) ?_
        refine lv_icmp_ne (tgt := 45) hx hb dX7_latestOf_38 (by decide) (fun q => ?_) (fun q => ?_)
        · have hm := iff hm q
          refine lv_iconst (v := (1 : Int32)) hx hb dX7_latestOf_45 (by decide) ?_
          refine lv_istore_n (lv' := [(2, .int (1 : Int32)), (4, .int x2), (0, .ref (a 0)), (1, .int v1), (3, .int v3)]) hx hb dX7_latestOf_46 rfl hl (by decide) rfl (fun ls hl => ?_)
          refine lv_iinc (v := (v3 + (1 : Int32))) (lv' := [(3, .int (v3 + (1 : Int32))), (2, .int (1 : Int32)), (4, .int x2), (0, .ref (a 0)), (1, .int v1)]) hx hb dX7_latestOf_47 hl (k := 4) rfl rfl (by decide) rfl (fun ls hl => ?_)
          refine lv_goto (tgt := 5) hx hb dX7_latestOf_50 (by decide) ?_
          exact ih5 (1 : Int32) (v3 + (1 : Int32)) hm H locs ls B (lv_sub hl [3, 4, 1, 0] rfl)
        · have hm := ift hm q
          refine lv_iconst (v := (0 : Int32)) hx hb dX7_latestOf_41 (by decide) ?_
          refine lv_goto (tgt := 46) hx hb dX7_latestOf_42 (by decide) ?_
          refine lv_istore_n (lv' := [(2, .int (0 : Int32)), (4, .int x2), (0, .ref (a 0)), (1, .int v1), (3, .int v3)]) hx hb dX7_latestOf_46 rfl hl (by decide) rfl (fun ls hl => ?_)
          refine lv_iinc (v := (v3 + (1 : Int32))) (lv' := [(3, .int (v3 + (1 : Int32))), (2, .int (0 : Int32)), (4, .int x2), (0, .ref (a 0)), (1, .int v1)]) hx hb dX7_latestOf_47 hl (k := 4) rfl rfl (by decide) rfl (fun ls hl => ?_)
          refine lv_goto (tgt := 5) hx hb dX7_latestOf_50 (by decide) ?_
          exact ih5 (0 : Int32) (v3 + (1 : Int32)) hm H locs ls B (lv_sub hl [3, 4, 1, 0] rfl)
      · have hm := iff hm q
        refine lv_iload_n hx hb dX7_latestOf_26 rfl (lv_at hl 3 rfl) ?_
        refine lv_goto (tgt := 46) hx hb dX7_latestOf_27 (by decide) ?_
        refine lv_istore_n (lv' := [(2, .int v2), (4, .int x2), (0, .ref (a 0)), (1, .int v1), (3, .int v3)]) hx hb dX7_latestOf_46 rfl hl (by decide) rfl (fun ls hl => ?_)
        refine lv_iinc (v := (v3 + (1 : Int32))) (lv' := [(3, .int (v3 + (1 : Int32))), (2, .int v2), (4, .int x2), (0, .ref (a 0)), (1, .int v1)]) hx hb dX7_latestOf_47 hl (k := 4) rfl rfl (by decide) rfl (fun ls hl => ?_)
        refine lv_goto (tgt := 5) hx hb dX7_latestOf_50 (by decide) ?_
        exact ih5 v2 (v3 + (1 : Int32)) hm H locs ls B (lv_sub hl [3, 4, 1, 0] rfl)
  refine lv_bipush (v := (-5 : Int32)) hx hb dX7_latestOf_0 (by decide) ?_
  refine lv_istore_n (lv' := [(2, .int (-5 : Int32)), (0, .ref (a 0)), (1, .int w1)]) hx hb dX7_latestOf_2 rfl hl (by decide) rfl (fun ls hl => ?_)
  refine lv_iconst (v := (0 : Int32)) hx hb dX7_latestOf_3 (by decide) ?_
  refine lv_istore_n (lv' := [(3, .int (0 : Int32)), (2, .int (-5 : Int32)), (0, .ref (a 0)), (1, .int w1)]) hx hb dX7_latestOf_4 rfl hl (by decide) rfl (fun ls hl => ?_)
  exact L5 w1 5000 (-5 : Int32) (0 : Int32) hm H locs ls B (lv_sub hl [2, 3, 1, 0] rfl)
def f_X7_byesOf_s4 (σ : Mm) (v1 : Int32) (r4 : Int32 → Int32 → Option Int32) (v2 v3 : Int32) : Option Int32 :=
  (f_X7_done σ).bind fun x1 =>
  if x1 ≤ v3 then
    some v2
  else
    (ald 20 (σ 6) v3).bind fun x2 =>
    if x2 = v1 then
      r4 (v2 + (1 : Int32)) (v3 + (1 : Int32))
    else
      r4 (v2 + (0 : Int32)) (v3 + (1 : Int32))
def f_X7_byesOf (σ : Mm) (w1 : Int32) : Option Int32 :=
  wh2 (f_X7_byesOf_s4 σ w1) 5000 (0 : Int32) (0 : Int32)
set_option maxHeartbeats 4000000 in
set_option maxRecDepth 100000 in
theorem c_X7_byesOf (l : Launch) (D : va_G) (cI cZ : ClassId) (a : Nat → Nat) (w1 : Int32) : CTr l D [(cI, FieldType.int), (cZ, FieldType.boolean)] (mW cI cZ a) yX7_byesOf (.code yX7_byesOf cX7_byesOf 4 (some FieldType.int) :: wsL_law) ({ frames := 1, cells := 0, slots := 0, locals := 20 } : Room) [.ref (a 0), .int w1] (fun σ => f_X7_byesOf σ w1) := by
  refine CTr.of (by decide +kernel) (Nat.le_of_ble_eq_true rfl) ?_
  intro σ r hm p e s m below meth c A ls H locs hx hb hr hlk hml hT hown hK hA B hl
  have hown : s.vm.findClass RX7 = some m.cls := hown
  have hl : lv_has ls 4 [(0, .ref (a 0)), (1, .int w1)] := hl
  have hm : f_X7_byesOf σ w1 = some r := hm
  unfold f_X7_byesOf at hm
  have L4 : ∀ (v1 : Int32) (nn : Nat) (v2 : Int32) (v3 : Int32), wh2 (f_X7_byesOf_s4 σ v1) nn v2 v3 = some r → ∀ (H : Heap) (locs : List Loc) (ls : Array Slot), BD D A s.heap ((mW cI cZ a) σ) H locs → lv_has ls 4 [(0, .ref (a 0)), (1, .int v1), (2, .int v2), (3, .int v3)] → W p l e ({ frames := 1, cells := 0, slots := 0, locals := 20 } : Room) s m ([.ref (a 0), .int w1] : List Value).toArray below meth c H locs 0 0 (MQ below (QI D [(cI, FieldType.int), (cZ, FieldType.boolean)] (mW cI cZ a) A (r, σ)) ([.ref (a 0), .int w1] : List Value).toArray s 0 0 A) (F0 m 4 ls []) := by
    intro v1
    refine loop2 (fun r4 ih4 v2 v3 hm H locs ls B hl => ?_)
    unfold f_X7_byesOf_s4 at hm
    refine lv_iload_n hx hb dX7_byesOf_4 rfl (lv_at hl 3 rfl) ?_
    refine lv_aload_n hx hb dX7_byesOf_5 rfl (lv_at hl 0 rfl) ?_
    refine x_callVr (rest := [.int v3]) hx hb hml hT hown hK hA B hl.1 (c_X7_done l D cI cZ a) mi_X7_done mv_X7_done mO_M rfl q857 ⟨rfl, rfl⟩ ⟨Nat.le_of_ble_eq_true rfl, Nat.le_of_ble_eq_true rfl⟩ rfl rfl (Nat.le_of_ble_eq_true rfl) dX7_byesOf_6 hm (fun x1 H locs B hm => ?_)
    refine lv_icmp_ge (tgt := 36) hx hb dX7_byesOf_9 (by decide) (fun q => ?_) (fun q => ?_)
    · have hm := ift hm q
      refine lv_iload_n hx hb dX7_byesOf_36 rfl (lv_at hl 2 rfl) ?_
      exact x_iretr hx hb hr hlk hK B dX7_byesOf_37 hm
    · have hm := iff hm q
      refine lv_iload_n hx hb dX7_byesOf_12 rfl (lv_at hl 2 rfl) ?_
      refine lv_aload_n hx hb dX7_byesOf_13 rfl (lv_at hl 0 rfl) ?_
      refine x_getv (T := TX7) (N := 33) hx hb hT hown hK B mV_byes inlX7 rfl (by decide) q771 rfl dX7_byesOf_14 ?_
      refine lv_iload_n hx hb dX7_byesOf_17 rfl (lv_at hl 3 rfl) ?_
      refine x_iald (t0 := 0) hx hb hK B mA_byes rfl dX7_byesOf_18 hm (fun x2 hm => ?_)
      refine lv_iload_n hx hb dX7_byesOf_19 rfl (lv_at hl 1 rfl) ?_
      refine lv_icmp_ne (tgt := 27) hx hb dX7_byesOf_20 (by decide) (fun q => ?_) (fun q => ?_)
      · have hm := iff hm q
        refine lv_iconst (v := (0 : Int32)) hx hb dX7_byesOf_27 (by decide) ?_
        refine lv_iadd hx hb dX7_byesOf_28 ?_
        refine lv_istore_n (lv' := [(2, .int (v2 + (0 : Int32))), (0, .ref (a 0)), (1, .int v1), (3, .int v3)]) hx hb dX7_byesOf_29 rfl hl (by decide) rfl (fun ls hl => ?_)
        refine lv_iinc (v := (v3 + (1 : Int32))) (lv' := [(3, .int (v3 + (1 : Int32))), (2, .int (v2 + (0 : Int32))), (0, .ref (a 0)), (1, .int v1)]) hx hb dX7_byesOf_30 hl (k := 3) rfl rfl (by decide) rfl (fun ls hl => ?_)
        refine lv_goto (tgt := 4) hx hb dX7_byesOf_33 (by decide) ?_
        exact ih4 (v2 + (0 : Int32)) (v3 + (1 : Int32)) hm H locs ls B (lv_sub hl [2, 3, 1, 0] rfl)
      · have hm := ift hm q
        refine lv_iconst (v := (1 : Int32)) hx hb dX7_byesOf_23 (by decide) ?_
        refine lv_goto (tgt := 28) hx hb dX7_byesOf_24 (by decide) ?_
        refine lv_iadd hx hb dX7_byesOf_28 ?_
        refine lv_istore_n (lv' := [(2, .int (v2 + (1 : Int32))), (0, .ref (a 0)), (1, .int v1), (3, .int v3)]) hx hb dX7_byesOf_29 rfl hl (by decide) rfl (fun ls hl => ?_)
        refine lv_iinc (v := (v3 + (1 : Int32))) (lv' := [(3, .int (v3 + (1 : Int32))), (2, .int (v2 + (1 : Int32))), (0, .ref (a 0)), (1, .int v1)]) hx hb dX7_byesOf_30 hl (k := 3) rfl rfl (by decide) rfl (fun ls hl => ?_)
        refine lv_goto (tgt := 4) hx hb dX7_byesOf_33 (by decide) ?_
        exact ih4 (v2 + (1 : Int32)) (v3 + (1 : Int32)) hm H locs ls B (lv_sub hl [2, 3, 1, 0] rfl)
  refine lv_iconst (v := (0 : Int32)) hx hb dX7_byesOf_0 (by decide) ?_
  refine lv_istore_n (lv' := [(2, .int (0 : Int32)), (0, .ref (a 0)), (1, .int w1)]) hx hb dX7_byesOf_1 rfl hl (by decide) rfl (fun ls hl => ?_)
  refine lv_iconst (v := (0 : Int32)) hx hb dX7_byesOf_2 (by decide) ?_
  refine lv_istore_n (lv' := [(3, .int (0 : Int32)), (2, .int (0 : Int32)), (0, .ref (a 0)), (1, .int w1)]) hx hb dX7_byesOf_3 rfl hl (by decide) rfl (fun ls hl => ?_)
  exact L4 w1 5000 (0 : Int32) (0 : Int32) hm H locs ls B (lv_sub hl [2, 3, 1, 0] rfl)
def f_X7_forfeitsOf_j49 (r4 : Int32 → Int32 → Option Int32) (σ : Mm) (v1 v3 s0 s1 s2 : Int32) : Option Int32 :=
  if s1 = s2 then
    r4 (s0 + (1 : Int32)) (v3 + (1 : Int32))
  else
    r4 (s0 + (0 : Int32)) (v3 + (1 : Int32))
def f_X7_forfeitsOf_s4 (σ : Mm) (v1 : Int32) (r4 : Int32 → Int32 → Option Int32) (v2 v3 : Int32) : Option Int32 :=
  (f_X7_done σ).bind fun x1 =>
  if x1 ≤ v3 then
    some v2
  else
    (f_X7_boardOf σ v1 v3).bind fun x2 =>
    if x2 < 0 then
      r4 (v2 + (0 : Int32)) (v3 + (1 : Int32))
    else
      (ald 120 (σ 9) x2).bind fun x3 =>
      (ald 120 (σ 7) x2).bind fun x4 =>
      if x4 = v1 then
        f_X7_forfeitsOf_j49 r4 σ v1 v3 v2 x3 (4 : Int32)
      else
        f_X7_forfeitsOf_j49 r4 σ v1 v3 v2 x3 (5 : Int32)
def f_X7_forfeitsOf (σ : Mm) (w1 : Int32) : Option Int32 :=
  wh2 (f_X7_forfeitsOf_s4 σ w1) 5000 (0 : Int32) (0 : Int32)
set_option maxHeartbeats 4000000 in
set_option maxRecDepth 100000 in
theorem c_X7_forfeitsOf (l : Launch) (D : va_G) (cI cZ : ClassId) (a : Nat → Nat) (w1 : Int32) : CTr l D [(cI, FieldType.int), (cZ, FieldType.boolean)] (mW cI cZ a) yX7_forfeitsOf (.code yX7_forfeitsOf cX7_forfeitsOf 5 (some FieldType.int) :: wsL_law) ({ frames := 1, cells := 0, slots := 0, locals := 24 } : Room) [.ref (a 0), .int w1] (fun σ => f_X7_forfeitsOf σ w1) := by
  refine CTr.of (by decide +kernel) (Nat.le_of_ble_eq_true rfl) ?_
  intro σ r hm p e s m below meth c A ls H locs hx hb hr hlk hml hT hown hK hA B hl
  have hown : s.vm.findClass RX7 = some m.cls := hown
  have hl : lv_has ls 5 [(0, .ref (a 0)), (1, .int w1)] := hl
  have hm : f_X7_forfeitsOf σ w1 = some r := hm
  unfold f_X7_forfeitsOf at hm
  have L4 : ∀ (v1 : Int32) (nn : Nat) (v2 : Int32) (v3 : Int32), wh2 (f_X7_forfeitsOf_s4 σ v1) nn v2 v3 = some r → ∀ (H : Heap) (locs : List Loc) (ls : Array Slot), BD D A s.heap ((mW cI cZ a) σ) H locs → lv_has ls 5 [(0, .ref (a 0)), (1, .int v1), (2, .int v2), (3, .int v3)] → W p l e ({ frames := 1, cells := 0, slots := 0, locals := 24 } : Room) s m ([.ref (a 0), .int w1] : List Value).toArray below meth c H locs 0 0 (MQ below (QI D [(cI, FieldType.int), (cZ, FieldType.boolean)] (mW cI cZ a) A (r, σ)) ([.ref (a 0), .int w1] : List Value).toArray s 0 0 A) (F0 m 4 ls []) := by
    intro v1
    refine loop2 (fun r4 ih4 v2 v3 hm H locs ls B hl => ?_)
    unfold f_X7_forfeitsOf_s4 at hm
    have j49 : ∀ (v3 : Int32) (s0 : Int32) (s1 : Int32) (s2 : Int32) (H : Heap) (locs : List Loc) (ls : Array Slot), BD D A s.heap ((mW cI cZ a) σ) H locs → lv_has ls 5 [(0, .ref (a 0)), (1, .int v1), (3, .int v3)] → f_X7_forfeitsOf_j49 r4 σ v1 v3 s0 s1 s2 = some r → W p l e ({ frames := 1, cells := 0, slots := 0, locals := 24 } : Room) s m ([.ref (a 0), .int w1] : List Value).toArray below meth c H locs 0 0 (MQ below (QI D [(cI, FieldType.int), (cZ, FieldType.boolean)] (mW cI cZ a) A (r, σ)) ([.ref (a 0), .int w1] : List Value).toArray s 0 0 A) (F0 m 49 ls [.int s2, .int s1, .int s0]) := by
      intro v3 s0 s1 s2 H locs ls B hl hm
      unfold f_X7_forfeitsOf_j49 at hm
      refine lv_icmp_ne (tgt := 56) hx hb dX7_forfeitsOf_49 (by decide) (fun q => ?_) (fun q => ?_)
      · have hm := iff hm q
        refine lv_iconst (v := (0 : Int32)) hx hb dX7_forfeitsOf_56 (by decide) ?_
        refine lv_iadd hx hb dX7_forfeitsOf_57 ?_
        refine lv_istore_n (lv' := [(2, .int (s0 + (0 : Int32))), (0, .ref (a 0)), (1, .int v1), (3, .int v3)]) hx hb dX7_forfeitsOf_58 rfl hl (by decide) rfl (fun ls hl => ?_)
        refine lv_iinc (v := (v3 + (1 : Int32))) (lv' := [(3, .int (v3 + (1 : Int32))), (2, .int (s0 + (0 : Int32))), (0, .ref (a 0)), (1, .int v1)]) hx hb dX7_forfeitsOf_59 hl (k := 3) rfl rfl (by decide) rfl (fun ls hl => ?_)
        refine lv_goto (tgt := 4) hx hb dX7_forfeitsOf_62 (by decide) ?_
        exact ih4 (s0 + (0 : Int32)) (v3 + (1 : Int32)) hm H locs ls B (lv_sub hl [2, 3, 1, 0] rfl)
      · have hm := ift hm q
        refine lv_iconst (v := (1 : Int32)) hx hb dX7_forfeitsOf_52 (by decide) ?_
        refine lv_goto (tgt := 57) hx hb dX7_forfeitsOf_53 (by decide) ?_
        refine lv_iadd hx hb dX7_forfeitsOf_57 ?_
        refine lv_istore_n (lv' := [(2, .int (s0 + (1 : Int32))), (0, .ref (a 0)), (1, .int v1), (3, .int v3)]) hx hb dX7_forfeitsOf_58 rfl hl (by decide) rfl (fun ls hl => ?_)
        refine lv_iinc (v := (v3 + (1 : Int32))) (lv' := [(3, .int (v3 + (1 : Int32))), (2, .int (s0 + (1 : Int32))), (0, .ref (a 0)), (1, .int v1)]) hx hb dX7_forfeitsOf_59 hl (k := 3) rfl rfl (by decide) rfl (fun ls hl => ?_)
        refine lv_goto (tgt := 4) hx hb dX7_forfeitsOf_62 (by decide) ?_
        exact ih4 (s0 + (1 : Int32)) (v3 + (1 : Int32)) hm H locs ls B (lv_sub hl [2, 3, 1, 0] rfl)
    refine lv_iload_n hx hb dX7_forfeitsOf_4 rfl (lv_at hl 3 rfl) ?_
    refine lv_aload_n hx hb dX7_forfeitsOf_5 rfl (lv_at hl 0 rfl) ?_
    refine x_callVr (rest := [.int v3]) hx hb hml hT hown hK hA B hl.1 (c_X7_done l D cI cZ a) mi_X7_done mv_X7_done mO_M rfl q857 ⟨rfl, rfl⟩ ⟨Nat.le_of_ble_eq_true rfl, Nat.le_of_ble_eq_true rfl⟩ rfl rfl (Nat.le_of_ble_eq_true rfl) dX7_forfeitsOf_6 hm (fun x1 H locs B hm => ?_)
    refine lv_icmp_ge (tgt := 65) hx hb dX7_forfeitsOf_9 (by decide) (fun q => ?_) (fun q => ?_)
    · have hm := ift hm q
      refine lv_iload_n hx hb dX7_forfeitsOf_65 rfl (lv_at hl 2 rfl) ?_
      exact x_iretr hx hb hr hlk hK B dX7_forfeitsOf_66 hm
    · have hm := iff hm q
      refine lv_aload_n hx hb dX7_forfeitsOf_12 rfl (lv_at hl 0 rfl) ?_
      refine lv_iload_n hx hb dX7_forfeitsOf_13 rfl (lv_at hl 1 rfl) ?_
      refine lv_iload_n hx hb dX7_forfeitsOf_14 rfl (lv_at hl 3 rfl) ?_
      refine x_callVr (rest := []) hx hb hml hT hown hK hA B hl.1 (c_X7_boardOf l D cI cZ a v1 v3) mi_X7_boardOf mv_X7_boardOf mO_M rfl q866 ⟨rfl, rfl⟩ ⟨Nat.le_of_ble_eq_true rfl, Nat.le_of_ble_eq_true rfl⟩ rfl rfl (Nat.le_of_ble_eq_true rfl) dX7_forfeitsOf_15 hm (fun x2 H locs B hm => ?_)
      refine lv_istore (lv' := [(4, .int x2), (0, .ref (a 0)), (1, .int v1), (2, .int v2), (3, .int v3)]) hx hb dX7_forfeitsOf_18 hl (by decide) rfl (fun ls hl => ?_)
      refine lv_iload_n hx hb dX7_forfeitsOf_20 rfl (lv_at hl 3 rfl) ?_
      refine lv_iload hx hb dX7_forfeitsOf_21 (lv_at hl 0 rfl) ?_
      refine lv_if_lt (tgt := 56) hx hb dX7_forfeitsOf_23 (by decide) (fun q => ?_) (fun q => ?_)
      · have hm := ift hm q
        refine lv_iconst (v := (0 : Int32)) hx hb dX7_forfeitsOf_56 (by decide) ?_
        refine lv_iadd hx hb dX7_forfeitsOf_57 ?_
        refine lv_istore_n (lv' := [(2, .int (v2 + (0 : Int32))), (4, .int x2), (0, .ref (a 0)), (1, .int v1), (3, .int v3)]) hx hb dX7_forfeitsOf_58 rfl hl (by decide) rfl (fun ls hl => ?_)
        refine lv_iinc (v := (v3 + (1 : Int32))) (lv' := [(3, .int (v3 + (1 : Int32))), (2, .int (v2 + (0 : Int32))), (4, .int x2), (0, .ref (a 0)), (1, .int v1)]) hx hb dX7_forfeitsOf_59 hl (k := 4) rfl rfl (by decide) rfl (fun ls hl => ?_)
        refine lv_goto (tgt := 4) hx hb dX7_forfeitsOf_62 (by decide) ?_
        exact ih4 (v2 + (0 : Int32)) (v3 + (1 : Int32)) hm H locs ls B (lv_sub hl [3, 4, 1, 0] rfl)
      · have hm := iff hm q
        refine lv_aload_n hx hb dX7_forfeitsOf_26 rfl (lv_at hl 1 rfl) ?_
        refine x_getv (T := TX7) (N := 33) hx hb hT hown hK B mV_results0 inlX7 rfl (by decide) q774 rfl dX7_forfeitsOf_27 ?_
        refine lv_iload hx hb dX7_forfeitsOf_30 (lv_at hl 0 rfl) ?_
        refine x_iald (t0 := 0) hx hb hK B mA_results0 rfl dX7_forfeitsOf_32 hm (fun x3 hm => ?_)
        refine lv_aload_n hx hb dX7_forfeitsOf_33 rfl (lv_at hl 1 rfl) ?_
        refine x_getv (T := TX7) (N := 33) hx hb hT hown hK B mV_whites inlX7 rfl (by decide) q772 rfl dX7_forfeitsOf_34 ?_
        refine lv_iload hx hb dX7_forfeitsOf_37 (lv_at hl 0 rfl) ?_
        refine x_iald (t0 := 0) hx hb hK B mA_whites rfl dX7_forfeitsOf_39 hm (fun x4 hm => ?_)
        refine lv_iload_n hx hb dX7_forfeitsOf_40 rfl (lv_at hl 2 rfl) ?_
        refine lv_icmp_ne (tgt := 48) hx hb dX7_forfeitsOf_41 (by decide) (fun q => ?_) (fun q => ?_)
        · have hm := iff hm q
          refine lv_iconst (v := (5 : Int32)) hx hb dX7_forfeitsOf_48 (by decide) ?_
          exact j49 v3 v2 x3 (5 : Int32) H locs ls B (lv_sub hl [1, 2, 4] rfl) hm
        · have hm := ift hm q
          refine lv_iconst (v := (4 : Int32)) hx hb dX7_forfeitsOf_44 (by decide) ?_
          refine lv_goto (tgt := 49) hx hb dX7_forfeitsOf_45 (by decide) ?_
          exact j49 v3 v2 x3 (4 : Int32) H locs ls B (lv_sub hl [1, 2, 4] rfl) hm
  refine lv_iconst (v := (0 : Int32)) hx hb dX7_forfeitsOf_0 (by decide) ?_
  refine lv_istore_n (lv' := [(2, .int (0 : Int32)), (0, .ref (a 0)), (1, .int w1)]) hx hb dX7_forfeitsOf_1 rfl hl (by decide) rfl (fun ls hl => ?_)
  refine lv_iconst (v := (0 : Int32)) hx hb dX7_forfeitsOf_2 (by decide) ?_
  refine lv_istore_n (lv' := [(3, .int (0 : Int32)), (2, .int (0 : Int32)), (0, .ref (a 0)), (1, .int w1)]) hx hb dX7_forfeitsOf_3 rfl hl (by decide) rfl (fun ls hl => ?_)
  exact L4 w1 5000 (0 : Int32) (0 : Int32) hm H locs ls B (lv_sub hl [2, 3, 1, 0] rfl)
def f_X7_opponentsOf_j81 (σ : Mm) (v2 v3 v4 : Int32) : Option Int32 :=
  if v2 = 0 then
    some v3
  else
    if (1000000 : Int32) ≤ v4 then
      some v3
    else
      some (v3 - v4)
def f_X7_opponentsOf_j47 (r9 : Int32 → Int32 → Int32 → Option Int32) (σ : Mm) (v1 v2 v3 v4 v5 v6 s0 : Int32) : Option Int32 :=
  if v6 < 0 then
    r9 (v3 + s0) v4 (v5 + (1 : Int32))
  else
    if v4 ≤ s0 then
      r9 (v3 + s0) v4 (v5 + (1 : Int32))
    else
      r9 (v3 + s0) s0 (v5 + (1 : Int32))
def f_X7_opponentsOf_s9 (σ : Mm) (v1 : Int32) (v2 : Int32) (r9 : Int32 → Int32 → Int32 → Option Int32) (v3 v4 v5 : Int32) : Option Int32 :=
  (f_X7_done σ).bind fun x1 =>
  if x1 ≤ v5 then
    f_X7_opponentsOf_j81 σ v2 v3 v4
  else
    (f_X7_playedIn σ v1 v5).bind fun x2 =>
    if x2 < 0 then
      f_X7_opponentsOf_j47 r9 σ v1 v2 v3 v4 v5 x2 (0 : Int32)
    else
      (f_X7_otherOn σ x2 v1).bind fun x3 =>
      (f_X7_pointsOf σ x3).bind fun x4 =>
      f_X7_opponentsOf_j47 r9 σ v1 v2 v3 v4 v5 x2 x4
def f_X7_opponentsOf (σ : Mm) (w1 : Int32) (w2 : Int32) : Option Int32 :=
  wh3 (f_X7_opponentsOf_s9 σ w1 w2) 5000 (0 : Int32) (1000000 : Int32) (0 : Int32)
set_option maxHeartbeats 4000000 in
set_option maxRecDepth 100000 in
theorem c_X7_opponentsOf (l : Launch) (D : va_G) (cI cZ : ClassId) (a : Nat → Nat) (w1 : Int32) (w2 : Int32) : CTr l D [(cI, FieldType.int), (cZ, FieldType.boolean)] (mW cI cZ a) yX7_opponentsOf (.code yX7_opponentsOf cX7_opponentsOf 8 (some FieldType.int) :: wsL_law) ({ frames := 4, cells := 0, slots := 0, locals := 92 } : Room) [.ref (a 0), .int w1, .int w2] (fun σ => f_X7_opponentsOf σ w1 w2) := by
  refine CTr.of (by decide +kernel) (Nat.le_of_ble_eq_true rfl) ?_
  intro σ r hm p e s m below meth c A ls H locs hx hb hr hlk hml hT hown hK hA B hl
  have hown : s.vm.findClass RX7 = some m.cls := hown
  have hl : lv_has ls 8 [(0, .ref (a 0)), (1, .int w1), (2, .int w2)] := hl
  have hm : f_X7_opponentsOf σ w1 w2 = some r := hm
  unfold f_X7_opponentsOf at hm
  have j81 : ∀ (v2 : Int32) (v3 : Int32) (v4 : Int32) (H : Heap) (locs : List Loc) (ls : Array Slot), BD D A s.heap ((mW cI cZ a) σ) H locs → lv_has ls 8 [(2, .int v2), (3, .int v3), (4, .int v4)] → f_X7_opponentsOf_j81 σ v2 v3 v4 = some r → W p l e ({ frames := 4, cells := 0, slots := 0, locals := 92 } : Room) s m ([.ref (a 0), .int w1, .int w2] : List Value).toArray below meth c H locs 0 0 (MQ below (QI D [(cI, FieldType.int), (cZ, FieldType.boolean)] (mW cI cZ a) A (r, σ)) ([.ref (a 0), .int w1, .int w2] : List Value).toArray s 0 0 A) (F0 m 81 ls []) := by
    intro v2 v3 v4 H locs ls B hl hm
    unfold f_X7_opponentsOf_j81 at hm
    refine lv_iload_n hx hb dX7_opponentsOf_81 rfl (lv_at hl 0 rfl) ?_
    refine lv_if_eq (tgt := 99) hx hb dX7_opponentsOf_82 (by decide) (fun q => ?_) (fun q => ?_)
    · have hm := ift hm q
      refine lv_iload_n hx hb dX7_opponentsOf_99 rfl (lv_at hl 1 rfl) ?_
      exact x_iretr hx hb hr hlk hK B dX7_opponentsOf_100 hm
    · have hm := iff hm q
      refine lv_iload hx hb dX7_opponentsOf_85 (lv_at hl 2 rfl) ?_
      refine lv_ldc (v := (1000000 : Int32)) hx hb hown (hT _ q875) dX7_opponentsOf_87 ?_
      refine lv_icmp_ge (tgt := 99) hx hb dX7_opponentsOf_89 (by decide) (fun q => ?_) (fun q => ?_)
      · have hm := ift hm q
        refine lv_iload_n hx hb dX7_opponentsOf_99 rfl (lv_at hl 1 rfl) ?_
        exact x_iretr hx hb hr hlk hK B dX7_opponentsOf_100 hm
      · have hm := iff hm q
        refine lv_iload_n hx hb dX7_opponentsOf_92 rfl (lv_at hl 1 rfl) ?_
        refine lv_iload hx hb dX7_opponentsOf_93 (lv_at hl 2 rfl) ?_
        refine lv_isub hx hb dX7_opponentsOf_95 ?_
        refine lv_goto (tgt := 100) hx hb dX7_opponentsOf_96 (by decide) ?_
        exact x_iretr hx hb hr hlk hK B dX7_opponentsOf_100 hm
  have L9 : ∀ (v1 : Int32) (v2 : Int32) (nn : Nat) (v3 : Int32) (v4 : Int32) (v5 : Int32), wh3 (f_X7_opponentsOf_s9 σ v1 v2) nn v3 v4 v5 = some r → ∀ (H : Heap) (locs : List Loc) (ls : Array Slot), BD D A s.heap ((mW cI cZ a) σ) H locs → lv_has ls 8 [(0, .ref (a 0)), (1, .int v1), (2, .int v2), (3, .int v3), (4, .int v4), (5, .int v5)] → W p l e ({ frames := 4, cells := 0, slots := 0, locals := 92 } : Room) s m ([.ref (a 0), .int w1, .int w2] : List Value).toArray below meth c H locs 0 0 (MQ below (QI D [(cI, FieldType.int), (cZ, FieldType.boolean)] (mW cI cZ a) A (r, σ)) ([.ref (a 0), .int w1, .int w2] : List Value).toArray s 0 0 A) (F0 m 9 ls []) := by
    intro v1 v2
    refine loop3 (fun r9 ih9 v3 v4 v5 hm H locs ls B hl => ?_)
    unfold f_X7_opponentsOf_s9 at hm
    have j47 : ∀ (v3 : Int32) (v4 : Int32) (v5 : Int32) (v6 : Int32) (s0 : Int32) (H : Heap) (locs : List Loc) (ls : Array Slot), BD D A s.heap ((mW cI cZ a) σ) H locs → lv_has ls 8 [(0, .ref (a 0)), (1, .int v1), (2, .int v2), (3, .int v3), (4, .int v4), (5, .int v5), (6, .int v6)] → f_X7_opponentsOf_j47 r9 σ v1 v2 v3 v4 v5 v6 s0 = some r → W p l e ({ frames := 4, cells := 0, slots := 0, locals := 92 } : Room) s m ([.ref (a 0), .int w1, .int w2] : List Value).toArray below meth c H locs 0 0 (MQ below (QI D [(cI, FieldType.int), (cZ, FieldType.boolean)] (mW cI cZ a) A (r, σ)) ([.ref (a 0), .int w1, .int w2] : List Value).toArray s 0 0 A) (F0 m 47 ls [.int s0]) := by
      intro v3 v4 v5 v6 s0 H locs ls B hl hm
      unfold f_X7_opponentsOf_j47 at hm
      refine lv_istore (lv' := [(7, .int s0), (0, .ref (a 0)), (1, .int v1), (2, .int v2), (3, .int v3), (4, .int v4), (5, .int v5), (6, .int v6)]) hx hb dX7_opponentsOf_47 hl (by decide) rfl (fun ls hl => ?_)
      refine lv_iload_n hx hb dX7_opponentsOf_49 rfl (lv_at hl 4 rfl) ?_
      refine lv_iload hx hb dX7_opponentsOf_50 (lv_at hl 0 rfl) ?_
      refine lv_iadd hx hb dX7_opponentsOf_52 ?_
      refine lv_istore_n (lv' := [(3, .int (v3 + s0)), (7, .int s0), (0, .ref (a 0)), (1, .int v1), (2, .int v2), (4, .int v4), (5, .int v5), (6, .int v6)]) hx hb dX7_opponentsOf_53 rfl hl (by decide) rfl (fun ls hl => ?_)
      refine lv_iload hx hb dX7_opponentsOf_54 (lv_at hl 7 rfl) ?_
      refine lv_if_lt (tgt := 71) hx hb dX7_opponentsOf_56 (by decide) (fun q => ?_) (fun q => ?_)
      · have hm := ift hm q
        refine lv_iload hx hb dX7_opponentsOf_71 (lv_at hl 5 rfl) ?_
        refine lv_istore (lv' := [(4, .int v4), (3, .int (v3 + s0)), (7, .int s0), (0, .ref (a 0)), (1, .int v1), (2, .int v2), (5, .int v5), (6, .int v6)]) hx hb dX7_opponentsOf_73 hl (by decide) rfl (fun ls hl => ?_)
        refine lv_iinc (v := (v5 + (1 : Int32))) (lv' := [(5, .int (v5 + (1 : Int32))), (4, .int v4), (3, .int (v3 + s0)), (7, .int s0), (0, .ref (a 0)), (1, .int v1), (2, .int v2), (6, .int v6)]) hx hb dX7_opponentsOf_75 hl (k := 6) rfl rfl (by decide) rfl (fun ls hl => ?_)
        refine lv_goto (tgt := 9) hx hb dX7_opponentsOf_78 (by decide) ?_
        exact ih9 (v3 + s0) v4 (v5 + (1 : Int32)) hm H locs ls B (lv_sub hl [4, 5, 6, 2, 1, 0] rfl)
      · have hm := iff hm q
        refine lv_iload hx hb dX7_opponentsOf_59 (lv_at hl 1 rfl) ?_
        refine lv_iload hx hb dX7_opponentsOf_61 (lv_at hl 5 rfl) ?_
        refine lv_icmp_ge (tgt := 71) hx hb dX7_opponentsOf_63 (by decide) (fun q => ?_) (fun q => ?_)
        · have hm := ift hm q
          refine lv_iload hx hb dX7_opponentsOf_71 (lv_at hl 5 rfl) ?_
          refine lv_istore (lv' := [(4, .int v4), (3, .int (v3 + s0)), (7, .int s0), (0, .ref (a 0)), (1, .int v1), (2, .int v2), (5, .int v5), (6, .int v6)]) hx hb dX7_opponentsOf_73 hl (by decide) rfl (fun ls hl => ?_)
          refine lv_iinc (v := (v5 + (1 : Int32))) (lv' := [(5, .int (v5 + (1 : Int32))), (4, .int v4), (3, .int (v3 + s0)), (7, .int s0), (0, .ref (a 0)), (1, .int v1), (2, .int v2), (6, .int v6)]) hx hb dX7_opponentsOf_75 hl (k := 6) rfl rfl (by decide) rfl (fun ls hl => ?_)
          refine lv_goto (tgt := 9) hx hb dX7_opponentsOf_78 (by decide) ?_
          exact ih9 (v3 + s0) v4 (v5 + (1 : Int32)) hm H locs ls B (lv_sub hl [4, 5, 6, 2, 1, 0] rfl)
        · have hm := iff hm q
          refine lv_iload hx hb dX7_opponentsOf_66 (lv_at hl 1 rfl) ?_
          refine lv_goto (tgt := 73) hx hb dX7_opponentsOf_68 (by decide) ?_
          refine lv_istore (lv' := [(4, .int s0), (3, .int (v3 + s0)), (7, .int s0), (0, .ref (a 0)), (1, .int v1), (2, .int v2), (5, .int v5), (6, .int v6)]) hx hb dX7_opponentsOf_73 hl (by decide) rfl (fun ls hl => ?_)
          refine lv_iinc (v := (v5 + (1 : Int32))) (lv' := [(5, .int (v5 + (1 : Int32))), (4, .int s0), (3, .int (v3 + s0)), (7, .int s0), (0, .ref (a 0)), (1, .int v1), (2, .int v2), (6, .int v6)]) hx hb dX7_opponentsOf_75 hl (k := 6) rfl rfl (by decide) rfl (fun ls hl => ?_)
          refine lv_goto (tgt := 9) hx hb dX7_opponentsOf_78 (by decide) ?_
          exact ih9 (v3 + s0) s0 (v5 + (1 : Int32)) hm H locs ls B (lv_sub hl [4, 5, 6, 2, 1, 0] rfl)
    refine lv_iload hx hb dX7_opponentsOf_9 (lv_at hl 5 rfl) ?_
    refine lv_aload_n hx hb dX7_opponentsOf_11 rfl (lv_at hl 0 rfl) ?_
    refine x_callVr (rest := [.int v5]) hx hb hml hT hown hK hA B hl.1 (c_X7_done l D cI cZ a) mi_X7_done mv_X7_done mO_M rfl q857 ⟨rfl, rfl⟩ ⟨Nat.le_of_ble_eq_true rfl, Nat.le_of_ble_eq_true rfl⟩ rfl rfl (Nat.le_of_ble_eq_true rfl) dX7_opponentsOf_12 hm (fun x1 H locs B hm => ?_)
    refine lv_icmp_ge (tgt := 81) hx hb dX7_opponentsOf_15 (by decide) (fun q => ?_) (fun q => ?_)
    · have hm := ift hm q
      exact j81 v2 v3 v4 H locs ls B (lv_sub hl [2, 3, 4] rfl) hm
    · have hm := iff hm q
      refine lv_aload_n hx hb dX7_opponentsOf_18 rfl (lv_at hl 0 rfl) ?_
      refine lv_iload_n hx hb dX7_opponentsOf_19 rfl (lv_at hl 1 rfl) ?_
      refine lv_iload hx hb dX7_opponentsOf_20 (lv_at hl 5 rfl) ?_
      refine x_callVr (rest := []) hx hb hml hT hown hK hA B hl.1 (c_X7_playedIn l D cI cZ a v1 v5) mi_X7_playedIn mv_X7_playedIn mO_M rfl q876 ⟨rfl, rfl⟩ ⟨Nat.le_of_ble_eq_true rfl, Nat.le_of_ble_eq_true rfl⟩ rfl rfl (Nat.le_of_ble_eq_true rfl) dX7_opponentsOf_22 hm (fun x2 H locs B hm => ?_)
      refine lv_istore (lv' := [(6, .int x2), (0, .ref (a 0)), (1, .int v1), (2, .int v2), (3, .int v3), (4, .int v4), (5, .int v5)]) hx hb dX7_opponentsOf_25 hl (by decide) rfl (fun ls hl => ?_)
      refine lv_iload hx hb dX7_opponentsOf_27 (lv_at hl 0 rfl) ?_
      refine lv_if_lt (tgt := 46) hx hb dX7_opponentsOf_29 (by decide) (fun q => ?_) (fun q => ?_)
      · have hm := ift hm q
        refine lv_iconst (v := (0 : Int32)) hx hb dX7_opponentsOf_46 (by decide) ?_
        exact j47 v3 v4 v5 x2 (0 : Int32) H locs ls B (lv_sub hl [1, 2, 3, 4, 5, 6, 0] rfl) hm
      · have hm := iff hm q
        refine lv_aload_n hx hb dX7_opponentsOf_32 rfl (lv_at hl 1 rfl) ?_
        refine lv_aload_n hx hb dX7_opponentsOf_33 rfl (lv_at hl 1 rfl) ?_
        refine lv_iload hx hb dX7_opponentsOf_34 (lv_at hl 0 rfl) ?_
        refine lv_iload_n hx hb dX7_opponentsOf_36 rfl (lv_at hl 2 rfl) ?_
        refine x_callVr (rest := [.ref (a 0)]) hx hb hml hT hown hK hA B hl.1 (c_X7_otherOn l D cI cZ a x2 v1) mi_X7_otherOn mv_X7_otherOn mO_M rfl q883 ⟨rfl, rfl⟩ ⟨Nat.le_of_ble_eq_true rfl, Nat.le_of_ble_eq_true rfl⟩ rfl rfl (Nat.le_of_ble_eq_true rfl) dX7_opponentsOf_37 hm (fun x3 H locs B hm => ?_)
        refine x_callVr (rest := []) hx hb hml hT hown hK hA B hl.1 (c_X7_pointsOf l D cI cZ a x3) mi_X7_pointsOf mv_X7_pointsOf mO_M rfl q854 ⟨rfl, rfl⟩ ⟨Nat.le_of_ble_eq_true rfl, Nat.le_of_ble_eq_true rfl⟩ rfl rfl (Nat.le_of_ble_eq_true rfl) dX7_opponentsOf_40 hm (fun x4 H locs B hm => ?_)
        refine lv_goto (tgt := 47) hx hb dX7_opponentsOf_43 (by decide) ?_
        exact j47 v3 v4 v5 x2 x4 H locs ls B (lv_sub hl [1, 2, 3, 4, 5, 6, 0] rfl) hm
  refine lv_iconst (v := (0 : Int32)) hx hb dX7_opponentsOf_0 (by decide) ?_
  refine lv_istore_n (lv' := [(3, .int (0 : Int32)), (0, .ref (a 0)), (1, .int w1), (2, .int w2)]) hx hb dX7_opponentsOf_1 rfl hl (by decide) rfl (fun ls hl => ?_)
  refine lv_ldc (v := (1000000 : Int32)) hx hb hown (hT _ q875) dX7_opponentsOf_2 ?_
  refine lv_istore (lv' := [(4, .int (1000000 : Int32)), (3, .int (0 : Int32)), (0, .ref (a 0)), (1, .int w1), (2, .int w2)]) hx hb dX7_opponentsOf_4 hl (by decide) rfl (fun ls hl => ?_)
  refine lv_iconst (v := (0 : Int32)) hx hb dX7_opponentsOf_6 (by decide) ?_
  refine lv_istore (lv' := [(5, .int (0 : Int32)), (4, .int (1000000 : Int32)), (3, .int (0 : Int32)), (0, .ref (a 0)), (1, .int w1), (2, .int w2)]) hx hb dX7_opponentsOf_7 hl (by decide) rfl (fun ls hl => ?_)
  exact L9 w1 w2 5000 (0 : Int32) (1000000 : Int32) (0 : Int32) hm H locs ls B (lv_sub hl [3, 4, 5, 2, 1, 0] rfl)
def f_X7_beatenOf_s4 (σ : Mm) (v1 : Int32) (r4 : Int32 → Int32 → Option Int32) (v2 v3 : Int32) : Option Int32 :=
  (f_X7_done σ).bind fun x1 =>
  if x1 ≤ v3 then
    some v2
  else
    (f_X7_playedIn σ v1 v3).bind fun x2 =>
    if x2 < 0 then
      r4 (v2 + (0 : Int32)) (v3 + (1 : Int32))
    else
      (f_X7_madeOn σ x2 v1).bind fun x3 =>
      (f_X7_otherOn σ x2 v1).bind fun x4 =>
      (f_X7_pointsOf σ x4).bind fun x5 =>
      r4 (v2 + (x3 * x5)) (v3 + (1 : Int32))
def f_X7_beatenOf (σ : Mm) (w1 : Int32) : Option Int32 :=
  wh2 (f_X7_beatenOf_s4 σ w1) 5000 (0 : Int32) (0 : Int32)
set_option maxHeartbeats 4000000 in
set_option maxRecDepth 100000 in
theorem c_X7_beatenOf (l : Launch) (D : va_G) (cI cZ : ClassId) (a : Nat → Nat) (w1 : Int32) : CTr l D [(cI, FieldType.int), (cZ, FieldType.boolean)] (mW cI cZ a) yX7_beatenOf (.code yX7_beatenOf cX7_beatenOf 5 (some FieldType.int) :: wsL_law) ({ frames := 4, cells := 0, slots := 0, locals := 92 } : Room) [.ref (a 0), .int w1] (fun σ => f_X7_beatenOf σ w1) := by
  refine CTr.of (by decide +kernel) (Nat.le_of_ble_eq_true rfl) ?_
  intro σ r hm p e s m below meth c A ls H locs hx hb hr hlk hml hT hown hK hA B hl
  have hown : s.vm.findClass RX7 = some m.cls := hown
  have hl : lv_has ls 5 [(0, .ref (a 0)), (1, .int w1)] := hl
  have hm : f_X7_beatenOf σ w1 = some r := hm
  unfold f_X7_beatenOf at hm
  have L4 : ∀ (v1 : Int32) (nn : Nat) (v2 : Int32) (v3 : Int32), wh2 (f_X7_beatenOf_s4 σ v1) nn v2 v3 = some r → ∀ (H : Heap) (locs : List Loc) (ls : Array Slot), BD D A s.heap ((mW cI cZ a) σ) H locs → lv_has ls 5 [(0, .ref (a 0)), (1, .int v1), (2, .int v2), (3, .int v3)] → W p l e ({ frames := 4, cells := 0, slots := 0, locals := 92 } : Room) s m ([.ref (a 0), .int w1] : List Value).toArray below meth c H locs 0 0 (MQ below (QI D [(cI, FieldType.int), (cZ, FieldType.boolean)] (mW cI cZ a) A (r, σ)) ([.ref (a 0), .int w1] : List Value).toArray s 0 0 A) (F0 m 4 ls []) := by
    intro v1
    refine loop2 (fun r4 ih4 v2 v3 hm H locs ls B hl => ?_)
    unfold f_X7_beatenOf_s4 at hm
    refine lv_iload_n hx hb dX7_beatenOf_4 rfl (lv_at hl 3 rfl) ?_
    refine lv_aload_n hx hb dX7_beatenOf_5 rfl (lv_at hl 0 rfl) ?_
    refine x_callVr (rest := [.int v3]) hx hb hml hT hown hK hA B hl.1 (c_X7_done l D cI cZ a) mi_X7_done mv_X7_done mO_M rfl q857 ⟨rfl, rfl⟩ ⟨Nat.le_of_ble_eq_true rfl, Nat.le_of_ble_eq_true rfl⟩ rfl rfl (Nat.le_of_ble_eq_true rfl) dX7_beatenOf_6 hm (fun x1 H locs B hm => ?_)
    refine lv_icmp_ge (tgt := 57) hx hb dX7_beatenOf_9 (by decide) (fun q => ?_) (fun q => ?_)
    · have hm := ift hm q
      refine lv_iload_n hx hb dX7_beatenOf_57 rfl (lv_at hl 2 rfl) ?_
      exact x_iretr hx hb hr hlk hK B dX7_beatenOf_58 hm
    · have hm := iff hm q
      refine lv_aload_n hx hb dX7_beatenOf_12 rfl (lv_at hl 0 rfl) ?_
      refine lv_iload_n hx hb dX7_beatenOf_13 rfl (lv_at hl 1 rfl) ?_
      refine lv_iload_n hx hb dX7_beatenOf_14 rfl (lv_at hl 3 rfl) ?_
      refine x_callVr (rest := []) hx hb hml hT hown hK hA B hl.1 (c_X7_playedIn l D cI cZ a v1 v3) mi_X7_playedIn mv_X7_playedIn mO_M rfl q876 ⟨rfl, rfl⟩ ⟨Nat.le_of_ble_eq_true rfl, Nat.le_of_ble_eq_true rfl⟩ rfl rfl (Nat.le_of_ble_eq_true rfl) dX7_beatenOf_15 hm (fun x2 H locs B hm => ?_)
      refine lv_istore (lv' := [(4, .int x2), (0, .ref (a 0)), (1, .int v1), (2, .int v2), (3, .int v3)]) hx hb dX7_beatenOf_18 hl (by decide) rfl (fun ls hl => ?_)
      refine lv_iload_n hx hb dX7_beatenOf_20 rfl (lv_at hl 3 rfl) ?_
      refine lv_iload hx hb dX7_beatenOf_21 (lv_at hl 0 rfl) ?_
      refine lv_if_lt (tgt := 48) hx hb dX7_beatenOf_23 (by decide) (fun q => ?_) (fun q => ?_)
      · have hm := ift hm q
        refine lv_iconst (v := (0 : Int32)) hx hb dX7_beatenOf_48 (by decide) ?_
        refine lv_iadd hx hb dX7_beatenOf_49 ?_
        refine lv_istore_n (lv' := [(2, .int (v2 + (0 : Int32))), (4, .int x2), (0, .ref (a 0)), (1, .int v1), (3, .int v3)]) hx hb dX7_beatenOf_50 rfl hl (by decide) rfl (fun ls hl => ?_)
        refine lv_iinc (v := (v3 + (1 : Int32))) (lv' := [(3, .int (v3 + (1 : Int32))), (2, .int (v2 + (0 : Int32))), (4, .int x2), (0, .ref (a 0)), (1, .int v1)]) hx hb dX7_beatenOf_51 hl (k := 4) rfl rfl (by decide) rfl (fun ls hl => ?_)
        refine lv_goto (tgt := 4) hx hb dX7_beatenOf_54 (by decide) ?_
        exact ih4 (v2 + (0 : Int32)) (v3 + (1 : Int32)) hm H locs ls B (lv_sub hl [3, 4, 1, 0] rfl)
      · have hm := iff hm q
        refine lv_aload_n hx hb dX7_beatenOf_26 rfl (lv_at hl 1 rfl) ?_
        refine lv_iload hx hb dX7_beatenOf_27 (lv_at hl 0 rfl) ?_
        refine lv_iload_n hx hb dX7_beatenOf_29 rfl (lv_at hl 2 rfl) ?_
        refine x_callVr (rest := [.int v2]) hx hb hml hT hown hK hA B hl.1 (c_X7_madeOn l D cI cZ a x2 v1) mi_X7_madeOn mv_X7_madeOn mO_M rfl q869 ⟨rfl, rfl⟩ ⟨Nat.le_of_ble_eq_true rfl, Nat.le_of_ble_eq_true rfl⟩ rfl rfl (Nat.le_of_ble_eq_true rfl) dX7_beatenOf_30 hm (fun x3 H locs B hm => ?_)
        refine lv_aload_n hx hb dX7_beatenOf_33 rfl (lv_at hl 1 rfl) ?_
        refine lv_aload_n hx hb dX7_beatenOf_34 rfl (lv_at hl 1 rfl) ?_
        refine lv_iload hx hb dX7_beatenOf_35 (lv_at hl 0 rfl) ?_
        refine lv_iload_n hx hb dX7_beatenOf_37 rfl (lv_at hl 2 rfl) ?_
        refine x_callVr (rest := [.ref (a 0), .int x3, .int v2]) hx hb hml hT hown hK hA B hl.1 (c_X7_otherOn l D cI cZ a x2 v1) mi_X7_otherOn mv_X7_otherOn mO_M rfl q883 ⟨rfl, rfl⟩ ⟨Nat.le_of_ble_eq_true rfl, Nat.le_of_ble_eq_true rfl⟩ rfl rfl (Nat.le_of_ble_eq_true rfl) dX7_beatenOf_38 hm (fun x4 H locs B hm => ?_)
        refine x_callVr (rest := [.int x3, .int v2]) hx hb hml hT hown hK hA B hl.1 (c_X7_pointsOf l D cI cZ a x4) mi_X7_pointsOf mv_X7_pointsOf mO_M rfl q854 ⟨rfl, rfl⟩ ⟨Nat.le_of_ble_eq_true rfl, Nat.le_of_ble_eq_true rfl⟩ rfl rfl (Nat.le_of_ble_eq_true rfl) dX7_beatenOf_41 hm (fun x5 H locs B hm => ?_)
        refine lv_imul hx hb dX7_beatenOf_44 ?_
        refine lv_goto (tgt := 49) hx hb dX7_beatenOf_45 (by decide) ?_
        refine lv_iadd hx hb dX7_beatenOf_49 ?_
        refine lv_istore_n (lv' := [(2, .int (v2 + (x3 * x5))), (4, .int x2), (0, .ref (a 0)), (1, .int v1), (3, .int v3)]) hx hb dX7_beatenOf_50 rfl hl (by decide) rfl (fun ls hl => ?_)
        refine lv_iinc (v := (v3 + (1 : Int32))) (lv' := [(3, .int (v3 + (1 : Int32))), (2, .int (v2 + (x3 * x5))), (4, .int x2), (0, .ref (a 0)), (1, .int v1)]) hx hb dX7_beatenOf_51 hl (k := 4) rfl rfl (by decide) rfl (fun ls hl => ?_)
        refine lv_goto (tgt := 4) hx hb dX7_beatenOf_54 (by decide) ?_
        exact ih4 (v2 + (x3 * x5)) (v3 + (1 : Int32)) hm H locs ls B (lv_sub hl [3, 4, 1, 0] rfl)
  refine lv_iconst (v := (0 : Int32)) hx hb dX7_beatenOf_0 (by decide) ?_
  refine lv_istore_n (lv' := [(2, .int (0 : Int32)), (0, .ref (a 0)), (1, .int w1)]) hx hb dX7_beatenOf_1 rfl hl (by decide) rfl (fun ls hl => ?_)
  refine lv_iconst (v := (0 : Int32)) hx hb dX7_beatenOf_2 (by decide) ?_
  refine lv_istore_n (lv' := [(3, .int (0 : Int32)), (2, .int (0 : Int32)), (0, .ref (a 0)), (1, .int w1)]) hx hb dX7_beatenOf_3 rfl hl (by decide) rfl (fun ls hl => ?_)
  exact L4 w1 5000 (0 : Int32) (0 : Int32) hm H locs ls B (lv_sub hl [2, 3, 1, 0] rfl)
def f_X7_winsOf_s4 (σ : Mm) (v1 : Int32) (r4 : Int32 → Int32 → Option Int32) (v2 v3 : Int32) : Option Int32 :=
  (f_X7_done σ).bind fun x1 =>
  if x1 ≤ v3 then
    some v2
  else
    (f_X7_playedIn σ v1 v3).bind fun x2 =>
    if x2 < 0 then
      r4 (v2 + (0 : Int32)) (v3 + (1 : Int32))
    else
      (f_X7_madeOn σ x2 v1).bind fun x3 =>
      if x3 = (2 : Int32) then
        r4 (v2 + (1 : Int32)) (v3 + (1 : Int32))
      else
        r4 (v2 + (0 : Int32)) (v3 + (1 : Int32))
def f_X7_winsOf (σ : Mm) (w1 : Int32) : Option Int32 :=
  wh2 (f_X7_winsOf_s4 σ w1) 5000 (0 : Int32) (0 : Int32)
set_option maxHeartbeats 4000000 in
set_option maxRecDepth 100000 in
theorem c_X7_winsOf (l : Launch) (D : va_G) (cI cZ : ClassId) (a : Nat → Nat) (w1 : Int32) : CTr l D [(cI, FieldType.int), (cZ, FieldType.boolean)] (mW cI cZ a) yX7_winsOf (.code yX7_winsOf cX7_winsOf 5 (some FieldType.int) :: wsL_law) ({ frames := 2, cells := 0, slots := 0, locals := 48 } : Room) [.ref (a 0), .int w1] (fun σ => f_X7_winsOf σ w1) := by
  refine CTr.of (by decide +kernel) (Nat.le_of_ble_eq_true rfl) ?_
  intro σ r hm p e s m below meth c A ls H locs hx hb hr hlk hml hT hown hK hA B hl
  have hown : s.vm.findClass RX7 = some m.cls := hown
  have hl : lv_has ls 5 [(0, .ref (a 0)), (1, .int w1)] := hl
  have hm : f_X7_winsOf σ w1 = some r := hm
  unfold f_X7_winsOf at hm
  have L4 : ∀ (v1 : Int32) (nn : Nat) (v2 : Int32) (v3 : Int32), wh2 (f_X7_winsOf_s4 σ v1) nn v2 v3 = some r → ∀ (H : Heap) (locs : List Loc) (ls : Array Slot), BD D A s.heap ((mW cI cZ a) σ) H locs → lv_has ls 5 [(0, .ref (a 0)), (1, .int v1), (2, .int v2), (3, .int v3)] → W p l e ({ frames := 2, cells := 0, slots := 0, locals := 48 } : Room) s m ([.ref (a 0), .int w1] : List Value).toArray below meth c H locs 0 0 (MQ below (QI D [(cI, FieldType.int), (cZ, FieldType.boolean)] (mW cI cZ a) A (r, σ)) ([.ref (a 0), .int w1] : List Value).toArray s 0 0 A) (F0 m 4 ls []) := by
    intro v1
    refine loop2 (fun r4 ih4 v2 v3 hm H locs ls B hl => ?_)
    unfold f_X7_winsOf_s4 at hm
    refine lv_iload_n hx hb dX7_winsOf_4 rfl (lv_at hl 3 rfl) ?_
    refine lv_aload_n hx hb dX7_winsOf_5 rfl (lv_at hl 0 rfl) ?_
    refine x_callVr (rest := [.int v3]) hx hb hml hT hown hK hA B hl.1 (c_X7_done l D cI cZ a) mi_X7_done mv_X7_done mO_M rfl q857 ⟨rfl, rfl⟩ ⟨Nat.le_of_ble_eq_true rfl, Nat.le_of_ble_eq_true rfl⟩ rfl rfl (Nat.le_of_ble_eq_true rfl) dX7_winsOf_6 hm (fun x1 H locs B hm => ?_)
    refine lv_icmp_ge (tgt := 50) hx hb dX7_winsOf_9 (by decide) (fun q => ?_) (fun q => ?_)
    · have hm := ift hm q
      refine lv_iload_n hx hb dX7_winsOf_50 rfl (lv_at hl 2 rfl) ?_
      exact x_iretr hx hb hr hlk hK B dX7_winsOf_51 hm
    · have hm := iff hm q
      refine lv_aload_n hx hb dX7_winsOf_12 rfl (lv_at hl 0 rfl) ?_
      refine lv_iload_n hx hb dX7_winsOf_13 rfl (lv_at hl 1 rfl) ?_
      refine lv_iload_n hx hb dX7_winsOf_14 rfl (lv_at hl 3 rfl) ?_
      refine x_callVr (rest := []) hx hb hml hT hown hK hA B hl.1 (c_X7_playedIn l D cI cZ a v1 v3) mi_X7_playedIn mv_X7_playedIn mO_M rfl q876 ⟨rfl, rfl⟩ ⟨Nat.le_of_ble_eq_true rfl, Nat.le_of_ble_eq_true rfl⟩ rfl rfl (Nat.le_of_ble_eq_true rfl) dX7_winsOf_15 hm (fun x2 H locs B hm => ?_)
      refine lv_istore (lv' := [(4, .int x2), (0, .ref (a 0)), (1, .int v1), (2, .int v2), (3, .int v3)]) hx hb dX7_winsOf_18 hl (by decide) rfl (fun ls hl => ?_)
      refine lv_iload_n hx hb dX7_winsOf_20 rfl (lv_at hl 3 rfl) ?_
      refine lv_iload hx hb dX7_winsOf_21 (lv_at hl 0 rfl) ?_
      refine lv_if_lt (tgt := 41) hx hb dX7_winsOf_23 (by decide) (fun q => ?_) (fun q => ?_)
      · have hm := ift hm q
        refine lv_iconst (v := (0 : Int32)) hx hb dX7_winsOf_41 (by decide) ?_
        refine lv_iadd hx hb dX7_winsOf_42 ?_
        refine lv_istore_n (lv' := [(2, .int (v2 + (0 : Int32))), (4, .int x2), (0, .ref (a 0)), (1, .int v1), (3, .int v3)]) hx hb dX7_winsOf_43 rfl hl (by decide) rfl (fun ls hl => ?_)
        refine lv_iinc (v := (v3 + (1 : Int32))) (lv' := [(3, .int (v3 + (1 : Int32))), (2, .int (v2 + (0 : Int32))), (4, .int x2), (0, .ref (a 0)), (1, .int v1)]) hx hb dX7_winsOf_44 hl (k := 4) rfl rfl (by decide) rfl (fun ls hl => ?_)
        refine lv_goto (tgt := 4) hx hb dX7_winsOf_47 (by decide) ?_
        exact ih4 (v2 + (0 : Int32)) (v3 + (1 : Int32)) hm H locs ls B (lv_sub hl [3, 4, 1, 0] rfl)
      · have hm := iff hm q
        refine lv_aload_n hx hb dX7_winsOf_26 rfl (lv_at hl 1 rfl) ?_
        refine lv_iload hx hb dX7_winsOf_27 (lv_at hl 0 rfl) ?_
        refine lv_iload_n hx hb dX7_winsOf_29 rfl (lv_at hl 2 rfl) ?_
        refine x_callVr (rest := [.int v2]) hx hb hml hT hown hK hA B hl.1 (c_X7_madeOn l D cI cZ a x2 v1) mi_X7_madeOn mv_X7_madeOn mO_M rfl q869 ⟨rfl, rfl⟩ ⟨Nat.le_of_ble_eq_true rfl, Nat.le_of_ble_eq_true rfl⟩ rfl rfl (Nat.le_of_ble_eq_true rfl) dX7_winsOf_30 hm (fun x3 H locs B hm => ?_)
        refine lv_iconst (v := (2 : Int32)) hx hb dX7_winsOf_33 (by decide) ?_
        refine lv_icmp_ne (tgt := 41) hx hb dX7_winsOf_34 (by decide) (fun q => ?_) (fun q => ?_)
        · have hm := iff hm q
          refine lv_iconst (v := (0 : Int32)) hx hb dX7_winsOf_41 (by decide) ?_
          refine lv_iadd hx hb dX7_winsOf_42 ?_
          refine lv_istore_n (lv' := [(2, .int (v2 + (0 : Int32))), (4, .int x2), (0, .ref (a 0)), (1, .int v1), (3, .int v3)]) hx hb dX7_winsOf_43 rfl hl (by decide) rfl (fun ls hl => ?_)
          refine lv_iinc (v := (v3 + (1 : Int32))) (lv' := [(3, .int (v3 + (1 : Int32))), (2, .int (v2 + (0 : Int32))), (4, .int x2), (0, .ref (a 0)), (1, .int v1)]) hx hb dX7_winsOf_44 hl (k := 4) rfl rfl (by decide) rfl (fun ls hl => ?_)
          refine lv_goto (tgt := 4) hx hb dX7_winsOf_47 (by decide) ?_
          exact ih4 (v2 + (0 : Int32)) (v3 + (1 : Int32)) hm H locs ls B (lv_sub hl [3, 4, 1, 0] rfl)
        · have hm := ift hm q
          refine lv_iconst (v := (1 : Int32)) hx hb dX7_winsOf_37 (by decide) ?_
          refine lv_goto (tgt := 42) hx hb dX7_winsOf_38 (by decide) ?_
          refine lv_iadd hx hb dX7_winsOf_42 ?_
          refine lv_istore_n (lv' := [(2, .int (v2 + (1 : Int32))), (4, .int x2), (0, .ref (a 0)), (1, .int v1), (3, .int v3)]) hx hb dX7_winsOf_43 rfl hl (by decide) rfl (fun ls hl => ?_)
          refine lv_iinc (v := (v3 + (1 : Int32))) (lv' := [(3, .int (v3 + (1 : Int32))), (2, .int (v2 + (1 : Int32))), (4, .int x2), (0, .ref (a 0)), (1, .int v1)]) hx hb dX7_winsOf_44 hl (k := 4) rfl rfl (by decide) rfl (fun ls hl => ?_)
          refine lv_goto (tgt := 4) hx hb dX7_winsOf_47 (by decide) ?_
          exact ih4 (v2 + (1 : Int32)) (v3 + (1 : Int32)) hm H locs ls B (lv_sub hl [3, 4, 1, 0] rfl)
  refine lv_iconst (v := (0 : Int32)) hx hb dX7_winsOf_0 (by decide) ?_
  refine lv_istore_n (lv' := [(2, .int (0 : Int32)), (0, .ref (a 0)), (1, .int w1)]) hx hb dX7_winsOf_1 rfl hl (by decide) rfl (fun ls hl => ?_)
  refine lv_iconst (v := (0 : Int32)) hx hb dX7_winsOf_2 (by decide) ?_
  refine lv_istore_n (lv' := [(3, .int (0 : Int32)), (2, .int (0 : Int32)), (0, .ref (a 0)), (1, .int w1)]) hx hb dX7_winsOf_3 rfl hl (by decide) rfl (fun ls hl => ?_)
  exact L4 w1 5000 (0 : Int32) (0 : Int32) hm H locs ls B (lv_sub hl [2, 3, 1, 0] rfl)
def f_X7_growthOf_s4 (σ : Mm) (v1 : Int32) (r4 : Int32 → Int32 → Option Int32) (v2 v3 : Int32) : Option Int32 :=
  (f_X7_done σ).bind fun x1 =>
  if x1 < v3 then
    some v2
  else
    (f_X7_pointsBehind σ v1 v3).bind fun x2 =>
    r4 (v2 + x2) (v3 + (1 : Int32))
def f_X7_growthOf (σ : Mm) (w1 : Int32) : Option Int32 :=
  wh2 (f_X7_growthOf_s4 σ w1) 5000 (0 : Int32) (1 : Int32)
set_option maxHeartbeats 4000000 in
set_option maxRecDepth 100000 in
theorem c_X7_growthOf (l : Launch) (D : va_G) (cI cZ : ClassId) (a : Nat → Nat) (w1 : Int32) : CTr l D [(cI, FieldType.int), (cZ, FieldType.boolean)] (mW cI cZ a) yX7_growthOf (.code yX7_growthOf cX7_growthOf 4 (some FieldType.int) :: wsL_law) ({ frames := 3, cells := 0, slots := 0, locals := 71 } : Room) [.ref (a 0), .int w1] (fun σ => f_X7_growthOf σ w1) := by
  refine CTr.of (by decide +kernel) (Nat.le_of_ble_eq_true rfl) ?_
  intro σ r hm p e s m below meth c A ls H locs hx hb hr hlk hml hT hown hK hA B hl
  have hown : s.vm.findClass RX7 = some m.cls := hown
  have hl : lv_has ls 4 [(0, .ref (a 0)), (1, .int w1)] := hl
  have hm : f_X7_growthOf σ w1 = some r := hm
  unfold f_X7_growthOf at hm
  have L4 : ∀ (v1 : Int32) (nn : Nat) (v2 : Int32) (v3 : Int32), wh2 (f_X7_growthOf_s4 σ v1) nn v2 v3 = some r → ∀ (H : Heap) (locs : List Loc) (ls : Array Slot), BD D A s.heap ((mW cI cZ a) σ) H locs → lv_has ls 4 [(0, .ref (a 0)), (1, .int v1), (2, .int v2), (3, .int v3)] → W p l e ({ frames := 3, cells := 0, slots := 0, locals := 71 } : Room) s m ([.ref (a 0), .int w1] : List Value).toArray below meth c H locs 0 0 (MQ below (QI D [(cI, FieldType.int), (cZ, FieldType.boolean)] (mW cI cZ a) A (r, σ)) ([.ref (a 0), .int w1] : List Value).toArray s 0 0 A) (F0 m 4 ls []) := by
    intro v1
    refine loop2 (fun r4 ih4 v2 v3 hm H locs ls B hl => ?_)
    unfold f_X7_growthOf_s4 at hm
    refine lv_iload_n hx hb dX7_growthOf_4 rfl (lv_at hl 3 rfl) ?_
    refine lv_aload_n hx hb dX7_growthOf_5 rfl (lv_at hl 0 rfl) ?_
    refine x_callVr (rest := [.int v3]) hx hb hml hT hown hK hA B hl.1 (c_X7_done l D cI cZ a) mi_X7_done mv_X7_done mO_M rfl q857 ⟨rfl, rfl⟩ ⟨Nat.le_of_ble_eq_true rfl, Nat.le_of_ble_eq_true rfl⟩ rfl rfl (Nat.le_of_ble_eq_true rfl) dX7_growthOf_6 hm (fun x1 H locs B hm => ?_)
    refine lv_icmp_gt (tgt := 27) hx hb dX7_growthOf_9 (by decide) (fun q => ?_) (fun q => ?_)
    · have hm := ift hm q
      refine lv_iload_n hx hb dX7_growthOf_27 rfl (lv_at hl 2 rfl) ?_
      exact x_iretr hx hb hr hlk hK B dX7_growthOf_28 hm
    · have hm := iff hm q
      refine lv_iload_n hx hb dX7_growthOf_12 rfl (lv_at hl 2 rfl) ?_
      refine lv_aload_n hx hb dX7_growthOf_13 rfl (lv_at hl 0 rfl) ?_
      refine lv_iload_n hx hb dX7_growthOf_14 rfl (lv_at hl 1 rfl) ?_
      refine lv_iload_n hx hb dX7_growthOf_15 rfl (lv_at hl 3 rfl) ?_
      refine x_callVr (rest := [.int v2]) hx hb hml hT hown hK hA B hl.1 (c_X7_pointsBehind l D cI cZ a v1 v3) mi_X7_pointsBehind mv_X7_pointsBehind mO_M rfl q860 ⟨rfl, rfl⟩ ⟨Nat.le_of_ble_eq_true rfl, Nat.le_of_ble_eq_true rfl⟩ rfl rfl (Nat.le_of_ble_eq_true rfl) dX7_growthOf_16 hm (fun x2 H locs B hm => ?_)
      refine lv_iadd hx hb dX7_growthOf_19 ?_
      refine lv_istore_n (lv' := [(2, .int (v2 + x2)), (0, .ref (a 0)), (1, .int v1), (3, .int v3)]) hx hb dX7_growthOf_20 rfl hl (by decide) rfl (fun ls hl => ?_)
      refine lv_iinc (v := (v3 + (1 : Int32))) (lv' := [(3, .int (v3 + (1 : Int32))), (2, .int (v2 + x2)), (0, .ref (a 0)), (1, .int v1)]) hx hb dX7_growthOf_21 hl (k := 3) rfl rfl (by decide) rfl (fun ls hl => ?_)
      refine lv_goto (tgt := 4) hx hb dX7_growthOf_24 (by decide) ?_
      exact ih4 (v2 + x2) (v3 + (1 : Int32)) hm H locs ls B (lv_sub hl [2, 3, 1, 0] rfl)
  refine lv_iconst (v := (0 : Int32)) hx hb dX7_growthOf_0 (by decide) ?_
  refine lv_istore_n (lv' := [(2, .int (0 : Int32)), (0, .ref (a 0)), (1, .int w1)]) hx hb dX7_growthOf_1 rfl hl (by decide) rfl (fun ls hl => ?_)
  refine lv_iconst (v := (1 : Int32)) hx hb dX7_growthOf_2 (by decide) ?_
  refine lv_istore_n (lv' := [(3, .int (1 : Int32)), (2, .int (0 : Int32)), (0, .ref (a 0)), (1, .int w1)]) hx hb dX7_growthOf_3 rfl hl (by decide) rfl (fun ls hl => ?_)
  exact L4 w1 5000 (0 : Int32) (1 : Int32) hm H locs ls B (lv_sub hl [2, 3, 1, 0] rfl)
def f_X7_directOf_s4 (σ : Mm) (v1 : Int32) (r4 : Int32 → Int32 → Option Int32) (v2 v3 : Int32) : Option Int32 :=
  (f_X7_done σ).bind fun x1 =>
  if x1 ≤ v3 then
    some v2
  else
    (f_X7_playedIn σ v1 v3).bind fun x2 =>
    if x2 < 0 then
      r4 (v2 + (0 : Int32)) (v3 + (1 : Int32))
    else
      (f_X7_otherOn σ x2 v1).bind fun x3 =>
      (f_X7_pointsOf σ x3).bind fun x4 =>
      (f_X7_pointsOf σ v1).bind fun x5 =>
      if x4 = x5 then
        (f_X7_madeOn σ x2 v1).bind fun x6 =>
        r4 (v2 + x6) (v3 + (1 : Int32))
      else
        r4 (v2 + (0 : Int32)) (v3 + (1 : Int32))
def f_X7_directOf (σ : Mm) (w1 : Int32) : Option Int32 :=
  wh2 (f_X7_directOf_s4 σ w1) 5000 (0 : Int32) (0 : Int32)
set_option maxHeartbeats 4000000 in
set_option maxRecDepth 100000 in
theorem c_X7_directOf (l : Launch) (D : va_G) (cI cZ : ClassId) (a : Nat → Nat) (w1 : Int32) : CTr l D [(cI, FieldType.int), (cZ, FieldType.boolean)] (mW cI cZ a) yX7_directOf (.code yX7_directOf cX7_directOf 5 (some FieldType.int) :: wsL_law) ({ frames := 4, cells := 0, slots := 0, locals := 92 } : Room) [.ref (a 0), .int w1] (fun σ => f_X7_directOf σ w1) := by
  refine CTr.of (by decide +kernel) (Nat.le_of_ble_eq_true rfl) ?_
  intro σ r hm p e s m below meth c A ls H locs hx hb hr hlk hml hT hown hK hA B hl
  have hown : s.vm.findClass RX7 = some m.cls := hown
  have hl : lv_has ls 5 [(0, .ref (a 0)), (1, .int w1)] := hl
  have hm : f_X7_directOf σ w1 = some r := hm
  unfold f_X7_directOf at hm
  have L4 : ∀ (v1 : Int32) (nn : Nat) (v2 : Int32) (v3 : Int32), wh2 (f_X7_directOf_s4 σ v1) nn v2 v3 = some r → ∀ (H : Heap) (locs : List Loc) (ls : Array Slot), BD D A s.heap ((mW cI cZ a) σ) H locs → lv_has ls 5 [(0, .ref (a 0)), (1, .int v1), (2, .int v2), (3, .int v3)] → W p l e ({ frames := 4, cells := 0, slots := 0, locals := 92 } : Room) s m ([.ref (a 0), .int w1] : List Value).toArray below meth c H locs 0 0 (MQ below (QI D [(cI, FieldType.int), (cZ, FieldType.boolean)] (mW cI cZ a) A (r, σ)) ([.ref (a 0), .int w1] : List Value).toArray s 0 0 A) (F0 m 4 ls []) := by
    intro v1
    refine loop2 (fun r4 ih4 v2 v3 hm H locs ls B hl => ?_)
    unfold f_X7_directOf_s4 at hm
    refine lv_iload_n hx hb dX7_directOf_4 rfl (lv_at hl 3 rfl) ?_
    refine lv_aload_n hx hb dX7_directOf_5 rfl (lv_at hl 0 rfl) ?_
    refine x_callVr (rest := [.int v3]) hx hb hml hT hown hK hA B hl.1 (c_X7_done l D cI cZ a) mi_X7_done mv_X7_done mO_M rfl q857 ⟨rfl, rfl⟩ ⟨Nat.le_of_ble_eq_true rfl, Nat.le_of_ble_eq_true rfl⟩ rfl rfl (Nat.le_of_ble_eq_true rfl) dX7_directOf_6 hm (fun x1 H locs B hm => ?_)
    refine lv_icmp_ge (tgt := 64) hx hb dX7_directOf_9 (by decide) (fun q => ?_) (fun q => ?_)
    · have hm := ift hm q
      refine lv_iload_n hx hb dX7_directOf_64 rfl (lv_at hl 2 rfl) ?_
      exact x_iretr hx hb hr hlk hK B dX7_directOf_65 hm
    · have hm := iff hm q
      refine lv_aload_n hx hb dX7_directOf_12 rfl (lv_at hl 0 rfl) ?_
      refine lv_iload_n hx hb dX7_directOf_13 rfl (lv_at hl 1 rfl) ?_
      refine lv_iload_n hx hb dX7_directOf_14 rfl (lv_at hl 3 rfl) ?_
      refine x_callVr (rest := []) hx hb hml hT hown hK hA B hl.1 (c_X7_playedIn l D cI cZ a v1 v3) mi_X7_playedIn mv_X7_playedIn mO_M rfl q876 ⟨rfl, rfl⟩ ⟨Nat.le_of_ble_eq_true rfl, Nat.le_of_ble_eq_true rfl⟩ rfl rfl (Nat.le_of_ble_eq_true rfl) dX7_directOf_15 hm (fun x2 H locs B hm => ?_)
      refine lv_istore (lv' := [(4, .int x2), (0, .ref (a 0)), (1, .int v1), (2, .int v2), (3, .int v3)]) hx hb dX7_directOf_18 hl (by decide) rfl (fun ls hl => ?_)
      refine lv_iload_n hx hb dX7_directOf_20 rfl (lv_at hl 3 rfl) ?_
      refine lv_iload hx hb dX7_directOf_21 (lv_at hl 0 rfl) ?_
      refine lv_if_lt (tgt := 55) hx hb dX7_directOf_23 (by decide) (fun q => ?_) (fun q => ?_)
      · have hm := ift hm q
        refine lv_iconst (v := (0 : Int32)) hx hb dX7_directOf_55 (by decide) ?_
        refine lv_iadd hx hb dX7_directOf_56 ?_
        refine lv_istore_n (lv' := [(2, .int (v2 + (0 : Int32))), (4, .int x2), (0, .ref (a 0)), (1, .int v1), (3, .int v3)]) hx hb dX7_directOf_57 rfl hl (by decide) rfl (fun ls hl => ?_)
        refine lv_iinc (v := (v3 + (1 : Int32))) (lv' := [(3, .int (v3 + (1 : Int32))), (2, .int (v2 + (0 : Int32))), (4, .int x2), (0, .ref (a 0)), (1, .int v1)]) hx hb dX7_directOf_58 hl (k := 4) rfl rfl (by decide) rfl (fun ls hl => ?_)
        refine lv_goto (tgt := 4) hx hb dX7_directOf_61 (by decide) ?_
        exact ih4 (v2 + (0 : Int32)) (v3 + (1 : Int32)) hm H locs ls B (lv_sub hl [3, 4, 1, 0] rfl)
      · have hm := iff hm q
        refine lv_aload_n hx hb dX7_directOf_26 rfl (lv_at hl 1 rfl) ?_
        refine lv_aload_n hx hb dX7_directOf_27 rfl (lv_at hl 1 rfl) ?_
        refine lv_iload hx hb dX7_directOf_28 (lv_at hl 0 rfl) ?_
        refine lv_iload_n hx hb dX7_directOf_30 rfl (lv_at hl 2 rfl) ?_
        refine x_callVr (rest := [.ref (a 0), .int v2]) hx hb hml hT hown hK hA B hl.1 (c_X7_otherOn l D cI cZ a x2 v1) mi_X7_otherOn mv_X7_otherOn mO_M rfl q883 ⟨rfl, rfl⟩ ⟨Nat.le_of_ble_eq_true rfl, Nat.le_of_ble_eq_true rfl⟩ rfl rfl (Nat.le_of_ble_eq_true rfl) dX7_directOf_31 hm (fun x3 H locs B hm => ?_)
        refine x_callVr (rest := [.int v2]) hx hb hml hT hown hK hA B hl.1 (c_X7_pointsOf l D cI cZ a x3) mi_X7_pointsOf mv_X7_pointsOf mO_M rfl q854 ⟨rfl, rfl⟩ ⟨Nat.le_of_ble_eq_true rfl, Nat.le_of_ble_eq_true rfl⟩ rfl rfl (Nat.le_of_ble_eq_true rfl) dX7_directOf_34 hm (fun x4 H locs B hm => ?_)
        refine lv_aload_n hx hb dX7_directOf_37 rfl (lv_at hl 1 rfl) ?_
        refine lv_iload_n hx hb dX7_directOf_38 rfl (lv_at hl 2 rfl) ?_
        refine x_callVr (rest := [.int x4, .int v2]) hx hb hml hT hown hK hA B hl.1 (c_X7_pointsOf l D cI cZ a v1) mi_X7_pointsOf mv_X7_pointsOf mO_M rfl q854 ⟨rfl, rfl⟩ ⟨Nat.le_of_ble_eq_true rfl, Nat.le_of_ble_eq_true rfl⟩ rfl rfl (Nat.le_of_ble_eq_true rfl) dX7_directOf_39 hm (fun x5 H locs B hm => ?_)
        refine lv_icmp_ne (tgt := 55) hx hb dX7_directOf_42 (by decide) (fun q => ?_) (fun q => ?_)
        · have hm := iff hm q
          refine lv_iconst (v := (0 : Int32)) hx hb dX7_directOf_55 (by decide) ?_
          refine lv_iadd hx hb dX7_directOf_56 ?_
          refine lv_istore_n (lv' := [(2, .int (v2 + (0 : Int32))), (4, .int x2), (0, .ref (a 0)), (1, .int v1), (3, .int v3)]) hx hb dX7_directOf_57 rfl hl (by decide) rfl (fun ls hl => ?_)
          refine lv_iinc (v := (v3 + (1 : Int32))) (lv' := [(3, .int (v3 + (1 : Int32))), (2, .int (v2 + (0 : Int32))), (4, .int x2), (0, .ref (a 0)), (1, .int v1)]) hx hb dX7_directOf_58 hl (k := 4) rfl rfl (by decide) rfl (fun ls hl => ?_)
          refine lv_goto (tgt := 4) hx hb dX7_directOf_61 (by decide) ?_
          exact ih4 (v2 + (0 : Int32)) (v3 + (1 : Int32)) hm H locs ls B (lv_sub hl [3, 4, 1, 0] rfl)
        · have hm := ift hm q
          refine lv_aload_n hx hb dX7_directOf_45 rfl (lv_at hl 1 rfl) ?_
          refine lv_iload hx hb dX7_directOf_46 (lv_at hl 0 rfl) ?_
          refine lv_iload_n hx hb dX7_directOf_48 rfl (lv_at hl 2 rfl) ?_
          refine x_callVr (rest := [.int v2]) hx hb hml hT hown hK hA B hl.1 (c_X7_madeOn l D cI cZ a x2 v1) mi_X7_madeOn mv_X7_madeOn mO_M rfl q869 ⟨rfl, rfl⟩ ⟨Nat.le_of_ble_eq_true rfl, Nat.le_of_ble_eq_true rfl⟩ rfl rfl (Nat.le_of_ble_eq_true rfl) dX7_directOf_49 hm (fun x6 H locs B hm => ?_)
          refine lv_goto (tgt := 56) hx hb dX7_directOf_52 (by decide) ?_
          refine lv_iadd hx hb dX7_directOf_56 ?_
          refine lv_istore_n (lv' := [(2, .int (v2 + x6)), (4, .int x2), (0, .ref (a 0)), (1, .int v1), (3, .int v3)]) hx hb dX7_directOf_57 rfl hl (by decide) rfl (fun ls hl => ?_)
          refine lv_iinc (v := (v3 + (1 : Int32))) (lv' := [(3, .int (v3 + (1 : Int32))), (2, .int (v2 + x6)), (4, .int x2), (0, .ref (a 0)), (1, .int v1)]) hx hb dX7_directOf_58 hl (k := 4) rfl rfl (by decide) rfl (fun ls hl => ?_)
          refine lv_goto (tgt := 4) hx hb dX7_directOf_61 (by decide) ?_
          exact ih4 (v2 + x6) (v3 + (1 : Int32)) hm H locs ls B (lv_sub hl [3, 4, 1, 0] rfl)
  refine lv_iconst (v := (0 : Int32)) hx hb dX7_directOf_0 (by decide) ?_
  refine lv_istore_n (lv' := [(2, .int (0 : Int32)), (0, .ref (a 0)), (1, .int w1)]) hx hb dX7_directOf_1 rfl hl (by decide) rfl (fun ls hl => ?_)
  refine lv_iconst (v := (0 : Int32)) hx hb dX7_directOf_2 (by decide) ?_
  refine lv_istore_n (lv' := [(3, .int (0 : Int32)), (2, .int (0 : Int32)), (0, .ref (a 0)), (1, .int w1)]) hx hb dX7_directOf_3 rfl hl (by decide) rfl (fun ls hl => ?_)
  exact L4 w1 5000 (0 : Int32) (0 : Int32) hm H locs ls B (lv_sub hl [2, 3, 1, 0] rfl)
def f_X7_tieOf_j66 (σ : Mm) (s1 s2 : Int32) : Option Int32 :=
  (f_X7_opponentsOf σ s1 s2).bind fun x1 =>
  some x1
def f_X7_tieOf (σ : Mm) (w1 : Int32) (w2 : Int32) : Option Int32 :=
  if w2 = (0 : Int32) then
    (f_X7_pointsOf σ w1).bind fun x2 =>
    some x2
  else
    if w2 = (1 : Int32) then
      if w2 = (2 : Int32) then
        f_X7_tieOf_j66 σ w1 (1 : Int32)
      else
        f_X7_tieOf_j66 σ w1 (0 : Int32)
    else
      if w2 = (2 : Int32) then
        if w2 = (2 : Int32) then
          f_X7_tieOf_j66 σ w1 (1 : Int32)
        else
          f_X7_tieOf_j66 σ w1 (0 : Int32)
      else
        if w2 = (3 : Int32) then
          (f_X7_beatenOf σ w1).bind fun x3 =>
          some x3
        else
          if w2 = (4 : Int32) then
            (f_X7_winsOf σ w1).bind fun x4 =>
            some x4
          else
            if w2 = (5 : Int32) then
              (f_X7_blacksOf σ w1).bind fun x5 =>
              some x5
            else
              if w2 = (6 : Int32) then
                (f_X7_growthOf σ w1).bind fun x6 =>
                some x6
              else
                if w2 = (7 : Int32) then
                  (f_X7_directOf σ w1).bind fun x7 =>
                  some x7
                else
                  (ald 12 (σ 1) w1).bind fun x8 =>
                  some x8
set_option maxHeartbeats 4000000 in
set_option maxRecDepth 100000 in
theorem c_X7_tieOf (l : Launch) (D : va_G) (cI cZ : ClassId) (a : Nat → Nat) (w1 : Int32) (w2 : Int32) : CTr l D [(cI, FieldType.int), (cZ, FieldType.boolean)] (mW cI cZ a) yX7_tieOf (.code yX7_tieOf cX7_tieOf 3 (some FieldType.int) :: wsL_law) ({ frames := 5, cells := 0, slots := 0, locals := 119 } : Room) [.ref (a 0), .int w1, .int w2] (fun σ => f_X7_tieOf σ w1 w2) := by
  refine CTr.of (by decide +kernel) (Nat.le_of_ble_eq_true rfl) ?_
  intro σ r hm p e s m below meth c A ls H locs hx hb hr hlk hml hT hown hK hA B hl
  have hown : s.vm.findClass RX7 = some m.cls := hown
  have hl : lv_has ls 3 [(0, .ref (a 0)), (1, .int w1), (2, .int w2)] := hl
  have hm : f_X7_tieOf σ w1 w2 = some r := hm
  unfold f_X7_tieOf at hm
  have j66 : ∀ (s1 : Int32) (s2 : Int32) (H : Heap) (locs : List Loc) (ls : Array Slot), BD D A s.heap ((mW cI cZ a) σ) H locs → lv_has ls 3 [] → f_X7_tieOf_j66 σ s1 s2 = some r → W p l e ({ frames := 5, cells := 0, slots := 0, locals := 119 } : Room) s m ([.ref (a 0), .int w1, .int w2] : List Value).toArray below meth c H locs 0 0 (MQ below (QI D [(cI, FieldType.int), (cZ, FieldType.boolean)] (mW cI cZ a) A (r, σ)) ([.ref (a 0), .int w1, .int w2] : List Value).toArray s 0 0 A) (F0 m 66 ls [.int s2, .int s1, .ref (a 0)]) := by
    intro s1 s2 H locs ls B hl hm
    unfold f_X7_tieOf_j66 at hm
    refine x_callVr (rest := []) hx hb hml hT hown hK hA B hl.1 (c_X7_opponentsOf l D cI cZ a s1 s2) mi_X7_opponentsOf mv_X7_opponentsOf mO_M rfl q872 ⟨rfl, rfl⟩ ⟨Nat.le_of_ble_eq_true rfl, Nat.le_of_ble_eq_true rfl⟩ rfl rfl (Nat.le_of_ble_eq_true rfl) dX7_tieOf_66 hm (fun x1 H locs B hm => ?_)
    exact x_iretr hx hb hr hlk hK B dX7_tieOf_69 hm
  refine lv_iload_n hx hb dX7_tieOf_0 rfl (lv_at hl 2 rfl) ?_
  by_cases q0 : w2 = (0 : Int32)
  · have hm := ift hm q0
    refine lv_tableIn (off := 47) (tgt := 48) hx hb dX7_tieOf_1 (by rw [q0]; decide) (by rw [q0]; decide) (by rw [q0]; rfl) (by decide) ?_
    refine lv_aload_n hx hb dX7_tieOf_48 rfl (lv_at hl 0 rfl) ?_
    refine lv_iload_n hx hb dX7_tieOf_49 rfl (lv_at hl 1 rfl) ?_
    refine x_callVr (rest := []) hx hb hml hT hown hK hA B hl.1 (c_X7_pointsOf l D cI cZ a w1) mi_X7_pointsOf mv_X7_pointsOf mO_M rfl q854 ⟨rfl, rfl⟩ ⟨Nat.le_of_ble_eq_true rfl, Nat.le_of_ble_eq_true rfl⟩ rfl rfl (Nat.le_of_ble_eq_true rfl) dX7_tieOf_50 hm (fun x2 H locs B hm => ?_)
    exact x_iretr hx hb hr hlk hK B dX7_tieOf_53 hm
  · have hm := iff hm q0
    by_cases q1 : w2 = (1 : Int32)
    · have hm := ift hm q1
      refine lv_tableIn (off := 53) (tgt := 54) hx hb dX7_tieOf_1 (by rw [q1]; decide) (by rw [q1]; decide) (by rw [q1]; rfl) (by decide) ?_
      refine lv_aload_n hx hb dX7_tieOf_54 rfl (lv_at hl 0 rfl) ?_
      refine lv_iload_n hx hb dX7_tieOf_55 rfl (lv_at hl 1 rfl) ?_
      refine lv_iload_n hx hb dX7_tieOf_56 rfl (lv_at hl 2 rfl) ?_
      refine lv_iconst (v := (2 : Int32)) hx hb dX7_tieOf_57 (by decide) ?_
      refine lv_icmp_ne (tgt := 65) hx hb dX7_tieOf_58 (by decide) (fun q => ?_) (fun q => ?_)
      · have hm := iff hm q
        refine lv_iconst (v := (0 : Int32)) hx hb dX7_tieOf_65 (by decide) ?_
        exact j66 w1 (0 : Int32) H locs ls B (lv_sub hl [] rfl) hm
      · have hm := ift hm q
        refine lv_iconst (v := (1 : Int32)) hx hb dX7_tieOf_61 (by decide) ?_
        refine lv_goto (tgt := 66) hx hb dX7_tieOf_62 (by decide) ?_
        exact j66 w1 (1 : Int32) H locs ls B (lv_sub hl [] rfl) hm
    · have hm := iff hm q1
      by_cases q2 : w2 = (2 : Int32)
      · have hm := ift hm q2
        refine lv_tableIn (off := 53) (tgt := 54) hx hb dX7_tieOf_1 (by rw [q2]; decide) (by rw [q2]; decide) (by rw [q2]; rfl) (by decide) ?_
        refine lv_aload_n hx hb dX7_tieOf_54 rfl (lv_at hl 0 rfl) ?_
        refine lv_iload_n hx hb dX7_tieOf_55 rfl (lv_at hl 1 rfl) ?_
        refine lv_iload_n hx hb dX7_tieOf_56 rfl (lv_at hl 2 rfl) ?_
        refine lv_iconst (v := (2 : Int32)) hx hb dX7_tieOf_57 (by decide) ?_
        refine lv_icmp_ne (tgt := 65) hx hb dX7_tieOf_58 (by decide) (fun q => ?_) (fun q => ?_)
        · have hm := iff hm q
          refine lv_iconst (v := (0 : Int32)) hx hb dX7_tieOf_65 (by decide) ?_
          exact j66 w1 (0 : Int32) H locs ls B (lv_sub hl [] rfl) hm
        · have hm := ift hm q
          refine lv_iconst (v := (1 : Int32)) hx hb dX7_tieOf_61 (by decide) ?_
          refine lv_goto (tgt := 66) hx hb dX7_tieOf_62 (by decide) ?_
          exact j66 w1 (1 : Int32) H locs ls B (lv_sub hl [] rfl) hm
      · have hm := iff hm q2
        by_cases q3 : w2 = (3 : Int32)
        · have hm := ift hm q3
          refine lv_tableIn (off := 69) (tgt := 70) hx hb dX7_tieOf_1 (by rw [q3]; decide) (by rw [q3]; decide) (by rw [q3]; rfl) (by decide) ?_
          refine lv_aload_n hx hb dX7_tieOf_70 rfl (lv_at hl 0 rfl) ?_
          refine lv_iload_n hx hb dX7_tieOf_71 rfl (lv_at hl 1 rfl) ?_
          refine x_callVr (rest := []) hx hb hml hT hown hK hA B hl.1 (c_X7_beatenOf l D cI cZ a w1) mi_X7_beatenOf mv_X7_beatenOf mO_M rfl q886 ⟨rfl, rfl⟩ ⟨Nat.le_of_ble_eq_true rfl, Nat.le_of_ble_eq_true rfl⟩ rfl rfl (Nat.le_of_ble_eq_true rfl) dX7_tieOf_72 hm (fun x3 H locs B hm => ?_)
          exact x_iretr hx hb hr hlk hK B dX7_tieOf_75 hm
        · have hm := iff hm q3
          by_cases q4 : w2 = (4 : Int32)
          · have hm := ift hm q4
            refine lv_tableIn (off := 75) (tgt := 76) hx hb dX7_tieOf_1 (by rw [q4]; decide) (by rw [q4]; decide) (by rw [q4]; rfl) (by decide) ?_
            refine lv_aload_n hx hb dX7_tieOf_76 rfl (lv_at hl 0 rfl) ?_
            refine lv_iload_n hx hb dX7_tieOf_77 rfl (lv_at hl 1 rfl) ?_
            refine x_callVr (rest := []) hx hb hml hT hown hK hA B hl.1 (c_X7_winsOf l D cI cZ a w1) mi_X7_winsOf mv_X7_winsOf mO_M rfl q889 ⟨rfl, rfl⟩ ⟨Nat.le_of_ble_eq_true rfl, Nat.le_of_ble_eq_true rfl⟩ rfl rfl (Nat.le_of_ble_eq_true rfl) dX7_tieOf_78 hm (fun x4 H locs B hm => ?_)
            exact x_iretr hx hb hr hlk hK B dX7_tieOf_81 hm
          · have hm := iff hm q4
            by_cases q5 : w2 = (5 : Int32)
            · have hm := ift hm q5
              refine lv_tableIn (off := 81) (tgt := 82) hx hb dX7_tieOf_1 (by rw [q5]; decide) (by rw [q5]; decide) (by rw [q5]; rfl) (by decide) ?_
              refine lv_aload_n hx hb dX7_tieOf_82 rfl (lv_at hl 0 rfl) ?_
              refine lv_iload_n hx hb dX7_tieOf_83 rfl (lv_at hl 1 rfl) ?_
              refine x_callVr (rest := []) hx hb hml hT hown hK hA B hl.1 (c_X7_blacksOf l D cI cZ a w1) mi_X7_blacksOf mv_X7_blacksOf mO_M rfl q892 ⟨rfl, rfl⟩ ⟨Nat.le_of_ble_eq_true rfl, Nat.le_of_ble_eq_true rfl⟩ rfl rfl (Nat.le_of_ble_eq_true rfl) dX7_tieOf_84 hm (fun x5 H locs B hm => ?_)
              exact x_iretr hx hb hr hlk hK B dX7_tieOf_87 hm
            · have hm := iff hm q5
              by_cases q6 : w2 = (6 : Int32)
              · have hm := ift hm q6
                refine lv_tableIn (off := 87) (tgt := 88) hx hb dX7_tieOf_1 (by rw [q6]; decide) (by rw [q6]; decide) (by rw [q6]; rfl) (by decide) ?_
                refine lv_aload_n hx hb dX7_tieOf_88 rfl (lv_at hl 0 rfl) ?_
                refine lv_iload_n hx hb dX7_tieOf_89 rfl (lv_at hl 1 rfl) ?_
                refine x_callVr (rest := []) hx hb hml hT hown hK hA B hl.1 (c_X7_growthOf l D cI cZ a w1) mi_X7_growthOf mv_X7_growthOf mO_M rfl q895 ⟨rfl, rfl⟩ ⟨Nat.le_of_ble_eq_true rfl, Nat.le_of_ble_eq_true rfl⟩ rfl rfl (Nat.le_of_ble_eq_true rfl) dX7_tieOf_90 hm (fun x6 H locs B hm => ?_)
                exact x_iretr hx hb hr hlk hK B dX7_tieOf_93 hm
              · have hm := iff hm q6
                by_cases q7 : w2 = (7 : Int32)
                · have hm := ift hm q7
                  refine lv_tableIn (off := 93) (tgt := 94) hx hb dX7_tieOf_1 (by rw [q7]; decide) (by rw [q7]; decide) (by rw [q7]; rfl) (by decide) ?_
                  refine lv_aload_n hx hb dX7_tieOf_94 rfl (lv_at hl 0 rfl) ?_
                  refine lv_iload_n hx hb dX7_tieOf_95 rfl (lv_at hl 1 rfl) ?_
                  refine x_callVr (rest := []) hx hb hml hT hown hK hA B hl.1 (c_X7_directOf l D cI cZ a w1) mi_X7_directOf mv_X7_directOf mO_M rfl q898 ⟨rfl, rfl⟩ ⟨Nat.le_of_ble_eq_true rfl, Nat.le_of_ble_eq_true rfl⟩ rfl rfl (Nat.le_of_ble_eq_true rfl) dX7_tieOf_96 hm (fun x7 H locs B hm => ?_)
                  exact x_iretr hx hb hr hlk hK B dX7_tieOf_99 hm
                · have hm := iff hm q7
                  have z0 := lv_neT (k := (0 : Int32)) (a := 0) q0 (by decide)
                  have z1 := lv_neT (k := (1 : Int32)) (a := 1) q1 (by decide)
                  have z2 := lv_neT (k := (2 : Int32)) (a := 2) q2 (by decide)
                  have z3 := lv_neT (k := (3 : Int32)) (a := 3) q3 (by decide)
                  have z4 := lv_neT (k := (4 : Int32)) (a := 4) q4 (by decide)
                  have z5 := lv_neT (k := (5 : Int32)) (a := 5) q5 (by decide)
                  have z6 := lv_neT (k := (6 : Int32)) (a := 6) q6 (by decide)
                  have z7 := lv_neT (k := (7 : Int32)) (a := 7) q7 (by decide)
                  refine lv_tableOut (tgt := 100) hx hb dX7_tieOf_1 (by omega) (by decide) ?_
                  refine lv_aload_n hx hb dX7_tieOf_100 rfl (lv_at hl 0 rfl) ?_
                  refine x_getv (T := TX7) (N := 33) hx hb hT hown hK B mV_ratings inlX7 rfl (by decide) q766 rfl dX7_tieOf_101 ?_
                  refine lv_iload_n hx hb dX7_tieOf_104 rfl (lv_at hl 1 rfl) ?_
                  refine x_iald (t0 := 0) hx hb hK B mA_ratings rfl dX7_tieOf_105 hm (fun x8 hm => ?_)
                  exact x_iretr hx hb hr hlk hK B dX7_tieOf_106 hm
