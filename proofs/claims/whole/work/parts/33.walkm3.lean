def f_X7_withResult_s4 (σ : Mm) (r4 : Int32 → Int32 → Option Int32) (v1 v2 : Int32) : Option Int32 :=
  (ald 20 (σ 5) ((σ 3 0) - (1 : Int32))).bind fun x1 =>
  if x1 ≤ v2 then
    some v1
  else
    (ald 120 (σ 9) (((6 : Int32) * ((σ 3 0) - (1 : Int32))) + v2)).bind fun x2 =>
    if x2 ≤ 0 then
      r4 (v1 + (0 : Int32)) (v2 + (1 : Int32))
    else
      r4 (v1 + (1 : Int32)) (v2 + (1 : Int32))
def f_X7_withResult (σ : Mm) : Option Int32 :=
  wh2 (f_X7_withResult_s4 σ) 5000 (0 : Int32) (0 : Int32)
set_option maxHeartbeats 4000000 in
set_option maxRecDepth 100000 in
theorem c_X7_withResult (l : Launch) (D : va_G) (cI cZ : ClassId) (a : Nat → Nat) : CTr l D [(cI, FieldType.int), (cZ, FieldType.boolean)] (mW cI cZ a) yX7_withResult (.code yX7_withResult cX7_withResult 3 (some FieldType.int) :: wsL_law) ({ frames := 0, cells := 0, slots := 0, locals := 0 } : Room) [.ref (a 0)] (fun σ => f_X7_withResult σ) := by
  refine CTr.of (by decide +kernel) (Nat.le_of_ble_eq_true rfl) ?_
  intro σ r hm p e s m below meth c A ls H locs hx hb hr hlk hml hT hown hK hA B hl
  have hown : s.vm.findClass RX7 = some m.cls := hown
  have hl : lv_has ls 3 [(0, .ref (a 0))] := hl
  have hm : f_X7_withResult σ = some r := hm
  unfold f_X7_withResult at hm
  have L4 : ∀ (nn : Nat) (v1 : Int32) (v2 : Int32), wh2 (f_X7_withResult_s4 σ) nn v1 v2 = some r → ∀ (H : Heap) (locs : List Loc) (ls : Array Slot), BD D A s.heap ((mW cI cZ a) σ) H locs → lv_has ls 3 [(0, .ref (a 0)), (1, .int v1), (2, .int v2)] → W p l e ({ frames := 0, cells := 0, slots := 0, locals := 0 } : Room) s m ([.ref (a 0)] : List Value).toArray below meth c H locs 0 0 (MQ below (QI D [(cI, FieldType.int), (cZ, FieldType.boolean)] (mW cI cZ a) A (r, σ)) ([.ref (a 0)] : List Value).toArray s 0 0 A) (F0 m 4 ls []) := by
    refine loop2 (fun r4 ih4 v1 v2 hm H locs ls B hl => ?_)
    unfold f_X7_withResult_s4 at hm
    refine lv_iload_n hx hb dX7_withResult_4 rfl (lv_at hl 2 rfl) ?_
    refine lv_aload_n hx hb dX7_withResult_5 rfl (lv_at hl 0 rfl) ?_
    refine x_getv (T := TX7) (N := 33) hx hb hT hown hK B mV_boardMany inlX7 rfl (by decide) q770 rfl dX7_withResult_6 ?_
    refine lv_aload_n hx hb dX7_withResult_9 rfl (lv_at hl 0 rfl) ?_
    refine x_geti (T := TX7) (N := 33) hx hb hT hown hK B mI_rounds inlX7 rfl (by decide) q768 rfl dX7_withResult_10 ?_
    refine lv_iconst (v := (1 : Int32)) hx hb dX7_withResult_13 (by decide) ?_
    refine lv_isub hx hb dX7_withResult_14 ?_
    refine x_iald (t0 := 0) hx hb hK B mA_boardMany rfl dX7_withResult_15 hm (fun x1 hm => ?_)
    refine lv_icmp_ge (tgt := 52) hx hb dX7_withResult_16 (by decide) (fun q => ?_) (fun q => ?_)
    · have hm := ift hm q
      refine lv_iload_n hx hb dX7_withResult_52 rfl (lv_at hl 1 rfl) ?_
      exact x_iretr hx hb hr hlk hK B dX7_withResult_53 hm
    · have hm := iff hm q
      refine lv_iload_n hx hb dX7_withResult_19 rfl (lv_at hl 1 rfl) ?_
      refine lv_aload_n hx hb dX7_withResult_20 rfl (lv_at hl 0 rfl) ?_
      refine x_getv (T := TX7) (N := 33) hx hb hT hown hK B mV_results0 inlX7 rfl (by decide) q774 rfl dX7_withResult_21 ?_
      refine lv_bipush (v := (6 : Int32)) hx hb dX7_withResult_24 (by decide) ?_
      refine lv_aload_n hx hb dX7_withResult_26 rfl (lv_at hl 0 rfl) ?_
      refine x_geti (T := TX7) (N := 33) hx hb hT hown hK B mI_rounds inlX7 rfl (by decide) q768 rfl dX7_withResult_27 ?_
      refine lv_iconst (v := (1 : Int32)) hx hb dX7_withResult_30 (by decide) ?_
      refine lv_isub hx hb dX7_withResult_31 ?_
      refine lv_imul hx hb dX7_withResult_32 ?_
      refine lv_iload_n hx hb dX7_withResult_33 rfl (lv_at hl 2 rfl) ?_
      refine lv_iadd hx hb dX7_withResult_34 ?_
      refine x_iald (t0 := 0) hx hb hK B mA_results0 rfl dX7_withResult_35 hm (fun x2 hm => ?_)
      refine lv_if_le (tgt := 43) hx hb dX7_withResult_36 (by decide) (fun q => ?_) (fun q => ?_)
      · have hm := ift hm q
        refine lv_iconst (v := (0 : Int32)) hx hb dX7_withResult_43 (by decide) ?_
        refine lv_iadd hx hb dX7_withResult_44 ?_
        refine lv_istore_n (lv' := [(1, .int (v1 + (0 : Int32))), (0, .ref (a 0)), (2, .int v2)]) hx hb dX7_withResult_45 rfl hl (by decide) rfl (fun ls hl => ?_)
        refine lv_iinc (v := (v2 + (1 : Int32))) (lv' := [(2, .int (v2 + (1 : Int32))), (1, .int (v1 + (0 : Int32))), (0, .ref (a 0))]) hx hb dX7_withResult_46 hl (k := 2) rfl rfl (by decide) rfl (fun ls hl => ?_)
        refine lv_goto (tgt := 4) hx hb dX7_withResult_49 (by decide) ?_
        exact ih4 (v1 + (0 : Int32)) (v2 + (1 : Int32)) hm H locs ls B (lv_sub hl [2, 1, 0] rfl)
      · have hm := iff hm q
        refine lv_iconst (v := (1 : Int32)) hx hb dX7_withResult_39 (by decide) ?_
        refine lv_goto (tgt := 44) hx hb dX7_withResult_40 (by decide) ?_
        refine lv_iadd hx hb dX7_withResult_44 ?_
        refine lv_istore_n (lv' := [(1, .int (v1 + (1 : Int32))), (0, .ref (a 0)), (2, .int v2)]) hx hb dX7_withResult_45 rfl hl (by decide) rfl (fun ls hl => ?_)
        refine lv_iinc (v := (v2 + (1 : Int32))) (lv' := [(2, .int (v2 + (1 : Int32))), (1, .int (v1 + (1 : Int32))), (0, .ref (a 0))]) hx hb dX7_withResult_46 hl (k := 2) rfl rfl (by decide) rfl (fun ls hl => ?_)
        refine lv_goto (tgt := 4) hx hb dX7_withResult_49 (by decide) ?_
        exact ih4 (v1 + (1 : Int32)) (v2 + (1 : Int32)) hm H locs ls B (lv_sub hl [2, 1, 0] rfl)
  refine lv_iconst (v := (0 : Int32)) hx hb dX7_withResult_0 (by decide) ?_
  refine lv_istore_n (lv' := [(1, .int (0 : Int32)), (0, .ref (a 0))]) hx hb dX7_withResult_1 rfl hl (by decide) rfl (fun ls hl => ?_)
  refine lv_iconst (v := (0 : Int32)) hx hb dX7_withResult_2 (by decide) ?_
  refine lv_istore_n (lv' := [(2, .int (0 : Int32)), (1, .int (0 : Int32)), (0, .ref (a 0))]) hx hb dX7_withResult_3 rfl hl (by decide) rfl (fun ls hl => ?_)
  exact L4 5000 (0 : Int32) (0 : Int32) hm H locs ls B (lv_sub hl [2, 1, 0] rfl)
def f_X7_close (σ : Mm) : Option (Int32 × Mm) :=
  (some (sc σ 12 (0 : Int32))).bind fun σ =>
  (some (σ 4 0)).bind fun x1 =>
  if x1 = 0 then
    some ((-3 : Int32), σ)
  else
    (f_X7_withResult σ).bind fun x2 =>
    (some (σ 3 0)).bind fun x3 =>
    (ald 20 (σ 5) (x3 - (1 : Int32))).bind fun x4 =>
    if x4 ≤ x2 then
      (some (sc σ 4 (0 : Int32))).bind fun σ =>
      (some (σ 3 0)).bind fun x5 =>
      some (x5, σ)
    else
      some ((-3 : Int32), σ)
set_option maxHeartbeats 4000000 in
set_option maxRecDepth 100000 in
theorem c_X7_close (l : Launch) (D : va_G) (cI cZ : ClassId) (a : Nat → Nat) : CTi l D [(cI, FieldType.int), (cZ, FieldType.boolean)] (mW cI cZ a) yX7_close (.code yX7_close cX7_close 1 (some FieldType.int) :: wsL_law) ({ frames := 1, cells := 0, slots := 0, locals := 22 } : Room) [.ref (a 0)] (fun σ => f_X7_close σ) := by
  refine CTi.of (by decide +kernel) (Nat.le_of_ble_eq_true rfl) ?_
  intro σ out hm p e s m below meth c A ls H locs hx hb hr hlk hml hT hown hK hA B hl
  have hown : s.vm.findClass RX7 = some m.cls := hown
  have hl : lv_has ls 1 [(0, .ref (a 0))] := hl
  have hm : f_X7_close σ = some out := hm
  unfold f_X7_close at hm
  refine lv_aload_n hx hb dX7_close_0 rfl (lv_at hl 0 rfl) ?_
  refine lv_iconst (v := (0 : Int32)) hx hb dX7_close_1 (by decide) ?_
  refine x_puti (T := TX7) (N := 33) hx hb hT hown hK B mI_thrown inlX7 tyX7_ok nmX7 rfl (by decide) q777 rfl rfl rfl rfl rfl dX7_close_2 hm (fun σ H locs B hm => ?_)
  refine lv_aload_n hx hb dX7_close_5 rfl (lv_at hl 0 rfl) ?_
  refine x_getib (T := TX7) (N := 33) hx hb hT hown hK B mI_isOpen inlX7 rfl (by decide) q769 rfl dX7_close_6 hm (fun x1 hm => ?_)
  refine lv_if_eq (tgt := 30) hx hb dX7_close_9 (by decide) (fun q => ?_) (fun q => ?_)
  · have hm := ift hm q
    refine lv_bipush (v := (-3 : Int32)) hx hb dX7_close_30 (by decide) ?_
    exact x_iret hx hb hr hlk hK B dX7_close_32 hm
  · have hm := iff hm q
    refine lv_aload_n hx hb dX7_close_12 rfl (lv_at hl 0 rfl) ?_
    refine x_callVr (rest := []) hx hb hml hT hown hK hA B hl.1 (c_X7_withResult l D cI cZ a) mi_X7_withResult mv_X7_withResult mO_M rfl q1043 ⟨rfl, rfl⟩ ⟨Nat.le_of_ble_eq_true rfl, Nat.le_of_ble_eq_true rfl⟩ rfl rfl (Nat.le_of_ble_eq_true rfl) dX7_close_13 hm (fun x2 H locs B hm => ?_)
    refine lv_aload_n hx hb dX7_close_16 rfl (lv_at hl 0 rfl) ?_
    refine x_getv (T := TX7) (N := 33) hx hb hT hown hK B mV_boardMany inlX7 rfl (by decide) q770 rfl dX7_close_17 ?_
    refine lv_aload_n hx hb dX7_close_20 rfl (lv_at hl 0 rfl) ?_
    refine x_getib (T := TX7) (N := 33) hx hb hT hown hK B mI_rounds inlX7 rfl (by decide) q768 rfl dX7_close_21 hm (fun x3 hm => ?_)
    refine lv_iconst (v := (1 : Int32)) hx hb dX7_close_24 (by decide) ?_
    refine lv_isub hx hb dX7_close_25 ?_
    refine x_iald (t0 := 0) hx hb hK B mA_boardMany rfl dX7_close_26 hm (fun x4 hm => ?_)
    refine lv_icmp_ge (tgt := 33) hx hb dX7_close_27 (by decide) (fun q => ?_) (fun q => ?_)
    · have hm := ift hm q
      refine lv_aload_n hx hb dX7_close_33 rfl (lv_at hl 0 rfl) ?_
      refine lv_iconst (v := (0 : Int32)) hx hb dX7_close_34 (by decide) ?_
      refine x_puti (T := TX7) (N := 33) hx hb hT hown hK B mI_isOpen inlX7 tyX7_ok nmX7 rfl (by decide) q769 rfl rfl rfl rfl rfl dX7_close_35 hm (fun σ H locs B hm => ?_)
      refine lv_aload_n hx hb dX7_close_38 rfl (lv_at hl 0 rfl) ?_
      refine x_getib (T := TX7) (N := 33) hx hb hT hown hK B mI_rounds inlX7 rfl (by decide) q768 rfl dX7_close_39 hm (fun x5 hm => ?_)
      exact x_iret hx hb hr hlk hK B dX7_close_42 hm
    · have hm := iff hm q
      refine lv_bipush (v := (-3 : Int32)) hx hb dX7_close_30 (by decide) ?_
      exact x_iret hx hb hr hlk hK B dX7_close_32 hm
def f_X7_drop (σ : Mm) : Option (Int32 × Mm) :=
  (some (sc σ 12 (0 : Int32))).bind fun σ =>
  (some (σ 3 0)).bind fun x1 =>
  if x1 = 0 then
    some ((-3 : Int32), σ)
  else
    (some (σ 3 0)).bind fun x2 =>
    (some (sc σ 3 (x2 - (1 : Int32)))).bind fun σ =>
    (some (sc σ 4 (0 : Int32))).bind fun σ =>
    (some (σ 3 0)).bind fun x3 =>
    some (x3, σ)
set_option maxHeartbeats 4000000 in
set_option maxRecDepth 100000 in
theorem c_X7_drop (l : Launch) (D : va_G) (cI cZ : ClassId) (a : Nat → Nat) : CTi l D [(cI, FieldType.int), (cZ, FieldType.boolean)] (mW cI cZ a) yX7_drop (.code yX7_drop cX7_drop 1 (some FieldType.int) :: wsL_law) ({ frames := 0, cells := 0, slots := 0, locals := 0 } : Room) [.ref (a 0)] (fun σ => f_X7_drop σ) := by
  refine CTi.of (by decide +kernel) (Nat.le_of_ble_eq_true rfl) ?_
  intro σ out hm p e s m below meth c A ls H locs hx hb hr hlk hml hT hown hK hA B hl
  have hown : s.vm.findClass RX7 = some m.cls := hown
  have hl : lv_has ls 1 [(0, .ref (a 0))] := hl
  have hm : f_X7_drop σ = some out := hm
  unfold f_X7_drop at hm
  refine lv_aload_n hx hb dX7_drop_0 rfl (lv_at hl 0 rfl) ?_
  refine lv_iconst (v := (0 : Int32)) hx hb dX7_drop_1 (by decide) ?_
  refine x_puti (T := TX7) (N := 33) hx hb hT hown hK B mI_thrown inlX7 tyX7_ok nmX7 rfl (by decide) q777 rfl rfl rfl rfl rfl dX7_drop_2 hm (fun σ H locs B hm => ?_)
  refine lv_aload_n hx hb dX7_drop_5 rfl (lv_at hl 0 rfl) ?_
  refine x_getib (T := TX7) (N := 33) hx hb hT hown hK B mI_rounds inlX7 rfl (by decide) q768 rfl dX7_drop_6 hm (fun x1 hm => ?_)
  refine lv_if_ne (tgt := 15) hx hb dX7_drop_9 (by decide) (fun q => ?_) (fun q => ?_)
  · have hm := iff hm q
    refine lv_aload_n hx hb dX7_drop_15 rfl (lv_at hl 0 rfl) ?_
    refine lv_dup hx hb dX7_drop_16 rfl ?_
    refine x_getib (T := TX7) (N := 33) hx hb hT hown hK B mI_rounds inlX7 rfl (by decide) q768 rfl dX7_drop_17 hm (fun x2 hm => ?_)
    refine lv_iconst (v := (1 : Int32)) hx hb dX7_drop_20 (by decide) ?_
    refine lv_isub hx hb dX7_drop_21 ?_
    refine x_puti (T := TX7) (N := 33) hx hb hT hown hK B mI_rounds inlX7 tyX7_ok nmX7 rfl (by decide) q768 rfl rfl rfl rfl rfl dX7_drop_22 hm (fun σ H locs B hm => ?_)
    refine lv_aload_n hx hb dX7_drop_25 rfl (lv_at hl 0 rfl) ?_
    refine lv_iconst (v := (0 : Int32)) hx hb dX7_drop_26 (by decide) ?_
    refine x_puti (T := TX7) (N := 33) hx hb hT hown hK B mI_isOpen inlX7 tyX7_ok nmX7 rfl (by decide) q769 rfl rfl rfl rfl rfl dX7_drop_27 hm (fun σ H locs B hm => ?_)
    refine lv_aload_n hx hb dX7_drop_30 rfl (lv_at hl 0 rfl) ?_
    refine x_getib (T := TX7) (N := 33) hx hb hT hown hK B mI_rounds inlX7 rfl (by decide) q768 rfl dX7_drop_31 hm (fun x3 hm => ?_)
    exact x_iret hx hb hr hlk hK B dX7_drop_34 hm
  · have hm := ift hm q
    refine lv_bipush (v := (-3 : Int32)) hx hb dX7_drop_12 (by decide) ?_
    exact x_iret hx hb hr hlk hK B dX7_drop_14 hm
def f_X7_game (σ : Mm) (w1 : Int32) (w2 : Int32) (w3 : Int32) : Option (Int32 × Mm) :=
  (some (sc σ 12 (0 : Int32))).bind fun σ =>
  (f_X7_isPlayer σ w1).bind fun x1 =>
  if x1 = 0 then
    some ((-1 : Int32), σ)
  else
    (some (σ 3 0)).bind fun x2 =>
    (f_X7_in (w2.toInt64) (0 : Int64) ((x2 - (1 : Int32)).toInt64)).bind fun x3 =>
    if x3 = 0 then
      some ((-1 : Int32), σ)
    else
      (f_X7_in (w3.toInt64) (0 : Int64) (2 : Int64)).bind fun x4 =>
      if x4 = 0 then
        some ((-1 : Int32), σ)
      else
        (f_X7_boardOf σ w1 w2).bind fun x5 =>
        if w3 = (2 : Int32) then
          (f_X7_done σ).bind fun x8 =>
          if w2 < x8 then
            (f_X7_madeIn σ w1 w2).bind fun x9 =>
            some (x9, σ)
          else
            some ((-5 : Int32), σ)
        else
          if 0 ≤ x5 then
            if w3 = 0 then
              (f_X7_otherOn σ x5 w1).bind fun x7 =>
              some (x7, σ)
            else
              (ald 120 (σ 7) x5).bind fun x6 =>
              if x6 = w1 then
                some ((0 : Int32), σ)
              else
                some ((1 : Int32), σ)
          else
            some ((-5 : Int32), σ)
set_option maxHeartbeats 4000000 in
set_option maxRecDepth 100000 in
theorem c_X7_game (l : Launch) (D : va_G) (cI cZ : ClassId) (a : Nat → Nat) (w1 : Int32) (w2 : Int32) (w3 : Int32) : CTi l D [(cI, FieldType.int), (cZ, FieldType.boolean)] (mW cI cZ a) yX7_game (.code yX7_game cX7_game 5 (some FieldType.int) :: wsL_law) ({ frames := 2, cells := 0, slots := 0, locals := 47 } : Room) [.ref (a 0), .int w1, .int w2, .int w3] (fun σ => f_X7_game σ w1 w2 w3) := by
  refine CTi.of (by decide +kernel) (Nat.le_of_ble_eq_true rfl) ?_
  intro σ out hm p e s m below meth c A ls H locs hx hb hr hlk hml hT hown hK hA B hl
  have hown : s.vm.findClass RX7 = some m.cls := hown
  have hl : lv_has ls 5 [(0, .ref (a 0)), (1, .int w1), (2, .int w2), (3, .int w3)] := hl
  have hm : f_X7_game σ w1 w2 w3 = some out := hm
  unfold f_X7_game at hm
  refine lv_aload_n hx hb dX7_game_0 rfl (lv_at hl 0 rfl) ?_
  refine lv_iconst (v := (0 : Int32)) hx hb dX7_game_1 (by decide) ?_
  refine x_puti (T := TX7) (N := 33) hx hb hT hown hK B mI_thrown inlX7 tyX7_ok nmX7 rfl (by decide) q777 rfl rfl rfl rfl rfl dX7_game_2 hm (fun σ H locs B hm => ?_)
  refine lv_aload_n hx hb dX7_game_5 rfl (lv_at hl 0 rfl) ?_
  refine lv_iload_n hx hb dX7_game_6 rfl (lv_at hl 1 rfl) ?_
  refine x_callVr (rest := []) hx hb hml hT hown hK hA B hl.1 (c_X7_isPlayer l D cI cZ a w1) mi_X7_isPlayer mv_X7_isPlayer mO_M rfl q963 ⟨rfl, rfl⟩ ⟨Nat.le_of_ble_eq_true rfl, Nat.le_of_ble_eq_true rfl⟩ rfl rfl (Nat.le_of_ble_eq_true rfl) dX7_game_7 hm (fun x1 H locs B hm => ?_)
  refine lv_if_eq (tgt := 41) hx hb dX7_game_10 (by decide) (fun q => ?_) (fun q => ?_)
  · have hm := ift hm q
    refine lv_iconst (v := (-1 : Int32)) hx hb dX7_game_41 (by decide) ?_
    exact x_iret hx hb hr hlk hK B dX7_game_42 hm
  · have hm := iff hm q
    refine lv_iload_n hx hb dX7_game_13 rfl (lv_at hl 2 rfl) ?_
    refine lv_i2l (v := w2.toInt64) hx hb dX7_game_14 rfl ?_
    refine lv_lconst (v := 0) hx hb dX7_game_15 (by decide) ?_
    refine lv_aload_n hx hb dX7_game_16 rfl (lv_at hl 0 rfl) ?_
    refine x_getib (T := TX7) (N := 33) hx hb hT hown hK B mI_rounds inlX7 rfl (by decide) q768 rfl dX7_game_17 hm (fun x2 hm => ?_)
    refine lv_iconst (v := (1 : Int32)) hx hb dX7_game_20 (by decide) ?_
    refine lv_isub hx hb dX7_game_21 ?_
    refine lv_i2l (v := (x2 - (1 : Int32)).toInt64) hx hb dX7_game_22 rfl ?_
    refine x_callSr (rest := []) hx hb hml hT hown hK hA B hl.1 (c_X7_in l D cI cZ (mW cI cZ a) (w2.toInt64) (0 : Int64) ((x2 - (1 : Int32)).toInt64)) mi_X7_in q881 q880 ⟨rfl, rfl⟩ ⟨Nat.le_of_ble_eq_true rfl, Nat.le_of_ble_eq_true rfl⟩ rfl rfl (Nat.le_of_ble_eq_true rfl) dX7_game_23 hm (fun x3 H locs B hm => ?_)
    refine lv_if_eq (tgt := 41) hx hb dX7_game_26 (by decide) (fun q => ?_) (fun q => ?_)
    · have hm := ift hm q
      refine lv_iconst (v := (-1 : Int32)) hx hb dX7_game_41 (by decide) ?_
      exact x_iret hx hb hr hlk hK B dX7_game_42 hm
    · have hm := iff hm q
      refine lv_iload_n hx hb dX7_game_29 rfl (lv_at hl 3 rfl) ?_
      refine lv_i2l (v := w3.toInt64) hx hb dX7_game_30 rfl ?_
      refine lv_lconst (v := 0) hx hb dX7_game_31 (by decide) ?_
      refine lv_ldc2 (v := 2) hx hb hown (hT _ q1025) dX7_game_32 ?_
      refine x_callSr (rest := []) hx hb hml hT hown hK hA B hl.1 (c_X7_in l D cI cZ (mW cI cZ a) (w3.toInt64) (0 : Int64) (2 : Int64)) mi_X7_in q881 q880 ⟨rfl, rfl⟩ ⟨Nat.le_of_ble_eq_true rfl, Nat.le_of_ble_eq_true rfl⟩ rfl rfl (Nat.le_of_ble_eq_true rfl) dX7_game_35 hm (fun x4 H locs B hm => ?_)
      refine lv_if_ne (tgt := 43) hx hb dX7_game_38 (by decide) (fun q => ?_) (fun q => ?_)
      · have hm := iff hm q
        refine lv_aload_n hx hb dX7_game_43 rfl (lv_at hl 0 rfl) ?_
        refine lv_iload_n hx hb dX7_game_44 rfl (lv_at hl 1 rfl) ?_
        refine lv_iload_n hx hb dX7_game_45 rfl (lv_at hl 2 rfl) ?_
        refine x_callVr (rest := []) hx hb hml hT hown hK hA B hl.1 (c_X7_boardOf l D cI cZ a w1 w2) mi_X7_boardOf mv_X7_boardOf mO_M rfl q866 ⟨rfl, rfl⟩ ⟨Nat.le_of_ble_eq_true rfl, Nat.le_of_ble_eq_true rfl⟩ rfl rfl (Nat.le_of_ble_eq_true rfl) dX7_game_46 hm (fun x5 H locs B hm => ?_)
        refine lv_istore (lv' := [(4, .int x5), (0, .ref (a 0)), (1, .int w1), (2, .int w2), (3, .int w3)]) hx hb dX7_game_49 hl (by decide) rfl (fun ls hl => ?_)
        refine lv_iload_n hx hb dX7_game_51 rfl (lv_at hl 4 rfl) ?_
        refine lv_iconst (v := (2 : Int32)) hx hb dX7_game_52 (by decide) ?_
        refine lv_icmp_ne (tgt := 76) hx hb dX7_game_53 (by decide) (fun q => ?_) (fun q => ?_)
        · have hm := iff hm q
          refine lv_iload hx hb dX7_game_76 (lv_at hl 0 rfl) ?_
          refine lv_if_ge (tgt := 86) hx hb dX7_game_78 (by decide) (fun q => ?_) (fun q => ?_)
          · have hm := ift hm q
            refine lv_iload_n hx hb dX7_game_86 rfl (lv_at hl 4 rfl) ?_
            refine lv_if_ne (tgt := 100) hx hb dX7_game_87 (by decide) (fun q => ?_) (fun q => ?_)
            · have hm := iff hm q
              refine lv_aload_n hx hb dX7_game_100 rfl (lv_at hl 1 rfl) ?_
              refine x_getv (T := TX7) (N := 33) hx hb hT hown hK B mV_whites inlX7 rfl (by decide) q772 rfl dX7_game_101 ?_
              refine lv_iload hx hb dX7_game_104 (lv_at hl 0 rfl) ?_
              refine x_iald (t0 := 0) hx hb hK B mA_whites rfl dX7_game_106 hm (fun x6 hm => ?_)
              refine lv_iload_n hx hb dX7_game_107 rfl (lv_at hl 2 rfl) ?_
              refine lv_icmp_ne (tgt := 115) hx hb dX7_game_108 (by decide) (fun q => ?_) (fun q => ?_)
              · have hm := iff hm q
                refine lv_iconst (v := (1 : Int32)) hx hb dX7_game_115 (by decide) ?_
                exact x_iret hx hb hr hlk hK B dX7_game_116 hm
              · have hm := ift hm q
                refine lv_iconst (v := (0 : Int32)) hx hb dX7_game_111 (by decide) ?_
                refine lv_goto (tgt := 116) hx hb dX7_game_112 (by decide) ?_
                exact x_iret hx hb hr hlk hK B dX7_game_116 hm
            · have hm := ift hm q
              refine lv_aload_n hx hb dX7_game_90 rfl (lv_at hl 1 rfl) ?_
              refine lv_iload hx hb dX7_game_91 (lv_at hl 0 rfl) ?_
              refine lv_iload_n hx hb dX7_game_93 rfl (lv_at hl 2 rfl) ?_
              refine x_callVr (rest := []) hx hb hml hT hown hK hA B hl.1 (c_X7_otherOn l D cI cZ a x5 w1) mi_X7_otherOn mv_X7_otherOn mO_M rfl q883 ⟨rfl, rfl⟩ ⟨Nat.le_of_ble_eq_true rfl, Nat.le_of_ble_eq_true rfl⟩ rfl rfl (Nat.le_of_ble_eq_true rfl) dX7_game_94 hm (fun x7 H locs B hm => ?_)
              refine lv_goto (tgt := 116) hx hb dX7_game_97 (by decide) ?_
              exact x_iret hx hb hr hlk hK B dX7_game_116 hm
          · have hm := iff hm q
            refine lv_bipush (v := (-5 : Int32)) hx hb dX7_game_81 (by decide) ?_
            refine lv_goto (tgt := 116) hx hb dX7_game_83 (by decide) ?_
            exact x_iret hx hb hr hlk hK B dX7_game_116 hm
        · have hm := ift hm q
          refine lv_iload_n hx hb dX7_game_56 rfl (lv_at hl 3 rfl) ?_
          refine lv_aload_n hx hb dX7_game_57 rfl (lv_at hl 1 rfl) ?_
          refine x_callVr (rest := [.int w2]) hx hb hml hT hown hK hA B hl.1 (c_X7_done l D cI cZ a) mi_X7_done mv_X7_done mO_M rfl q857 ⟨rfl, rfl⟩ ⟨Nat.le_of_ble_eq_true rfl, Nat.le_of_ble_eq_true rfl⟩ rfl rfl (Nat.le_of_ble_eq_true rfl) dX7_game_58 hm (fun x8 H locs B hm => ?_)
          refine lv_icmp_lt (tgt := 69) hx hb dX7_game_61 (by decide) (fun q => ?_) (fun q => ?_)
          · have hm := ift hm q
            refine lv_aload_n hx hb dX7_game_69 rfl (lv_at hl 1 rfl) ?_
            refine lv_iload_n hx hb dX7_game_70 rfl (lv_at hl 2 rfl) ?_
            refine lv_iload_n hx hb dX7_game_71 rfl (lv_at hl 3 rfl) ?_
            refine x_callVr (rest := []) hx hb hml hT hown hK hA B hl.1 (c_X7_madeIn l D cI cZ a w1 w2) mi_X7_madeIn mv_X7_madeIn mO_M rfl q863 ⟨rfl, rfl⟩ ⟨Nat.le_of_ble_eq_true rfl, Nat.le_of_ble_eq_true rfl⟩ rfl rfl (Nat.le_of_ble_eq_true rfl) dX7_game_72 hm (fun x9 H locs B hm => ?_)
            exact x_iret hx hb hr hlk hK B dX7_game_75 hm
          · have hm := iff hm q
            refine lv_bipush (v := (-5 : Int32)) hx hb dX7_game_64 (by decide) ?_
            refine lv_goto (tgt := 75) hx hb dX7_game_66 (by decide) ?_
            exact x_iret hx hb hr hlk hK B dX7_game_75 hm
      · have hm := ift hm q
        refine lv_iconst (v := (-1 : Int32)) hx hb dX7_game_41 (by decide) ?_
        exact x_iret hx hb hr hlk hK B dX7_game_42 hm
def f_X7_feed (σ : Mm) (w1 : Int32) : Option (Int32 × Mm) :=
  (some (sc σ 12 (0 : Int32))).bind fun σ =>
  (f_X7_in (w1.toInt64) (1 : Int64) (127 : Int64)).bind fun x1 =>
  if x1 = 0 then
    some ((-2 : Int32), σ)
  else
    (some (σ 22 0)).bind fun x2 =>
    if x2 = (40 : Int32) then
      some ((-4 : Int32), σ)
    else
      (some (σ 22 0)).bind fun x3 =>
      (ast 40 σ 21 x3 w1).bind fun σ =>
      (some (σ 22 0)).bind fun x4 =>
      (some (sc σ 22 (x4 + (1 : Int32)))).bind fun σ =>
      (some (σ 22 0)).bind fun x5 =>
      some (x5, σ)
set_option maxHeartbeats 4000000 in
set_option maxRecDepth 100000 in
theorem c_X7_feed (l : Launch) (D : va_G) (cI cZ : ClassId) (a : Nat → Nat) (w1 : Int32) : CTi l D [(cI, FieldType.int), (cZ, FieldType.boolean)] (mW cI cZ a) yX7_feed (.code yX7_feed cX7_feed 2 (some FieldType.int) :: wsL_law) ({ frames := 1, cells := 0, slots := 0, locals := 25 } : Room) [.ref (a 0), .int w1] (fun σ => f_X7_feed σ w1) := by
  refine CTi.of (by decide +kernel) (Nat.le_of_ble_eq_true rfl) ?_
  intro σ out hm p e s m below meth c A ls H locs hx hb hr hlk hml hT hown hK hA B hl
  have hown : s.vm.findClass RX7 = some m.cls := hown
  have hl : lv_has ls 2 [(0, .ref (a 0)), (1, .int w1)] := hl
  have hm : f_X7_feed σ w1 = some out := hm
  unfold f_X7_feed at hm
  refine lv_aload_n hx hb dX7_feed_0 rfl (lv_at hl 0 rfl) ?_
  refine lv_iconst (v := (0 : Int32)) hx hb dX7_feed_1 (by decide) ?_
  refine x_puti (T := TX7) (N := 33) hx hb hT hown hK B mI_thrown inlX7 tyX7_ok nmX7 rfl (by decide) q777 rfl rfl rfl rfl rfl dX7_feed_2 hm (fun σ H locs B hm => ?_)
  refine lv_iload_n hx hb dX7_feed_5 rfl (lv_at hl 1 rfl) ?_
  refine lv_i2l (v := w1.toInt64) hx hb dX7_feed_6 rfl ?_
  refine lv_lconst (v := 1) hx hb dX7_feed_7 (by decide) ?_
  refine lv_ldc2 (v := 127) hx hb hown (hT _ q1058) dX7_feed_8 ?_
  refine x_callSr (rest := []) hx hb hml hT hown hK hA B hl.1 (c_X7_in l D cI cZ (mW cI cZ a) (w1.toInt64) (1 : Int64) (127 : Int64)) mi_X7_in q881 q880 ⟨rfl, rfl⟩ ⟨Nat.le_of_ble_eq_true rfl, Nat.le_of_ble_eq_true rfl⟩ rfl rfl (Nat.le_of_ble_eq_true rfl) dX7_feed_11 hm (fun x1 H locs B hm => ?_)
  refine lv_if_ne (tgt := 20) hx hb dX7_feed_14 (by decide) (fun q => ?_) (fun q => ?_)
  · have hm := iff hm q
    refine lv_aload_n hx hb dX7_feed_20 rfl (lv_at hl 0 rfl) ?_
    refine x_getib (T := TX7) (N := 33) hx hb hT hown hK B mI_size inlX7 rfl (by decide) q787 rfl dX7_feed_21 hm (fun x2 hm => ?_)
    refine lv_bipush (v := (40 : Int32)) hx hb dX7_feed_24 (by decide) ?_
    refine lv_icmp_ne (tgt := 32) hx hb dX7_feed_26 (by decide) (fun q => ?_) (fun q => ?_)
    · have hm := iff hm q
      refine lv_aload_n hx hb dX7_feed_32 rfl (lv_at hl 0 rfl) ?_
      refine x_getv (T := TX7) (N := 33) hx hb hT hown hK B mV_tape inlX7 rfl (by decide) q786 rfl dX7_feed_33 ?_
      refine lv_aload_n hx hb dX7_feed_36 rfl (lv_at hl 0 rfl) ?_
      refine x_getib (T := TX7) (N := 33) hx hb hT hown hK B mI_size inlX7 rfl (by decide) q787 rfl dX7_feed_37 hm (fun x3 hm => ?_)
      refine lv_iload_n hx hb dX7_feed_40 rfl (lv_at hl 1 rfl) ?_
      refine x_iast (t0 := 0) hx hb hK B mA_tape rfl dX7_feed_41 hm (fun σ H locs B hm => ?_)
      refine lv_aload_n hx hb dX7_feed_42 rfl (lv_at hl 0 rfl) ?_
      refine lv_dup hx hb dX7_feed_43 rfl ?_
      refine x_getib (T := TX7) (N := 33) hx hb hT hown hK B mI_size inlX7 rfl (by decide) q787 rfl dX7_feed_44 hm (fun x4 hm => ?_)
      refine lv_iconst (v := (1 : Int32)) hx hb dX7_feed_47 (by decide) ?_
      refine lv_iadd hx hb dX7_feed_48 ?_
      refine x_puti (T := TX7) (N := 33) hx hb hT hown hK B mI_size inlX7 tyX7_ok nmX7 rfl (by decide) q787 rfl rfl rfl rfl rfl dX7_feed_49 hm (fun σ H locs B hm => ?_)
      refine lv_aload_n hx hb dX7_feed_52 rfl (lv_at hl 0 rfl) ?_
      refine x_getib (T := TX7) (N := 33) hx hb hT hown hK B mI_size inlX7 rfl (by decide) q787 rfl dX7_feed_53 hm (fun x5 hm => ?_)
      exact x_iret hx hb hr hlk hK B dX7_feed_56 hm
    · have hm := ift hm q
      refine lv_bipush (v := (-4 : Int32)) hx hb dX7_feed_29 (by decide) ?_
      exact x_iret hx hb hr hlk hK B dX7_feed_31 hm
  · have hm := ift hm q
    refine lv_bipush (v := (-2 : Int32)) hx hb dX7_feed_17 (by decide) ?_
    exact x_iret hx hb hr hlk hK B dX7_feed_19 hm
def f_X7_clear (σ : Mm) : Option (Int32 × Mm) :=
  (some (sc σ 12 (0 : Int32))).bind fun σ =>
  (some (σ 22 0)).bind fun x1 =>
  (some (sc σ 22 (0 : Int32))).bind fun σ =>
  some (x1, σ)
set_option maxHeartbeats 4000000 in
set_option maxRecDepth 100000 in
theorem c_X7_clear (l : Launch) (D : va_G) (cI cZ : ClassId) (a : Nat → Nat) : CTi l D [(cI, FieldType.int), (cZ, FieldType.boolean)] (mW cI cZ a) yX7_clear (.code yX7_clear cX7_clear 2 (some FieldType.int) :: wsL_law) ({ frames := 0, cells := 0, slots := 0, locals := 0 } : Room) [.ref (a 0)] (fun σ => f_X7_clear σ) := by
  refine CTi.of (by decide +kernel) (Nat.le_of_ble_eq_true rfl) ?_
  intro σ out hm p e s m below meth c A ls H locs hx hb hr hlk hml hT hown hK hA B hl
  have hown : s.vm.findClass RX7 = some m.cls := hown
  have hl : lv_has ls 2 [(0, .ref (a 0))] := hl
  have hm : f_X7_clear σ = some out := hm
  unfold f_X7_clear at hm
  refine lv_aload_n hx hb dX7_clear_0 rfl (lv_at hl 0 rfl) ?_
  refine lv_iconst (v := (0 : Int32)) hx hb dX7_clear_1 (by decide) ?_
  refine x_puti (T := TX7) (N := 33) hx hb hT hown hK B mI_thrown inlX7 tyX7_ok nmX7 rfl (by decide) q777 rfl rfl rfl rfl rfl dX7_clear_2 hm (fun σ H locs B hm => ?_)
  refine lv_aload_n hx hb dX7_clear_5 rfl (lv_at hl 0 rfl) ?_
  refine x_getib (T := TX7) (N := 33) hx hb hT hown hK B mI_size inlX7 rfl (by decide) q787 rfl dX7_clear_6 hm (fun x1 hm => ?_)
  refine lv_istore_n (lv' := [(1, .int x1), (0, .ref (a 0))]) hx hb dX7_clear_9 rfl hl (by decide) rfl (fun ls hl => ?_)
  refine lv_aload_n hx hb dX7_clear_10 rfl (lv_at hl 1 rfl) ?_
  refine lv_iconst (v := (0 : Int32)) hx hb dX7_clear_11 (by decide) ?_
  refine x_puti (T := TX7) (N := 33) hx hb hT hown hK B mI_size inlX7 tyX7_ok nmX7 rfl (by decide) q787 rfl rfl rfl rfl rfl dX7_clear_12 hm (fun σ H locs B hm => ?_)
  refine lv_iload_n hx hb dX7_clear_15 rfl (lv_at hl 0 rfl) ?_
  exact x_iret hx hb hr hlk hK B dX7_clear_16 hm
def f_X7_resultOf (w0 : Int32) : Option Int32 :=
  if w0 = (43 : Int32) then
    some (4 : Int32)
  else
    if w0 = (45 : Int32) then
      some (5 : Int32)
    else
      if w0 = (48 : Int32) then
        some (3 : Int32)
      else
        if w0 = (49 : Int32) then
          some (1 : Int32)
        else
          if w0 = (61 : Int32) then
            some (2 : Int32)
          else
            if w0 = (120 : Int32) then
              some (6 : Int32)
            else
              if w0 = (46 : Int32) then
                some (0 : Int32)
              else
                some (-1 : Int32)
set_option maxHeartbeats 4000000 in
set_option maxRecDepth 100000 in
theorem c_X7_resultOf (l : Launch) (D : va_G) (cI cZ : ClassId) (ww : Mm → va_W) (w0 : Int32) : CTr l D [(cI, FieldType.int), (cZ, FieldType.boolean)] ww yX7_resultOf (.code yX7_resultOf cX7_resultOf 1 (some FieldType.int) :: wsL_law) ({ frames := 0, cells := 0, slots := 0, locals := 0 } : Room) [.int w0] (fun σ => f_X7_resultOf w0) := by
  refine CTr.of (by decide +kernel) (Nat.le_of_ble_eq_true rfl) ?_
  intro σ r hm p e s m below meth c A ls H locs hx hb hr hlk hml hT hown hK hA B hl
  have hown : s.vm.findClass RX7 = some m.cls := hown
  have hl : lv_has ls 1 [(0, .int w0)] := hl
  have hm : f_X7_resultOf w0 = some r := hm
  unfold f_X7_resultOf at hm
  refine lv_iload_n hx hb dX7_resultOf_0 rfl (lv_at hl 0 rfl) ?_
  by_cases q0 : w0 = (43 : Int32)
  · have hm := ift hm q0
    refine lv_lookup (off := 65) (tgt := 66) hx hb dX7_resultOf_1 (by decide) (by rw [q0]; rfl) (by decide) ?_
    refine lv_iconst (v := (4 : Int32)) hx hb dX7_resultOf_66 (by decide) ?_
    exact x_iretr hx hb hr hlk hK B dX7_resultOf_67 hm
  · have hm := iff hm q0
    by_cases q1 : w0 = (45 : Int32)
    · have hm := ift hm q1
      refine lv_lookup (off := 67) (tgt := 68) hx hb dX7_resultOf_1 (by decide) (by rw [q1]; rfl) (by decide) ?_
      refine lv_iconst (v := (5 : Int32)) hx hb dX7_resultOf_68 (by decide) ?_
      exact x_iretr hx hb hr hlk hK B dX7_resultOf_69 hm
    · have hm := iff hm q1
      by_cases q2 : w0 = (48 : Int32)
      · have hm := ift hm q2
        refine lv_lookup (off := 63) (tgt := 64) hx hb dX7_resultOf_1 (by decide) (by rw [q2]; rfl) (by decide) ?_
        refine lv_iconst (v := (3 : Int32)) hx hb dX7_resultOf_64 (by decide) ?_
        exact x_iretr hx hb hr hlk hK B dX7_resultOf_65 hm
      · have hm := iff hm q2
        by_cases q3 : w0 = (49 : Int32)
        · have hm := ift hm q3
          refine lv_lookup (off := 59) (tgt := 60) hx hb dX7_resultOf_1 (by decide) (by rw [q3]; rfl) (by decide) ?_
          refine lv_iconst (v := (1 : Int32)) hx hb dX7_resultOf_60 (by decide) ?_
          exact x_iretr hx hb hr hlk hK B dX7_resultOf_61 hm
        · have hm := iff hm q3
          by_cases q4 : w0 = (61 : Int32)
          · have hm := ift hm q4
            refine lv_lookup (off := 61) (tgt := 62) hx hb dX7_resultOf_1 (by decide) (by rw [q4]; rfl) (by decide) ?_
            refine lv_iconst (v := (2 : Int32)) hx hb dX7_resultOf_62 (by decide) ?_
            exact x_iretr hx hb hr hlk hK B dX7_resultOf_63 hm
          · have hm := iff hm q4
            by_cases q5 : w0 = (120 : Int32)
            · have hm := ift hm q5
              refine lv_lookup (off := 69) (tgt := 70) hx hb dX7_resultOf_1 (by decide) (by rw [q5]; rfl) (by decide) ?_
              refine lv_bipush (v := (6 : Int32)) hx hb dX7_resultOf_70 (by decide) ?_
              exact x_iretr hx hb hr hlk hK B dX7_resultOf_72 hm
            · have hm := iff hm q5
              refine lv_lookup (off := 72) (tgt := 73) hx hb dX7_resultOf_1 (by decide) (by show Op.lookupswitch.offset [(43, 65), (45, 67), (48, 63), (49, 59), (61, 61), (120, 69)] 72 _ = _; rw [lv_osw q0 (by decide), lv_osw q1 (by decide), lv_osw q2 (by decide), lv_osw q3 (by decide), lv_osw q4 (by decide), lv_osw q5 (by decide)]; rfl) (by decide) ?_
              refine lv_iload_n hx hb dX7_resultOf_73 rfl (lv_at hl 0 rfl) ?_
              refine lv_bipush (v := (46 : Int32)) hx hb dX7_resultOf_74 (by decide) ?_
              refine lv_icmp_ne (tgt := 83) hx hb dX7_resultOf_76 (by decide) (fun q => ?_) (fun q => ?_)
              · have hm := iff hm q
                refine lv_iconst (v := (-1 : Int32)) hx hb dX7_resultOf_83 (by decide) ?_
                exact x_iretr hx hb hr hlk hK B dX7_resultOf_84 hm
              · have hm := ift hm q
                refine lv_iconst (v := (0 : Int32)) hx hb dX7_resultOf_79 (by decide) ?_
                refine lv_goto (tgt := 84) hx hb dX7_resultOf_80 (by decide) ?_
                exact x_iretr hx hb hr hlk hK B dX7_resultOf_84 hm
def f_X7_results_j148 (σ : Mm) : Option (Int32 × Mm) :=
  (f_X7_withResult σ).bind fun x1 =>
  some (x1, σ)
def f_X7_results_j141 (r90 : Mm → Int32 → Option (Int32 × Mm)) (σ : Mm) (v1 v2 v4 s1 s2 : Int32) : Option (Int32 × Mm) :=
  (ast 120 σ 9 s1 s2).bind fun σ =>
  r90 σ (v4 + (1 : Int32))
def f_X7_results_s90 (v1 : Int32) (v2 : Int32) (r90 : Mm → Int32 → Option (Int32 × Mm)) (σ : Mm) (v4 : Int32) : Option (Int32 × Mm) :=
  if v1 ≤ v4 then
    f_X7_results_j148 σ
  else
    (ald 40 (σ 21) v4).bind fun x2 =>
    (f_X7_resultOf x2).bind fun x3 =>
    if x3 = 0 then
      (ald 120 (σ 9) (((6 : Int32) * v2) + v4)).bind fun x4 =>
      f_X7_results_j141 r90 σ v1 v2 v4 (((6 : Int32) * v2) + v4) x4
    else
      f_X7_results_j141 r90 σ v1 v2 v4 (((6 : Int32) * v2) + v4) x3
def f_X7_results_j67 (σ : Mm) (v1 v2 v3 : Int32) : Option (Int32 × Mm) :=
  if v3 < v1 then
    some (((-100 : Int32) - v3), σ)
  else
    (ald 20 (σ 5) v2).bind fun x5 =>
    if x5 ≤ v3 then
      wh2 (f_X7_results_s90 v1 v2) 5000 σ (0 : Int32)
    else
      some (((-100 : Int32) - v3), σ)
def f_X7_results_s34 (v1 : Int32) (v2 : Int32) (r34 : Mm → Int32 → Option (Int32 × Mm)) (σ : Mm) (v3 : Int32) : Option (Int32 × Mm) :=
  if v1 ≤ v3 then
    f_X7_results_j67 σ v1 v2 v3
  else
    (ald 20 (σ 5) v2).bind fun x6 =>
    if x6 ≤ v3 then
      f_X7_results_j67 σ v1 v2 v3
    else
      (ald 40 (σ 21) v3).bind fun x7 =>
      (f_X7_resultOf x7).bind fun x8 =>
      if x8 < 0 then
        f_X7_results_j67 σ v1 v2 v3
      else
        r34 σ (v3 + (1 : Int32))
def f_X7_results (σ : Mm) : Option (Int32 × Mm) :=
  (some (sc σ 12 (0 : Int32))).bind fun σ =>
  (some (σ 22 0)).bind fun x9 =>
  (some (sc σ 22 (0 : Int32))).bind fun σ =>
  (some (σ 4 0)).bind fun x10 =>
  if x10 = 0 then
    some ((-3 : Int32), σ)
  else
    (some (σ 3 0)).bind fun x11 =>
    wh2 (f_X7_results_s34 x9 (x11 - (1 : Int32))) 5000 σ (0 : Int32)
set_option maxHeartbeats 4000000 in
set_option maxRecDepth 100000 in
theorem c_X7_results (l : Launch) (D : va_G) (cI cZ : ClassId) (a : Nat → Nat) : CTi l D [(cI, FieldType.int), (cZ, FieldType.boolean)] (mW cI cZ a) yX7_results (.code yX7_results cX7_results 6 (some FieldType.int) :: wsL_law) ({ frames := 1, cells := 0, slots := 0, locals := 22 } : Room) [.ref (a 0)] (fun σ => f_X7_results σ) := by
  refine CTi.of (by decide +kernel) (Nat.le_of_ble_eq_true rfl) ?_
  intro σ out hm p e s m below meth c A ls H locs hx hb hr hlk hml hT hown hK hA B hl
  have hown : s.vm.findClass RX7 = some m.cls := hown
  have hl : lv_has ls 6 [(0, .ref (a 0))] := hl
  have hm : f_X7_results σ = some out := hm
  unfold f_X7_results at hm
  have j148 : ∀ (σ : Mm)  (H : Heap) (locs : List Loc) (ls : Array Slot), BD D A s.heap ((mW cI cZ a) σ) H locs → lv_has ls 6 [(0, .ref (a 0))] → f_X7_results_j148 σ = some out → W p l e ({ frames := 1, cells := 0, slots := 0, locals := 22 } : Room) s m ([.ref (a 0)] : List Value).toArray below meth c H locs 0 0 (MQ below (QI D [(cI, FieldType.int), (cZ, FieldType.boolean)] (mW cI cZ a) A out) ([.ref (a 0)] : List Value).toArray s 0 0 A) (F0 m 148 ls []) := by
    intro σ  H locs ls B hl hm
    unfold f_X7_results_j148 at hm
    refine lv_aload_n hx hb dX7_results_148 rfl (lv_at hl 0 rfl) ?_
    refine x_callVr (rest := []) hx hb hml hT hown hK hA B hl.1 (c_X7_withResult l D cI cZ a) mi_X7_withResult mv_X7_withResult mO_M rfl q1043 ⟨rfl, rfl⟩ ⟨Nat.le_of_ble_eq_true rfl, Nat.le_of_ble_eq_true rfl⟩ rfl rfl (Nat.le_of_ble_eq_true rfl) dX7_results_149 hm (fun x1 H locs B hm => ?_)
    exact x_iret hx hb hr hlk hK B dX7_results_152 hm
  have L90 : ∀ (v1 : Int32) (v2 : Int32) (nn : Nat) (σ : Mm) (v4 : Int32), wh2 (f_X7_results_s90 v1 v2) nn σ v4 = some out → ∀ (H : Heap) (locs : List Loc) (ls : Array Slot), BD D A s.heap ((mW cI cZ a) σ) H locs → lv_has ls 6 [(0, .ref (a 0)), (1, .int v1), (2, .int v2), (4, .int v4)] → W p l e ({ frames := 1, cells := 0, slots := 0, locals := 22 } : Room) s m ([.ref (a 0)] : List Value).toArray below meth c H locs 0 0 (MQ below (QI D [(cI, FieldType.int), (cZ, FieldType.boolean)] (mW cI cZ a) A out) ([.ref (a 0)] : List Value).toArray s 0 0 A) (F0 m 90 ls []) := by
    intro v1 v2
    refine loop2 (fun r90 ih90 σ v4 hm H locs ls B hl => ?_)
    unfold f_X7_results_s90 at hm
    have j141 : ∀ (σ : Mm) (v4 : Int32) (s1 : Int32) (s2 : Int32) (H : Heap) (locs : List Loc) (ls : Array Slot), BD D A s.heap ((mW cI cZ a) σ) H locs → lv_has ls 6 [(0, .ref (a 0)), (1, .int v1), (2, .int v2), (4, .int v4)] → f_X7_results_j141 r90 σ v1 v2 v4 s1 s2 = some out → W p l e ({ frames := 1, cells := 0, slots := 0, locals := 22 } : Room) s m ([.ref (a 0)] : List Value).toArray below meth c H locs 0 0 (MQ below (QI D [(cI, FieldType.int), (cZ, FieldType.boolean)] (mW cI cZ a) A out) ([.ref (a 0)] : List Value).toArray s 0 0 A) (F0 m 141 ls [.int s2, .int s1, .ref (a 7)]) := by
      intro σ v4 s1 s2 H locs ls B hl hm
      unfold f_X7_results_j141 at hm
      refine x_iast (t0 := 0) hx hb hK B mA_results0 rfl dX7_results_141 hm (fun σ H locs B hm => ?_)
      refine lv_iinc (v := (v4 + (1 : Int32))) (lv' := [(4, .int (v4 + (1 : Int32))), (0, .ref (a 0)), (1, .int v1), (2, .int v2)]) hx hb dX7_results_142 hl (k := 3) rfl rfl (by decide) rfl (fun ls hl => ?_)
      refine lv_goto (tgt := 90) hx hb dX7_results_145 (by decide) ?_
      exact ih90 σ (v4 + (1 : Int32)) hm H locs ls B (lv_sub hl [1, 2, 3, 0] rfl)
    refine lv_iload hx hb dX7_results_90 (lv_at hl 3 rfl) ?_
    refine lv_iload_n hx hb dX7_results_92 rfl (lv_at hl 1 rfl) ?_
    refine lv_icmp_ge (tgt := 148) hx hb dX7_results_93 (by decide) (fun q => ?_) (fun q => ?_)
    · have hm := ift hm q
      exact j148 σ H locs ls B (lv_sub hl [0] rfl) hm
    · have hm := iff hm q
      refine lv_aload_n hx hb dX7_results_96 rfl (lv_at hl 0 rfl) ?_
      refine x_getv (T := TX7) (N := 33) hx hb hT hown hK B mV_tape inlX7 rfl (by decide) q786 rfl dX7_results_97 ?_
      refine lv_iload hx hb dX7_results_100 (lv_at hl 3 rfl) ?_
      refine x_iald (t0 := 0) hx hb hK B mA_tape rfl dX7_results_102 hm (fun x2 hm => ?_)
      refine x_callSr (rest := []) hx hb hml hT hown hK hA B hl.1 (c_X7_resultOf l D cI cZ (mW cI cZ a) x2) mi_X7_resultOf q1068 q1067 ⟨rfl, rfl⟩ ⟨Nat.le_of_ble_eq_true rfl, Nat.le_of_ble_eq_true rfl⟩ rfl rfl (Nat.le_of_ble_eq_true rfl) dX7_results_103 hm (fun x3 H locs B hm => ?_)
      refine lv_istore (lv' := [(5, .int x3), (0, .ref (a 0)), (1, .int v1), (2, .int v2), (4, .int v4)]) hx hb dX7_results_106 hl (by decide) rfl (fun ls hl => ?_)
      refine lv_aload_n hx hb dX7_results_108 rfl (lv_at hl 1 rfl) ?_
      refine x_getv (T := TX7) (N := 33) hx hb hT hown hK B mV_results0 inlX7 rfl (by decide) q774 rfl dX7_results_109 ?_
      refine lv_bipush (v := (6 : Int32)) hx hb dX7_results_112 (by decide) ?_
      refine lv_iload_n hx hb dX7_results_114 rfl (lv_at hl 3 rfl) ?_
      refine lv_imul hx hb dX7_results_115 ?_
      refine lv_iload hx hb dX7_results_116 (lv_at hl 4 rfl) ?_
      refine lv_iadd hx hb dX7_results_118 ?_
      refine lv_iload hx hb dX7_results_119 (lv_at hl 0 rfl) ?_
      refine lv_if_ne (tgt := 139) hx hb dX7_results_121 (by decide) (fun q => ?_) (fun q => ?_)
      · have hm := iff hm q
        refine lv_iload hx hb dX7_results_139 (lv_at hl 0 rfl) ?_
        exact j141 σ v4 (((6 : Int32) * v2) + v4) x3 H locs ls B (lv_sub hl [1, 2, 3, 4] rfl) hm
      · have hm := ift hm q
        refine lv_aload_n hx hb dX7_results_124 rfl (lv_at hl 1 rfl) ?_
        refine x_getv (T := TX7) (N := 33) hx hb hT hown hK B mV_results0 inlX7 rfl (by decide) q774 rfl dX7_results_125 ?_
        refine lv_bipush (v := (6 : Int32)) hx hb dX7_results_128 (by decide) ?_
        refine lv_iload_n hx hb dX7_results_130 rfl (lv_at hl 3 rfl) ?_
        refine lv_imul hx hb dX7_results_131 ?_
        refine lv_iload hx hb dX7_results_132 (lv_at hl 4 rfl) ?_
        refine lv_iadd hx hb dX7_results_134 ?_
        refine x_iald (t0 := 0) hx hb hK B mA_results0 rfl dX7_results_135 hm (fun x4 hm => ?_)
        refine lv_goto (tgt := 141) hx hb dX7_results_136 (by decide) ?_
        exact j141 σ v4 (((6 : Int32) * v2) + v4) x4 H locs ls B (lv_sub hl [1, 2, 3, 4] rfl) hm
  have j67 : ∀ (σ : Mm) (v1 : Int32) (v2 : Int32) (v3 : Int32) (H : Heap) (locs : List Loc) (ls : Array Slot), BD D A s.heap ((mW cI cZ a) σ) H locs → lv_has ls 6 [(0, .ref (a 0)), (1, .int v1), (2, .int v2), (3, .int v3)] → f_X7_results_j67 σ v1 v2 v3 = some out → W p l e ({ frames := 1, cells := 0, slots := 0, locals := 22 } : Room) s m ([.ref (a 0)] : List Value).toArray below meth c H locs 0 0 (MQ below (QI D [(cI, FieldType.int), (cZ, FieldType.boolean)] (mW cI cZ a) A out) ([.ref (a 0)] : List Value).toArray s 0 0 A) (F0 m 67 ls []) := by
    intro σ v1 v2 v3 H locs ls B hl hm
    unfold f_X7_results_j67 at hm
    refine lv_iload_n hx hb dX7_results_67 rfl (lv_at hl 3 rfl) ?_
    refine lv_iload_n hx hb dX7_results_68 rfl (lv_at hl 1 rfl) ?_
    refine lv_icmp_lt (tgt := 82) hx hb dX7_results_69 (by decide) (fun q => ?_) (fun q => ?_)
    · have hm := ift hm q
      refine lv_bipush (v := (-100 : Int32)) hx hb dX7_results_82 (by decide) ?_
      refine lv_iload_n hx hb dX7_results_84 rfl (lv_at hl 3 rfl) ?_
      refine lv_isub hx hb dX7_results_85 ?_
      exact x_iret hx hb hr hlk hK B dX7_results_86 hm
    · have hm := iff hm q
      refine lv_iload_n hx hb dX7_results_72 rfl (lv_at hl 3 rfl) ?_
      refine lv_aload_n hx hb dX7_results_73 rfl (lv_at hl 0 rfl) ?_
      refine x_getv (T := TX7) (N := 33) hx hb hT hown hK B mV_boardMany inlX7 rfl (by decide) q770 rfl dX7_results_74 ?_
      refine lv_iload_n hx hb dX7_results_77 rfl (lv_at hl 2 rfl) ?_
      refine x_iald (t0 := 0) hx hb hK B mA_boardMany rfl dX7_results_78 hm (fun x5 hm => ?_)
      refine lv_icmp_ge (tgt := 87) hx hb dX7_results_79 (by decide) (fun q => ?_) (fun q => ?_)
      · have hm := ift hm q
        refine lv_iconst (v := (0 : Int32)) hx hb dX7_results_87 (by decide) ?_
        refine lv_istore (lv' := [(4, .int (0 : Int32)), (0, .ref (a 0)), (1, .int v1), (2, .int v2), (3, .int v3)]) hx hb dX7_results_88 hl (by decide) rfl (fun ls hl => ?_)
        exact L90 v1 v2 5000 σ (0 : Int32) hm H locs ls B (lv_sub hl [1, 2, 3, 0] rfl)
      · have hm := iff hm q
        refine lv_bipush (v := (-100 : Int32)) hx hb dX7_results_82 (by decide) ?_
        refine lv_iload_n hx hb dX7_results_84 rfl (lv_at hl 3 rfl) ?_
        refine lv_isub hx hb dX7_results_85 ?_
        exact x_iret hx hb hr hlk hK B dX7_results_86 hm
  have L34 : ∀ (v1 : Int32) (v2 : Int32) (nn : Nat) (σ : Mm) (v3 : Int32), wh2 (f_X7_results_s34 v1 v2) nn σ v3 = some out → ∀ (H : Heap) (locs : List Loc) (ls : Array Slot), BD D A s.heap ((mW cI cZ a) σ) H locs → lv_has ls 6 [(0, .ref (a 0)), (1, .int v1), (2, .int v2), (3, .int v3)] → W p l e ({ frames := 1, cells := 0, slots := 0, locals := 22 } : Room) s m ([.ref (a 0)] : List Value).toArray below meth c H locs 0 0 (MQ below (QI D [(cI, FieldType.int), (cZ, FieldType.boolean)] (mW cI cZ a) A out) ([.ref (a 0)] : List Value).toArray s 0 0 A) (F0 m 34 ls []) := by
    intro v1 v2
    refine loop2 (fun r34 ih34 σ v3 hm H locs ls B hl => ?_)
    unfold f_X7_results_s34 at hm
    refine lv_iload_n hx hb dX7_results_34 rfl (lv_at hl 3 rfl) ?_
    refine lv_iload_n hx hb dX7_results_35 rfl (lv_at hl 1 rfl) ?_
    refine lv_icmp_ge (tgt := 67) hx hb dX7_results_36 (by decide) (fun q => ?_) (fun q => ?_)
    · have hm := ift hm q
      exact j67 σ v1 v2 v3 H locs ls B (lv_sub hl [0, 1, 2, 3] rfl) hm
    · have hm := iff hm q
      refine lv_iload_n hx hb dX7_results_39 rfl (lv_at hl 3 rfl) ?_
      refine lv_aload_n hx hb dX7_results_40 rfl (lv_at hl 0 rfl) ?_
      refine x_getv (T := TX7) (N := 33) hx hb hT hown hK B mV_boardMany inlX7 rfl (by decide) q770 rfl dX7_results_41 ?_
      refine lv_iload_n hx hb dX7_results_44 rfl (lv_at hl 2 rfl) ?_
      refine x_iald (t0 := 0) hx hb hK B mA_boardMany rfl dX7_results_45 hm (fun x6 hm => ?_)
      refine lv_icmp_ge (tgt := 67) hx hb dX7_results_46 (by decide) (fun q => ?_) (fun q => ?_)
      · have hm := ift hm q
        exact j67 σ v1 v2 v3 H locs ls B (lv_sub hl [0, 1, 2, 3] rfl) hm
      · have hm := iff hm q
        refine lv_aload_n hx hb dX7_results_49 rfl (lv_at hl 0 rfl) ?_
        refine x_getv (T := TX7) (N := 33) hx hb hT hown hK B mV_tape inlX7 rfl (by decide) q786 rfl dX7_results_50 ?_
        refine lv_iload_n hx hb dX7_results_53 rfl (lv_at hl 3 rfl) ?_
        refine x_iald (t0 := 0) hx hb hK B mA_tape rfl dX7_results_54 hm (fun x7 hm => ?_)
        refine x_callSr (rest := []) hx hb hml hT hown hK hA B hl.1 (c_X7_resultOf l D cI cZ (mW cI cZ a) x7) mi_X7_resultOf q1068 q1067 ⟨rfl, rfl⟩ ⟨Nat.le_of_ble_eq_true rfl, Nat.le_of_ble_eq_true rfl⟩ rfl rfl (Nat.le_of_ble_eq_true rfl) dX7_results_55 hm (fun x8 H locs B hm => ?_)
        refine lv_if_lt (tgt := 67) hx hb dX7_results_58 (by decide) (fun q => ?_) (fun q => ?_)
        · have hm := ift hm q
          exact j67 σ v1 v2 v3 H locs ls B (lv_sub hl [0, 1, 2, 3] rfl) hm
        · have hm := iff hm q
          refine lv_iinc (v := (v3 + (1 : Int32))) (lv' := [(3, .int (v3 + (1 : Int32))), (0, .ref (a 0)), (1, .int v1), (2, .int v2)]) hx hb dX7_results_61 hl (k := 3) rfl rfl (by decide) rfl (fun ls hl => ?_)
          refine lv_goto (tgt := 34) hx hb dX7_results_64 (by decide) ?_
          exact ih34 σ (v3 + (1 : Int32)) hm H locs ls B (lv_sub hl [1, 2, 3, 0] rfl)
  refine lv_aload_n hx hb dX7_results_0 rfl (lv_at hl 0 rfl) ?_
  refine lv_iconst (v := (0 : Int32)) hx hb dX7_results_1 (by decide) ?_
  refine x_puti (T := TX7) (N := 33) hx hb hT hown hK B mI_thrown inlX7 tyX7_ok nmX7 rfl (by decide) q777 rfl rfl rfl rfl rfl dX7_results_2 hm (fun σ H locs B hm => ?_)
  refine lv_aload_n hx hb dX7_results_5 rfl (lv_at hl 0 rfl) ?_
  refine x_getib (T := TX7) (N := 33) hx hb hT hown hK B mI_size inlX7 rfl (by decide) q787 rfl dX7_results_6 hm (fun x9 hm => ?_)
  refine lv_istore_n (lv' := [(1, .int x9), (0, .ref (a 0))]) hx hb dX7_results_9 rfl hl (by decide) rfl (fun ls hl => ?_)
  refine lv_aload_n hx hb dX7_results_10 rfl (lv_at hl 1 rfl) ?_
  refine lv_iconst (v := (0 : Int32)) hx hb dX7_results_11 (by decide) ?_
  refine x_puti (T := TX7) (N := 33) hx hb hT hown hK B mI_size inlX7 tyX7_ok nmX7 rfl (by decide) q787 rfl rfl rfl rfl rfl dX7_results_12 hm (fun σ H locs B hm => ?_)
  refine lv_aload_n hx hb dX7_results_15 rfl (lv_at hl 1 rfl) ?_
  refine x_getib (T := TX7) (N := 33) hx hb hT hown hK B mI_isOpen inlX7 rfl (by decide) q769 rfl dX7_results_16 hm (fun x10 hm => ?_)
  refine lv_if_ne (tgt := 25) hx hb dX7_results_19 (by decide) (fun q => ?_) (fun q => ?_)
  · have hm := iff hm q
    refine lv_aload_n hx hb dX7_results_25 rfl (lv_at hl 1 rfl) ?_
    refine x_getib (T := TX7) (N := 33) hx hb hT hown hK B mI_rounds inlX7 rfl (by decide) q768 rfl dX7_results_26 hm (fun x11 hm => ?_)
    refine lv_iconst (v := (1 : Int32)) hx hb dX7_results_29 (by decide) ?_
    refine lv_isub hx hb dX7_results_30 ?_
    refine lv_istore_n (lv' := [(2, .int (x11 - (1 : Int32))), (1, .int x9), (0, .ref (a 0))]) hx hb dX7_results_31 rfl hl (by decide) rfl (fun ls hl => ?_)
    refine lv_iconst (v := (0 : Int32)) hx hb dX7_results_32 (by decide) ?_
    refine lv_istore_n (lv' := [(3, .int (0 : Int32)), (2, .int (x11 - (1 : Int32))), (1, .int x9), (0, .ref (a 0))]) hx hb dX7_results_33 rfl hl (by decide) rfl (fun ls hl => ?_)
    exact L34 x9 (x11 - (1 : Int32)) 5000 σ (0 : Int32) hm H locs ls B (lv_sub hl [3, 2, 1, 0] rfl)
  · have hm := ift hm q
    refine lv_bipush (v := (-3 : Int32)) hx hb dX7_results_22 (by decide) ?_
    exact x_iret hx hb hr hlk hK B dX7_results_24 hm
def f_X7_tieBy (w0 : Int32) : Option Int32 :=
  if w0 = (98 : Int32) then
    some (3 : Int32)
  else
    if w0 = (99 : Int32) then
      some (2 : Int32)
    else
      if w0 = (100 : Int32) then
        some (7 : Int32)
      else
        if w0 = (103 : Int32) then
          some (6 : Int32)
        else
          if w0 = (107 : Int32) then
            some (5 : Int32)
          else
            if w0 = (111 : Int32) then
              some (1 : Int32)
            else
              if w0 = (119 : Int32) then
                some (4 : Int32)
              else
                if w0 = (114 : Int32) then
                  some (8 : Int32)
                else
                  some (-1 : Int32)
set_option maxHeartbeats 4000000 in
set_option maxRecDepth 100000 in
theorem c_X7_tieBy (l : Launch) (D : va_G) (cI cZ : ClassId) (ww : Mm → va_W) (w0 : Int32) : CTr l D [(cI, FieldType.int), (cZ, FieldType.boolean)] ww yX7_tieBy (.code yX7_tieBy cX7_tieBy 1 (some FieldType.int) :: wsL_law) ({ frames := 0, cells := 0, slots := 0, locals := 0 } : Room) [.int w0] (fun σ => f_X7_tieBy w0) := by
  refine CTr.of (by decide +kernel) (Nat.le_of_ble_eq_true rfl) ?_
  intro σ r hm p e s m below meth c A ls H locs hx hb hr hlk hml hT hown hK hA B hl
  have hown : s.vm.findClass RX7 = some m.cls := hown
  have hl : lv_has ls 1 [(0, .int w0)] := hl
  have hm : f_X7_tieBy w0 = some r := hm
  unfold f_X7_tieBy at hm
  refine lv_iload_n hx hb dX7_tieBy_0 rfl (lv_at hl 0 rfl) ?_
  by_cases q0 : w0 = (98 : Int32)
  · have hm := ift hm q0
    refine lv_tableIn (off := 107) (tgt := 108) hx hb dX7_tieBy_1 (by rw [q0]; decide) (by rw [q0]; decide) (by rw [q0]; rfl) (by decide) ?_
    refine lv_iconst (v := (3 : Int32)) hx hb dX7_tieBy_108 (by decide) ?_
    exact x_iretr hx hb hr hlk hK B dX7_tieBy_109 hm
  · have hm := iff hm q0
    by_cases q1 : w0 = (99 : Int32)
    · have hm := ift hm q1
      refine lv_tableIn (off := 105) (tgt := 106) hx hb dX7_tieBy_1 (by rw [q1]; decide) (by rw [q1]; decide) (by rw [q1]; rfl) (by decide) ?_
      refine lv_iconst (v := (2 : Int32)) hx hb dX7_tieBy_106 (by decide) ?_
      exact x_iretr hx hb hr hlk hK B dX7_tieBy_107 hm
    · have hm := iff hm q1
      by_cases q2 : w0 = (100 : Int32)
      · have hm := ift hm q2
        refine lv_tableIn (off := 116) (tgt := 117) hx hb dX7_tieBy_1 (by rw [q2]; decide) (by rw [q2]; decide) (by rw [q2]; rfl) (by decide) ?_
        refine lv_bipush (v := (7 : Int32)) hx hb dX7_tieBy_117 (by decide) ?_
        exact x_iretr hx hb hr hlk hK B dX7_tieBy_119 hm
      · have hm := iff hm q2
        by_cases q3 : w0 = (103 : Int32)
        · have hm := ift hm q3
          refine lv_tableIn (off := 113) (tgt := 114) hx hb dX7_tieBy_1 (by rw [q3]; decide) (by rw [q3]; decide) (by rw [q3]; rfl) (by decide) ?_
          refine lv_bipush (v := (6 : Int32)) hx hb dX7_tieBy_114 (by decide) ?_
          exact x_iretr hx hb hr hlk hK B dX7_tieBy_116 hm
        · have hm := iff hm q3
          by_cases q4 : w0 = (107 : Int32)
          · have hm := ift hm q4
            refine lv_tableIn (off := 111) (tgt := 112) hx hb dX7_tieBy_1 (by rw [q4]; decide) (by rw [q4]; decide) (by rw [q4]; rfl) (by decide) ?_
            refine lv_iconst (v := (5 : Int32)) hx hb dX7_tieBy_112 (by decide) ?_
            exact x_iretr hx hb hr hlk hK B dX7_tieBy_113 hm
          · have hm := iff hm q4
            by_cases q5 : w0 = (111 : Int32)
            · have hm := ift hm q5
              refine lv_tableIn (off := 103) (tgt := 104) hx hb dX7_tieBy_1 (by rw [q5]; decide) (by rw [q5]; decide) (by rw [q5]; rfl) (by decide) ?_
              refine lv_iconst (v := (1 : Int32)) hx hb dX7_tieBy_104 (by decide) ?_
              exact x_iretr hx hb hr hlk hK B dX7_tieBy_105 hm
            · have hm := iff hm q5
              by_cases q6 : w0 = (119 : Int32)
              · have hm := ift hm q6
                refine lv_tableIn (off := 109) (tgt := 110) hx hb dX7_tieBy_1 (by rw [q6]; decide) (by rw [q6]; decide) (by rw [q6]; rfl) (by decide) ?_
                refine lv_iconst (v := (4 : Int32)) hx hb dX7_tieBy_110 (by decide) ?_
                exact x_iretr hx hb hr hlk hK B dX7_tieBy_111 hm
              · have hm := iff hm q6
                have z0 := lv_neT (k := (98 : Int32)) (a := 98) q0 (by decide)
                have z1 := lv_neT (k := (99 : Int32)) (a := 99) q1 (by decide)
                have z2 := lv_neT (k := (100 : Int32)) (a := 100) q2 (by decide)
                have z3 := lv_neT (k := (103 : Int32)) (a := 103) q3 (by decide)
                have z4 := lv_neT (k := (107 : Int32)) (a := 107) q4 (by decide)
                have z5 := lv_neT (k := (111 : Int32)) (a := 111) q5 (by decide)
                have z6 := lv_neT (k := (119 : Int32)) (a := 119) q6 (by decide)
                have dflt : W p l e ({ frames := 0, cells := 0, slots := 0, locals := 0 } : Room) s m ([.int w0] : List Value).toArray below meth c H locs 0 0 (MQ below (QI D [(cI, FieldType.int), (cZ, FieldType.boolean)] ww A (r, σ)) ([.int w0] : List Value).toArray s 0 0 A) (F0 m 120 ls []) := by
                  refine lv_iload_n hx hb dX7_tieBy_120 rfl (lv_at hl 0 rfl) ?_
                  refine lv_bipush (v := (114 : Int32)) hx hb dX7_tieBy_121 (by decide) ?_
                  refine lv_icmp_ne (tgt := 131) hx hb dX7_tieBy_123 (by decide) (fun q => ?_) (fun q => ?_)
                  · have hm := iff hm q
                    refine lv_iconst (v := (-1 : Int32)) hx hb dX7_tieBy_131 (by decide) ?_
                    exact x_iretr hx hb hr hlk hK B dX7_tieBy_132 hm
                  · have hm := ift hm q
                    refine lv_bipush (v := (8 : Int32)) hx hb dX7_tieBy_126 (by decide) ?_
                    refine lv_goto (tgt := 132) hx hb dX7_tieBy_128 (by decide) ?_
                    exact x_iretr hx hb hr hlk hK B dX7_tieBy_132 hm
                by_cases zz : (w0).toInt < 98 ∨ 119 < (w0).toInt
                · exact lv_tableOut (tgt := 120) hx hb dX7_tieBy_1 zz (by decide) dflt
                · rcases (show (w0).toInt = 101 ∨ (w0).toInt = 102 ∨ (w0).toInt = 104 ∨ (w0).toInt = 105 ∨ (w0).toInt = 106 ∨ (w0).toInt = 108 ∨ (w0).toInt = 109 ∨ (w0).toInt = 110 ∨ (w0).toInt = 112 ∨ (w0).toInt = 113 ∨ (w0).toInt = 114 ∨ (w0).toInt = 115 ∨ (w0).toInt = 116 ∨ (w0).toInt = 117 ∨ (w0).toInt = 118 by omega) with zy | zy | zy | zy | zy | zy | zy | zy | zy | zy | zy | zy | zy | zy | zy <;> exact lv_tableIn (off := 119) (tgt := 120) hx hb dX7_tieBy_1 (by rw [zy]; decide) (by rw [zy]; decide) (by rw [zy]; rfl) (by decide) dflt
def f_X7_isAgain_j28 (r4 : Int32 → Int32 → Option Int32) (σ : Mm) (v1 v3 : Int32) : Option Int32 :=
  r4 (1 : Int32) (v3 + (1 : Int32))
def f_X7_isAgain_s4 (σ : Mm) (v1 : Int32) (r4 : Int32 → Int32 → Option Int32) (v2 v3 : Int32) : Option Int32 :=
  if v1 ≤ v3 then
    zb v2
  else
    if v2 = 0 then
      (ald 40 (σ 21) v3).bind fun x1 =>
      (ald 40 (σ 21) v1).bind fun x2 =>
      if x1 = x2 then
        f_X7_isAgain_j28 r4 σ v1 v3
      else
        r4 (0 : Int32) (v3 + (1 : Int32))
    else
      f_X7_isAgain_j28 r4 σ v1 v3
def f_X7_isAgain (σ : Mm) (w1 : Int32) : Option Int32 :=
  wh2 (f_X7_isAgain_s4 σ w1) 5000 (0 : Int32) (0 : Int32)
set_option maxHeartbeats 4000000 in
set_option maxRecDepth 100000 in
theorem c_X7_isAgain (l : Launch) (D : va_G) (cI cZ : ClassId) (a : Nat → Nat) (w1 : Int32) : CTr l D [(cI, FieldType.int), (cZ, FieldType.boolean)] (mW cI cZ a) yX7_isAgain (.code yX7_isAgain cX7_isAgain 4 (some FieldType.boolean) :: wsL_law) ({ frames := 0, cells := 0, slots := 0, locals := 0 } : Room) [.ref (a 0), .int w1] (fun σ => f_X7_isAgain σ w1) := by
  refine CTr.of (by decide +kernel) (Nat.le_of_ble_eq_true rfl) ?_
  intro σ r hm p e s m below meth c A ls H locs hx hb hr hlk hml hT hown hK hA B hl
  have hown : s.vm.findClass RX7 = some m.cls := hown
  have hl : lv_has ls 4 [(0, .ref (a 0)), (1, .int w1)] := hl
  have hm : f_X7_isAgain σ w1 = some r := hm
  unfold f_X7_isAgain at hm
  have L4 : ∀ (v1 : Int32) (nn : Nat) (v2 : Int32) (v3 : Int32), wh2 (f_X7_isAgain_s4 σ v1) nn v2 v3 = some r → ∀ (H : Heap) (locs : List Loc) (ls : Array Slot), BD D A s.heap ((mW cI cZ a) σ) H locs → lv_has ls 4 [(0, .ref (a 0)), (1, .int v1), (2, .int v2), (3, .int v3)] → W p l e ({ frames := 0, cells := 0, slots := 0, locals := 0 } : Room) s m ([.ref (a 0), .int w1] : List Value).toArray below meth c H locs 0 0 (MQ below (QI D [(cI, FieldType.int), (cZ, FieldType.boolean)] (mW cI cZ a) A (r, σ)) ([.ref (a 0), .int w1] : List Value).toArray s 0 0 A) (F0 m 4 ls []) := by
    intro v1
    refine loop2 (fun r4 ih4 v2 v3 hm H locs ls B hl => ?_)
    unfold f_X7_isAgain_s4 at hm
    have j28 : ∀ (v3 : Int32) (H : Heap) (locs : List Loc) (ls : Array Slot), BD D A s.heap ((mW cI cZ a) σ) H locs → lv_has ls 4 [(0, .ref (a 0)), (1, .int v1), (3, .int v3)] → f_X7_isAgain_j28 r4 σ v1 v3 = some r → W p l e ({ frames := 0, cells := 0, slots := 0, locals := 0 } : Room) s m ([.ref (a 0), .int w1] : List Value).toArray below meth c H locs 0 0 (MQ below (QI D [(cI, FieldType.int), (cZ, FieldType.boolean)] (mW cI cZ a) A (r, σ)) ([.ref (a 0), .int w1] : List Value).toArray s 0 0 A) (F0 m 28 ls []) := by
      intro v3 H locs ls B hl hm
      unfold f_X7_isAgain_j28 at hm
      refine lv_iconst (v := (1 : Int32)) hx hb dX7_isAgain_28 (by decide) ?_
      refine lv_goto (tgt := 33) hx hb dX7_isAgain_29 (by decide) ?_
      refine lv_istore_n (lv' := [(2, .int (1 : Int32)), (0, .ref (a 0)), (1, .int v1), (3, .int v3)]) hx hb dX7_isAgain_33 rfl hl (by decide) rfl (fun ls hl => ?_)
      refine lv_iinc (v := (v3 + (1 : Int32))) (lv' := [(3, .int (v3 + (1 : Int32))), (2, .int (1 : Int32)), (0, .ref (a 0)), (1, .int v1)]) hx hb dX7_isAgain_34 hl (k := 3) rfl rfl (by decide) rfl (fun ls hl => ?_)
      refine lv_goto (tgt := 4) hx hb dX7_isAgain_37 (by decide) ?_
      exact ih4 (1 : Int32) (v3 + (1 : Int32)) hm H locs ls B (lv_sub hl [2, 3, 1, 0] rfl)
    refine lv_iload_n hx hb dX7_isAgain_4 rfl (lv_at hl 3 rfl) ?_
    refine lv_iload_n hx hb dX7_isAgain_5 rfl (lv_at hl 1 rfl) ?_
    refine lv_icmp_ge (tgt := 40) hx hb dX7_isAgain_6 (by decide) (fun q => ?_) (fun q => ?_)
    · have hm := ift hm q
      refine lv_iload_n hx hb dX7_isAgain_40 rfl (lv_at hl 2 rfl) ?_
      exact x_zbretr hx hb hr hlk hK B dX7_isAgain_41 hm
    · have hm := iff hm q
      refine lv_iload_n hx hb dX7_isAgain_9 rfl (lv_at hl 2 rfl) ?_
      refine lv_if_ne (tgt := 28) hx hb dX7_isAgain_10 (by decide) (fun q => ?_) (fun q => ?_)
      · have hm := iff hm q
        exact j28 v3 H locs ls B (lv_sub hl [0, 1, 3] rfl) hm
      · have hm := ift hm q
        refine lv_aload_n hx hb dX7_isAgain_13 rfl (lv_at hl 0 rfl) ?_
        refine x_getv (T := TX7) (N := 33) hx hb hT hown hK B mV_tape inlX7 rfl (by decide) q786 rfl dX7_isAgain_14 ?_
        refine lv_iload_n hx hb dX7_isAgain_17 rfl (lv_at hl 3 rfl) ?_
        refine x_iald (t0 := 0) hx hb hK B mA_tape rfl dX7_isAgain_18 hm (fun x1 hm => ?_)
        refine lv_aload_n hx hb dX7_isAgain_19 rfl (lv_at hl 0 rfl) ?_
        refine x_getv (T := TX7) (N := 33) hx hb hT hown hK B mV_tape inlX7 rfl (by decide) q786 rfl dX7_isAgain_20 ?_
        refine lv_iload_n hx hb dX7_isAgain_23 rfl (lv_at hl 1 rfl) ?_
        refine x_iald (t0 := 0) hx hb hK B mA_tape rfl dX7_isAgain_24 hm (fun x2 hm => ?_)
        refine lv_icmp_ne (tgt := 32) hx hb dX7_isAgain_25 (by decide) (fun q => ?_) (fun q => ?_)
        · have hm := iff hm q
          refine lv_iconst (v := (0 : Int32)) hx hb dX7_isAgain_32 (by decide) ?_
          refine lv_istore_n (lv' := [(2, .int (0 : Int32)), (0, .ref (a 0)), (1, .int v1), (3, .int v3)]) hx hb dX7_isAgain_33 rfl hl (by decide) rfl (fun ls hl => ?_)
          refine lv_iinc (v := (v3 + (1 : Int32))) (lv' := [(3, .int (v3 + (1 : Int32))), (2, .int (0 : Int32)), (0, .ref (a 0)), (1, .int v1)]) hx hb dX7_isAgain_34 hl (k := 3) rfl rfl (by decide) rfl (fun ls hl => ?_)
          refine lv_goto (tgt := 4) hx hb dX7_isAgain_37 (by decide) ?_
          exact ih4 (0 : Int32) (v3 + (1 : Int32)) hm H locs ls B (lv_sub hl [2, 3, 1, 0] rfl)
        · have hm := ift hm q
          exact j28 v3 H locs ls B (lv_sub hl [0, 1, 3] rfl) hm
  refine lv_iconst (v := (0 : Int32)) hx hb dX7_isAgain_0 (by decide) ?_
  refine lv_istore_n (lv' := [(2, .int (0 : Int32)), (0, .ref (a 0)), (1, .int w1)]) hx hb dX7_isAgain_1 rfl hl (by decide) rfl (fun ls hl => ?_)
  refine lv_iconst (v := (0 : Int32)) hx hb dX7_isAgain_2 (by decide) ?_
  refine lv_istore_n (lv' := [(3, .int (0 : Int32)), (2, .int (0 : Int32)), (0, .ref (a 0)), (1, .int w1)]) hx hb dX7_isAgain_3 rfl hl (by decide) rfl (fun ls hl => ?_)
  exact L4 w1 5000 (0 : Int32) (0 : Int32) hm H locs ls B (lv_sub hl [2, 3, 1, 0] rfl)
def f_X7_order_j92 (σ : Mm) (v1 : Int32) : Option (Int32 × Mm) :=
  (some (sc σ 10 (v1 + (1 : Int32)))).bind fun σ =>
  (some (σ 10 0)).bind fun x1 =>
  some (x1, σ)
def f_X7_order_s64 (v1 : Int32) (r64 : Mm → Int32 → Option (Int32 × Mm)) (σ : Mm) (v3 : Int32) : Option (Int32 × Mm) :=
  if v1 ≤ v3 then
    f_X7_order_j92 σ v1
  else
    (ald 40 (σ 21) v3).bind fun x2 =>
    (f_X7_tieBy x2).bind fun x3 =>
    (ast 9 σ 11 (v3 + (1 : Int32)) x3).bind fun σ =>
    r64 σ (v3 + (1 : Int32))
def f_X7_order_j48 (σ : Mm) (v1 v2 : Int32) : Option (Int32 × Mm) :=
  if v2 < v1 then
    some (((-100 : Int32) - v2), σ)
  else
    if v1 = 0 then
      some (((-100 : Int32) - v2), σ)
    else
      wh2 (f_X7_order_s64 v1) 5000 σ (0 : Int32)
def f_X7_order_s17 (v1 : Int32) (r17 : Mm → Int32 → Option (Int32 × Mm)) (σ : Mm) (v2 : Int32) : Option (Int32 × Mm) :=
  if v1 ≤ v2 then
    f_X7_order_j48 σ v1 v2
  else
    (ald 40 (σ 21) v2).bind fun x4 =>
    (f_X7_tieBy x4).bind fun x5 =>
    if x5 ≤ 0 then
      f_X7_order_j48 σ v1 v2
    else
      (f_X7_isAgain σ v2).bind fun x6 =>
      if x6 = 0 then
        r17 σ (v2 + (1 : Int32))
      else
        f_X7_order_j48 σ v1 v2
def f_X7_order (σ : Mm) : Option (Int32 × Mm) :=
  (some (sc σ 12 (0 : Int32))).bind fun σ =>
  (some (σ 22 0)).bind fun x7 =>
  (some (sc σ 22 (0 : Int32))).bind fun σ =>
  wh2 (f_X7_order_s17 x7) 5000 σ (0 : Int32)
set_option maxHeartbeats 4000000 in
set_option maxRecDepth 100000 in
theorem c_X7_order (l : Launch) (D : va_G) (cI cZ : ClassId) (a : Nat → Nat) : CTi l D [(cI, FieldType.int), (cZ, FieldType.boolean)] (mW cI cZ a) yX7_order (.code yX7_order cX7_order 4 (some FieldType.int) :: wsL_law) ({ frames := 1, cells := 0, slots := 0, locals := 23 } : Room) [.ref (a 0)] (fun σ => f_X7_order σ) := by
  refine CTi.of (by decide +kernel) (Nat.le_of_ble_eq_true rfl) ?_
  intro σ out hm p e s m below meth c A ls H locs hx hb hr hlk hml hT hown hK hA B hl
  have hown : s.vm.findClass RX7 = some m.cls := hown
  have hl : lv_has ls 4 [(0, .ref (a 0))] := hl
  have hm : f_X7_order σ = some out := hm
  unfold f_X7_order at hm
  have j92 : ∀ (σ : Mm) (v1 : Int32) (H : Heap) (locs : List Loc) (ls : Array Slot), BD D A s.heap ((mW cI cZ a) σ) H locs → lv_has ls 4 [(0, .ref (a 0)), (1, .int v1)] → f_X7_order_j92 σ v1 = some out → W p l e ({ frames := 1, cells := 0, slots := 0, locals := 23 } : Room) s m ([.ref (a 0)] : List Value).toArray below meth c H locs 0 0 (MQ below (QI D [(cI, FieldType.int), (cZ, FieldType.boolean)] (mW cI cZ a) A out) ([.ref (a 0)] : List Value).toArray s 0 0 A) (F0 m 92 ls []) := by
    intro σ v1 H locs ls B hl hm
    unfold f_X7_order_j92 at hm
    refine lv_aload_n hx hb dX7_order_92 rfl (lv_at hl 0 rfl) ?_
    refine lv_iload_n hx hb dX7_order_93 rfl (lv_at hl 1 rfl) ?_
    refine lv_iconst (v := (1 : Int32)) hx hb dX7_order_94 (by decide) ?_
    refine lv_iadd hx hb dX7_order_95 ?_
    refine x_puti (T := TX7) (N := 33) hx hb hT hown hK B mI_tieMany inlX7 tyX7_ok nmX7 rfl (by decide) q775 rfl rfl rfl rfl rfl dX7_order_96 hm (fun σ H locs B hm => ?_)
    refine lv_aload_n hx hb dX7_order_99 rfl (lv_at hl 0 rfl) ?_
    refine x_getib (T := TX7) (N := 33) hx hb hT hown hK B mI_tieMany inlX7 rfl (by decide) q775 rfl dX7_order_100 hm (fun x1 hm => ?_)
    exact x_iret hx hb hr hlk hK B dX7_order_103 hm
  have L64 : ∀ (v1 : Int32) (nn : Nat) (σ : Mm) (v3 : Int32), wh2 (f_X7_order_s64 v1) nn σ v3 = some out → ∀ (H : Heap) (locs : List Loc) (ls : Array Slot), BD D A s.heap ((mW cI cZ a) σ) H locs → lv_has ls 4 [(0, .ref (a 0)), (1, .int v1), (3, .int v3)] → W p l e ({ frames := 1, cells := 0, slots := 0, locals := 23 } : Room) s m ([.ref (a 0)] : List Value).toArray below meth c H locs 0 0 (MQ below (QI D [(cI, FieldType.int), (cZ, FieldType.boolean)] (mW cI cZ a) A out) ([.ref (a 0)] : List Value).toArray s 0 0 A) (F0 m 64 ls []) := by
    intro v1
    refine loop2 (fun r64 ih64 σ v3 hm H locs ls B hl => ?_)
    unfold f_X7_order_s64 at hm
    refine lv_iload_n hx hb dX7_order_64 rfl (lv_at hl 2 rfl) ?_
    refine lv_iload_n hx hb dX7_order_65 rfl (lv_at hl 1 rfl) ?_
    refine lv_icmp_ge (tgt := 92) hx hb dX7_order_66 (by decide) (fun q => ?_) (fun q => ?_)
    · have hm := ift hm q
      exact j92 σ v1 H locs ls B (lv_sub hl [0, 1] rfl) hm
    · have hm := iff hm q
      refine lv_aload_n hx hb dX7_order_69 rfl (lv_at hl 0 rfl) ?_
      refine x_getv (T := TX7) (N := 33) hx hb hT hown hK B mV_ties inlX7 rfl (by decide) q776 rfl dX7_order_70 ?_
      refine lv_iload_n hx hb dX7_order_73 rfl (lv_at hl 2 rfl) ?_
      refine lv_iconst (v := (1 : Int32)) hx hb dX7_order_74 (by decide) ?_
      refine lv_iadd hx hb dX7_order_75 ?_
      refine lv_aload_n hx hb dX7_order_76 rfl (lv_at hl 0 rfl) ?_
      refine x_getv (T := TX7) (N := 33) hx hb hT hown hK B mV_tape inlX7 rfl (by decide) q786 rfl dX7_order_77 ?_
      refine lv_iload_n hx hb dX7_order_80 rfl (lv_at hl 2 rfl) ?_
      refine x_iald (t0 := 0) hx hb hK B mA_tape rfl dX7_order_81 hm (fun x2 hm => ?_)
      refine x_callSr (rest := [.int (v3 + (1 : Int32)), .ref (a 8)]) hx hb hml hT hown hK hA B hl.1 (c_X7_tieBy l D cI cZ (mW cI cZ a) x2) mi_X7_tieBy q1075 q1074 ⟨rfl, rfl⟩ ⟨Nat.le_of_ble_eq_true rfl, Nat.le_of_ble_eq_true rfl⟩ rfl rfl (Nat.le_of_ble_eq_true rfl) dX7_order_82 hm (fun x3 H locs B hm => ?_)
      refine x_iast (t0 := 0) hx hb hK B mA_ties rfl dX7_order_85 hm (fun σ H locs B hm => ?_)
      refine lv_iinc (v := (v3 + (1 : Int32))) (lv' := [(3, .int (v3 + (1 : Int32))), (0, .ref (a 0)), (1, .int v1)]) hx hb dX7_order_86 hl (k := 2) rfl rfl (by decide) rfl (fun ls hl => ?_)
      refine lv_goto (tgt := 64) hx hb dX7_order_89 (by decide) ?_
      exact ih64 σ (v3 + (1 : Int32)) hm H locs ls B (lv_sub hl [1, 2, 0] rfl)
  have j48 : ∀ (σ : Mm) (v1 : Int32) (v2 : Int32) (H : Heap) (locs : List Loc) (ls : Array Slot), BD D A s.heap ((mW cI cZ a) σ) H locs → lv_has ls 4 [(0, .ref (a 0)), (1, .int v1), (2, .int v2)] → f_X7_order_j48 σ v1 v2 = some out → W p l e ({ frames := 1, cells := 0, slots := 0, locals := 23 } : Room) s m ([.ref (a 0)] : List Value).toArray below meth c H locs 0 0 (MQ below (QI D [(cI, FieldType.int), (cZ, FieldType.boolean)] (mW cI cZ a) A out) ([.ref (a 0)] : List Value).toArray s 0 0 A) (F0 m 48 ls []) := by
    intro σ v1 v2 H locs ls B hl hm
    unfold f_X7_order_j48 at hm
    refine lv_iload_n hx hb dX7_order_48 rfl (lv_at hl 2 rfl) ?_
    refine lv_iload_n hx hb dX7_order_49 rfl (lv_at hl 1 rfl) ?_
    refine lv_icmp_lt (tgt := 57) hx hb dX7_order_50 (by decide) (fun q => ?_) (fun q => ?_)
    · have hm := ift hm q
      refine lv_bipush (v := (-100 : Int32)) hx hb dX7_order_57 (by decide) ?_
      refine lv_iload_n hx hb dX7_order_59 rfl (lv_at hl 2 rfl) ?_
      refine lv_isub hx hb dX7_order_60 ?_
      exact x_iret hx hb hr hlk hK B dX7_order_61 hm
    · have hm := iff hm q
      refine lv_iload_n hx hb dX7_order_53 rfl (lv_at hl 1 rfl) ?_
      refine lv_if_ne (tgt := 62) hx hb dX7_order_54 (by decide) (fun q => ?_) (fun q => ?_)
      · have hm := iff hm q
        refine lv_iconst (v := (0 : Int32)) hx hb dX7_order_62 (by decide) ?_
        refine lv_istore_n (lv' := [(3, .int (0 : Int32)), (0, .ref (a 0)), (1, .int v1), (2, .int v2)]) hx hb dX7_order_63 rfl hl (by decide) rfl (fun ls hl => ?_)
        exact L64 v1 5000 σ (0 : Int32) hm H locs ls B (lv_sub hl [1, 2, 0] rfl)
      · have hm := ift hm q
        refine lv_bipush (v := (-100 : Int32)) hx hb dX7_order_57 (by decide) ?_
        refine lv_iload_n hx hb dX7_order_59 rfl (lv_at hl 2 rfl) ?_
        refine lv_isub hx hb dX7_order_60 ?_
        exact x_iret hx hb hr hlk hK B dX7_order_61 hm
  have L17 : ∀ (v1 : Int32) (nn : Nat) (σ : Mm) (v2 : Int32), wh2 (f_X7_order_s17 v1) nn σ v2 = some out → ∀ (H : Heap) (locs : List Loc) (ls : Array Slot), BD D A s.heap ((mW cI cZ a) σ) H locs → lv_has ls 4 [(0, .ref (a 0)), (1, .int v1), (2, .int v2)] → W p l e ({ frames := 1, cells := 0, slots := 0, locals := 23 } : Room) s m ([.ref (a 0)] : List Value).toArray below meth c H locs 0 0 (MQ below (QI D [(cI, FieldType.int), (cZ, FieldType.boolean)] (mW cI cZ a) A out) ([.ref (a 0)] : List Value).toArray s 0 0 A) (F0 m 17 ls []) := by
    intro v1
    refine loop2 (fun r17 ih17 σ v2 hm H locs ls B hl => ?_)
    unfold f_X7_order_s17 at hm
    refine lv_iload_n hx hb dX7_order_17 rfl (lv_at hl 2 rfl) ?_
    refine lv_iload_n hx hb dX7_order_18 rfl (lv_at hl 1 rfl) ?_
    refine lv_icmp_ge (tgt := 48) hx hb dX7_order_19 (by decide) (fun q => ?_) (fun q => ?_)
    · have hm := ift hm q
      exact j48 σ v1 v2 H locs ls B (lv_sub hl [0, 1, 2] rfl) hm
    · have hm := iff hm q
      refine lv_aload_n hx hb dX7_order_22 rfl (lv_at hl 0 rfl) ?_
      refine x_getv (T := TX7) (N := 33) hx hb hT hown hK B mV_tape inlX7 rfl (by decide) q786 rfl dX7_order_23 ?_
      refine lv_iload_n hx hb dX7_order_26 rfl (lv_at hl 2 rfl) ?_
      refine x_iald (t0 := 0) hx hb hK B mA_tape rfl dX7_order_27 hm (fun x4 hm => ?_)
      refine x_callSr (rest := []) hx hb hml hT hown hK hA B hl.1 (c_X7_tieBy l D cI cZ (mW cI cZ a) x4) mi_X7_tieBy q1075 q1074 ⟨rfl, rfl⟩ ⟨Nat.le_of_ble_eq_true rfl, Nat.le_of_ble_eq_true rfl⟩ rfl rfl (Nat.le_of_ble_eq_true rfl) dX7_order_28 hm (fun x5 H locs B hm => ?_)
      refine lv_if_le (tgt := 48) hx hb dX7_order_31 (by decide) (fun q => ?_) (fun q => ?_)
      · have hm := ift hm q
        exact j48 σ v1 v2 H locs ls B (lv_sub hl [0, 1, 2] rfl) hm
      · have hm := iff hm q
        refine lv_aload_n hx hb dX7_order_34 rfl (lv_at hl 0 rfl) ?_
        refine lv_iload_n hx hb dX7_order_35 rfl (lv_at hl 2 rfl) ?_
        refine x_callVr (rest := []) hx hb hml hT hown hK hA B hl.1 (c_X7_isAgain l D cI cZ a v2) mi_X7_isAgain mv_X7_isAgain mO_M rfl q1077 ⟨rfl, rfl⟩ ⟨Nat.le_of_ble_eq_true rfl, Nat.le_of_ble_eq_true rfl⟩ rfl rfl (Nat.le_of_ble_eq_true rfl) dX7_order_36 hm (fun x6 H locs B hm => ?_)
        refine lv_if_ne (tgt := 48) hx hb dX7_order_39 (by decide) (fun q => ?_) (fun q => ?_)
        · have hm := iff hm q
          exact j48 σ v1 v2 H locs ls B (lv_sub hl [0, 1, 2] rfl) hm
        · have hm := ift hm q
          refine lv_iinc (v := (v2 + (1 : Int32))) (lv' := [(2, .int (v2 + (1 : Int32))), (0, .ref (a 0)), (1, .int v1)]) hx hb dX7_order_42 hl (k := 2) rfl rfl (by decide) rfl (fun ls hl => ?_)
          refine lv_goto (tgt := 17) hx hb dX7_order_45 (by decide) ?_
          exact ih17 σ (v2 + (1 : Int32)) hm H locs ls B (lv_sub hl [1, 2, 0] rfl)
  refine lv_aload_n hx hb dX7_order_0 rfl (lv_at hl 0 rfl) ?_
  refine lv_iconst (v := (0 : Int32)) hx hb dX7_order_1 (by decide) ?_
  refine x_puti (T := TX7) (N := 33) hx hb hT hown hK B mI_thrown inlX7 tyX7_ok nmX7 rfl (by decide) q777 rfl rfl rfl rfl rfl dX7_order_2 hm (fun σ H locs B hm => ?_)
  refine lv_aload_n hx hb dX7_order_5 rfl (lv_at hl 0 rfl) ?_
  refine x_getib (T := TX7) (N := 33) hx hb hT hown hK B mI_size inlX7 rfl (by decide) q787 rfl dX7_order_6 hm (fun x7 hm => ?_)
  refine lv_istore_n (lv' := [(1, .int x7), (0, .ref (a 0))]) hx hb dX7_order_9 rfl hl (by decide) rfl (fun ls hl => ?_)
  refine lv_aload_n hx hb dX7_order_10 rfl (lv_at hl 1 rfl) ?_
  refine lv_iconst (v := (0 : Int32)) hx hb dX7_order_11 (by decide) ?_
  refine x_puti (T := TX7) (N := 33) hx hb hT hown hK B mI_size inlX7 tyX7_ok nmX7 rfl (by decide) q787 rfl rfl rfl rfl rfl dX7_order_12 hm (fun σ H locs B hm => ?_)
  refine lv_iconst (v := (0 : Int32)) hx hb dX7_order_15 (by decide) ?_
  refine lv_istore_n (lv' := [(2, .int (0 : Int32)), (1, .int x7), (0, .ref (a 0))]) hx hb dX7_order_16 rfl hl (by decide) rfl (fun ls hl => ?_)
  exact L17 x7 5000 σ (0 : Int32) hm H locs ls B (lv_sub hl [2, 1, 0] rfl)
def f_X7_ordered (σ : Mm) (w1 : Int32) : Option (Int32 × Mm) :=
  (some (sc σ 12 (0 : Int32))).bind fun σ =>
  if 0 ≤ w1 then
    (some (σ 10 0)).bind fun x1 =>
    if x1 ≤ w1 then
      some ((-5 : Int32), σ)
    else
      (ald 9 (σ 11) w1).bind fun x2 =>
      some (x2, σ)
  else
    some ((-1 : Int32), σ)
set_option maxHeartbeats 4000000 in
set_option maxRecDepth 100000 in
theorem c_X7_ordered (l : Launch) (D : va_G) (cI cZ : ClassId) (a : Nat → Nat) (w1 : Int32) : CTi l D [(cI, FieldType.int), (cZ, FieldType.boolean)] (mW cI cZ a) yX7_ordered (.code yX7_ordered cX7_ordered 2 (some FieldType.int) :: wsL_law) ({ frames := 0, cells := 0, slots := 0, locals := 0 } : Room) [.ref (a 0), .int w1] (fun σ => f_X7_ordered σ w1) := by
  refine CTi.of (by decide +kernel) (Nat.le_of_ble_eq_true rfl) ?_
  intro σ out hm p e s m below meth c A ls H locs hx hb hr hlk hml hT hown hK hA B hl
  have hown : s.vm.findClass RX7 = some m.cls := hown
  have hl : lv_has ls 2 [(0, .ref (a 0)), (1, .int w1)] := hl
  have hm : f_X7_ordered σ w1 = some out := hm
  unfold f_X7_ordered at hm
  refine lv_aload_n hx hb dX7_ordered_0 rfl (lv_at hl 0 rfl) ?_
  refine lv_iconst (v := (0 : Int32)) hx hb dX7_ordered_1 (by decide) ?_
  refine x_puti (T := TX7) (N := 33) hx hb hT hown hK B mI_thrown inlX7 tyX7_ok nmX7 rfl (by decide) q777 rfl rfl rfl rfl rfl dX7_ordered_2 hm (fun σ H locs B hm => ?_)
  refine lv_iload_n hx hb dX7_ordered_5 rfl (lv_at hl 1 rfl) ?_
  refine lv_if_ge (tgt := 13) hx hb dX7_ordered_6 (by decide) (fun q => ?_) (fun q => ?_)
  · have hm := ift hm q
    refine lv_iload_n hx hb dX7_ordered_13 rfl (lv_at hl 1 rfl) ?_
    refine lv_aload_n hx hb dX7_ordered_14 rfl (lv_at hl 0 rfl) ?_
    refine x_getib (T := TX7) (N := 33) hx hb hT hown hK B mI_tieMany inlX7 rfl (by decide) q775 rfl dX7_ordered_15 hm (fun x1 hm => ?_)
    refine lv_icmp_ge (tgt := 30) hx hb dX7_ordered_18 (by decide) (fun q => ?_) (fun q => ?_)
    · have hm := ift hm q
      refine lv_bipush (v := (-5 : Int32)) hx hb dX7_ordered_30 (by decide) ?_
      exact x_iret hx hb hr hlk hK B dX7_ordered_32 hm
    · have hm := iff hm q
      refine lv_aload_n hx hb dX7_ordered_21 rfl (lv_at hl 0 rfl) ?_
      refine x_getv (T := TX7) (N := 33) hx hb hT hown hK B mV_ties inlX7 rfl (by decide) q776 rfl dX7_ordered_22 ?_
      refine lv_iload_n hx hb dX7_ordered_25 rfl (lv_at hl 1 rfl) ?_
      refine x_iald (t0 := 0) hx hb hK B mA_ties rfl dX7_ordered_26 hm (fun x2 hm => ?_)
      refine lv_goto (tgt := 32) hx hb dX7_ordered_27 (by decide) ?_
      exact x_iret hx hb hr hlk hK B dX7_ordered_32 hm
  · have hm := iff hm q
    refine lv_iconst (v := (-1 : Int32)) hx hb dX7_ordered_9 (by decide) ?_
    refine lv_goto (tgt := 32) hx hb dX7_ordered_10 (by decide) ?_
    exact x_iret hx hb hr hlk hK B dX7_ordered_32 hm
def f_X7_writes (σ : Mm) (w1 : Int32) : Option Mm :=
  (some (σ 24 0)).bind fun x1 =>
  (ast 120 σ 23 x1 w1).bind fun σ =>
  (some (σ 24 0)).bind fun x2 =>
  (some (sc σ 24 (x2 + (1 : Int32)))).bind fun σ =>
  some σ
set_option maxHeartbeats 4000000 in
set_option maxRecDepth 100000 in
theorem c_X7_writes (l : Launch) (D : va_G) (cI cZ : ClassId) (a : Nat → Nat) (w1 : Int32) : CTv l D [(cI, FieldType.int), (cZ, FieldType.boolean)] (mW cI cZ a) yX7_writes (.code yX7_writes cX7_writes 2 (none : Option FieldType) :: wsL_law) ({ frames := 0, cells := 0, slots := 0, locals := 0 } : Room) [.ref (a 0), .int w1] (fun σ => f_X7_writes σ w1) := by
  refine CTv.of (by decide +kernel) (Nat.le_of_ble_eq_true rfl) ?_
  intro σ out hm p e s m below meth c A ls H locs hx hb hr hlk hml hT hown hK hA B hl
  have hown : s.vm.findClass RX7 = some m.cls := hown
  have hl : lv_has ls 2 [(0, .ref (a 0)), (1, .int w1)] := hl
  have hm : f_X7_writes σ w1 = some out := hm
  unfold f_X7_writes at hm
  refine lv_aload_n hx hb dX7_writes_0 rfl (lv_at hl 0 rfl) ?_
  refine x_getv (T := TX7) (N := 33) hx hb hT hown hK B mV_paper0 inlX7 rfl (by decide) q788 rfl dX7_writes_1 ?_
  refine lv_aload_n hx hb dX7_writes_4 rfl (lv_at hl 0 rfl) ?_
  refine x_getib (T := TX7) (N := 33) hx hb hT hown hK B mI_paperSize inlX7 rfl (by decide) q789 rfl dX7_writes_5 hm (fun x1 hm => ?_)
  refine lv_iload_n hx hb dX7_writes_8 rfl (lv_at hl 1 rfl) ?_
  refine x_iast (t0 := 0) hx hb hK B mA_paper0 rfl dX7_writes_9 hm (fun σ H locs B hm => ?_)
  refine lv_aload_n hx hb dX7_writes_10 rfl (lv_at hl 0 rfl) ?_
  refine lv_dup hx hb dX7_writes_11 rfl ?_
  refine x_getib (T := TX7) (N := 33) hx hb hT hown hK B mI_paperSize inlX7 rfl (by decide) q789 rfl dX7_writes_12 hm (fun x2 hm => ?_)
  refine lv_iconst (v := (1 : Int32)) hx hb dX7_writes_15 (by decide) ?_
  refine lv_iadd hx hb dX7_writes_16 ?_
  refine x_puti (T := TX7) (N := 33) hx hb hT hown hK B mI_paperSize inlX7 tyX7_ok nmX7 rfl (by decide) q789 rfl rfl rfl rfl rfl dX7_writes_17 hm (fun σ H locs B hm => ?_)
  exact x_vret hx hb hr hlk hK B dX7_writes_20 hm
def f_X7_writesNumber_j17 (σ : Mm) (v1 : Int32) : Option Mm :=
  (nz (10 : Int32) (v1 - v1 / (10 : Int32) * (10 : Int32))).bind fun x1 =>
  (f_X7_writes σ ((48 : Int32) + x1)).bind fun σ =>
  some σ
def f_X7_writesNumber (σ : Mm) (w1 : Int32) : Option Mm :=
  if w1 ≤ (9 : Int32) then
    f_X7_writesNumber_j17 σ w1
  else
    (nz (10 : Int32) (w1 / (10 : Int32))).bind fun x2 =>
    (f_X7_writes σ ((48 : Int32) + x2)).bind fun σ =>
    f_X7_writesNumber_j17 σ w1
set_option maxHeartbeats 4000000 in
set_option maxRecDepth 100000 in
theorem c_X7_writesNumber (l : Launch) (D : va_G) (cI cZ : ClassId) (a : Nat → Nat) (w1 : Int32) : CTv l D [(cI, FieldType.int), (cZ, FieldType.boolean)] (mW cI cZ a) yX7_writesNumber (.code yX7_writesNumber cX7_writesNumber 2 (none : Option FieldType) :: wsL_law) ({ frames := 1, cells := 0, slots := 0, locals := 21 } : Room) [.ref (a 0), .int w1] (fun σ => f_X7_writesNumber σ w1) := by
  refine CTv.of (by decide +kernel) (Nat.le_of_ble_eq_true rfl) ?_
  intro σ out hm p e s m below meth c A ls H locs hx hb hr hlk hml hT hown hK hA B hl
  have hown : s.vm.findClass RX7 = some m.cls := hown
  have hl : lv_has ls 2 [(0, .ref (a 0)), (1, .int w1)] := hl
  have hm : f_X7_writesNumber σ w1 = some out := hm
  unfold f_X7_writesNumber at hm
  have j17 : ∀ (σ : Mm) (v1 : Int32) (H : Heap) (locs : List Loc) (ls : Array Slot), BD D A s.heap ((mW cI cZ a) σ) H locs → lv_has ls 2 [(0, .ref (a 0)), (1, .int v1)] → f_X7_writesNumber_j17 σ v1 = some out → W p l e ({ frames := 1, cells := 0, slots := 0, locals := 21 } : Room) s m ([.ref (a 0), .int w1] : List Value).toArray below meth c H locs 0 0 (MQ below (QV D [(cI, FieldType.int), (cZ, FieldType.boolean)] (mW cI cZ a) A out) ([.ref (a 0), .int w1] : List Value).toArray s 0 0 A) (F0 m 17 ls []) := by
    intro σ v1 H locs ls B hl hm
    unfold f_X7_writesNumber_j17 at hm
    refine lv_aload_n hx hb dX7_writesNumber_17 rfl (lv_at hl 0 rfl) ?_
    refine lv_bipush (v := (48 : Int32)) hx hb dX7_writesNumber_18 (by decide) ?_
    refine lv_iload_n hx hb dX7_writesNumber_20 rfl (lv_at hl 1 rfl) ?_
    refine lv_bipush (v := (10 : Int32)) hx hb dX7_writesNumber_21 (by decide) ?_
    refine x_irem hx hb dX7_writesNumber_23 hm (fun x1 hm => ?_)
    refine lv_iadd hx hb dX7_writesNumber_24 ?_
    refine x_callVv (rest := []) hx hb hml hT hown hK hA B hl.1 (c_X7_writes l D cI cZ a ((48 : Int32) + x1)) mi_X7_writes mv_X7_writes mO_M rfl q1091 ⟨rfl, rfl⟩ ⟨Nat.le_of_ble_eq_true rfl, Nat.le_of_ble_eq_true rfl⟩ rfl rfl (Nat.le_of_ble_eq_true rfl) dX7_writesNumber_25 hm (fun σ H locs B hm => ?_)
    exact x_vret hx hb hr hlk hK B dX7_writesNumber_28 hm
  refine lv_iload_n hx hb dX7_writesNumber_0 rfl (lv_at hl 1 rfl) ?_
  refine lv_bipush (v := (9 : Int32)) hx hb dX7_writesNumber_1 (by decide) ?_
  refine lv_icmp_le (tgt := 17) hx hb dX7_writesNumber_3 (by decide) (fun q => ?_) (fun q => ?_)
  · have hm := ift hm q
    exact j17 σ w1 H locs ls B (lv_sub hl [0, 1] rfl) hm
  · have hm := iff hm q
    refine lv_aload_n hx hb dX7_writesNumber_6 rfl (lv_at hl 0 rfl) ?_
    refine lv_bipush (v := (48 : Int32)) hx hb dX7_writesNumber_7 (by decide) ?_
    refine lv_iload_n hx hb dX7_writesNumber_9 rfl (lv_at hl 1 rfl) ?_
    refine lv_bipush (v := (10 : Int32)) hx hb dX7_writesNumber_10 (by decide) ?_
    refine x_idiv hx hb dX7_writesNumber_12 hm (fun x2 hm => ?_)
    refine lv_iadd hx hb dX7_writesNumber_13 ?_
    refine x_callVv (rest := []) hx hb hml hT hown hK hA B hl.1 (c_X7_writes l D cI cZ a ((48 : Int32) + x2)) mi_X7_writes mv_X7_writes mO_M rfl q1091 ⟨rfl, rfl⟩ ⟨Nat.le_of_ble_eq_true rfl, Nat.le_of_ble_eq_true rfl⟩ rfl rfl (Nat.le_of_ble_eq_true rfl) dX7_writesNumber_14 hm (fun σ H locs B hm => ?_)
    exact j17 σ w1 H locs ls B (lv_sub hl [0, 1] rfl) hm
def f_X7_writesRound_j108 (σ : Mm) (s1 : Int32) : Option Mm :=
  (f_X7_writes σ s1).bind fun σ =>
  some σ
def f_X7_writesRound_j35 (σ : Mm) (s1 : Int32) : Option Mm :=
  (f_X7_writes σ s1).bind fun σ =>
  some σ
def f_X7_writesRound (σ : Mm) (w1 : Int32) (w2 : Int32) : Option Mm :=
  (f_X7_boardOf σ w1 w2).bind fun x1 =>
  (f_X7_writes σ (32 : Int32)).bind fun σ =>
  if 0 ≤ x1 then
    (f_X7_madeOn σ x1 w1).bind fun x2 =>
    (f_X7_otherOn σ x1 w1).bind fun x3 =>
    (f_X7_writesNumber σ x3).bind fun σ =>
    (ald 120 (σ 9) x1).bind fun x4 =>
    if x4 ≤ (3 : Int32) then
      if x2 = (2 : Int32) then
        f_X7_writesRound_j108 σ (49 : Int32)
      else
        if x2 = (1 : Int32) then
          f_X7_writesRound_j108 σ (61 : Int32)
        else
          f_X7_writesRound_j108 σ (48 : Int32)
    else
      if x2 = (2 : Int32) then
        f_X7_writesRound_j108 σ (43 : Int32)
      else
        f_X7_writesRound_j108 σ (45 : Int32)
  else
    (ald 20 (σ 6) w2).bind fun x5 =>
    if x5 = w1 then
      f_X7_writesRound_j35 σ (66 : Int32)
    else
      f_X7_writesRound_j35 σ (122 : Int32)
set_option maxHeartbeats 4000000 in
set_option maxRecDepth 100000 in
theorem c_X7_writesRound (l : Launch) (D : va_G) (cI cZ : ClassId) (a : Nat → Nat) (w1 : Int32) (w2 : Int32) : CTv l D [(cI, FieldType.int), (cZ, FieldType.boolean)] (mW cI cZ a) yX7_writesRound (.code yX7_writesRound cX7_writesRound 5 (none : Option FieldType) :: wsL_law) ({ frames := 2, cells := 0, slots := 0, locals := 42 } : Room) [.ref (a 0), .int w1, .int w2] (fun σ => f_X7_writesRound σ w1 w2) := by
  refine CTv.of (by decide +kernel) (Nat.le_of_ble_eq_true rfl) ?_
  intro σ out hm p e s m below meth c A ls H locs hx hb hr hlk hml hT hown hK hA B hl
  have hown : s.vm.findClass RX7 = some m.cls := hown
  have hl : lv_has ls 5 [(0, .ref (a 0)), (1, .int w1), (2, .int w2)] := hl
  have hm : f_X7_writesRound σ w1 w2 = some out := hm
  unfold f_X7_writesRound at hm
  have j108 : ∀ (σ : Mm) (s1 : Int32) (H : Heap) (locs : List Loc) (ls : Array Slot), BD D A s.heap ((mW cI cZ a) σ) H locs → lv_has ls 5 [] → f_X7_writesRound_j108 σ s1 = some out → W p l e ({ frames := 2, cells := 0, slots := 0, locals := 42 } : Room) s m ([.ref (a 0), .int w1, .int w2] : List Value).toArray below meth c H locs 0 0 (MQ below (QV D [(cI, FieldType.int), (cZ, FieldType.boolean)] (mW cI cZ a) A out) ([.ref (a 0), .int w1, .int w2] : List Value).toArray s 0 0 A) (F0 m 108 ls [.int s1, .ref (a 0)]) := by
    intro σ s1 H locs ls B hl hm
    unfold f_X7_writesRound_j108 at hm
    refine x_callVv (rest := []) hx hb hml hT hown hK hA B hl.1 (c_X7_writes l D cI cZ a s1) mi_X7_writes mv_X7_writes mO_M rfl q1091 ⟨rfl, rfl⟩ ⟨Nat.le_of_ble_eq_true rfl, Nat.le_of_ble_eq_true rfl⟩ rfl rfl (Nat.le_of_ble_eq_true rfl) dX7_writesRound_108 hm (fun σ H locs B hm => ?_)
    exact x_vret hx hb hr hlk hK B dX7_writesRound_111 hm
  have j35 : ∀ (σ : Mm) (s1 : Int32) (H : Heap) (locs : List Loc) (ls : Array Slot), BD D A s.heap ((mW cI cZ a) σ) H locs → lv_has ls 5 [] → f_X7_writesRound_j35 σ s1 = some out → W p l e ({ frames := 2, cells := 0, slots := 0, locals := 42 } : Room) s m ([.ref (a 0), .int w1, .int w2] : List Value).toArray below meth c H locs 0 0 (MQ below (QV D [(cI, FieldType.int), (cZ, FieldType.boolean)] (mW cI cZ a) A out) ([.ref (a 0), .int w1, .int w2] : List Value).toArray s 0 0 A) (F0 m 35 ls [.int s1, .ref (a 0)]) := by
    intro σ s1 H locs ls B hl hm
    unfold f_X7_writesRound_j35 at hm
    refine x_callVv (rest := []) hx hb hml hT hown hK hA B hl.1 (c_X7_writes l D cI cZ a s1) mi_X7_writes mv_X7_writes mO_M rfl q1091 ⟨rfl, rfl⟩ ⟨Nat.le_of_ble_eq_true rfl, Nat.le_of_ble_eq_true rfl⟩ rfl rfl (Nat.le_of_ble_eq_true rfl) dX7_writesRound_35 hm (fun σ H locs B hm => ?_)
    exact x_vret hx hb hr hlk hK B dX7_writesRound_38 hm
  refine lv_aload_n hx hb dX7_writesRound_0 rfl (lv_at hl 0 rfl) ?_
  refine lv_iload_n hx hb dX7_writesRound_1 rfl (lv_at hl 1 rfl) ?_
  refine lv_iload_n hx hb dX7_writesRound_2 rfl (lv_at hl 2 rfl) ?_
  refine x_callVr (rest := []) hx hb hml hT hown hK hA B hl.1 (c_X7_boardOf l D cI cZ a w1 w2) mi_X7_boardOf mv_X7_boardOf mO_M rfl q866 ⟨rfl, rfl⟩ ⟨Nat.le_of_ble_eq_true rfl, Nat.le_of_ble_eq_true rfl⟩ rfl rfl (Nat.le_of_ble_eq_true rfl) dX7_writesRound_3 hm (fun x1 H locs B hm => ?_)
  refine lv_istore_n (lv' := [(3, .int x1), (0, .ref (a 0)), (1, .int w1), (2, .int w2)]) hx hb dX7_writesRound_6 rfl hl (by decide) rfl (fun ls hl => ?_)
  refine lv_aload_n hx hb dX7_writesRound_7 rfl (lv_at hl 1 rfl) ?_
  refine lv_bipush (v := (32 : Int32)) hx hb dX7_writesRound_8 (by decide) ?_
  refine x_callVv (rest := []) hx hb hml hT hown hK hA B hl.1 (c_X7_writes l D cI cZ a (32 : Int32)) mi_X7_writes mv_X7_writes mO_M rfl q1091 ⟨rfl, rfl⟩ ⟨Nat.le_of_ble_eq_true rfl, Nat.le_of_ble_eq_true rfl⟩ rfl rfl (Nat.le_of_ble_eq_true rfl) dX7_writesRound_10 hm (fun σ H locs B hm => ?_)
  refine lv_iload_n hx hb dX7_writesRound_13 rfl (lv_at hl 0 rfl) ?_
  refine lv_if_ge (tgt := 39) hx hb dX7_writesRound_14 (by decide) (fun q => ?_) (fun q => ?_)
  · have hm := ift hm q
    refine lv_aload_n hx hb dX7_writesRound_39 rfl (lv_at hl 1 rfl) ?_
    refine lv_iload_n hx hb dX7_writesRound_40 rfl (lv_at hl 0 rfl) ?_
    refine lv_iload_n hx hb dX7_writesRound_41 rfl (lv_at hl 2 rfl) ?_
    refine x_callVr (rest := []) hx hb hml hT hown hK hA B hl.1 (c_X7_madeOn l D cI cZ a x1 w1) mi_X7_madeOn mv_X7_madeOn mO_M rfl q869 ⟨rfl, rfl⟩ ⟨Nat.le_of_ble_eq_true rfl, Nat.le_of_ble_eq_true rfl⟩ rfl rfl (Nat.le_of_ble_eq_true rfl) dX7_writesRound_42 hm (fun x2 H locs B hm => ?_)
    refine lv_istore (lv' := [(4, .int x2), (3, .int x1), (0, .ref (a 0)), (1, .int w1), (2, .int w2)]) hx hb dX7_writesRound_45 hl (by decide) rfl (fun ls hl => ?_)
    refine lv_aload_n hx hb dX7_writesRound_47 rfl (lv_at hl 2 rfl) ?_
    refine lv_aload_n hx hb dX7_writesRound_48 rfl (lv_at hl 2 rfl) ?_
    refine lv_iload_n hx hb dX7_writesRound_49 rfl (lv_at hl 1 rfl) ?_
    refine lv_iload_n hx hb dX7_writesRound_50 rfl (lv_at hl 3 rfl) ?_
    refine x_callVr (rest := [.ref (a 0)]) hx hb hml hT hown hK hA B hl.1 (c_X7_otherOn l D cI cZ a x1 w1) mi_X7_otherOn mv_X7_otherOn mO_M rfl q883 ⟨rfl, rfl⟩ ⟨Nat.le_of_ble_eq_true rfl, Nat.le_of_ble_eq_true rfl⟩ rfl rfl (Nat.le_of_ble_eq_true rfl) dX7_writesRound_51 hm (fun x3 H locs B hm => ?_)
    refine x_callVv (rest := []) hx hb hml hT hown hK hA B hl.1 (c_X7_writesNumber l D cI cZ a x3) mi_X7_writesNumber mv_X7_writesNumber mO_M rfl q1088 ⟨rfl, rfl⟩ ⟨Nat.le_of_ble_eq_true rfl, Nat.le_of_ble_eq_true rfl⟩ rfl rfl (Nat.le_of_ble_eq_true rfl) dX7_writesRound_54 hm (fun σ H locs B hm => ?_)
    refine lv_aload_n hx hb dX7_writesRound_57 rfl (lv_at hl 2 rfl) ?_
    refine lv_aload_n hx hb dX7_writesRound_58 rfl (lv_at hl 2 rfl) ?_
    refine x_getv (T := TX7) (N := 33) hx hb hT hown hK B mV_results0 inlX7 rfl (by decide) q774 rfl dX7_writesRound_59 ?_
    refine lv_iload_n hx hb dX7_writesRound_62 rfl (lv_at hl 1 rfl) ?_
    refine x_iald (t0 := 0) hx hb hK B mA_results0 rfl dX7_writesRound_63 hm (fun x4 hm => ?_)
    refine lv_iconst (v := (3 : Int32)) hx hb dX7_writesRound_64 (by decide) ?_
    refine lv_icmp_le (tgt := 84) hx hb dX7_writesRound_65 (by decide) (fun q => ?_) (fun q => ?_)
    · have hm := ift hm q
      refine lv_iload hx hb dX7_writesRound_84 (lv_at hl 0 rfl) ?_
      refine lv_iconst (v := (2 : Int32)) hx hb dX7_writesRound_86 (by decide) ?_
      refine lv_icmp_ne (tgt := 95) hx hb dX7_writesRound_87 (by decide) (fun q => ?_) (fun q => ?_)
      · have hm := iff hm q
        refine lv_iload hx hb dX7_writesRound_95 (lv_at hl 0 rfl) ?_
        refine lv_iconst (v := (1 : Int32)) hx hb dX7_writesRound_97 (by decide) ?_
        refine lv_icmp_ne (tgt := 106) hx hb dX7_writesRound_98 (by decide) (fun q => ?_) (fun q => ?_)
        · have hm := iff hm q
          refine lv_bipush (v := (48 : Int32)) hx hb dX7_writesRound_106 (by decide) ?_
          exact j108 σ (48 : Int32) H locs ls B (lv_sub hl [] rfl) hm
        · have hm := ift hm q
          refine lv_bipush (v := (61 : Int32)) hx hb dX7_writesRound_101 (by decide) ?_
          refine lv_goto (tgt := 108) hx hb dX7_writesRound_103 (by decide) ?_
          exact j108 σ (61 : Int32) H locs ls B (lv_sub hl [] rfl) hm
      · have hm := ift hm q
        refine lv_bipush (v := (49 : Int32)) hx hb dX7_writesRound_90 (by decide) ?_
        refine lv_goto (tgt := 108) hx hb dX7_writesRound_92 (by decide) ?_
        exact j108 σ (49 : Int32) H locs ls B (lv_sub hl [] rfl) hm
    · have hm := iff hm q
      refine lv_iload hx hb dX7_writesRound_68 (lv_at hl 0 rfl) ?_
      refine lv_iconst (v := (2 : Int32)) hx hb dX7_writesRound_70 (by decide) ?_
      refine lv_icmp_ne (tgt := 79) hx hb dX7_writesRound_71 (by decide) (fun q => ?_) (fun q => ?_)
      · have hm := iff hm q
        refine lv_bipush (v := (45 : Int32)) hx hb dX7_writesRound_79 (by decide) ?_
        refine lv_goto (tgt := 108) hx hb dX7_writesRound_81 (by decide) ?_
        exact j108 σ (45 : Int32) H locs ls B (lv_sub hl [] rfl) hm
      · have hm := ift hm q
        refine lv_bipush (v := (43 : Int32)) hx hb dX7_writesRound_74 (by decide) ?_
        refine lv_goto (tgt := 108) hx hb dX7_writesRound_76 (by decide) ?_
        exact j108 σ (43 : Int32) H locs ls B (lv_sub hl [] rfl) hm
  · have hm := iff hm q
    refine lv_aload_n hx hb dX7_writesRound_17 rfl (lv_at hl 1 rfl) ?_
    refine lv_aload_n hx hb dX7_writesRound_18 rfl (lv_at hl 1 rfl) ?_
    refine x_getv (T := TX7) (N := 33) hx hb hT hown hK B mV_byes inlX7 rfl (by decide) q771 rfl dX7_writesRound_19 ?_
    refine lv_iload_n hx hb dX7_writesRound_22 rfl (lv_at hl 3 rfl) ?_
    refine x_iald (t0 := 0) hx hb hK B mA_byes rfl dX7_writesRound_23 hm (fun x5 hm => ?_)
    refine lv_iload_n hx hb dX7_writesRound_24 rfl (lv_at hl 2 rfl) ?_
    refine lv_icmp_ne (tgt := 33) hx hb dX7_writesRound_25 (by decide) (fun q => ?_) (fun q => ?_)
    · have hm := iff hm q
      refine lv_bipush (v := (122 : Int32)) hx hb dX7_writesRound_33 (by decide) ?_
      exact j35 σ (122 : Int32) H locs ls B (lv_sub hl [] rfl) hm
    · have hm := ift hm q
      refine lv_bipush (v := (66 : Int32)) hx hb dX7_writesRound_28 (by decide) ?_
      refine lv_goto (tgt := 35) hx hb dX7_writesRound_30 (by decide) ?_
      exact j35 σ (66 : Int32) H locs ls B (lv_sub hl [] rfl) hm
def f_X7_line_j87 (σ : Mm) : Option (Int32 × Mm) :=
  (some (σ 24 0)).bind fun x1 =>
  some (x1, σ)
def f_X7_line_s67 (v1 : Int32) (r67 : Mm → Int32 → Option (Int32 × Mm)) (σ : Mm) (v2 : Int32) : Option (Int32 × Mm) :=
  (f_X7_done σ).bind fun x2 =>
  if x2 ≤ v2 then
    f_X7_line_j87 σ
  else
    (f_X7_writesRound σ v1 v2).bind fun σ =>
    r67 σ (v2 + (1 : Int32))
def f_X7_line (σ : Mm) (w1 : Int32) : Option (Int32 × Mm) :=
  (some (sc σ 12 (0 : Int32))).bind fun σ =>
  (f_X7_isPlayer σ w1).bind fun x3 =>
  if x3 = 0 then
    some ((-1 : Int32), σ)
  else
    (some (sc σ 24 (0 : Int32))).bind fun σ =>
    (f_X7_writesNumber σ w1).bind fun σ =>
    (f_X7_writes σ (32 : Int32)).bind fun σ =>
    (f_X7_pointsOf σ w1).bind fun x4 =>
    (nz (2 : Int32) (x4 / (2 : Int32))).bind fun x5 =>
    (f_X7_writesNumber σ x5).bind fun σ =>
    (f_X7_pointsOf σ w1).bind fun x6 =>
    (nz (2 : Int32) (x6 - x6 / (2 : Int32) * (2 : Int32))).bind fun x7 =>
    if x7 = (1 : Int32) then
      (f_X7_writes σ (46 : Int32)).bind fun σ =>
      (f_X7_writes σ (53 : Int32)).bind fun σ =>
      wh2 (f_X7_line_s67 w1) 5000 σ (0 : Int32)
    else
      wh2 (f_X7_line_s67 w1) 5000 σ (0 : Int32)
set_option maxHeartbeats 4000000 in
set_option maxRecDepth 100000 in
theorem c_X7_line (l : Launch) (D : va_G) (cI cZ : ClassId) (a : Nat → Nat) (w1 : Int32) : CTi l D [(cI, FieldType.int), (cZ, FieldType.boolean)] (mW cI cZ a) yX7_line (.code yX7_line cX7_line 3 (some FieldType.int) :: wsL_law) ({ frames := 4, cells := 0, slots := 0, locals := 92 } : Room) [.ref (a 0), .int w1] (fun σ => f_X7_line σ w1) := by
  refine CTi.of (by decide +kernel) (Nat.le_of_ble_eq_true rfl) ?_
  intro σ out hm p e s m below meth c A ls H locs hx hb hr hlk hml hT hown hK hA B hl
  have hown : s.vm.findClass RX7 = some m.cls := hown
  have hl : lv_has ls 3 [(0, .ref (a 0)), (1, .int w1)] := hl
  have hm : f_X7_line σ w1 = some out := hm
  unfold f_X7_line at hm
  have j87 : ∀ (σ : Mm)  (H : Heap) (locs : List Loc) (ls : Array Slot), BD D A s.heap ((mW cI cZ a) σ) H locs → lv_has ls 3 [(0, .ref (a 0))] → f_X7_line_j87 σ = some out → W p l e ({ frames := 4, cells := 0, slots := 0, locals := 92 } : Room) s m ([.ref (a 0), .int w1] : List Value).toArray below meth c H locs 0 0 (MQ below (QI D [(cI, FieldType.int), (cZ, FieldType.boolean)] (mW cI cZ a) A out) ([.ref (a 0), .int w1] : List Value).toArray s 0 0 A) (F0 m 87 ls []) := by
    intro σ  H locs ls B hl hm
    unfold f_X7_line_j87 at hm
    refine lv_aload_n hx hb dX7_line_87 rfl (lv_at hl 0 rfl) ?_
    refine x_getib (T := TX7) (N := 33) hx hb hT hown hK B mI_paperSize inlX7 rfl (by decide) q789 rfl dX7_line_88 hm (fun x1 hm => ?_)
    exact x_iret hx hb hr hlk hK B dX7_line_91 hm
  have L67 : ∀ (v1 : Int32) (nn : Nat) (σ : Mm) (v2 : Int32), wh2 (f_X7_line_s67 v1) nn σ v2 = some out → ∀ (H : Heap) (locs : List Loc) (ls : Array Slot), BD D A s.heap ((mW cI cZ a) σ) H locs → lv_has ls 3 [(0, .ref (a 0)), (1, .int v1), (2, .int v2)] → W p l e ({ frames := 4, cells := 0, slots := 0, locals := 92 } : Room) s m ([.ref (a 0), .int w1] : List Value).toArray below meth c H locs 0 0 (MQ below (QI D [(cI, FieldType.int), (cZ, FieldType.boolean)] (mW cI cZ a) A out) ([.ref (a 0), .int w1] : List Value).toArray s 0 0 A) (F0 m 67 ls []) := by
    intro v1
    refine loop2 (fun r67 ih67 σ v2 hm H locs ls B hl => ?_)
    unfold f_X7_line_s67 at hm
    refine lv_iload_n hx hb dX7_line_67 rfl (lv_at hl 2 rfl) ?_
    refine lv_aload_n hx hb dX7_line_68 rfl (lv_at hl 0 rfl) ?_
    refine x_callVr (rest := [.int v2]) hx hb hml hT hown hK hA B hl.1 (c_X7_done l D cI cZ a) mi_X7_done mv_X7_done mO_M rfl q857 ⟨rfl, rfl⟩ ⟨Nat.le_of_ble_eq_true rfl, Nat.le_of_ble_eq_true rfl⟩ rfl rfl (Nat.le_of_ble_eq_true rfl) dX7_line_69 hm (fun x2 H locs B hm => ?_)
    refine lv_icmp_ge (tgt := 87) hx hb dX7_line_72 (by decide) (fun q => ?_) (fun q => ?_)
    · have hm := ift hm q
      exact j87 σ H locs ls B (lv_sub hl [0] rfl) hm
    · have hm := iff hm q
      refine lv_aload_n hx hb dX7_line_75 rfl (lv_at hl 0 rfl) ?_
      refine lv_iload_n hx hb dX7_line_76 rfl (lv_at hl 1 rfl) ?_
      refine lv_iload_n hx hb dX7_line_77 rfl (lv_at hl 2 rfl) ?_
      refine x_callVv (rest := []) hx hb hml hT hown hK hA B hl.1 (c_X7_writesRound l D cI cZ a v1 v2) mi_X7_writesRound mv_X7_writesRound mO_M rfl q1094 ⟨rfl, rfl⟩ ⟨Nat.le_of_ble_eq_true rfl, Nat.le_of_ble_eq_true rfl⟩ rfl rfl (Nat.le_of_ble_eq_true rfl) dX7_line_78 hm (fun σ H locs B hm => ?_)
      refine lv_iinc (v := (v2 + (1 : Int32))) (lv' := [(2, .int (v2 + (1 : Int32))), (0, .ref (a 0)), (1, .int v1)]) hx hb dX7_line_81 hl (k := 2) rfl rfl (by decide) rfl (fun ls hl => ?_)
      refine lv_goto (tgt := 67) hx hb dX7_line_84 (by decide) ?_
      exact ih67 σ (v2 + (1 : Int32)) hm H locs ls B (lv_sub hl [1, 2, 0] rfl)
  refine lv_aload_n hx hb dX7_line_0 rfl (lv_at hl 0 rfl) ?_
  refine lv_iconst (v := (0 : Int32)) hx hb dX7_line_1 (by decide) ?_
  refine x_puti (T := TX7) (N := 33) hx hb hT hown hK B mI_thrown inlX7 tyX7_ok nmX7 rfl (by decide) q777 rfl rfl rfl rfl rfl dX7_line_2 hm (fun σ H locs B hm => ?_)
  refine lv_aload_n hx hb dX7_line_5 rfl (lv_at hl 0 rfl) ?_
  refine lv_iload_n hx hb dX7_line_6 rfl (lv_at hl 1 rfl) ?_
  refine x_callVr (rest := []) hx hb hml hT hown hK hA B hl.1 (c_X7_isPlayer l D cI cZ a w1) mi_X7_isPlayer mv_X7_isPlayer mO_M rfl q963 ⟨rfl, rfl⟩ ⟨Nat.le_of_ble_eq_true rfl, Nat.le_of_ble_eq_true rfl⟩ rfl rfl (Nat.le_of_ble_eq_true rfl) dX7_line_7 hm (fun x3 H locs B hm => ?_)
  refine lv_if_ne (tgt := 15) hx hb dX7_line_10 (by decide) (fun q => ?_) (fun q => ?_)
  · have hm := iff hm q
    refine lv_aload_n hx hb dX7_line_15 rfl (lv_at hl 0 rfl) ?_
    refine lv_iconst (v := (0 : Int32)) hx hb dX7_line_16 (by decide) ?_
    refine x_puti (T := TX7) (N := 33) hx hb hT hown hK B mI_paperSize inlX7 tyX7_ok nmX7 rfl (by decide) q789 rfl rfl rfl rfl rfl dX7_line_17 hm (fun σ H locs B hm => ?_)
    refine lv_aload_n hx hb dX7_line_20 rfl (lv_at hl 0 rfl) ?_
    refine lv_iload_n hx hb dX7_line_21 rfl (lv_at hl 1 rfl) ?_
    refine x_callVv (rest := []) hx hb hml hT hown hK hA B hl.1 (c_X7_writesNumber l D cI cZ a w1) mi_X7_writesNumber mv_X7_writesNumber mO_M rfl q1088 ⟨rfl, rfl⟩ ⟨Nat.le_of_ble_eq_true rfl, Nat.le_of_ble_eq_true rfl⟩ rfl rfl (Nat.le_of_ble_eq_true rfl) dX7_line_22 hm (fun σ H locs B hm => ?_)
    refine lv_aload_n hx hb dX7_line_25 rfl (lv_at hl 0 rfl) ?_
    refine lv_bipush (v := (32 : Int32)) hx hb dX7_line_26 (by decide) ?_
    refine x_callVv (rest := []) hx hb hml hT hown hK hA B hl.1 (c_X7_writes l D cI cZ a (32 : Int32)) mi_X7_writes mv_X7_writes mO_M rfl q1091 ⟨rfl, rfl⟩ ⟨Nat.le_of_ble_eq_true rfl, Nat.le_of_ble_eq_true rfl⟩ rfl rfl (Nat.le_of_ble_eq_true rfl) dX7_line_28 hm (fun σ H locs B hm => ?_)
    refine lv_aload_n hx hb dX7_line_31 rfl (lv_at hl 0 rfl) ?_
    refine lv_aload_n hx hb dX7_line_32 rfl (lv_at hl 0 rfl) ?_
    refine lv_iload_n hx hb dX7_line_33 rfl (lv_at hl 1 rfl) ?_
    refine x_callVr (rest := [.ref (a 0)]) hx hb hml hT hown hK hA B hl.1 (c_X7_pointsOf l D cI cZ a w1) mi_X7_pointsOf mv_X7_pointsOf mO_M rfl q854 ⟨rfl, rfl⟩ ⟨Nat.le_of_ble_eq_true rfl, Nat.le_of_ble_eq_true rfl⟩ rfl rfl (Nat.le_of_ble_eq_true rfl) dX7_line_34 hm (fun x4 H locs B hm => ?_)
    refine lv_iconst (v := (2 : Int32)) hx hb dX7_line_37 (by decide) ?_
    refine x_idiv hx hb dX7_line_38 hm (fun x5 hm => ?_)
    refine x_callVv (rest := []) hx hb hml hT hown hK hA B hl.1 (c_X7_writesNumber l D cI cZ a x5) mi_X7_writesNumber mv_X7_writesNumber mO_M rfl q1088 ⟨rfl, rfl⟩ ⟨Nat.le_of_ble_eq_true rfl, Nat.le_of_ble_eq_true rfl⟩ rfl rfl (Nat.le_of_ble_eq_true rfl) dX7_line_39 hm (fun σ H locs B hm => ?_)
    refine lv_aload_n hx hb dX7_line_42 rfl (lv_at hl 0 rfl) ?_
    refine lv_iload_n hx hb dX7_line_43 rfl (lv_at hl 1 rfl) ?_
    refine x_callVr (rest := []) hx hb hml hT hown hK hA B hl.1 (c_X7_pointsOf l D cI cZ a w1) mi_X7_pointsOf mv_X7_pointsOf mO_M rfl q854 ⟨rfl, rfl⟩ ⟨Nat.le_of_ble_eq_true rfl, Nat.le_of_ble_eq_true rfl⟩ rfl rfl (Nat.le_of_ble_eq_true rfl) dX7_line_44 hm (fun x6 H locs B hm => ?_)
    refine lv_iconst (v := (2 : Int32)) hx hb dX7_line_47 (by decide) ?_
    refine x_irem hx hb dX7_line_48 hm (fun x7 hm => ?_)
    refine lv_iconst (v := (1 : Int32)) hx hb dX7_line_49 (by decide) ?_
    refine lv_icmp_ne (tgt := 65) hx hb dX7_line_50 (by decide) (fun q => ?_) (fun q => ?_)
    · have hm := iff hm q
      refine lv_iconst (v := (0 : Int32)) hx hb dX7_line_65 (by decide) ?_
      refine lv_istore_n (lv' := [(2, .int (0 : Int32)), (0, .ref (a 0)), (1, .int w1)]) hx hb dX7_line_66 rfl hl (by decide) rfl (fun ls hl => ?_)
      exact L67 w1 5000 σ (0 : Int32) hm H locs ls B (lv_sub hl [1, 2, 0] rfl)
    · have hm := ift hm q
      refine lv_aload_n hx hb dX7_line_53 rfl (lv_at hl 0 rfl) ?_
      refine lv_bipush (v := (46 : Int32)) hx hb dX7_line_54 (by decide) ?_
      refine x_callVv (rest := []) hx hb hml hT hown hK hA B hl.1 (c_X7_writes l D cI cZ a (46 : Int32)) mi_X7_writes mv_X7_writes mO_M rfl q1091 ⟨rfl, rfl⟩ ⟨Nat.le_of_ble_eq_true rfl, Nat.le_of_ble_eq_true rfl⟩ rfl rfl (Nat.le_of_ble_eq_true rfl) dX7_line_56 hm (fun σ H locs B hm => ?_)
      refine lv_aload_n hx hb dX7_line_59 rfl (lv_at hl 0 rfl) ?_
      refine lv_bipush (v := (53 : Int32)) hx hb dX7_line_60 (by decide) ?_
      refine x_callVv (rest := []) hx hb hml hT hown hK hA B hl.1 (c_X7_writes l D cI cZ a (53 : Int32)) mi_X7_writes mv_X7_writes mO_M rfl q1091 ⟨rfl, rfl⟩ ⟨Nat.le_of_ble_eq_true rfl, Nat.le_of_ble_eq_true rfl⟩ rfl rfl (Nat.le_of_ble_eq_true rfl) dX7_line_62 hm (fun σ H locs B hm => ?_)
      refine lv_iconst (v := (0 : Int32)) hx hb dX7_line_65 (by decide) ?_
      refine lv_istore_n (lv' := [(2, .int (0 : Int32)), (0, .ref (a 0)), (1, .int w1)]) hx hb dX7_line_66 rfl hl (by decide) rfl (fun ls hl => ?_)
      exact L67 w1 5000 σ (0 : Int32) hm H locs ls B (lv_sub hl [1, 2, 0] rfl)
  · have hm := ift hm q
    refine lv_iconst (v := (-1 : Int32)) hx hb dX7_line_13 (by decide) ?_
    exact x_iret hx hb hr hlk hK B dX7_line_14 hm
def f_X7_paper (σ : Mm) (w1 : Int32) : Option (Int32 × Mm) :=
  (some (sc σ 12 (0 : Int32))).bind fun σ =>
  (some (σ 24 0)).bind fun x1 =>
  (f_X7_in (w1.toInt64) (0 : Int64) ((x1 - (1 : Int32)).toInt64)).bind fun x2 =>
  if x2 = 0 then
    some ((-1 : Int32), σ)
  else
    (ald 120 (σ 23) w1).bind fun x3 =>
    some (x3, σ)
set_option maxHeartbeats 4000000 in
set_option maxRecDepth 100000 in
theorem c_X7_paper (l : Launch) (D : va_G) (cI cZ : ClassId) (a : Nat → Nat) (w1 : Int32) : CTi l D [(cI, FieldType.int), (cZ, FieldType.boolean)] (mW cI cZ a) yX7_paper (.code yX7_paper cX7_paper 2 (some FieldType.int) :: wsL_law) ({ frames := 1, cells := 0, slots := 0, locals := 25 } : Room) [.ref (a 0), .int w1] (fun σ => f_X7_paper σ w1) := by
  refine CTi.of (by decide +kernel) (Nat.le_of_ble_eq_true rfl) ?_
  intro σ out hm p e s m below meth c A ls H locs hx hb hr hlk hml hT hown hK hA B hl
  have hown : s.vm.findClass RX7 = some m.cls := hown
  have hl : lv_has ls 2 [(0, .ref (a 0)), (1, .int w1)] := hl
  have hm : f_X7_paper σ w1 = some out := hm
  unfold f_X7_paper at hm
  refine lv_aload_n hx hb dX7_paper_0 rfl (lv_at hl 0 rfl) ?_
  refine lv_iconst (v := (0 : Int32)) hx hb dX7_paper_1 (by decide) ?_
  refine x_puti (T := TX7) (N := 33) hx hb hT hown hK B mI_thrown inlX7 tyX7_ok nmX7 rfl (by decide) q777 rfl rfl rfl rfl rfl dX7_paper_2 hm (fun σ H locs B hm => ?_)
  refine lv_iload_n hx hb dX7_paper_5 rfl (lv_at hl 1 rfl) ?_
  refine lv_i2l (v := w1.toInt64) hx hb dX7_paper_6 rfl ?_
  refine lv_lconst (v := 0) hx hb dX7_paper_7 (by decide) ?_
  refine lv_aload_n hx hb dX7_paper_8 rfl (lv_at hl 0 rfl) ?_
  refine x_getib (T := TX7) (N := 33) hx hb hT hown hK B mI_paperSize inlX7 rfl (by decide) q789 rfl dX7_paper_9 hm (fun x1 hm => ?_)
  refine lv_iconst (v := (1 : Int32)) hx hb dX7_paper_12 (by decide) ?_
  refine lv_isub hx hb dX7_paper_13 ?_
  refine lv_i2l (v := (x1 - (1 : Int32)).toInt64) hx hb dX7_paper_14 rfl ?_
  refine x_callSr (rest := []) hx hb hml hT hown hK hA B hl.1 (c_X7_in l D cI cZ (mW cI cZ a) (w1.toInt64) (0 : Int64) ((x1 - (1 : Int32)).toInt64)) mi_X7_in q881 q880 ⟨rfl, rfl⟩ ⟨Nat.le_of_ble_eq_true rfl, Nat.le_of_ble_eq_true rfl⟩ rfl rfl (Nat.le_of_ble_eq_true rfl) dX7_paper_15 hm (fun x2 H locs B hm => ?_)
  refine lv_if_eq (tgt := 30) hx hb dX7_paper_18 (by decide) (fun q => ?_) (fun q => ?_)
  · have hm := ift hm q
    refine lv_iconst (v := (-1 : Int32)) hx hb dX7_paper_30 (by decide) ?_
    exact x_iret hx hb hr hlk hK B dX7_paper_31 hm
  · have hm := iff hm q
    refine lv_aload_n hx hb dX7_paper_21 rfl (lv_at hl 0 rfl) ?_
    refine x_getv (T := TX7) (N := 33) hx hb hT hown hK B mV_paper0 inlX7 rfl (by decide) q788 rfl dX7_paper_22 ?_
    refine lv_iload_n hx hb dX7_paper_25 rfl (lv_at hl 1 rfl) ?_
    refine x_iald (t0 := 0) hx hb hK B mA_paper0 rfl dX7_paper_26 hm (fun x3 hm => ?_)
    refine lv_goto (tgt := 31) hx hb dX7_paper_27 (by decide) ?_
    exact x_iret hx hb hr hlk hK B dX7_paper_31 hm
def f_X7_metTwos_s14 (r4 : Int32 → Int32 → Option Int32) (σ : Mm) (v2 : Int32) (r14 : Int32 → Int32 → Option Int32) (v1 v3 : Int32) : Option Int32 :=
  if v2 ≤ v3 then
    r4 v1 (v2 + (1 : Int32))
  else
    (f_X7_metIn σ v2 v3).bind fun x1 =>
    if x1 < 0 then
      r14 (v1 + (0 : Int32)) (v3 + (1 : Int32))
    else
      r14 (v1 + (1 : Int32)) (v3 + (1 : Int32))
def f_X7_metTwos_s4 (σ : Mm) (r4 : Int32 → Int32 → Option Int32) (v1 v2 : Int32) : Option Int32 :=
  if (σ 0 0) ≤ v2 then
    some v1
  else
    wh2 (f_X7_metTwos_s14 r4 σ v2) 5000 v1 (0 : Int32)
def f_X7_metTwos (σ : Mm) : Option Int32 :=
  wh2 (f_X7_metTwos_s4 σ) 5000 (0 : Int32) (0 : Int32)
set_option maxHeartbeats 4000000 in
set_option maxRecDepth 100000 in
theorem c_X7_metTwos (l : Launch) (D : va_G) (cI cZ : ClassId) (a : Nat → Nat) : CTr l D [(cI, FieldType.int), (cZ, FieldType.boolean)] (mW cI cZ a) yX7_metTwos (.code yX7_metTwos cX7_metTwos 4 (some FieldType.int) :: wsL_law) ({ frames := 3, cells := 0, slots := 0, locals := 73 } : Room) [.ref (a 0)] (fun σ => f_X7_metTwos σ) := by
  refine CTr.of (by decide +kernel) (Nat.le_of_ble_eq_true rfl) ?_
  intro σ r hm p e s m below meth c A ls H locs hx hb hr hlk hml hT hown hK hA B hl
  have hown : s.vm.findClass RX7 = some m.cls := hown
  have hl : lv_has ls 4 [(0, .ref (a 0))] := hl
  have hm : f_X7_metTwos σ = some r := hm
  unfold f_X7_metTwos at hm
  have L4 : ∀ (nn : Nat) (v1 : Int32) (v2 : Int32), wh2 (f_X7_metTwos_s4 σ) nn v1 v2 = some r → ∀ (H : Heap) (locs : List Loc) (ls : Array Slot), BD D A s.heap ((mW cI cZ a) σ) H locs → lv_has ls 4 [(0, .ref (a 0)), (1, .int v1), (2, .int v2)] → W p l e ({ frames := 3, cells := 0, slots := 0, locals := 73 } : Room) s m ([.ref (a 0)] : List Value).toArray below meth c H locs 0 0 (MQ below (QI D [(cI, FieldType.int), (cZ, FieldType.boolean)] (mW cI cZ a) A (r, σ)) ([.ref (a 0)] : List Value).toArray s 0 0 A) (F0 m 4 ls []) := by
    refine loop2 (fun r4 ih4 v1 v2 hm H locs ls B hl => ?_)
    unfold f_X7_metTwos_s4 at hm
    have L14 : ∀ (v2 : Int32) (nn : Nat) (v1 : Int32) (v3 : Int32), wh2 (f_X7_metTwos_s14 r4 σ v2) nn v1 v3 = some r → ∀ (H : Heap) (locs : List Loc) (ls : Array Slot), BD D A s.heap ((mW cI cZ a) σ) H locs → lv_has ls 4 [(0, .ref (a 0)), (1, .int v1), (2, .int v2), (3, .int v3)] → W p l e ({ frames := 3, cells := 0, slots := 0, locals := 73 } : Room) s m ([.ref (a 0)] : List Value).toArray below meth c H locs 0 0 (MQ below (QI D [(cI, FieldType.int), (cZ, FieldType.boolean)] (mW cI cZ a) A (r, σ)) ([.ref (a 0)] : List Value).toArray s 0 0 A) (F0 m 14 ls []) := by
      intro v2
      refine loop2 (fun r14 ih14 v1 v3 hm H locs ls B hl => ?_)
      unfold f_X7_metTwos_s14 at hm
      refine lv_iload_n hx hb dX7_metTwos_14 rfl (lv_at hl 3 rfl) ?_
      refine lv_iload_n hx hb dX7_metTwos_15 rfl (lv_at hl 2 rfl) ?_
      refine lv_icmp_ge (tgt := 42) hx hb dX7_metTwos_16 (by decide) (fun q => ?_) (fun q => ?_)
      · have hm := ift hm q
        refine lv_iinc (v := (v2 + (1 : Int32))) (lv' := [(2, .int (v2 + (1 : Int32))), (0, .ref (a 0)), (1, .int v1), (3, .int v3)]) hx hb dX7_metTwos_42 hl (k := 2) rfl rfl (by decide) rfl (fun ls hl => ?_)
        refine lv_goto (tgt := 4) hx hb dX7_metTwos_45 (by decide) ?_
        exact ih4 v1 (v2 + (1 : Int32)) hm H locs ls B (lv_sub hl [1, 2, 0] rfl)
      · have hm := iff hm q
        refine lv_iload_n hx hb dX7_metTwos_19 rfl (lv_at hl 1 rfl) ?_
        refine lv_aload_n hx hb dX7_metTwos_20 rfl (lv_at hl 0 rfl) ?_
        refine lv_iload_n hx hb dX7_metTwos_21 rfl (lv_at hl 2 rfl) ?_
        refine lv_iload_n hx hb dX7_metTwos_22 rfl (lv_at hl 3 rfl) ?_
        refine x_callVr (rest := [.int v1]) hx hb hml hT hown hK hA B hl.1 (c_X7_metIn l D cI cZ a v2 v3) mi_X7_metIn mv_X7_metIn mO_M rfl q919 ⟨rfl, rfl⟩ ⟨Nat.le_of_ble_eq_true rfl, Nat.le_of_ble_eq_true rfl⟩ rfl rfl (Nat.le_of_ble_eq_true rfl) dX7_metTwos_23 hm (fun x1 H locs B hm => ?_)
        refine lv_if_lt (tgt := 33) hx hb dX7_metTwos_26 (by decide) (fun q => ?_) (fun q => ?_)
        · have hm := ift hm q
          refine lv_iconst (v := (0 : Int32)) hx hb dX7_metTwos_33 (by decide) ?_
          refine lv_iadd hx hb dX7_metTwos_34 ?_
          refine lv_istore_n (lv' := [(1, .int (v1 + (0 : Int32))), (0, .ref (a 0)), (2, .int v2), (3, .int v3)]) hx hb dX7_metTwos_35 rfl hl (by decide) rfl (fun ls hl => ?_)
          refine lv_iinc (v := (v3 + (1 : Int32))) (lv' := [(3, .int (v3 + (1 : Int32))), (1, .int (v1 + (0 : Int32))), (0, .ref (a 0)), (2, .int v2)]) hx hb dX7_metTwos_36 hl (k := 3) rfl rfl (by decide) rfl (fun ls hl => ?_)
          refine lv_goto (tgt := 14) hx hb dX7_metTwos_39 (by decide) ?_
          exact ih14 (v1 + (0 : Int32)) (v3 + (1 : Int32)) hm H locs ls B (lv_sub hl [2, 1, 3, 0] rfl)
        · have hm := iff hm q
          refine lv_iconst (v := (1 : Int32)) hx hb dX7_metTwos_29 (by decide) ?_
          refine lv_goto (tgt := 34) hx hb dX7_metTwos_30 (by decide) ?_
          refine lv_iadd hx hb dX7_metTwos_34 ?_
          refine lv_istore_n (lv' := [(1, .int (v1 + (1 : Int32))), (0, .ref (a 0)), (2, .int v2), (3, .int v3)]) hx hb dX7_metTwos_35 rfl hl (by decide) rfl (fun ls hl => ?_)
          refine lv_iinc (v := (v3 + (1 : Int32))) (lv' := [(3, .int (v3 + (1 : Int32))), (1, .int (v1 + (1 : Int32))), (0, .ref (a 0)), (2, .int v2)]) hx hb dX7_metTwos_36 hl (k := 3) rfl rfl (by decide) rfl (fun ls hl => ?_)
          refine lv_goto (tgt := 14) hx hb dX7_metTwos_39 (by decide) ?_
          exact ih14 (v1 + (1 : Int32)) (v3 + (1 : Int32)) hm H locs ls B (lv_sub hl [2, 1, 3, 0] rfl)
    refine lv_iload_n hx hb dX7_metTwos_4 rfl (lv_at hl 2 rfl) ?_
    refine lv_aload_n hx hb dX7_metTwos_5 rfl (lv_at hl 0 rfl) ?_
    refine x_geti (T := TX7) (N := 33) hx hb hT hown hK B mI_players inlX7 rfl (by decide) q765 rfl dX7_metTwos_6 ?_
    refine lv_icmp_ge (tgt := 48) hx hb dX7_metTwos_9 (by decide) (fun q => ?_) (fun q => ?_)
    · have hm := ift hm q
      refine lv_iload_n hx hb dX7_metTwos_48 rfl (lv_at hl 1 rfl) ?_
      exact x_iretr hx hb hr hlk hK B dX7_metTwos_49 hm
    · have hm := iff hm q
      refine lv_iconst (v := (0 : Int32)) hx hb dX7_metTwos_12 (by decide) ?_
      refine lv_istore_n (lv' := [(3, .int (0 : Int32)), (0, .ref (a 0)), (1, .int v1), (2, .int v2)]) hx hb dX7_metTwos_13 rfl hl (by decide) rfl (fun ls hl => ?_)
      exact L14 v2 5000 v1 (0 : Int32) hm H locs ls B (lv_sub hl [1, 2, 3, 0] rfl)
  refine lv_iconst (v := (0 : Int32)) hx hb dX7_metTwos_0 (by decide) ?_
  refine lv_istore_n (lv' := [(1, .int (0 : Int32)), (0, .ref (a 0))]) hx hb dX7_metTwos_1 rfl hl (by decide) rfl (fun ls hl => ?_)
  refine lv_iconst (v := (0 : Int32)) hx hb dX7_metTwos_2 (by decide) ?_
  refine lv_istore_n (lv' := [(2, .int (0 : Int32)), (1, .int (0 : Int32)), (0, .ref (a 0))]) hx hb dX7_metTwos_3 rfl hl (by decide) rfl (fun ls hl => ?_)
  exact L4 5000 (0 : Int32) (0 : Int32) hm H locs ls B (lv_sub hl [2, 1, 0] rfl)
def f_X7_allPoints_s4 (σ : Mm) (r4 : Int32 → Int32 → Option Int32) (v1 v2 : Int32) : Option Int32 :=
  if (σ 0 0) ≤ v2 then
    some v1
  else
    (f_X7_pointsOf σ v2).bind fun x1 =>
    r4 (v1 + x1) (v2 + (1 : Int32))
def f_X7_allPoints (σ : Mm) : Option Int32 :=
  wh2 (f_X7_allPoints_s4 σ) 5000 (0 : Int32) (0 : Int32)
set_option maxHeartbeats 4000000 in
set_option maxRecDepth 100000 in
theorem c_X7_allPoints (l : Launch) (D : va_G) (cI cZ : ClassId) (a : Nat → Nat) : CTr l D [(cI, FieldType.int), (cZ, FieldType.boolean)] (mW cI cZ a) yX7_allPoints (.code yX7_allPoints cX7_allPoints 3 (some FieldType.int) :: wsL_law) ({ frames := 4, cells := 0, slots := 0, locals := 92 } : Room) [.ref (a 0)] (fun σ => f_X7_allPoints σ) := by
  refine CTr.of (by decide +kernel) (Nat.le_of_ble_eq_true rfl) ?_
  intro σ r hm p e s m below meth c A ls H locs hx hb hr hlk hml hT hown hK hA B hl
  have hown : s.vm.findClass RX7 = some m.cls := hown
  have hl : lv_has ls 3 [(0, .ref (a 0))] := hl
  have hm : f_X7_allPoints σ = some r := hm
  unfold f_X7_allPoints at hm
  have L4 : ∀ (nn : Nat) (v1 : Int32) (v2 : Int32), wh2 (f_X7_allPoints_s4 σ) nn v1 v2 = some r → ∀ (H : Heap) (locs : List Loc) (ls : Array Slot), BD D A s.heap ((mW cI cZ a) σ) H locs → lv_has ls 3 [(0, .ref (a 0)), (1, .int v1), (2, .int v2)] → W p l e ({ frames := 4, cells := 0, slots := 0, locals := 92 } : Room) s m ([.ref (a 0)] : List Value).toArray below meth c H locs 0 0 (MQ below (QI D [(cI, FieldType.int), (cZ, FieldType.boolean)] (mW cI cZ a) A (r, σ)) ([.ref (a 0)] : List Value).toArray s 0 0 A) (F0 m 4 ls []) := by
    refine loop2 (fun r4 ih4 v1 v2 hm H locs ls B hl => ?_)
    unfold f_X7_allPoints_s4 at hm
    refine lv_iload_n hx hb dX7_allPoints_4 rfl (lv_at hl 2 rfl) ?_
    refine lv_aload_n hx hb dX7_allPoints_5 rfl (lv_at hl 0 rfl) ?_
    refine x_geti (T := TX7) (N := 33) hx hb hT hown hK B mI_players inlX7 rfl (by decide) q765 rfl dX7_allPoints_6 ?_
    refine lv_icmp_ge (tgt := 26) hx hb dX7_allPoints_9 (by decide) (fun q => ?_) (fun q => ?_)
    · have hm := ift hm q
      refine lv_iload_n hx hb dX7_allPoints_26 rfl (lv_at hl 1 rfl) ?_
      exact x_iretr hx hb hr hlk hK B dX7_allPoints_27 hm
    · have hm := iff hm q
      refine lv_iload_n hx hb dX7_allPoints_12 rfl (lv_at hl 1 rfl) ?_
      refine lv_aload_n hx hb dX7_allPoints_13 rfl (lv_at hl 0 rfl) ?_
      refine lv_iload_n hx hb dX7_allPoints_14 rfl (lv_at hl 2 rfl) ?_
      refine x_callVr (rest := [.int v1]) hx hb hml hT hown hK hA B hl.1 (c_X7_pointsOf l D cI cZ a v2) mi_X7_pointsOf mv_X7_pointsOf mO_M rfl q854 ⟨rfl, rfl⟩ ⟨Nat.le_of_ble_eq_true rfl, Nat.le_of_ble_eq_true rfl⟩ rfl rfl (Nat.le_of_ble_eq_true rfl) dX7_allPoints_15 hm (fun x1 H locs B hm => ?_)
      refine lv_iadd hx hb dX7_allPoints_18 ?_
      refine lv_istore_n (lv' := [(1, .int (v1 + x1)), (0, .ref (a 0)), (2, .int v2)]) hx hb dX7_allPoints_19 rfl hl (by decide) rfl (fun ls hl => ?_)
      refine lv_iinc (v := (v2 + (1 : Int32))) (lv' := [(2, .int (v2 + (1 : Int32))), (1, .int (v1 + x1)), (0, .ref (a 0))]) hx hb dX7_allPoints_20 hl (k := 2) rfl rfl (by decide) rfl (fun ls hl => ?_)
      refine lv_goto (tgt := 4) hx hb dX7_allPoints_23 (by decide) ?_
      exact ih4 (v1 + x1) (v2 + (1 : Int32)) hm H locs ls B (lv_sub hl [2, 1, 0] rfl)
  refine lv_iconst (v := (0 : Int32)) hx hb dX7_allPoints_0 (by decide) ?_
  refine lv_istore_n (lv' := [(1, .int (0 : Int32)), (0, .ref (a 0))]) hx hb dX7_allPoints_1 rfl hl (by decide) rfl (fun ls hl => ?_)
  refine lv_iconst (v := (0 : Int32)) hx hb dX7_allPoints_2 (by decide) ?_
  refine lv_istore_n (lv' := [(2, .int (0 : Int32)), (1, .int (0 : Int32)), (0, .ref (a 0))]) hx hb dX7_allPoints_3 rfl hl (by decide) rfl (fun ls hl => ?_)
  exact L4 5000 (0 : Int32) (0 : Int32) hm H locs ls B (lv_sub hl [2, 1, 0] rfl)
def f_X7_told (σ : Mm) (w1 : Int32) : Option (Int32 × Mm) :=
  (some (sc σ 12 (0 : Int32))).bind fun σ =>
  if w1 = (0 : Int32) then
    (some (σ 0 0)).bind fun x1 =>
    some (x1, σ)
  else
    if w1 = (1 : Int32) then
      (f_X7_manyIn σ).bind fun x2 =>
      some (x2, σ)
    else
      if w1 = (2 : Int32) then
        (some (σ 3 0)).bind fun x3 =>
        some (x3, σ)
      else
        if w1 = (3 : Int32) then
          (f_X7_done σ).bind fun x4 =>
          some (x4, σ)
        else
          if w1 = (4 : Int32) then
            (some (σ 4 0)).bind fun x5 =>
            if x5 = (1 : Int32) then
              (some (σ 3 0)).bind fun x6 =>
              (ald 20 (σ 5) (x6 - (1 : Int32))).bind fun x7 =>
              some (x7, σ)
            else
              some ((-5 : Int32), σ)
          else
            if w1 = (5 : Int32) then
              (some (σ 22 0)).bind fun x8 =>
              some (x8, σ)
            else
              if w1 = (6 : Int32) then
                (some (σ 24 0)).bind fun x9 =>
                some (x9, σ)
              else
                if w1 = (7 : Int32) then
                  (f_X7_metTwos σ).bind fun x10 =>
                  some (x10, σ)
                else
                  if w1 = (8 : Int32) then
                    (f_X7_allPoints σ).bind fun x11 =>
                    some (x11, σ)
                  else
                    some ((-1 : Int32), σ)
set_option maxHeartbeats 4000000 in
set_option maxRecDepth 100000 in
theorem c_X7_told (l : Launch) (D : va_G) (cI cZ : ClassId) (a : Nat → Nat) (w1 : Int32) : CTi l D [(cI, FieldType.int), (cZ, FieldType.boolean)] (mW cI cZ a) yX7_told (.code yX7_told cX7_told 2 (some FieldType.int) :: wsL_law) ({ frames := 5, cells := 0, slots := 0, locals := 114 } : Room) [.ref (a 0), .int w1] (fun σ => f_X7_told σ w1) := by
  refine CTi.of (by decide +kernel) (Nat.le_of_ble_eq_true rfl) ?_
  intro σ out hm p e s m below meth c A ls H locs hx hb hr hlk hml hT hown hK hA B hl
  have hown : s.vm.findClass RX7 = some m.cls := hown
  have hl : lv_has ls 2 [(0, .ref (a 0)), (1, .int w1)] := hl
  have hm : f_X7_told σ w1 = some out := hm
  unfold f_X7_told at hm
  refine lv_aload_n hx hb dX7_told_0 rfl (lv_at hl 0 rfl) ?_
  refine lv_iconst (v := (0 : Int32)) hx hb dX7_told_1 (by decide) ?_
  refine x_puti (T := TX7) (N := 33) hx hb hT hown hK B mI_thrown inlX7 tyX7_ok nmX7 rfl (by decide) q777 rfl rfl rfl rfl rfl dX7_told_2 hm (fun σ H locs B hm => ?_)
  refine lv_iload_n hx hb dX7_told_5 rfl (lv_at hl 1 rfl) ?_
  by_cases q0 : w1 = (0 : Int32)
  · have hm := ift hm q0
    refine lv_tableIn (off := 50) (tgt := 56) hx hb dX7_told_6 (by rw [q0]; decide) (by rw [q0]; decide) (by rw [q0]; rfl) (by decide) ?_
    refine lv_aload_n hx hb dX7_told_56 rfl (lv_at hl 0 rfl) ?_
    refine x_getib (T := TX7) (N := 33) hx hb hT hown hK B mI_players inlX7 rfl (by decide) q765 rfl dX7_told_57 hm (fun x1 hm => ?_)
    exact x_iret hx hb hr hlk hK B dX7_told_60 hm
  · have hm := iff hm q0
    by_cases q1 : w1 = (1 : Int32)
    · have hm := ift hm q1
      refine lv_tableIn (off := 55) (tgt := 61) hx hb dX7_told_6 (by rw [q1]; decide) (by rw [q1]; decide) (by rw [q1]; rfl) (by decide) ?_
      refine lv_aload_n hx hb dX7_told_61 rfl (lv_at hl 0 rfl) ?_
      refine x_callVr (rest := []) hx hb hml hT hown hK hA B hl.1 (c_X7_manyIn l D cI cZ a) mi_X7_manyIn mv_X7_manyIn mO_M rfl q839 ⟨rfl, rfl⟩ ⟨Nat.le_of_ble_eq_true rfl, Nat.le_of_ble_eq_true rfl⟩ rfl rfl (Nat.le_of_ble_eq_true rfl) dX7_told_62 hm (fun x2 H locs B hm => ?_)
      exact x_iret hx hb hr hlk hK B dX7_told_65 hm
    · have hm := iff hm q1
      by_cases q2 : w1 = (2 : Int32)
      · have hm := ift hm q2
        refine lv_tableIn (off := 60) (tgt := 66) hx hb dX7_told_6 (by rw [q2]; decide) (by rw [q2]; decide) (by rw [q2]; rfl) (by decide) ?_
        refine lv_aload_n hx hb dX7_told_66 rfl (lv_at hl 0 rfl) ?_
        refine x_getib (T := TX7) (N := 33) hx hb hT hown hK B mI_rounds inlX7 rfl (by decide) q768 rfl dX7_told_67 hm (fun x3 hm => ?_)
        exact x_iret hx hb hr hlk hK B dX7_told_70 hm
      · have hm := iff hm q2
        by_cases q3 : w1 = (3 : Int32)
        · have hm := ift hm q3
          refine lv_tableIn (off := 65) (tgt := 71) hx hb dX7_told_6 (by rw [q3]; decide) (by rw [q3]; decide) (by rw [q3]; rfl) (by decide) ?_
          refine lv_aload_n hx hb dX7_told_71 rfl (lv_at hl 0 rfl) ?_
          refine x_callVr (rest := []) hx hb hml hT hown hK hA B hl.1 (c_X7_done l D cI cZ a) mi_X7_done mv_X7_done mO_M rfl q857 ⟨rfl, rfl⟩ ⟨Nat.le_of_ble_eq_true rfl, Nat.le_of_ble_eq_true rfl⟩ rfl rfl (Nat.le_of_ble_eq_true rfl) dX7_told_72 hm (fun x4 H locs B hm => ?_)
          exact x_iret hx hb hr hlk hK B dX7_told_75 hm
        · have hm := iff hm q3
          by_cases q4 : w1 = (4 : Int32)
          · have hm := ift hm q4
            refine lv_tableIn (off := 70) (tgt := 76) hx hb dX7_told_6 (by rw [q4]; decide) (by rw [q4]; decide) (by rw [q4]; rfl) (by decide) ?_
            refine lv_aload_n hx hb dX7_told_76 rfl (lv_at hl 0 rfl) ?_
            refine x_getib (T := TX7) (N := 33) hx hb hT hown hK B mI_isOpen inlX7 rfl (by decide) q769 rfl dX7_told_77 hm (fun x5 hm => ?_)
            refine lv_iconst (v := (1 : Int32)) hx hb dX7_told_80 (by decide) ?_
            refine lv_icmp_ne (tgt := 98) hx hb dX7_told_81 (by decide) (fun q => ?_) (fun q => ?_)
            · have hm := iff hm q
              refine lv_bipush (v := (-5 : Int32)) hx hb dX7_told_98 (by decide) ?_
              exact x_iret hx hb hr hlk hK B dX7_told_100 hm
            · have hm := ift hm q
              refine lv_aload_n hx hb dX7_told_84 rfl (lv_at hl 0 rfl) ?_
              refine x_getv (T := TX7) (N := 33) hx hb hT hown hK B mV_boardMany inlX7 rfl (by decide) q770 rfl dX7_told_85 ?_
              refine lv_aload_n hx hb dX7_told_88 rfl (lv_at hl 0 rfl) ?_
              refine x_getib (T := TX7) (N := 33) hx hb hT hown hK B mI_rounds inlX7 rfl (by decide) q768 rfl dX7_told_89 hm (fun x6 hm => ?_)
              refine lv_iconst (v := (1 : Int32)) hx hb dX7_told_92 (by decide) ?_
              refine lv_isub hx hb dX7_told_93 ?_
              refine x_iald (t0 := 0) hx hb hK B mA_boardMany rfl dX7_told_94 hm (fun x7 hm => ?_)
              refine lv_goto (tgt := 100) hx hb dX7_told_95 (by decide) ?_
              exact x_iret hx hb hr hlk hK B dX7_told_100 hm
          · have hm := iff hm q4
            by_cases q5 : w1 = (5 : Int32)
            · have hm := ift hm q5
              refine lv_tableIn (off := 95) (tgt := 101) hx hb dX7_told_6 (by rw [q5]; decide) (by rw [q5]; decide) (by rw [q5]; rfl) (by decide) ?_
              refine lv_aload_n hx hb dX7_told_101 rfl (lv_at hl 0 rfl) ?_
              refine x_getib (T := TX7) (N := 33) hx hb hT hown hK B mI_size inlX7 rfl (by decide) q787 rfl dX7_told_102 hm (fun x8 hm => ?_)
              exact x_iret hx hb hr hlk hK B dX7_told_105 hm
            · have hm := iff hm q5
              by_cases q6 : w1 = (6 : Int32)
              · have hm := ift hm q6
                refine lv_tableIn (off := 100) (tgt := 106) hx hb dX7_told_6 (by rw [q6]; decide) (by rw [q6]; decide) (by rw [q6]; rfl) (by decide) ?_
                refine lv_aload_n hx hb dX7_told_106 rfl (lv_at hl 0 rfl) ?_
                refine x_getib (T := TX7) (N := 33) hx hb hT hown hK B mI_paperSize inlX7 rfl (by decide) q789 rfl dX7_told_107 hm (fun x9 hm => ?_)
                exact x_iret hx hb hr hlk hK B dX7_told_110 hm
              · have hm := iff hm q6
                by_cases q7 : w1 = (7 : Int32)
                · have hm := ift hm q7
                  refine lv_tableIn (off := 105) (tgt := 111) hx hb dX7_told_6 (by rw [q7]; decide) (by rw [q7]; decide) (by rw [q7]; rfl) (by decide) ?_
                  refine lv_aload_n hx hb dX7_told_111 rfl (lv_at hl 0 rfl) ?_
                  refine x_callVr (rest := []) hx hb hml hT hown hK hA B hl.1 (c_X7_metTwos l D cI cZ a) mi_X7_metTwos mv_X7_metTwos mO_M rfl q1105 ⟨rfl, rfl⟩ ⟨Nat.le_of_ble_eq_true rfl, Nat.le_of_ble_eq_true rfl⟩ rfl rfl (Nat.le_of_ble_eq_true rfl) dX7_told_112 hm (fun x10 H locs B hm => ?_)
                  exact x_iret hx hb hr hlk hK B dX7_told_115 hm
                · have hm := iff hm q7
                  by_cases q8 : w1 = (8 : Int32)
                  · have hm := ift hm q8
                    refine lv_tableIn (off := 110) (tgt := 116) hx hb dX7_told_6 (by rw [q8]; decide) (by rw [q8]; decide) (by rw [q8]; rfl) (by decide) ?_
                    refine lv_aload_n hx hb dX7_told_116 rfl (lv_at hl 0 rfl) ?_
                    refine x_callVr (rest := []) hx hb hml hT hown hK hA B hl.1 (c_X7_allPoints l D cI cZ a) mi_X7_allPoints mv_X7_allPoints mO_M rfl q1108 ⟨rfl, rfl⟩ ⟨Nat.le_of_ble_eq_true rfl, Nat.le_of_ble_eq_true rfl⟩ rfl rfl (Nat.le_of_ble_eq_true rfl) dX7_told_117 hm (fun x11 H locs B hm => ?_)
                    exact x_iret hx hb hr hlk hK B dX7_told_120 hm
                  · have hm := iff hm q8
                    have z0 := lv_neT (k := (0 : Int32)) (a := 0) q0 (by decide)
                    have z1 := lv_neT (k := (1 : Int32)) (a := 1) q1 (by decide)
                    have z2 := lv_neT (k := (2 : Int32)) (a := 2) q2 (by decide)
                    have z3 := lv_neT (k := (3 : Int32)) (a := 3) q3 (by decide)
                    have z4 := lv_neT (k := (4 : Int32)) (a := 4) q4 (by decide)
                    have z5 := lv_neT (k := (5 : Int32)) (a := 5) q5 (by decide)
                    have z6 := lv_neT (k := (6 : Int32)) (a := 6) q6 (by decide)
                    have z7 := lv_neT (k := (7 : Int32)) (a := 7) q7 (by decide)
                    have z8 := lv_neT (k := (8 : Int32)) (a := 8) q8 (by decide)
                    refine lv_tableOut (tgt := 121) hx hb dX7_told_6 (by omega) (by decide) ?_
                    refine lv_iconst (v := (-1 : Int32)) hx hb dX7_told_121 (by decide) ?_
                    exact x_iret hx hb hr hlk hK B dX7_told_122 hm
