def f_X7_isList (w0 : Int32) : Option Int32 :=
  (f_X7_in (w0.toInt64) (0 : Int64) (3 : Int64)).bind fun x1 =>
  zb x1
set_option maxHeartbeats 4000000 in
set_option maxRecDepth 100000 in
theorem c_X7_isList (l : Launch) (D : va_G) (cI cZ : ClassId) (ww : Mm → va_W) (w0 : Int32) : CTr l D [(cI, FieldType.int), (cZ, FieldType.boolean)] ww yX7_isList (.code yX7_isList cX7_isList 1 (some FieldType.boolean) :: wsL_law) ({ frames := 1, cells := 0, slots := 0, locals := 25 } : Room) [.int w0] (fun σ => f_X7_isList w0) := by
  refine CTr.of (by decide +kernel) (Nat.le_of_ble_eq_true rfl) ?_
  intro σ r hm p e s m below meth c A ls H locs hx hb hr hlk hml hT hown hK hA B hl
  have hown : s.vm.findClass RX7 = some m.cls := hown
  have hl : lv_has ls 1 [(0, .int w0)] := hl
  have hm : f_X7_isList w0 = some r := hm
  unfold f_X7_isList at hm
  refine lv_iload_n hx hb dX7_isList_0 rfl (lv_at hl 0 rfl) ?_
  refine lv_i2l (v := w0.toInt64) hx hb dX7_isList_1 rfl ?_
  refine lv_lconst (v := 0) hx hb dX7_isList_2 (by decide) ?_
  refine lv_ldc2 (v := 3) hx hb hown (hT _ q879) dX7_isList_3 ?_
  refine x_callSr (rest := []) hx hb hml hT hown hK hA B hl.1 (c_X7_in l D cI cZ ww (w0.toInt64) (0 : Int64) (3 : Int64)) mi_X7_in q881 q880 ⟨rfl, rfl⟩ ⟨Nat.le_of_ble_eq_true rfl, Nat.le_of_ble_eq_true rfl⟩ rfl rfl (Nat.le_of_ble_eq_true rfl) dX7_isList_6 hm (fun x1 H locs B hm => ?_)
  exact x_zbretr hx hb hr hlk hK B dX7_isList_9 hm
def f_X7_list_s52 (v1 : Int32) (r52 : Mm → Int32 → Option (Int32 × Mm)) (σ : Mm) (v3 : Int32) : Option (Int32 × Mm) :=
  if (20 : Int32) ≤ v3 then
    some ((1 : Int32), σ)
  else
    (ast 80 σ 27 (((20 : Int32) * v1) + v3) (0 : Int32)).bind fun σ =>
    r52 σ (v3 + (1 : Int32))
def f_X7_list_j24 (σ : Mm) (v2 : Int32) : Option (Int32 × Mm) :=
  if 0 ≤ v2 then
    some ((-2 : Int32), σ)
  else
    some ((-14 : Int32), σ)
def f_X7_list (σ : Mm) (w1 : Int32) (w2 : Int32) : Option (Int32 × Mm) :=
  (some (sc σ 12 (0 : Int32))).bind fun σ =>
  (f_X7_isList w1).bind fun x1 =>
  if x1 = 0 then
    some ((-1 : Int32), σ)
  else
    if (20 : Int32) < w2 then
      f_X7_list_j24 σ w2
    else
      if 0 ≤ w2 then
        (ast 4 σ 25 w1 (1 : Int32)).bind fun σ =>
        (ast 4 σ 26 w1 w2).bind fun σ =>
        wh2 (f_X7_list_s52 w1) 5000 σ (0 : Int32)
      else
        f_X7_list_j24 σ w2
set_option maxHeartbeats 4000000 in
set_option maxRecDepth 100000 in
theorem c_X7_list (l : Launch) (D : va_G) (cI cZ : ClassId) (a : Nat → Nat) (w1 : Int32) (w2 : Int32) : CTi l D [(cI, FieldType.int), (cZ, FieldType.boolean)] (mW cI cZ a) yX7_list (.code yX7_list cX7_list 4 (some FieldType.int) :: wsL_law) ({ frames := 2, cells := 0, slots := 0, locals := 45 } : Room) [.ref (a 0), .int w1, .int w2] (fun σ => f_X7_list σ w1 w2) := by
  refine CTi.of (by decide +kernel) (Nat.le_of_ble_eq_true rfl) ?_
  intro σ out hm p e s m below meth c A ls H locs hx hb hr hlk hml hT hown hK hA B hl
  have hown : s.vm.findClass RX7 = some m.cls := hown
  have hl : lv_has ls 4 [(0, .ref (a 0)), (1, .int w1), (2, .int w2)] := hl
  have hm : f_X7_list σ w1 w2 = some out := hm
  unfold f_X7_list at hm
  have L52 : ∀ (v1 : Int32) (nn : Nat) (σ : Mm) (v3 : Int32), wh2 (f_X7_list_s52 v1) nn σ v3 = some out → ∀ (H : Heap) (locs : List Loc) (ls : Array Slot), BD D A s.heap ((mW cI cZ a) σ) H locs → lv_has ls 4 [(0, .ref (a 0)), (1, .int v1), (3, .int v3)] → W p l e ({ frames := 2, cells := 0, slots := 0, locals := 45 } : Room) s m ([.ref (a 0), .int w1, .int w2] : List Value).toArray below meth c H locs 0 0 (MQ below (QI D [(cI, FieldType.int), (cZ, FieldType.boolean)] (mW cI cZ a) A out) ([.ref (a 0), .int w1, .int w2] : List Value).toArray s 0 0 A) (F0 m 52 ls []) := by
    intro v1
    refine loop2 (fun r52 ih52 σ v3 hm H locs ls B hl => ?_)
    unfold f_X7_list_s52 at hm
    refine lv_iload_n hx hb dX7_list_52 rfl (lv_at hl 2 rfl) ?_
    refine lv_bipush (v := (20 : Int32)) hx hb dX7_list_53 (by decide) ?_
    refine lv_icmp_ge (tgt := 76) hx hb dX7_list_55 (by decide) (fun q => ?_) (fun q => ?_)
    · have hm := ift hm q
      refine lv_iconst (v := (1 : Int32)) hx hb dX7_list_76 (by decide) ?_
      exact x_iret hx hb hr hlk hK B dX7_list_77 hm
    · have hm := iff hm q
      refine lv_aload_n hx hb dX7_list_58 rfl (lv_at hl 0 rfl) ?_
      refine x_getv (T := TX7) (N := 33) hx hb hT hown hK B mV_listed inlX7 rfl (by decide) q792 rfl dX7_list_59 ?_
      refine lv_bipush (v := (20 : Int32)) hx hb dX7_list_62 (by decide) ?_
      refine lv_iload_n hx hb dX7_list_64 rfl (lv_at hl 1 rfl) ?_
      refine lv_imul hx hb dX7_list_65 ?_
      refine lv_iload_n hx hb dX7_list_66 rfl (lv_at hl 2 rfl) ?_
      refine lv_iadd hx hb dX7_list_67 ?_
      refine lv_iconst (v := (0 : Int32)) hx hb dX7_list_68 (by decide) ?_
      refine x_iast (t0 := 0) hx hb hK B mA_listed rfl dX7_list_69 hm (fun σ H locs B hm => ?_)
      refine lv_iinc (v := (v3 + (1 : Int32))) (lv' := [(3, .int (v3 + (1 : Int32))), (0, .ref (a 0)), (1, .int v1)]) hx hb dX7_list_70 hl (k := 2) rfl rfl (by decide) rfl (fun ls hl => ?_)
      refine lv_goto (tgt := 52) hx hb dX7_list_73 (by decide) ?_
      exact ih52 σ (v3 + (1 : Int32)) hm H locs ls B (lv_sub hl [1, 2, 0] rfl)
  have j24 : ∀ (σ : Mm) (v2 : Int32) (H : Heap) (locs : List Loc) (ls : Array Slot), BD D A s.heap ((mW cI cZ a) σ) H locs → lv_has ls 4 [(2, .int v2)] → f_X7_list_j24 σ v2 = some out → W p l e ({ frames := 2, cells := 0, slots := 0, locals := 45 } : Room) s m ([.ref (a 0), .int w1, .int w2] : List Value).toArray below meth c H locs 0 0 (MQ below (QI D [(cI, FieldType.int), (cZ, FieldType.boolean)] (mW cI cZ a) A out) ([.ref (a 0), .int w1, .int w2] : List Value).toArray s 0 0 A) (F0 m 24 ls []) := by
    intro σ v2 H locs ls B hl hm
    unfold f_X7_list_j24 at hm
    refine lv_iload_n hx hb dX7_list_24 rfl (lv_at hl 0 rfl) ?_
    refine lv_if_ge (tgt := 33) hx hb dX7_list_25 (by decide) (fun q => ?_) (fun q => ?_)
    · have hm := ift hm q
      refine lv_bipush (v := (-2 : Int32)) hx hb dX7_list_33 (by decide) ?_
      exact x_iret hx hb hr hlk hK B dX7_list_35 hm
    · have hm := iff hm q
      refine lv_bipush (v := (-14 : Int32)) hx hb dX7_list_28 (by decide) ?_
      refine lv_goto (tgt := 35) hx hb dX7_list_30 (by decide) ?_
      exact x_iret hx hb hr hlk hK B dX7_list_35 hm
  refine lv_aload_n hx hb dX7_list_0 rfl (lv_at hl 0 rfl) ?_
  refine lv_iconst (v := (0 : Int32)) hx hb dX7_list_1 (by decide) ?_
  refine x_puti (T := TX7) (N := 33) hx hb hT hown hK B mI_thrown inlX7 tyX7_ok nmX7 rfl (by decide) q777 rfl rfl rfl rfl rfl dX7_list_2 hm (fun σ H locs B hm => ?_)
  refine lv_iload_n hx hb dX7_list_5 rfl (lv_at hl 1 rfl) ?_
  refine x_callSr (rest := []) hx hb hml hT hown hK hA B hl.1 (c_X7_isList l D cI cZ (mW cI cZ a) w1) mi_X7_isList q1116 q1115 ⟨rfl, rfl⟩ ⟨Nat.le_of_ble_eq_true rfl, Nat.le_of_ble_eq_true rfl⟩ rfl rfl (Nat.le_of_ble_eq_true rfl) dX7_list_6 hm (fun x1 H locs B hm => ?_)
  refine lv_if_ne (tgt := 14) hx hb dX7_list_9 (by decide) (fun q => ?_) (fun q => ?_)
  · have hm := iff hm q
    refine lv_iload_n hx hb dX7_list_14 rfl (lv_at hl 2 rfl) ?_
    refine lv_bipush (v := (20 : Int32)) hx hb dX7_list_15 (by decide) ?_
    refine lv_icmp_gt (tgt := 24) hx hb dX7_list_17 (by decide) (fun q => ?_) (fun q => ?_)
    · have hm := ift hm q
      exact j24 σ w2 H locs ls B (lv_sub hl [2] rfl) hm
    · have hm := iff hm q
      refine lv_iload_n hx hb dX7_list_20 rfl (lv_at hl 2 rfl) ?_
      refine lv_if_ge (tgt := 36) hx hb dX7_list_21 (by decide) (fun q => ?_) (fun q => ?_)
      · have hm := ift hm q
        refine lv_aload_n hx hb dX7_list_36 rfl (lv_at hl 0 rfl) ?_
        refine x_getv (T := TX7) (N := 33) hx hb hT hown hK B mV_holdsList inlX7 rfl (by decide) q790 rfl dX7_list_37 ?_
        refine lv_iload_n hx hb dX7_list_40 rfl (lv_at hl 1 rfl) ?_
        refine lv_iconst (v := (1 : Int32)) hx hb dX7_list_41 (by decide) ?_
        refine x_zast (t0 := 1) hx hb hK B mA_holdsList rfl rfl dX7_list_42 hm (fun σ H locs B hm => ?_)
        refine lv_aload_n hx hb dX7_list_43 rfl (lv_at hl 0 rfl) ?_
        refine x_getv (T := TX7) (N := 33) hx hb hT hown hK B mV_listMany inlX7 rfl (by decide) q791 rfl dX7_list_44 ?_
        refine lv_iload_n hx hb dX7_list_47 rfl (lv_at hl 1 rfl) ?_
        refine lv_iload_n hx hb dX7_list_48 rfl (lv_at hl 2 rfl) ?_
        refine x_iast (t0 := 0) hx hb hK B mA_listMany rfl dX7_list_49 hm (fun σ H locs B hm => ?_)
        refine lv_iconst (v := (0 : Int32)) hx hb dX7_list_50 (by decide) ?_
        refine lv_istore_n (lv' := [(3, .int (0 : Int32)), (0, .ref (a 0)), (1, .int w1), (2, .int w2)]) hx hb dX7_list_51 rfl hl (by decide) rfl (fun ls hl => ?_)
        exact L52 w1 5000 σ (0 : Int32) hm H locs ls B (lv_sub hl [1, 2, 0] rfl)
      · have hm := iff hm q
        exact j24 σ w2 H locs ls B (lv_sub hl [2] rfl) hm
  · have hm := ift hm q
    refine lv_iconst (v := (-1 : Int32)) hx hb dX7_list_12 (by decide) ?_
    exact x_iret hx hb hr hlk hK B dX7_list_13 hm
def f_X7_set_j21 (σ : Mm) (v1 : Int32) : Option (Int32 × Mm) :=
  (f_X7_isList v1).bind fun x1 =>
  if x1 = 0 then
    some ((-1 : Int32), σ)
  else
    some ((-11 : Int32), σ)
def f_X7_set (σ : Mm) (w1 : Int32) (w2 : Int32) (w3 : Int32) : Option (Int32 × Mm) :=
  (some (sc σ 12 (0 : Int32))).bind fun σ =>
  (f_X7_isList w1).bind fun x2 =>
  if x2 = 0 then
    f_X7_set_j21 σ w1
  else
    (ald 4 (σ 25) w1).bind fun x3 =>
    if x3 = 0 then
      f_X7_set_j21 σ w1
    else
      (ald 4 (σ 26) w1).bind fun x4 =>
      (f_X7_in (w2.toInt64) (0 : Int64) ((x4 - (1 : Int32)).toInt64)).bind fun x5 =>
      if x5 = 0 then
        some ((-13 : Int32), σ)
      else
        (ast 80 σ 27 (((20 : Int32) * w1) + w2) w3).bind fun σ =>
        some ((1 : Int32), σ)
set_option maxHeartbeats 4000000 in
set_option maxRecDepth 100000 in
theorem c_X7_set (l : Launch) (D : va_G) (cI cZ : ClassId) (a : Nat → Nat) (w1 : Int32) (w2 : Int32) (w3 : Int32) : CTi l D [(cI, FieldType.int), (cZ, FieldType.boolean)] (mW cI cZ a) yX7_set (.code yX7_set cX7_set 4 (some FieldType.int) :: wsL_law) ({ frames := 2, cells := 0, slots := 0, locals := 45 } : Room) [.ref (a 0), .int w1, .int w2, .int w3] (fun σ => f_X7_set σ w1 w2 w3) := by
  refine CTi.of (by decide +kernel) (Nat.le_of_ble_eq_true rfl) ?_
  intro σ out hm p e s m below meth c A ls H locs hx hb hr hlk hml hT hown hK hA B hl
  have hown : s.vm.findClass RX7 = some m.cls := hown
  have hl : lv_has ls 4 [(0, .ref (a 0)), (1, .int w1), (2, .int w2), (3, .int w3)] := hl
  have hm : f_X7_set σ w1 w2 w3 = some out := hm
  unfold f_X7_set at hm
  have j21 : ∀ (σ : Mm) (v1 : Int32) (H : Heap) (locs : List Loc) (ls : Array Slot), BD D A s.heap ((mW cI cZ a) σ) H locs → lv_has ls 4 [(1, .int v1)] → f_X7_set_j21 σ v1 = some out → W p l e ({ frames := 2, cells := 0, slots := 0, locals := 45 } : Room) s m ([.ref (a 0), .int w1, .int w2, .int w3] : List Value).toArray below meth c H locs 0 0 (MQ below (QI D [(cI, FieldType.int), (cZ, FieldType.boolean)] (mW cI cZ a) A out) ([.ref (a 0), .int w1, .int w2, .int w3] : List Value).toArray s 0 0 A) (F0 m 21 ls []) := by
    intro σ v1 H locs ls B hl hm
    unfold f_X7_set_j21 at hm
    refine lv_iload_n hx hb dX7_set_21 rfl (lv_at hl 0 rfl) ?_
    refine x_callSr (rest := []) hx hb hml hT hown hK hA B hl.1 (c_X7_isList l D cI cZ (mW cI cZ a) v1) mi_X7_isList q1116 q1115 ⟨rfl, rfl⟩ ⟨Nat.le_of_ble_eq_true rfl, Nat.le_of_ble_eq_true rfl⟩ rfl rfl (Nat.le_of_ble_eq_true rfl) dX7_set_22 hm (fun x1 H locs B hm => ?_)
    refine lv_if_eq (tgt := 33) hx hb dX7_set_25 (by decide) (fun q => ?_) (fun q => ?_)
    · have hm := ift hm q
      refine lv_iconst (v := (-1 : Int32)) hx hb dX7_set_33 (by decide) ?_
      exact x_iret hx hb hr hlk hK B dX7_set_34 hm
    · have hm := iff hm q
      refine lv_bipush (v := (-11 : Int32)) hx hb dX7_set_28 (by decide) ?_
      refine lv_goto (tgt := 34) hx hb dX7_set_30 (by decide) ?_
      exact x_iret hx hb hr hlk hK B dX7_set_34 hm
  refine lv_aload_n hx hb dX7_set_0 rfl (lv_at hl 0 rfl) ?_
  refine lv_iconst (v := (0 : Int32)) hx hb dX7_set_1 (by decide) ?_
  refine x_puti (T := TX7) (N := 33) hx hb hT hown hK B mI_thrown inlX7 tyX7_ok nmX7 rfl (by decide) q777 rfl rfl rfl rfl rfl dX7_set_2 hm (fun σ H locs B hm => ?_)
  refine lv_iload_n hx hb dX7_set_5 rfl (lv_at hl 1 rfl) ?_
  refine x_callSr (rest := []) hx hb hml hT hown hK hA B hl.1 (c_X7_isList l D cI cZ (mW cI cZ a) w1) mi_X7_isList q1116 q1115 ⟨rfl, rfl⟩ ⟨Nat.le_of_ble_eq_true rfl, Nat.le_of_ble_eq_true rfl⟩ rfl rfl (Nat.le_of_ble_eq_true rfl) dX7_set_6 hm (fun x2 H locs B hm => ?_)
  refine lv_if_eq (tgt := 21) hx hb dX7_set_9 (by decide) (fun q => ?_) (fun q => ?_)
  · have hm := ift hm q
    exact j21 σ w1 H locs ls B (lv_sub hl [1] rfl) hm
  · have hm := iff hm q
    refine lv_aload_n hx hb dX7_set_12 rfl (lv_at hl 0 rfl) ?_
    refine x_getv (T := TX7) (N := 33) hx hb hT hown hK B mV_holdsList inlX7 rfl (by decide) q790 rfl dX7_set_13 ?_
    refine lv_iload_n hx hb dX7_set_16 rfl (lv_at hl 1 rfl) ?_
    refine x_zald (t0 := 1) hx hb hK B mA_holdsList rfl dX7_set_17 hm (fun x3 hm => ?_)
    refine lv_if_ne (tgt := 35) hx hb dX7_set_18 (by decide) (fun q => ?_) (fun q => ?_)
    · have hm := iff hm q
      refine lv_iload_n hx hb dX7_set_35 rfl (lv_at hl 2 rfl) ?_
      refine lv_i2l (v := w2.toInt64) hx hb dX7_set_36 rfl ?_
      refine lv_lconst (v := 0) hx hb dX7_set_37 (by decide) ?_
      refine lv_aload_n hx hb dX7_set_38 rfl (lv_at hl 0 rfl) ?_
      refine x_getv (T := TX7) (N := 33) hx hb hT hown hK B mV_listMany inlX7 rfl (by decide) q791 rfl dX7_set_39 ?_
      refine lv_iload_n hx hb dX7_set_42 rfl (lv_at hl 1 rfl) ?_
      refine x_iald (t0 := 0) hx hb hK B mA_listMany rfl dX7_set_43 hm (fun x4 hm => ?_)
      refine lv_iconst (v := (1 : Int32)) hx hb dX7_set_44 (by decide) ?_
      refine lv_isub hx hb dX7_set_45 ?_
      refine lv_i2l (v := (x4 - (1 : Int32)).toInt64) hx hb dX7_set_46 rfl ?_
      refine x_callSr (rest := []) hx hb hml hT hown hK hA B hl.1 (c_X7_in l D cI cZ (mW cI cZ a) (w2.toInt64) (0 : Int64) ((x4 - (1 : Int32)).toInt64)) mi_X7_in q881 q880 ⟨rfl, rfl⟩ ⟨Nat.le_of_ble_eq_true rfl, Nat.le_of_ble_eq_true rfl⟩ rfl rfl (Nat.le_of_ble_eq_true rfl) dX7_set_47 hm (fun x5 H locs B hm => ?_)
      refine lv_if_ne (tgt := 56) hx hb dX7_set_50 (by decide) (fun q => ?_) (fun q => ?_)
      · have hm := iff hm q
        refine lv_aload_n hx hb dX7_set_56 rfl (lv_at hl 0 rfl) ?_
        refine x_getv (T := TX7) (N := 33) hx hb hT hown hK B mV_listed inlX7 rfl (by decide) q792 rfl dX7_set_57 ?_
        refine lv_bipush (v := (20 : Int32)) hx hb dX7_set_60 (by decide) ?_
        refine lv_iload_n hx hb dX7_set_62 rfl (lv_at hl 1 rfl) ?_
        refine lv_imul hx hb dX7_set_63 ?_
        refine lv_iload_n hx hb dX7_set_64 rfl (lv_at hl 2 rfl) ?_
        refine lv_iadd hx hb dX7_set_65 ?_
        refine lv_iload_n hx hb dX7_set_66 rfl (lv_at hl 3 rfl) ?_
        refine x_iast (t0 := 0) hx hb hK B mA_listed rfl dX7_set_67 hm (fun σ H locs B hm => ?_)
        refine lv_iconst (v := (1 : Int32)) hx hb dX7_set_68 (by decide) ?_
        exact x_iret hx hb hr hlk hK B dX7_set_69 hm
      · have hm := ift hm q
        refine lv_bipush (v := (-13 : Int32)) hx hb dX7_set_53 (by decide) ?_
        exact x_iret hx hb hr hlk hK B dX7_set_55 hm
    · have hm := ift hm q
      exact j21 σ w1 H locs ls B (lv_sub hl [1] rfl) hm
def f_X7_get (σ : Mm) (w1 : Int32) (w2 : Int32) : Option (Int32 × Mm) :=
  (some (sc σ 12 (0 : Int32))).bind fun σ =>
  (f_X7_isList w1).bind fun x1 =>
  if x1 = 0 then
    some ((-2000000000 : Int32), σ)
  else
    (ald 4 (σ 25) w1).bind fun x2 =>
    if x2 = 0 then
      some ((-2000000000 : Int32), σ)
    else
      (ald 4 (σ 26) w1).bind fun x3 =>
      (f_X7_in (w2.toInt64) (0 : Int64) ((x3 - (1 : Int32)).toInt64)).bind fun x4 =>
      if x4 = 0 then
        some ((-2000000000 : Int32), σ)
      else
        (ald 80 (σ 27) (((20 : Int32) * w1) + w2)).bind fun x5 =>
        some (x5, σ)
set_option maxHeartbeats 4000000 in
set_option maxRecDepth 100000 in
theorem c_X7_get (l : Launch) (D : va_G) (cI cZ : ClassId) (a : Nat → Nat) (w1 : Int32) (w2 : Int32) : CTi l D [(cI, FieldType.int), (cZ, FieldType.boolean)] (mW cI cZ a) yX7_get (.code yX7_get cX7_get 3 (some FieldType.int) :: wsL_law) ({ frames := 2, cells := 0, slots := 0, locals := 45 } : Room) [.ref (a 0), .int w1, .int w2] (fun σ => f_X7_get σ w1 w2) := by
  refine CTi.of (by decide +kernel) (Nat.le_of_ble_eq_true rfl) ?_
  intro σ out hm p e s m below meth c A ls H locs hx hb hr hlk hml hT hown hK hA B hl
  have hown : s.vm.findClass RX7 = some m.cls := hown
  have hl : lv_has ls 3 [(0, .ref (a 0)), (1, .int w1), (2, .int w2)] := hl
  have hm : f_X7_get σ w1 w2 = some out := hm
  unfold f_X7_get at hm
  refine lv_aload_n hx hb dX7_get_0 rfl (lv_at hl 0 rfl) ?_
  refine lv_iconst (v := (0 : Int32)) hx hb dX7_get_1 (by decide) ?_
  refine x_puti (T := TX7) (N := 33) hx hb hT hown hK B mI_thrown inlX7 tyX7_ok nmX7 rfl (by decide) q777 rfl rfl rfl rfl rfl dX7_get_2 hm (fun σ H locs B hm => ?_)
  refine lv_iload_n hx hb dX7_get_5 rfl (lv_at hl 1 rfl) ?_
  refine x_callSr (rest := []) hx hb hml hT hown hK hA B hl.1 (c_X7_isList l D cI cZ (mW cI cZ a) w1) mi_X7_isList q1116 q1115 ⟨rfl, rfl⟩ ⟨Nat.le_of_ble_eq_true rfl, Nat.le_of_ble_eq_true rfl⟩ rfl rfl (Nat.le_of_ble_eq_true rfl) dX7_get_6 hm (fun x1 H locs B hm => ?_)
  refine lv_if_eq (tgt := 53) hx hb dX7_get_9 (by decide) (fun q => ?_) (fun q => ?_)
  · have hm := ift hm q
    refine lv_ldcw (v := (-2000000000 : Int32)) hx hb hown (hT _ q1126) dX7_get_53 ?_
    exact x_iret hx hb hr hlk hK B dX7_get_56 hm
  · have hm := iff hm q
    refine lv_aload_n hx hb dX7_get_12 rfl (lv_at hl 0 rfl) ?_
    refine x_getv (T := TX7) (N := 33) hx hb hT hown hK B mV_holdsList inlX7 rfl (by decide) q790 rfl dX7_get_13 ?_
    refine lv_iload_n hx hb dX7_get_16 rfl (lv_at hl 1 rfl) ?_
    refine x_zald (t0 := 1) hx hb hK B mA_holdsList rfl dX7_get_17 hm (fun x2 hm => ?_)
    refine lv_if_eq (tgt := 53) hx hb dX7_get_18 (by decide) (fun q => ?_) (fun q => ?_)
    · have hm := ift hm q
      refine lv_ldcw (v := (-2000000000 : Int32)) hx hb hown (hT _ q1126) dX7_get_53 ?_
      exact x_iret hx hb hr hlk hK B dX7_get_56 hm
    · have hm := iff hm q
      refine lv_iload_n hx hb dX7_get_21 rfl (lv_at hl 2 rfl) ?_
      refine lv_i2l (v := w2.toInt64) hx hb dX7_get_22 rfl ?_
      refine lv_lconst (v := 0) hx hb dX7_get_23 (by decide) ?_
      refine lv_aload_n hx hb dX7_get_24 rfl (lv_at hl 0 rfl) ?_
      refine x_getv (T := TX7) (N := 33) hx hb hT hown hK B mV_listMany inlX7 rfl (by decide) q791 rfl dX7_get_25 ?_
      refine lv_iload_n hx hb dX7_get_28 rfl (lv_at hl 1 rfl) ?_
      refine x_iald (t0 := 0) hx hb hK B mA_listMany rfl dX7_get_29 hm (fun x3 hm => ?_)
      refine lv_iconst (v := (1 : Int32)) hx hb dX7_get_30 (by decide) ?_
      refine lv_isub hx hb dX7_get_31 ?_
      refine lv_i2l (v := (x3 - (1 : Int32)).toInt64) hx hb dX7_get_32 rfl ?_
      refine x_callSr (rest := []) hx hb hml hT hown hK hA B hl.1 (c_X7_in l D cI cZ (mW cI cZ a) (w2.toInt64) (0 : Int64) ((x3 - (1 : Int32)).toInt64)) mi_X7_in q881 q880 ⟨rfl, rfl⟩ ⟨Nat.le_of_ble_eq_true rfl, Nat.le_of_ble_eq_true rfl⟩ rfl rfl (Nat.le_of_ble_eq_true rfl) dX7_get_33 hm (fun x4 H locs B hm => ?_)
      refine lv_if_eq (tgt := 53) hx hb dX7_get_36 (by decide) (fun q => ?_) (fun q => ?_)
      · have hm := ift hm q
        refine lv_ldcw (v := (-2000000000 : Int32)) hx hb hown (hT _ q1126) dX7_get_53 ?_
        exact x_iret hx hb hr hlk hK B dX7_get_56 hm
      · have hm := iff hm q
        refine lv_aload_n hx hb dX7_get_39 rfl (lv_at hl 0 rfl) ?_
        refine x_getv (T := TX7) (N := 33) hx hb hT hown hK B mV_listed inlX7 rfl (by decide) q792 rfl dX7_get_40 ?_
        refine lv_bipush (v := (20 : Int32)) hx hb dX7_get_43 (by decide) ?_
        refine lv_iload_n hx hb dX7_get_45 rfl (lv_at hl 1 rfl) ?_
        refine lv_imul hx hb dX7_get_46 ?_
        refine lv_iload_n hx hb dX7_get_47 rfl (lv_at hl 2 rfl) ?_
        refine lv_iadd hx hb dX7_get_48 ?_
        refine x_iald (t0 := 0) hx hb hK B mA_listed rfl dX7_get_49 hm (fun x5 hm => ?_)
        refine lv_goto (tgt := 56) hx hb dX7_get_50 (by decide) ?_
        exact x_iret hx hb hr hlk hK B dX7_get_56 hm
def f_X7_lay_j97 (σ : Mm) : Option (Int32 × Mm) :=
  (some (σ 0 0)).bind fun x1 =>
  some (x1, σ)
def f_X7_lay_s41 (v1 : Int32) (v2 : Int32) (r41 : Mm → Int32 → Option (Int32 × Mm)) (σ : Mm) (v3 : Int32) : Option (Int32 × Mm) :=
  (some (σ 0 0)).bind fun x2 =>
  if x2 ≤ v3 then
    f_X7_lay_j97 σ
  else
    if v2 < 0 then
      some ((-13 : Int32), σ)
    else
      (ald 4 (σ 26) v1).bind fun x3 =>
      if (lg_cmp (v2.toInt64 + v3.toInt64) (x3.toInt64)) < 0 then
        (ald 12 (σ 14) v3).bind fun x4 =>
        (ast 80 σ 27 ((((20 : Int32) * v1) + v2) + v3) x4).bind fun σ =>
        r41 σ (v3 + (1 : Int32))
      else
        some ((-13 : Int32), σ)
def f_X7_lay_j21 (σ : Mm) (v1 : Int32) : Option (Int32 × Mm) :=
  (f_X7_isList v1).bind fun x5 =>
  if x5 = 0 then
    some ((-1 : Int32), σ)
  else
    some ((-11 : Int32), σ)
def f_X7_lay (σ : Mm) (w1 : Int32) (w2 : Int32) : Option (Int32 × Mm) :=
  (some (sc σ 12 (0 : Int32))).bind fun σ =>
  (f_X7_isList w1).bind fun x6 =>
  if x6 = 0 then
    f_X7_lay_j21 σ w1
  else
    (ald 4 (σ 25) w1).bind fun x7 =>
    if x7 = 0 then
      f_X7_lay_j21 σ w1
    else
      (f_X7_layStanding σ).bind fun σ =>
      wh2 (f_X7_lay_s41 w1 w2) 5000 σ (0 : Int32)
set_option maxHeartbeats 4000000 in
set_option maxRecDepth 100000 in
theorem c_X7_lay (l : Launch) (D : va_G) (cI cZ : ClassId) (a : Nat → Nat) (w1 : Int32) (w2 : Int32) : CTi l D [(cI, FieldType.int), (cZ, FieldType.boolean)] (mW cI cZ a) yX7_lay (.code yX7_lay cX7_lay 4 (some FieldType.int) :: wsL_law) ({ frames := 7, cells := 0, slots := 0, locals := 163 } : Room) [.ref (a 0), .int w1, .int w2] (fun σ => f_X7_lay σ w1 w2) := by
  refine CTi.of (by decide +kernel) (Nat.le_of_ble_eq_true rfl) ?_
  intro σ out hm p e s m below meth c A ls H locs hx hb hr hlk hml hT hown hK hA B hl
  have hown : s.vm.findClass RX7 = some m.cls := hown
  have hl : lv_has ls 4 [(0, .ref (a 0)), (1, .int w1), (2, .int w2)] := hl
  have hm : f_X7_lay σ w1 w2 = some out := hm
  unfold f_X7_lay at hm
  have j97 : ∀ (σ : Mm)  (H : Heap) (locs : List Loc) (ls : Array Slot), BD D A s.heap ((mW cI cZ a) σ) H locs → lv_has ls 4 [(0, .ref (a 0))] → f_X7_lay_j97 σ = some out → W p l e ({ frames := 7, cells := 0, slots := 0, locals := 163 } : Room) s m ([.ref (a 0), .int w1, .int w2] : List Value).toArray below meth c H locs 0 0 (MQ below (QI D [(cI, FieldType.int), (cZ, FieldType.boolean)] (mW cI cZ a) A out) ([.ref (a 0), .int w1, .int w2] : List Value).toArray s 0 0 A) (F0 m 97 ls []) := by
    intro σ  H locs ls B hl hm
    unfold f_X7_lay_j97 at hm
    refine lv_aload_n hx hb dX7_lay_97 rfl (lv_at hl 0 rfl) ?_
    refine x_getib (T := TX7) (N := 33) hx hb hT hown hK B mI_players inlX7 rfl (by decide) q765 rfl dX7_lay_98 hm (fun x1 hm => ?_)
    exact x_iret hx hb hr hlk hK B dX7_lay_101 hm
  have L41 : ∀ (v1 : Int32) (v2 : Int32) (nn : Nat) (σ : Mm) (v3 : Int32), wh2 (f_X7_lay_s41 v1 v2) nn σ v3 = some out → ∀ (H : Heap) (locs : List Loc) (ls : Array Slot), BD D A s.heap ((mW cI cZ a) σ) H locs → lv_has ls 4 [(0, .ref (a 0)), (1, .int v1), (2, .int v2), (3, .int v3)] → W p l e ({ frames := 7, cells := 0, slots := 0, locals := 163 } : Room) s m ([.ref (a 0), .int w1, .int w2] : List Value).toArray below meth c H locs 0 0 (MQ below (QI D [(cI, FieldType.int), (cZ, FieldType.boolean)] (mW cI cZ a) A out) ([.ref (a 0), .int w1, .int w2] : List Value).toArray s 0 0 A) (F0 m 41 ls []) := by
    intro v1 v2
    refine loop2 (fun r41 ih41 σ v3 hm H locs ls B hl => ?_)
    unfold f_X7_lay_s41 at hm
    refine lv_iload_n hx hb dX7_lay_41 rfl (lv_at hl 3 rfl) ?_
    refine lv_aload_n hx hb dX7_lay_42 rfl (lv_at hl 0 rfl) ?_
    refine x_getib (T := TX7) (N := 33) hx hb hT hown hK B mI_players inlX7 rfl (by decide) q765 rfl dX7_lay_43 hm (fun x2 hm => ?_)
    refine lv_icmp_ge (tgt := 97) hx hb dX7_lay_46 (by decide) (fun q => ?_) (fun q => ?_)
    · have hm := ift hm q
      exact j97 σ H locs ls B (lv_sub hl [0] rfl) hm
    · have hm := iff hm q
      refine lv_iload_n hx hb dX7_lay_49 rfl (lv_at hl 2 rfl) ?_
      refine lv_if_lt (tgt := 69) hx hb dX7_lay_50 (by decide) (fun q => ?_) (fun q => ?_)
      · have hm := ift hm q
        refine lv_bipush (v := (-13 : Int32)) hx hb dX7_lay_69 (by decide) ?_
        exact x_iret hx hb hr hlk hK B dX7_lay_71 hm
      · have hm := iff hm q
        refine lv_iload_n hx hb dX7_lay_53 rfl (lv_at hl 2 rfl) ?_
        refine lv_i2l (v := v2.toInt64) hx hb dX7_lay_54 rfl ?_
        refine lv_iload_n hx hb dX7_lay_55 rfl (lv_at hl 3 rfl) ?_
        refine lv_i2l (v := v3.toInt64) hx hb dX7_lay_56 rfl ?_
        refine lv_ladd hx hb dX7_lay_57 ?_
        refine lv_aload_n hx hb dX7_lay_58 rfl (lv_at hl 0 rfl) ?_
        refine x_getv (T := TX7) (N := 33) hx hb hT hown hK B mV_listMany inlX7 rfl (by decide) q791 rfl dX7_lay_59 ?_
        refine lv_iload_n hx hb dX7_lay_62 rfl (lv_at hl 1 rfl) ?_
        refine x_iald (t0 := 0) hx hb hK B mA_listMany rfl dX7_lay_63 hm (fun x3 hm => ?_)
        refine lv_i2l (v := x3.toInt64) hx hb dX7_lay_64 rfl ?_
        refine W.lcmp hx hb dX7_lay_65 ?_
        refine lv_if_lt (tgt := 72) hx hb dX7_lay_66 (by decide) (fun q => ?_) (fun q => ?_)
        · have hm := ift hm q
          refine lv_aload_n hx hb dX7_lay_72 rfl (lv_at hl 0 rfl) ?_
          refine x_getv (T := TX7) (N := 33) hx hb hT hown hK B mV_listed inlX7 rfl (by decide) q792 rfl dX7_lay_73 ?_
          refine lv_bipush (v := (20 : Int32)) hx hb dX7_lay_76 (by decide) ?_
          refine lv_iload_n hx hb dX7_lay_78 rfl (lv_at hl 1 rfl) ?_
          refine lv_imul hx hb dX7_lay_79 ?_
          refine lv_iload_n hx hb dX7_lay_80 rfl (lv_at hl 2 rfl) ?_
          refine lv_iadd hx hb dX7_lay_81 ?_
          refine lv_iload_n hx hb dX7_lay_82 rfl (lv_at hl 3 rfl) ?_
          refine lv_iadd hx hb dX7_lay_83 ?_
          refine lv_aload_n hx hb dX7_lay_84 rfl (lv_at hl 0 rfl) ?_
          refine x_getv (T := TX7) (N := 33) hx hb hT hown hK B mV_standing inlX7 rfl (by decide) q779 rfl dX7_lay_85 ?_
          refine lv_iload_n hx hb dX7_lay_88 rfl (lv_at hl 3 rfl) ?_
          refine x_iald (t0 := 0) hx hb hK B mA_standing rfl dX7_lay_89 hm (fun x4 hm => ?_)
          refine x_iast (t0 := 0) hx hb hK B mA_listed rfl dX7_lay_90 hm (fun σ H locs B hm => ?_)
          refine lv_iinc (v := (v3 + (1 : Int32))) (lv' := [(3, .int (v3 + (1 : Int32))), (0, .ref (a 0)), (1, .int v1), (2, .int v2)]) hx hb dX7_lay_91 hl (k := 3) rfl rfl (by decide) rfl (fun ls hl => ?_)
          refine lv_goto (tgt := 41) hx hb dX7_lay_94 (by decide) ?_
          exact ih41 σ (v3 + (1 : Int32)) hm H locs ls B (lv_sub hl [1, 2, 3, 0] rfl)
        · have hm := iff hm q
          refine lv_bipush (v := (-13 : Int32)) hx hb dX7_lay_69 (by decide) ?_
          exact x_iret hx hb hr hlk hK B dX7_lay_71 hm
  have j21 : ∀ (σ : Mm) (v1 : Int32) (H : Heap) (locs : List Loc) (ls : Array Slot), BD D A s.heap ((mW cI cZ a) σ) H locs → lv_has ls 4 [(1, .int v1)] → f_X7_lay_j21 σ v1 = some out → W p l e ({ frames := 7, cells := 0, slots := 0, locals := 163 } : Room) s m ([.ref (a 0), .int w1, .int w2] : List Value).toArray below meth c H locs 0 0 (MQ below (QI D [(cI, FieldType.int), (cZ, FieldType.boolean)] (mW cI cZ a) A out) ([.ref (a 0), .int w1, .int w2] : List Value).toArray s 0 0 A) (F0 m 21 ls []) := by
    intro σ v1 H locs ls B hl hm
    unfold f_X7_lay_j21 at hm
    refine lv_iload_n hx hb dX7_lay_21 rfl (lv_at hl 0 rfl) ?_
    refine x_callSr (rest := []) hx hb hml hT hown hK hA B hl.1 (c_X7_isList l D cI cZ (mW cI cZ a) v1) mi_X7_isList q1116 q1115 ⟨rfl, rfl⟩ ⟨Nat.le_of_ble_eq_true rfl, Nat.le_of_ble_eq_true rfl⟩ rfl rfl (Nat.le_of_ble_eq_true rfl) dX7_lay_22 hm (fun x5 H locs B hm => ?_)
    refine lv_if_eq (tgt := 33) hx hb dX7_lay_25 (by decide) (fun q => ?_) (fun q => ?_)
    · have hm := ift hm q
      refine lv_iconst (v := (-1 : Int32)) hx hb dX7_lay_33 (by decide) ?_
      exact x_iret hx hb hr hlk hK B dX7_lay_34 hm
    · have hm := iff hm q
      refine lv_bipush (v := (-11 : Int32)) hx hb dX7_lay_28 (by decide) ?_
      refine lv_goto (tgt := 34) hx hb dX7_lay_30 (by decide) ?_
      exact x_iret hx hb hr hlk hK B dX7_lay_34 hm
  refine lv_aload_n hx hb dX7_lay_0 rfl (lv_at hl 0 rfl) ?_
  refine lv_iconst (v := (0 : Int32)) hx hb dX7_lay_1 (by decide) ?_
  refine x_puti (T := TX7) (N := 33) hx hb hT hown hK B mI_thrown inlX7 tyX7_ok nmX7 rfl (by decide) q777 rfl rfl rfl rfl rfl dX7_lay_2 hm (fun σ H locs B hm => ?_)
  refine lv_iload_n hx hb dX7_lay_5 rfl (lv_at hl 1 rfl) ?_
  refine x_callSr (rest := []) hx hb hml hT hown hK hA B hl.1 (c_X7_isList l D cI cZ (mW cI cZ a) w1) mi_X7_isList q1116 q1115 ⟨rfl, rfl⟩ ⟨Nat.le_of_ble_eq_true rfl, Nat.le_of_ble_eq_true rfl⟩ rfl rfl (Nat.le_of_ble_eq_true rfl) dX7_lay_6 hm (fun x6 H locs B hm => ?_)
  refine lv_if_eq (tgt := 21) hx hb dX7_lay_9 (by decide) (fun q => ?_) (fun q => ?_)
  · have hm := ift hm q
    exact j21 σ w1 H locs ls B (lv_sub hl [1] rfl) hm
  · have hm := iff hm q
    refine lv_aload_n hx hb dX7_lay_12 rfl (lv_at hl 0 rfl) ?_
    refine x_getv (T := TX7) (N := 33) hx hb hT hown hK B mV_holdsList inlX7 rfl (by decide) q790 rfl dX7_lay_13 ?_
    refine lv_iload_n hx hb dX7_lay_16 rfl (lv_at hl 1 rfl) ?_
    refine x_zald (t0 := 1) hx hb hK B mA_holdsList rfl dX7_lay_17 hm (fun x7 hm => ?_)
    refine lv_if_ne (tgt := 35) hx hb dX7_lay_18 (by decide) (fun q => ?_) (fun q => ?_)
    · have hm := iff hm q
      refine lv_aload_n hx hb dX7_lay_35 rfl (lv_at hl 0 rfl) ?_
      refine x_callVv (rest := []) hx hb hml hT hown hK hA B hl.1 (c_X7_layStanding l D cI cZ a) mi_X7_layStanding mv_X7_layStanding mO_M rfl q848 ⟨rfl, rfl⟩ ⟨Nat.le_of_ble_eq_true rfl, Nat.le_of_ble_eq_true rfl⟩ rfl rfl (Nat.le_of_ble_eq_true rfl) dX7_lay_36 hm (fun σ H locs B hm => ?_)
      refine lv_iconst (v := (0 : Int32)) hx hb dX7_lay_39 (by decide) ?_
      refine lv_istore_n (lv' := [(3, .int (0 : Int32)), (0, .ref (a 0)), (1, .int w1), (2, .int w2)]) hx hb dX7_lay_40 rfl hl (by decide) rfl (fun ls hl => ?_)
      exact L41 w1 w2 5000 σ (0 : Int32) hm H locs ls B (lv_sub hl [1, 2, 3, 0] rfl)
    · have hm := ift hm q
      exact j21 σ w1 H locs ls B (lv_sub hl [1] rfl) hm
def f_X7_judge_s41 (v1 : Int32) (v2 : Int32) (r41 : Mm → Int32 → Option (Int32 × Mm)) (σ : Mm) (v3 : Int32) : Option (Int32 × Mm) :=
  (some (σ 0 0)).bind fun x1 =>
  if x1 ≤ v3 then
    some ((-5 : Int32), σ)
  else
    if v2 < 0 then
      some (((100 : Int32) + v3), σ)
    else
      (ald 4 (σ 26) v1).bind fun x2 =>
      if (lg_cmp (v2.toInt64 + v3.toInt64) (x2.toInt64)) < 0 then
        (ald 80 (σ 27) ((((20 : Int32) * v1) + v2) + v3)).bind fun x3 =>
        (ald 12 (σ 14) v3).bind fun x4 =>
        if x3 = x4 then
          r41 σ (v3 + (1 : Int32))
        else
          some (v3, σ)
      else
        some (((100 : Int32) + v3), σ)
def f_X7_judge_j21 (σ : Mm) (v1 : Int32) : Option (Int32 × Mm) :=
  (f_X7_isList v1).bind fun x5 =>
  if x5 = 0 then
    some ((-1 : Int32), σ)
  else
    some ((-11 : Int32), σ)
def f_X7_judge (σ : Mm) (w1 : Int32) (w2 : Int32) : Option (Int32 × Mm) :=
  (some (sc σ 12 (0 : Int32))).bind fun σ =>
  (f_X7_isList w1).bind fun x6 =>
  if x6 = 0 then
    f_X7_judge_j21 σ w1
  else
    (ald 4 (σ 25) w1).bind fun x7 =>
    if x7 = 0 then
      f_X7_judge_j21 σ w1
    else
      (f_X7_layStanding σ).bind fun σ =>
      wh2 (f_X7_judge_s41 w1 w2) 5000 σ (0 : Int32)
set_option maxHeartbeats 4000000 in
set_option maxRecDepth 100000 in
theorem c_X7_judge (l : Launch) (D : va_G) (cI cZ : ClassId) (a : Nat → Nat) (w1 : Int32) (w2 : Int32) : CTi l D [(cI, FieldType.int), (cZ, FieldType.boolean)] (mW cI cZ a) yX7_judge (.code yX7_judge cX7_judge 4 (some FieldType.int) :: wsL_law) ({ frames := 7, cells := 0, slots := 0, locals := 163 } : Room) [.ref (a 0), .int w1, .int w2] (fun σ => f_X7_judge σ w1 w2) := by
  refine CTi.of (by decide +kernel) (Nat.le_of_ble_eq_true rfl) ?_
  intro σ out hm p e s m below meth c A ls H locs hx hb hr hlk hml hT hown hK hA B hl
  have hown : s.vm.findClass RX7 = some m.cls := hown
  have hl : lv_has ls 4 [(0, .ref (a 0)), (1, .int w1), (2, .int w2)] := hl
  have hm : f_X7_judge σ w1 w2 = some out := hm
  unfold f_X7_judge at hm
  have L41 : ∀ (v1 : Int32) (v2 : Int32) (nn : Nat) (σ : Mm) (v3 : Int32), wh2 (f_X7_judge_s41 v1 v2) nn σ v3 = some out → ∀ (H : Heap) (locs : List Loc) (ls : Array Slot), BD D A s.heap ((mW cI cZ a) σ) H locs → lv_has ls 4 [(0, .ref (a 0)), (1, .int v1), (2, .int v2), (3, .int v3)] → W p l e ({ frames := 7, cells := 0, slots := 0, locals := 163 } : Room) s m ([.ref (a 0), .int w1, .int w2] : List Value).toArray below meth c H locs 0 0 (MQ below (QI D [(cI, FieldType.int), (cZ, FieldType.boolean)] (mW cI cZ a) A out) ([.ref (a 0), .int w1, .int w2] : List Value).toArray s 0 0 A) (F0 m 41 ls []) := by
    intro v1 v2
    refine loop2 (fun r41 ih41 σ v3 hm H locs ls B hl => ?_)
    unfold f_X7_judge_s41 at hm
    refine lv_iload_n hx hb dX7_judge_41 rfl (lv_at hl 3 rfl) ?_
    refine lv_aload_n hx hb dX7_judge_42 rfl (lv_at hl 0 rfl) ?_
    refine x_getib (T := TX7) (N := 33) hx hb hT hown hK B mI_players inlX7 rfl (by decide) q765 rfl dX7_judge_43 hm (fun x1 hm => ?_)
    refine lv_icmp_ge (tgt := 104) hx hb dX7_judge_46 (by decide) (fun q => ?_) (fun q => ?_)
    · have hm := ift hm q
      refine lv_bipush (v := (-5 : Int32)) hx hb dX7_judge_104 (by decide) ?_
      exact x_iret hx hb hr hlk hK B dX7_judge_106 hm
    · have hm := iff hm q
      refine lv_iload_n hx hb dX7_judge_49 rfl (lv_at hl 2 rfl) ?_
      refine lv_if_lt (tgt := 69) hx hb dX7_judge_50 (by decide) (fun q => ?_) (fun q => ?_)
      · have hm := ift hm q
        refine lv_bipush (v := (100 : Int32)) hx hb dX7_judge_69 (by decide) ?_
        refine lv_iload_n hx hb dX7_judge_71 rfl (lv_at hl 3 rfl) ?_
        refine lv_iadd hx hb dX7_judge_72 ?_
        exact x_iret hx hb hr hlk hK B dX7_judge_73 hm
      · have hm := iff hm q
        refine lv_iload_n hx hb dX7_judge_53 rfl (lv_at hl 2 rfl) ?_
        refine lv_i2l (v := v2.toInt64) hx hb dX7_judge_54 rfl ?_
        refine lv_iload_n hx hb dX7_judge_55 rfl (lv_at hl 3 rfl) ?_
        refine lv_i2l (v := v3.toInt64) hx hb dX7_judge_56 rfl ?_
        refine lv_ladd hx hb dX7_judge_57 ?_
        refine lv_aload_n hx hb dX7_judge_58 rfl (lv_at hl 0 rfl) ?_
        refine x_getv (T := TX7) (N := 33) hx hb hT hown hK B mV_listMany inlX7 rfl (by decide) q791 rfl dX7_judge_59 ?_
        refine lv_iload_n hx hb dX7_judge_62 rfl (lv_at hl 1 rfl) ?_
        refine x_iald (t0 := 0) hx hb hK B mA_listMany rfl dX7_judge_63 hm (fun x2 hm => ?_)
        refine lv_i2l (v := x2.toInt64) hx hb dX7_judge_64 rfl ?_
        refine W.lcmp hx hb dX7_judge_65 ?_
        refine lv_if_lt (tgt := 74) hx hb dX7_judge_66 (by decide) (fun q => ?_) (fun q => ?_)
        · have hm := ift hm q
          refine lv_aload_n hx hb dX7_judge_74 rfl (lv_at hl 0 rfl) ?_
          refine x_getv (T := TX7) (N := 33) hx hb hT hown hK B mV_listed inlX7 rfl (by decide) q792 rfl dX7_judge_75 ?_
          refine lv_bipush (v := (20 : Int32)) hx hb dX7_judge_78 (by decide) ?_
          refine lv_iload_n hx hb dX7_judge_80 rfl (lv_at hl 1 rfl) ?_
          refine lv_imul hx hb dX7_judge_81 ?_
          refine lv_iload_n hx hb dX7_judge_82 rfl (lv_at hl 2 rfl) ?_
          refine lv_iadd hx hb dX7_judge_83 ?_
          refine lv_iload_n hx hb dX7_judge_84 rfl (lv_at hl 3 rfl) ?_
          refine lv_iadd hx hb dX7_judge_85 ?_
          refine x_iald (t0 := 0) hx hb hK B mA_listed rfl dX7_judge_86 hm (fun x3 hm => ?_)
          refine lv_aload_n hx hb dX7_judge_87 rfl (lv_at hl 0 rfl) ?_
          refine x_getv (T := TX7) (N := 33) hx hb hT hown hK B mV_standing inlX7 rfl (by decide) q779 rfl dX7_judge_88 ?_
          refine lv_iload_n hx hb dX7_judge_91 rfl (lv_at hl 3 rfl) ?_
          refine x_iald (t0 := 0) hx hb hK B mA_standing rfl dX7_judge_92 hm (fun x4 hm => ?_)
          refine lv_icmp_eq (tgt := 98) hx hb dX7_judge_93 (by decide) (fun q => ?_) (fun q => ?_)
          · have hm := ift hm q
            refine lv_iinc (v := (v3 + (1 : Int32))) (lv' := [(3, .int (v3 + (1 : Int32))), (0, .ref (a 0)), (1, .int v1), (2, .int v2)]) hx hb dX7_judge_98 hl (k := 3) rfl rfl (by decide) rfl (fun ls hl => ?_)
            refine lv_goto (tgt := 41) hx hb dX7_judge_101 (by decide) ?_
            exact ih41 σ (v3 + (1 : Int32)) hm H locs ls B (lv_sub hl [1, 2, 3, 0] rfl)
          · have hm := iff hm q
            refine lv_iload_n hx hb dX7_judge_96 rfl (lv_at hl 3 rfl) ?_
            exact x_iret hx hb hr hlk hK B dX7_judge_97 hm
        · have hm := iff hm q
          refine lv_bipush (v := (100 : Int32)) hx hb dX7_judge_69 (by decide) ?_
          refine lv_iload_n hx hb dX7_judge_71 rfl (lv_at hl 3 rfl) ?_
          refine lv_iadd hx hb dX7_judge_72 ?_
          exact x_iret hx hb hr hlk hK B dX7_judge_73 hm
  have j21 : ∀ (σ : Mm) (v1 : Int32) (H : Heap) (locs : List Loc) (ls : Array Slot), BD D A s.heap ((mW cI cZ a) σ) H locs → lv_has ls 4 [(1, .int v1)] → f_X7_judge_j21 σ v1 = some out → W p l e ({ frames := 7, cells := 0, slots := 0, locals := 163 } : Room) s m ([.ref (a 0), .int w1, .int w2] : List Value).toArray below meth c H locs 0 0 (MQ below (QI D [(cI, FieldType.int), (cZ, FieldType.boolean)] (mW cI cZ a) A out) ([.ref (a 0), .int w1, .int w2] : List Value).toArray s 0 0 A) (F0 m 21 ls []) := by
    intro σ v1 H locs ls B hl hm
    unfold f_X7_judge_j21 at hm
    refine lv_iload_n hx hb dX7_judge_21 rfl (lv_at hl 0 rfl) ?_
    refine x_callSr (rest := []) hx hb hml hT hown hK hA B hl.1 (c_X7_isList l D cI cZ (mW cI cZ a) v1) mi_X7_isList q1116 q1115 ⟨rfl, rfl⟩ ⟨Nat.le_of_ble_eq_true rfl, Nat.le_of_ble_eq_true rfl⟩ rfl rfl (Nat.le_of_ble_eq_true rfl) dX7_judge_22 hm (fun x5 H locs B hm => ?_)
    refine lv_if_eq (tgt := 33) hx hb dX7_judge_25 (by decide) (fun q => ?_) (fun q => ?_)
    · have hm := ift hm q
      refine lv_iconst (v := (-1 : Int32)) hx hb dX7_judge_33 (by decide) ?_
      exact x_iret hx hb hr hlk hK B dX7_judge_34 hm
    · have hm := iff hm q
      refine lv_bipush (v := (-11 : Int32)) hx hb dX7_judge_28 (by decide) ?_
      refine lv_goto (tgt := 34) hx hb dX7_judge_30 (by decide) ?_
      exact x_iret hx hb hr hlk hK B dX7_judge_34 hm
  refine lv_aload_n hx hb dX7_judge_0 rfl (lv_at hl 0 rfl) ?_
  refine lv_iconst (v := (0 : Int32)) hx hb dX7_judge_1 (by decide) ?_
  refine x_puti (T := TX7) (N := 33) hx hb hT hown hK B mI_thrown inlX7 tyX7_ok nmX7 rfl (by decide) q777 rfl rfl rfl rfl rfl dX7_judge_2 hm (fun σ H locs B hm => ?_)
  refine lv_iload_n hx hb dX7_judge_5 rfl (lv_at hl 1 rfl) ?_
  refine x_callSr (rest := []) hx hb hml hT hown hK hA B hl.1 (c_X7_isList l D cI cZ (mW cI cZ a) w1) mi_X7_isList q1116 q1115 ⟨rfl, rfl⟩ ⟨Nat.le_of_ble_eq_true rfl, Nat.le_of_ble_eq_true rfl⟩ rfl rfl (Nat.le_of_ble_eq_true rfl) dX7_judge_6 hm (fun x6 H locs B hm => ?_)
  refine lv_if_eq (tgt := 21) hx hb dX7_judge_9 (by decide) (fun q => ?_) (fun q => ?_)
  · have hm := ift hm q
    exact j21 σ w1 H locs ls B (lv_sub hl [1] rfl) hm
  · have hm := iff hm q
    refine lv_aload_n hx hb dX7_judge_12 rfl (lv_at hl 0 rfl) ?_
    refine x_getv (T := TX7) (N := 33) hx hb hT hown hK B mV_holdsList inlX7 rfl (by decide) q790 rfl dX7_judge_13 ?_
    refine lv_iload_n hx hb dX7_judge_16 rfl (lv_at hl 1 rfl) ?_
    refine x_zald (t0 := 1) hx hb hK B mA_holdsList rfl dX7_judge_17 hm (fun x7 hm => ?_)
    refine lv_if_ne (tgt := 35) hx hb dX7_judge_18 (by decide) (fun q => ?_) (fun q => ?_)
    · have hm := iff hm q
      refine lv_aload_n hx hb dX7_judge_35 rfl (lv_at hl 0 rfl) ?_
      refine x_callVv (rest := []) hx hb hml hT hown hK hA B hl.1 (c_X7_layStanding l D cI cZ a) mi_X7_layStanding mv_X7_layStanding mO_M rfl q848 ⟨rfl, rfl⟩ ⟨Nat.le_of_ble_eq_true rfl, Nat.le_of_ble_eq_true rfl⟩ rfl rfl (Nat.le_of_ble_eq_true rfl) dX7_judge_36 hm (fun σ H locs B hm => ?_)
      refine lv_iconst (v := (0 : Int32)) hx hb dX7_judge_39 (by decide) ?_
      refine lv_istore_n (lv' := [(3, .int (0 : Int32)), (0, .ref (a 0)), (1, .int w1), (2, .int w2)]) hx hb dX7_judge_40 rfl hl (by decide) rfl (fun ls hl => ?_)
      exact L41 w1 w2 5000 σ (0 : Int32) hm H locs ls B (lv_sub hl [1, 2, 3, 0] rfl)
    · have hm := ift hm q
      exact j21 σ w1 H locs ls B (lv_sub hl [1] rfl) hm
def f_X7_carry_j17 (σ : Mm) : Option (Int32 × Mm) :=
  (some (σ 30 0)).bind fun x1 =>
  (some (sc σ 30 (x1 + (1 : Int32)))).bind fun σ =>
  if σ 32 0 = 0 then none else
  (some (σ 30 0)).bind fun x2 =>
  (ald 460 (σ 29) (x2 - (1 : Int32))).bind fun x3 =>
  some (x3, σ)
def f_X7_carry (σ : Mm) (w1 : Int32) : Option (Int32 × Mm) :=
  (some (σ 31 0)).bind fun x4 =>
  if x4 = 0 then
    f_X7_carry_j17 σ
  else
    if σ 32 0 = 0 then none else
    (some (σ 30 0)).bind fun x5 =>
    (ast 460 σ 29 x5 w1).bind fun σ =>
    f_X7_carry_j17 σ
set_option maxHeartbeats 4000000 in
set_option maxRecDepth 100000 in
theorem c_X7_carry (l : Launch) (D : va_G) (cI cZ : ClassId) (a : Nat → Nat) (w1 : Int32) : CTi l D [(cI, FieldType.int), (cZ, FieldType.boolean)] (mW cI cZ a) yX7_carry (.code yX7_carry cX7_carry 2 (some FieldType.int) :: wsL_law) ({ frames := 0, cells := 0, slots := 0, locals := 0 } : Room) [.ref (a 0), .int w1] (fun σ => f_X7_carry σ w1) := by
  refine CTi.of (by decide +kernel) (Nat.le_of_ble_eq_true rfl) ?_
  intro σ out hm p e s m below meth c A ls H locs hx hb hr hlk hml hT hown hK hA B hl
  have hown : s.vm.findClass RX7 = some m.cls := hown
  have hl : lv_has ls 2 [(0, .ref (a 0)), (1, .int w1)] := hl
  have hm : f_X7_carry σ w1 = some out := hm
  unfold f_X7_carry at hm
  have j17 : ∀ (σ : Mm)  (H : Heap) (locs : List Loc) (ls : Array Slot), BD D A s.heap ((mW cI cZ a) σ) H locs → lv_has ls 2 [(0, .ref (a 0))] → f_X7_carry_j17 σ = some out → W p l e ({ frames := 0, cells := 0, slots := 0, locals := 0 } : Room) s m ([.ref (a 0), .int w1] : List Value).toArray below meth c H locs 0 0 (MQ below (QI D [(cI, FieldType.int), (cZ, FieldType.boolean)] (mW cI cZ a) A out) ([.ref (a 0), .int w1] : List Value).toArray s 0 0 A) (F0 m 17 ls []) := by
    intro σ  H locs ls B hl hm
    unfold f_X7_carry_j17 at hm
    refine lv_aload_n hx hb dX7_carry_17 rfl (lv_at hl 0 rfl) ?_
    refine lv_dup hx hb dX7_carry_18 rfl ?_
    refine x_getib (T := TX7) (N := 33) hx hb hT hown hK B mI_place0 inlX7 rfl (by decide) q795 rfl dX7_carry_19 hm (fun x1 hm => ?_)
    refine lv_iconst (v := (1 : Int32)) hx hb dX7_carry_22 (by decide) ?_
    refine lv_iadd hx hb dX7_carry_23 ?_
    refine x_puti (T := TX7) (N := 33) hx hb hT hown hK B mI_place0 inlX7 tyX7_ok nmX7 rfl (by decide) q795 rfl rfl rfl rfl rfl dX7_carry_24 hm (fun σ H locs B hm => ?_)
    refine lv_aload_n hx hb dX7_carry_27 rfl (lv_at hl 0 rfl) ?_
    refine x_getk (T := TX7) hx hb hT hown hK B inlX7 rfl (by decide) q797 rfl dX7_carry_28 hm (fun hm => ?_)
    refine lv_aload_n hx hb dX7_carry_31 rfl (lv_at hl 0 rfl) ?_
    refine x_getib (T := TX7) (N := 33) hx hb hT hown hK B mI_place0 inlX7 rfl (by decide) q795 rfl dX7_carry_32 hm (fun x2 hm => ?_)
    refine lv_iconst (v := (1 : Int32)) hx hb dX7_carry_35 (by decide) ?_
    refine lv_isub hx hb dX7_carry_36 ?_
    refine x_iald (t0 := 0) hx hb hK B mA_imaged rfl dX7_carry_37 hm (fun x3 hm => ?_)
    exact x_iret hx hb hr hlk hK B dX7_carry_38 hm
  refine lv_aload_n hx hb dX7_carry_0 rfl (lv_at hl 0 rfl) ?_
  refine x_getib (T := TX7) (N := 33) hx hb hT hown hK B mI_isTaking inlX7 rfl (by decide) q796 rfl dX7_carry_1 hm (fun x4 hm => ?_)
  refine lv_if_eq (tgt := 17) hx hb dX7_carry_4 (by decide) (fun q => ?_) (fun q => ?_)
  · have hm := ift hm q
    exact j17 σ H locs ls B (lv_sub hl [0] rfl) hm
  · have hm := iff hm q
    refine lv_aload_n hx hb dX7_carry_7 rfl (lv_at hl 0 rfl) ?_
    refine x_getk (T := TX7) hx hb hT hown hK B inlX7 rfl (by decide) q797 rfl dX7_carry_8 hm (fun hm => ?_)
    refine lv_aload_n hx hb dX7_carry_11 rfl (lv_at hl 0 rfl) ?_
    refine x_getib (T := TX7) (N := 33) hx hb hT hown hK B mI_place0 inlX7 rfl (by decide) q795 rfl dX7_carry_12 hm (fun x5 hm => ?_)
    refine lv_iload_n hx hb dX7_carry_15 rfl (lv_at hl 1 rfl) ?_
    refine x_iast (t0 := 0) hx hb hK B mA_imaged rfl dX7_carry_16 hm (fun σ H locs B hm => ?_)
    exact j17 σ H locs ls B (lv_sub hl [0] rfl) hm
def f_X7_carryAll_s190 (r190 : Mm → Int32 → Option Mm) (σ : Mm) (v2 : Int32) : Option Mm :=
  if (120 : Int32) ≤ v2 then
    some σ
  else
    (ald 120 (σ 7) v2).bind fun x1 =>
    (f_X7_carry σ x1).bind fun z => match z with
    | (x2, σ) =>
      (ast 120 σ 7 v2 x2).bind fun σ =>
      (ald 120 (σ 8) v2).bind fun x3 =>
      (f_X7_carry σ x3).bind fun z => match z with
      | (x4, σ) =>
        (ast 120 σ 8 v2 x4).bind fun σ =>
        (ald 120 (σ 9) v2).bind fun x5 =>
        (f_X7_carry σ x5).bind fun z => match z with
        | (x6, σ) =>
          (ast 120 σ 9 v2 x6).bind fun σ =>
          r190 σ (v2 + (1 : Int32))
def f_X7_carryAll_s144 (r144 : Mm → Int32 → Option Mm) (σ : Mm) (v2 : Int32) : Option Mm :=
  if (20 : Int32) ≤ v2 then
    wh2 (f_X7_carryAll_s190) 5000 σ (0 : Int32)
  else
    (ald 20 (σ 5) v2).bind fun x7 =>
    (f_X7_carry σ x7).bind fun z => match z with
    | (x8, σ) =>
      (ast 20 σ 5 v2 x8).bind fun σ =>
      (ald 20 (σ 6) v2).bind fun x9 =>
      (f_X7_carry σ x9).bind fun z => match z with
      | (x10, σ) =>
        (ast 20 σ 6 v2 x10).bind fun σ =>
        r144 σ (v2 + (1 : Int32))
def f_X7_carryAll_s114 (r114 : Mm → Int32 → Option Mm) (σ : Mm) (v2 : Int32) : Option Mm :=
  if (9 : Int32) ≤ v2 then
    wh2 (f_X7_carryAll_s144) 5000 σ (0 : Int32)
  else
    (ald 9 (σ 11) v2).bind fun x11 =>
    (f_X7_carry σ x11).bind fun z => match z with
    | (x12, σ) =>
      (ast 9 σ 11 v2 x12).bind fun σ =>
      r114 σ (v2 + (1 : Int32))
def f_X7_carryAll_s68 (r68 : Mm → Int32 → Option Mm) (σ : Mm) (v2 : Int32) : Option Mm :=
  if (12 : Int32) ≤ v2 then
    wh2 (f_X7_carryAll_s114) 5000 σ (0 : Int32)
  else
    (ald 12 (σ 1) v2).bind fun x13 =>
    (f_X7_carry σ x13).bind fun z => match z with
    | (x14, σ) =>
      (ast 12 σ 1 v2 x14).bind fun σ =>
      (ald 12 (σ 2) v2).bind fun x15 =>
      (f_X7_carry σ x15).bind fun z => match z with
      | (x16, σ) =>
        (ast 12 σ 2 v2 x16).bind fun σ =>
        r68 σ (v2 + (1 : Int32))
def f_X7_carryAll (σ : Mm) (w1 : Int32) : Option Mm :=
  (some (sc σ 32 1)).bind fun σ =>
  (zb w1).bind fun x17 =>
  (some (sc σ 31 w1)).bind fun σ =>
  (some (sc σ 30 (0 : Int32))).bind fun σ =>
  (some (σ 0 0)).bind fun x18 =>
  (f_X7_carry σ x18).bind fun z => match z with
  | (x19, σ) =>
    (some (sc σ 0 x19)).bind fun σ =>
    (some (σ 3 0)).bind fun x20 =>
    (f_X7_carry σ x20).bind fun z => match z with
    | (x21, σ) =>
      (some (sc σ 3 x21)).bind fun σ =>
      (some (σ 4 0)).bind fun x22 =>
      (f_X7_carry σ x22).bind fun z => match z with
      | (x23, σ) =>
        (some (sc σ 4 x23)).bind fun σ =>
        (some (σ 10 0)).bind fun x24 =>
        (f_X7_carry σ x24).bind fun z => match z with
        | (x25, σ) =>
          (some (sc σ 10 x25)).bind fun σ =>
          wh2 (f_X7_carryAll_s68) 5000 σ (0 : Int32)
set_option maxHeartbeats 4000000 in
set_option maxRecDepth 100000 in
theorem c_X7_carryAll (l : Launch) (D : va_G) (cI cZ : ClassId) (a : Nat → Nat) (w1 : Int32) : CTv l D [(cI, FieldType.int), (cZ, FieldType.boolean)] (mW cI cZ a) yX7_carryAll (.code yX7_carryAll cX7_carryAll 3 (none : Option FieldType) :: wsL_law) ({ frames := 1, cells := 0, slots := 0, locals := 21 } : Room) [.ref (a 0), .int w1] (fun σ => f_X7_carryAll σ w1) := by
  refine CTv.of (by decide +kernel) (Nat.le_of_ble_eq_true rfl) ?_
  intro σ out hm p e s m below meth c A ls H locs hx hb hr hlk hml hT hown hK hA B hl
  have hown : s.vm.findClass RX7 = some m.cls := hown
  have hl : lv_has ls 3 [(0, .ref (a 0)), (1, .int w1)] := hl
  have hm : f_X7_carryAll σ w1 = some out := hm
  unfold f_X7_carryAll at hm
  have L190 : ∀ (nn : Nat) (σ : Mm) (v2 : Int32), wh2 f_X7_carryAll_s190 nn σ v2 = some out → ∀ (H : Heap) (locs : List Loc) (ls : Array Slot), BD D A s.heap ((mW cI cZ a) σ) H locs → lv_has ls 3 [(0, .ref (a 0)), (2, .int v2)] → W p l e ({ frames := 1, cells := 0, slots := 0, locals := 21 } : Room) s m ([.ref (a 0), .int w1] : List Value).toArray below meth c H locs 0 0 (MQ below (QV D [(cI, FieldType.int), (cZ, FieldType.boolean)] (mW cI cZ a) A out) ([.ref (a 0), .int w1] : List Value).toArray s 0 0 A) (F0 m 190 ls []) := by
    refine loop2 (fun r190 ih190 σ v2 hm H locs ls B hl => ?_)
    unfold f_X7_carryAll_s190 at hm
    refine lv_iload_n hx hb dX7_carryAll_190 rfl (lv_at hl 1 rfl) ?_
    refine lv_bipush (v := (120 : Int32)) hx hb dX7_carryAll_191 (by decide) ?_
    refine lv_icmp_ge (tgt := 250) hx hb dX7_carryAll_193 (by decide) (fun q => ?_) (fun q => ?_)
    · have hm := ift hm q
      exact x_vret hx hb hr hlk hK B dX7_carryAll_250 hm
    · have hm := iff hm q
      refine lv_aload_n hx hb dX7_carryAll_196 rfl (lv_at hl 0 rfl) ?_
      refine x_getv (T := TX7) (N := 33) hx hb hT hown hK B mV_whites inlX7 rfl (by decide) q772 rfl dX7_carryAll_197 ?_
      refine lv_iload_n hx hb dX7_carryAll_200 rfl (lv_at hl 1 rfl) ?_
      refine lv_aload_n hx hb dX7_carryAll_201 rfl (lv_at hl 0 rfl) ?_
      refine lv_aload_n hx hb dX7_carryAll_202 rfl (lv_at hl 0 rfl) ?_
      refine x_getv (T := TX7) (N := 33) hx hb hT hown hK B mV_whites inlX7 rfl (by decide) q772 rfl dX7_carryAll_203 ?_
      refine lv_iload_n hx hb dX7_carryAll_206 rfl (lv_at hl 1 rfl) ?_
      refine x_iald (t0 := 0) hx hb hK B mA_whites rfl dX7_carryAll_207 hm (fun x1 hm => ?_)
      refine x_callVi (rest := [.int v2, .ref (a 5)]) hx hb hml hT hown hK hA B hl.1 (c_X7_carry l D cI cZ a x1) mi_X7_carry mv_X7_carry mO_M rfl q1142 ⟨rfl, rfl⟩ ⟨Nat.le_of_ble_eq_true rfl, Nat.le_of_ble_eq_true rfl⟩ rfl rfl (Nat.le_of_ble_eq_true rfl) dX7_carryAll_208 hm (fun x2 σ H locs B hm => ?_)
      dsimp only at hm
      refine x_iast (t0 := 0) hx hb hK B mA_whites rfl dX7_carryAll_211 hm (fun σ H locs B hm => ?_)
      refine lv_aload_n hx hb dX7_carryAll_212 rfl (lv_at hl 0 rfl) ?_
      refine x_getv (T := TX7) (N := 33) hx hb hT hown hK B mV_blacks inlX7 rfl (by decide) q773 rfl dX7_carryAll_213 ?_
      refine lv_iload_n hx hb dX7_carryAll_216 rfl (lv_at hl 1 rfl) ?_
      refine lv_aload_n hx hb dX7_carryAll_217 rfl (lv_at hl 0 rfl) ?_
      refine lv_aload_n hx hb dX7_carryAll_218 rfl (lv_at hl 0 rfl) ?_
      refine x_getv (T := TX7) (N := 33) hx hb hT hown hK B mV_blacks inlX7 rfl (by decide) q773 rfl dX7_carryAll_219 ?_
      refine lv_iload_n hx hb dX7_carryAll_222 rfl (lv_at hl 1 rfl) ?_
      refine x_iald (t0 := 0) hx hb hK B mA_blacks rfl dX7_carryAll_223 hm (fun x3 hm => ?_)
      refine x_callVi (rest := [.int v2, .ref (a 6)]) hx hb hml hT hown hK hA B hl.1 (c_X7_carry l D cI cZ a x3) mi_X7_carry mv_X7_carry mO_M rfl q1142 ⟨rfl, rfl⟩ ⟨Nat.le_of_ble_eq_true rfl, Nat.le_of_ble_eq_true rfl⟩ rfl rfl (Nat.le_of_ble_eq_true rfl) dX7_carryAll_224 hm (fun x4 σ H locs B hm => ?_)
      dsimp only at hm
      refine x_iast (t0 := 0) hx hb hK B mA_blacks rfl dX7_carryAll_227 hm (fun σ H locs B hm => ?_)
      refine lv_aload_n hx hb dX7_carryAll_228 rfl (lv_at hl 0 rfl) ?_
      refine x_getv (T := TX7) (N := 33) hx hb hT hown hK B mV_results0 inlX7 rfl (by decide) q774 rfl dX7_carryAll_229 ?_
      refine lv_iload_n hx hb dX7_carryAll_232 rfl (lv_at hl 1 rfl) ?_
      refine lv_aload_n hx hb dX7_carryAll_233 rfl (lv_at hl 0 rfl) ?_
      refine lv_aload_n hx hb dX7_carryAll_234 rfl (lv_at hl 0 rfl) ?_
      refine x_getv (T := TX7) (N := 33) hx hb hT hown hK B mV_results0 inlX7 rfl (by decide) q774 rfl dX7_carryAll_235 ?_
      refine lv_iload_n hx hb dX7_carryAll_238 rfl (lv_at hl 1 rfl) ?_
      refine x_iald (t0 := 0) hx hb hK B mA_results0 rfl dX7_carryAll_239 hm (fun x5 hm => ?_)
      refine x_callVi (rest := [.int v2, .ref (a 7)]) hx hb hml hT hown hK hA B hl.1 (c_X7_carry l D cI cZ a x5) mi_X7_carry mv_X7_carry mO_M rfl q1142 ⟨rfl, rfl⟩ ⟨Nat.le_of_ble_eq_true rfl, Nat.le_of_ble_eq_true rfl⟩ rfl rfl (Nat.le_of_ble_eq_true rfl) dX7_carryAll_240 hm (fun x6 σ H locs B hm => ?_)
      dsimp only at hm
      refine x_iast (t0 := 0) hx hb hK B mA_results0 rfl dX7_carryAll_243 hm (fun σ H locs B hm => ?_)
      refine lv_iinc (v := (v2 + (1 : Int32))) (lv' := [(2, .int (v2 + (1 : Int32))), (0, .ref (a 0))]) hx hb dX7_carryAll_244 hl (k := 1) rfl rfl (by decide) rfl (fun ls hl => ?_)
      refine lv_goto (tgt := 190) hx hb dX7_carryAll_247 (by decide) ?_
      exact ih190 σ (v2 + (1 : Int32)) hm H locs ls B (lv_sub hl [1, 0] rfl)
  have L144 : ∀ (nn : Nat) (σ : Mm) (v2 : Int32), wh2 f_X7_carryAll_s144 nn σ v2 = some out → ∀ (H : Heap) (locs : List Loc) (ls : Array Slot), BD D A s.heap ((mW cI cZ a) σ) H locs → lv_has ls 3 [(0, .ref (a 0)), (2, .int v2)] → W p l e ({ frames := 1, cells := 0, slots := 0, locals := 21 } : Room) s m ([.ref (a 0), .int w1] : List Value).toArray below meth c H locs 0 0 (MQ below (QV D [(cI, FieldType.int), (cZ, FieldType.boolean)] (mW cI cZ a) A out) ([.ref (a 0), .int w1] : List Value).toArray s 0 0 A) (F0 m 144 ls []) := by
    refine loop2 (fun r144 ih144 σ v2 hm H locs ls B hl => ?_)
    unfold f_X7_carryAll_s144 at hm
    refine lv_iload_n hx hb dX7_carryAll_144 rfl (lv_at hl 1 rfl) ?_
    refine lv_bipush (v := (20 : Int32)) hx hb dX7_carryAll_145 (by decide) ?_
    refine lv_icmp_ge (tgt := 188) hx hb dX7_carryAll_147 (by decide) (fun q => ?_) (fun q => ?_)
    · have hm := ift hm q
      refine lv_iconst (v := (0 : Int32)) hx hb dX7_carryAll_188 (by decide) ?_
      refine lv_istore_n (lv' := [(2, .int (0 : Int32)), (0, .ref (a 0))]) hx hb dX7_carryAll_189 rfl hl (by decide) rfl (fun ls hl => ?_)
      exact L190 5000 σ (0 : Int32) hm H locs ls B (lv_sub hl [1, 0] rfl)
    · have hm := iff hm q
      refine lv_aload_n hx hb dX7_carryAll_150 rfl (lv_at hl 0 rfl) ?_
      refine x_getv (T := TX7) (N := 33) hx hb hT hown hK B mV_boardMany inlX7 rfl (by decide) q770 rfl dX7_carryAll_151 ?_
      refine lv_iload_n hx hb dX7_carryAll_154 rfl (lv_at hl 1 rfl) ?_
      refine lv_aload_n hx hb dX7_carryAll_155 rfl (lv_at hl 0 rfl) ?_
      refine lv_aload_n hx hb dX7_carryAll_156 rfl (lv_at hl 0 rfl) ?_
      refine x_getv (T := TX7) (N := 33) hx hb hT hown hK B mV_boardMany inlX7 rfl (by decide) q770 rfl dX7_carryAll_157 ?_
      refine lv_iload_n hx hb dX7_carryAll_160 rfl (lv_at hl 1 rfl) ?_
      refine x_iald (t0 := 0) hx hb hK B mA_boardMany rfl dX7_carryAll_161 hm (fun x7 hm => ?_)
      refine x_callVi (rest := [.int v2, .ref (a 3)]) hx hb hml hT hown hK hA B hl.1 (c_X7_carry l D cI cZ a x7) mi_X7_carry mv_X7_carry mO_M rfl q1142 ⟨rfl, rfl⟩ ⟨Nat.le_of_ble_eq_true rfl, Nat.le_of_ble_eq_true rfl⟩ rfl rfl (Nat.le_of_ble_eq_true rfl) dX7_carryAll_162 hm (fun x8 σ H locs B hm => ?_)
      dsimp only at hm
      refine x_iast (t0 := 0) hx hb hK B mA_boardMany rfl dX7_carryAll_165 hm (fun σ H locs B hm => ?_)
      refine lv_aload_n hx hb dX7_carryAll_166 rfl (lv_at hl 0 rfl) ?_
      refine x_getv (T := TX7) (N := 33) hx hb hT hown hK B mV_byes inlX7 rfl (by decide) q771 rfl dX7_carryAll_167 ?_
      refine lv_iload_n hx hb dX7_carryAll_170 rfl (lv_at hl 1 rfl) ?_
      refine lv_aload_n hx hb dX7_carryAll_171 rfl (lv_at hl 0 rfl) ?_
      refine lv_aload_n hx hb dX7_carryAll_172 rfl (lv_at hl 0 rfl) ?_
      refine x_getv (T := TX7) (N := 33) hx hb hT hown hK B mV_byes inlX7 rfl (by decide) q771 rfl dX7_carryAll_173 ?_
      refine lv_iload_n hx hb dX7_carryAll_176 rfl (lv_at hl 1 rfl) ?_
      refine x_iald (t0 := 0) hx hb hK B mA_byes rfl dX7_carryAll_177 hm (fun x9 hm => ?_)
      refine x_callVi (rest := [.int v2, .ref (a 4)]) hx hb hml hT hown hK hA B hl.1 (c_X7_carry l D cI cZ a x9) mi_X7_carry mv_X7_carry mO_M rfl q1142 ⟨rfl, rfl⟩ ⟨Nat.le_of_ble_eq_true rfl, Nat.le_of_ble_eq_true rfl⟩ rfl rfl (Nat.le_of_ble_eq_true rfl) dX7_carryAll_178 hm (fun x10 σ H locs B hm => ?_)
      dsimp only at hm
      refine x_iast (t0 := 0) hx hb hK B mA_byes rfl dX7_carryAll_181 hm (fun σ H locs B hm => ?_)
      refine lv_iinc (v := (v2 + (1 : Int32))) (lv' := [(2, .int (v2 + (1 : Int32))), (0, .ref (a 0))]) hx hb dX7_carryAll_182 hl (k := 1) rfl rfl (by decide) rfl (fun ls hl => ?_)
      refine lv_goto (tgt := 144) hx hb dX7_carryAll_185 (by decide) ?_
      exact ih144 σ (v2 + (1 : Int32)) hm H locs ls B (lv_sub hl [1, 0] rfl)
  have L114 : ∀ (nn : Nat) (σ : Mm) (v2 : Int32), wh2 f_X7_carryAll_s114 nn σ v2 = some out → ∀ (H : Heap) (locs : List Loc) (ls : Array Slot), BD D A s.heap ((mW cI cZ a) σ) H locs → lv_has ls 3 [(0, .ref (a 0)), (2, .int v2)] → W p l e ({ frames := 1, cells := 0, slots := 0, locals := 21 } : Room) s m ([.ref (a 0), .int w1] : List Value).toArray below meth c H locs 0 0 (MQ below (QV D [(cI, FieldType.int), (cZ, FieldType.boolean)] (mW cI cZ a) A out) ([.ref (a 0), .int w1] : List Value).toArray s 0 0 A) (F0 m 114 ls []) := by
    refine loop2 (fun r114 ih114 σ v2 hm H locs ls B hl => ?_)
    unfold f_X7_carryAll_s114 at hm
    refine lv_iload_n hx hb dX7_carryAll_114 rfl (lv_at hl 1 rfl) ?_
    refine lv_bipush (v := (9 : Int32)) hx hb dX7_carryAll_115 (by decide) ?_
    refine lv_icmp_ge (tgt := 142) hx hb dX7_carryAll_117 (by decide) (fun q => ?_) (fun q => ?_)
    · have hm := ift hm q
      refine lv_iconst (v := (0 : Int32)) hx hb dX7_carryAll_142 (by decide) ?_
      refine lv_istore_n (lv' := [(2, .int (0 : Int32)), (0, .ref (a 0))]) hx hb dX7_carryAll_143 rfl hl (by decide) rfl (fun ls hl => ?_)
      exact L144 5000 σ (0 : Int32) hm H locs ls B (lv_sub hl [1, 0] rfl)
    · have hm := iff hm q
      refine lv_aload_n hx hb dX7_carryAll_120 rfl (lv_at hl 0 rfl) ?_
      refine x_getv (T := TX7) (N := 33) hx hb hT hown hK B mV_ties inlX7 rfl (by decide) q776 rfl dX7_carryAll_121 ?_
      refine lv_iload_n hx hb dX7_carryAll_124 rfl (lv_at hl 1 rfl) ?_
      refine lv_aload_n hx hb dX7_carryAll_125 rfl (lv_at hl 0 rfl) ?_
      refine lv_aload_n hx hb dX7_carryAll_126 rfl (lv_at hl 0 rfl) ?_
      refine x_getv (T := TX7) (N := 33) hx hb hT hown hK B mV_ties inlX7 rfl (by decide) q776 rfl dX7_carryAll_127 ?_
      refine lv_iload_n hx hb dX7_carryAll_130 rfl (lv_at hl 1 rfl) ?_
      refine x_iald (t0 := 0) hx hb hK B mA_ties rfl dX7_carryAll_131 hm (fun x11 hm => ?_)
      refine x_callVi (rest := [.int v2, .ref (a 8)]) hx hb hml hT hown hK hA B hl.1 (c_X7_carry l D cI cZ a x11) mi_X7_carry mv_X7_carry mO_M rfl q1142 ⟨rfl, rfl⟩ ⟨Nat.le_of_ble_eq_true rfl, Nat.le_of_ble_eq_true rfl⟩ rfl rfl (Nat.le_of_ble_eq_true rfl) dX7_carryAll_132 hm (fun x12 σ H locs B hm => ?_)
      dsimp only at hm
      refine x_iast (t0 := 0) hx hb hK B mA_ties rfl dX7_carryAll_135 hm (fun σ H locs B hm => ?_)
      refine lv_iinc (v := (v2 + (1 : Int32))) (lv' := [(2, .int (v2 + (1 : Int32))), (0, .ref (a 0))]) hx hb dX7_carryAll_136 hl (k := 1) rfl rfl (by decide) rfl (fun ls hl => ?_)
      refine lv_goto (tgt := 114) hx hb dX7_carryAll_139 (by decide) ?_
      exact ih114 σ (v2 + (1 : Int32)) hm H locs ls B (lv_sub hl [1, 0] rfl)
  have L68 : ∀ (nn : Nat) (σ : Mm) (v2 : Int32), wh2 f_X7_carryAll_s68 nn σ v2 = some out → ∀ (H : Heap) (locs : List Loc) (ls : Array Slot), BD D A s.heap ((mW cI cZ a) σ) H locs → lv_has ls 3 [(0, .ref (a 0)), (2, .int v2)] → W p l e ({ frames := 1, cells := 0, slots := 0, locals := 21 } : Room) s m ([.ref (a 0), .int w1] : List Value).toArray below meth c H locs 0 0 (MQ below (QV D [(cI, FieldType.int), (cZ, FieldType.boolean)] (mW cI cZ a) A out) ([.ref (a 0), .int w1] : List Value).toArray s 0 0 A) (F0 m 68 ls []) := by
    refine loop2 (fun r68 ih68 σ v2 hm H locs ls B hl => ?_)
    unfold f_X7_carryAll_s68 at hm
    refine lv_iload_n hx hb dX7_carryAll_68 rfl (lv_at hl 1 rfl) ?_
    refine lv_bipush (v := (12 : Int32)) hx hb dX7_carryAll_69 (by decide) ?_
    refine lv_icmp_ge (tgt := 112) hx hb dX7_carryAll_71 (by decide) (fun q => ?_) (fun q => ?_)
    · have hm := ift hm q
      refine lv_iconst (v := (0 : Int32)) hx hb dX7_carryAll_112 (by decide) ?_
      refine lv_istore_n (lv' := [(2, .int (0 : Int32)), (0, .ref (a 0))]) hx hb dX7_carryAll_113 rfl hl (by decide) rfl (fun ls hl => ?_)
      exact L114 5000 σ (0 : Int32) hm H locs ls B (lv_sub hl [1, 0] rfl)
    · have hm := iff hm q
      refine lv_aload_n hx hb dX7_carryAll_74 rfl (lv_at hl 0 rfl) ?_
      refine x_getv (T := TX7) (N := 33) hx hb hT hown hK B mV_ratings inlX7 rfl (by decide) q766 rfl dX7_carryAll_75 ?_
      refine lv_iload_n hx hb dX7_carryAll_78 rfl (lv_at hl 1 rfl) ?_
      refine lv_aload_n hx hb dX7_carryAll_79 rfl (lv_at hl 0 rfl) ?_
      refine lv_aload_n hx hb dX7_carryAll_80 rfl (lv_at hl 0 rfl) ?_
      refine x_getv (T := TX7) (N := 33) hx hb hT hown hK B mV_ratings inlX7 rfl (by decide) q766 rfl dX7_carryAll_81 ?_
      refine lv_iload_n hx hb dX7_carryAll_84 rfl (lv_at hl 1 rfl) ?_
      refine x_iald (t0 := 0) hx hb hK B mA_ratings rfl dX7_carryAll_85 hm (fun x13 hm => ?_)
      refine x_callVi (rest := [.int v2, .ref (a 1)]) hx hb hml hT hown hK hA B hl.1 (c_X7_carry l D cI cZ a x13) mi_X7_carry mv_X7_carry mO_M rfl q1142 ⟨rfl, rfl⟩ ⟨Nat.le_of_ble_eq_true rfl, Nat.le_of_ble_eq_true rfl⟩ rfl rfl (Nat.le_of_ble_eq_true rfl) dX7_carryAll_86 hm (fun x14 σ H locs B hm => ?_)
      dsimp only at hm
      refine x_iast (t0 := 0) hx hb hK B mA_ratings rfl dX7_carryAll_89 hm (fun σ H locs B hm => ?_)
      refine lv_aload_n hx hb dX7_carryAll_90 rfl (lv_at hl 0 rfl) ?_
      refine x_getv (T := TX7) (N := 33) hx hb hT hown hK B mV_isIn inlX7 rfl (by decide) q767 rfl dX7_carryAll_91 ?_
      refine lv_iload_n hx hb dX7_carryAll_94 rfl (lv_at hl 1 rfl) ?_
      refine lv_aload_n hx hb dX7_carryAll_95 rfl (lv_at hl 0 rfl) ?_
      refine lv_aload_n hx hb dX7_carryAll_96 rfl (lv_at hl 0 rfl) ?_
      refine x_getv (T := TX7) (N := 33) hx hb hT hown hK B mV_isIn inlX7 rfl (by decide) q767 rfl dX7_carryAll_97 ?_
      refine lv_iload_n hx hb dX7_carryAll_100 rfl (lv_at hl 1 rfl) ?_
      refine x_iald (t0 := 0) hx hb hK B mA_isIn rfl dX7_carryAll_101 hm (fun x15 hm => ?_)
      refine x_callVi (rest := [.int v2, .ref (a 2)]) hx hb hml hT hown hK hA B hl.1 (c_X7_carry l D cI cZ a x15) mi_X7_carry mv_X7_carry mO_M rfl q1142 ⟨rfl, rfl⟩ ⟨Nat.le_of_ble_eq_true rfl, Nat.le_of_ble_eq_true rfl⟩ rfl rfl (Nat.le_of_ble_eq_true rfl) dX7_carryAll_102 hm (fun x16 σ H locs B hm => ?_)
      dsimp only at hm
      refine x_iast (t0 := 0) hx hb hK B mA_isIn rfl dX7_carryAll_105 hm (fun σ H locs B hm => ?_)
      refine lv_iinc (v := (v2 + (1 : Int32))) (lv' := [(2, .int (v2 + (1 : Int32))), (0, .ref (a 0))]) hx hb dX7_carryAll_106 hl (k := 1) rfl rfl (by decide) rfl (fun ls hl => ?_)
      refine lv_goto (tgt := 68) hx hb dX7_carryAll_109 (by decide) ?_
      exact ih68 σ (v2 + (1 : Int32)) hm H locs ls B (lv_sub hl [1, 0] rfl)
  refine lv_aload_n hx hb dX7_carryAll_0 rfl (lv_at hl 0 rfl) ?_
  refine lv_aload_n hx hb dX7_carryAll_1 rfl (lv_at hl 0 rfl) ?_
  refine x_getv (T := TX7) (N := 33) hx hb hT hown hK B mV_imaged inlX7 rfl (by decide) q794 rfl dX7_carryAll_2 ?_
  refine x_putk (T := TX7) hx hb hT hown hK B inlX7 tyX7_ok nmX7 rfl (by decide) q797 rfl rfl rfl dX7_carryAll_5 hm (fun σ H locs B hm => ?_)
  refine lv_aload_n hx hb dX7_carryAll_8 rfl (lv_at hl 0 rfl) ?_
  refine lv_iload_n hx hb dX7_carryAll_9 rfl (lv_at hl 1 rfl) ?_
  obtain ⟨x17, hz, hm⟩ := Option.bind_eq_some_iff.mp hm
  obtain ⟨hz1, hz2, -⟩ := zb_all hz
  refine x_puti (T := TX7) (N := 33) hx hb hT hown hK B mI_isTaking inlX7 tyX7_ok nmX7 rfl (by decide) q796 rfl rfl rfl hz1 hz2 dX7_carryAll_10 hm (fun σ H locs B hm => ?_)
  refine lv_aload_n hx hb dX7_carryAll_13 rfl (lv_at hl 0 rfl) ?_
  refine lv_iconst (v := (0 : Int32)) hx hb dX7_carryAll_14 (by decide) ?_
  refine x_puti (T := TX7) (N := 33) hx hb hT hown hK B mI_place0 inlX7 tyX7_ok nmX7 rfl (by decide) q795 rfl rfl rfl rfl rfl dX7_carryAll_15 hm (fun σ H locs B hm => ?_)
  refine lv_aload_n hx hb dX7_carryAll_18 rfl (lv_at hl 0 rfl) ?_
  refine lv_aload_n hx hb dX7_carryAll_19 rfl (lv_at hl 0 rfl) ?_
  refine lv_aload_n hx hb dX7_carryAll_20 rfl (lv_at hl 0 rfl) ?_
  refine x_getib (T := TX7) (N := 33) hx hb hT hown hK B mI_players inlX7 rfl (by decide) q765 rfl dX7_carryAll_21 hm (fun x18 hm => ?_)
  refine x_callVi (rest := [.ref (a 0)]) hx hb hml hT hown hK hA B hl.1 (c_X7_carry l D cI cZ a x18) mi_X7_carry mv_X7_carry mO_M rfl q1142 ⟨rfl, rfl⟩ ⟨Nat.le_of_ble_eq_true rfl, Nat.le_of_ble_eq_true rfl⟩ rfl rfl (Nat.le_of_ble_eq_true rfl) dX7_carryAll_24 hm (fun x19 σ H locs B hm => ?_)
  dsimp only at hm
  refine x_puti (T := TX7) (N := 33) hx hb hT hown hK B mI_players inlX7 tyX7_ok nmX7 rfl (by decide) q765 rfl rfl rfl rfl rfl dX7_carryAll_27 hm (fun σ H locs B hm => ?_)
  refine lv_aload_n hx hb dX7_carryAll_30 rfl (lv_at hl 0 rfl) ?_
  refine lv_aload_n hx hb dX7_carryAll_31 rfl (lv_at hl 0 rfl) ?_
  refine lv_aload_n hx hb dX7_carryAll_32 rfl (lv_at hl 0 rfl) ?_
  refine x_getib (T := TX7) (N := 33) hx hb hT hown hK B mI_rounds inlX7 rfl (by decide) q768 rfl dX7_carryAll_33 hm (fun x20 hm => ?_)
  refine x_callVi (rest := [.ref (a 0)]) hx hb hml hT hown hK hA B hl.1 (c_X7_carry l D cI cZ a x20) mi_X7_carry mv_X7_carry mO_M rfl q1142 ⟨rfl, rfl⟩ ⟨Nat.le_of_ble_eq_true rfl, Nat.le_of_ble_eq_true rfl⟩ rfl rfl (Nat.le_of_ble_eq_true rfl) dX7_carryAll_36 hm (fun x21 σ H locs B hm => ?_)
  dsimp only at hm
  refine x_puti (T := TX7) (N := 33) hx hb hT hown hK B mI_rounds inlX7 tyX7_ok nmX7 rfl (by decide) q768 rfl rfl rfl rfl rfl dX7_carryAll_39 hm (fun σ H locs B hm => ?_)
  refine lv_aload_n hx hb dX7_carryAll_42 rfl (lv_at hl 0 rfl) ?_
  refine lv_aload_n hx hb dX7_carryAll_43 rfl (lv_at hl 0 rfl) ?_
  refine lv_aload_n hx hb dX7_carryAll_44 rfl (lv_at hl 0 rfl) ?_
  refine x_getib (T := TX7) (N := 33) hx hb hT hown hK B mI_isOpen inlX7 rfl (by decide) q769 rfl dX7_carryAll_45 hm (fun x22 hm => ?_)
  refine x_callVi (rest := [.ref (a 0)]) hx hb hml hT hown hK hA B hl.1 (c_X7_carry l D cI cZ a x22) mi_X7_carry mv_X7_carry mO_M rfl q1142 ⟨rfl, rfl⟩ ⟨Nat.le_of_ble_eq_true rfl, Nat.le_of_ble_eq_true rfl⟩ rfl rfl (Nat.le_of_ble_eq_true rfl) dX7_carryAll_48 hm (fun x23 σ H locs B hm => ?_)
  dsimp only at hm
  refine x_puti (T := TX7) (N := 33) hx hb hT hown hK B mI_isOpen inlX7 tyX7_ok nmX7 rfl (by decide) q769 rfl rfl rfl rfl rfl dX7_carryAll_51 hm (fun σ H locs B hm => ?_)
  refine lv_aload_n hx hb dX7_carryAll_54 rfl (lv_at hl 0 rfl) ?_
  refine lv_aload_n hx hb dX7_carryAll_55 rfl (lv_at hl 0 rfl) ?_
  refine lv_aload_n hx hb dX7_carryAll_56 rfl (lv_at hl 0 rfl) ?_
  refine x_getib (T := TX7) (N := 33) hx hb hT hown hK B mI_tieMany inlX7 rfl (by decide) q775 rfl dX7_carryAll_57 hm (fun x24 hm => ?_)
  refine x_callVi (rest := [.ref (a 0)]) hx hb hml hT hown hK hA B hl.1 (c_X7_carry l D cI cZ a x24) mi_X7_carry mv_X7_carry mO_M rfl q1142 ⟨rfl, rfl⟩ ⟨Nat.le_of_ble_eq_true rfl, Nat.le_of_ble_eq_true rfl⟩ rfl rfl (Nat.le_of_ble_eq_true rfl) dX7_carryAll_60 hm (fun x25 σ H locs B hm => ?_)
  dsimp only at hm
  refine x_puti (T := TX7) (N := 33) hx hb hT hown hK B mI_tieMany inlX7 tyX7_ok nmX7 rfl (by decide) q775 rfl rfl rfl rfl rfl dX7_carryAll_63 hm (fun σ H locs B hm => ?_)
  refine lv_iconst (v := (0 : Int32)) hx hb dX7_carryAll_66 (by decide) ?_
  refine lv_istore_n (lv' := [(2, .int (0 : Int32)), (0, .ref (a 0)), (1, .int w1)]) hx hb dX7_carryAll_67 rfl hl (by decide) rfl (fun ls hl => ?_)
  exact L68 5000 σ (0 : Int32) hm H locs ls B (lv_sub hl [1, 0] rfl)
def f_X7_image (σ : Mm) : Option (Int32 × Mm) :=
  (some (sc σ 12 (0 : Int32))).bind fun σ =>
  (some (sc σ 28 (1 : Int32))).bind fun σ =>
  (f_X7_carryAll σ (1 : Int32)).bind fun σ =>
  (some (σ 3 0)).bind fun x1 =>
  some (x1, σ)
set_option maxHeartbeats 4000000 in
set_option maxRecDepth 100000 in
theorem c_X7_image (l : Launch) (D : va_G) (cI cZ : ClassId) (a : Nat → Nat) : CTi l D [(cI, FieldType.int), (cZ, FieldType.boolean)] (mW cI cZ a) yX7_image (.code yX7_image cX7_image 1 (some FieldType.int) :: wsL_law) ({ frames := 2, cells := 0, slots := 0, locals := 43 } : Room) [.ref (a 0)] (fun σ => f_X7_image σ) := by
  refine CTi.of (by decide +kernel) (Nat.le_of_ble_eq_true rfl) ?_
  intro σ out hm p e s m below meth c A ls H locs hx hb hr hlk hml hT hown hK hA B hl
  have hown : s.vm.findClass RX7 = some m.cls := hown
  have hl : lv_has ls 1 [(0, .ref (a 0))] := hl
  have hm : f_X7_image σ = some out := hm
  unfold f_X7_image at hm
  refine lv_aload_n hx hb dX7_image_0 rfl (lv_at hl 0 rfl) ?_
  refine lv_iconst (v := (0 : Int32)) hx hb dX7_image_1 (by decide) ?_
  refine x_puti (T := TX7) (N := 33) hx hb hT hown hK B mI_thrown inlX7 tyX7_ok nmX7 rfl (by decide) q777 rfl rfl rfl rfl rfl dX7_image_2 hm (fun σ H locs B hm => ?_)
  refine lv_aload_n hx hb dX7_image_5 rfl (lv_at hl 0 rfl) ?_
  refine lv_iconst (v := (1 : Int32)) hx hb dX7_image_6 (by decide) ?_
  refine x_puti (T := TX7) (N := 33) hx hb hT hown hK B mI_hasImage inlX7 tyX7_ok nmX7 rfl (by decide) q793 rfl rfl rfl rfl rfl dX7_image_7 hm (fun σ H locs B hm => ?_)
  refine lv_aload_n hx hb dX7_image_10 rfl (lv_at hl 0 rfl) ?_
  refine lv_iconst (v := (1 : Int32)) hx hb dX7_image_11 (by decide) ?_
  refine x_callVv (rest := []) hx hb hml hT hown hK hA B hl.1 (c_X7_carryAll l D cI cZ a (1 : Int32)) mi_X7_carryAll mv_X7_carryAll mO_M rfl q1139 ⟨rfl, rfl⟩ ⟨Nat.le_of_ble_eq_true rfl, Nat.le_of_ble_eq_true rfl⟩ rfl rfl (Nat.le_of_ble_eq_true rfl) dX7_image_12 hm (fun σ H locs B hm => ?_)
  refine lv_aload_n hx hb dX7_image_15 rfl (lv_at hl 0 rfl) ?_
  refine x_getib (T := TX7) (N := 33) hx hb hT hown hK B mI_rounds inlX7 rfl (by decide) q768 rfl dX7_image_16 hm (fun x1 hm => ?_)
  exact x_iret hx hb hr hlk hK B dX7_image_19 hm
def f_X7_undo (σ : Mm) : Option (Int32 × Mm) :=
  (some (sc σ 12 (0 : Int32))).bind fun σ =>
  (some (σ 28 0)).bind fun x1 =>
  if x1 = 0 then
    some ((-3 : Int32), σ)
  else
    (f_X7_carryAll σ (0 : Int32)).bind fun σ =>
    (some (σ 3 0)).bind fun x2 =>
    some (x2, σ)
set_option maxHeartbeats 4000000 in
set_option maxRecDepth 100000 in
theorem c_X7_undo (l : Launch) (D : va_G) (cI cZ : ClassId) (a : Nat → Nat) : CTi l D [(cI, FieldType.int), (cZ, FieldType.boolean)] (mW cI cZ a) yX7_undo (.code yX7_undo cX7_undo 1 (some FieldType.int) :: wsL_law) ({ frames := 2, cells := 0, slots := 0, locals := 43 } : Room) [.ref (a 0)] (fun σ => f_X7_undo σ) := by
  refine CTi.of (by decide +kernel) (Nat.le_of_ble_eq_true rfl) ?_
  intro σ out hm p e s m below meth c A ls H locs hx hb hr hlk hml hT hown hK hA B hl
  have hown : s.vm.findClass RX7 = some m.cls := hown
  have hl : lv_has ls 1 [(0, .ref (a 0))] := hl
  have hm : f_X7_undo σ = some out := hm
  unfold f_X7_undo at hm
  refine lv_aload_n hx hb dX7_undo_0 rfl (lv_at hl 0 rfl) ?_
  refine lv_iconst (v := (0 : Int32)) hx hb dX7_undo_1 (by decide) ?_
  refine x_puti (T := TX7) (N := 33) hx hb hT hown hK B mI_thrown inlX7 tyX7_ok nmX7 rfl (by decide) q777 rfl rfl rfl rfl rfl dX7_undo_2 hm (fun σ H locs B hm => ?_)
  refine lv_aload_n hx hb dX7_undo_5 rfl (lv_at hl 0 rfl) ?_
  refine x_getib (T := TX7) (N := 33) hx hb hT hown hK B mI_hasImage inlX7 rfl (by decide) q793 rfl dX7_undo_6 hm (fun x1 hm => ?_)
  refine lv_if_ne (tgt := 15) hx hb dX7_undo_9 (by decide) (fun q => ?_) (fun q => ?_)
  · have hm := iff hm q
    refine lv_aload_n hx hb dX7_undo_15 rfl (lv_at hl 0 rfl) ?_
    refine lv_iconst (v := (0 : Int32)) hx hb dX7_undo_16 (by decide) ?_
    refine x_callVv (rest := []) hx hb hml hT hown hK hA B hl.1 (c_X7_carryAll l D cI cZ a (0 : Int32)) mi_X7_carryAll mv_X7_carryAll mO_M rfl q1139 ⟨rfl, rfl⟩ ⟨Nat.le_of_ble_eq_true rfl, Nat.le_of_ble_eq_true rfl⟩ rfl rfl (Nat.le_of_ble_eq_true rfl) dX7_undo_17 hm (fun σ H locs B hm => ?_)
    refine lv_aload_n hx hb dX7_undo_20 rfl (lv_at hl 0 rfl) ?_
    refine x_getib (T := TX7) (N := 33) hx hb hT hown hK B mI_rounds inlX7 rfl (by decide) q768 rfl dX7_undo_21 hm (fun x2 hm => ?_)
    exact x_iret hx hb hr hlk hK B dX7_undo_24 hm
  · have hm := ift hm q
    refine lv_bipush (v := (-3 : Int32)) hx hb dX7_undo_12 (by decide) ?_
    exact x_iret hx hb hr hlk hK B dX7_undo_14 hm
