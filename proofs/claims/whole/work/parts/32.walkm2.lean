def f_X7_least (σ : Mm) : Option (Int32 × Mm) :=
  (some (sc σ 12 (0 : Int32))).bind fun σ =>
  (f_X7_wrongPairing σ).bind fun x1 =>
  if 0 ≤ x1 then
    (f_X7_layBests σ).bind fun σ =>
    (some (σ 15 0)).bind fun x2 =>
    (ald 4096 (σ 19) (((1 : Int32) <<< (x2 &&& 31)) - (1 : Int32))).bind fun x3 =>
    if x3 < (1000000 : Int32) then
      some (x3, σ)
    else
      some ((-9 : Int32), σ)
  else
    (f_X7_wrongPairing σ).bind fun x4 =>
    some (x4, σ)
set_option maxHeartbeats 4000000 in
set_option maxRecDepth 100000 in
theorem c_X7_least (l : Launch) (D : va_G) (cI cZ : ClassId) (a : Nat → Nat) : CTi l D [(cI, FieldType.int), (cZ, FieldType.boolean)] (mW cI cZ a) yX7_least (.code yX7_least cX7_least 2 (some FieldType.int) :: wsL_law) ({ frames := 9, cells := 0, slots := 0, locals := 211 } : Room) [.ref (a 0)] (fun σ => f_X7_least σ) := by
  refine CTi.of (by decide +kernel) (Nat.le_of_ble_eq_true rfl) ?_
  intro σ out hm p e s m below meth c A ls H locs hx hb hr hlk hml hT hown hK hA B hl
  have hown : s.vm.findClass RX7 = some m.cls := hown
  have hl : lv_has ls 2 [(0, .ref (a 0))] := hl
  have hm : f_X7_least σ = some out := hm
  unfold f_X7_least at hm
  refine lv_aload_n hx hb dX7_least_0 rfl (lv_at hl 0 rfl) ?_
  refine lv_iconst (v := (0 : Int32)) hx hb dX7_least_1 (by decide) ?_
  refine x_puti (T := TX7) (N := 33) hx hb hT hown hK B mI_thrown inlX7 tyX7_ok nmX7 rfl (by decide) q777 rfl rfl rfl rfl rfl dX7_least_2 hm (fun σ H locs B hm => ?_)
  refine lv_aload_n hx hb dX7_least_5 rfl (lv_at hl 0 rfl) ?_
  refine x_callVr (rest := []) hx hb hml hT hown hK hA B hl.1 (c_X7_wrongPairing l D cI cZ a) mi_X7_wrongPairing mv_X7_wrongPairing mO_M rfl q836 ⟨rfl, rfl⟩ ⟨Nat.le_of_ble_eq_true rfl, Nat.le_of_ble_eq_true rfl⟩ rfl rfl (Nat.le_of_ble_eq_true rfl) dX7_least_6 hm (fun x1 H locs B hm => ?_)
  refine lv_if_ge (tgt := 17) hx hb dX7_least_9 (by decide) (fun q => ?_) (fun q => ?_)
  · have hm := ift hm q
    refine lv_aload_n hx hb dX7_least_17 rfl (lv_at hl 0 rfl) ?_
    refine x_callVv (rest := []) hx hb hml hT hown hK hA B hl.1 (c_X7_layBests l D cI cZ a) mi_X7_layBests mv_X7_layBests mO_M rfl q842 ⟨rfl, rfl⟩ ⟨Nat.le_of_ble_eq_true rfl, Nat.le_of_ble_eq_true rfl⟩ rfl rfl (Nat.le_of_ble_eq_true rfl) dX7_least_18 hm (fun σ H locs B hm => ?_)
    refine lv_aload_n hx hb dX7_least_21 rfl (lv_at hl 0 rfl) ?_
    refine x_getv (T := TX7) (N := 33) hx hb hT hown hK B mV_bests inlX7 rfl (by decide) q784 rfl dX7_least_22 ?_
    refine lv_iconst (v := (1 : Int32)) hx hb dX7_least_25 (by decide) ?_
    refine lv_aload_n hx hb dX7_least_26 rfl (lv_at hl 0 rfl) ?_
    refine x_getib (T := TX7) (N := 33) hx hb hT hown hK B mI_paired inlX7 rfl (by decide) q780 rfl dX7_least_27 hm (fun x2 hm => ?_)
    refine lv_ishl hx hb dX7_least_30 ?_
    refine lv_iconst (v := (1 : Int32)) hx hb dX7_least_31 (by decide) ?_
    refine lv_isub hx hb dX7_least_32 ?_
    refine x_iald (t0 := 0) hx hb hK B mA_bests rfl dX7_least_33 hm (fun x3 hm => ?_)
    refine lv_istore_n (lv' := [(1, .int x3), (0, .ref (a 0))]) hx hb dX7_least_34 rfl hl (by decide) rfl (fun ls hl => ?_)
    refine lv_iload_n hx hb dX7_least_35 rfl (lv_at hl 0 rfl) ?_
    refine lv_ldc (v := (1000000 : Int32)) hx hb hown (hT _ q875) dX7_least_36 ?_
    refine lv_icmp_lt (tgt := 46) hx hb dX7_least_38 (by decide) (fun q => ?_) (fun q => ?_)
    · have hm := ift hm q
      refine lv_iload_n hx hb dX7_least_46 rfl (lv_at hl 0 rfl) ?_
      exact x_iret hx hb hr hlk hK B dX7_least_47 hm
    · have hm := iff hm q
      refine lv_bipush (v := (-9 : Int32)) hx hb dX7_least_41 (by decide) ?_
      refine lv_goto (tgt := 47) hx hb dX7_least_43 (by decide) ?_
      exact x_iret hx hb hr hlk hK B dX7_least_47 hm
  · have hm := iff hm q
    refine lv_aload_n hx hb dX7_least_12 rfl (lv_at hl 0 rfl) ?_
    refine x_callVr (rest := []) hx hb hml hT hown hK hA B hl.1 (c_X7_wrongPairing l D cI cZ a) mi_X7_wrongPairing mv_X7_wrongPairing mO_M rfl q836 ⟨rfl, rfl⟩ ⟨Nat.le_of_ble_eq_true rfl, Nat.le_of_ble_eq_true rfl⟩ rfl rfl (Nat.le_of_ble_eq_true rfl) dX7_least_13 hm (fun x4 H locs B hm => ?_)
    exact x_iret hx hb hr hlk hK B dX7_least_16 hm
def f_X7_ways (σ : Mm) : Option (Int32 × Mm) :=
  (some (sc σ 12 (0 : Int32))).bind fun σ =>
  (f_X7_wrongPairing σ).bind fun x1 =>
  if 0 ≤ x1 then
    (f_X7_layBests σ).bind fun σ =>
    (some (σ 15 0)).bind fun x2 =>
    (ald 4096 (σ 20) (((1 : Int32) <<< (x2 &&& 31)) - (1 : Int32))).bind fun x3 =>
    some (x3, σ)
  else
    (f_X7_wrongPairing σ).bind fun x4 =>
    some (x4, σ)
set_option maxHeartbeats 4000000 in
set_option maxRecDepth 100000 in
theorem c_X7_ways (l : Launch) (D : va_G) (cI cZ : ClassId) (a : Nat → Nat) : CTi l D [(cI, FieldType.int), (cZ, FieldType.boolean)] (mW cI cZ a) yX7_ways (.code yX7_ways cX7_ways 1 (some FieldType.int) :: wsL_law) ({ frames := 9, cells := 0, slots := 0, locals := 211 } : Room) [.ref (a 0)] (fun σ => f_X7_ways σ) := by
  refine CTi.of (by decide +kernel) (Nat.le_of_ble_eq_true rfl) ?_
  intro σ out hm p e s m below meth c A ls H locs hx hb hr hlk hml hT hown hK hA B hl
  have hown : s.vm.findClass RX7 = some m.cls := hown
  have hl : lv_has ls 1 [(0, .ref (a 0))] := hl
  have hm : f_X7_ways σ = some out := hm
  unfold f_X7_ways at hm
  refine lv_aload_n hx hb dX7_ways_0 rfl (lv_at hl 0 rfl) ?_
  refine lv_iconst (v := (0 : Int32)) hx hb dX7_ways_1 (by decide) ?_
  refine x_puti (T := TX7) (N := 33) hx hb hT hown hK B mI_thrown inlX7 tyX7_ok nmX7 rfl (by decide) q777 rfl rfl rfl rfl rfl dX7_ways_2 hm (fun σ H locs B hm => ?_)
  refine lv_aload_n hx hb dX7_ways_5 rfl (lv_at hl 0 rfl) ?_
  refine x_callVr (rest := []) hx hb hml hT hown hK hA B hl.1 (c_X7_wrongPairing l D cI cZ a) mi_X7_wrongPairing mv_X7_wrongPairing mO_M rfl q836 ⟨rfl, rfl⟩ ⟨Nat.le_of_ble_eq_true rfl, Nat.le_of_ble_eq_true rfl⟩ rfl rfl (Nat.le_of_ble_eq_true rfl) dX7_ways_6 hm (fun x1 H locs B hm => ?_)
  refine lv_if_ge (tgt := 17) hx hb dX7_ways_9 (by decide) (fun q => ?_) (fun q => ?_)
  · have hm := ift hm q
    refine lv_aload_n hx hb dX7_ways_17 rfl (lv_at hl 0 rfl) ?_
    refine x_callVv (rest := []) hx hb hml hT hown hK hA B hl.1 (c_X7_layBests l D cI cZ a) mi_X7_layBests mv_X7_layBests mO_M rfl q842 ⟨rfl, rfl⟩ ⟨Nat.le_of_ble_eq_true rfl, Nat.le_of_ble_eq_true rfl⟩ rfl rfl (Nat.le_of_ble_eq_true rfl) dX7_ways_18 hm (fun σ H locs B hm => ?_)
    refine lv_aload_n hx hb dX7_ways_21 rfl (lv_at hl 0 rfl) ?_
    refine x_getv (T := TX7) (N := 33) hx hb hT hown hK B mV_manyWays inlX7 rfl (by decide) q785 rfl dX7_ways_22 ?_
    refine lv_iconst (v := (1 : Int32)) hx hb dX7_ways_25 (by decide) ?_
    refine lv_aload_n hx hb dX7_ways_26 rfl (lv_at hl 0 rfl) ?_
    refine x_getib (T := TX7) (N := 33) hx hb hT hown hK B mI_paired inlX7 rfl (by decide) q780 rfl dX7_ways_27 hm (fun x2 hm => ?_)
    refine lv_ishl hx hb dX7_ways_30 ?_
    refine lv_iconst (v := (1 : Int32)) hx hb dX7_ways_31 (by decide) ?_
    refine lv_isub hx hb dX7_ways_32 ?_
    refine x_iald (t0 := 0) hx hb hK B mA_manyWays rfl dX7_ways_33 hm (fun x3 hm => ?_)
    exact x_iret hx hb hr hlk hK B dX7_ways_34 hm
  · have hm := iff hm q
    refine lv_aload_n hx hb dX7_ways_12 rfl (lv_at hl 0 rfl) ?_
    refine x_callVr (rest := []) hx hb hml hT hown hK hA B hl.1 (c_X7_wrongPairing l D cI cZ a) mi_X7_wrongPairing mv_X7_wrongPairing mO_M rfl q836 ⟨rfl, rfl⟩ ⟨Nat.le_of_ble_eq_true rfl, Nat.le_of_ble_eq_true rfl⟩ rfl rfl (Nat.le_of_ble_eq_true rfl) dX7_ways_13 hm (fun x4 H locs B hm => ?_)
    exact x_iret hx hb hr hlk hK B dX7_ways_16 hm
def f_X7_join_j37 (σ : Mm) : Option (Int32 × Mm) :=
  (some (σ 4 0)).bind fun x1 =>
  if x1 = (1 : Int32) then
    some ((-3 : Int32), σ)
  else
    some ((-4 : Int32), σ)
def f_X7_join (σ : Mm) (w1 : Int32) : Option (Int32 × Mm) :=
  (some (sc σ 12 (0 : Int32))).bind fun σ =>
  (f_X7_in (w1.toInt64) (0 : Int64) (3000 : Int64)).bind fun x2 =>
  if x2 = 0 then
    some ((-2 : Int32), σ)
  else
    (some (σ 4 0)).bind fun x3 =>
    if x3 = (1 : Int32) then
      f_X7_join_j37 σ
    else
      (some (σ 0 0)).bind fun x4 =>
      if x4 = (12 : Int32) then
        f_X7_join_j37 σ
      else
        (some (σ 0 0)).bind fun x5 =>
        (ast 12 σ 1 x5 w1).bind fun σ =>
        (some (σ 0 0)).bind fun x6 =>
        (ast 12 σ 2 x6 (1 : Int32)).bind fun σ =>
        (some (σ 0 0)).bind fun x7 =>
        (some (sc σ 0 (x7 + (1 : Int32)))).bind fun σ =>
        (some (σ 0 0)).bind fun x8 =>
        some ((x8 - (1 : Int32)), σ)
set_option maxHeartbeats 4000000 in
set_option maxRecDepth 100000 in
theorem c_X7_join (l : Launch) (D : va_G) (cI cZ : ClassId) (a : Nat → Nat) (w1 : Int32) : CTi l D [(cI, FieldType.int), (cZ, FieldType.boolean)] (mW cI cZ a) yX7_join (.code yX7_join cX7_join 2 (some FieldType.int) :: wsL_law) ({ frames := 1, cells := 0, slots := 0, locals := 25 } : Room) [.ref (a 0), .int w1] (fun σ => f_X7_join σ w1) := by
  refine CTi.of (by decide +kernel) (Nat.le_of_ble_eq_true rfl) ?_
  intro σ out hm p e s m below meth c A ls H locs hx hb hr hlk hml hT hown hK hA B hl
  have hown : s.vm.findClass RX7 = some m.cls := hown
  have hl : lv_has ls 2 [(0, .ref (a 0)), (1, .int w1)] := hl
  have hm : f_X7_join σ w1 = some out := hm
  unfold f_X7_join at hm
  have j37 : ∀ (σ : Mm)  (H : Heap) (locs : List Loc) (ls : Array Slot), BD D A s.heap ((mW cI cZ a) σ) H locs → lv_has ls 2 [(0, .ref (a 0))] → f_X7_join_j37 σ = some out → W p l e ({ frames := 1, cells := 0, slots := 0, locals := 25 } : Room) s m ([.ref (a 0), .int w1] : List Value).toArray below meth c H locs 0 0 (MQ below (QI D [(cI, FieldType.int), (cZ, FieldType.boolean)] (mW cI cZ a) A out) ([.ref (a 0), .int w1] : List Value).toArray s 0 0 A) (F0 m 37 ls []) := by
    intro σ  H locs ls B hl hm
    unfold f_X7_join_j37 at hm
    refine lv_aload_n hx hb dX7_join_37 rfl (lv_at hl 0 rfl) ?_
    refine x_getib (T := TX7) (N := 33) hx hb hT hown hK B mI_isOpen inlX7 rfl (by decide) q769 rfl dX7_join_38 hm (fun x1 hm => ?_)
    refine lv_iconst (v := (1 : Int32)) hx hb dX7_join_41 (by decide) ?_
    refine lv_icmp_ne (tgt := 50) hx hb dX7_join_42 (by decide) (fun q => ?_) (fun q => ?_)
    · have hm := iff hm q
      refine lv_bipush (v := (-4 : Int32)) hx hb dX7_join_50 (by decide) ?_
      exact x_iret hx hb hr hlk hK B dX7_join_52 hm
    · have hm := ift hm q
      refine lv_bipush (v := (-3 : Int32)) hx hb dX7_join_45 (by decide) ?_
      refine lv_goto (tgt := 52) hx hb dX7_join_47 (by decide) ?_
      exact x_iret hx hb hr hlk hK B dX7_join_52 hm
  refine lv_aload_n hx hb dX7_join_0 rfl (lv_at hl 0 rfl) ?_
  refine lv_iconst (v := (0 : Int32)) hx hb dX7_join_1 (by decide) ?_
  refine x_puti (T := TX7) (N := 33) hx hb hT hown hK B mI_thrown inlX7 tyX7_ok nmX7 rfl (by decide) q777 rfl rfl rfl rfl rfl dX7_join_2 hm (fun σ H locs B hm => ?_)
  refine lv_iload_n hx hb dX7_join_5 rfl (lv_at hl 1 rfl) ?_
  refine lv_i2l (v := w1.toInt64) hx hb dX7_join_6 rfl ?_
  refine lv_lconst (v := 0) hx hb dX7_join_7 (by decide) ?_
  refine lv_ldc2 (v := 3000) hx hb hown (hT _ q958) dX7_join_8 ?_
  refine x_callSr (rest := []) hx hb hml hT hown hK hA B hl.1 (c_X7_in l D cI cZ (mW cI cZ a) (w1.toInt64) (0 : Int64) (3000 : Int64)) mi_X7_in q881 q880 ⟨rfl, rfl⟩ ⟨Nat.le_of_ble_eq_true rfl, Nat.le_of_ble_eq_true rfl⟩ rfl rfl (Nat.le_of_ble_eq_true rfl) dX7_join_11 hm (fun x2 H locs B hm => ?_)
  refine lv_if_ne (tgt := 20) hx hb dX7_join_14 (by decide) (fun q => ?_) (fun q => ?_)
  · have hm := iff hm q
    refine lv_aload_n hx hb dX7_join_20 rfl (lv_at hl 0 rfl) ?_
    refine x_getib (T := TX7) (N := 33) hx hb hT hown hK B mI_isOpen inlX7 rfl (by decide) q769 rfl dX7_join_21 hm (fun x3 hm => ?_)
    refine lv_iconst (v := (1 : Int32)) hx hb dX7_join_24 (by decide) ?_
    refine lv_icmp_eq (tgt := 37) hx hb dX7_join_25 (by decide) (fun q => ?_) (fun q => ?_)
    · have hm := ift hm q
      exact j37 σ H locs ls B (lv_sub hl [0] rfl) hm
    · have hm := iff hm q
      refine lv_aload_n hx hb dX7_join_28 rfl (lv_at hl 0 rfl) ?_
      refine x_getib (T := TX7) (N := 33) hx hb hT hown hK B mI_players inlX7 rfl (by decide) q765 rfl dX7_join_29 hm (fun x4 hm => ?_)
      refine lv_bipush (v := (12 : Int32)) hx hb dX7_join_32 (by decide) ?_
      refine lv_icmp_ne (tgt := 53) hx hb dX7_join_34 (by decide) (fun q => ?_) (fun q => ?_)
      · have hm := iff hm q
        refine lv_aload_n hx hb dX7_join_53 rfl (lv_at hl 0 rfl) ?_
        refine x_getv (T := TX7) (N := 33) hx hb hT hown hK B mV_ratings inlX7 rfl (by decide) q766 rfl dX7_join_54 ?_
        refine lv_aload_n hx hb dX7_join_57 rfl (lv_at hl 0 rfl) ?_
        refine x_getib (T := TX7) (N := 33) hx hb hT hown hK B mI_players inlX7 rfl (by decide) q765 rfl dX7_join_58 hm (fun x5 hm => ?_)
        refine lv_iload_n hx hb dX7_join_61 rfl (lv_at hl 1 rfl) ?_
        refine x_iast (t0 := 0) hx hb hK B mA_ratings rfl dX7_join_62 hm (fun σ H locs B hm => ?_)
        refine lv_aload_n hx hb dX7_join_63 rfl (lv_at hl 0 rfl) ?_
        refine x_getv (T := TX7) (N := 33) hx hb hT hown hK B mV_isIn inlX7 rfl (by decide) q767 rfl dX7_join_64 ?_
        refine lv_aload_n hx hb dX7_join_67 rfl (lv_at hl 0 rfl) ?_
        refine x_getib (T := TX7) (N := 33) hx hb hT hown hK B mI_players inlX7 rfl (by decide) q765 rfl dX7_join_68 hm (fun x6 hm => ?_)
        refine lv_iconst (v := (1 : Int32)) hx hb dX7_join_71 (by decide) ?_
        refine x_iast (t0 := 0) hx hb hK B mA_isIn rfl dX7_join_72 hm (fun σ H locs B hm => ?_)
        refine lv_aload_n hx hb dX7_join_73 rfl (lv_at hl 0 rfl) ?_
        refine lv_dup hx hb dX7_join_74 rfl ?_
        refine x_getib (T := TX7) (N := 33) hx hb hT hown hK B mI_players inlX7 rfl (by decide) q765 rfl dX7_join_75 hm (fun x7 hm => ?_)
        refine lv_iconst (v := (1 : Int32)) hx hb dX7_join_78 (by decide) ?_
        refine lv_iadd hx hb dX7_join_79 ?_
        refine x_puti (T := TX7) (N := 33) hx hb hT hown hK B mI_players inlX7 tyX7_ok nmX7 rfl (by decide) q765 rfl rfl rfl rfl rfl dX7_join_80 hm (fun σ H locs B hm => ?_)
        refine lv_aload_n hx hb dX7_join_83 rfl (lv_at hl 0 rfl) ?_
        refine x_getib (T := TX7) (N := 33) hx hb hT hown hK B mI_players inlX7 rfl (by decide) q765 rfl dX7_join_84 hm (fun x8 hm => ?_)
        refine lv_iconst (v := (1 : Int32)) hx hb dX7_join_87 (by decide) ?_
        refine lv_isub hx hb dX7_join_88 ?_
        exact x_iret hx hb hr hlk hK B dX7_join_89 hm
      · have hm := ift hm q
        exact j37 σ H locs ls B (lv_sub hl [0] rfl) hm
  · have hm := ift hm q
    refine lv_bipush (v := (-2 : Int32)) hx hb dX7_join_17 (by decide) ?_
    exact x_iret hx hb hr hlk hK B dX7_join_19 hm
def f_X7_leave (σ : Mm) (w1 : Int32) : Option (Int32 × Mm) :=
  (some (sc σ 12 (0 : Int32))).bind fun σ =>
  (f_X7_isPlayer σ w1).bind fun x1 =>
  if x1 = 0 then
    some ((-1 : Int32), σ)
  else
    (ald 12 (σ 2) w1).bind fun x2 =>
    if x2 = 0 then
      some ((-3 : Int32), σ)
    else
      (some (σ 4 0)).bind fun x3 =>
      if x3 = (1 : Int32) then
        some ((-3 : Int32), σ)
      else
        (ast 12 σ 2 w1 (0 : Int32)).bind fun σ =>
        (f_X7_manyIn σ).bind fun x4 =>
        some (x4, σ)
set_option maxHeartbeats 4000000 in
set_option maxRecDepth 100000 in
theorem c_X7_leave (l : Launch) (D : va_G) (cI cZ : ClassId) (a : Nat → Nat) (w1 : Int32) : CTi l D [(cI, FieldType.int), (cZ, FieldType.boolean)] (mW cI cZ a) yX7_leave (.code yX7_leave cX7_leave 2 (some FieldType.int) :: wsL_law) ({ frames := 2, cells := 0, slots := 0, locals := 46 } : Room) [.ref (a 0), .int w1] (fun σ => f_X7_leave σ w1) := by
  refine CTi.of (by decide +kernel) (Nat.le_of_ble_eq_true rfl) ?_
  intro σ out hm p e s m below meth c A ls H locs hx hb hr hlk hml hT hown hK hA B hl
  have hown : s.vm.findClass RX7 = some m.cls := hown
  have hl : lv_has ls 2 [(0, .ref (a 0)), (1, .int w1)] := hl
  have hm : f_X7_leave σ w1 = some out := hm
  unfold f_X7_leave at hm
  refine lv_aload_n hx hb dX7_leave_0 rfl (lv_at hl 0 rfl) ?_
  refine lv_iconst (v := (0 : Int32)) hx hb dX7_leave_1 (by decide) ?_
  refine x_puti (T := TX7) (N := 33) hx hb hT hown hK B mI_thrown inlX7 tyX7_ok nmX7 rfl (by decide) q777 rfl rfl rfl rfl rfl dX7_leave_2 hm (fun σ H locs B hm => ?_)
  refine lv_aload_n hx hb dX7_leave_5 rfl (lv_at hl 0 rfl) ?_
  refine lv_iload_n hx hb dX7_leave_6 rfl (lv_at hl 1 rfl) ?_
  refine x_callVr (rest := []) hx hb hml hT hown hK hA B hl.1 (c_X7_isPlayer l D cI cZ a w1) mi_X7_isPlayer mv_X7_isPlayer mO_M rfl q963 ⟨rfl, rfl⟩ ⟨Nat.le_of_ble_eq_true rfl, Nat.le_of_ble_eq_true rfl⟩ rfl rfl (Nat.le_of_ble_eq_true rfl) dX7_leave_7 hm (fun x1 H locs B hm => ?_)
  refine lv_if_ne (tgt := 15) hx hb dX7_leave_10 (by decide) (fun q => ?_) (fun q => ?_)
  · have hm := iff hm q
    refine lv_aload_n hx hb dX7_leave_15 rfl (lv_at hl 0 rfl) ?_
    refine x_getv (T := TX7) (N := 33) hx hb hT hown hK B mV_isIn inlX7 rfl (by decide) q767 rfl dX7_leave_16 ?_
    refine lv_iload_n hx hb dX7_leave_19 rfl (lv_at hl 1 rfl) ?_
    refine x_iald (t0 := 0) hx hb hK B mA_isIn rfl dX7_leave_20 hm (fun x2 hm => ?_)
    refine lv_if_eq (tgt := 32) hx hb dX7_leave_21 (by decide) (fun q => ?_) (fun q => ?_)
    · have hm := ift hm q
      refine lv_bipush (v := (-3 : Int32)) hx hb dX7_leave_32 (by decide) ?_
      exact x_iret hx hb hr hlk hK B dX7_leave_34 hm
    · have hm := iff hm q
      refine lv_aload_n hx hb dX7_leave_24 rfl (lv_at hl 0 rfl) ?_
      refine x_getib (T := TX7) (N := 33) hx hb hT hown hK B mI_isOpen inlX7 rfl (by decide) q769 rfl dX7_leave_25 hm (fun x3 hm => ?_)
      refine lv_iconst (v := (1 : Int32)) hx hb dX7_leave_28 (by decide) ?_
      refine lv_icmp_ne (tgt := 35) hx hb dX7_leave_29 (by decide) (fun q => ?_) (fun q => ?_)
      · have hm := iff hm q
        refine lv_aload_n hx hb dX7_leave_35 rfl (lv_at hl 0 rfl) ?_
        refine x_getv (T := TX7) (N := 33) hx hb hT hown hK B mV_isIn inlX7 rfl (by decide) q767 rfl dX7_leave_36 ?_
        refine lv_iload_n hx hb dX7_leave_39 rfl (lv_at hl 1 rfl) ?_
        refine lv_iconst (v := (0 : Int32)) hx hb dX7_leave_40 (by decide) ?_
        refine x_iast (t0 := 0) hx hb hK B mA_isIn rfl dX7_leave_41 hm (fun σ H locs B hm => ?_)
        refine lv_aload_n hx hb dX7_leave_42 rfl (lv_at hl 0 rfl) ?_
        refine x_callVr (rest := []) hx hb hml hT hown hK hA B hl.1 (c_X7_manyIn l D cI cZ a) mi_X7_manyIn mv_X7_manyIn mO_M rfl q839 ⟨rfl, rfl⟩ ⟨Nat.le_of_ble_eq_true rfl, Nat.le_of_ble_eq_true rfl⟩ rfl rfl (Nat.le_of_ble_eq_true rfl) dX7_leave_43 hm (fun x4 H locs B hm => ?_)
        exact x_iret hx hb hr hlk hK B dX7_leave_46 hm
      · have hm := ift hm q
        refine lv_bipush (v := (-3 : Int32)) hx hb dX7_leave_32 (by decide) ?_
        exact x_iret hx hb hr hlk hK B dX7_leave_34 hm
  · have hm := ift hm q
    refine lv_iconst (v := (-1 : Int32)) hx hb dX7_leave_13 (by decide) ?_
    exact x_iret hx hb hr hlk hK B dX7_leave_14 hm
def f_X7_back (σ : Mm) (w1 : Int32) : Option (Int32 × Mm) :=
  (some (sc σ 12 (0 : Int32))).bind fun σ =>
  (f_X7_isPlayer σ w1).bind fun x1 =>
  if x1 = 0 then
    some ((-1 : Int32), σ)
  else
    (ald 12 (σ 2) w1).bind fun x2 =>
    if x2 = (1 : Int32) then
      some ((-3 : Int32), σ)
    else
      (some (σ 4 0)).bind fun x3 =>
      if x3 = (1 : Int32) then
        some ((-3 : Int32), σ)
      else
        (ast 12 σ 2 w1 (1 : Int32)).bind fun σ =>
        (f_X7_manyIn σ).bind fun x4 =>
        some (x4, σ)
set_option maxHeartbeats 4000000 in
set_option maxRecDepth 100000 in
theorem c_X7_back (l : Launch) (D : va_G) (cI cZ : ClassId) (a : Nat → Nat) (w1 : Int32) : CTi l D [(cI, FieldType.int), (cZ, FieldType.boolean)] (mW cI cZ a) yX7_back (.code yX7_back cX7_back 2 (some FieldType.int) :: wsL_law) ({ frames := 2, cells := 0, slots := 0, locals := 46 } : Room) [.ref (a 0), .int w1] (fun σ => f_X7_back σ w1) := by
  refine CTi.of (by decide +kernel) (Nat.le_of_ble_eq_true rfl) ?_
  intro σ out hm p e s m below meth c A ls H locs hx hb hr hlk hml hT hown hK hA B hl
  have hown : s.vm.findClass RX7 = some m.cls := hown
  have hl : lv_has ls 2 [(0, .ref (a 0)), (1, .int w1)] := hl
  have hm : f_X7_back σ w1 = some out := hm
  unfold f_X7_back at hm
  refine lv_aload_n hx hb dX7_back_0 rfl (lv_at hl 0 rfl) ?_
  refine lv_iconst (v := (0 : Int32)) hx hb dX7_back_1 (by decide) ?_
  refine x_puti (T := TX7) (N := 33) hx hb hT hown hK B mI_thrown inlX7 tyX7_ok nmX7 rfl (by decide) q777 rfl rfl rfl rfl rfl dX7_back_2 hm (fun σ H locs B hm => ?_)
  refine lv_aload_n hx hb dX7_back_5 rfl (lv_at hl 0 rfl) ?_
  refine lv_iload_n hx hb dX7_back_6 rfl (lv_at hl 1 rfl) ?_
  refine x_callVr (rest := []) hx hb hml hT hown hK hA B hl.1 (c_X7_isPlayer l D cI cZ a w1) mi_X7_isPlayer mv_X7_isPlayer mO_M rfl q963 ⟨rfl, rfl⟩ ⟨Nat.le_of_ble_eq_true rfl, Nat.le_of_ble_eq_true rfl⟩ rfl rfl (Nat.le_of_ble_eq_true rfl) dX7_back_7 hm (fun x1 H locs B hm => ?_)
  refine lv_if_ne (tgt := 15) hx hb dX7_back_10 (by decide) (fun q => ?_) (fun q => ?_)
  · have hm := iff hm q
    refine lv_aload_n hx hb dX7_back_15 rfl (lv_at hl 0 rfl) ?_
    refine x_getv (T := TX7) (N := 33) hx hb hT hown hK B mV_isIn inlX7 rfl (by decide) q767 rfl dX7_back_16 ?_
    refine lv_iload_n hx hb dX7_back_19 rfl (lv_at hl 1 rfl) ?_
    refine x_iald (t0 := 0) hx hb hK B mA_isIn rfl dX7_back_20 hm (fun x2 hm => ?_)
    refine lv_iconst (v := (1 : Int32)) hx hb dX7_back_21 (by decide) ?_
    refine lv_icmp_eq (tgt := 33) hx hb dX7_back_22 (by decide) (fun q => ?_) (fun q => ?_)
    · have hm := ift hm q
      refine lv_bipush (v := (-3 : Int32)) hx hb dX7_back_33 (by decide) ?_
      exact x_iret hx hb hr hlk hK B dX7_back_35 hm
    · have hm := iff hm q
      refine lv_aload_n hx hb dX7_back_25 rfl (lv_at hl 0 rfl) ?_
      refine x_getib (T := TX7) (N := 33) hx hb hT hown hK B mI_isOpen inlX7 rfl (by decide) q769 rfl dX7_back_26 hm (fun x3 hm => ?_)
      refine lv_iconst (v := (1 : Int32)) hx hb dX7_back_29 (by decide) ?_
      refine lv_icmp_ne (tgt := 36) hx hb dX7_back_30 (by decide) (fun q => ?_) (fun q => ?_)
      · have hm := iff hm q
        refine lv_aload_n hx hb dX7_back_36 rfl (lv_at hl 0 rfl) ?_
        refine x_getv (T := TX7) (N := 33) hx hb hT hown hK B mV_isIn inlX7 rfl (by decide) q767 rfl dX7_back_37 ?_
        refine lv_iload_n hx hb dX7_back_40 rfl (lv_at hl 1 rfl) ?_
        refine lv_iconst (v := (1 : Int32)) hx hb dX7_back_41 (by decide) ?_
        refine x_iast (t0 := 0) hx hb hK B mA_isIn rfl dX7_back_42 hm (fun σ H locs B hm => ?_)
        refine lv_aload_n hx hb dX7_back_43 rfl (lv_at hl 0 rfl) ?_
        refine x_callVr (rest := []) hx hb hml hT hown hK hA B hl.1 (c_X7_manyIn l D cI cZ a) mi_X7_manyIn mv_X7_manyIn mO_M rfl q839 ⟨rfl, rfl⟩ ⟨Nat.le_of_ble_eq_true rfl, Nat.le_of_ble_eq_true rfl⟩ rfl rfl (Nat.le_of_ble_eq_true rfl) dX7_back_44 hm (fun x4 H locs B hm => ?_)
        exact x_iret hx hb hr hlk hK B dX7_back_47 hm
      · have hm := ift hm q
        refine lv_bipush (v := (-3 : Int32)) hx hb dX7_back_33 (by decide) ?_
        exact x_iret hx hb hr hlk hK B dX7_back_35 hm
  · have hm := ift hm q
    refine lv_iconst (v := (-1 : Int32)) hx hb dX7_back_13 (by decide) ?_
    exact x_iret hx hb hr hlk hK B dX7_back_14 hm
def f_X7_rate (σ : Mm) (w1 : Int32) (w2 : Int32) : Option (Int32 × Mm) :=
  (some (sc σ 12 (0 : Int32))).bind fun σ =>
  (f_X7_isPlayer σ w1).bind fun x1 =>
  if x1 = 0 then
    some ((-1 : Int32), σ)
  else
    (f_X7_in (w2.toInt64) (0 : Int64) (3000 : Int64)).bind fun x2 =>
    if x2 = 0 then
      some ((-2 : Int32), σ)
    else
      (ald 12 (σ 1) w1).bind fun x3 =>
      (ast 12 σ 1 w1 w2).bind fun σ =>
      some (x3, σ)
set_option maxHeartbeats 4000000 in
set_option maxRecDepth 100000 in
theorem c_X7_rate (l : Launch) (D : va_G) (cI cZ : ClassId) (a : Nat → Nat) (w1 : Int32) (w2 : Int32) : CTi l D [(cI, FieldType.int), (cZ, FieldType.boolean)] (mW cI cZ a) yX7_rate (.code yX7_rate cX7_rate 4 (some FieldType.int) :: wsL_law) ({ frames := 2, cells := 0, slots := 0, locals := 46 } : Room) [.ref (a 0), .int w1, .int w2] (fun σ => f_X7_rate σ w1 w2) := by
  refine CTi.of (by decide +kernel) (Nat.le_of_ble_eq_true rfl) ?_
  intro σ out hm p e s m below meth c A ls H locs hx hb hr hlk hml hT hown hK hA B hl
  have hown : s.vm.findClass RX7 = some m.cls := hown
  have hl : lv_has ls 4 [(0, .ref (a 0)), (1, .int w1), (2, .int w2)] := hl
  have hm : f_X7_rate σ w1 w2 = some out := hm
  unfold f_X7_rate at hm
  refine lv_aload_n hx hb dX7_rate_0 rfl (lv_at hl 0 rfl) ?_
  refine lv_iconst (v := (0 : Int32)) hx hb dX7_rate_1 (by decide) ?_
  refine x_puti (T := TX7) (N := 33) hx hb hT hown hK B mI_thrown inlX7 tyX7_ok nmX7 rfl (by decide) q777 rfl rfl rfl rfl rfl dX7_rate_2 hm (fun σ H locs B hm => ?_)
  refine lv_aload_n hx hb dX7_rate_5 rfl (lv_at hl 0 rfl) ?_
  refine lv_iload_n hx hb dX7_rate_6 rfl (lv_at hl 1 rfl) ?_
  refine x_callVr (rest := []) hx hb hml hT hown hK hA B hl.1 (c_X7_isPlayer l D cI cZ a w1) mi_X7_isPlayer mv_X7_isPlayer mO_M rfl q963 ⟨rfl, rfl⟩ ⟨Nat.le_of_ble_eq_true rfl, Nat.le_of_ble_eq_true rfl⟩ rfl rfl (Nat.le_of_ble_eq_true rfl) dX7_rate_7 hm (fun x1 H locs B hm => ?_)
  refine lv_if_ne (tgt := 15) hx hb dX7_rate_10 (by decide) (fun q => ?_) (fun q => ?_)
  · have hm := iff hm q
    refine lv_iload_n hx hb dX7_rate_15 rfl (lv_at hl 2 rfl) ?_
    refine lv_i2l (v := w2.toInt64) hx hb dX7_rate_16 rfl ?_
    refine lv_lconst (v := 0) hx hb dX7_rate_17 (by decide) ?_
    refine lv_ldc2 (v := 3000) hx hb hown (hT _ q958) dX7_rate_18 ?_
    refine x_callSr (rest := []) hx hb hml hT hown hK hA B hl.1 (c_X7_in l D cI cZ (mW cI cZ a) (w2.toInt64) (0 : Int64) (3000 : Int64)) mi_X7_in q881 q880 ⟨rfl, rfl⟩ ⟨Nat.le_of_ble_eq_true rfl, Nat.le_of_ble_eq_true rfl⟩ rfl rfl (Nat.le_of_ble_eq_true rfl) dX7_rate_21 hm (fun x2 H locs B hm => ?_)
    refine lv_if_ne (tgt := 30) hx hb dX7_rate_24 (by decide) (fun q => ?_) (fun q => ?_)
    · have hm := iff hm q
      refine lv_aload_n hx hb dX7_rate_30 rfl (lv_at hl 0 rfl) ?_
      refine x_getv (T := TX7) (N := 33) hx hb hT hown hK B mV_ratings inlX7 rfl (by decide) q766 rfl dX7_rate_31 ?_
      refine lv_iload_n hx hb dX7_rate_34 rfl (lv_at hl 1 rfl) ?_
      refine x_iald (t0 := 0) hx hb hK B mA_ratings rfl dX7_rate_35 hm (fun x3 hm => ?_)
      refine lv_istore_n (lv' := [(3, .int x3), (0, .ref (a 0)), (1, .int w1), (2, .int w2)]) hx hb dX7_rate_36 rfl hl (by decide) rfl (fun ls hl => ?_)
      refine lv_aload_n hx hb dX7_rate_37 rfl (lv_at hl 1 rfl) ?_
      refine x_getv (T := TX7) (N := 33) hx hb hT hown hK B mV_ratings inlX7 rfl (by decide) q766 rfl dX7_rate_38 ?_
      refine lv_iload_n hx hb dX7_rate_41 rfl (lv_at hl 2 rfl) ?_
      refine lv_iload_n hx hb dX7_rate_42 rfl (lv_at hl 3 rfl) ?_
      refine x_iast (t0 := 0) hx hb hK B mA_ratings rfl dX7_rate_43 hm (fun σ H locs B hm => ?_)
      refine lv_iload_n hx hb dX7_rate_44 rfl (lv_at hl 0 rfl) ?_
      exact x_iret hx hb hr hlk hK B dX7_rate_45 hm
    · have hm := ift hm q
      refine lv_bipush (v := (-2 : Int32)) hx hb dX7_rate_27 (by decide) ?_
      exact x_iret hx hb hr hlk hK B dX7_rate_29 hm
  · have hm := ift hm q
    refine lv_iconst (v := (-1 : Int32)) hx hb dX7_rate_13 (by decide) ?_
    exact x_iret hx hb hr hlk hK B dX7_rate_14 hm
def f_X7_of (σ : Mm) (w1 : Int32) (w2 : Int32) : Option (Int32 × Mm) :=
  (some (sc σ 12 (0 : Int32))).bind fun σ =>
  (f_X7_isPlayer σ w1).bind fun x1 =>
  if x1 = 0 then
    some ((-1 : Int32), σ)
  else
    (f_X7_in (w2.toInt64) (0 : Int64) (8 : Int64)).bind fun x2 =>
    if x2 = 0 then
      some ((-1 : Int32), σ)
    else
      if w2 = (0 : Int32) then
        (ald 12 (σ 1) w1).bind fun x3 =>
        some (x3, σ)
      else
        if w2 = (1 : Int32) then
          (ald 12 (σ 2) w1).bind fun x4 =>
          some (x4, σ)
        else
          if w2 = (2 : Int32) then
            (f_X7_pointsOf σ w1).bind fun x5 =>
            some (x5, σ)
          else
            if w2 = (3 : Int32) then
              (f_X7_playedMany σ w1).bind fun x6 =>
              some (x6, σ)
            else
              if w2 = (4 : Int32) then
                (f_X7_balanceOf σ w1).bind fun x7 =>
                some ((x7 + (100 : Int32)), σ)
              else
                if w2 = (5 : Int32) then
                  (f_X7_latestOf σ w1).bind fun x8 =>
                  some (x8, σ)
                else
                  if w2 = (6 : Int32) then
                    (f_X7_byesOf σ w1).bind fun x9 =>
                    some (x9, σ)
                  else
                    if w2 = (8 : Int32) then
                      (f_X7_playedMany σ w1).bind fun x10 =>
                      some (x10, σ)
                    else
                      (f_X7_forfeitsOf σ w1).bind fun x11 =>
                      some (x11, σ)
set_option maxHeartbeats 4000000 in
set_option maxRecDepth 100000 in
theorem c_X7_of (l : Launch) (D : va_G) (cI cZ : ClassId) (a : Nat → Nat) (w1 : Int32) (w2 : Int32) : CTi l D [(cI, FieldType.int), (cZ, FieldType.boolean)] (mW cI cZ a) yX7_of (.code yX7_of cX7_of 3 (some FieldType.int) :: wsL_law) ({ frames := 4, cells := 0, slots := 0, locals := 92 } : Room) [.ref (a 0), .int w1, .int w2] (fun σ => f_X7_of σ w1 w2) := by
  refine CTi.of (by decide +kernel) (Nat.le_of_ble_eq_true rfl) ?_
  intro σ out hm p e s m below meth c A ls H locs hx hb hr hlk hml hT hown hK hA B hl
  have hown : s.vm.findClass RX7 = some m.cls := hown
  have hl : lv_has ls 3 [(0, .ref (a 0)), (1, .int w1), (2, .int w2)] := hl
  have hm : f_X7_of σ w1 w2 = some out := hm
  unfold f_X7_of at hm
  refine lv_aload_n hx hb dX7_of_0 rfl (lv_at hl 0 rfl) ?_
  refine lv_iconst (v := (0 : Int32)) hx hb dX7_of_1 (by decide) ?_
  refine x_puti (T := TX7) (N := 33) hx hb hT hown hK B mI_thrown inlX7 tyX7_ok nmX7 rfl (by decide) q777 rfl rfl rfl rfl rfl dX7_of_2 hm (fun σ H locs B hm => ?_)
  refine lv_aload_n hx hb dX7_of_5 rfl (lv_at hl 0 rfl) ?_
  refine lv_iload_n hx hb dX7_of_6 rfl (lv_at hl 1 rfl) ?_
  refine x_callVr (rest := []) hx hb hml hT hown hK hA B hl.1 (c_X7_isPlayer l D cI cZ a w1) mi_X7_isPlayer mv_X7_isPlayer mO_M rfl q963 ⟨rfl, rfl⟩ ⟨Nat.le_of_ble_eq_true rfl, Nat.le_of_ble_eq_true rfl⟩ rfl rfl (Nat.le_of_ble_eq_true rfl) dX7_of_7 hm (fun x1 H locs B hm => ?_)
  refine lv_if_eq (tgt := 25) hx hb dX7_of_10 (by decide) (fun q => ?_) (fun q => ?_)
  · have hm := ift hm q
    refine lv_iconst (v := (-1 : Int32)) hx hb dX7_of_25 (by decide) ?_
    exact x_iret hx hb hr hlk hK B dX7_of_26 hm
  · have hm := iff hm q
    refine lv_iload_n hx hb dX7_of_13 rfl (lv_at hl 2 rfl) ?_
    refine lv_i2l (v := w2.toInt64) hx hb dX7_of_14 rfl ?_
    refine lv_lconst (v := 0) hx hb dX7_of_15 (by decide) ?_
    refine lv_ldc2 (v := 8) hx hb hown (hT _ q978) dX7_of_16 ?_
    refine x_callSr (rest := []) hx hb hml hT hown hK hA B hl.1 (c_X7_in l D cI cZ (mW cI cZ a) (w2.toInt64) (0 : Int64) (8 : Int64)) mi_X7_in q881 q880 ⟨rfl, rfl⟩ ⟨Nat.le_of_ble_eq_true rfl, Nat.le_of_ble_eq_true rfl⟩ rfl rfl (Nat.le_of_ble_eq_true rfl) dX7_of_19 hm (fun x2 H locs B hm => ?_)
    refine lv_if_ne (tgt := 27) hx hb dX7_of_22 (by decide) (fun q => ?_) (fun q => ?_)
    · have hm := iff hm q
      refine lv_iload_n hx hb dX7_of_27 rfl (lv_at hl 2 rfl) ?_
      by_cases q0 : w2 = (0 : Int32)
      · have hm := ift hm q0
        refine lv_tableIn (off := 52) (tgt := 80) hx hb dX7_of_28 (by rw [q0]; decide) (by rw [q0]; decide) (by rw [q0]; rfl) (by decide) ?_
        refine lv_aload_n hx hb dX7_of_80 rfl (lv_at hl 0 rfl) ?_
        refine x_getv (T := TX7) (N := 33) hx hb hT hown hK B mV_ratings inlX7 rfl (by decide) q766 rfl dX7_of_81 ?_
        refine lv_iload_n hx hb dX7_of_84 rfl (lv_at hl 1 rfl) ?_
        refine x_iald (t0 := 0) hx hb hK B mA_ratings rfl dX7_of_85 hm (fun x3 hm => ?_)
        exact x_iret hx hb hr hlk hK B dX7_of_86 hm
      · have hm := iff hm q0
        by_cases q1 : w2 = (1 : Int32)
        · have hm := ift hm q1
          refine lv_tableIn (off := 59) (tgt := 87) hx hb dX7_of_28 (by rw [q1]; decide) (by rw [q1]; decide) (by rw [q1]; rfl) (by decide) ?_
          refine lv_aload_n hx hb dX7_of_87 rfl (lv_at hl 0 rfl) ?_
          refine x_getv (T := TX7) (N := 33) hx hb hT hown hK B mV_isIn inlX7 rfl (by decide) q767 rfl dX7_of_88 ?_
          refine lv_iload_n hx hb dX7_of_91 rfl (lv_at hl 1 rfl) ?_
          refine x_iald (t0 := 0) hx hb hK B mA_isIn rfl dX7_of_92 hm (fun x4 hm => ?_)
          exact x_iret hx hb hr hlk hK B dX7_of_93 hm
        · have hm := iff hm q1
          by_cases q2 : w2 = (2 : Int32)
          · have hm := ift hm q2
            refine lv_tableIn (off := 66) (tgt := 94) hx hb dX7_of_28 (by rw [q2]; decide) (by rw [q2]; decide) (by rw [q2]; rfl) (by decide) ?_
            refine lv_aload_n hx hb dX7_of_94 rfl (lv_at hl 0 rfl) ?_
            refine lv_iload_n hx hb dX7_of_95 rfl (lv_at hl 1 rfl) ?_
            refine x_callVr (rest := []) hx hb hml hT hown hK hA B hl.1 (c_X7_pointsOf l D cI cZ a w1) mi_X7_pointsOf mv_X7_pointsOf mO_M rfl q854 ⟨rfl, rfl⟩ ⟨Nat.le_of_ble_eq_true rfl, Nat.le_of_ble_eq_true rfl⟩ rfl rfl (Nat.le_of_ble_eq_true rfl) dX7_of_96 hm (fun x5 H locs B hm => ?_)
            exact x_iret hx hb hr hlk hK B dX7_of_99 hm
          · have hm := iff hm q2
            by_cases q3 : w2 = (3 : Int32)
            · have hm := ift hm q3
              refine lv_tableIn (off := 72) (tgt := 100) hx hb dX7_of_28 (by rw [q3]; decide) (by rw [q3]; decide) (by rw [q3]; rfl) (by decide) ?_
              refine lv_aload_n hx hb dX7_of_100 rfl (lv_at hl 0 rfl) ?_
              refine lv_iload_n hx hb dX7_of_101 rfl (lv_at hl 1 rfl) ?_
              refine x_callVr (rest := []) hx hb hml hT hown hK hA B hl.1 (c_X7_playedMany l D cI cZ a w1) mi_X7_playedMany mv_X7_playedMany mO_M rfl q928 ⟨rfl, rfl⟩ ⟨Nat.le_of_ble_eq_true rfl, Nat.le_of_ble_eq_true rfl⟩ rfl rfl (Nat.le_of_ble_eq_true rfl) dX7_of_102 hm (fun x6 H locs B hm => ?_)
              exact x_iret hx hb hr hlk hK B dX7_of_105 hm
            · have hm := iff hm q3
              by_cases q4 : w2 = (4 : Int32)
              · have hm := ift hm q4
                refine lv_tableIn (off := 78) (tgt := 106) hx hb dX7_of_28 (by rw [q4]; decide) (by rw [q4]; decide) (by rw [q4]; rfl) (by decide) ?_
                refine lv_aload_n hx hb dX7_of_106 rfl (lv_at hl 0 rfl) ?_
                refine lv_iload_n hx hb dX7_of_107 rfl (lv_at hl 1 rfl) ?_
                refine x_callVr (rest := []) hx hb hml hT hown hK hA B hl.1 (c_X7_balanceOf l D cI cZ a w1) mi_X7_balanceOf mv_X7_balanceOf mO_M rfl q925 ⟨rfl, rfl⟩ ⟨Nat.le_of_ble_eq_true rfl, Nat.le_of_ble_eq_true rfl⟩ rfl rfl (Nat.le_of_ble_eq_true rfl) dX7_of_108 hm (fun x7 H locs B hm => ?_)
                refine lv_bipush (v := (100 : Int32)) hx hb dX7_of_111 (by decide) ?_
                refine lv_iadd hx hb dX7_of_113 ?_
                exact x_iret hx hb hr hlk hK B dX7_of_114 hm
              · have hm := iff hm q4
                by_cases q5 : w2 = (5 : Int32)
                · have hm := ift hm q5
                  refine lv_tableIn (off := 87) (tgt := 115) hx hb dX7_of_28 (by rw [q5]; decide) (by rw [q5]; decide) (by rw [q5]; rfl) (by decide) ?_
                  refine lv_aload_n hx hb dX7_of_115 rfl (lv_at hl 0 rfl) ?_
                  refine lv_iload_n hx hb dX7_of_116 rfl (lv_at hl 1 rfl) ?_
                  refine x_callVr (rest := []) hx hb hml hT hown hK hA B hl.1 (c_X7_latestOf l D cI cZ a w1) mi_X7_latestOf mv_X7_latestOf mO_M rfl q931 ⟨rfl, rfl⟩ ⟨Nat.le_of_ble_eq_true rfl, Nat.le_of_ble_eq_true rfl⟩ rfl rfl (Nat.le_of_ble_eq_true rfl) dX7_of_117 hm (fun x8 H locs B hm => ?_)
                  exact x_iret hx hb hr hlk hK B dX7_of_120 hm
                · have hm := iff hm q5
                  by_cases q6 : w2 = (6 : Int32)
                  · have hm := ift hm q6
                    refine lv_tableIn (off := 93) (tgt := 121) hx hb dX7_of_28 (by rw [q6]; decide) (by rw [q6]; decide) (by rw [q6]; rfl) (by decide) ?_
                    refine lv_aload_n hx hb dX7_of_121 rfl (lv_at hl 0 rfl) ?_
                    refine lv_iload_n hx hb dX7_of_122 rfl (lv_at hl 1 rfl) ?_
                    refine x_callVr (rest := []) hx hb hml hT hown hK hA B hl.1 (c_X7_byesOf l D cI cZ a w1) mi_X7_byesOf mv_X7_byesOf mO_M rfl q913 ⟨rfl, rfl⟩ ⟨Nat.le_of_ble_eq_true rfl, Nat.le_of_ble_eq_true rfl⟩ rfl rfl (Nat.le_of_ble_eq_true rfl) dX7_of_123 hm (fun x9 H locs B hm => ?_)
                    exact x_iret hx hb hr hlk hK B dX7_of_126 hm
                  · have hm := iff hm q6
                    by_cases q7 : w2 = (8 : Int32)
                    · have hm := ift hm q7
                      refine lv_tableIn (off := 72) (tgt := 100) hx hb dX7_of_28 (by rw [q7]; decide) (by rw [q7]; decide) (by rw [q7]; rfl) (by decide) ?_
                      refine lv_aload_n hx hb dX7_of_100 rfl (lv_at hl 0 rfl) ?_
                      refine lv_iload_n hx hb dX7_of_101 rfl (lv_at hl 1 rfl) ?_
                      refine x_callVr (rest := []) hx hb hml hT hown hK hA B hl.1 (c_X7_playedMany l D cI cZ a w1) mi_X7_playedMany mv_X7_playedMany mO_M rfl q928 ⟨rfl, rfl⟩ ⟨Nat.le_of_ble_eq_true rfl, Nat.le_of_ble_eq_true rfl⟩ rfl rfl (Nat.le_of_ble_eq_true rfl) dX7_of_102 hm (fun x10 H locs B hm => ?_)
                      exact x_iret hx hb hr hlk hK B dX7_of_105 hm
                    · have hm := iff hm q7
                      have z0 := lv_neT (k := (0 : Int32)) (a := 0) q0 (by decide)
                      have z1 := lv_neT (k := (1 : Int32)) (a := 1) q1 (by decide)
                      have z2 := lv_neT (k := (2 : Int32)) (a := 2) q2 (by decide)
                      have z3 := lv_neT (k := (3 : Int32)) (a := 3) q3 (by decide)
                      have z4 := lv_neT (k := (4 : Int32)) (a := 4) q4 (by decide)
                      have z5 := lv_neT (k := (5 : Int32)) (a := 5) q5 (by decide)
                      have z6 := lv_neT (k := (6 : Int32)) (a := 6) q6 (by decide)
                      have z7 := lv_neT (k := (8 : Int32)) (a := 8) q7 (by decide)
                      have dflt : W p l e ({ frames := 4, cells := 0, slots := 0, locals := 92 } : Room) s m ([.ref (a 0), .int w1, .int w2] : List Value).toArray below meth c H locs 0 0 (MQ below (QI D [(cI, FieldType.int), (cZ, FieldType.boolean)] (mW cI cZ a) A out) ([.ref (a 0), .int w1, .int w2] : List Value).toArray s 0 0 A) (F0 m 127 ls []) := by
                        refine lv_aload_n hx hb dX7_of_127 rfl (lv_at hl 0 rfl) ?_
                        refine lv_iload_n hx hb dX7_of_128 rfl (lv_at hl 1 rfl) ?_
                        refine x_callVr (rest := []) hx hb hml hT hown hK hA B hl.1 (c_X7_forfeitsOf l D cI cZ a w1) mi_X7_forfeitsOf mv_X7_forfeitsOf mO_M rfl q916 ⟨rfl, rfl⟩ ⟨Nat.le_of_ble_eq_true rfl, Nat.le_of_ble_eq_true rfl⟩ rfl rfl (Nat.le_of_ble_eq_true rfl) dX7_of_129 hm (fun x11 H locs B hm => ?_)
                        exact x_iret hx hb hr hlk hK B dX7_of_132 hm
                      by_cases zz : (w2).toInt < 0 ∨ 8 < (w2).toInt
                      · exact lv_tableOut (tgt := 127) hx hb dX7_of_28 zz (by decide) dflt
                      · rcases (show (w2).toInt = 7 by omega) with zy <;> exact lv_tableIn (off := 99) (tgt := 127) hx hb dX7_of_28 (by rw [zy]; decide) (by rw [zy]; decide) (by rw [zy]; rfl) (by decide) dflt
    · have hm := ift hm q
      refine lv_iconst (v := (-1 : Int32)) hx hb dX7_of_25 (by decide) ?_
      exact x_iret hx hb hr hlk hK B dX7_of_26 hm
def f_X7_tie (σ : Mm) (w1 : Int32) (w2 : Int32) : Option (Int32 × Mm) :=
  (some (sc σ 12 (0 : Int32))).bind fun σ =>
  (f_X7_isPlayer σ w1).bind fun x1 =>
  if x1 = 0 then
    some ((-1 : Int32), σ)
  else
    (f_X7_in (w2.toInt64) (0 : Int64) (8 : Int64)).bind fun x2 =>
    if x2 = 0 then
      some ((-1 : Int32), σ)
    else
      (f_X7_tieOf σ w1 w2).bind fun x3 =>
      some (x3, σ)
set_option maxHeartbeats 4000000 in
set_option maxRecDepth 100000 in
theorem c_X7_tie (l : Launch) (D : va_G) (cI cZ : ClassId) (a : Nat → Nat) (w1 : Int32) (w2 : Int32) : CTi l D [(cI, FieldType.int), (cZ, FieldType.boolean)] (mW cI cZ a) yX7_tie (.code yX7_tie cX7_tie 3 (some FieldType.int) :: wsL_law) ({ frames := 6, cells := 0, slots := 0, locals := 141 } : Room) [.ref (a 0), .int w1, .int w2] (fun σ => f_X7_tie σ w1 w2) := by
  refine CTi.of (by decide +kernel) (Nat.le_of_ble_eq_true rfl) ?_
  intro σ out hm p e s m below meth c A ls H locs hx hb hr hlk hml hT hown hK hA B hl
  have hown : s.vm.findClass RX7 = some m.cls := hown
  have hl : lv_has ls 3 [(0, .ref (a 0)), (1, .int w1), (2, .int w2)] := hl
  have hm : f_X7_tie σ w1 w2 = some out := hm
  unfold f_X7_tie at hm
  refine lv_aload_n hx hb dX7_tie_0 rfl (lv_at hl 0 rfl) ?_
  refine lv_iconst (v := (0 : Int32)) hx hb dX7_tie_1 (by decide) ?_
  refine x_puti (T := TX7) (N := 33) hx hb hT hown hK B mI_thrown inlX7 tyX7_ok nmX7 rfl (by decide) q777 rfl rfl rfl rfl rfl dX7_tie_2 hm (fun σ H locs B hm => ?_)
  refine lv_aload_n hx hb dX7_tie_5 rfl (lv_at hl 0 rfl) ?_
  refine lv_iload_n hx hb dX7_tie_6 rfl (lv_at hl 1 rfl) ?_
  refine x_callVr (rest := []) hx hb hml hT hown hK hA B hl.1 (c_X7_isPlayer l D cI cZ a w1) mi_X7_isPlayer mv_X7_isPlayer mO_M rfl q963 ⟨rfl, rfl⟩ ⟨Nat.le_of_ble_eq_true rfl, Nat.le_of_ble_eq_true rfl⟩ rfl rfl (Nat.le_of_ble_eq_true rfl) dX7_tie_7 hm (fun x1 H locs B hm => ?_)
  refine lv_if_eq (tgt := 34) hx hb dX7_tie_10 (by decide) (fun q => ?_) (fun q => ?_)
  · have hm := ift hm q
    refine lv_iconst (v := (-1 : Int32)) hx hb dX7_tie_34 (by decide) ?_
    exact x_iret hx hb hr hlk hK B dX7_tie_35 hm
  · have hm := iff hm q
    refine lv_iload_n hx hb dX7_tie_13 rfl (lv_at hl 2 rfl) ?_
    refine lv_i2l (v := w2.toInt64) hx hb dX7_tie_14 rfl ?_
    refine lv_lconst (v := 0) hx hb dX7_tie_15 (by decide) ?_
    refine lv_ldc2 (v := 8) hx hb hown (hT _ q978) dX7_tie_16 ?_
    refine x_callSr (rest := []) hx hb hml hT hown hK hA B hl.1 (c_X7_in l D cI cZ (mW cI cZ a) (w2.toInt64) (0 : Int64) (8 : Int64)) mi_X7_in q881 q880 ⟨rfl, rfl⟩ ⟨Nat.le_of_ble_eq_true rfl, Nat.le_of_ble_eq_true rfl⟩ rfl rfl (Nat.le_of_ble_eq_true rfl) dX7_tie_19 hm (fun x2 H locs B hm => ?_)
    refine lv_if_eq (tgt := 34) hx hb dX7_tie_22 (by decide) (fun q => ?_) (fun q => ?_)
    · have hm := ift hm q
      refine lv_iconst (v := (-1 : Int32)) hx hb dX7_tie_34 (by decide) ?_
      exact x_iret hx hb hr hlk hK B dX7_tie_35 hm
    · have hm := iff hm q
      refine lv_aload_n hx hb dX7_tie_25 rfl (lv_at hl 0 rfl) ?_
      refine lv_iload_n hx hb dX7_tie_26 rfl (lv_at hl 1 rfl) ?_
      refine lv_iload_n hx hb dX7_tie_27 rfl (lv_at hl 2 rfl) ?_
      refine x_callVr (rest := []) hx hb hml hT hown hK hA B hl.1 (c_X7_tieOf l D cI cZ a w1 w2) mi_X7_tieOf mv_X7_tieOf mO_M rfl q851 ⟨rfl, rfl⟩ ⟨Nat.le_of_ble_eq_true rfl, Nat.le_of_ble_eq_true rfl⟩ rfl rfl (Nat.le_of_ble_eq_true rfl) dX7_tie_28 hm (fun x3 H locs B hm => ?_)
      refine lv_goto (tgt := 35) hx hb dX7_tie_31 (by decide) ?_
      exact x_iret hx hb hr hlk hK B dX7_tie_35 hm
def f_X7_rank (σ : Mm) (w1 : Int32) : Option (Int32 × Mm) :=
  (some (sc σ 12 (0 : Int32))).bind fun σ =>
  (f_X7_isPlayer σ w1).bind fun x1 =>
  if x1 = 0 then
    some ((-1 : Int32), σ)
  else
    (f_X7_layStanding σ).bind fun σ =>
    (f_X7_aheadOf σ w1).bind fun x2 =>
    some (x2, σ)
set_option maxHeartbeats 4000000 in
set_option maxRecDepth 100000 in
theorem c_X7_rank (l : Launch) (D : va_G) (cI cZ : ClassId) (a : Nat → Nat) (w1 : Int32) : CTi l D [(cI, FieldType.int), (cZ, FieldType.boolean)] (mW cI cZ a) yX7_rank (.code yX7_rank cX7_rank 2 (some FieldType.int) :: wsL_law) ({ frames := 7, cells := 0, slots := 0, locals := 163 } : Room) [.ref (a 0), .int w1] (fun σ => f_X7_rank σ w1) := by
  refine CTi.of (by decide +kernel) (Nat.le_of_ble_eq_true rfl) ?_
  intro σ out hm p e s m below meth c A ls H locs hx hb hr hlk hml hT hown hK hA B hl
  have hown : s.vm.findClass RX7 = some m.cls := hown
  have hl : lv_has ls 2 [(0, .ref (a 0)), (1, .int w1)] := hl
  have hm : f_X7_rank σ w1 = some out := hm
  unfold f_X7_rank at hm
  refine lv_aload_n hx hb dX7_rank_0 rfl (lv_at hl 0 rfl) ?_
  refine lv_iconst (v := (0 : Int32)) hx hb dX7_rank_1 (by decide) ?_
  refine x_puti (T := TX7) (N := 33) hx hb hT hown hK B mI_thrown inlX7 tyX7_ok nmX7 rfl (by decide) q777 rfl rfl rfl rfl rfl dX7_rank_2 hm (fun σ H locs B hm => ?_)
  refine lv_aload_n hx hb dX7_rank_5 rfl (lv_at hl 0 rfl) ?_
  refine lv_iload_n hx hb dX7_rank_6 rfl (lv_at hl 1 rfl) ?_
  refine x_callVr (rest := []) hx hb hml hT hown hK hA B hl.1 (c_X7_isPlayer l D cI cZ a w1) mi_X7_isPlayer mv_X7_isPlayer mO_M rfl q963 ⟨rfl, rfl⟩ ⟨Nat.le_of_ble_eq_true rfl, Nat.le_of_ble_eq_true rfl⟩ rfl rfl (Nat.le_of_ble_eq_true rfl) dX7_rank_7 hm (fun x1 H locs B hm => ?_)
  refine lv_if_ne (tgt := 15) hx hb dX7_rank_10 (by decide) (fun q => ?_) (fun q => ?_)
  · have hm := iff hm q
    refine lv_aload_n hx hb dX7_rank_15 rfl (lv_at hl 0 rfl) ?_
    refine x_callVv (rest := []) hx hb hml hT hown hK hA B hl.1 (c_X7_layStanding l D cI cZ a) mi_X7_layStanding mv_X7_layStanding mO_M rfl q848 ⟨rfl, rfl⟩ ⟨Nat.le_of_ble_eq_true rfl, Nat.le_of_ble_eq_true rfl⟩ rfl rfl (Nat.le_of_ble_eq_true rfl) dX7_rank_16 hm (fun σ H locs B hm => ?_)
    refine lv_aload_n hx hb dX7_rank_19 rfl (lv_at hl 0 rfl) ?_
    refine lv_iload_n hx hb dX7_rank_20 rfl (lv_at hl 1 rfl) ?_
    refine x_callVr (rest := []) hx hb hml hT hown hK hA B hl.1 (c_X7_aheadOf l D cI cZ a w1) mi_X7_aheadOf mv_X7_aheadOf mO_M rfl q901 ⟨rfl, rfl⟩ ⟨Nat.le_of_ble_eq_true rfl, Nat.le_of_ble_eq_true rfl⟩ rfl rfl (Nat.le_of_ble_eq_true rfl) dX7_rank_21 hm (fun x2 H locs B hm => ?_)
    exact x_iret hx hb hr hlk hK B dX7_rank_24 hm
  · have hm := ift hm q
    refine lv_iconst (v := (-1 : Int32)) hx hb dX7_rank_13 (by decide) ?_
    exact x_iret hx hb hr hlk hK B dX7_rank_14 hm
def f_X7_nth (σ : Mm) (w1 : Int32) : Option (Int32 × Mm) :=
  (some (sc σ 12 (0 : Int32))).bind fun σ =>
  (f_X7_layStanding σ).bind fun σ =>
  (f_X7_isPlayer σ w1).bind fun x1 =>
  if x1 = 0 then
    some ((-1 : Int32), σ)
  else
    (ald 12 (σ 14) w1).bind fun x2 =>
    some (x2, σ)
set_option maxHeartbeats 4000000 in
set_option maxRecDepth 100000 in
theorem c_X7_nth (l : Launch) (D : va_G) (cI cZ : ClassId) (a : Nat → Nat) (w1 : Int32) : CTi l D [(cI, FieldType.int), (cZ, FieldType.boolean)] (mW cI cZ a) yX7_nth (.code yX7_nth cX7_nth 2 (some FieldType.int) :: wsL_law) ({ frames := 7, cells := 0, slots := 0, locals := 163 } : Room) [.ref (a 0), .int w1] (fun σ => f_X7_nth σ w1) := by
  refine CTi.of (by decide +kernel) (Nat.le_of_ble_eq_true rfl) ?_
  intro σ out hm p e s m below meth c A ls H locs hx hb hr hlk hml hT hown hK hA B hl
  have hown : s.vm.findClass RX7 = some m.cls := hown
  have hl : lv_has ls 2 [(0, .ref (a 0)), (1, .int w1)] := hl
  have hm : f_X7_nth σ w1 = some out := hm
  unfold f_X7_nth at hm
  refine lv_aload_n hx hb dX7_nth_0 rfl (lv_at hl 0 rfl) ?_
  refine lv_iconst (v := (0 : Int32)) hx hb dX7_nth_1 (by decide) ?_
  refine x_puti (T := TX7) (N := 33) hx hb hT hown hK B mI_thrown inlX7 tyX7_ok nmX7 rfl (by decide) q777 rfl rfl rfl rfl rfl dX7_nth_2 hm (fun σ H locs B hm => ?_)
  refine lv_aload_n hx hb dX7_nth_5 rfl (lv_at hl 0 rfl) ?_
  refine x_callVv (rest := []) hx hb hml hT hown hK hA B hl.1 (c_X7_layStanding l D cI cZ a) mi_X7_layStanding mv_X7_layStanding mO_M rfl q848 ⟨rfl, rfl⟩ ⟨Nat.le_of_ble_eq_true rfl, Nat.le_of_ble_eq_true rfl⟩ rfl rfl (Nat.le_of_ble_eq_true rfl) dX7_nth_6 hm (fun σ H locs B hm => ?_)
  refine lv_aload_n hx hb dX7_nth_9 rfl (lv_at hl 0 rfl) ?_
  refine lv_iload_n hx hb dX7_nth_10 rfl (lv_at hl 1 rfl) ?_
  refine x_callVr (rest := []) hx hb hml hT hown hK hA B hl.1 (c_X7_isPlayer l D cI cZ a w1) mi_X7_isPlayer mv_X7_isPlayer mO_M rfl q963 ⟨rfl, rfl⟩ ⟨Nat.le_of_ble_eq_true rfl, Nat.le_of_ble_eq_true rfl⟩ rfl rfl (Nat.le_of_ble_eq_true rfl) dX7_nth_11 hm (fun x1 H locs B hm => ?_)
  refine lv_if_eq (tgt := 26) hx hb dX7_nth_14 (by decide) (fun q => ?_) (fun q => ?_)
  · have hm := ift hm q
    refine lv_iconst (v := (-1 : Int32)) hx hb dX7_nth_26 (by decide) ?_
    exact x_iret hx hb hr hlk hK B dX7_nth_27 hm
  · have hm := iff hm q
    refine lv_aload_n hx hb dX7_nth_17 rfl (lv_at hl 0 rfl) ?_
    refine x_getv (T := TX7) (N := 33) hx hb hT hown hK B mV_standing inlX7 rfl (by decide) q779 rfl dX7_nth_18 ?_
    refine lv_iload_n hx hb dX7_nth_21 rfl (lv_at hl 1 rfl) ?_
    refine x_iald (t0 := 0) hx hb hK B mA_standing rfl dX7_nth_22 hm (fun x2 hm => ?_)
    refine lv_goto (tgt := 27) hx hb dX7_nth_23 (by decide) ?_
    exact x_iret hx hb hr hlk hK B dX7_nth_27 hm
def f_X7_explain (σ : Mm) (w1 : Int32) (w2 : Int32) (w3 : Int32) : Option (Int32 × Mm) :=
  (some (sc σ 12 (0 : Int32))).bind fun σ =>
  (f_X7_areTwo σ w1 w2).bind fun x1 =>
  if x1 = 0 then
    some ((-1 : Int32), σ)
  else
    (f_X7_in (w3.toInt64) (0 : Int64) (1 : Int64)).bind fun x2 =>
    if x2 = 0 then
      some ((-1 : Int32), σ)
    else
      (f_X7_layStanding σ).bind fun σ =>
      (f_X7_differsIn σ w1 w2).bind fun x3 =>
      if w3 = 0 then
        if 0 ≤ x3 then
          some (x3, σ)
        else
          some ((-5 : Int32), σ)
      else
        if 0 ≤ x3 then
          (ald 108 (σ 13) (((9 : Int32) * w1) + x3)).bind fun x4 =>
          (ald 108 (σ 13) (((9 : Int32) * w2) + x3)).bind fun x5 =>
          some ((x4 - x5), σ)
        else
          some ((w2 - w1), σ)
set_option maxHeartbeats 4000000 in
set_option maxRecDepth 100000 in
theorem c_X7_explain (l : Launch) (D : va_G) (cI cZ : ClassId) (a : Nat → Nat) (w1 : Int32) (w2 : Int32) (w3 : Int32) : CTi l D [(cI, FieldType.int), (cZ, FieldType.boolean)] (mW cI cZ a) yX7_explain (.code yX7_explain cX7_explain 5 (some FieldType.int) :: wsL_law) ({ frames := 7, cells := 0, slots := 0, locals := 163 } : Room) [.ref (a 0), .int w1, .int w2, .int w3] (fun σ => f_X7_explain σ w1 w2 w3) := by
  refine CTi.of (by decide +kernel) (Nat.le_of_ble_eq_true rfl) ?_
  intro σ out hm p e s m below meth c A ls H locs hx hb hr hlk hml hT hown hK hA B hl
  have hown : s.vm.findClass RX7 = some m.cls := hown
  have hl : lv_has ls 5 [(0, .ref (a 0)), (1, .int w1), (2, .int w2), (3, .int w3)] := hl
  have hm : f_X7_explain σ w1 w2 w3 = some out := hm
  unfold f_X7_explain at hm
  refine lv_aload_n hx hb dX7_explain_0 rfl (lv_at hl 0 rfl) ?_
  refine lv_iconst (v := (0 : Int32)) hx hb dX7_explain_1 (by decide) ?_
  refine x_puti (T := TX7) (N := 33) hx hb hT hown hK B mI_thrown inlX7 tyX7_ok nmX7 rfl (by decide) q777 rfl rfl rfl rfl rfl dX7_explain_2 hm (fun σ H locs B hm => ?_)
  refine lv_aload_n hx hb dX7_explain_5 rfl (lv_at hl 0 rfl) ?_
  refine lv_iload_n hx hb dX7_explain_6 rfl (lv_at hl 1 rfl) ?_
  refine lv_iload_n hx hb dX7_explain_7 rfl (lv_at hl 2 rfl) ?_
  refine x_callVr (rest := []) hx hb hml hT hown hK hA B hl.1 (c_X7_areTwo l D cI cZ a w1 w2) mi_X7_areTwo mv_X7_areTwo mO_M rfl q995 ⟨rfl, rfl⟩ ⟨Nat.le_of_ble_eq_true rfl, Nat.le_of_ble_eq_true rfl⟩ rfl rfl (Nat.le_of_ble_eq_true rfl) dX7_explain_8 hm (fun x1 H locs B hm => ?_)
  refine lv_if_eq (tgt := 24) hx hb dX7_explain_11 (by decide) (fun q => ?_) (fun q => ?_)
  · have hm := ift hm q
    refine lv_iconst (v := (-1 : Int32)) hx hb dX7_explain_24 (by decide) ?_
    exact x_iret hx hb hr hlk hK B dX7_explain_25 hm
  · have hm := iff hm q
    refine lv_iload_n hx hb dX7_explain_14 rfl (lv_at hl 3 rfl) ?_
    refine lv_i2l (v := w3.toInt64) hx hb dX7_explain_15 rfl ?_
    refine lv_lconst (v := 0) hx hb dX7_explain_16 (by decide) ?_
    refine lv_lconst (v := 1) hx hb dX7_explain_17 (by decide) ?_
    refine x_callSr (rest := []) hx hb hml hT hown hK hA B hl.1 (c_X7_in l D cI cZ (mW cI cZ a) (w3.toInt64) (0 : Int64) (1 : Int64)) mi_X7_in q881 q880 ⟨rfl, rfl⟩ ⟨Nat.le_of_ble_eq_true rfl, Nat.le_of_ble_eq_true rfl⟩ rfl rfl (Nat.le_of_ble_eq_true rfl) dX7_explain_18 hm (fun x2 H locs B hm => ?_)
    refine lv_if_ne (tgt := 26) hx hb dX7_explain_21 (by decide) (fun q => ?_) (fun q => ?_)
    · have hm := iff hm q
      refine lv_aload_n hx hb dX7_explain_26 rfl (lv_at hl 0 rfl) ?_
      refine x_callVv (rest := []) hx hb hml hT hown hK hA B hl.1 (c_X7_layStanding l D cI cZ a) mi_X7_layStanding mv_X7_layStanding mO_M rfl q848 ⟨rfl, rfl⟩ ⟨Nat.le_of_ble_eq_true rfl, Nat.le_of_ble_eq_true rfl⟩ rfl rfl (Nat.le_of_ble_eq_true rfl) dX7_explain_27 hm (fun σ H locs B hm => ?_)
      refine lv_aload_n hx hb dX7_explain_30 rfl (lv_at hl 0 rfl) ?_
      refine lv_iload_n hx hb dX7_explain_31 rfl (lv_at hl 1 rfl) ?_
      refine lv_iload_n hx hb dX7_explain_32 rfl (lv_at hl 2 rfl) ?_
      refine x_callVr (rest := []) hx hb hml hT hown hK hA B hl.1 (c_X7_differsIn l D cI cZ a w1 w2) mi_X7_differsIn mv_X7_differsIn mO_M rfl q907 ⟨rfl, rfl⟩ ⟨Nat.le_of_ble_eq_true rfl, Nat.le_of_ble_eq_true rfl⟩ rfl rfl (Nat.le_of_ble_eq_true rfl) dX7_explain_33 hm (fun x3 H locs B hm => ?_)
      refine lv_istore (lv' := [(4, .int x3), (0, .ref (a 0)), (1, .int w1), (2, .int w2), (3, .int w3)]) hx hb dX7_explain_36 hl (by decide) rfl (fun ls hl => ?_)
      refine lv_iload_n hx hb dX7_explain_38 rfl (lv_at hl 4 rfl) ?_
      refine lv_if_ne (tgt := 55) hx hb dX7_explain_39 (by decide) (fun q => ?_) (fun q => ?_)
      · have hm := iff hm q
        refine lv_iload hx hb dX7_explain_55 (lv_at hl 0 rfl) ?_
        refine lv_if_ge (tgt := 66) hx hb dX7_explain_57 (by decide) (fun q => ?_) (fun q => ?_)
        · have hm := ift hm q
          refine lv_aload_n hx hb dX7_explain_66 rfl (lv_at hl 1 rfl) ?_
          refine x_getv (T := TX7) (N := 33) hx hb hT hown hK B mV_tiesOf inlX7 rfl (by decide) q778 rfl dX7_explain_67 ?_
          refine lv_bipush (v := (9 : Int32)) hx hb dX7_explain_70 (by decide) ?_
          refine lv_iload_n hx hb dX7_explain_72 rfl (lv_at hl 2 rfl) ?_
          refine lv_imul hx hb dX7_explain_73 ?_
          refine lv_iload hx hb dX7_explain_74 (lv_at hl 0 rfl) ?_
          refine lv_iadd hx hb dX7_explain_76 ?_
          refine x_iald (t0 := 0) hx hb hK B mA_tiesOf rfl dX7_explain_77 hm (fun x4 hm => ?_)
          refine lv_aload_n hx hb dX7_explain_78 rfl (lv_at hl 1 rfl) ?_
          refine x_getv (T := TX7) (N := 33) hx hb hT hown hK B mV_tiesOf inlX7 rfl (by decide) q778 rfl dX7_explain_79 ?_
          refine lv_bipush (v := (9 : Int32)) hx hb dX7_explain_82 (by decide) ?_
          refine lv_iload_n hx hb dX7_explain_84 rfl (lv_at hl 3 rfl) ?_
          refine lv_imul hx hb dX7_explain_85 ?_
          refine lv_iload hx hb dX7_explain_86 (lv_at hl 0 rfl) ?_
          refine lv_iadd hx hb dX7_explain_88 ?_
          refine x_iald (t0 := 0) hx hb hK B mA_tiesOf rfl dX7_explain_89 hm (fun x5 hm => ?_)
          refine lv_isub hx hb dX7_explain_90 ?_
          exact x_iret hx hb hr hlk hK B dX7_explain_91 hm
        · have hm := iff hm q
          refine lv_iload_n hx hb dX7_explain_60 rfl (lv_at hl 3 rfl) ?_
          refine lv_iload_n hx hb dX7_explain_61 rfl (lv_at hl 2 rfl) ?_
          refine lv_isub hx hb dX7_explain_62 ?_
          refine lv_goto (tgt := 91) hx hb dX7_explain_63 (by decide) ?_
          exact x_iret hx hb hr hlk hK B dX7_explain_91 hm
      · have hm := ift hm q
        refine lv_iload hx hb dX7_explain_42 (lv_at hl 0 rfl) ?_
        refine lv_if_ge (tgt := 52) hx hb dX7_explain_44 (by decide) (fun q => ?_) (fun q => ?_)
        · have hm := ift hm q
          refine lv_iload hx hb dX7_explain_52 (lv_at hl 0 rfl) ?_
          exact x_iret hx hb hr hlk hK B dX7_explain_54 hm
        · have hm := iff hm q
          refine lv_bipush (v := (-5 : Int32)) hx hb dX7_explain_47 (by decide) ?_
          refine lv_goto (tgt := 54) hx hb dX7_explain_49 (by decide) ?_
          exact x_iret hx hb hr hlk hK B dX7_explain_54 hm
    · have hm := ift hm q
      refine lv_iconst (v := (-1 : Int32)) hx hb dX7_explain_24 (by decide) ?_
      exact x_iret hx hb hr hlk hK B dX7_explain_25 hm
def f_X7_met (σ : Mm) (w1 : Int32) (w2 : Int32) : Option (Int32 × Mm) :=
  (some (sc σ 12 (0 : Int32))).bind fun σ =>
  (f_X7_areTwo σ w1 w2).bind fun x1 =>
  if x1 = 0 then
    some ((-1 : Int32), σ)
  else
    (f_X7_metIn σ w1 w2).bind fun x2 =>
    some (x2, σ)
set_option maxHeartbeats 4000000 in
set_option maxRecDepth 100000 in
theorem c_X7_met (l : Launch) (D : va_G) (cI cZ : ClassId) (a : Nat → Nat) (w1 : Int32) (w2 : Int32) : CTi l D [(cI, FieldType.int), (cZ, FieldType.boolean)] (mW cI cZ a) yX7_met (.code yX7_met cX7_met 3 (some FieldType.int) :: wsL_law) ({ frames := 3, cells := 0, slots := 0, locals := 73 } : Room) [.ref (a 0), .int w1, .int w2] (fun σ => f_X7_met σ w1 w2) := by
  refine CTi.of (by decide +kernel) (Nat.le_of_ble_eq_true rfl) ?_
  intro σ out hm p e s m below meth c A ls H locs hx hb hr hlk hml hT hown hK hA B hl
  have hown : s.vm.findClass RX7 = some m.cls := hown
  have hl : lv_has ls 3 [(0, .ref (a 0)), (1, .int w1), (2, .int w2)] := hl
  have hm : f_X7_met σ w1 w2 = some out := hm
  unfold f_X7_met at hm
  refine lv_aload_n hx hb dX7_met_0 rfl (lv_at hl 0 rfl) ?_
  refine lv_iconst (v := (0 : Int32)) hx hb dX7_met_1 (by decide) ?_
  refine x_puti (T := TX7) (N := 33) hx hb hT hown hK B mI_thrown inlX7 tyX7_ok nmX7 rfl (by decide) q777 rfl rfl rfl rfl rfl dX7_met_2 hm (fun σ H locs B hm => ?_)
  refine lv_aload_n hx hb dX7_met_5 rfl (lv_at hl 0 rfl) ?_
  refine lv_iload_n hx hb dX7_met_6 rfl (lv_at hl 1 rfl) ?_
  refine lv_iload_n hx hb dX7_met_7 rfl (lv_at hl 2 rfl) ?_
  refine x_callVr (rest := []) hx hb hml hT hown hK hA B hl.1 (c_X7_areTwo l D cI cZ a w1 w2) mi_X7_areTwo mv_X7_areTwo mO_M rfl q995 ⟨rfl, rfl⟩ ⟨Nat.le_of_ble_eq_true rfl, Nat.le_of_ble_eq_true rfl⟩ rfl rfl (Nat.le_of_ble_eq_true rfl) dX7_met_8 hm (fun x1 H locs B hm => ?_)
  refine lv_if_eq (tgt := 23) hx hb dX7_met_11 (by decide) (fun q => ?_) (fun q => ?_)
  · have hm := ift hm q
    refine lv_iconst (v := (-1 : Int32)) hx hb dX7_met_23 (by decide) ?_
    exact x_iret hx hb hr hlk hK B dX7_met_24 hm
  · have hm := iff hm q
    refine lv_aload_n hx hb dX7_met_14 rfl (lv_at hl 0 rfl) ?_
    refine lv_iload_n hx hb dX7_met_15 rfl (lv_at hl 1 rfl) ?_
    refine lv_iload_n hx hb dX7_met_16 rfl (lv_at hl 2 rfl) ?_
    refine x_callVr (rest := []) hx hb hml hT hown hK hA B hl.1 (c_X7_metIn l D cI cZ a w1 w2) mi_X7_metIn mv_X7_metIn mO_M rfl q919 ⟨rfl, rfl⟩ ⟨Nat.le_of_ble_eq_true rfl, Nat.le_of_ble_eq_true rfl⟩ rfl rfl (Nat.le_of_ble_eq_true rfl) dX7_met_17 hm (fun x2 H locs B hm => ?_)
    refine lv_goto (tgt := 24) hx hb dX7_met_20 (by decide) ?_
    exact x_iret hx hb hr hlk hK B dX7_met_24 hm
def f_X7_cost (σ : Mm) (w1 : Int32) (w2 : Int32) : Option (Int32 × Mm) :=
  (some (sc σ 12 (0 : Int32))).bind fun σ =>
  (f_X7_areTwo σ w1 w2).bind fun x1 =>
  if x1 = 0 then
    some ((-1 : Int32), σ)
  else
    (f_X7_metIn σ w1 w2).bind fun x2 =>
    if x2 < 0 then
      (f_X7_costOf σ w1 w2).bind fun x3 =>
      some (x3, σ)
    else
      some ((-5 : Int32), σ)
set_option maxHeartbeats 4000000 in
set_option maxRecDepth 100000 in
theorem c_X7_cost (l : Launch) (D : va_G) (cI cZ : ClassId) (a : Nat → Nat) (w1 : Int32) (w2 : Int32) : CTi l D [(cI, FieldType.int), (cZ, FieldType.boolean)] (mW cI cZ a) yX7_cost (.code yX7_cost cX7_cost 3 (some FieldType.int) :: wsL_law) ({ frames := 5, cells := 0, slots := 0, locals := 118 } : Room) [.ref (a 0), .int w1, .int w2] (fun σ => f_X7_cost σ w1 w2) := by
  refine CTi.of (by decide +kernel) (Nat.le_of_ble_eq_true rfl) ?_
  intro σ out hm p e s m below meth c A ls H locs hx hb hr hlk hml hT hown hK hA B hl
  have hown : s.vm.findClass RX7 = some m.cls := hown
  have hl : lv_has ls 3 [(0, .ref (a 0)), (1, .int w1), (2, .int w2)] := hl
  have hm : f_X7_cost σ w1 w2 = some out := hm
  unfold f_X7_cost at hm
  refine lv_aload_n hx hb dX7_cost_0 rfl (lv_at hl 0 rfl) ?_
  refine lv_iconst (v := (0 : Int32)) hx hb dX7_cost_1 (by decide) ?_
  refine x_puti (T := TX7) (N := 33) hx hb hT hown hK B mI_thrown inlX7 tyX7_ok nmX7 rfl (by decide) q777 rfl rfl rfl rfl rfl dX7_cost_2 hm (fun σ H locs B hm => ?_)
  refine lv_aload_n hx hb dX7_cost_5 rfl (lv_at hl 0 rfl) ?_
  refine lv_iload_n hx hb dX7_cost_6 rfl (lv_at hl 1 rfl) ?_
  refine lv_iload_n hx hb dX7_cost_7 rfl (lv_at hl 2 rfl) ?_
  refine x_callVr (rest := []) hx hb hml hT hown hK hA B hl.1 (c_X7_areTwo l D cI cZ a w1 w2) mi_X7_areTwo mv_X7_areTwo mO_M rfl q995 ⟨rfl, rfl⟩ ⟨Nat.le_of_ble_eq_true rfl, Nat.le_of_ble_eq_true rfl⟩ rfl rfl (Nat.le_of_ble_eq_true rfl) dX7_cost_8 hm (fun x1 H locs B hm => ?_)
  refine lv_if_ne (tgt := 18) hx hb dX7_cost_11 (by decide) (fun q => ?_) (fun q => ?_)
  · have hm := iff hm q
    refine lv_aload_n hx hb dX7_cost_18 rfl (lv_at hl 0 rfl) ?_
    refine lv_iload_n hx hb dX7_cost_19 rfl (lv_at hl 1 rfl) ?_
    refine lv_iload_n hx hb dX7_cost_20 rfl (lv_at hl 2 rfl) ?_
    refine x_callVr (rest := []) hx hb hml hT hown hK hA B hl.1 (c_X7_metIn l D cI cZ a w1 w2) mi_X7_metIn mv_X7_metIn mO_M rfl q919 ⟨rfl, rfl⟩ ⟨Nat.le_of_ble_eq_true rfl, Nat.le_of_ble_eq_true rfl⟩ rfl rfl (Nat.le_of_ble_eq_true rfl) dX7_cost_21 hm (fun x2 H locs B hm => ?_)
    refine lv_if_lt (tgt := 32) hx hb dX7_cost_24 (by decide) (fun q => ?_) (fun q => ?_)
    · have hm := ift hm q
      refine lv_aload_n hx hb dX7_cost_32 rfl (lv_at hl 0 rfl) ?_
      refine lv_iload_n hx hb dX7_cost_33 rfl (lv_at hl 1 rfl) ?_
      refine lv_iload_n hx hb dX7_cost_34 rfl (lv_at hl 2 rfl) ?_
      refine x_callVr (rest := []) hx hb hml hT hown hK hA B hl.1 (c_X7_costOf l D cI cZ a w1 w2) mi_X7_costOf mv_X7_costOf mO_M rfl q922 ⟨rfl, rfl⟩ ⟨Nat.le_of_ble_eq_true rfl, Nat.le_of_ble_eq_true rfl⟩ rfl rfl (Nat.le_of_ble_eq_true rfl) dX7_cost_35 hm (fun x3 H locs B hm => ?_)
      exact x_iret hx hb hr hlk hK B dX7_cost_38 hm
    · have hm := iff hm q
      refine lv_bipush (v := (-5 : Int32)) hx hb dX7_cost_27 (by decide) ?_
      refine lv_goto (tgt := 38) hx hb dX7_cost_29 (by decide) ?_
      exact x_iret hx hb hr hlk hK B dX7_cost_38 hm
  · have hm := ift hm q
    refine lv_iconst (v := (-1 : Int32)) hx hb dX7_cost_14 (by decide) ?_
    refine lv_goto (tgt := 38) hx hb dX7_cost_15 (by decide) ?_
    exact x_iret hx hb hr hlk hK B dX7_cost_38 hm
def f_X7_direct (σ : Mm) (w1 : Int32) (w2 : Int32) : Option (Int32 × Mm) :=
  (some (sc σ 12 (0 : Int32))).bind fun σ =>
  (f_X7_areTwo σ w1 w2).bind fun x1 =>
  if x1 = 0 then
    some ((-1 : Int32), σ)
  else
    (f_X7_metIn σ w1 w2).bind fun x2 =>
    if 0 ≤ x2 then
      (f_X7_playedIn σ w1 x2).bind fun x3 =>
      (f_X7_madeOn σ x3 w1).bind fun x4 =>
      some (x4, σ)
    else
      some ((0 : Int32), σ)
set_option maxHeartbeats 4000000 in
set_option maxRecDepth 100000 in
theorem c_X7_direct (l : Launch) (D : va_G) (cI cZ : ClassId) (a : Nat → Nat) (w1 : Int32) (w2 : Int32) : CTi l D [(cI, FieldType.int), (cZ, FieldType.boolean)] (mW cI cZ a) yX7_direct (.code yX7_direct cX7_direct 4 (some FieldType.int) :: wsL_law) ({ frames := 3, cells := 0, slots := 0, locals := 73 } : Room) [.ref (a 0), .int w1, .int w2] (fun σ => f_X7_direct σ w1 w2) := by
  refine CTi.of (by decide +kernel) (Nat.le_of_ble_eq_true rfl) ?_
  intro σ out hm p e s m below meth c A ls H locs hx hb hr hlk hml hT hown hK hA B hl
  have hown : s.vm.findClass RX7 = some m.cls := hown
  have hl : lv_has ls 4 [(0, .ref (a 0)), (1, .int w1), (2, .int w2)] := hl
  have hm : f_X7_direct σ w1 w2 = some out := hm
  unfold f_X7_direct at hm
  refine lv_aload_n hx hb dX7_direct_0 rfl (lv_at hl 0 rfl) ?_
  refine lv_iconst (v := (0 : Int32)) hx hb dX7_direct_1 (by decide) ?_
  refine x_puti (T := TX7) (N := 33) hx hb hT hown hK B mI_thrown inlX7 tyX7_ok nmX7 rfl (by decide) q777 rfl rfl rfl rfl rfl dX7_direct_2 hm (fun σ H locs B hm => ?_)
  refine lv_aload_n hx hb dX7_direct_5 rfl (lv_at hl 0 rfl) ?_
  refine lv_iload_n hx hb dX7_direct_6 rfl (lv_at hl 1 rfl) ?_
  refine lv_iload_n hx hb dX7_direct_7 rfl (lv_at hl 2 rfl) ?_
  refine x_callVr (rest := []) hx hb hml hT hown hK hA B hl.1 (c_X7_areTwo l D cI cZ a w1 w2) mi_X7_areTwo mv_X7_areTwo mO_M rfl q995 ⟨rfl, rfl⟩ ⟨Nat.le_of_ble_eq_true rfl, Nat.le_of_ble_eq_true rfl⟩ rfl rfl (Nat.le_of_ble_eq_true rfl) dX7_direct_8 hm (fun x1 H locs B hm => ?_)
  refine lv_if_ne (tgt := 16) hx hb dX7_direct_11 (by decide) (fun q => ?_) (fun q => ?_)
  · have hm := iff hm q
    refine lv_aload_n hx hb dX7_direct_16 rfl (lv_at hl 0 rfl) ?_
    refine lv_iload_n hx hb dX7_direct_17 rfl (lv_at hl 1 rfl) ?_
    refine lv_iload_n hx hb dX7_direct_18 rfl (lv_at hl 2 rfl) ?_
    refine x_callVr (rest := []) hx hb hml hT hown hK hA B hl.1 (c_X7_metIn l D cI cZ a w1 w2) mi_X7_metIn mv_X7_metIn mO_M rfl q919 ⟨rfl, rfl⟩ ⟨Nat.le_of_ble_eq_true rfl, Nat.le_of_ble_eq_true rfl⟩ rfl rfl (Nat.le_of_ble_eq_true rfl) dX7_direct_19 hm (fun x2 H locs B hm => ?_)
    refine lv_istore_n (lv' := [(3, .int x2), (0, .ref (a 0)), (1, .int w1), (2, .int w2)]) hx hb dX7_direct_22 rfl hl (by decide) rfl (fun ls hl => ?_)
    refine lv_iload_n hx hb dX7_direct_23 rfl (lv_at hl 0 rfl) ?_
    refine lv_if_ge (tgt := 31) hx hb dX7_direct_24 (by decide) (fun q => ?_) (fun q => ?_)
    · have hm := ift hm q
      refine lv_aload_n hx hb dX7_direct_31 rfl (lv_at hl 1 rfl) ?_
      refine lv_aload_n hx hb dX7_direct_32 rfl (lv_at hl 1 rfl) ?_
      refine lv_iload_n hx hb dX7_direct_33 rfl (lv_at hl 2 rfl) ?_
      refine lv_iload_n hx hb dX7_direct_34 rfl (lv_at hl 0 rfl) ?_
      refine x_callVr (rest := [.ref (a 0)]) hx hb hml hT hown hK hA B hl.1 (c_X7_playedIn l D cI cZ a w1 x2) mi_X7_playedIn mv_X7_playedIn mO_M rfl q876 ⟨rfl, rfl⟩ ⟨Nat.le_of_ble_eq_true rfl, Nat.le_of_ble_eq_true rfl⟩ rfl rfl (Nat.le_of_ble_eq_true rfl) dX7_direct_35 hm (fun x3 H locs B hm => ?_)
      refine lv_iload_n hx hb dX7_direct_38 rfl (lv_at hl 2 rfl) ?_
      refine x_callVr (rest := []) hx hb hml hT hown hK hA B hl.1 (c_X7_madeOn l D cI cZ a x3 w1) mi_X7_madeOn mv_X7_madeOn mO_M rfl q869 ⟨rfl, rfl⟩ ⟨Nat.le_of_ble_eq_true rfl, Nat.le_of_ble_eq_true rfl⟩ rfl rfl (Nat.le_of_ble_eq_true rfl) dX7_direct_39 hm (fun x4 H locs B hm => ?_)
      exact x_iret hx hb hr hlk hK B dX7_direct_42 hm
    · have hm := iff hm q
      refine lv_iconst (v := (0 : Int32)) hx hb dX7_direct_27 (by decide) ?_
      refine lv_goto (tgt := 42) hx hb dX7_direct_28 (by decide) ?_
      exact x_iret hx hb hr hlk hK B dX7_direct_42 hm
  · have hm := ift hm q
    refine lv_iconst (v := (-1 : Int32)) hx hb dX7_direct_14 (by decide) ?_
    exact x_iret hx hb hr hlk hK B dX7_direct_15 hm
def f_X7_divisor_s4 (r4 : Int32 → Int32 → Option Int32) (v2 v3 : Int32) : Option Int32 :=
  if v3 = 0 then
    some v2
  else
    (nz v3 (v2 - v2 / v3 * v3)).bind fun x1 =>
    r4 v3 x1
def f_X7_divisor (w0 : Int32) (w1 : Int32) : Option Int32 :=
  wh2 (f_X7_divisor_s4) 5000 w0 w1
set_option maxHeartbeats 4000000 in
set_option maxRecDepth 100000 in
theorem c_X7_divisor (l : Launch) (D : va_G) (cI cZ : ClassId) (ww : Mm → va_W) (w0 : Int32) (w1 : Int32) : CTr l D [(cI, FieldType.int), (cZ, FieldType.boolean)] ww yX7_divisor (.code yX7_divisor cX7_divisor 5 (some FieldType.int) :: wsL_law) ({ frames := 0, cells := 0, slots := 0, locals := 0 } : Room) [.int w0, .int w1] (fun σ => f_X7_divisor w0 w1) := by
  refine CTr.of (by decide +kernel) (Nat.le_of_ble_eq_true rfl) ?_
  intro σ r hm p e s m below meth c A ls H locs hx hb hr hlk hml hT hown hK hA B hl
  have hown : s.vm.findClass RX7 = some m.cls := hown
  have hl : lv_has ls 5 [(0, .int w0), (1, .int w1)] := hl
  have hm : f_X7_divisor w0 w1 = some r := hm
  unfold f_X7_divisor at hm
  have L4 : ∀ (nn : Nat) (v2 : Int32) (v3 : Int32), wh2 f_X7_divisor_s4 nn v2 v3 = some r → ∀ (H : Heap) (locs : List Loc) (ls : Array Slot), BD D A s.heap (ww σ) H locs → lv_has ls 5 [(2, .int v2), (3, .int v3)] → W p l e ({ frames := 0, cells := 0, slots := 0, locals := 0 } : Room) s m ([.int w0, .int w1] : List Value).toArray below meth c H locs 0 0 (MQ below (QI D [(cI, FieldType.int), (cZ, FieldType.boolean)] ww A (r, σ)) ([.int w0, .int w1] : List Value).toArray s 0 0 A) (F0 m 4 ls []) := by
    refine loop2 (fun r4 ih4 v2 v3 hm H locs ls B hl => ?_)
    unfold f_X7_divisor_s4 at hm
    refine lv_iload_n hx hb dX7_divisor_4 rfl (lv_at hl 1 rfl) ?_
    refine lv_if_eq (tgt := 21) hx hb dX7_divisor_5 (by decide) (fun q => ?_) (fun q => ?_)
    · have hm := ift hm q
      refine lv_iload_n hx hb dX7_divisor_21 rfl (lv_at hl 0 rfl) ?_
      exact x_iretr hx hb hr hlk hK B dX7_divisor_22 hm
    · have hm := iff hm q
      refine lv_iload_n hx hb dX7_divisor_8 rfl (lv_at hl 0 rfl) ?_
      refine lv_iload_n hx hb dX7_divisor_9 rfl (lv_at hl 1 rfl) ?_
      refine x_irem hx hb dX7_divisor_10 hm (fun x1 hm => ?_)
      refine lv_istore (lv' := [(4, .int x1), (2, .int v2), (3, .int v3)]) hx hb dX7_divisor_11 hl (by decide) rfl (fun ls hl => ?_)
      refine lv_iload_n hx hb dX7_divisor_13 rfl (lv_at hl 2 rfl) ?_
      refine lv_istore_n (lv' := [(2, .int v3), (4, .int x1), (3, .int v3)]) hx hb dX7_divisor_14 rfl hl (by decide) rfl (fun ls hl => ?_)
      refine lv_iload hx hb dX7_divisor_15 (lv_at hl 1 rfl) ?_
      refine lv_istore_n (lv' := [(3, .int x1), (2, .int v3), (4, .int x1)]) hx hb dX7_divisor_17 rfl hl (by decide) rfl (fun ls hl => ?_)
      refine lv_goto (tgt := 4) hx hb dX7_divisor_18 (by decide) ?_
      exact ih4 v3 x1 hm H locs ls B (lv_sub hl [1, 0] rfl)
  refine lv_iload_n hx hb dX7_divisor_0 rfl (lv_at hl 0 rfl) ?_
  refine lv_istore_n (lv' := [(2, .int w0), (0, .int w0), (1, .int w1)]) hx hb dX7_divisor_1 rfl hl (by decide) rfl (fun ls hl => ?_)
  refine lv_iload_n hx hb dX7_divisor_2 rfl (lv_at hl 2 rfl) ?_
  refine lv_istore_n (lv' := [(3, .int w1), (2, .int w0), (0, .int w0), (1, .int w1)]) hx hb dX7_divisor_3 rfl hl (by decide) rfl (fun ls hl => ?_)
  exact L4 5000 w0 w1 hm H locs ls B (lv_sub hl [1, 0] rfl)
def f_X7_average_j96 (σ : Mm) (v2 v3 s0 : Int32) : Option (Int32 × Mm) :=
  (f_X7_divisor v3 s0).bind fun x1 =>
  if v2 = 0 then
    (nz x1 (v3 / x1)).bind fun x3 =>
    some (x3, σ)
  else
    (nz x1 (s0 / x1)).bind fun x2 =>
    some (x2, σ)
def f_X7_average_j85 (σ : Mm) (v2 v3 v4 : Int32) : Option (Int32 × Mm) :=
  if v4 = 0 then
    f_X7_average_j96 σ v2 v3 (1 : Int32)
  else
    f_X7_average_j96 σ v2 v3 v4
def f_X7_average_s37 (v1 : Int32) (v2 : Int32) (v4 : Int32) (r37 : Mm → Int32 → Int32 → Option (Int32 × Mm)) (σ : Mm) (v3 v5 : Int32) : Option (Int32 × Mm) :=
  (f_X7_done σ).bind fun x4 =>
  if x4 ≤ v5 then
    f_X7_average_j85 σ v2 v3 v4
  else
    (f_X7_playedIn σ v1 v5).bind fun x5 =>
    if x5 < 0 then
      r37 σ (v3 + (0 : Int32)) (v5 + (1 : Int32))
    else
      (f_X7_otherOn σ x5 v1).bind fun x6 =>
      (ald 12 (σ 1) x6).bind fun x7 =>
      r37 σ (v3 + x7) (v5 + (1 : Int32))
def f_X7_average (σ : Mm) (w1 : Int32) (w2 : Int32) : Option (Int32 × Mm) :=
  (some (sc σ 12 (0 : Int32))).bind fun σ =>
  (f_X7_isPlayer σ w1).bind fun x8 =>
  if x8 = 0 then
    some ((-1 : Int32), σ)
  else
    (f_X7_in (w2.toInt64) (0 : Int64) (1 : Int64)).bind fun x9 =>
    if x9 = 0 then
      some ((-1 : Int32), σ)
    else
      (f_X7_playedMany σ w1).bind fun x10 =>
      wh3 (f_X7_average_s37 w1 w2 x10) 5000 σ (0 : Int32) (0 : Int32)
set_option maxHeartbeats 4000000 in
set_option maxRecDepth 100000 in
theorem c_X7_average (l : Launch) (D : va_G) (cI cZ : ClassId) (a : Nat → Nat) (w1 : Int32) (w2 : Int32) : CTi l D [(cI, FieldType.int), (cZ, FieldType.boolean)] (mW cI cZ a) yX7_average (.code yX7_average cX7_average 7 (some FieldType.int) :: wsL_law) ({ frames := 3, cells := 0, slots := 0, locals := 71 } : Room) [.ref (a 0), .int w1, .int w2] (fun σ => f_X7_average σ w1 w2) := by
  refine CTi.of (by decide +kernel) (Nat.le_of_ble_eq_true rfl) ?_
  intro σ out hm p e s m below meth c A ls H locs hx hb hr hlk hml hT hown hK hA B hl
  have hown : s.vm.findClass RX7 = some m.cls := hown
  have hl : lv_has ls 7 [(0, .ref (a 0)), (1, .int w1), (2, .int w2)] := hl
  have hm : f_X7_average σ w1 w2 = some out := hm
  unfold f_X7_average at hm
  have j96 : ∀ (σ : Mm) (v2 : Int32) (v3 : Int32) (s0 : Int32) (H : Heap) (locs : List Loc) (ls : Array Slot), BD D A s.heap ((mW cI cZ a) σ) H locs → lv_has ls 7 [(2, .int v2), (3, .int v3)] → f_X7_average_j96 σ v2 v3 s0 = some out → W p l e ({ frames := 3, cells := 0, slots := 0, locals := 71 } : Room) s m ([.ref (a 0), .int w1, .int w2] : List Value).toArray below meth c H locs 0 0 (MQ below (QI D [(cI, FieldType.int), (cZ, FieldType.boolean)] (mW cI cZ a) A out) ([.ref (a 0), .int w1, .int w2] : List Value).toArray s 0 0 A) (F0 m 96 ls [.int s0]) := by
    intro σ v2 v3 s0 H locs ls B hl hm
    unfold f_X7_average_j96 at hm
    refine lv_istore (lv' := [(4, .int s0), (2, .int v2), (3, .int v3)]) hx hb dX7_average_96 hl (by decide) rfl (fun ls hl => ?_)
    refine lv_iload_n hx hb dX7_average_98 rfl (lv_at hl 2 rfl) ?_
    refine lv_iload hx hb dX7_average_99 (lv_at hl 0 rfl) ?_
    refine x_callSr (rest := []) hx hb hml hT hown hK hA B hl.1 (c_X7_divisor l D cI cZ (mW cI cZ a) v3 s0) mi_X7_divisor q1015 q1014 ⟨rfl, rfl⟩ ⟨Nat.le_of_ble_eq_true rfl, Nat.le_of_ble_eq_true rfl⟩ rfl rfl (Nat.le_of_ble_eq_true rfl) dX7_average_101 hm (fun x1 H locs B hm => ?_)
    refine lv_istore (lv' := [(5, .int x1), (4, .int s0), (2, .int v2), (3, .int v3)]) hx hb dX7_average_104 hl (by decide) rfl (fun ls hl => ?_)
    refine lv_iload_n hx hb dX7_average_106 rfl (lv_at hl 2 rfl) ?_
    refine lv_if_ne (tgt := 117) hx hb dX7_average_107 (by decide) (fun q => ?_) (fun q => ?_)
    · have hm := iff hm q
      refine lv_iload hx hb dX7_average_117 (lv_at hl 1 rfl) ?_
      refine lv_iload hx hb dX7_average_119 (lv_at hl 0 rfl) ?_
      refine x_idiv hx hb dX7_average_121 hm (fun x2 hm => ?_)
      exact x_iret hx hb hr hlk hK B dX7_average_122 hm
    · have hm := ift hm q
      refine lv_iload_n hx hb dX7_average_110 rfl (lv_at hl 3 rfl) ?_
      refine lv_iload hx hb dX7_average_111 (lv_at hl 0 rfl) ?_
      refine x_idiv hx hb dX7_average_113 hm (fun x3 hm => ?_)
      refine lv_goto (tgt := 122) hx hb dX7_average_114 (by decide) ?_
      exact x_iret hx hb hr hlk hK B dX7_average_122 hm
  have j85 : ∀ (σ : Mm) (v2 : Int32) (v3 : Int32) (v4 : Int32) (H : Heap) (locs : List Loc) (ls : Array Slot), BD D A s.heap ((mW cI cZ a) σ) H locs → lv_has ls 7 [(2, .int v2), (3, .int v3), (4, .int v4)] → f_X7_average_j85 σ v2 v3 v4 = some out → W p l e ({ frames := 3, cells := 0, slots := 0, locals := 71 } : Room) s m ([.ref (a 0), .int w1, .int w2] : List Value).toArray below meth c H locs 0 0 (MQ below (QI D [(cI, FieldType.int), (cZ, FieldType.boolean)] (mW cI cZ a) A out) ([.ref (a 0), .int w1, .int w2] : List Value).toArray s 0 0 A) (F0 m 85 ls []) := by
    intro σ v2 v3 v4 H locs ls B hl hm
    unfold f_X7_average_j85 at hm
    refine lv_iload hx hb dX7_average_85 (lv_at hl 2 rfl) ?_
    refine lv_if_ne (tgt := 94) hx hb dX7_average_87 (by decide) (fun q => ?_) (fun q => ?_)
    · have hm := iff hm q
      refine lv_iload hx hb dX7_average_94 (lv_at hl 2 rfl) ?_
      exact j96 σ v2 v3 v4 H locs ls B (lv_sub hl [0, 1] rfl) hm
    · have hm := ift hm q
      refine lv_iconst (v := (1 : Int32)) hx hb dX7_average_90 (by decide) ?_
      refine lv_goto (tgt := 96) hx hb dX7_average_91 (by decide) ?_
      exact j96 σ v2 v3 (1 : Int32) H locs ls B (lv_sub hl [0, 1] rfl) hm
  have L37 : ∀ (v1 : Int32) (v2 : Int32) (v4 : Int32) (nn : Nat) (σ : Mm) (v3 : Int32) (v5 : Int32), wh3 (f_X7_average_s37 v1 v2 v4) nn σ v3 v5 = some out → ∀ (H : Heap) (locs : List Loc) (ls : Array Slot), BD D A s.heap ((mW cI cZ a) σ) H locs → lv_has ls 7 [(0, .ref (a 0)), (1, .int v1), (2, .int v2), (3, .int v3), (4, .int v4), (5, .int v5)] → W p l e ({ frames := 3, cells := 0, slots := 0, locals := 71 } : Room) s m ([.ref (a 0), .int w1, .int w2] : List Value).toArray below meth c H locs 0 0 (MQ below (QI D [(cI, FieldType.int), (cZ, FieldType.boolean)] (mW cI cZ a) A out) ([.ref (a 0), .int w1, .int w2] : List Value).toArray s 0 0 A) (F0 m 37 ls []) := by
    intro v1 v2 v4
    refine loop3 (fun r37 ih37 σ v3 v5 hm H locs ls B hl => ?_)
    unfold f_X7_average_s37 at hm
    refine lv_iload hx hb dX7_average_37 (lv_at hl 5 rfl) ?_
    refine lv_aload_n hx hb dX7_average_39 rfl (lv_at hl 0 rfl) ?_
    refine x_callVr (rest := [.int v5]) hx hb hml hT hown hK hA B hl.1 (c_X7_done l D cI cZ a) mi_X7_done mv_X7_done mO_M rfl q857 ⟨rfl, rfl⟩ ⟨Nat.le_of_ble_eq_true rfl, Nat.le_of_ble_eq_true rfl⟩ rfl rfl (Nat.le_of_ble_eq_true rfl) dX7_average_40 hm (fun x4 H locs B hm => ?_)
    refine lv_icmp_ge (tgt := 85) hx hb dX7_average_43 (by decide) (fun q => ?_) (fun q => ?_)
    · have hm := ift hm q
      exact j85 σ v2 v3 v4 H locs ls B (lv_sub hl [2, 3, 4] rfl) hm
    · have hm := iff hm q
      refine lv_aload_n hx hb dX7_average_46 rfl (lv_at hl 0 rfl) ?_
      refine lv_iload_n hx hb dX7_average_47 rfl (lv_at hl 1 rfl) ?_
      refine lv_iload hx hb dX7_average_48 (lv_at hl 5 rfl) ?_
      refine x_callVr (rest := []) hx hb hml hT hown hK hA B hl.1 (c_X7_playedIn l D cI cZ a v1 v5) mi_X7_playedIn mv_X7_playedIn mO_M rfl q876 ⟨rfl, rfl⟩ ⟨Nat.le_of_ble_eq_true rfl, Nat.le_of_ble_eq_true rfl⟩ rfl rfl (Nat.le_of_ble_eq_true rfl) dX7_average_50 hm (fun x5 H locs B hm => ?_)
      refine lv_istore (lv' := [(6, .int x5), (0, .ref (a 0)), (1, .int v1), (2, .int v2), (3, .int v3), (4, .int v4), (5, .int v5)]) hx hb dX7_average_53 hl (by decide) rfl (fun ls hl => ?_)
      refine lv_iload_n hx hb dX7_average_55 rfl (lv_at hl 4 rfl) ?_
      refine lv_iload hx hb dX7_average_56 (lv_at hl 0 rfl) ?_
      refine lv_if_lt (tgt := 76) hx hb dX7_average_58 (by decide) (fun q => ?_) (fun q => ?_)
      · have hm := ift hm q
        refine lv_iconst (v := (0 : Int32)) hx hb dX7_average_76 (by decide) ?_
        refine lv_iadd hx hb dX7_average_77 ?_
        refine lv_istore_n (lv' := [(3, .int (v3 + (0 : Int32))), (6, .int x5), (0, .ref (a 0)), (1, .int v1), (2, .int v2), (4, .int v4), (5, .int v5)]) hx hb dX7_average_78 rfl hl (by decide) rfl (fun ls hl => ?_)
        refine lv_iinc (v := (v5 + (1 : Int32))) (lv' := [(5, .int (v5 + (1 : Int32))), (3, .int (v3 + (0 : Int32))), (6, .int x5), (0, .ref (a 0)), (1, .int v1), (2, .int v2), (4, .int v4)]) hx hb dX7_average_79 hl (k := 6) rfl rfl (by decide) rfl (fun ls hl => ?_)
        refine lv_goto (tgt := 37) hx hb dX7_average_82 (by decide) ?_
        exact ih37 σ (v3 + (0 : Int32)) (v5 + (1 : Int32)) hm H locs ls B (lv_sub hl [3, 4, 5, 1, 6, 0] rfl)
      · have hm := iff hm q
        refine lv_aload_n hx hb dX7_average_61 rfl (lv_at hl 1 rfl) ?_
        refine x_getv (T := TX7) (N := 33) hx hb hT hown hK B mV_ratings inlX7 rfl (by decide) q766 rfl dX7_average_62 ?_
        refine lv_aload_n hx hb dX7_average_65 rfl (lv_at hl 1 rfl) ?_
        refine lv_iload hx hb dX7_average_66 (lv_at hl 0 rfl) ?_
        refine lv_iload_n hx hb dX7_average_68 rfl (lv_at hl 2 rfl) ?_
        refine x_callVr (rest := [.ref (a 1), .int v3]) hx hb hml hT hown hK hA B hl.1 (c_X7_otherOn l D cI cZ a x5 v1) mi_X7_otherOn mv_X7_otherOn mO_M rfl q883 ⟨rfl, rfl⟩ ⟨Nat.le_of_ble_eq_true rfl, Nat.le_of_ble_eq_true rfl⟩ rfl rfl (Nat.le_of_ble_eq_true rfl) dX7_average_69 hm (fun x6 H locs B hm => ?_)
        refine x_iald (t0 := 0) hx hb hK B mA_ratings rfl dX7_average_72 hm (fun x7 hm => ?_)
        refine lv_goto (tgt := 77) hx hb dX7_average_73 (by decide) ?_
        refine lv_iadd hx hb dX7_average_77 ?_
        refine lv_istore_n (lv' := [(3, .int (v3 + x7)), (6, .int x5), (0, .ref (a 0)), (1, .int v1), (2, .int v2), (4, .int v4), (5, .int v5)]) hx hb dX7_average_78 rfl hl (by decide) rfl (fun ls hl => ?_)
        refine lv_iinc (v := (v5 + (1 : Int32))) (lv' := [(5, .int (v5 + (1 : Int32))), (3, .int (v3 + x7)), (6, .int x5), (0, .ref (a 0)), (1, .int v1), (2, .int v2), (4, .int v4)]) hx hb dX7_average_79 hl (k := 6) rfl rfl (by decide) rfl (fun ls hl => ?_)
        refine lv_goto (tgt := 37) hx hb dX7_average_82 (by decide) ?_
        exact ih37 σ (v3 + x7) (v5 + (1 : Int32)) hm H locs ls B (lv_sub hl [3, 4, 5, 1, 6, 0] rfl)
  refine lv_aload_n hx hb dX7_average_0 rfl (lv_at hl 0 rfl) ?_
  refine lv_iconst (v := (0 : Int32)) hx hb dX7_average_1 (by decide) ?_
  refine x_puti (T := TX7) (N := 33) hx hb hT hown hK B mI_thrown inlX7 tyX7_ok nmX7 rfl (by decide) q777 rfl rfl rfl rfl rfl dX7_average_2 hm (fun σ H locs B hm => ?_)
  refine lv_aload_n hx hb dX7_average_5 rfl (lv_at hl 0 rfl) ?_
  refine lv_iload_n hx hb dX7_average_6 rfl (lv_at hl 1 rfl) ?_
  refine x_callVr (rest := []) hx hb hml hT hown hK hA B hl.1 (c_X7_isPlayer l D cI cZ a w1) mi_X7_isPlayer mv_X7_isPlayer mO_M rfl q963 ⟨rfl, rfl⟩ ⟨Nat.le_of_ble_eq_true rfl, Nat.le_of_ble_eq_true rfl⟩ rfl rfl (Nat.le_of_ble_eq_true rfl) dX7_average_7 hm (fun x8 H locs B hm => ?_)
  refine lv_if_eq (tgt := 23) hx hb dX7_average_10 (by decide) (fun q => ?_) (fun q => ?_)
  · have hm := ift hm q
    refine lv_iconst (v := (-1 : Int32)) hx hb dX7_average_23 (by decide) ?_
    exact x_iret hx hb hr hlk hK B dX7_average_24 hm
  · have hm := iff hm q
    refine lv_iload_n hx hb dX7_average_13 rfl (lv_at hl 2 rfl) ?_
    refine lv_i2l (v := w2.toInt64) hx hb dX7_average_14 rfl ?_
    refine lv_lconst (v := 0) hx hb dX7_average_15 (by decide) ?_
    refine lv_lconst (v := 1) hx hb dX7_average_16 (by decide) ?_
    refine x_callSr (rest := []) hx hb hml hT hown hK hA B hl.1 (c_X7_in l D cI cZ (mW cI cZ a) (w2.toInt64) (0 : Int64) (1 : Int64)) mi_X7_in q881 q880 ⟨rfl, rfl⟩ ⟨Nat.le_of_ble_eq_true rfl, Nat.le_of_ble_eq_true rfl⟩ rfl rfl (Nat.le_of_ble_eq_true rfl) dX7_average_17 hm (fun x9 H locs B hm => ?_)
    refine lv_if_ne (tgt := 25) hx hb dX7_average_20 (by decide) (fun q => ?_) (fun q => ?_)
    · have hm := iff hm q
      refine lv_iconst (v := (0 : Int32)) hx hb dX7_average_25 (by decide) ?_
      refine lv_istore_n (lv' := [(3, .int (0 : Int32)), (0, .ref (a 0)), (1, .int w1), (2, .int w2)]) hx hb dX7_average_26 rfl hl (by decide) rfl (fun ls hl => ?_)
      refine lv_aload_n hx hb dX7_average_27 rfl (lv_at hl 1 rfl) ?_
      refine lv_iload_n hx hb dX7_average_28 rfl (lv_at hl 2 rfl) ?_
      refine x_callVr (rest := []) hx hb hml hT hown hK hA B hl.1 (c_X7_playedMany l D cI cZ a w1) mi_X7_playedMany mv_X7_playedMany mO_M rfl q928 ⟨rfl, rfl⟩ ⟨Nat.le_of_ble_eq_true rfl, Nat.le_of_ble_eq_true rfl⟩ rfl rfl (Nat.le_of_ble_eq_true rfl) dX7_average_29 hm (fun x10 H locs B hm => ?_)
      refine lv_istore (lv' := [(4, .int x10), (3, .int (0 : Int32)), (0, .ref (a 0)), (1, .int w1), (2, .int w2)]) hx hb dX7_average_32 hl (by decide) rfl (fun ls hl => ?_)
      refine lv_iconst (v := (0 : Int32)) hx hb dX7_average_34 (by decide) ?_
      refine lv_istore (lv' := [(5, .int (0 : Int32)), (4, .int x10), (3, .int (0 : Int32)), (0, .ref (a 0)), (1, .int w1), (2, .int w2)]) hx hb dX7_average_35 hl (by decide) rfl (fun ls hl => ?_)
      exact L37 w1 w2 x10 5000 σ (0 : Int32) (0 : Int32) hm H locs ls B (lv_sub hl [3, 4, 5, 2, 1, 0] rfl)
    · have hm := ift hm q
      refine lv_iconst (v := (-1 : Int32)) hx hb dX7_average_23 (by decide) ?_
      exact x_iret hx hb hr hlk hK B dX7_average_24 hm
def f_X7_alike_s23 (v1 : Int32) (r23 : Mm → Int32 → Int32 → Option (Int32 × Mm)) (σ : Mm) (v2 v3 : Int32) : Option (Int32 × Mm) :=
  (some (σ 0 0)).bind fun x1 =>
  if x1 ≤ v3 then
    some (v2, σ)
  else
    (f_X7_pointsOf σ v3).bind fun x2 =>
    (ald 12 (σ 14) v1).bind fun x3 =>
    (f_X7_pointsOf σ x3).bind fun x4 =>
    if x2 = x4 then
      r23 σ (v2 + (1 : Int32)) (v3 + (1 : Int32))
    else
      r23 σ (v2 + (0 : Int32)) (v3 + (1 : Int32))
def f_X7_alike (σ : Mm) (w1 : Int32) : Option (Int32 × Mm) :=
  (some (sc σ 12 (0 : Int32))).bind fun σ =>
  (f_X7_isPlayer σ w1).bind fun x5 =>
  if x5 = 0 then
    some ((-1 : Int32), σ)
  else
    (f_X7_layStanding σ).bind fun σ =>
    wh3 (f_X7_alike_s23 w1) 5000 σ (0 : Int32) (0 : Int32)
set_option maxHeartbeats 4000000 in
set_option maxRecDepth 100000 in
theorem c_X7_alike (l : Launch) (D : va_G) (cI cZ : ClassId) (a : Nat → Nat) (w1 : Int32) : CTi l D [(cI, FieldType.int), (cZ, FieldType.boolean)] (mW cI cZ a) yX7_alike (.code yX7_alike cX7_alike 4 (some FieldType.int) :: wsL_law) ({ frames := 7, cells := 0, slots := 0, locals := 163 } : Room) [.ref (a 0), .int w1] (fun σ => f_X7_alike σ w1) := by
  refine CTi.of (by decide +kernel) (Nat.le_of_ble_eq_true rfl) ?_
  intro σ out hm p e s m below meth c A ls H locs hx hb hr hlk hml hT hown hK hA B hl
  have hown : s.vm.findClass RX7 = some m.cls := hown
  have hl : lv_has ls 4 [(0, .ref (a 0)), (1, .int w1)] := hl
  have hm : f_X7_alike σ w1 = some out := hm
  unfold f_X7_alike at hm
  have L23 : ∀ (v1 : Int32) (nn : Nat) (σ : Mm) (v2 : Int32) (v3 : Int32), wh3 (f_X7_alike_s23 v1) nn σ v2 v3 = some out → ∀ (H : Heap) (locs : List Loc) (ls : Array Slot), BD D A s.heap ((mW cI cZ a) σ) H locs → lv_has ls 4 [(0, .ref (a 0)), (1, .int v1), (2, .int v2), (3, .int v3)] → W p l e ({ frames := 7, cells := 0, slots := 0, locals := 163 } : Room) s m ([.ref (a 0), .int w1] : List Value).toArray below meth c H locs 0 0 (MQ below (QI D [(cI, FieldType.int), (cZ, FieldType.boolean)] (mW cI cZ a) A out) ([.ref (a 0), .int w1] : List Value).toArray s 0 0 A) (F0 m 23 ls []) := by
    intro v1
    refine loop3 (fun r23 ih23 σ v2 v3 hm H locs ls B hl => ?_)
    unfold f_X7_alike_s23 at hm
    refine lv_iload_n hx hb dX7_alike_23 rfl (lv_at hl 3 rfl) ?_
    refine lv_aload_n hx hb dX7_alike_24 rfl (lv_at hl 0 rfl) ?_
    refine x_getib (T := TX7) (N := 33) hx hb hT hown hK B mI_players inlX7 rfl (by decide) q765 rfl dX7_alike_25 hm (fun x1 hm => ?_)
    refine lv_icmp_ge (tgt := 63) hx hb dX7_alike_28 (by decide) (fun q => ?_) (fun q => ?_)
    · have hm := ift hm q
      refine lv_iload_n hx hb dX7_alike_63 rfl (lv_at hl 2 rfl) ?_
      exact x_iret hx hb hr hlk hK B dX7_alike_64 hm
    · have hm := iff hm q
      refine lv_iload_n hx hb dX7_alike_31 rfl (lv_at hl 2 rfl) ?_
      refine lv_aload_n hx hb dX7_alike_32 rfl (lv_at hl 0 rfl) ?_
      refine lv_iload_n hx hb dX7_alike_33 rfl (lv_at hl 3 rfl) ?_
      refine x_callVr (rest := [.int v2]) hx hb hml hT hown hK hA B hl.1 (c_X7_pointsOf l D cI cZ a v3) mi_X7_pointsOf mv_X7_pointsOf mO_M rfl q854 ⟨rfl, rfl⟩ ⟨Nat.le_of_ble_eq_true rfl, Nat.le_of_ble_eq_true rfl⟩ rfl rfl (Nat.le_of_ble_eq_true rfl) dX7_alike_34 hm (fun x2 H locs B hm => ?_)
      refine lv_aload_n hx hb dX7_alike_37 rfl (lv_at hl 0 rfl) ?_
      refine lv_aload_n hx hb dX7_alike_38 rfl (lv_at hl 0 rfl) ?_
      refine x_getv (T := TX7) (N := 33) hx hb hT hown hK B mV_standing inlX7 rfl (by decide) q779 rfl dX7_alike_39 ?_
      refine lv_iload_n hx hb dX7_alike_42 rfl (lv_at hl 1 rfl) ?_
      refine x_iald (t0 := 0) hx hb hK B mA_standing rfl dX7_alike_43 hm (fun x3 hm => ?_)
      refine x_callVr (rest := [.int x2, .int v2]) hx hb hml hT hown hK hA B hl.1 (c_X7_pointsOf l D cI cZ a x3) mi_X7_pointsOf mv_X7_pointsOf mO_M rfl q854 ⟨rfl, rfl⟩ ⟨Nat.le_of_ble_eq_true rfl, Nat.le_of_ble_eq_true rfl⟩ rfl rfl (Nat.le_of_ble_eq_true rfl) dX7_alike_44 hm (fun x4 H locs B hm => ?_)
      refine lv_icmp_ne (tgt := 54) hx hb dX7_alike_47 (by decide) (fun q => ?_) (fun q => ?_)
      · have hm := iff hm q
        refine lv_iconst (v := (0 : Int32)) hx hb dX7_alike_54 (by decide) ?_
        refine lv_iadd hx hb dX7_alike_55 ?_
        refine lv_istore_n (lv' := [(2, .int (v2 + (0 : Int32))), (0, .ref (a 0)), (1, .int v1), (3, .int v3)]) hx hb dX7_alike_56 rfl hl (by decide) rfl (fun ls hl => ?_)
        refine lv_iinc (v := (v3 + (1 : Int32))) (lv' := [(3, .int (v3 + (1 : Int32))), (2, .int (v2 + (0 : Int32))), (0, .ref (a 0)), (1, .int v1)]) hx hb dX7_alike_57 hl (k := 3) rfl rfl (by decide) rfl (fun ls hl => ?_)
        refine lv_goto (tgt := 23) hx hb dX7_alike_60 (by decide) ?_
        exact ih23 σ (v2 + (0 : Int32)) (v3 + (1 : Int32)) hm H locs ls B (lv_sub hl [2, 3, 1, 0] rfl)
      · have hm := ift hm q
        refine lv_iconst (v := (1 : Int32)) hx hb dX7_alike_50 (by decide) ?_
        refine lv_goto (tgt := 55) hx hb dX7_alike_51 (by decide) ?_
        refine lv_iadd hx hb dX7_alike_55 ?_
        refine lv_istore_n (lv' := [(2, .int (v2 + (1 : Int32))), (0, .ref (a 0)), (1, .int v1), (3, .int v3)]) hx hb dX7_alike_56 rfl hl (by decide) rfl (fun ls hl => ?_)
        refine lv_iinc (v := (v3 + (1 : Int32))) (lv' := [(3, .int (v3 + (1 : Int32))), (2, .int (v2 + (1 : Int32))), (0, .ref (a 0)), (1, .int v1)]) hx hb dX7_alike_57 hl (k := 3) rfl rfl (by decide) rfl (fun ls hl => ?_)
        refine lv_goto (tgt := 23) hx hb dX7_alike_60 (by decide) ?_
        exact ih23 σ (v2 + (1 : Int32)) (v3 + (1 : Int32)) hm H locs ls B (lv_sub hl [2, 3, 1, 0] rfl)
  refine lv_aload_n hx hb dX7_alike_0 rfl (lv_at hl 0 rfl) ?_
  refine lv_iconst (v := (0 : Int32)) hx hb dX7_alike_1 (by decide) ?_
  refine x_puti (T := TX7) (N := 33) hx hb hT hown hK B mI_thrown inlX7 tyX7_ok nmX7 rfl (by decide) q777 rfl rfl rfl rfl rfl dX7_alike_2 hm (fun σ H locs B hm => ?_)
  refine lv_aload_n hx hb dX7_alike_5 rfl (lv_at hl 0 rfl) ?_
  refine lv_iload_n hx hb dX7_alike_6 rfl (lv_at hl 1 rfl) ?_
  refine x_callVr (rest := []) hx hb hml hT hown hK hA B hl.1 (c_X7_isPlayer l D cI cZ a w1) mi_X7_isPlayer mv_X7_isPlayer mO_M rfl q963 ⟨rfl, rfl⟩ ⟨Nat.le_of_ble_eq_true rfl, Nat.le_of_ble_eq_true rfl⟩ rfl rfl (Nat.le_of_ble_eq_true rfl) dX7_alike_7 hm (fun x5 H locs B hm => ?_)
  refine lv_if_ne (tgt := 15) hx hb dX7_alike_10 (by decide) (fun q => ?_) (fun q => ?_)
  · have hm := iff hm q
    refine lv_aload_n hx hb dX7_alike_15 rfl (lv_at hl 0 rfl) ?_
    refine x_callVv (rest := []) hx hb hml hT hown hK hA B hl.1 (c_X7_layStanding l D cI cZ a) mi_X7_layStanding mv_X7_layStanding mO_M rfl q848 ⟨rfl, rfl⟩ ⟨Nat.le_of_ble_eq_true rfl, Nat.le_of_ble_eq_true rfl⟩ rfl rfl (Nat.le_of_ble_eq_true rfl) dX7_alike_16 hm (fun σ H locs B hm => ?_)
    refine lv_iconst (v := (0 : Int32)) hx hb dX7_alike_19 (by decide) ?_
    refine lv_istore_n (lv' := [(2, .int (0 : Int32)), (0, .ref (a 0)), (1, .int w1)]) hx hb dX7_alike_20 rfl hl (by decide) rfl (fun ls hl => ?_)
    refine lv_iconst (v := (0 : Int32)) hx hb dX7_alike_21 (by decide) ?_
    refine lv_istore_n (lv' := [(3, .int (0 : Int32)), (2, .int (0 : Int32)), (0, .ref (a 0)), (1, .int w1)]) hx hb dX7_alike_22 rfl hl (by decide) rfl (fun ls hl => ?_)
    exact L23 w1 5000 σ (0 : Int32) (0 : Int32) hm H locs ls B (lv_sub hl [2, 3, 1, 0] rfl)
  · have hm := ift hm q
    refine lv_iconst (v := (-1 : Int32)) hx hb dX7_alike_13 (by decide) ?_
    exact x_iret hx hb hr hlk hK B dX7_alike_14 hm
def f_X7_colours_j75 (r23 : Mm → Int32 → Int32 → Option (Int32 × Mm)) (σ : Mm) (v1 v3 s0 : Int32) : Option (Int32 × Mm) :=
  r23 σ (s0 + (1 : Int32)) (v3 + (1 : Int32))
def f_X7_colours_j58 (r23 : Mm → Int32 → Int32 → Option (Int32 × Mm)) (σ : Mm) (v1 v3 v4 s0 : Int32) : Option (Int32 × Mm) :=
  if v1 = (2 : Int32) then
    if (1 : Int32) < v4 then
      f_X7_colours_j75 r23 σ v1 v3 s0
    else
      if (-1 : Int32) ≤ v4 then
        r23 σ (s0 + (0 : Int32)) (v3 + (1 : Int32))
      else
        f_X7_colours_j75 r23 σ v1 v3 s0
  else
    r23 σ (s0 + (0 : Int32)) (v3 + (1 : Int32))
def f_X7_colours_j48 (r23 : Mm → Int32 → Int32 → Option (Int32 × Mm)) (σ : Mm) (v1 v3 v4 s0 : Int32) : Option (Int32 × Mm) :=
  if v1 = (1 : Int32) then
    if v4 < 0 then
      f_X7_colours_j75 r23 σ v1 v3 s0
    else
      f_X7_colours_j58 r23 σ v1 v3 v4 s0
  else
    f_X7_colours_j58 r23 σ v1 v3 v4 s0
def f_X7_colours_s23 (v1 : Int32) (r23 : Mm → Int32 → Int32 → Option (Int32 × Mm)) (σ : Mm) (v2 v3 : Int32) : Option (Int32 × Mm) :=
  (some (σ 0 0)).bind fun x1 =>
  if x1 ≤ v3 then
    some (v2, σ)
  else
    (f_X7_balanceOf σ v3).bind fun x2 =>
    if v1 = 0 then
      if 0 < x2 then
        f_X7_colours_j75 r23 σ v1 v3 v2
      else
        f_X7_colours_j48 r23 σ v1 v3 x2 v2
    else
      f_X7_colours_j48 r23 σ v1 v3 x2 v2
def f_X7_colours (σ : Mm) (w1 : Int32) : Option (Int32 × Mm) :=
  (some (sc σ 12 (0 : Int32))).bind fun σ =>
  (f_X7_in (w1.toInt64) (0 : Int64) (2 : Int64)).bind fun x3 =>
  if x3 = 0 then
    some ((-1 : Int32), σ)
  else
    wh3 (f_X7_colours_s23 w1) 5000 σ (0 : Int32) (0 : Int32)
set_option maxHeartbeats 4000000 in
set_option maxRecDepth 100000 in
theorem c_X7_colours (l : Launch) (D : va_G) (cI cZ : ClassId) (a : Nat → Nat) (w1 : Int32) : CTi l D [(cI, FieldType.int), (cZ, FieldType.boolean)] (mW cI cZ a) yX7_colours (.code yX7_colours cX7_colours 5 (some FieldType.int) :: wsL_law) ({ frames := 4, cells := 0, slots := 0, locals := 92 } : Room) [.ref (a 0), .int w1] (fun σ => f_X7_colours σ w1) := by
  refine CTi.of (by decide +kernel) (Nat.le_of_ble_eq_true rfl) ?_
  intro σ out hm p e s m below meth c A ls H locs hx hb hr hlk hml hT hown hK hA B hl
  have hown : s.vm.findClass RX7 = some m.cls := hown
  have hl : lv_has ls 5 [(0, .ref (a 0)), (1, .int w1)] := hl
  have hm : f_X7_colours σ w1 = some out := hm
  unfold f_X7_colours at hm
  have L23 : ∀ (v1 : Int32) (nn : Nat) (σ : Mm) (v2 : Int32) (v3 : Int32), wh3 (f_X7_colours_s23 v1) nn σ v2 v3 = some out → ∀ (H : Heap) (locs : List Loc) (ls : Array Slot), BD D A s.heap ((mW cI cZ a) σ) H locs → lv_has ls 5 [(0, .ref (a 0)), (1, .int v1), (2, .int v2), (3, .int v3)] → W p l e ({ frames := 4, cells := 0, slots := 0, locals := 92 } : Room) s m ([.ref (a 0), .int w1] : List Value).toArray below meth c H locs 0 0 (MQ below (QI D [(cI, FieldType.int), (cZ, FieldType.boolean)] (mW cI cZ a) A out) ([.ref (a 0), .int w1] : List Value).toArray s 0 0 A) (F0 m 23 ls []) := by
    intro v1
    refine loop3 (fun r23 ih23 σ v2 v3 hm H locs ls B hl => ?_)
    unfold f_X7_colours_s23 at hm
    have j75 : ∀ (σ : Mm) (v3 : Int32) (s0 : Int32) (H : Heap) (locs : List Loc) (ls : Array Slot), BD D A s.heap ((mW cI cZ a) σ) H locs → lv_has ls 5 [(0, .ref (a 0)), (1, .int v1), (3, .int v3)] → f_X7_colours_j75 r23 σ v1 v3 s0 = some out → W p l e ({ frames := 4, cells := 0, slots := 0, locals := 92 } : Room) s m ([.ref (a 0), .int w1] : List Value).toArray below meth c H locs 0 0 (MQ below (QI D [(cI, FieldType.int), (cZ, FieldType.boolean)] (mW cI cZ a) A out) ([.ref (a 0), .int w1] : List Value).toArray s 0 0 A) (F0 m 75 ls [.int s0]) := by
      intro σ v3 s0 H locs ls B hl hm
      unfold f_X7_colours_j75 at hm
      refine lv_iconst (v := (1 : Int32)) hx hb dX7_colours_75 (by decide) ?_
      refine lv_goto (tgt := 80) hx hb dX7_colours_76 (by decide) ?_
      refine lv_iadd hx hb dX7_colours_80 ?_
      refine lv_istore_n (lv' := [(2, .int (s0 + (1 : Int32))), (0, .ref (a 0)), (1, .int v1), (3, .int v3)]) hx hb dX7_colours_81 rfl hl (by decide) rfl (fun ls hl => ?_)
      refine lv_iinc (v := (v3 + (1 : Int32))) (lv' := [(3, .int (v3 + (1 : Int32))), (2, .int (s0 + (1 : Int32))), (0, .ref (a 0)), (1, .int v1)]) hx hb dX7_colours_82 hl (k := 3) rfl rfl (by decide) rfl (fun ls hl => ?_)
      refine lv_goto (tgt := 23) hx hb dX7_colours_85 (by decide) ?_
      exact ih23 σ (s0 + (1 : Int32)) (v3 + (1 : Int32)) hm H locs ls B (lv_sub hl [2, 3, 1, 0] rfl)
    have j58 : ∀ (σ : Mm) (v3 : Int32) (v4 : Int32) (s0 : Int32) (H : Heap) (locs : List Loc) (ls : Array Slot), BD D A s.heap ((mW cI cZ a) σ) H locs → lv_has ls 5 [(0, .ref (a 0)), (1, .int v1), (3, .int v3), (4, .int v4)] → f_X7_colours_j58 r23 σ v1 v3 v4 s0 = some out → W p l e ({ frames := 4, cells := 0, slots := 0, locals := 92 } : Room) s m ([.ref (a 0), .int w1] : List Value).toArray below meth c H locs 0 0 (MQ below (QI D [(cI, FieldType.int), (cZ, FieldType.boolean)] (mW cI cZ a) A out) ([.ref (a 0), .int w1] : List Value).toArray s 0 0 A) (F0 m 58 ls [.int s0]) := by
      intro σ v3 v4 s0 H locs ls B hl hm
      unfold f_X7_colours_j58 at hm
      refine lv_iload_n hx hb dX7_colours_58 rfl (lv_at hl 1 rfl) ?_
      refine lv_iconst (v := (2 : Int32)) hx hb dX7_colours_59 (by decide) ?_
      refine lv_icmp_ne (tgt := 79) hx hb dX7_colours_60 (by decide) (fun q => ?_) (fun q => ?_)
      · have hm := iff hm q
        refine lv_iconst (v := (0 : Int32)) hx hb dX7_colours_79 (by decide) ?_
        refine lv_iadd hx hb dX7_colours_80 ?_
        refine lv_istore_n (lv' := [(2, .int (s0 + (0 : Int32))), (0, .ref (a 0)), (1, .int v1), (3, .int v3), (4, .int v4)]) hx hb dX7_colours_81 rfl hl (by decide) rfl (fun ls hl => ?_)
        refine lv_iinc (v := (v3 + (1 : Int32))) (lv' := [(3, .int (v3 + (1 : Int32))), (2, .int (s0 + (0 : Int32))), (0, .ref (a 0)), (1, .int v1), (4, .int v4)]) hx hb dX7_colours_82 hl (k := 3) rfl rfl (by decide) rfl (fun ls hl => ?_)
        refine lv_goto (tgt := 23) hx hb dX7_colours_85 (by decide) ?_
        exact ih23 σ (s0 + (0 : Int32)) (v3 + (1 : Int32)) hm H locs ls B (lv_sub hl [2, 3, 1, 0] rfl)
      · have hm := ift hm q
        refine lv_iload hx hb dX7_colours_63 (lv_at hl 3 rfl) ?_
        refine lv_iconst (v := (1 : Int32)) hx hb dX7_colours_65 (by decide) ?_
        refine lv_icmp_gt (tgt := 75) hx hb dX7_colours_66 (by decide) (fun q => ?_) (fun q => ?_)
        · have hm := ift hm q
          exact j75 σ v3 s0 H locs ls B (lv_sub hl [0, 1, 2] rfl) hm
        · have hm := iff hm q
          refine lv_iload hx hb dX7_colours_69 (lv_at hl 3 rfl) ?_
          refine lv_iconst (v := (-1 : Int32)) hx hb dX7_colours_71 (by decide) ?_
          refine lv_icmp_ge (tgt := 79) hx hb dX7_colours_72 (by decide) (fun q => ?_) (fun q => ?_)
          · have hm := ift hm q
            refine lv_iconst (v := (0 : Int32)) hx hb dX7_colours_79 (by decide) ?_
            refine lv_iadd hx hb dX7_colours_80 ?_
            refine lv_istore_n (lv' := [(2, .int (s0 + (0 : Int32))), (0, .ref (a 0)), (1, .int v1), (3, .int v3), (4, .int v4)]) hx hb dX7_colours_81 rfl hl (by decide) rfl (fun ls hl => ?_)
            refine lv_iinc (v := (v3 + (1 : Int32))) (lv' := [(3, .int (v3 + (1 : Int32))), (2, .int (s0 + (0 : Int32))), (0, .ref (a 0)), (1, .int v1), (4, .int v4)]) hx hb dX7_colours_82 hl (k := 3) rfl rfl (by decide) rfl (fun ls hl => ?_)
            refine lv_goto (tgt := 23) hx hb dX7_colours_85 (by decide) ?_
            exact ih23 σ (s0 + (0 : Int32)) (v3 + (1 : Int32)) hm H locs ls B (lv_sub hl [2, 3, 1, 0] rfl)
          · have hm := iff hm q
            exact j75 σ v3 s0 H locs ls B (lv_sub hl [0, 1, 2] rfl) hm
    have j48 : ∀ (σ : Mm) (v3 : Int32) (v4 : Int32) (s0 : Int32) (H : Heap) (locs : List Loc) (ls : Array Slot), BD D A s.heap ((mW cI cZ a) σ) H locs → lv_has ls 5 [(0, .ref (a 0)), (1, .int v1), (3, .int v3), (4, .int v4)] → f_X7_colours_j48 r23 σ v1 v3 v4 s0 = some out → W p l e ({ frames := 4, cells := 0, slots := 0, locals := 92 } : Room) s m ([.ref (a 0), .int w1] : List Value).toArray below meth c H locs 0 0 (MQ below (QI D [(cI, FieldType.int), (cZ, FieldType.boolean)] (mW cI cZ a) A out) ([.ref (a 0), .int w1] : List Value).toArray s 0 0 A) (F0 m 48 ls [.int s0]) := by
      intro σ v3 v4 s0 H locs ls B hl hm
      unfold f_X7_colours_j48 at hm
      refine lv_iload_n hx hb dX7_colours_48 rfl (lv_at hl 1 rfl) ?_
      refine lv_iconst (v := (1 : Int32)) hx hb dX7_colours_49 (by decide) ?_
      refine lv_icmp_ne (tgt := 58) hx hb dX7_colours_50 (by decide) (fun q => ?_) (fun q => ?_)
      · have hm := iff hm q
        exact j58 σ v3 v4 s0 H locs ls B (lv_sub hl [0, 1, 2, 3] rfl) hm
      · have hm := ift hm q
        refine lv_iload hx hb dX7_colours_53 (lv_at hl 3 rfl) ?_
        refine lv_if_lt (tgt := 75) hx hb dX7_colours_55 (by decide) (fun q => ?_) (fun q => ?_)
        · have hm := ift hm q
          exact j75 σ v3 s0 H locs ls B (lv_sub hl [0, 1, 2] rfl) hm
        · have hm := iff hm q
          exact j58 σ v3 v4 s0 H locs ls B (lv_sub hl [0, 1, 2, 3] rfl) hm
    refine lv_iload_n hx hb dX7_colours_23 rfl (lv_at hl 3 rfl) ?_
    refine lv_aload_n hx hb dX7_colours_24 rfl (lv_at hl 0 rfl) ?_
    refine x_getib (T := TX7) (N := 33) hx hb hT hown hK B mI_players inlX7 rfl (by decide) q765 rfl dX7_colours_25 hm (fun x1 hm => ?_)
    refine lv_icmp_ge (tgt := 88) hx hb dX7_colours_28 (by decide) (fun q => ?_) (fun q => ?_)
    · have hm := ift hm q
      refine lv_iload_n hx hb dX7_colours_88 rfl (lv_at hl 2 rfl) ?_
      exact x_iret hx hb hr hlk hK B dX7_colours_89 hm
    · have hm := iff hm q
      refine lv_aload_n hx hb dX7_colours_31 rfl (lv_at hl 0 rfl) ?_
      refine lv_iload_n hx hb dX7_colours_32 rfl (lv_at hl 3 rfl) ?_
      refine x_callVr (rest := []) hx hb hml hT hown hK hA B hl.1 (c_X7_balanceOf l D cI cZ a v3) mi_X7_balanceOf mv_X7_balanceOf mO_M rfl q925 ⟨rfl, rfl⟩ ⟨Nat.le_of_ble_eq_true rfl, Nat.le_of_ble_eq_true rfl⟩ rfl rfl (Nat.le_of_ble_eq_true rfl) dX7_colours_33 hm (fun x2 H locs B hm => ?_)
      refine lv_istore (lv' := [(4, .int x2), (0, .ref (a 0)), (1, .int v1), (2, .int v2), (3, .int v3)]) hx hb dX7_colours_36 hl (by decide) rfl (fun ls hl => ?_)
      refine lv_iload_n hx hb dX7_colours_38 rfl (lv_at hl 3 rfl) ?_
      refine lv_iload_n hx hb dX7_colours_39 rfl (lv_at hl 2 rfl) ?_
      refine lv_if_ne (tgt := 48) hx hb dX7_colours_40 (by decide) (fun q => ?_) (fun q => ?_)
      · have hm := iff hm q
        exact j48 σ v3 x2 v2 H locs ls B (lv_sub hl [1, 2, 4, 0] rfl) hm
      · have hm := ift hm q
        refine lv_iload hx hb dX7_colours_43 (lv_at hl 0 rfl) ?_
        refine lv_if_gt (tgt := 75) hx hb dX7_colours_45 (by decide) (fun q => ?_) (fun q => ?_)
        · have hm := ift hm q
          exact j75 σ v3 v2 H locs ls B (lv_sub hl [1, 2, 4] rfl) hm
        · have hm := iff hm q
          exact j48 σ v3 x2 v2 H locs ls B (lv_sub hl [1, 2, 4, 0] rfl) hm
  refine lv_aload_n hx hb dX7_colours_0 rfl (lv_at hl 0 rfl) ?_
  refine lv_iconst (v := (0 : Int32)) hx hb dX7_colours_1 (by decide) ?_
  refine x_puti (T := TX7) (N := 33) hx hb hT hown hK B mI_thrown inlX7 tyX7_ok nmX7 rfl (by decide) q777 rfl rfl rfl rfl rfl dX7_colours_2 hm (fun σ H locs B hm => ?_)
  refine lv_iload_n hx hb dX7_colours_5 rfl (lv_at hl 1 rfl) ?_
  refine lv_i2l (v := w1.toInt64) hx hb dX7_colours_6 rfl ?_
  refine lv_lconst (v := 0) hx hb dX7_colours_7 (by decide) ?_
  refine lv_ldc2 (v := 2) hx hb hown (hT _ q1025) dX7_colours_8 ?_
  refine x_callSr (rest := []) hx hb hml hT hown hK hA B hl.1 (c_X7_in l D cI cZ (mW cI cZ a) (w1.toInt64) (0 : Int64) (2 : Int64)) mi_X7_in q881 q880 ⟨rfl, rfl⟩ ⟨Nat.le_of_ble_eq_true rfl, Nat.le_of_ble_eq_true rfl⟩ rfl rfl (Nat.le_of_ble_eq_true rfl) dX7_colours_11 hm (fun x3 H locs B hm => ?_)
  refine lv_if_ne (tgt := 19) hx hb dX7_colours_14 (by decide) (fun q => ?_) (fun q => ?_)
  · have hm := iff hm q
    refine lv_iconst (v := (0 : Int32)) hx hb dX7_colours_19 (by decide) ?_
    refine lv_istore_n (lv' := [(2, .int (0 : Int32)), (0, .ref (a 0)), (1, .int w1)]) hx hb dX7_colours_20 rfl hl (by decide) rfl (fun ls hl => ?_)
    refine lv_iconst (v := (0 : Int32)) hx hb dX7_colours_21 (by decide) ?_
    refine lv_istore_n (lv' := [(3, .int (0 : Int32)), (2, .int (0 : Int32)), (0, .ref (a 0)), (1, .int w1)]) hx hb dX7_colours_22 rfl hl (by decide) rfl (fun ls hl => ?_)
    exact L23 w1 5000 σ (0 : Int32) (0 : Int32) hm H locs ls B (lv_sub hl [2, 3, 1, 0] rfl)
  · have hm := ift hm q
    refine lv_iconst (v := (-1 : Int32)) hx hb dX7_colours_17 (by decide) ?_
    exact x_iret hx hb hr hlk hK B dX7_colours_18 hm
def f_X7_board (σ : Mm) (w1 : Int32) (w2 : Int32) (w3 : Int32) : Option (Int32 × Mm) :=
  (some (sc σ 12 (0 : Int32))).bind fun σ =>
  (some (σ 3 0)).bind fun x1 =>
  (f_X7_in (w1.toInt64) (0 : Int64) ((x1 - (1 : Int32)).toInt64)).bind fun x2 =>
  if x2 = 0 then
    some ((-1 : Int32), σ)
  else
    (f_X7_in (w3.toInt64) (0 : Int64) (2 : Int64)).bind fun x3 =>
    if x3 = 0 then
      some ((-1 : Int32), σ)
    else
      (ald 20 (σ 5) w1).bind fun x4 =>
      (f_X7_in (w2.toInt64) (0 : Int64) ((x4 - (1 : Int32)).toInt64)).bind fun x5 =>
      if x5 = 0 then
        some ((-1 : Int32), σ)
      else
        if w3 = 0 then
          (ald 120 (σ 7) (((6 : Int32) * w1) + w2)).bind fun x8 =>
          some (x8, σ)
        else
          if w3 = (1 : Int32) then
            (ald 120 (σ 8) (((6 : Int32) * w1) + w2)).bind fun x7 =>
            some (x7, σ)
          else
            (ald 120 (σ 9) (((6 : Int32) * w1) + w2)).bind fun x6 =>
            some (x6, σ)
set_option maxHeartbeats 4000000 in
set_option maxRecDepth 100000 in
theorem c_X7_board (l : Launch) (D : va_G) (cI cZ : ClassId) (a : Nat → Nat) (w1 : Int32) (w2 : Int32) (w3 : Int32) : CTi l D [(cI, FieldType.int), (cZ, FieldType.boolean)] (mW cI cZ a) yX7_board (.code yX7_board cX7_board 4 (some FieldType.int) :: wsL_law) ({ frames := 1, cells := 0, slots := 0, locals := 25 } : Room) [.ref (a 0), .int w1, .int w2, .int w3] (fun σ => f_X7_board σ w1 w2 w3) := by
  refine CTi.of (by decide +kernel) (Nat.le_of_ble_eq_true rfl) ?_
  intro σ out hm p e s m below meth c A ls H locs hx hb hr hlk hml hT hown hK hA B hl
  have hown : s.vm.findClass RX7 = some m.cls := hown
  have hl : lv_has ls 4 [(0, .ref (a 0)), (1, .int w1), (2, .int w2), (3, .int w3)] := hl
  have hm : f_X7_board σ w1 w2 w3 = some out := hm
  unfold f_X7_board at hm
  refine lv_aload_n hx hb dX7_board_0 rfl (lv_at hl 0 rfl) ?_
  refine lv_iconst (v := (0 : Int32)) hx hb dX7_board_1 (by decide) ?_
  refine x_puti (T := TX7) (N := 33) hx hb hT hown hK B mI_thrown inlX7 tyX7_ok nmX7 rfl (by decide) q777 rfl rfl rfl rfl rfl dX7_board_2 hm (fun σ H locs B hm => ?_)
  refine lv_iload_n hx hb dX7_board_5 rfl (lv_at hl 1 rfl) ?_
  refine lv_i2l (v := w1.toInt64) hx hb dX7_board_6 rfl ?_
  refine lv_lconst (v := 0) hx hb dX7_board_7 (by decide) ?_
  refine lv_aload_n hx hb dX7_board_8 rfl (lv_at hl 0 rfl) ?_
  refine x_getib (T := TX7) (N := 33) hx hb hT hown hK B mI_rounds inlX7 rfl (by decide) q768 rfl dX7_board_9 hm (fun x1 hm => ?_)
  refine lv_iconst (v := (1 : Int32)) hx hb dX7_board_12 (by decide) ?_
  refine lv_isub hx hb dX7_board_13 ?_
  refine lv_i2l (v := (x1 - (1 : Int32)).toInt64) hx hb dX7_board_14 rfl ?_
  refine x_callSr (rest := []) hx hb hml hT hown hK hA B hl.1 (c_X7_in l D cI cZ (mW cI cZ a) (w1.toInt64) (0 : Int64) ((x1 - (1 : Int32)).toInt64)) mi_X7_in q881 q880 ⟨rfl, rfl⟩ ⟨Nat.le_of_ble_eq_true rfl, Nat.le_of_ble_eq_true rfl⟩ rfl rfl (Nat.le_of_ble_eq_true rfl) dX7_board_15 hm (fun x2 H locs B hm => ?_)
  refine lv_if_eq (tgt := 33) hx hb dX7_board_18 (by decide) (fun q => ?_) (fun q => ?_)
  · have hm := ift hm q
    refine lv_iconst (v := (-1 : Int32)) hx hb dX7_board_33 (by decide) ?_
    exact x_iret hx hb hr hlk hK B dX7_board_34 hm
  · have hm := iff hm q
    refine lv_iload_n hx hb dX7_board_21 rfl (lv_at hl 3 rfl) ?_
    refine lv_i2l (v := w3.toInt64) hx hb dX7_board_22 rfl ?_
    refine lv_lconst (v := 0) hx hb dX7_board_23 (by decide) ?_
    refine lv_ldc2 (v := 2) hx hb hown (hT _ q1025) dX7_board_24 ?_
    refine x_callSr (rest := []) hx hb hml hT hown hK hA B hl.1 (c_X7_in l D cI cZ (mW cI cZ a) (w3.toInt64) (0 : Int64) (2 : Int64)) mi_X7_in q881 q880 ⟨rfl, rfl⟩ ⟨Nat.le_of_ble_eq_true rfl, Nat.le_of_ble_eq_true rfl⟩ rfl rfl (Nat.le_of_ble_eq_true rfl) dX7_board_27 hm (fun x3 H locs B hm => ?_)
    refine lv_if_ne (tgt := 35) hx hb dX7_board_30 (by decide) (fun q => ?_) (fun q => ?_)
    · have hm := iff hm q
      refine lv_iload_n hx hb dX7_board_35 rfl (lv_at hl 2 rfl) ?_
      refine lv_i2l (v := w2.toInt64) hx hb dX7_board_36 rfl ?_
      refine lv_lconst (v := 0) hx hb dX7_board_37 (by decide) ?_
      refine lv_aload_n hx hb dX7_board_38 rfl (lv_at hl 0 rfl) ?_
      refine x_getv (T := TX7) (N := 33) hx hb hT hown hK B mV_boardMany inlX7 rfl (by decide) q770 rfl dX7_board_39 ?_
      refine lv_iload_n hx hb dX7_board_42 rfl (lv_at hl 1 rfl) ?_
      refine x_iald (t0 := 0) hx hb hK B mA_boardMany rfl dX7_board_43 hm (fun x4 hm => ?_)
      refine lv_iconst (v := (1 : Int32)) hx hb dX7_board_44 (by decide) ?_
      refine lv_isub hx hb dX7_board_45 ?_
      refine lv_i2l (v := (x4 - (1 : Int32)).toInt64) hx hb dX7_board_46 rfl ?_
      refine x_callSr (rest := []) hx hb hml hT hown hK hA B hl.1 (c_X7_in l D cI cZ (mW cI cZ a) (w2.toInt64) (0 : Int64) ((x4 - (1 : Int32)).toInt64)) mi_X7_in q881 q880 ⟨rfl, rfl⟩ ⟨Nat.le_of_ble_eq_true rfl, Nat.le_of_ble_eq_true rfl⟩ rfl rfl (Nat.le_of_ble_eq_true rfl) dX7_board_47 hm (fun x5 H locs B hm => ?_)
      refine lv_if_ne (tgt := 55) hx hb dX7_board_50 (by decide) (fun q => ?_) (fun q => ?_)
      · have hm := iff hm q
        refine lv_iload_n hx hb dX7_board_55 rfl (lv_at hl 3 rfl) ?_
        refine lv_if_ne (tgt := 73) hx hb dX7_board_56 (by decide) (fun q => ?_) (fun q => ?_)
        · have hm := iff hm q
          refine lv_iload_n hx hb dX7_board_73 rfl (lv_at hl 3 rfl) ?_
          refine lv_iconst (v := (1 : Int32)) hx hb dX7_board_74 (by decide) ?_
          refine lv_icmp_ne (tgt := 92) hx hb dX7_board_75 (by decide) (fun q => ?_) (fun q => ?_)
          · have hm := iff hm q
            refine lv_aload_n hx hb dX7_board_92 rfl (lv_at hl 0 rfl) ?_
            refine x_getv (T := TX7) (N := 33) hx hb hT hown hK B mV_results0 inlX7 rfl (by decide) q774 rfl dX7_board_93 ?_
            refine lv_bipush (v := (6 : Int32)) hx hb dX7_board_96 (by decide) ?_
            refine lv_iload_n hx hb dX7_board_98 rfl (lv_at hl 1 rfl) ?_
            refine lv_imul hx hb dX7_board_99 ?_
            refine lv_iload_n hx hb dX7_board_100 rfl (lv_at hl 2 rfl) ?_
            refine lv_iadd hx hb dX7_board_101 ?_
            refine x_iald (t0 := 0) hx hb hK B mA_results0 rfl dX7_board_102 hm (fun x6 hm => ?_)
            exact x_iret hx hb hr hlk hK B dX7_board_103 hm
          · have hm := ift hm q
            refine lv_aload_n hx hb dX7_board_78 rfl (lv_at hl 0 rfl) ?_
            refine x_getv (T := TX7) (N := 33) hx hb hT hown hK B mV_blacks inlX7 rfl (by decide) q773 rfl dX7_board_79 ?_
            refine lv_bipush (v := (6 : Int32)) hx hb dX7_board_82 (by decide) ?_
            refine lv_iload_n hx hb dX7_board_84 rfl (lv_at hl 1 rfl) ?_
            refine lv_imul hx hb dX7_board_85 ?_
            refine lv_iload_n hx hb dX7_board_86 rfl (lv_at hl 2 rfl) ?_
            refine lv_iadd hx hb dX7_board_87 ?_
            refine x_iald (t0 := 0) hx hb hK B mA_blacks rfl dX7_board_88 hm (fun x7 hm => ?_)
            refine lv_goto (tgt := 103) hx hb dX7_board_89 (by decide) ?_
            exact x_iret hx hb hr hlk hK B dX7_board_103 hm
        · have hm := ift hm q
          refine lv_aload_n hx hb dX7_board_59 rfl (lv_at hl 0 rfl) ?_
          refine x_getv (T := TX7) (N := 33) hx hb hT hown hK B mV_whites inlX7 rfl (by decide) q772 rfl dX7_board_60 ?_
          refine lv_bipush (v := (6 : Int32)) hx hb dX7_board_63 (by decide) ?_
          refine lv_iload_n hx hb dX7_board_65 rfl (lv_at hl 1 rfl) ?_
          refine lv_imul hx hb dX7_board_66 ?_
          refine lv_iload_n hx hb dX7_board_67 rfl (lv_at hl 2 rfl) ?_
          refine lv_iadd hx hb dX7_board_68 ?_
          refine x_iald (t0 := 0) hx hb hK B mA_whites rfl dX7_board_69 hm (fun x8 hm => ?_)
          refine lv_goto (tgt := 103) hx hb dX7_board_70 (by decide) ?_
          exact x_iret hx hb hr hlk hK B dX7_board_103 hm
      · have hm := ift hm q
        refine lv_iconst (v := (-1 : Int32)) hx hb dX7_board_53 (by decide) ?_
        exact x_iret hx hb hr hlk hK B dX7_board_54 hm
    · have hm := ift hm q
      refine lv_iconst (v := (-1 : Int32)) hx hb dX7_board_33 (by decide) ?_
      exact x_iret hx hb hr hlk hK B dX7_board_34 hm
def f_X7_bye (σ : Mm) (w1 : Int32) : Option (Int32 × Mm) :=
  (some (sc σ 12 (0 : Int32))).bind fun σ =>
  (some (σ 3 0)).bind fun x1 =>
  (f_X7_in (w1.toInt64) (0 : Int64) ((x1 - (1 : Int32)).toInt64)).bind fun x2 =>
  if x2 = 0 then
    some ((-1 : Int32), σ)
  else
    (ald 20 (σ 6) w1).bind fun x3 =>
    some (x3, σ)
set_option maxHeartbeats 4000000 in
set_option maxRecDepth 100000 in
theorem c_X7_bye (l : Launch) (D : va_G) (cI cZ : ClassId) (a : Nat → Nat) (w1 : Int32) : CTi l D [(cI, FieldType.int), (cZ, FieldType.boolean)] (mW cI cZ a) yX7_bye (.code yX7_bye cX7_bye 2 (some FieldType.int) :: wsL_law) ({ frames := 1, cells := 0, slots := 0, locals := 25 } : Room) [.ref (a 0), .int w1] (fun σ => f_X7_bye σ w1) := by
  refine CTi.of (by decide +kernel) (Nat.le_of_ble_eq_true rfl) ?_
  intro σ out hm p e s m below meth c A ls H locs hx hb hr hlk hml hT hown hK hA B hl
  have hown : s.vm.findClass RX7 = some m.cls := hown
  have hl : lv_has ls 2 [(0, .ref (a 0)), (1, .int w1)] := hl
  have hm : f_X7_bye σ w1 = some out := hm
  unfold f_X7_bye at hm
  refine lv_aload_n hx hb dX7_bye_0 rfl (lv_at hl 0 rfl) ?_
  refine lv_iconst (v := (0 : Int32)) hx hb dX7_bye_1 (by decide) ?_
  refine x_puti (T := TX7) (N := 33) hx hb hT hown hK B mI_thrown inlX7 tyX7_ok nmX7 rfl (by decide) q777 rfl rfl rfl rfl rfl dX7_bye_2 hm (fun σ H locs B hm => ?_)
  refine lv_iload_n hx hb dX7_bye_5 rfl (lv_at hl 1 rfl) ?_
  refine lv_i2l (v := w1.toInt64) hx hb dX7_bye_6 rfl ?_
  refine lv_lconst (v := 0) hx hb dX7_bye_7 (by decide) ?_
  refine lv_aload_n hx hb dX7_bye_8 rfl (lv_at hl 0 rfl) ?_
  refine x_getib (T := TX7) (N := 33) hx hb hT hown hK B mI_rounds inlX7 rfl (by decide) q768 rfl dX7_bye_9 hm (fun x1 hm => ?_)
  refine lv_iconst (v := (1 : Int32)) hx hb dX7_bye_12 (by decide) ?_
  refine lv_isub hx hb dX7_bye_13 ?_
  refine lv_i2l (v := (x1 - (1 : Int32)).toInt64) hx hb dX7_bye_14 rfl ?_
  refine x_callSr (rest := []) hx hb hml hT hown hK hA B hl.1 (c_X7_in l D cI cZ (mW cI cZ a) (w1.toInt64) (0 : Int64) ((x1 - (1 : Int32)).toInt64)) mi_X7_in q881 q880 ⟨rfl, rfl⟩ ⟨Nat.le_of_ble_eq_true rfl, Nat.le_of_ble_eq_true rfl⟩ rfl rfl (Nat.le_of_ble_eq_true rfl) dX7_bye_15 hm (fun x2 H locs B hm => ?_)
  refine lv_if_eq (tgt := 30) hx hb dX7_bye_18 (by decide) (fun q => ?_) (fun q => ?_)
  · have hm := ift hm q
    refine lv_iconst (v := (-1 : Int32)) hx hb dX7_bye_30 (by decide) ?_
    exact x_iret hx hb hr hlk hK B dX7_bye_31 hm
  · have hm := iff hm q
    refine lv_aload_n hx hb dX7_bye_21 rfl (lv_at hl 0 rfl) ?_
    refine x_getv (T := TX7) (N := 33) hx hb hT hown hK B mV_byes inlX7 rfl (by decide) q771 rfl dX7_bye_22 ?_
    refine lv_iload_n hx hb dX7_bye_25 rfl (lv_at hl 1 rfl) ?_
    refine x_iald (t0 := 0) hx hb hK B mA_byes rfl dX7_bye_26 hm (fun x3 hm => ?_)
    refine lv_goto (tgt := 31) hx hb dX7_bye_27 (by decide) ?_
    exact x_iret hx hb hr hlk hK B dX7_bye_31 hm
def f_X7_result (σ : Mm) (w1 : Int32) (w2 : Int32) : Option (Int32 × Mm) :=
  (some (sc σ 12 (0 : Int32))).bind fun σ =>
  (some (σ 4 0)).bind fun x1 =>
  if x1 = 0 then
    some ((-3 : Int32), σ)
  else
    (some (σ 3 0)).bind fun x2 =>
    (ald 20 (σ 5) (x2 - (1 : Int32))).bind fun x3 =>
    (f_X7_in (w1.toInt64) (0 : Int64) ((x3 - (1 : Int32)).toInt64)).bind fun x4 =>
    if x4 = 0 then
      some ((-1 : Int32), σ)
    else
      (f_X7_in (w2.toInt64) (0 : Int64) (6 : Int64)).bind fun x5 =>
      if x5 = 0 then
        some ((-2 : Int32), σ)
      else
        (ald 120 (σ 9) (((6 : Int32) * (x2 - (1 : Int32))) + w1)).bind fun x6 =>
        (ast 120 σ 9 (((6 : Int32) * (x2 - (1 : Int32))) + w1) w2).bind fun σ =>
        some (x6, σ)
set_option maxHeartbeats 4000000 in
set_option maxRecDepth 100000 in
theorem c_X7_result (l : Launch) (D : va_G) (cI cZ : ClassId) (a : Nat → Nat) (w1 : Int32) (w2 : Int32) : CTi l D [(cI, FieldType.int), (cZ, FieldType.boolean)] (mW cI cZ a) yX7_result (.code yX7_result cX7_result 5 (some FieldType.int) :: wsL_law) ({ frames := 1, cells := 0, slots := 0, locals := 25 } : Room) [.ref (a 0), .int w1, .int w2] (fun σ => f_X7_result σ w1 w2) := by
  refine CTi.of (by decide +kernel) (Nat.le_of_ble_eq_true rfl) ?_
  intro σ out hm p e s m below meth c A ls H locs hx hb hr hlk hml hT hown hK hA B hl
  have hown : s.vm.findClass RX7 = some m.cls := hown
  have hl : lv_has ls 5 [(0, .ref (a 0)), (1, .int w1), (2, .int w2)] := hl
  have hm : f_X7_result σ w1 w2 = some out := hm
  unfold f_X7_result at hm
  refine lv_aload_n hx hb dX7_result_0 rfl (lv_at hl 0 rfl) ?_
  refine lv_iconst (v := (0 : Int32)) hx hb dX7_result_1 (by decide) ?_
  refine x_puti (T := TX7) (N := 33) hx hb hT hown hK B mI_thrown inlX7 tyX7_ok nmX7 rfl (by decide) q777 rfl rfl rfl rfl rfl dX7_result_2 hm (fun σ H locs B hm => ?_)
  refine lv_aload_n hx hb dX7_result_5 rfl (lv_at hl 0 rfl) ?_
  refine x_getib (T := TX7) (N := 33) hx hb hT hown hK B mI_isOpen inlX7 rfl (by decide) q769 rfl dX7_result_6 hm (fun x1 hm => ?_)
  refine lv_if_ne (tgt := 15) hx hb dX7_result_9 (by decide) (fun q => ?_) (fun q => ?_)
  · have hm := iff hm q
    refine lv_aload_n hx hb dX7_result_15 rfl (lv_at hl 0 rfl) ?_
    refine x_getib (T := TX7) (N := 33) hx hb hT hown hK B mI_rounds inlX7 rfl (by decide) q768 rfl dX7_result_16 hm (fun x2 hm => ?_)
    refine lv_iconst (v := (1 : Int32)) hx hb dX7_result_19 (by decide) ?_
    refine lv_isub hx hb dX7_result_20 ?_
    refine lv_istore_n (lv' := [(3, .int (x2 - (1 : Int32))), (0, .ref (a 0)), (1, .int w1), (2, .int w2)]) hx hb dX7_result_21 rfl hl (by decide) rfl (fun ls hl => ?_)
    refine lv_iload_n hx hb dX7_result_22 rfl (lv_at hl 2 rfl) ?_
    refine lv_i2l (v := w1.toInt64) hx hb dX7_result_23 rfl ?_
    refine lv_lconst (v := 0) hx hb dX7_result_24 (by decide) ?_
    refine lv_aload_n hx hb dX7_result_25 rfl (lv_at hl 1 rfl) ?_
    refine x_getv (T := TX7) (N := 33) hx hb hT hown hK B mV_boardMany inlX7 rfl (by decide) q770 rfl dX7_result_26 ?_
    refine lv_iload_n hx hb dX7_result_29 rfl (lv_at hl 0 rfl) ?_
    refine x_iald (t0 := 0) hx hb hK B mA_boardMany rfl dX7_result_30 hm (fun x3 hm => ?_)
    refine lv_iconst (v := (1 : Int32)) hx hb dX7_result_31 (by decide) ?_
    refine lv_isub hx hb dX7_result_32 ?_
    refine lv_i2l (v := (x3 - (1 : Int32)).toInt64) hx hb dX7_result_33 rfl ?_
    refine x_callSr (rest := []) hx hb hml hT hown hK hA B hl.1 (c_X7_in l D cI cZ (mW cI cZ a) (w1.toInt64) (0 : Int64) ((x3 - (1 : Int32)).toInt64)) mi_X7_in q881 q880 ⟨rfl, rfl⟩ ⟨Nat.le_of_ble_eq_true rfl, Nat.le_of_ble_eq_true rfl⟩ rfl rfl (Nat.le_of_ble_eq_true rfl) dX7_result_34 hm (fun x4 H locs B hm => ?_)
    refine lv_if_ne (tgt := 42) hx hb dX7_result_37 (by decide) (fun q => ?_) (fun q => ?_)
    · have hm := iff hm q
      refine lv_iload_n hx hb dX7_result_42 rfl (lv_at hl 3 rfl) ?_
      refine lv_i2l (v := w2.toInt64) hx hb dX7_result_43 rfl ?_
      refine lv_lconst (v := 0) hx hb dX7_result_44 (by decide) ?_
      refine lv_ldc2 (v := 6) hx hb hown (hT _ q1038) dX7_result_45 ?_
      refine x_callSr (rest := []) hx hb hml hT hown hK hA B hl.1 (c_X7_in l D cI cZ (mW cI cZ a) (w2.toInt64) (0 : Int64) (6 : Int64)) mi_X7_in q881 q880 ⟨rfl, rfl⟩ ⟨Nat.le_of_ble_eq_true rfl, Nat.le_of_ble_eq_true rfl⟩ rfl rfl (Nat.le_of_ble_eq_true rfl) dX7_result_48 hm (fun x5 H locs B hm => ?_)
      refine lv_if_ne (tgt := 57) hx hb dX7_result_51 (by decide) (fun q => ?_) (fun q => ?_)
      · have hm := iff hm q
        refine lv_aload_n hx hb dX7_result_57 rfl (lv_at hl 1 rfl) ?_
        refine x_getv (T := TX7) (N := 33) hx hb hT hown hK B mV_results0 inlX7 rfl (by decide) q774 rfl dX7_result_58 ?_
        refine lv_bipush (v := (6 : Int32)) hx hb dX7_result_61 (by decide) ?_
        refine lv_iload_n hx hb dX7_result_63 rfl (lv_at hl 0 rfl) ?_
        refine lv_imul hx hb dX7_result_64 ?_
        refine lv_iload_n hx hb dX7_result_65 rfl (lv_at hl 2 rfl) ?_
        refine lv_iadd hx hb dX7_result_66 ?_
        refine x_iald (t0 := 0) hx hb hK B mA_results0 rfl dX7_result_67 hm (fun x6 hm => ?_)
        refine lv_istore (lv' := [(4, .int x6), (3, .int (x2 - (1 : Int32))), (0, .ref (a 0)), (1, .int w1), (2, .int w2)]) hx hb dX7_result_68 hl (by decide) rfl (fun ls hl => ?_)
        refine lv_aload_n hx hb dX7_result_70 rfl (lv_at hl 2 rfl) ?_
        refine x_getv (T := TX7) (N := 33) hx hb hT hown hK B mV_results0 inlX7 rfl (by decide) q774 rfl dX7_result_71 ?_
        refine lv_bipush (v := (6 : Int32)) hx hb dX7_result_74 (by decide) ?_
        refine lv_iload_n hx hb dX7_result_76 rfl (lv_at hl 1 rfl) ?_
        refine lv_imul hx hb dX7_result_77 ?_
        refine lv_iload_n hx hb dX7_result_78 rfl (lv_at hl 3 rfl) ?_
        refine lv_iadd hx hb dX7_result_79 ?_
        refine lv_iload_n hx hb dX7_result_80 rfl (lv_at hl 4 rfl) ?_
        refine x_iast (t0 := 0) hx hb hK B mA_results0 rfl dX7_result_81 hm (fun σ H locs B hm => ?_)
        refine lv_iload hx hb dX7_result_82 (lv_at hl 0 rfl) ?_
        exact x_iret hx hb hr hlk hK B dX7_result_84 hm
      · have hm := ift hm q
        refine lv_bipush (v := (-2 : Int32)) hx hb dX7_result_54 (by decide) ?_
        exact x_iret hx hb hr hlk hK B dX7_result_56 hm
    · have hm := ift hm q
      refine lv_iconst (v := (-1 : Int32)) hx hb dX7_result_40 (by decide) ?_
      exact x_iret hx hb hr hlk hK B dX7_result_41 hm
  · have hm := ift hm q
    refine lv_bipush (v := (-3 : Int32)) hx hb dX7_result_12 (by decide) ?_
    exact x_iret hx hb hr hlk hK B dX7_result_14 hm
