/-! ===== the methods that read String constants ===== -/
def f_J0_isLatin1_aae02 (i : Nat) : Option Int32 :=
  some (1 : Int32)
set_option maxHeartbeats 4000000 in
set_option maxRecDepth 100000 in
theorem c_J0_isLatin1_aae02 (l : Launch) (D : va_G) (cI cZ : ClassId) (adK adV : Nat → Nat) (ww : Mm → va_W) {i : Nat} (hi : i < 2) : CTrS l D [(cI, FieldType.int), (cZ, FieldType.boolean)] adK adV ww yJ0_isLatin1_aae02 (.code yJ0_isLatin1_aae02 cJ0_isLatin1_aae02 1 (some FieldType.boolean) :: wsL_law) ({ frames := 0, cells := 0, slots := 0, locals := 0 } : Room) [.ref (adK i)] (fun σ => f_J0_isLatin1_aae02 i) := by
  refine CTrS.of (by decide +kernel) (Nat.le_of_ble_eq_true rfl) ?_
  intro σ r hm p e s m below meth c A ls H locs hx hb hr hlk hml hT hown hK hA B hl hE
  have hown : s.vm.findClass RJ0 = some m.cls := hown
  have hl : lv_has ls 1 [(0, .ref (adK i))] := hl
  have hm : f_J0_isLatin1_aae02 i = some r := hm
  unfold f_J0_isLatin1_aae02 at hm
  refine va_gets hx hb hE.2.2 B.2.2 hown (hT _ q577) (fun _ h9 => h9) dJ0_isLatin1_aae02_0 ?_
  refine lv_if_eq (tgt := 17) hx hb dJ0_isLatin1_aae02_3 (by decide) (fun q => absurd q (by decide)) (fun q => ?_)
  refine lv_aload_n hx hb dJ0_isLatin1_aae02_6 rfl (lv_at hl 0 rfl) ?_
  refine vk_getf hx hb (hE.1.1 i hi).2.1 B.2.2 hown (hT _ q1149) (fun _ h9 => h9) dJ0_isLatin1_aae02_7 ?_
  refine lv_if_ne (tgt := 17) hx hb dJ0_isLatin1_aae02_10 (by decide) (fun q => absurd q (by decide)) (fun q => ?_)
  refine lv_iconst (v := (1 : Int32)) hx hb dJ0_isLatin1_aae02_13 (by decide) ?_
  refine lv_goto (tgt := 18) hx hb dJ0_isLatin1_aae02_14 (by decide) ?_
  exact x_zretr hx hb hr hlk hK B rfl dJ0_isLatin1_aae02_18 hm
def f_J0_coder_7d493 (i : Nat) : Option Int32 :=
  some (0 : Int32)
set_option maxHeartbeats 4000000 in
set_option maxRecDepth 100000 in
theorem c_J0_coder_7d493 (l : Launch) (D : va_G) (cI cZ : ClassId) (adK adV : Nat → Nat) (ww : Mm → va_W) {i : Nat} (hi : i < 2) : CTrS l D [(cI, FieldType.int), (cZ, FieldType.boolean)] adK adV ww yJ0_coder_7d493 (.code yJ0_coder_7d493 cJ0_coder_7d493 1 (some FieldType.byte) :: wsL_law) ({ frames := 0, cells := 0, slots := 0, locals := 0 } : Room) [.ref (adK i)] (fun σ => f_J0_coder_7d493 i) := by
  refine CTrS.of (by decide +kernel) (Nat.le_of_ble_eq_true rfl) ?_
  intro σ r hm p e s m below meth c A ls H locs hx hb hr hlk hml hT hown hK hA B hl hE
  have hown : s.vm.findClass RJ0 = some m.cls := hown
  have hl : lv_has ls 1 [(0, .ref (adK i))] := hl
  have hm : f_J0_coder_7d493 i = some r := hm
  unfold f_J0_coder_7d493 at hm
  refine va_gets hx hb hE.2.2 B.2.2 hown (hT _ q577) (fun _ h9 => h9) dJ0_coder_7d493_0 ?_
  refine lv_if_eq (tgt := 13) hx hb dJ0_coder_7d493_3 (by decide) (fun q => absurd q (by decide)) (fun q => ?_)
  refine lv_aload_n hx hb dJ0_coder_7d493_6 rfl (lv_at hl 0 rfl) ?_
  refine vk_getf hx hb (hE.1.1 i hi).2.1 B.2.2 hown (hT _ q1149) (fun _ h9 => h9) dJ0_coder_7d493_7 ?_
  refine lv_goto (tgt := 14) hx hb dJ0_coder_7d493_10 (by decide) ?_
  exact x_zretr hx hb hr hlk hK B rfl dJ0_coder_7d493_14 hm
def f_J0_length_8abf5 (i : Nat) : Option Int32 :=
  some ((Int32.ofNat (kL i)) >>> ((0 : Int32) &&& 31))
set_option maxHeartbeats 4000000 in
set_option maxRecDepth 100000 in
theorem c_J0_length_8abf5 (l : Launch) (D : va_G) (cI cZ : ClassId) (adK adV : Nat → Nat) (ww : Mm → va_W) {i : Nat} (hi : i < 2) : CTrS l D [(cI, FieldType.int), (cZ, FieldType.boolean)] adK adV ww yJ0_length_8abf5 (.code yJ0_length_8abf5 cJ0_length_8abf5 1 (some FieldType.int) :: wsL_law) ({ frames := 1, cells := 0, slots := 0, locals := 20 } : Room) [.ref (adK i)] (fun σ => f_J0_length_8abf5 i) := by
  refine CTrS.of (by decide +kernel) (Nat.le_of_ble_eq_true rfl) ?_
  intro σ r hm p e s m below meth c A ls H locs hx hb hr hlk hml hT hown hK hA B hl hE
  have hown : s.vm.findClass RJ0 = some m.cls := hown
  have hl : lv_has ls 1 [(0, .ref (adK i))] := hl
  have hm : f_J0_length_8abf5 i = some r := hm
  unfold f_J0_length_8abf5 at hm
  refine lv_aload_n hx hb dJ0_length_8abf5_0 rfl (lv_at hl 0 rfl) ?_
  refine vk_getf hx hb (hE.1.1 i hi).2.2.1 B.2.2 hown (hT _ q1150) (fun _ h9 => h9) dJ0_length_8abf5_1 ?_
  refine va_tlen (v := (Int32.ofNat (kL i))) hx hb (hE.1.1 i hi).2.2.2 B.2.2 rfl dJ0_length_8abf5_4 ?_
  refine lv_aload_n hx hb dJ0_length_8abf5_5 rfl (lv_at hl 0 rfl) ?_
  refine x_callKc (v := (0 : Int32)) (rest := [.int (Int32.ofNat (kL i))]) hE hx hb hml hT hown hK hA B hl.1 (c_J0_coder_7d493 l D cI cZ adK adV ww hi) mi_J0_coder_7d493 mv_J0_coder_7d493 hi rfl q582 ⟨rfl, rfl⟩ ⟨Nat.le_of_ble_eq_true rfl, Nat.le_of_ble_eq_true rfl⟩ rfl rfl (Nat.le_of_ble_eq_true rfl) dJ0_length_8abf5_6 rfl (fun H locs B => ?_)
  refine lv_ishr hx hb dJ0_length_8abf5_9 ?_
  exact x_iretr hx hb hr hlk hK B dJ0_length_8abf5_10 hm
def f_J1_canEncode_9a6ad (w0 : Int32) : Option Int32 :=
  if w0 < 0 then
    some (0 : Int32)
  else
    if (255 : Int32) < w0 then
      some (0 : Int32)
    else
      some (1 : Int32)
set_option maxHeartbeats 4000000 in
set_option maxRecDepth 100000 in
theorem c_J1_canEncode_9a6ad (l : Launch) (D : va_G) (cI cZ : ClassId) (ww : Mm → va_W) (w0 : Int32) : CTr l D [(cI, FieldType.int), (cZ, FieldType.boolean)] ww yJ1_canEncode_9a6ad (.code yJ1_canEncode_9a6ad cJ1_canEncode_9a6ad 1 (some FieldType.boolean) :: wsL_law) ({ frames := 0, cells := 0, slots := 0, locals := 0 } : Room) [.int w0] (fun σ => f_J1_canEncode_9a6ad w0) := by
  refine CTr.of (by decide +kernel) (Nat.le_of_ble_eq_true rfl) ?_
  intro σ r hm p e s m below meth c A ls H locs hx hb hr hlk hml hT hown hK hA B hl
  have hown : s.vm.findClass RJ1 = some m.cls := hown
  have hl : lv_has ls 1 [(0, .int w0)] := hl
  have hm : f_J1_canEncode_9a6ad w0 = some r := hm
  unfold f_J1_canEncode_9a6ad at hm
  refine lv_iload_n hx hb dJ1_canEncode_9a6ad_0 rfl (lv_at hl 0 rfl) ?_
  refine lv_if_lt (tgt := 15) hx hb dJ1_canEncode_9a6ad_1 (by decide) (fun q => ?_) (fun q => ?_)
  · have hm := ift hm q
    refine lv_iconst (v := (0 : Int32)) hx hb dJ1_canEncode_9a6ad_15 (by decide) ?_
    exact x_zretr hx hb hr hlk hK B rfl dJ1_canEncode_9a6ad_16 hm
  · have hm := iff hm q
    refine lv_iload_n hx hb dJ1_canEncode_9a6ad_4 rfl (lv_at hl 0 rfl) ?_
    refine lv_sipush (v := (255 : Int32)) hx hb dJ1_canEncode_9a6ad_5 (by decide) ?_
    refine lv_icmp_gt (tgt := 15) hx hb dJ1_canEncode_9a6ad_8 (by decide) (fun q => ?_) (fun q => ?_)
    · have hm := ift hm q
      refine lv_iconst (v := (0 : Int32)) hx hb dJ1_canEncode_9a6ad_15 (by decide) ?_
      exact x_zretr hx hb hr hlk hK B rfl dJ1_canEncode_9a6ad_16 hm
    · have hm := iff hm q
      refine lv_iconst (v := (1 : Int32)) hx hb dJ1_canEncode_9a6ad_11 (by decide) ?_
      refine lv_goto (tgt := 16) hx hb dJ1_canEncode_9a6ad_12 (by decide) ?_
      exact x_zretr hx hb hr hlk hK B rfl dJ1_canEncode_9a6ad_16 hm
def f_J1_indexOfChar_4cfef_s7 (i : Nat) (v3 : Int32) (v4 : Int32) (r7 : Int32 → Option Int32) (v5 : Int32) : Option Int32 :=
  if v3 ≤ v5 then
    some (-1 : Int32)
  else
    (ald (kL i) (kB i) v5).bind fun x1 =>
    if x1 = v4 then
      some v5
    else
      r7 (v5 + (1 : Int32))
def f_J1_indexOfChar_4cfef (i : Nat) (w1 : Int32) (w2 : Int32) (w3 : Int32) : Option Int32 :=
  wh1 (f_J1_indexOfChar_4cfef_s7 i w3 (w1.toInt8.toInt32)) 5000 w2
set_option maxHeartbeats 4000000 in
set_option maxRecDepth 100000 in
theorem c_J1_indexOfChar_4cfef (l : Launch) (D : va_G) (cI cZ : ClassId) (adK adV : Nat → Nat) (ww : Mm → va_W) {i : Nat} (hi : i < 2) (w1 : Int32) (w2 : Int32) (w3 : Int32) : CTrS l D [(cI, FieldType.int), (cZ, FieldType.boolean)] adK adV ww yJ1_indexOfChar_4cfef (.code yJ1_indexOfChar_4cfef cJ1_indexOfChar_4cfef 6 (some FieldType.int) :: wsL_law) ({ frames := 0, cells := 0, slots := 0, locals := 0 } : Room) [.ref (adV i), .int w1, .int w2, .int w3] (fun σ => f_J1_indexOfChar_4cfef i w1 w2 w3) := by
  refine CTrS.of (by decide +kernel) (Nat.le_of_ble_eq_true rfl) ?_
  intro σ r hm p e s m below meth c A ls H locs hx hb hr hlk hml hT hown hK hA B hl hE
  have hown : s.vm.findClass RJ1 = some m.cls := hown
  have hl : lv_has ls 6 [(0, .ref (adV i)), (1, .int w1), (2, .int w2), (3, .int w3)] := hl
  have hm : f_J1_indexOfChar_4cfef i w1 w2 w3 = some r := hm
  unfold f_J1_indexOfChar_4cfef at hm
  have L7 : ∀ (v3 : Int32) (v4 : Int32) (nn : Nat) (v5 : Int32), wh1 (f_J1_indexOfChar_4cfef_s7 i v3 v4) nn v5 = some r → ∀ (H : Heap) (locs : List Loc) (ls : Array Slot), BD D A s.heap (ww σ) H locs → lv_has ls 6 [(0, .ref (adV i)), (3, .int v3), (4, .int v4), (5, .int v5)] → W p l e ({ frames := 0, cells := 0, slots := 0, locals := 0 } : Room) s m ([.ref (adV i), .int w1, .int w2, .int w3] : List Value).toArray below meth c H locs 0 0 (MQ below (QI D [(cI, FieldType.int), (cZ, FieldType.boolean)] ww A (r, σ)) ([.ref (adV i), .int w1, .int w2, .int w3] : List Value).toArray s 0 0 A) (F0 m 7 ls []) := by
    intro v3 v4
    refine loop1 (fun r7 ih7 v5 hm H locs ls B hl => ?_)
    unfold f_J1_indexOfChar_4cfef_s7 at hm
    refine lv_iload hx hb dJ1_indexOfChar_4cfef_7 (lv_at hl 3 rfl) ?_
    refine lv_iload_n hx hb dJ1_indexOfChar_4cfef_9 rfl (lv_at hl 1 rfl) ?_
    refine lv_icmp_ge (tgt := 31) hx hb dJ1_indexOfChar_4cfef_10 (by decide) (fun q => ?_) (fun q => ?_)
    · have hm := ift hm q
      refine lv_iconst (v := (-1 : Int32)) hx hb dJ1_indexOfChar_4cfef_31 (by decide) ?_
      exact x_iretr hx hb hr hlk hK B dJ1_indexOfChar_4cfef_32 hm
    · have hm := iff hm q
      refine lv_aload_n hx hb dJ1_indexOfChar_4cfef_13 rfl (lv_at hl 0 rfl) ?_
      refine lv_iload hx hb dJ1_indexOfChar_4cfef_14 (lv_at hl 3 rfl) ?_
      refine x_kald hE hi hx hb B dJ1_indexOfChar_4cfef_16 hm (fun x1 hm => ?_)
      refine lv_iload hx hb dJ1_indexOfChar_4cfef_17 (lv_at hl 2 rfl) ?_
      refine lv_icmp_ne (tgt := 25) hx hb dJ1_indexOfChar_4cfef_19 (by decide) (fun q => ?_) (fun q => ?_)
      · have hm := iff hm q
        refine lv_iinc (v := (v5 + (1 : Int32))) (lv' := [(5, .int (v5 + (1 : Int32))), (0, .ref (adV i)), (3, .int v3), (4, .int v4)]) hx hb dJ1_indexOfChar_4cfef_25 hl (k := 3) rfl rfl (by decide) rfl (fun ls hl => ?_)
        refine lv_goto (tgt := 7) hx hb dJ1_indexOfChar_4cfef_28 (by decide) ?_
        exact ih7 (v5 + (1 : Int32)) hm H locs ls B (lv_sub hl [1, 2, 3, 0] rfl)
      · have hm := ift hm q
        refine lv_iload hx hb dJ1_indexOfChar_4cfef_22 (lv_at hl 3 rfl) ?_
        exact x_iretr hx hb hr hlk hK B dJ1_indexOfChar_4cfef_24 hm
  refine lv_iload_n hx hb dJ1_indexOfChar_4cfef_0 rfl (lv_at hl 1 rfl) ?_
  refine lv_i2b (v := w1.toInt8.toInt32) hx hb dJ1_indexOfChar_4cfef_1 rfl ?_
  refine lv_istore (lv' := [(4, .int (w1.toInt8.toInt32)), (0, .ref (adV i)), (1, .int w1), (2, .int w2), (3, .int w3)]) hx hb dJ1_indexOfChar_4cfef_2 hl (by decide) rfl (fun ls hl => ?_)
  refine lv_iload_n hx hb dJ1_indexOfChar_4cfef_4 rfl (lv_at hl 3 rfl) ?_
  refine lv_istore (lv' := [(5, .int w2), (4, .int (w1.toInt8.toInt32)), (0, .ref (adV i)), (1, .int w1), (2, .int w2), (3, .int w3)]) hx hb dJ1_indexOfChar_4cfef_5 hl (by decide) rfl (fun ls hl => ?_)
  exact L7 w3 (w1.toInt8.toInt32) 5000 w2 hm H locs ls B (lv_sub hl [2, 5, 1, 0] rfl)
def f_J1_indexOf_4cfef (i : Nat) (w1 : Int32) (w2 : Int32) (w3 : Int32) : Option Int32 :=
  (f_J1_canEncode_9a6ad w1).bind fun x1 =>
  if x1 = 0 then
    some (-1 : Int32)
  else
    (some (if w2 < (0 : Int32) then (0 : Int32) else w2)).bind fun x2 =>
    (some (if (Int32.ofNat (kL i)) < w3 then (Int32.ofNat (kL i)) else w3)).bind fun x3 =>
    if x2 < x3 then
      (f_J1_indexOfChar_4cfef i w1 x2 x3).bind fun x4 =>
      some x4
    else
      some (-1 : Int32)
set_option maxHeartbeats 4000000 in
set_option maxRecDepth 100000 in
theorem c_J1_indexOf_4cfef (l : Launch) (D : va_G) (cI cZ : ClassId) (adK adV : Nat → Nat) (ww : Mm → va_W) {i : Nat} (hi : i < 2) (w1 : Int32) (w2 : Int32) (w3 : Int32) : CTrS l D [(cI, FieldType.int), (cZ, FieldType.boolean)] adK adV ww yJ1_indexOf_4cfef (.code yJ1_indexOf_4cfef cJ1_indexOf_4cfef 4 (some FieldType.int) :: wsL_law) ({ frames := 1, cells := 0, slots := 0, locals := 25 } : Room) [.ref (adV i), .int w1, .int w2, .int w3] (fun σ => f_J1_indexOf_4cfef i w1 w2 w3) := by
  refine CTrS.of (by decide +kernel) (Nat.le_of_ble_eq_true rfl) ?_
  intro σ r hm p e s m below meth c A ls H locs hx hb hr hlk hml hT hown hK hA B hl hE
  have hown : s.vm.findClass RJ1 = some m.cls := hown
  have hl : lv_has ls 4 [(0, .ref (adV i)), (1, .int w1), (2, .int w2), (3, .int w3)] := hl
  have hm : f_J1_indexOf_4cfef i w1 w2 w3 = some r := hm
  unfold f_J1_indexOf_4cfef at hm
  refine lv_iload_n hx hb dJ1_indexOf_4cfef_0 rfl (lv_at hl 1 rfl) ?_
  refine x_callSr (rest := []) hx hb hml hT hown hK hA B hl.1 (c_J1_canEncode_9a6ad l D cI cZ ww w1) mi_J1_canEncode_9a6ad q590 q589 ⟨rfl, rfl⟩ ⟨Nat.le_of_ble_eq_true rfl, Nat.le_of_ble_eq_true rfl⟩ rfl rfl (Nat.le_of_ble_eq_true rfl) dJ1_indexOf_4cfef_1 hm (fun x1 H locs B hm => ?_)
  refine lv_if_ne (tgt := 9) hx hb dJ1_indexOf_4cfef_4 (by decide) (fun q => ?_) (fun q => ?_)
  · have hm := iff hm q
    refine lv_iload_n hx hb dJ1_indexOf_4cfef_9 rfl (lv_at hl 2 rfl) ?_
    refine lv_iconst (v := (0 : Int32)) hx hb dJ1_indexOf_4cfef_10 (by decide) ?_
    refine x_mmax hx hb (hml.trans hl.1.symm) hown (hT _ q592) (hT _ q37) (hT _ q4) (hT _ qM_max) (Nat.le_of_ble_eq_true rfl) (Nat.le_of_ble_eq_true rfl) dJ1_indexOf_4cfef_11 hm (fun x2 hm => ?_)
    refine lv_istore_n (lv' := [(2, .int x2), (0, .ref (adV i)), (1, .int w1), (3, .int w3)]) hx hb dJ1_indexOf_4cfef_14 rfl hl (by decide) rfl (fun ls hl => ?_)
    refine lv_iload_n hx hb dJ1_indexOf_4cfef_15 rfl (lv_at hl 3 rfl) ?_
    refine lv_aload_n hx hb dJ1_indexOf_4cfef_16 rfl (lv_at hl 1 rfl) ?_
    refine va_tlen (v := (Int32.ofNat (kL i))) hx hb (hE.1.1 i hi).2.2.2 B.2.2 rfl dJ1_indexOf_4cfef_17 ?_
    refine x_mmin hx hb (hml.trans hl.1.symm) hown (hT _ q593) (hT _ q294) (hT _ q4) (hT _ qM_min) (Nat.le_of_ble_eq_true rfl) (Nat.le_of_ble_eq_true rfl) dJ1_indexOf_4cfef_18 hm (fun x3 hm => ?_)
    refine lv_istore_n (lv' := [(3, .int x3), (2, .int x2), (0, .ref (adV i)), (1, .int w1)]) hx hb dJ1_indexOf_4cfef_21 rfl hl (by decide) rfl (fun ls hl => ?_)
    refine lv_iload_n hx hb dJ1_indexOf_4cfef_22 rfl (lv_at hl 1 rfl) ?_
    refine lv_iload_n hx hb dJ1_indexOf_4cfef_23 rfl (lv_at hl 0 rfl) ?_
    refine lv_icmp_lt (tgt := 29) hx hb dJ1_indexOf_4cfef_24 (by decide) (fun q => ?_) (fun q => ?_)
    · have hm := ift hm q
      refine lv_aload_n hx hb dJ1_indexOf_4cfef_29 rfl (lv_at hl 2 rfl) ?_
      refine lv_iload_n hx hb dJ1_indexOf_4cfef_30 rfl (lv_at hl 3 rfl) ?_
      refine lv_iload_n hx hb dJ1_indexOf_4cfef_31 rfl (lv_at hl 1 rfl) ?_
      refine lv_iload_n hx hb dJ1_indexOf_4cfef_32 rfl (lv_at hl 0 rfl) ?_
      refine x_callSrS (rest := []) hE hx hb hml hT hown hK hA B hl.1 (c_J1_indexOfChar_4cfef l D cI cZ adK adV ww hi w1 x2 x3) mi_J1_indexOfChar_4cfef q595 q594 ⟨rfl, rfl⟩ ⟨Nat.le_of_ble_eq_true rfl, Nat.le_of_ble_eq_true rfl⟩ rfl rfl (Nat.le_of_ble_eq_true rfl) dJ1_indexOf_4cfef_33 hm (fun x4 H locs B hm => ?_)
      exact x_iretr hx hb hr hlk hK B dJ1_indexOf_4cfef_36 hm
    · have hm := iff hm q
      refine lv_iconst (v := (-1 : Int32)) hx hb dJ1_indexOf_4cfef_27 (by decide) ?_
      exact x_iretr hx hb hr hlk hK B dJ1_indexOf_4cfef_28 hm
  · have hm := ift hm q
    refine lv_iconst (v := (-1 : Int32)) hx hb dJ1_indexOf_4cfef_7 (by decide) ?_
    exact x_iretr hx hb hr hlk hK B dJ1_indexOf_4cfef_8 hm
def f_J0_indexOf_7cf53 (i : Nat) (w1 : Int32) (w2 : Int32) : Option Int32 :=
  (f_J0_length_8abf5 i).bind fun x1 =>
  (f_J1_indexOf_4cfef i w1 w2 x1).bind fun x2 =>
  some x2
set_option maxHeartbeats 4000000 in
set_option maxRecDepth 100000 in
theorem c_J0_indexOf_7cf53 (l : Launch) (D : va_G) (cI cZ : ClassId) (adK adV : Nat → Nat) (ww : Mm → va_W) {i : Nat} (hi : i < 2) (w1 : Int32) (w2 : Int32) : CTrS l D [(cI, FieldType.int), (cZ, FieldType.boolean)] adK adV ww yJ0_indexOf_7cf53 (.code yJ0_indexOf_7cf53 cJ0_indexOf_7cf53 3 (some FieldType.int) :: wsL_law) ({ frames := 2, cells := 0, slots := 0, locals := 48 } : Room) [.ref (adK i), .int w1, .int w2] (fun σ => f_J0_indexOf_7cf53 i w1 w2) := by
  refine CTrS.of (by decide +kernel) (Nat.le_of_ble_eq_true rfl) ?_
  intro σ r hm p e s m below meth c A ls H locs hx hb hr hlk hml hT hown hK hA B hl hE
  have hown : s.vm.findClass RJ0 = some m.cls := hown
  have hl : lv_has ls 3 [(0, .ref (adK i)), (1, .int w1), (2, .int w2)] := hl
  have hm : f_J0_indexOf_7cf53 i w1 w2 = some r := hm
  unfold f_J0_indexOf_7cf53 at hm
  refine lv_aload_n hx hb dJ0_indexOf_7cf53_0 rfl (lv_at hl 0 rfl) ?_
  refine x_callKc (v := (1 : Int32)) (rest := []) hE hx hb hml hT hown hK hA B hl.1 (c_J0_isLatin1_aae02 l D cI cZ adK adV ww hi) mi_J0_isLatin1_aae02 mv_J0_isLatin1_aae02 hi rfl q573 ⟨rfl, rfl⟩ ⟨Nat.le_of_ble_eq_true rfl, Nat.le_of_ble_eq_true rfl⟩ rfl rfl (Nat.le_of_ble_eq_true rfl) dJ0_indexOf_7cf53_1 rfl (fun H locs B => ?_)
  refine lv_if_eq (tgt := 23) hx hb dJ0_indexOf_7cf53_4 (by decide) (fun q => absurd q (by decide)) (fun q => ?_)
  refine lv_aload_n hx hb dJ0_indexOf_7cf53_7 rfl (lv_at hl 0 rfl) ?_
  refine vk_getf hx hb (hE.1.1 i hi).2.2.1 B.2.2 hown (hT _ q1150) (fun _ h9 => h9) dJ0_indexOf_7cf53_8 ?_
  refine lv_iload_n hx hb dJ0_indexOf_7cf53_11 rfl (lv_at hl 1 rfl) ?_
  refine lv_iload_n hx hb dJ0_indexOf_7cf53_12 rfl (lv_at hl 2 rfl) ?_
  refine lv_aload_n hx hb dJ0_indexOf_7cf53_13 rfl (lv_at hl 0 rfl) ?_
  refine x_callKr (rest := [.int w2, .int w1, .ref (adV i)]) hE hx hb hml hT hown hK hA B hl.1 (c_J0_length_8abf5 l D cI cZ adK adV ww hi) mi_J0_length_8abf5 mv_J0_length_8abf5 hi rfl q578 ⟨rfl, rfl⟩ ⟨Nat.le_of_ble_eq_true rfl, Nat.le_of_ble_eq_true rfl⟩ rfl rfl (Nat.le_of_ble_eq_true rfl) dJ0_indexOf_7cf53_14 hm (fun x1 H locs B hm => ?_)
  refine x_callSrS (rest := []) hE hx hb hml hT hown hK hA B hl.1 (c_J1_indexOf_4cfef l D cI cZ adK adV ww hi w1 w2 x1) mi_J1_indexOf_4cfef q587 q586 ⟨rfl, rfl⟩ ⟨Nat.le_of_ble_eq_true rfl, Nat.le_of_ble_eq_true rfl⟩ rfl rfl (Nat.le_of_ble_eq_true rfl) dJ0_indexOf_7cf53_17 hm (fun x2 H locs B hm => ?_)
  refine lv_goto (tgt := 36) hx hb dJ0_indexOf_7cf53_20 (by decide) ?_
  exact x_iretr hx hb hr hlk hK B dJ0_indexOf_7cf53_36 hm
def f_J0_indexOf_0f7a4 (i : Nat) (w1 : Int32) : Option Int32 :=
  (f_J0_indexOf_7cf53 i w1 (0 : Int32)).bind fun x1 =>
  some x1
set_option maxHeartbeats 4000000 in
set_option maxRecDepth 100000 in
theorem c_J0_indexOf_0f7a4 (l : Launch) (D : va_G) (cI cZ : ClassId) (adK adV : Nat → Nat) (ww : Mm → va_W) {i : Nat} (hi : i < 2) (w1 : Int32) : CTrS l D [(cI, FieldType.int), (cZ, FieldType.boolean)] adK adV ww yJ0_indexOf_0f7a4 (.code yJ0_indexOf_0f7a4 cJ0_indexOf_0f7a4 2 (some FieldType.int) :: wsL_law) ({ frames := 3, cells := 0, slots := 0, locals := 70 } : Room) [.ref (adK i), .int w1] (fun σ => f_J0_indexOf_0f7a4 i w1) := by
  refine CTrS.of (by decide +kernel) (Nat.le_of_ble_eq_true rfl) ?_
  intro σ r hm p e s m below meth c A ls H locs hx hb hr hlk hml hT hown hK hA B hl hE
  have hown : s.vm.findClass RJ0 = some m.cls := hown
  have hl : lv_has ls 2 [(0, .ref (adK i)), (1, .int w1)] := hl
  have hm : f_J0_indexOf_0f7a4 i w1 = some r := hm
  unfold f_J0_indexOf_0f7a4 at hm
  refine lv_aload_n hx hb dJ0_indexOf_0f7a4_0 rfl (lv_at hl 0 rfl) ?_
  refine lv_iload_n hx hb dJ0_indexOf_0f7a4_1 rfl (lv_at hl 1 rfl) ?_
  refine lv_iconst (v := (0 : Int32)) hx hb dJ0_indexOf_0f7a4_2 (by decide) ?_
  refine x_callKr (rest := []) hE hx hb hml hT hown hK hA B hl.1 (c_J0_indexOf_7cf53 l D cI cZ adK adV ww hi w1 (0 : Int32)) mi_J0_indexOf_7cf53 mv_J0_indexOf_7cf53 hi rfl q569 ⟨rfl, rfl⟩ ⟨Nat.le_of_ble_eq_true rfl, Nat.le_of_ble_eq_true rfl⟩ rfl rfl (Nat.le_of_ble_eq_true rfl) dJ0_indexOf_0f7a4_3 hm (fun x1 H locs B hm => ?_)
  exact x_iretr hx hb hr hlk hK B dJ0_indexOf_0f7a4_6 hm
def f_X6_faultOfResults_j43 (σ : Mm) (v1 : Int32) : Option Int32 :=
  if (σ 71 0) ≤ v1 then
    some (-5 : Int32)
  else
    some v1
def f_X6_faultOfResults_s2 (σ : Mm) (v1 : Int32) (r2 : Int32 → Option Int32) (v2 : Int32) : Option Int32 :=
  if v1 ≤ v2 then
    f_X6_faultOfResults_j43 σ v1
  else
    if (σ 71 0) ≤ v2 then
      some v2
    else
      (f_X5_byteAt_tape σ v2).bind fun x1 =>
      (f_J0_indexOf_0f7a4 0 ((x1.toUInt32 % 65536).toInt32)).bind fun x2 =>
      if 0 ≤ x2 then
        r2 (v2 + (1 : Int32))
      else
        some v2
def f_X6_faultOfResults (σ : Mm) (w1 : Int32) : Option Int32 :=
  wh1 (f_X6_faultOfResults_s2 σ w1) 5000 (0 : Int32)
set_option maxHeartbeats 4000000 in
set_option maxRecDepth 100000 in
theorem c_X6_faultOfResults (l : Launch) (D : va_G) (cI cZ : ClassId) (adK adV : Nat → Nat) (a : Nat → Nat) (w1 : Int32) : CTrS l D [(cI, FieldType.int), (cZ, FieldType.boolean)] adK adV (xW cI a) yX6_faultOfResults (.code yX6_faultOfResults cX6_faultOfResults 3 (some FieldType.int) :: wsL_law) ({ frames := 4, cells := 0, slots := 0, locals := 91 } : Room) [.ref (a 0), .int w1] (fun σ => f_X6_faultOfResults σ w1) := by
  refine CTrS.of (by decide +kernel) (Nat.le_of_ble_eq_true rfl) ?_
  intro σ r hm p e s m below meth c A ls H locs hx hb hr hlk hml hT hown hK hA B hl hE
  have hown : s.vm.findClass RX6 = some m.cls := hown
  have hl : lv_has ls 3 [(0, .ref (a 0)), (1, .int w1)] := hl
  have hm : f_X6_faultOfResults σ w1 = some r := hm
  unfold f_X6_faultOfResults at hm
  have j43 : ∀ (v1 : Int32) (H : Heap) (locs : List Loc) (ls : Array Slot), BD D A s.heap ((xW cI a) σ) H locs → lv_has ls 3 [(0, .ref (a 0)), (1, .int v1)] → f_X6_faultOfResults_j43 σ v1 = some r → W p l e ({ frames := 4, cells := 0, slots := 0, locals := 91 } : Room) s m ([.ref (a 0), .int w1] : List Value).toArray below meth c H locs 0 0 (MQ below (QI D [(cI, FieldType.int), (cZ, FieldType.boolean)] (xW cI a) A (r, σ)) ([.ref (a 0), .int w1] : List Value).toArray s 0 0 A) (F0 m 43 ls []) := by
    intro v1 H locs ls B hl hm
    unfold f_X6_faultOfResults_j43 at hm
    refine lv_aload_n hx hb dX6_faultOfResults_43 rfl (lv_at hl 0 rfl) ?_
    refine x_getv (T := TX6) (N := 8) hx hb hT hown hK B xV_X_tape inlX6 rfl (by decide) q189 rfl dX6_faultOfResults_44 ?_
    refine x_getiN (T := TX5) (N := 2) hx hb hT hown hK B xI_tape_length inlX5 rfl (by decide) q165 rfl dX6_faultOfResults_47 ?_
    refine lv_iload_n hx hb dX6_faultOfResults_50 rfl (lv_at hl 1 rfl) ?_
    refine lv_icmp_le (tgt := 58) hx hb dX6_faultOfResults_51 (by decide) (fun q => ?_) (fun q => ?_)
    · have hm := ift hm q
      refine lv_bipush (v := (-5 : Int32)) hx hb dX6_faultOfResults_58 (by decide) ?_
      exact x_iretr hx hb hr hlk hK B dX6_faultOfResults_60 hm
    · have hm := iff hm q
      refine lv_iload_n hx hb dX6_faultOfResults_54 rfl (lv_at hl 1 rfl) ?_
      refine lv_goto (tgt := 60) hx hb dX6_faultOfResults_55 (by decide) ?_
      exact x_iretr hx hb hr hlk hK B dX6_faultOfResults_60 hm
  have L2 : ∀ (v1 : Int32) (nn : Nat) (v2 : Int32), wh1 (f_X6_faultOfResults_s2 σ v1) nn v2 = some r → ∀ (H : Heap) (locs : List Loc) (ls : Array Slot), BD D A s.heap ((xW cI a) σ) H locs → lv_has ls 3 [(0, .ref (a 0)), (1, .int v1), (2, .int v2)] → W p l e ({ frames := 4, cells := 0, slots := 0, locals := 91 } : Room) s m ([.ref (a 0), .int w1] : List Value).toArray below meth c H locs 0 0 (MQ below (QI D [(cI, FieldType.int), (cZ, FieldType.boolean)] (xW cI a) A (r, σ)) ([.ref (a 0), .int w1] : List Value).toArray s 0 0 A) (F0 m 2 ls []) := by
    intro v1
    refine loop1 (fun r2 ih2 v2 hm H locs ls B hl => ?_)
    unfold f_X6_faultOfResults_s2 at hm
    refine lv_iload_n hx hb dX6_faultOfResults_2 rfl (lv_at hl 2 rfl) ?_
    refine lv_iload_n hx hb dX6_faultOfResults_3 rfl (lv_at hl 1 rfl) ?_
    refine lv_icmp_ge (tgt := 43) hx hb dX6_faultOfResults_4 (by decide) (fun q => ?_) (fun q => ?_)
    · have hm := ift hm q
      exact j43 v1 H locs ls B (lv_sub hl [0, 1] rfl) hm
    · have hm := iff hm q
      refine lv_iload_n hx hb dX6_faultOfResults_7 rfl (lv_at hl 2 rfl) ?_
      refine lv_aload_n hx hb dX6_faultOfResults_8 rfl (lv_at hl 0 rfl) ?_
      refine x_getv (T := TX6) (N := 8) hx hb hT hown hK B xV_X_tape inlX6 rfl (by decide) q189 rfl dX6_faultOfResults_9 ?_
      refine x_getiN (T := TX5) (N := 2) hx hb hT hown hK B xI_tape_length inlX5 rfl (by decide) q165 rfl dX6_faultOfResults_12 ?_
      refine lv_icmp_ge (tgt := 35) hx hb dX6_faultOfResults_15 (by decide) (fun q => ?_) (fun q => ?_)
      · have hm := ift hm q
        refine lv_iload_n hx hb dX6_faultOfResults_35 rfl (lv_at hl 2 rfl) ?_
        exact x_iretr hx hb hr hlk hK B dX6_faultOfResults_36 hm
      · have hm := iff hm q
        refine va_ldcS hx hb hown hE.2.1.1 dX6_faultOfResults_18 ?_
        refine lv_aload_n hx hb dX6_faultOfResults_20 rfl (lv_at hl 0 rfl) ?_
        refine x_getv (T := TX6) (N := 8) hx hb hT hown hK B xV_X_tape inlX6 rfl (by decide) q189 rfl dX6_faultOfResults_21 ?_
        refine lv_iload_n hx hb dX6_faultOfResults_24 rfl (lv_at hl 2 rfl) ?_
        refine x_callVr (rest := [.ref (adK 0)]) hx hb hml hT hown hK hA B hl.1 (c_X5_byteAt_tape l D cI cZ a v2) mi_X5_byteAt mv_X5_byteAt xO_tape rfl q560 ⟨rfl, rfl⟩ ⟨Nat.le_of_ble_eq_true rfl, Nat.le_of_ble_eq_true rfl⟩ rfl rfl (Nat.le_of_ble_eq_true rfl) dX6_faultOfResults_25 hm (fun x1 H locs B hm => ?_)
        refine lv_i2c (v := (x1.toUInt32 % 65536).toInt32) hx hb dX6_faultOfResults_28 rfl ?_
        refine x_callKr (rest := []) hE hx hb hml hT hown hK hA B hl.1 (c_J0_indexOf_0f7a4 l D cI cZ adK adV (xW cI a) (show 0 < 2 by decide) ((x1.toUInt32 % 65536).toInt32)) mi_J0_indexOf_0f7a4 mv_J0_indexOf_0f7a4 (show 0 < 2 by decide) rfl q565 ⟨rfl, rfl⟩ ⟨Nat.le_of_ble_eq_true rfl, Nat.le_of_ble_eq_true rfl⟩ rfl rfl (Nat.le_of_ble_eq_true rfl) dX6_faultOfResults_29 hm (fun x2 H locs B hm => ?_)
        refine lv_if_ge (tgt := 37) hx hb dX6_faultOfResults_32 (by decide) (fun q => ?_) (fun q => ?_)
        · have hm := ift hm q
          refine lv_iinc (v := (v2 + (1 : Int32))) (lv' := [(2, .int (v2 + (1 : Int32))), (0, .ref (a 0)), (1, .int v1)]) hx hb dX6_faultOfResults_37 hl (k := 2) rfl rfl (by decide) rfl (fun ls hl => ?_)
          refine lv_goto (tgt := 2) hx hb dX6_faultOfResults_40 (by decide) ?_
          exact ih2 (v2 + (1 : Int32)) hm H locs ls B (lv_sub hl [1, 2, 0] rfl)
        · have hm := iff hm q
          refine lv_iload_n hx hb dX6_faultOfResults_35 rfl (lv_at hl 2 rfl) ?_
          exact x_iretr hx hb hr hlk hK B dX6_faultOfResults_36 hm
  refine lv_iconst (v := (0 : Int32)) hx hb dX6_faultOfResults_0 (by decide) ?_
  refine lv_istore_n (lv' := [(2, .int (0 : Int32)), (0, .ref (a 0)), (1, .int w1)]) hx hb dX6_faultOfResults_1 rfl hl (by decide) rfl (fun ls hl => ?_)
  exact L2 w1 5000 (0 : Int32) hm H locs ls B (lv_sub hl [1, 2, 0] rfl)
def f_X6_readResults_j94 (σ : Mm) (v1 : Int32) : Option (Int32 × Mm) :=
  (f_X0_countOutcomes σ v1).bind fun x1 =>
  some (x1, σ)
def f_X6_readResults_s42 (v1 : Int32) (v2 : Int32) (r42 : Mm → Int32 → Option (Int32 × Mm)) (σ : Mm) (v4 : Int32) : Option (Int32 × Mm) :=
  if v2 ≤ v4 then
    f_X6_readResults_j94 σ v1
  else
    (f_X5_byteAt_tape σ v4).bind fun x2 =>
    (f_J0_indexOf_0f7a4 0 ((x2.toUInt32 % 65536).toInt32)).bind fun x3 =>
    if x3 ≤ 0 then
      r42 σ (v4 + (1 : Int32))
    else
      (f_X0_boardCell v1 v4).bind fun x4 =>
      (f_X2_put 120 9 σ x4 x3).bind fun σ =>
      r42 σ (v4 + (1 : Int32))
def f_X6_readResults (σ : Mm) : Option (Int32 × Mm) :=
  (some (σ 3 0)).bind fun x5 =>
  (f_X2_at 20 5 σ (x5 - (1 : Int32))).bind fun x6 =>
  (f_X6_faultOfResults σ x6).bind fun x7 =>
  if x7 = (-5 : Int32) then
    wh2 (f_X6_readResults_s42 (x5 - (1 : Int32)) x6) 5000 σ (0 : Int32)
  else
    some (((-100 : Int32) - x7), σ)
set_option maxHeartbeats 4000000 in
set_option maxRecDepth 100000 in
theorem c_X6_readResults (l : Launch) (D : va_G) (cI cZ : ClassId) (adK adV : Nat → Nat) (a : Nat → Nat) : CTiS l D [(cI, FieldType.int), (cZ, FieldType.boolean)] adK adV (xW cI a) yX6_readResults (.code yX6_readResults cX6_readResults 6 (some FieldType.int) :: wsL_law) ({ frames := 5, cells := 0, slots := 0, locals := 113 } : Room) [.ref (a 0)] (fun σ => f_X6_readResults σ) := by
  refine CTiS.of (by decide +kernel) (Nat.le_of_ble_eq_true rfl) ?_
  intro σ out hm p e s m below meth c A ls H locs hx hb hr hlk hml hT hown hK hA B hl hE
  have hown : s.vm.findClass RX6 = some m.cls := hown
  have hl : lv_has ls 6 [(0, .ref (a 0))] := hl
  have hm : f_X6_readResults σ = some out := hm
  unfold f_X6_readResults at hm
  have j94 : ∀ (σ : Mm) (v1 : Int32) (H : Heap) (locs : List Loc) (ls : Array Slot), BD D A s.heap ((xW cI a) σ) H locs → lv_has ls 6 [(0, .ref (a 0)), (1, .int v1)] → f_X6_readResults_j94 σ v1 = some out → W p l e ({ frames := 5, cells := 0, slots := 0, locals := 113 } : Room) s m ([.ref (a 0)] : List Value).toArray below meth c H locs 0 0 (MQ below (QI D [(cI, FieldType.int), (cZ, FieldType.boolean)] (xW cI a) A out) ([.ref (a 0)] : List Value).toArray s 0 0 A) (F0 m 94 ls []) := by
    intro σ v1 H locs ls B hl hm
    unfold f_X6_readResults_j94 at hm
    refine lv_aload_n hx hb dX6_readResults_94 rfl (lv_at hl 0 rfl) ?_
    refine x_getv (T := TX6) (N := 8) hx hb hT hown hK B xV_X_book inlX6 rfl (by decide) q184 rfl dX6_readResults_95 ?_
    refine lv_iload_n hx hb dX6_readResults_98 rfl (lv_at hl 1 rfl) ?_
    refine x_callVr (rest := []) hx hb hml hT hown hK hA B hl.1 (c_X0_countOutcomes l D cI cZ a v1) mi_X0_countOutcomes mv_X0_countOutcomes xO_book rfl q502 ⟨rfl, rfl⟩ ⟨Nat.le_of_ble_eq_true rfl, Nat.le_of_ble_eq_true rfl⟩ rfl rfl (Nat.le_of_ble_eq_true rfl) dX6_readResults_99 hm (fun x1 H locs B hm => ?_)
    exact x_iret hx hb hr hlk hK B dX6_readResults_102 hm
  have L42 : ∀ (v1 : Int32) (v2 : Int32) (nn : Nat) (σ : Mm) (v4 : Int32), wh2 (f_X6_readResults_s42 v1 v2) nn σ v4 = some out → ∀ (H : Heap) (locs : List Loc) (ls : Array Slot), BD D A s.heap ((xW cI a) σ) H locs → lv_has ls 6 [(0, .ref (a 0)), (1, .int v1), (2, .int v2), (4, .int v4)] → W p l e ({ frames := 5, cells := 0, slots := 0, locals := 113 } : Room) s m ([.ref (a 0)] : List Value).toArray below meth c H locs 0 0 (MQ below (QI D [(cI, FieldType.int), (cZ, FieldType.boolean)] (xW cI a) A out) ([.ref (a 0)] : List Value).toArray s 0 0 A) (F0 m 42 ls []) := by
    intro v1 v2
    refine loop2 (fun r42 ih42 σ v4 hm H locs ls B hl => ?_)
    unfold f_X6_readResults_s42 at hm
    refine lv_iload hx hb dX6_readResults_42 (lv_at hl 3 rfl) ?_
    refine lv_iload_n hx hb dX6_readResults_44 rfl (lv_at hl 2 rfl) ?_
    refine lv_icmp_ge (tgt := 94) hx hb dX6_readResults_45 (by decide) (fun q => ?_) (fun q => ?_)
    · have hm := ift hm q
      exact j94 σ v1 H locs ls B (lv_sub hl [0, 1] rfl) hm
    · have hm := iff hm q
      refine va_ldcS hx hb hown hE.2.1.1 dX6_readResults_48 ?_
      refine lv_aload_n hx hb dX6_readResults_50 rfl (lv_at hl 0 rfl) ?_
      refine x_getv (T := TX6) (N := 8) hx hb hT hown hK B xV_X_tape inlX6 rfl (by decide) q189 rfl dX6_readResults_51 ?_
      refine lv_iload hx hb dX6_readResults_54 (lv_at hl 3 rfl) ?_
      refine x_callVr (rest := [.ref (adK 0)]) hx hb hml hT hown hK hA B hl.1 (c_X5_byteAt_tape l D cI cZ a v4) mi_X5_byteAt mv_X5_byteAt xO_tape rfl q560 ⟨rfl, rfl⟩ ⟨Nat.le_of_ble_eq_true rfl, Nat.le_of_ble_eq_true rfl⟩ rfl rfl (Nat.le_of_ble_eq_true rfl) dX6_readResults_56 hm (fun x2 H locs B hm => ?_)
      refine lv_i2c (v := (x2.toUInt32 % 65536).toInt32) hx hb dX6_readResults_59 rfl ?_
      refine x_callKr (rest := []) hE hx hb hml hT hown hK hA B hl.1 (c_J0_indexOf_0f7a4 l D cI cZ adK adV (xW cI a) (show 0 < 2 by decide) ((x2.toUInt32 % 65536).toInt32)) mi_J0_indexOf_0f7a4 mv_J0_indexOf_0f7a4 (show 0 < 2 by decide) rfl q565 ⟨rfl, rfl⟩ ⟨Nat.le_of_ble_eq_true rfl, Nat.le_of_ble_eq_true rfl⟩ rfl rfl (Nat.le_of_ble_eq_true rfl) dX6_readResults_60 hm (fun x3 H locs B hm => ?_)
      refine lv_istore (lv' := [(5, .int x3), (0, .ref (a 0)), (1, .int v1), (2, .int v2), (4, .int v4)]) hx hb dX6_readResults_63 hl (by decide) rfl (fun ls hl => ?_)
      refine lv_iload hx hb dX6_readResults_65 (lv_at hl 0 rfl) ?_
      refine lv_if_le (tgt := 88) hx hb dX6_readResults_67 (by decide) (fun q => ?_) (fun q => ?_)
      · have hm := ift hm q
        refine lv_iinc (v := (v4 + (1 : Int32))) (lv' := [(4, .int (v4 + (1 : Int32))), (5, .int x3), (0, .ref (a 0)), (1, .int v1), (2, .int v2)]) hx hb dX6_readResults_88 hl (k := 4) rfl rfl (by decide) rfl (fun ls hl => ?_)
        refine lv_goto (tgt := 42) hx hb dX6_readResults_91 (by decide) ?_
        exact ih42 σ (v4 + (1 : Int32)) hm H locs ls B (lv_sub hl [2, 3, 4, 0] rfl)
      · have hm := iff hm q
        refine lv_aload_n hx hb dX6_readResults_70 rfl (lv_at hl 1 rfl) ?_
        refine x_getv (T := TX6) (N := 8) hx hb hT hown hK B xV_X_book inlX6 rfl (by decide) q184 rfl dX6_readResults_71 ?_
        refine x_getvN (T := TX0) (N := 12) hx hb hT hown hK B xV_book_outcomes inlX0 rfl (by decide) q73 rfl dX6_readResults_74 ?_
        refine lv_iload_n hx hb dX6_readResults_77 rfl (lv_at hl 2 rfl) ?_
        refine lv_iload hx hb dX6_readResults_78 (lv_at hl 4 rfl) ?_
        refine x_callSr (rest := [.ref (a 14)]) hx hb hml hT hown hK hA B hl.1 (c_X0_boardCell l D cI cZ (xW cI a) v1 v4) mi_X0_boardCell q231 q489 ⟨rfl, rfl⟩ ⟨Nat.le_of_ble_eq_true rfl, Nat.le_of_ble_eq_true rfl⟩ rfl rfl (Nat.le_of_ble_eq_true rfl) dX6_readResults_80 hm (fun x4 H locs B hm => ?_)
        refine lv_iload hx hb dX6_readResults_83 (lv_at hl 0 rfl) ?_
        refine x_callVv (rest := []) hx hb hml hT hown hK hA B hl.1 (c_X2_put l D cI cZ xV_book_outcomes_cells xA_book_outcomes x4 x3) mi_X2_put mv_X2_put xO_book_outcomes rfl q318 ⟨rfl, rfl⟩ ⟨Nat.le_of_ble_eq_true rfl, Nat.le_of_ble_eq_true rfl⟩ rfl rfl (Nat.le_of_ble_eq_true rfl) dX6_readResults_85 hm (fun σ H locs B hm => ?_)
        refine lv_iinc (v := (v4 + (1 : Int32))) (lv' := [(4, .int (v4 + (1 : Int32))), (5, .int x3), (0, .ref (a 0)), (1, .int v1), (2, .int v2)]) hx hb dX6_readResults_88 hl (k := 4) rfl rfl (by decide) rfl (fun ls hl => ?_)
        refine lv_goto (tgt := 42) hx hb dX6_readResults_91 (by decide) ?_
        exact ih42 σ (v4 + (1 : Int32)) hm H locs ls B (lv_sub hl [2, 3, 4, 0] rfl)
  refine lv_aload_n hx hb dX6_readResults_0 rfl (lv_at hl 0 rfl) ?_
  refine x_getv (T := TX6) (N := 8) hx hb hT hown hK B xV_X_book inlX6 rfl (by decide) q184 rfl dX6_readResults_1 ?_
  refine x_getibN (T := TX0) (N := 12) hx hb hT hown hK B xI_book_rounds inlX0 rfl (by decide) q57 rfl dX6_readResults_4 hm (fun x5 hm => ?_)
  refine lv_iconst (v := (1 : Int32)) hx hb dX6_readResults_7 (by decide) ?_
  refine lv_isub hx hb dX6_readResults_8 ?_
  refine lv_istore_n (lv' := [(1, .int (x5 - (1 : Int32))), (0, .ref (a 0))]) hx hb dX6_readResults_9 rfl hl (by decide) rfl (fun ls hl => ?_)
  refine lv_aload_n hx hb dX6_readResults_10 rfl (lv_at hl 1 rfl) ?_
  refine x_getv (T := TX6) (N := 8) hx hb hT hown hK B xV_X_book inlX6 rfl (by decide) q184 rfl dX6_readResults_11 ?_
  refine x_getvN (T := TX0) (N := 12) hx hb hT hown hK B xV_book_boards inlX0 rfl (by decide) q62 rfl dX6_readResults_14 ?_
  refine lv_iload_n hx hb dX6_readResults_17 rfl (lv_at hl 0 rfl) ?_
  refine x_callVr (rest := []) hx hb hml hT hown hK hA B hl.1 (c_X2_at l D cI cZ xV_book_boards_cells xA_book_boards (x5 - (1 : Int32))) mi_X2_at mv_X2_at xO_book_boards rfl q317 ⟨rfl, rfl⟩ ⟨Nat.le_of_ble_eq_true rfl, Nat.le_of_ble_eq_true rfl⟩ rfl rfl (Nat.le_of_ble_eq_true rfl) dX6_readResults_18 hm (fun x6 H locs B hm => ?_)
  refine lv_istore_n (lv' := [(2, .int x6), (1, .int (x5 - (1 : Int32))), (0, .ref (a 0))]) hx hb dX6_readResults_21 rfl hl (by decide) rfl (fun ls hl => ?_)
  refine lv_aload_n hx hb dX6_readResults_22 rfl (lv_at hl 2 rfl) ?_
  refine lv_iload_n hx hb dX6_readResults_23 rfl (lv_at hl 0 rfl) ?_
  refine x_callVrS (rest := []) hE hx hb hml hT hown hK hA B hl.1 (c_X6_faultOfResults l D cI cZ adK adV a x6) mi_X6_faultOfResults mv_X6_faultOfResults xO_X rfl q557 ⟨rfl, rfl⟩ ⟨Nat.le_of_ble_eq_true rfl, Nat.le_of_ble_eq_true rfl⟩ rfl rfl (Nat.le_of_ble_eq_true rfl) dX6_readResults_24 hm (fun x7 H locs B hm => ?_)
  refine lv_istore_n (lv' := [(3, .int x7), (2, .int x6), (1, .int (x5 - (1 : Int32))), (0, .ref (a 0))]) hx hb dX6_readResults_27 rfl hl (by decide) rfl (fun ls hl => ?_)
  refine lv_iload_n hx hb dX6_readResults_28 rfl (lv_at hl 0 rfl) ?_
  refine lv_bipush (v := (-5 : Int32)) hx hb dX6_readResults_29 (by decide) ?_
  refine lv_icmp_eq (tgt := 39) hx hb dX6_readResults_31 (by decide) (fun q => ?_) (fun q => ?_)
  · have hm := ift hm q
    refine lv_iconst (v := (0 : Int32)) hx hb dX6_readResults_39 (by decide) ?_
    refine lv_istore (lv' := [(4, .int (0 : Int32)), (3, .int x7), (2, .int x6), (1, .int (x5 - (1 : Int32))), (0, .ref (a 0))]) hx hb dX6_readResults_40 hl (by decide) rfl (fun ls hl => ?_)
    exact L42 (x5 - (1 : Int32)) x6 5000 σ (0 : Int32) hm H locs ls B (lv_sub hl [4, 3, 2, 0] rfl)
  · have hm := iff hm q
    refine lv_bipush (v := (-100 : Int32)) hx hb dX6_readResults_34 (by decide) ?_
    refine lv_iload_n hx hb dX6_readResults_36 rfl (lv_at hl 0 rfl) ?_
    refine lv_isub hx hb dX6_readResults_37 ?_
    exact x_iret hx hb hr hlk hK B dX6_readResults_38 hm
def f_X6_results_j19 (σ : Mm) (s0 : Int32) : Option (Int32 × Mm) :=
  (some (sc σ 71 (0 : Int32))).bind fun σ =>
  some (s0, σ)
def f_X6_results (σ : Mm) : Option (Int32 × Mm) :=
  (some (σ 4 0)).bind fun x1 =>
  if x1 = 0 then
    f_X6_results_j19 σ (-3 : Int32)
  else
    (f_X6_readResults σ).bind fun z => match z with
    | (x2, σ) =>
      f_X6_results_j19 σ x2
set_option maxHeartbeats 4000000 in
set_option maxRecDepth 100000 in
theorem c_X6_results (l : Launch) (D : va_G) (cI cZ : ClassId) (adK adV : Nat → Nat) (a : Nat → Nat) : CTiS l D [(cI, FieldType.int), (cZ, FieldType.boolean)] adK adV (xW cI a) yX6_results (.code yX6_results cX6_results 2 (some FieldType.int) :: wsL_law) ({ frames := 6, cells := 0, slots := 0, locals := 138 } : Room) [.ref (a 0)] (fun σ => f_X6_results σ) := by
  refine CTiS.of (by decide +kernel) (Nat.le_of_ble_eq_true rfl) ?_
  intro σ out hm p e s m below meth c A ls H locs hx hb hr hlk hml hT hown hK hA B hl hE
  have hown : s.vm.findClass RX6 = some m.cls := hown
  have hl : lv_has ls 2 [(0, .ref (a 0))] := hl
  have hm : f_X6_results σ = some out := hm
  unfold f_X6_results at hm
  have j19 : ∀ (σ : Mm) (s0 : Int32) (H : Heap) (locs : List Loc) (ls : Array Slot), BD D A s.heap ((xW cI a) σ) H locs → lv_has ls 2 [(0, .ref (a 0))] → f_X6_results_j19 σ s0 = some out → W p l e ({ frames := 6, cells := 0, slots := 0, locals := 138 } : Room) s m ([.ref (a 0)] : List Value).toArray below meth c H locs 0 0 (MQ below (QI D [(cI, FieldType.int), (cZ, FieldType.boolean)] (xW cI a) A out) ([.ref (a 0)] : List Value).toArray s 0 0 A) (F0 m 19 ls [.int s0]) := by
    intro σ s0 H locs ls B hl hm
    unfold f_X6_results_j19 at hm
    refine lv_istore_n (lv' := [(1, .int s0), (0, .ref (a 0))]) hx hb dX6_results_19 rfl hl (by decide) rfl (fun ls hl => ?_)
    refine lv_aload_n hx hb dX6_results_20 rfl (lv_at hl 1 rfl) ?_
    refine x_getv (T := TX6) (N := 8) hx hb hT hown hK B xV_X_tape inlX6 rfl (by decide) q189 rfl dX6_results_21 ?_
    refine lv_iconst (v := (0 : Int32)) hx hb dX6_results_24 (by decide) ?_
    refine x_putiN (T := TX5) (N := 2) hx hb hT hown hK B xI_tape_length inlX5 tyX5_ok nmX5 rfl (by decide) q165 rfl rfl rfl rfl rfl dX6_results_25 hm (fun σ H locs B hm => ?_)
    refine lv_iload_n hx hb dX6_results_28 rfl (lv_at hl 0 rfl) ?_
    exact x_iret hx hb hr hlk hK B dX6_results_29 hm
  refine lv_aload_n hx hb dX6_results_0 rfl (lv_at hl 0 rfl) ?_
  refine x_getv (T := TX6) (N := 8) hx hb hT hown hK B xV_X_book inlX6 rfl (by decide) q184 rfl dX6_results_1 ?_
  refine x_getibN (T := TX0) (N := 12) hx hb hT hown hK B xI_book_open inlX0 rfl (by decide) q58 rfl dX6_results_4 hm (fun x1 hm => ?_)
  refine lv_if_eq (tgt := 17) hx hb dX6_results_7 (by decide) (fun q => ?_) (fun q => ?_)
  · have hm := ift hm q
    refine lv_bipush (v := (-3 : Int32)) hx hb dX6_results_17 (by decide) ?_
    exact j19 σ (-3 : Int32) H locs ls B (lv_sub hl [0] rfl) hm
  · have hm := iff hm q
    refine lv_aload_n hx hb dX6_results_10 rfl (lv_at hl 0 rfl) ?_
    refine x_callViS (rest := []) hE hx hb hml hT hown hK hA B hl.1 (c_X6_readResults l D cI cZ adK adV a) mi_X6_readResults mv_X6_readResults xO_X rfl q554 ⟨rfl, rfl⟩ ⟨Nat.le_of_ble_eq_true rfl, Nat.le_of_ble_eq_true rfl⟩ rfl rfl (Nat.le_of_ble_eq_true rfl) dX6_results_11 hm (fun x2 σ H locs B hm => ?_)
    dsimp only at hm
    refine lv_goto (tgt := 19) hx hb dX6_results_14 (by decide) ?_
    exact j19 σ x2 H locs ls B (lv_sub hl [0] rfl) hm
def f_X6_faultOfOrder_j56 (σ : Mm) : Option Int32 :=
  if (σ 71 0) = 0 then
    some (0 : Int32)
  else
    some (-5 : Int32)
def f_X6_faultOfOrder_s4 (σ : Mm) (r4 : Int32 → Int32 → Option Int32) (v1 v2 : Int32) : Option Int32 :=
  if (σ 71 0) ≤ v2 then
    f_X6_faultOfOrder_j56 σ
  else
    (f_X5_byteAt_tape σ v2).bind fun x1 =>
    (f_J0_indexOf_0f7a4 1 ((x1.toUInt32 % 65536).toInt32)).bind fun x2 =>
    if x2 < 0 then
      some v2
    else
      if ((v1 >>> (x2 &&& 31)) &&& (1 : Int32)) = 0 then
        r4 (v1 ||| ((1 : Int32) <<< (x2 &&& 31))) (v2 + (1 : Int32))
      else
        some v2
def f_X6_faultOfOrder (σ : Mm) : Option Int32 :=
  wh2 (f_X6_faultOfOrder_s4 σ) 5000 (0 : Int32) (0 : Int32)
set_option maxHeartbeats 4000000 in
set_option maxRecDepth 100000 in
theorem c_X6_faultOfOrder (l : Launch) (D : va_G) (cI cZ : ClassId) (adK adV : Nat → Nat) (a : Nat → Nat) : CTrS l D [(cI, FieldType.int), (cZ, FieldType.boolean)] adK adV (xW cI a) yX6_faultOfOrder (.code yX6_faultOfOrder cX6_faultOfOrder 4 (some FieldType.int) :: wsL_law) ({ frames := 4, cells := 0, slots := 0, locals := 91 } : Room) [.ref (a 0)] (fun σ => f_X6_faultOfOrder σ) := by
  refine CTrS.of (by decide +kernel) (Nat.le_of_ble_eq_true rfl) ?_
  intro σ r hm p e s m below meth c A ls H locs hx hb hr hlk hml hT hown hK hA B hl hE
  have hown : s.vm.findClass RX6 = some m.cls := hown
  have hl : lv_has ls 4 [(0, .ref (a 0))] := hl
  have hm : f_X6_faultOfOrder σ = some r := hm
  unfold f_X6_faultOfOrder at hm
  have j56 : ∀  (H : Heap) (locs : List Loc) (ls : Array Slot), BD D A s.heap ((xW cI a) σ) H locs → lv_has ls 4 [(0, .ref (a 0))] → f_X6_faultOfOrder_j56 σ = some r → W p l e ({ frames := 4, cells := 0, slots := 0, locals := 91 } : Room) s m ([.ref (a 0)] : List Value).toArray below meth c H locs 0 0 (MQ below (QI D [(cI, FieldType.int), (cZ, FieldType.boolean)] (xW cI a) A (r, σ)) ([.ref (a 0)] : List Value).toArray s 0 0 A) (F0 m 56 ls []) := by
    intro  H locs ls B hl hm
    unfold f_X6_faultOfOrder_j56 at hm
    refine lv_aload_n hx hb dX6_faultOfOrder_56 rfl (lv_at hl 0 rfl) ?_
    refine x_getv (T := TX6) (N := 8) hx hb hT hown hK B xV_X_tape inlX6 rfl (by decide) q189 rfl dX6_faultOfOrder_57 ?_
    refine x_getiN (T := TX5) (N := 2) hx hb hT hown hK B xI_tape_length inlX5 rfl (by decide) q165 rfl dX6_faultOfOrder_60 ?_
    refine lv_if_ne (tgt := 70) hx hb dX6_faultOfOrder_63 (by decide) (fun q => ?_) (fun q => ?_)
    · have hm := iff hm q
      refine lv_bipush (v := (-5 : Int32)) hx hb dX6_faultOfOrder_70 (by decide) ?_
      exact x_iretr hx hb hr hlk hK B dX6_faultOfOrder_72 hm
    · have hm := ift hm q
      refine lv_iconst (v := (0 : Int32)) hx hb dX6_faultOfOrder_66 (by decide) ?_
      refine lv_goto (tgt := 72) hx hb dX6_faultOfOrder_67 (by decide) ?_
      exact x_iretr hx hb hr hlk hK B dX6_faultOfOrder_72 hm
  have L4 : ∀ (nn : Nat) (v1 : Int32) (v2 : Int32), wh2 (f_X6_faultOfOrder_s4 σ) nn v1 v2 = some r → ∀ (H : Heap) (locs : List Loc) (ls : Array Slot), BD D A s.heap ((xW cI a) σ) H locs → lv_has ls 4 [(0, .ref (a 0)), (1, .int v1), (2, .int v2)] → W p l e ({ frames := 4, cells := 0, slots := 0, locals := 91 } : Room) s m ([.ref (a 0)] : List Value).toArray below meth c H locs 0 0 (MQ below (QI D [(cI, FieldType.int), (cZ, FieldType.boolean)] (xW cI a) A (r, σ)) ([.ref (a 0)] : List Value).toArray s 0 0 A) (F0 m 4 ls []) := by
    refine loop2 (fun r4 ih4 v1 v2 hm H locs ls B hl => ?_)
    unfold f_X6_faultOfOrder_s4 at hm
    refine lv_iload_n hx hb dX6_faultOfOrder_4 rfl (lv_at hl 2 rfl) ?_
    refine lv_aload_n hx hb dX6_faultOfOrder_5 rfl (lv_at hl 0 rfl) ?_
    refine x_getv (T := TX6) (N := 8) hx hb hT hown hK B xV_X_tape inlX6 rfl (by decide) q189 rfl dX6_faultOfOrder_6 ?_
    refine x_getiN (T := TX5) (N := 2) hx hb hT hown hK B xI_tape_length inlX5 rfl (by decide) q165 rfl dX6_faultOfOrder_9 ?_
    refine lv_icmp_ge (tgt := 56) hx hb dX6_faultOfOrder_12 (by decide) (fun q => ?_) (fun q => ?_)
    · have hm := ift hm q
      exact j56  H locs ls B (lv_sub hl [0] rfl) hm
    · have hm := iff hm q
      refine va_ldcS hx hb hown hE.2.1.2 dX6_faultOfOrder_15 ?_
      refine lv_aload_n hx hb dX6_faultOfOrder_17 rfl (lv_at hl 0 rfl) ?_
      refine x_getv (T := TX6) (N := 8) hx hb hT hown hK B xV_X_tape inlX6 rfl (by decide) q189 rfl dX6_faultOfOrder_18 ?_
      refine lv_iload_n hx hb dX6_faultOfOrder_21 rfl (lv_at hl 2 rfl) ?_
      refine x_callVr (rest := [.ref (adK 1)]) hx hb hml hT hown hK hA B hl.1 (c_X5_byteAt_tape l D cI cZ a v2) mi_X5_byteAt mv_X5_byteAt xO_tape rfl q560 ⟨rfl, rfl⟩ ⟨Nat.le_of_ble_eq_true rfl, Nat.le_of_ble_eq_true rfl⟩ rfl rfl (Nat.le_of_ble_eq_true rfl) dX6_faultOfOrder_22 hm (fun x1 H locs B hm => ?_)
      refine lv_i2c (v := (x1.toUInt32 % 65536).toInt32) hx hb dX6_faultOfOrder_25 rfl ?_
      refine x_callKr (rest := []) hE hx hb hml hT hown hK hA B hl.1 (c_J0_indexOf_0f7a4 l D cI cZ adK adV (xW cI a) (show 1 < 2 by decide) ((x1.toUInt32 % 65536).toInt32)) mi_J0_indexOf_0f7a4 mv_J0_indexOf_0f7a4 (show 1 < 2 by decide) rfl q565 ⟨rfl, rfl⟩ ⟨Nat.le_of_ble_eq_true rfl, Nat.le_of_ble_eq_true rfl⟩ rfl rfl (Nat.le_of_ble_eq_true rfl) dX6_faultOfOrder_26 hm (fun x2 H locs B hm => ?_)
      refine lv_istore_n (lv' := [(3, .int x2), (0, .ref (a 0)), (1, .int v1), (2, .int v2)]) hx hb dX6_faultOfOrder_29 rfl hl (by decide) rfl (fun ls hl => ?_)
      refine lv_iload_n hx hb dX6_faultOfOrder_30 rfl (lv_at hl 0 rfl) ?_
      refine lv_if_lt (tgt := 42) hx hb dX6_faultOfOrder_31 (by decide) (fun q => ?_) (fun q => ?_)
      · have hm := ift hm q
        refine lv_iload_n hx hb dX6_faultOfOrder_42 rfl (lv_at hl 3 rfl) ?_
        exact x_iretr hx hb hr hlk hK B dX6_faultOfOrder_43 hm
      · have hm := iff hm q
        refine lv_iload_n hx hb dX6_faultOfOrder_34 rfl (lv_at hl 2 rfl) ?_
        refine lv_iload_n hx hb dX6_faultOfOrder_35 rfl (lv_at hl 0 rfl) ?_
        refine lv_ishr hx hb dX6_faultOfOrder_36 ?_
        refine lv_iconst (v := (1 : Int32)) hx hb dX6_faultOfOrder_37 (by decide) ?_
        refine lv_iand hx hb dX6_faultOfOrder_38 ?_
        refine lv_if_eq (tgt := 44) hx hb dX6_faultOfOrder_39 (by decide) (fun q => ?_) (fun q => ?_)
        · have hm := ift hm q
          refine lv_iload_n hx hb dX6_faultOfOrder_44 rfl (lv_at hl 2 rfl) ?_
          refine lv_iconst (v := (1 : Int32)) hx hb dX6_faultOfOrder_45 (by decide) ?_
          refine lv_iload_n hx hb dX6_faultOfOrder_46 rfl (lv_at hl 0 rfl) ?_
          refine lv_ishl hx hb dX6_faultOfOrder_47 ?_
          refine lv_ior hx hb dX6_faultOfOrder_48 ?_
          refine lv_istore_n (lv' := [(1, .int (v1 ||| ((1 : Int32) <<< (x2 &&& 31)))), (3, .int x2), (0, .ref (a 0)), (2, .int v2)]) hx hb dX6_faultOfOrder_49 rfl hl (by decide) rfl (fun ls hl => ?_)
          refine lv_iinc (v := (v2 + (1 : Int32))) (lv' := [(2, .int (v2 + (1 : Int32))), (1, .int (v1 ||| ((1 : Int32) <<< (x2 &&& 31)))), (3, .int x2), (0, .ref (a 0))]) hx hb dX6_faultOfOrder_50 hl (k := 3) rfl rfl (by decide) rfl (fun ls hl => ?_)
          refine lv_goto (tgt := 4) hx hb dX6_faultOfOrder_53 (by decide) ?_
          exact ih4 (v1 ||| ((1 : Int32) <<< (x2 &&& 31))) (v2 + (1 : Int32)) hm H locs ls B (lv_sub hl [3, 1, 0] rfl)
        · have hm := iff hm q
          refine lv_iload_n hx hb dX6_faultOfOrder_42 rfl (lv_at hl 3 rfl) ?_
          exact x_iretr hx hb hr hlk hK B dX6_faultOfOrder_43 hm
  refine lv_iconst (v := (0 : Int32)) hx hb dX6_faultOfOrder_0 (by decide) ?_
  refine lv_istore_n (lv' := [(1, .int (0 : Int32)), (0, .ref (a 0))]) hx hb dX6_faultOfOrder_1 rfl hl (by decide) rfl (fun ls hl => ?_)
  refine lv_iconst (v := (0 : Int32)) hx hb dX6_faultOfOrder_2 (by decide) ?_
  refine lv_istore_n (lv' := [(2, .int (0 : Int32)), (1, .int (0 : Int32)), (0, .ref (a 0))]) hx hb dX6_faultOfOrder_3 rfl hl (by decide) rfl (fun ls hl => ?_)
  exact L4 5000 (0 : Int32) (0 : Int32) hm H locs ls B (lv_sub hl [2, 1, 0] rfl)
def f_X6_readOrder_j48 (σ : Mm) : Option Mm :=
  (some (σ 71 0)).bind fun x1 =>
  (some (sc σ 10 (x1 + (1 : Int32)))).bind fun σ =>
  some σ
def f_X6_readOrder_s2 (r2 : Mm → Int32 → Option Mm) (σ : Mm) (v1 : Int32) : Option Mm :=
  (some (σ 71 0)).bind fun x2 =>
  if x2 ≤ v1 then
    f_X6_readOrder_j48 σ
  else
    (f_X5_byteAt_tape σ v1).bind fun x3 =>
    (f_J0_indexOf_0f7a4 1 ((x3.toUInt32 % 65536).toInt32)).bind fun x4 =>
    (f_X2_put 9 11 σ (v1 + (1 : Int32)) (x4 + (1 : Int32))).bind fun σ =>
    r2 σ (v1 + (1 : Int32))
def f_X6_readOrder (σ : Mm) : Option Mm :=
  wh2 (f_X6_readOrder_s2) 5000 σ (0 : Int32)
set_option maxHeartbeats 4000000 in
set_option maxRecDepth 100000 in
theorem c_X6_readOrder (l : Launch) (D : va_G) (cI cZ : ClassId) (adK adV : Nat → Nat) (a : Nat → Nat) : CTvS l D [(cI, FieldType.int), (cZ, FieldType.boolean)] adK adV (xW cI a) yX6_readOrder (.code yX6_readOrder cX6_readOrder 2 (none : Option FieldType) :: wsL_law) ({ frames := 4, cells := 0, slots := 0, locals := 91 } : Room) [.ref (a 0)] (fun σ => f_X6_readOrder σ) := by
  refine CTvS.of (by decide +kernel) (Nat.le_of_ble_eq_true rfl) ?_
  intro σ out hm p e s m below meth c A ls H locs hx hb hr hlk hml hT hown hK hA B hl hE
  have hown : s.vm.findClass RX6 = some m.cls := hown
  have hl : lv_has ls 2 [(0, .ref (a 0))] := hl
  have hm : f_X6_readOrder σ = some out := hm
  unfold f_X6_readOrder at hm
  have j48 : ∀ (σ : Mm)  (H : Heap) (locs : List Loc) (ls : Array Slot), BD D A s.heap ((xW cI a) σ) H locs → lv_has ls 2 [(0, .ref (a 0))] → f_X6_readOrder_j48 σ = some out → W p l e ({ frames := 4, cells := 0, slots := 0, locals := 91 } : Room) s m ([.ref (a 0)] : List Value).toArray below meth c H locs 0 0 (MQ below (QV D [(cI, FieldType.int), (cZ, FieldType.boolean)] (xW cI a) A out) ([.ref (a 0)] : List Value).toArray s 0 0 A) (F0 m 48 ls []) := by
    intro σ  H locs ls B hl hm
    unfold f_X6_readOrder_j48 at hm
    refine lv_aload_n hx hb dX6_readOrder_48 rfl (lv_at hl 0 rfl) ?_
    refine x_getv (T := TX6) (N := 8) hx hb hT hown hK B xV_X_book inlX6 rfl (by decide) q184 rfl dX6_readOrder_49 ?_
    refine lv_aload_n hx hb dX6_readOrder_52 rfl (lv_at hl 0 rfl) ?_
    refine x_getv (T := TX6) (N := 8) hx hb hT hown hK B xV_X_tape inlX6 rfl (by decide) q189 rfl dX6_readOrder_53 ?_
    refine x_getibN (T := TX5) (N := 2) hx hb hT hown hK B xI_tape_length inlX5 rfl (by decide) q165 rfl dX6_readOrder_56 hm (fun x1 hm => ?_)
    refine lv_iconst (v := (1 : Int32)) hx hb dX6_readOrder_59 (by decide) ?_
    refine lv_iadd hx hb dX6_readOrder_60 ?_
    refine x_putiN (T := TX0) (N := 12) hx hb hT hown hK B xI_book_breaks inlX0 tyX0_ok nmX0 rfl (by decide) q76 rfl rfl rfl rfl rfl dX6_readOrder_61 hm (fun σ H locs B hm => ?_)
    exact x_vret hx hb hr hlk hK B dX6_readOrder_64 hm
  have L2 : ∀ (nn : Nat) (σ : Mm) (v1 : Int32), wh2 f_X6_readOrder_s2 nn σ v1 = some out → ∀ (H : Heap) (locs : List Loc) (ls : Array Slot), BD D A s.heap ((xW cI a) σ) H locs → lv_has ls 2 [(0, .ref (a 0)), (1, .int v1)] → W p l e ({ frames := 4, cells := 0, slots := 0, locals := 91 } : Room) s m ([.ref (a 0)] : List Value).toArray below meth c H locs 0 0 (MQ below (QV D [(cI, FieldType.int), (cZ, FieldType.boolean)] (xW cI a) A out) ([.ref (a 0)] : List Value).toArray s 0 0 A) (F0 m 2 ls []) := by
    refine loop2 (fun r2 ih2 σ v1 hm H locs ls B hl => ?_)
    unfold f_X6_readOrder_s2 at hm
    refine lv_iload_n hx hb dX6_readOrder_2 rfl (lv_at hl 1 rfl) ?_
    refine lv_aload_n hx hb dX6_readOrder_3 rfl (lv_at hl 0 rfl) ?_
    refine x_getv (T := TX6) (N := 8) hx hb hT hown hK B xV_X_tape inlX6 rfl (by decide) q189 rfl dX6_readOrder_4 ?_
    refine x_getibN (T := TX5) (N := 2) hx hb hT hown hK B xI_tape_length inlX5 rfl (by decide) q165 rfl dX6_readOrder_7 hm (fun x2 hm => ?_)
    refine lv_icmp_ge (tgt := 48) hx hb dX6_readOrder_10 (by decide) (fun q => ?_) (fun q => ?_)
    · have hm := ift hm q
      exact j48 σ H locs ls B (lv_sub hl [0] rfl) hm
    · have hm := iff hm q
      refine lv_aload_n hx hb dX6_readOrder_13 rfl (lv_at hl 0 rfl) ?_
      refine x_getv (T := TX6) (N := 8) hx hb hT hown hK B xV_X_book inlX6 rfl (by decide) q184 rfl dX6_readOrder_14 ?_
      refine x_getvN (T := TX0) (N := 12) hx hb hT hown hK B xV_book_breakOrder inlX0 rfl (by decide) q79 rfl dX6_readOrder_17 ?_
      refine lv_iload_n hx hb dX6_readOrder_20 rfl (lv_at hl 1 rfl) ?_
      refine lv_iconst (v := (1 : Int32)) hx hb dX6_readOrder_21 (by decide) ?_
      refine lv_iadd hx hb dX6_readOrder_22 ?_
      refine va_ldcS hx hb hown hE.2.1.2 dX6_readOrder_23 ?_
      refine lv_aload_n hx hb dX6_readOrder_25 rfl (lv_at hl 0 rfl) ?_
      refine x_getv (T := TX6) (N := 8) hx hb hT hown hK B xV_X_tape inlX6 rfl (by decide) q189 rfl dX6_readOrder_26 ?_
      refine lv_iload_n hx hb dX6_readOrder_29 rfl (lv_at hl 1 rfl) ?_
      refine x_callVr (rest := [.ref (adK 1), .int (v1 + (1 : Int32)), .ref (a 16)]) hx hb hml hT hown hK hA B hl.1 (c_X5_byteAt_tape l D cI cZ a v1) mi_X5_byteAt mv_X5_byteAt xO_tape rfl q560 ⟨rfl, rfl⟩ ⟨Nat.le_of_ble_eq_true rfl, Nat.le_of_ble_eq_true rfl⟩ rfl rfl (Nat.le_of_ble_eq_true rfl) dX6_readOrder_30 hm (fun x3 H locs B hm => ?_)
      refine lv_i2c (v := (x3.toUInt32 % 65536).toInt32) hx hb dX6_readOrder_33 rfl ?_
      refine x_callKr (rest := [.int (v1 + (1 : Int32)), .ref (a 16)]) hE hx hb hml hT hown hK hA B hl.1 (c_J0_indexOf_0f7a4 l D cI cZ adK adV (xW cI a) (show 1 < 2 by decide) ((x3.toUInt32 % 65536).toInt32)) mi_J0_indexOf_0f7a4 mv_J0_indexOf_0f7a4 (show 1 < 2 by decide) rfl q565 ⟨rfl, rfl⟩ ⟨Nat.le_of_ble_eq_true rfl, Nat.le_of_ble_eq_true rfl⟩ rfl rfl (Nat.le_of_ble_eq_true rfl) dX6_readOrder_34 hm (fun x4 H locs B hm => ?_)
      refine lv_iconst (v := (1 : Int32)) hx hb dX6_readOrder_37 (by decide) ?_
      refine lv_iadd hx hb dX6_readOrder_38 ?_
      refine x_callVv (rest := []) hx hb hml hT hown hK hA B hl.1 (c_X2_put l D cI cZ xV_book_breakOrder_cells xA_book_breakOrder (v1 + (1 : Int32)) (x4 + (1 : Int32))) mi_X2_put mv_X2_put xO_book_breakOrder rfl q318 ⟨rfl, rfl⟩ ⟨Nat.le_of_ble_eq_true rfl, Nat.le_of_ble_eq_true rfl⟩ rfl rfl (Nat.le_of_ble_eq_true rfl) dX6_readOrder_39 hm (fun σ H locs B hm => ?_)
      refine lv_iinc (v := (v1 + (1 : Int32))) (lv' := [(1, .int (v1 + (1 : Int32))), (0, .ref (a 0))]) hx hb dX6_readOrder_42 hl (k := 1) rfl rfl (by decide) rfl (fun ls hl => ?_)
      refine lv_goto (tgt := 2) hx hb dX6_readOrder_45 (by decide) ?_
      exact ih2 σ (v1 + (1 : Int32)) hm H locs ls B (lv_sub hl [1, 0] rfl)
  refine lv_iconst (v := (0 : Int32)) hx hb dX6_readOrder_0 (by decide) ?_
  refine lv_istore_n (lv' := [(1, .int (0 : Int32)), (0, .ref (a 0))]) hx hb dX6_readOrder_1 rfl hl (by decide) rfl (fun ls hl => ?_)
  exact L2 5000 σ (0 : Int32) hm H locs ls B (lv_sub hl [1, 0] rfl)
def f_X6_order_j22 (σ : Mm) (v1 : Int32) : Option (Int32 × Mm) :=
  (some (sc σ 71 (0 : Int32))).bind fun σ =>
  if v1 = (-5 : Int32) then
    (some (σ 10 0)).bind fun x1 =>
    some (x1, σ)
  else
    some (((-100 : Int32) - v1), σ)
def f_X6_order (σ : Mm) : Option (Int32 × Mm) :=
  (f_X6_faultOfOrder σ).bind fun x2 =>
  if x2 = (-5 : Int32) then
    (f_X6_readOrder σ).bind fun σ =>
    (f_X4_reckon σ).bind fun σ =>
    f_X6_order_j22 σ x2
  else
    f_X6_order_j22 σ x2
set_option maxHeartbeats 4000000 in
set_option maxRecDepth 100000 in
theorem c_X6_order (l : Launch) (D : va_G) (cI cZ : ClassId) (adK adV : Nat → Nat) (a : Nat → Nat) : CTiS l D [(cI, FieldType.int), (cZ, FieldType.boolean)] adK adV (xW cI a) yX6_order (.code yX6_order cX6_order 2 (some FieldType.int) :: wsL_law) ({ frames := 7, cells := 0, slots := 0, locals := 162 } : Room) [.ref (a 0)] (fun σ => f_X6_order σ) := by
  refine CTiS.of (by decide +kernel) (Nat.le_of_ble_eq_true rfl) ?_
  intro σ out hm p e s m below meth c A ls H locs hx hb hr hlk hml hT hown hK hA B hl hE
  have hown : s.vm.findClass RX6 = some m.cls := hown
  have hl : lv_has ls 2 [(0, .ref (a 0))] := hl
  have hm : f_X6_order σ = some out := hm
  unfold f_X6_order at hm
  have j22 : ∀ (σ : Mm) (v1 : Int32) (H : Heap) (locs : List Loc) (ls : Array Slot), BD D A s.heap ((xW cI a) σ) H locs → lv_has ls 2 [(0, .ref (a 0)), (1, .int v1)] → f_X6_order_j22 σ v1 = some out → W p l e ({ frames := 7, cells := 0, slots := 0, locals := 162 } : Room) s m ([.ref (a 0)] : List Value).toArray below meth c H locs 0 0 (MQ below (QI D [(cI, FieldType.int), (cZ, FieldType.boolean)] (xW cI a) A out) ([.ref (a 0)] : List Value).toArray s 0 0 A) (F0 m 22 ls []) := by
    intro σ v1 H locs ls B hl hm
    unfold f_X6_order_j22 at hm
    refine lv_aload_n hx hb dX6_order_22 rfl (lv_at hl 0 rfl) ?_
    refine x_getv (T := TX6) (N := 8) hx hb hT hown hK B xV_X_tape inlX6 rfl (by decide) q189 rfl dX6_order_23 ?_
    refine lv_iconst (v := (0 : Int32)) hx hb dX6_order_26 (by decide) ?_
    refine x_putiN (T := TX5) (N := 2) hx hb hT hown hK B xI_tape_length inlX5 tyX5_ok nmX5 rfl (by decide) q165 rfl rfl rfl rfl rfl dX6_order_27 hm (fun σ H locs B hm => ?_)
    refine lv_iload_n hx hb dX6_order_30 rfl (lv_at hl 1 rfl) ?_
    refine lv_bipush (v := (-5 : Int32)) hx hb dX6_order_31 (by decide) ?_
    refine lv_icmp_ne (tgt := 46) hx hb dX6_order_33 (by decide) (fun q => ?_) (fun q => ?_)
    · have hm := iff hm q
      refine lv_bipush (v := (-100 : Int32)) hx hb dX6_order_46 (by decide) ?_
      refine lv_iload_n hx hb dX6_order_48 rfl (lv_at hl 1 rfl) ?_
      refine lv_isub hx hb dX6_order_49 ?_
      exact x_iret hx hb hr hlk hK B dX6_order_50 hm
    · have hm := ift hm q
      refine lv_aload_n hx hb dX6_order_36 rfl (lv_at hl 0 rfl) ?_
      refine x_getv (T := TX6) (N := 8) hx hb hT hown hK B xV_X_book inlX6 rfl (by decide) q184 rfl dX6_order_37 ?_
      refine x_getibN (T := TX0) (N := 12) hx hb hT hown hK B xI_book_breaks inlX0 rfl (by decide) q76 rfl dX6_order_40 hm (fun x1 hm => ?_)
      refine lv_goto (tgt := 50) hx hb dX6_order_43 (by decide) ?_
      exact x_iret hx hb hr hlk hK B dX6_order_50 hm
  refine lv_aload_n hx hb dX6_order_0 rfl (lv_at hl 0 rfl) ?_
  refine x_callVrS (rest := []) hE hx hb hml hT hown hK hA B hl.1 (c_X6_faultOfOrder l D cI cZ adK adV a) mi_X6_faultOfOrder mv_X6_faultOfOrder xO_X rfl q647 ⟨rfl, rfl⟩ ⟨Nat.le_of_ble_eq_true rfl, Nat.le_of_ble_eq_true rfl⟩ rfl rfl (Nat.le_of_ble_eq_true rfl) dX6_order_1 hm (fun x2 H locs B hm => ?_)
  refine lv_istore_n (lv' := [(1, .int x2), (0, .ref (a 0))]) hx hb dX6_order_4 rfl hl (by decide) rfl (fun ls hl => ?_)
  refine lv_iload_n hx hb dX6_order_5 rfl (lv_at hl 0 rfl) ?_
  refine lv_bipush (v := (-5 : Int32)) hx hb dX6_order_6 (by decide) ?_
  refine lv_icmp_ne (tgt := 22) hx hb dX6_order_8 (by decide) (fun q => ?_) (fun q => ?_)
  · have hm := iff hm q
    exact j22 σ x2 H locs ls B (lv_sub hl [1, 0] rfl) hm
  · have hm := ift hm q
    refine lv_aload_n hx hb dX6_order_11 rfl (lv_at hl 1 rfl) ?_
    refine x_callVvS (rest := []) hE hx hb hml hT hown hK hA B hl.1 (c_X6_readOrder l D cI cZ adK adV a) mi_X6_readOrder mv_X6_readOrder xO_X rfl q650 ⟨rfl, rfl⟩ ⟨Nat.le_of_ble_eq_true rfl, Nat.le_of_ble_eq_true rfl⟩ rfl rfl (Nat.le_of_ble_eq_true rfl) dX6_order_12 hm (fun σ H locs B hm => ?_)
    refine lv_aload_n hx hb dX6_order_15 rfl (lv_at hl 1 rfl) ?_
    refine x_getv (T := TX6) (N := 8) hx hb hT hown hK B xV_X_table inlX6 rfl (by decide) q187 rfl dX6_order_16 ?_
    refine x_callVv (rest := []) hx hb hml hT hown hK hA B hl.1 (c_X4_reckon l D cI cZ a) mi_X4_reckon mv_X4_reckon xO_table rfl q211 ⟨rfl, rfl⟩ ⟨Nat.le_of_ble_eq_true rfl, Nat.le_of_ble_eq_true rfl⟩ rfl rfl (Nat.le_of_ble_eq_true rfl) dX6_order_19 hm (fun σ H locs B hm => ?_)
    exact j22 σ x2 H locs ls B (lv_sub hl [1, 0] rfl) hm
