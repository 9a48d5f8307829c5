/-! ===== the reference made ===== -/
theorem n_arr0 {p : Program} {l : Launch} {e : Env} {R : Room} {s : State} {m : MethodId} {args : Array Value} {below : List Frame} {meth : Method} {c : Code} {H : Heap} {locs : List Loc} {cells slots : Nat} {Q : State → Prop} {cc : ByteArray} {pc : Nat} {ls : Array Slot} {rest : List Value} {D : va_G} {A : Nat → Prop} {h : Nat} {cI cZ : ClassId} {T : va_W} {x0 : va_E} {n : Int32} {N : Nat} (hx : p.tables.exec = Jvm.exec) (hb : c.code = cc) (hT : ∀ w ∈ wsL_law, w.before args s = true) (hK : va_K D vwCl [(cI, FieldType.int), (cZ, FieldType.boolean)] s) (hA : ∀ q, s.heap.size ≤ q → A q) (B : BD D A s.heap ((h, x0) :: T) H locs)
    (hn : ¬ n < 0) (hN : n.toNatClampNeg = N) (hN2 : N ≤ 5000) (hcells : cells + 1 ≤ R.cells) (hslots : slots + N ≤ R.slots) (hdg : decode cc pc = .ok (.newarray .int, 2))
    (kk : ∀ (q : Nat) (T1 : va_W) (H1 : Heap), T1 = T ++ [(q, .inl (cI, N, .inl (fun _ => 0)))] → BD D A s.heap ((h, x0) :: T1) H1 locs → W p l e R s m args below meth c H1 locs (cells + 1) (slots + N) Q (F0 m (pc + 2) ls (.ref q :: rest))) : W p l e R s m args below meth c H locs cells slots Q (F0 m pc ls (.int n :: rest)) :=
  n_arr hx hb hT hK hA B hn hN hN2 hcells hslots hdg (fun q H1 B => kk q _ H1 rfl B)
theorem n_arrz0 {p : Program} {l : Launch} {e : Env} {R : Room} {s : State} {m : MethodId} {args : Array Value} {below : List Frame} {meth : Method} {c : Code} {H : Heap} {locs : List Loc} {cells slots : Nat} {Q : State → Prop} {cc : ByteArray} {pc : Nat} {ls : Array Slot} {rest : List Value} {D : va_G} {A : Nat → Prop} {h : Nat} {cI cZ : ClassId} {T : va_W} {x0 : va_E} {n : Int32} {N : Nat} (hx : p.tables.exec = Jvm.exec) (hb : c.code = cc) (hT : ∀ w ∈ wsL_law, w.before args s = true) (hK : va_K D vwCl [(cI, FieldType.int), (cZ, FieldType.boolean)] s) (hA : ∀ q, s.heap.size ≤ q → A q) (B : BD D A s.heap ((h, x0) :: T) H locs)
    (hn : ¬ n < 0) (hN : n.toNatClampNeg = N) (hN2 : N ≤ 5000) (hcells : cells + 1 ≤ R.cells) (hslots : slots + N ≤ R.slots) (hdg : decode cc pc = .ok (.newarray .boolean, 2))
    (kk : ∀ (q : Nat) (T1 : va_W) (H1 : Heap), T1 = T ++ [(q, .inl (cZ, N, .inl (fun _ => 0)))] → BD D A s.heap ((h, x0) :: T1) H1 locs → W p l e R s m args below meth c H1 locs (cells + 1) (slots + N) Q (F0 m (pc + 2) ls (.ref q :: rest))) : W p l e R s m args below meth c H locs cells slots Q (F0 m pc ls (.int n :: rest)) :=
  n_arrz hx hb hT hK hA B hn hN hN2 hcells hslots hdg (fun q H1 B => kk q _ H1 rfl B)
theorem n_putF0 {p : Program} {l : Launch} {e : Env} {R : Room} {s : State} {m : MethodId} {args : Array Value} {below : List Frame} {meth : Method} {c : Code} {H : Heap} {locs : List Loc} {cells slots : Nat} {Q : State → Prop} {cc : ByteArray} {pc : Nat} {ls : Array Slot} {rest : List Value} {D : va_G} {A : Nat → Prop} {h : Nat} {own ref C : String} {T : u_T} {N ci index : Nat} {TT : va_W} {fs fs1 : List Value} {ty0 : Nat → FieldType} {v : Value} (k : Nat) (hx : p.tables.exec = Jvm.exec) (hb : c.code = cc) (hT : ∀ w ∈ wsL_law, w.before args s = true) (hown : s.vm.findClass own = some m.cls) {tys : List (ClassId × FieldType)} (hK : va_K D vwCl tys s) (B : BD D A s.heap ((h, .inr (ci, fs)) :: TT) H locs)
    (hin : ∀ w ∈ u_ws C T N, w ∈ wsL_law) (hty : ∀ k, k < N → parseFieldDescriptor (T k).2.2.1 = some (ty0 k)) (hnm : ∀ a, a < N → ∀ b, b < N → a ≠ b → (T a).2.1 ≠ (T b).2.1) (hc : vwCl[ci]? = some (C, T, N)) (hk : k < N) (hlk : Cond.fieldLink own index ref (T k).2.1 (T k).2.2.1 ∈ wsL_law) (hr : ref = (T k).1) (hfin : (T k).2.2.2 = true) (hin2 : meth.name = "<init>") (hdecl : (T k).1 = own) (hn : narrow (ty0 k) v = v) (hfit : fits (ty0 k) v = true) (hl : k < fs.length) (hfs : fs.set k v = fs1) (hdg : decode cc pc = .ok (.putfield index, 3))
    (kk : ∀ (H1 : Heap) (locs1 : List Loc), BD D A s.heap ((h, .inr (ci, fs1)) :: TT) H1 locs1 → W p l e R s m args below meth c H1 locs1 cells slots Q (F0 m (pc + 3) ls rest)) : W p l e R s m args below meth c H locs cells slots Q (F0 m pc ls (v :: .ref h :: rest)) := by
  subst hfs
  exact n_putF (ws := (h, .inr (ci, fs)) :: TT) 0 k hx hb hT hown hK B hin hty hnm rfl hc hk hlk hr hfin hin2 hdecl hn hfit hl hdg kk
theorem n_put0 {p : Program} {l : Launch} {e : Env} {R : Room} {s : State} {m : MethodId} {args : Array Value} {below : List Frame} {meth : Method} {c : Code} {H : Heap} {locs : List Loc} {cells slots : Nat} {Q : State → Prop} {cc : ByteArray} {pc : Nat} {ls : Array Slot} {rest : List Value} {D : va_G} {A : Nat → Prop} {h : Nat} {own ref C : String} {T : u_T} {N ci index : Nat} {TT : va_W} {fs fs1 : List Value} {ty0 : Nat → FieldType} {v : Value} (k : Nat) (hx : p.tables.exec = Jvm.exec) (hb : c.code = cc) (hT : ∀ w ∈ wsL_law, w.before args s = true) (hown : s.vm.findClass own = some m.cls) {tys : List (ClassId × FieldType)} (hK : va_K D vwCl tys s) (B : BD D A s.heap ((h, .inr (ci, fs)) :: TT) H locs)
    (hin : ∀ w ∈ u_ws C T N, w ∈ wsL_law) (hty : ∀ k, k < N → parseFieldDescriptor (T k).2.2.1 = some (ty0 k)) (hnm : ∀ a, a < N → ∀ b, b < N → a ≠ b → (T a).2.1 ≠ (T b).2.1) (hc : vwCl[ci]? = some (C, T, N)) (hk : k < N) (hlk : Cond.fieldLink own index ref (T k).2.1 (T k).2.2.1 ∈ wsL_law) (hr : ref = (T k).1) (hfin : (T k).2.2.2 = false) (hn : narrow (ty0 k) v = v) (hfit : fits (ty0 k) v = true) (hl : k < fs.length) (hfs : fs.set k v = fs1) (hdg : decode cc pc = .ok (.putfield index, 3))
    (kk : ∀ (H1 : Heap) (locs1 : List Loc), BD D A s.heap ((h, .inr (ci, fs1)) :: TT) H1 locs1 → W p l e R s m args below meth c H1 locs1 cells slots Q (F0 m (pc + 3) ls rest)) : W p l e R s m args below meth c H locs cells slots Q (F0 m pc ls (v :: .ref h :: rest)) := by
  subst hfs
  exact n_put (ws := (h, .inr (ci, fs)) :: TT) 0 k hx hb hT hown hK B hin hty hnm rfl hc hk hlk hr hfin hn hfit hl hdg kk
theorem set_last {w : va_W} {x z : Nat × va_E} : (w ++ [x]).set w.length z = w ++ [z] := by
  induction w with
  | nil => rfl
  | cons y w ih => rw [List.cons_append, List.length_cons, List.set_cons_succ, ih, List.cons_append]
theorem n_iastL {p : Program} {l : Launch} {e : Env} {R : Room} {s : State} {m : MethodId} {args : Array Value} {below : List Frame} {meth : Method} {c : Code} {H : Heap} {locs : List Loc} {cells slots : Nat} {Q : State → Prop} {cc : ByteArray} {pc : Nat} {ls : Array Slot} {rest : List Value} {D : va_G} {A : Nat → Prop} {h : Nat} {cI cZ : ClassId} {a : Nat} {T T1 : va_W} {x0 : va_E} {i N : Nat} {x : Int32} {f : Nat → Int32} (hx : p.tables.exec = Jvm.exec) (hb : c.code = cc) (hK : va_K D vwCl [(cI, FieldType.int), (cZ, FieldType.boolean)] s) (hT1 : T1 = T ++ [(a, .inl (cI, N, .inl f))]) (B : BD D A s.heap ((h, x0) :: T1) H locs) (hi : i < N) (hN : N < 2147483648) (hdg : decode cc pc = .ok (.iastore, 1))
    (kk : ∀ (T2 : va_W) (H1 : Heap) (locs1 : List Loc), T2 = T ++ [(a, .inl (cI, N, .inl (upd f i x)))] → BD D A s.heap ((h, x0) :: T2) H1 locs1 → W p l e R s m args below meth c H1 locs1 cells slots Q (F0 m (pc + 1) ls rest)) : W p l e R s m args below meth c H locs cells slots Q (F0 m pc ls (.int x :: .int (nI i) :: .ref a :: rest)) := by
  subst hT1
  have ha : ((h, x0) :: T ++ [(a, .inl (cI, N, .inl f))] : va_W)[((h, x0) :: T : va_W).length]? = some (a, .inl (cI, N, .inl f)) := by
    rw [List.getElem?_append_right (Nat.le_refl _), Nat.sub_self]; rfl
  refine va_iast hx hb hK (ws := (h, x0) :: T ++ [(a, .inl (cI, N, .inl f))]) B.1 B.2.1 B.2.2 ((h, x0) :: T : va_W).length 0 ha rfl (vp_in_nI hi hN) hdg (fun H1 locs1 hP hD hS => ?_)
  rw [nI_clamp (by omega), set_last] at hP hD
  exact kk _ H1 locs1 rfl ⟨hP, hD, hS⟩
def tz0 : Nat → Int32 := upd (upd (upd (upd (upd (upd (upd (upd (upd (fun _ => 0) 0 0) 1 1) 2 3) 3 4) 4 8) 5 0) 6 0) 7 0) 8 0
def m0 : Mm := fun k => if k = 10 then fun _ => 5 else if k = 11 then tz0 else fun _ => 0
set_option maxHeartbeats 4000000 in
set_option maxRecDepth 100000 in
theorem c_X7_init (l : Launch) (D : va_G) (cI cZ : ClassId) (h : Nat) : CC l D [(cI, FieldType.int), (cZ, FieldType.boolean)] yX7_init (.code yX7_init cX7_init 1 none :: wsL_law) ({ frames := 1, cells := 20, slots := 9609, locals := 20 } : Room) [.ref h] [(h, .inr (7, (.int 0 :: .null :: .null :: .int 0 :: .int 0 :: .null :: .null :: .null :: .null :: .null :: .int 0 :: .null :: .int 0 :: .null :: .null :: .int 0 :: .null :: .int 0 :: .null :: .null :: .null :: .null :: .int 0 :: .null :: .int 0 :: .null :: .null :: .null :: .int 0 :: .null :: .int 0 :: .int 0 :: .null :: [])))] (fun u => mW cI cZ (pre1 h u) m0) 20 9609 := by
  refine CC.of (by decide +kernel) rfl (Nat.le_of_ble_eq_true rfl) ?_
  intro p e s m below meth c A ls hx hb hr hlk hml hT hown hin hK hA B hl
  have hown : s.vm.findClass RX7 = some m.cls := hown
  have hl : lv_has ls 1 [(0, .ref h)] := hl
  refine lv_aload_n hx hb dX7_init_0 rfl (lv_at hl 0 rfl) ?_
  refine n_obj hx hb hml hl.1 hT hown q764 dX7_init_1 (Nat.le_of_ble_eq_true rfl) (Nat.le_of_ble_eq_true rfl) ?_
  refine lv_aload_n hx hb dX7_init_4 rfl (lv_at hl 0 rfl) ?_
  refine lv_bipush (v := (12 : Int32)) hx hb dX7_init_5 (by decide) ?_
  refine n_arr0 (N := 12) hx hb hT hK hA B (by decide) (by decide) (by omega) (Nat.le_of_ble_eq_true rfl) (Nat.le_of_ble_eq_true rfl) dX7_init_7 (fun ad0 TT1 H eT1 B => ?_)
  refine n_putF0 (T := TX7) (N := 33) (fs1 := (.int 0 :: .ref ad0 :: .null :: .int 0 :: .int 0 :: .null :: .null :: .null :: .null :: .null :: .int 0 :: .null :: .int 0 :: .null :: .null :: .int 0 :: .null :: .int 0 :: .null :: .null :: .null :: .null :: .int 0 :: .null :: .int 0 :: .null :: .null :: .null :: .int 0 :: .null :: .int 0 :: .int 0 :: .null :: [])) 1 hx hb hT hown hK B inlX7 tyX7_ok nmX7 rfl (by decide) q766 rfl rfl hin rfl rfl rfl (Nat.le_of_ble_eq_true rfl) rfl dX7_init_9 (fun H locs B => ?_)
  refine lv_aload_n hx hb dX7_init_12 rfl (lv_at hl 0 rfl) ?_
  refine lv_bipush (v := (12 : Int32)) hx hb dX7_init_13 (by decide) ?_
  refine n_arr0 (N := 12) hx hb hT hK hA B (by decide) (by decide) (by omega) (Nat.le_of_ble_eq_true rfl) (Nat.le_of_ble_eq_true rfl) dX7_init_15 (fun ad1 TT2 H eT2 B => ?_)
  refine n_putF0 (T := TX7) (N := 33) (fs1 := (.int 0 :: .ref ad0 :: .ref ad1 :: .int 0 :: .int 0 :: .null :: .null :: .null :: .null :: .null :: .int 0 :: .null :: .int 0 :: .null :: .null :: .int 0 :: .null :: .int 0 :: .null :: .null :: .null :: .null :: .int 0 :: .null :: .int 0 :: .null :: .null :: .null :: .int 0 :: .null :: .int 0 :: .int 0 :: .null :: [])) 2 hx hb hT hown hK B inlX7 tyX7_ok nmX7 rfl (by decide) q767 rfl rfl hin rfl rfl rfl (Nat.le_of_ble_eq_true rfl) rfl dX7_init_17 (fun H locs B => ?_)
  refine lv_aload_n hx hb dX7_init_20 rfl (lv_at hl 0 rfl) ?_
  refine lv_bipush (v := (20 : Int32)) hx hb dX7_init_21 (by decide) ?_
  refine n_arr0 (N := 20) hx hb hT hK hA B (by decide) (by decide) (by omega) (Nat.le_of_ble_eq_true rfl) (Nat.le_of_ble_eq_true rfl) dX7_init_23 (fun ad2 TT3 H eT3 B => ?_)
  refine n_putF0 (T := TX7) (N := 33) (fs1 := (.int 0 :: .ref ad0 :: .ref ad1 :: .int 0 :: .int 0 :: .ref ad2 :: .null :: .null :: .null :: .null :: .int 0 :: .null :: .int 0 :: .null :: .null :: .int 0 :: .null :: .int 0 :: .null :: .null :: .null :: .null :: .int 0 :: .null :: .int 0 :: .null :: .null :: .null :: .int 0 :: .null :: .int 0 :: .int 0 :: .null :: [])) 5 hx hb hT hown hK B inlX7 tyX7_ok nmX7 rfl (by decide) q770 rfl rfl hin rfl rfl rfl (Nat.le_of_ble_eq_true rfl) rfl dX7_init_25 (fun H locs B => ?_)
  refine lv_aload_n hx hb dX7_init_28 rfl (lv_at hl 0 rfl) ?_
  refine lv_bipush (v := (20 : Int32)) hx hb dX7_init_29 (by decide) ?_
  refine n_arr0 (N := 20) hx hb hT hK hA B (by decide) (by decide) (by omega) (Nat.le_of_ble_eq_true rfl) (Nat.le_of_ble_eq_true rfl) dX7_init_31 (fun ad3 TT4 H eT4 B => ?_)
  refine n_putF0 (T := TX7) (N := 33) (fs1 := (.int 0 :: .ref ad0 :: .ref ad1 :: .int 0 :: .int 0 :: .ref ad2 :: .ref ad3 :: .null :: .null :: .null :: .int 0 :: .null :: .int 0 :: .null :: .null :: .int 0 :: .null :: .int 0 :: .null :: .null :: .null :: .null :: .int 0 :: .null :: .int 0 :: .null :: .null :: .null :: .int 0 :: .null :: .int 0 :: .int 0 :: .null :: [])) 6 hx hb hT hown hK B inlX7 tyX7_ok nmX7 rfl (by decide) q771 rfl rfl hin rfl rfl rfl (Nat.le_of_ble_eq_true rfl) rfl dX7_init_33 (fun H locs B => ?_)
  refine lv_aload_n hx hb dX7_init_36 rfl (lv_at hl 0 rfl) ?_
  refine lv_bipush (v := (120 : Int32)) hx hb dX7_init_37 (by decide) ?_
  refine n_arr0 (N := 120) hx hb hT hK hA B (by decide) (by decide) (by omega) (Nat.le_of_ble_eq_true rfl) (Nat.le_of_ble_eq_true rfl) dX7_init_39 (fun ad4 TT5 H eT5 B => ?_)
  refine n_putF0 (T := TX7) (N := 33) (fs1 := (.int 0 :: .ref ad0 :: .ref ad1 :: .int 0 :: .int 0 :: .ref ad2 :: .ref ad3 :: .ref ad4 :: .null :: .null :: .int 0 :: .null :: .int 0 :: .null :: .null :: .int 0 :: .null :: .int 0 :: .null :: .null :: .null :: .null :: .int 0 :: .null :: .int 0 :: .null :: .null :: .null :: .int 0 :: .null :: .int 0 :: .int 0 :: .null :: [])) 7 hx hb hT hown hK B inlX7 tyX7_ok nmX7 rfl (by decide) q772 rfl rfl hin rfl rfl rfl (Nat.le_of_ble_eq_true rfl) rfl dX7_init_41 (fun H locs B => ?_)
  refine lv_aload_n hx hb dX7_init_44 rfl (lv_at hl 0 rfl) ?_
  refine lv_bipush (v := (120 : Int32)) hx hb dX7_init_45 (by decide) ?_
  refine n_arr0 (N := 120) hx hb hT hK hA B (by decide) (by decide) (by omega) (Nat.le_of_ble_eq_true rfl) (Nat.le_of_ble_eq_true rfl) dX7_init_47 (fun ad5 TT6 H eT6 B => ?_)
  refine n_putF0 (T := TX7) (N := 33) (fs1 := (.int 0 :: .ref ad0 :: .ref ad1 :: .int 0 :: .int 0 :: .ref ad2 :: .ref ad3 :: .ref ad4 :: .ref ad5 :: .null :: .int 0 :: .null :: .int 0 :: .null :: .null :: .int 0 :: .null :: .int 0 :: .null :: .null :: .null :: .null :: .int 0 :: .null :: .int 0 :: .null :: .null :: .null :: .int 0 :: .null :: .int 0 :: .int 0 :: .null :: [])) 8 hx hb hT hown hK B inlX7 tyX7_ok nmX7 rfl (by decide) q773 rfl rfl hin rfl rfl rfl (Nat.le_of_ble_eq_true rfl) rfl dX7_init_49 (fun H locs B => ?_)
  refine lv_aload_n hx hb dX7_init_52 rfl (lv_at hl 0 rfl) ?_
  refine lv_bipush (v := (120 : Int32)) hx hb dX7_init_53 (by decide) ?_
  refine n_arr0 (N := 120) hx hb hT hK hA B (by decide) (by decide) (by omega) (Nat.le_of_ble_eq_true rfl) (Nat.le_of_ble_eq_true rfl) dX7_init_55 (fun ad6 TT7 H eT7 B => ?_)
  refine n_putF0 (T := TX7) (N := 33) (fs1 := (.int 0 :: .ref ad0 :: .ref ad1 :: .int 0 :: .int 0 :: .ref ad2 :: .ref ad3 :: .ref ad4 :: .ref ad5 :: .ref ad6 :: .int 0 :: .null :: .int 0 :: .null :: .null :: .int 0 :: .null :: .int 0 :: .null :: .null :: .null :: .null :: .int 0 :: .null :: .int 0 :: .null :: .null :: .null :: .int 0 :: .null :: .int 0 :: .int 0 :: .null :: [])) 9 hx hb hT hown hK B inlX7 tyX7_ok nmX7 rfl (by decide) q774 rfl rfl hin rfl rfl rfl (Nat.le_of_ble_eq_true rfl) rfl dX7_init_57 (fun H locs B => ?_)
  refine lv_aload_n hx hb dX7_init_60 rfl (lv_at hl 0 rfl) ?_
  refine lv_iconst (v := (5 : Int32)) hx hb dX7_init_61 (by decide) ?_
  refine n_put0 (T := TX7) (N := 33) (fs1 := (.int 0 :: .ref ad0 :: .ref ad1 :: .int 0 :: .int 0 :: .ref ad2 :: .ref ad3 :: .ref ad4 :: .ref ad5 :: .ref ad6 :: .int 5 :: .null :: .int 0 :: .null :: .null :: .int 0 :: .null :: .int 0 :: .null :: .null :: .null :: .null :: .int 0 :: .null :: .int 0 :: .null :: .null :: .null :: .int 0 :: .null :: .int 0 :: .int 0 :: .null :: [])) 10 hx hb hT hown hK B inlX7 tyX7_ok nmX7 rfl (by decide) q775 rfl rfl rfl rfl (Nat.le_of_ble_eq_true rfl) rfl dX7_init_62 (fun H locs B => ?_)
  refine lv_aload_n hx hb dX7_init_65 rfl (lv_at hl 0 rfl) ?_
  refine lv_bipush (v := (9 : Int32)) hx hb dX7_init_66 (by decide) ?_
  refine n_arr0 (N := 9) hx hb hT hK hA B (by decide) (by decide) (by omega) (Nat.le_of_ble_eq_true rfl) (Nat.le_of_ble_eq_true rfl) dX7_init_68 (fun ad7 TT8 H eT8 B => ?_)
  have eT8 := eT8
  refine lv_dup hx hb dX7_init_70 rfl ?_
  refine lv_iconst (v := (0 : Int32)) hx hb dX7_init_71 (by decide) ?_
  refine lv_iconst (v := (0 : Int32)) hx hb dX7_init_72 (by decide) ?_
  refine n_iastL (i := 0) (N := 9) (x := 0) hx hb hK eT8 B (by omega) (by omega) dX7_init_73 (fun TT9 H locs eT9 B => ?_)
  skip
  refine lv_dup hx hb dX7_init_74 rfl ?_
  refine lv_iconst (v := (1 : Int32)) hx hb dX7_init_75 (by decide) ?_
  refine lv_iconst (v := (1 : Int32)) hx hb dX7_init_76 (by decide) ?_
  refine n_iastL (i := 1) (N := 9) (x := 1) hx hb hK eT9 B (by omega) (by omega) dX7_init_77 (fun TT10 H locs eT10 B => ?_)
  skip
  refine lv_dup hx hb dX7_init_78 rfl ?_
  refine lv_iconst (v := (2 : Int32)) hx hb dX7_init_79 (by decide) ?_
  refine lv_iconst (v := (3 : Int32)) hx hb dX7_init_80 (by decide) ?_
  refine n_iastL (i := 2) (N := 9) (x := 3) hx hb hK eT10 B (by omega) (by omega) dX7_init_81 (fun TT11 H locs eT11 B => ?_)
  skip
  refine lv_dup hx hb dX7_init_82 rfl ?_
  refine lv_iconst (v := (3 : Int32)) hx hb dX7_init_83 (by decide) ?_
  refine lv_iconst (v := (4 : Int32)) hx hb dX7_init_84 (by decide) ?_
  refine n_iastL (i := 3) (N := 9) (x := 4) hx hb hK eT11 B (by omega) (by omega) dX7_init_85 (fun TT12 H locs eT12 B => ?_)
  skip
  refine lv_dup hx hb dX7_init_86 rfl ?_
  refine lv_iconst (v := (4 : Int32)) hx hb dX7_init_87 (by decide) ?_
  refine lv_bipush (v := (8 : Int32)) hx hb dX7_init_88 (by decide) ?_
  refine n_iastL (i := 4) (N := 9) (x := 8) hx hb hK eT12 B (by omega) (by omega) dX7_init_90 (fun TT13 H locs eT13 B => ?_)
  skip
  refine lv_dup hx hb dX7_init_91 rfl ?_
  refine lv_iconst (v := (5 : Int32)) hx hb dX7_init_92 (by decide) ?_
  refine lv_iconst (v := (0 : Int32)) hx hb dX7_init_93 (by decide) ?_
  refine n_iastL (i := 5) (N := 9) (x := 0) hx hb hK eT13 B (by omega) (by omega) dX7_init_94 (fun TT14 H locs eT14 B => ?_)
  skip
  refine lv_dup hx hb dX7_init_95 rfl ?_
  refine lv_bipush (v := (6 : Int32)) hx hb dX7_init_96 (by decide) ?_
  refine lv_iconst (v := (0 : Int32)) hx hb dX7_init_98 (by decide) ?_
  refine n_iastL (i := 6) (N := 9) (x := 0) hx hb hK eT14 B (by omega) (by omega) dX7_init_99 (fun TT15 H locs eT15 B => ?_)
  skip
  refine lv_dup hx hb dX7_init_100 rfl ?_
  refine lv_bipush (v := (7 : Int32)) hx hb dX7_init_101 (by decide) ?_
  refine lv_iconst (v := (0 : Int32)) hx hb dX7_init_103 (by decide) ?_
  refine n_iastL (i := 7) (N := 9) (x := 0) hx hb hK eT15 B (by omega) (by omega) dX7_init_104 (fun TT16 H locs eT16 B => ?_)
  skip
  refine lv_dup hx hb dX7_init_105 rfl ?_
  refine lv_bipush (v := (8 : Int32)) hx hb dX7_init_106 (by decide) ?_
  refine lv_iconst (v := (0 : Int32)) hx hb dX7_init_108 (by decide) ?_
  refine n_iastL (i := 8) (N := 9) (x := 0) hx hb hK eT16 B (by omega) (by omega) dX7_init_109 (fun TT17 H locs eT17 B => ?_)
  skip
  refine n_putF0 (T := TX7) (N := 33) (fs1 := (.int 0 :: .ref ad0 :: .ref ad1 :: .int 0 :: .int 0 :: .ref ad2 :: .ref ad3 :: .ref ad4 :: .ref ad5 :: .ref ad6 :: .int 5 :: .ref ad7 :: .int 0 :: .null :: .null :: .int 0 :: .null :: .int 0 :: .null :: .null :: .null :: .null :: .int 0 :: .null :: .int 0 :: .null :: .null :: .null :: .int 0 :: .null :: .int 0 :: .int 0 :: .null :: [])) 11 hx hb hT hown hK B inlX7 tyX7_ok nmX7 rfl (by decide) q776 rfl rfl hin rfl rfl rfl (Nat.le_of_ble_eq_true rfl) rfl dX7_init_110 (fun H locs B => ?_)
  refine lv_aload_n hx hb dX7_init_113 rfl (lv_at hl 0 rfl) ?_
  refine lv_bipush (v := (108 : Int32)) hx hb dX7_init_114 (by decide) ?_
  refine n_arr0 (N := 108) hx hb hT hK hA B (by decide) (by decide) (by omega) (Nat.le_of_ble_eq_true rfl) (Nat.le_of_ble_eq_true rfl) dX7_init_116 (fun ad8 TT18 H eT18 B => ?_)
  refine n_putF0 (T := TX7) (N := 33) (fs1 := (.int 0 :: .ref ad0 :: .ref ad1 :: .int 0 :: .int 0 :: .ref ad2 :: .ref ad3 :: .ref ad4 :: .ref ad5 :: .ref ad6 :: .int 5 :: .ref ad7 :: .int 0 :: .ref ad8 :: .null :: .int 0 :: .null :: .int 0 :: .null :: .null :: .null :: .null :: .int 0 :: .null :: .int 0 :: .null :: .null :: .null :: .int 0 :: .null :: .int 0 :: .int 0 :: .null :: [])) 13 hx hb hT hown hK B inlX7 tyX7_ok nmX7 rfl (by decide) q778 rfl rfl hin rfl rfl rfl (Nat.le_of_ble_eq_true rfl) rfl dX7_init_118 (fun H locs B => ?_)
  refine lv_aload_n hx hb dX7_init_121 rfl (lv_at hl 0 rfl) ?_
  refine lv_bipush (v := (12 : Int32)) hx hb dX7_init_122 (by decide) ?_
  refine n_arr0 (N := 12) hx hb hT hK hA B (by decide) (by decide) (by omega) (Nat.le_of_ble_eq_true rfl) (Nat.le_of_ble_eq_true rfl) dX7_init_124 (fun ad9 TT19 H eT19 B => ?_)
  refine n_putF0 (T := TX7) (N := 33) (fs1 := (.int 0 :: .ref ad0 :: .ref ad1 :: .int 0 :: .int 0 :: .ref ad2 :: .ref ad3 :: .ref ad4 :: .ref ad5 :: .ref ad6 :: .int 5 :: .ref ad7 :: .int 0 :: .ref ad8 :: .ref ad9 :: .int 0 :: .null :: .int 0 :: .null :: .null :: .null :: .null :: .int 0 :: .null :: .int 0 :: .null :: .null :: .null :: .int 0 :: .null :: .int 0 :: .int 0 :: .null :: [])) 14 hx hb hT hown hK B inlX7 tyX7_ok nmX7 rfl (by decide) q779 rfl rfl hin rfl rfl rfl (Nat.le_of_ble_eq_true rfl) rfl dX7_init_126 (fun H locs B => ?_)
  refine lv_aload_n hx hb dX7_init_129 rfl (lv_at hl 0 rfl) ?_
  refine lv_bipush (v := (12 : Int32)) hx hb dX7_init_130 (by decide) ?_
  refine n_arr0 (N := 12) hx hb hT hK hA B (by decide) (by decide) (by omega) (Nat.le_of_ble_eq_true rfl) (Nat.le_of_ble_eq_true rfl) dX7_init_132 (fun ad10 TT20 H eT20 B => ?_)
  refine n_putF0 (T := TX7) (N := 33) (fs1 := (.int 0 :: .ref ad0 :: .ref ad1 :: .int 0 :: .int 0 :: .ref ad2 :: .ref ad3 :: .ref ad4 :: .ref ad5 :: .ref ad6 :: .int 5 :: .ref ad7 :: .int 0 :: .ref ad8 :: .ref ad9 :: .int 0 :: .ref ad10 :: .int 0 :: .null :: .null :: .null :: .null :: .int 0 :: .null :: .int 0 :: .null :: .null :: .null :: .int 0 :: .null :: .int 0 :: .int 0 :: .null :: [])) 16 hx hb hT hown hK B inlX7 tyX7_ok nmX7 rfl (by decide) q781 rfl rfl hin rfl rfl rfl (Nat.le_of_ble_eq_true rfl) rfl dX7_init_134 (fun H locs B => ?_)
  refine lv_aload_n hx hb dX7_init_137 rfl (lv_at hl 0 rfl) ?_
  refine lv_sipush (v := (144 : Int32)) hx hb dX7_init_138 (by decide) ?_
  refine n_arr0 (N := 144) hx hb hT hK hA B (by decide) (by decide) (by omega) (Nat.le_of_ble_eq_true rfl) (Nat.le_of_ble_eq_true rfl) dX7_init_141 (fun ad11 TT21 H eT21 B => ?_)
  refine n_putF0 (T := TX7) (N := 33) (fs1 := (.int 0 :: .ref ad0 :: .ref ad1 :: .int 0 :: .int 0 :: .ref ad2 :: .ref ad3 :: .ref ad4 :: .ref ad5 :: .ref ad6 :: .int 5 :: .ref ad7 :: .int 0 :: .ref ad8 :: .ref ad9 :: .int 0 :: .ref ad10 :: .int 0 :: .ref ad11 :: .null :: .null :: .null :: .int 0 :: .null :: .int 0 :: .null :: .null :: .null :: .int 0 :: .null :: .int 0 :: .int 0 :: .null :: [])) 18 hx hb hT hown hK B inlX7 tyX7_ok nmX7 rfl (by decide) q783 rfl rfl hin rfl rfl rfl (Nat.le_of_ble_eq_true rfl) rfl dX7_init_143 (fun H locs B => ?_)
  refine lv_aload_n hx hb dX7_init_146 rfl (lv_at hl 0 rfl) ?_
  refine lv_sipush (v := (4096 : Int32)) hx hb dX7_init_147 (by decide) ?_
  refine n_arr0 (N := 4096) hx hb hT hK hA B (by decide) (by decide) (by omega) (Nat.le_of_ble_eq_true rfl) (Nat.le_of_ble_eq_true rfl) dX7_init_150 (fun ad12 TT22 H eT22 B => ?_)
  refine n_putF0 (T := TX7) (N := 33) (fs1 := (.int 0 :: .ref ad0 :: .ref ad1 :: .int 0 :: .int 0 :: .ref ad2 :: .ref ad3 :: .ref ad4 :: .ref ad5 :: .ref ad6 :: .int 5 :: .ref ad7 :: .int 0 :: .ref ad8 :: .ref ad9 :: .int 0 :: .ref ad10 :: .int 0 :: .ref ad11 :: .ref ad12 :: .null :: .null :: .int 0 :: .null :: .int 0 :: .null :: .null :: .null :: .int 0 :: .null :: .int 0 :: .int 0 :: .null :: [])) 19 hx hb hT hown hK B inlX7 tyX7_ok nmX7 rfl (by decide) q784 rfl rfl hin rfl rfl rfl (Nat.le_of_ble_eq_true rfl) rfl dX7_init_152 (fun H locs B => ?_)
  refine lv_aload_n hx hb dX7_init_155 rfl (lv_at hl 0 rfl) ?_
  refine lv_sipush (v := (4096 : Int32)) hx hb dX7_init_156 (by decide) ?_
  refine n_arr0 (N := 4096) hx hb hT hK hA B (by decide) (by decide) (by omega) (Nat.le_of_ble_eq_true rfl) (Nat.le_of_ble_eq_true rfl) dX7_init_159 (fun ad13 TT23 H eT23 B => ?_)
  refine n_putF0 (T := TX7) (N := 33) (fs1 := (.int 0 :: .ref ad0 :: .ref ad1 :: .int 0 :: .int 0 :: .ref ad2 :: .ref ad3 :: .ref ad4 :: .ref ad5 :: .ref ad6 :: .int 5 :: .ref ad7 :: .int 0 :: .ref ad8 :: .ref ad9 :: .int 0 :: .ref ad10 :: .int 0 :: .ref ad11 :: .ref ad12 :: .ref ad13 :: .null :: .int 0 :: .null :: .int 0 :: .null :: .null :: .null :: .int 0 :: .null :: .int 0 :: .int 0 :: .null :: [])) 20 hx hb hT hown hK B inlX7 tyX7_ok nmX7 rfl (by decide) q785 rfl rfl hin rfl rfl rfl (Nat.le_of_ble_eq_true rfl) rfl dX7_init_161 (fun H locs B => ?_)
  refine lv_aload_n hx hb dX7_init_164 rfl (lv_at hl 0 rfl) ?_
  refine lv_bipush (v := (40 : Int32)) hx hb dX7_init_165 (by decide) ?_
  refine n_arr0 (N := 40) hx hb hT hK hA B (by decide) (by decide) (by omega) (Nat.le_of_ble_eq_true rfl) (Nat.le_of_ble_eq_true rfl) dX7_init_167 (fun ad14 TT24 H eT24 B => ?_)
  refine n_putF0 (T := TX7) (N := 33) (fs1 := (.int 0 :: .ref ad0 :: .ref ad1 :: .int 0 :: .int 0 :: .ref ad2 :: .ref ad3 :: .ref ad4 :: .ref ad5 :: .ref ad6 :: .int 5 :: .ref ad7 :: .int 0 :: .ref ad8 :: .ref ad9 :: .int 0 :: .ref ad10 :: .int 0 :: .ref ad11 :: .ref ad12 :: .ref ad13 :: .ref ad14 :: .int 0 :: .null :: .int 0 :: .null :: .null :: .null :: .int 0 :: .null :: .int 0 :: .int 0 :: .null :: [])) 21 hx hb hT hown hK B inlX7 tyX7_ok nmX7 rfl (by decide) q786 rfl rfl hin rfl rfl rfl (Nat.le_of_ble_eq_true rfl) rfl dX7_init_169 (fun H locs B => ?_)
  refine lv_aload_n hx hb dX7_init_172 rfl (lv_at hl 0 rfl) ?_
  refine lv_bipush (v := (120 : Int32)) hx hb dX7_init_173 (by decide) ?_
  refine n_arr0 (N := 120) hx hb hT hK hA B (by decide) (by decide) (by omega) (Nat.le_of_ble_eq_true rfl) (Nat.le_of_ble_eq_true rfl) dX7_init_175 (fun ad15 TT25 H eT25 B => ?_)
  refine n_putF0 (T := TX7) (N := 33) (fs1 := (.int 0 :: .ref ad0 :: .ref ad1 :: .int 0 :: .int 0 :: .ref ad2 :: .ref ad3 :: .ref ad4 :: .ref ad5 :: .ref ad6 :: .int 5 :: .ref ad7 :: .int 0 :: .ref ad8 :: .ref ad9 :: .int 0 :: .ref ad10 :: .int 0 :: .ref ad11 :: .ref ad12 :: .ref ad13 :: .ref ad14 :: .int 0 :: .ref ad15 :: .int 0 :: .null :: .null :: .null :: .int 0 :: .null :: .int 0 :: .int 0 :: .null :: [])) 23 hx hb hT hown hK B inlX7 tyX7_ok nmX7 rfl (by decide) q788 rfl rfl hin rfl rfl rfl (Nat.le_of_ble_eq_true rfl) rfl dX7_init_177 (fun H locs B => ?_)
  refine lv_aload_n hx hb dX7_init_180 rfl (lv_at hl 0 rfl) ?_
  refine lv_iconst (v := (4 : Int32)) hx hb dX7_init_181 (by decide) ?_
  refine n_arrz0 (N := 4) hx hb hT hK hA B (by decide) (by decide) (by omega) (Nat.le_of_ble_eq_true rfl) (Nat.le_of_ble_eq_true rfl) dX7_init_182 (fun ad16 TT26 H eT26 B => ?_)
  refine n_putF0 (T := TX7) (N := 33) (fs1 := (.int 0 :: .ref ad0 :: .ref ad1 :: .int 0 :: .int 0 :: .ref ad2 :: .ref ad3 :: .ref ad4 :: .ref ad5 :: .ref ad6 :: .int 5 :: .ref ad7 :: .int 0 :: .ref ad8 :: .ref ad9 :: .int 0 :: .ref ad10 :: .int 0 :: .ref ad11 :: .ref ad12 :: .ref ad13 :: .ref ad14 :: .int 0 :: .ref ad15 :: .int 0 :: .ref ad16 :: .null :: .null :: .int 0 :: .null :: .int 0 :: .int 0 :: .null :: [])) 25 hx hb hT hown hK B inlX7 tyX7_ok nmX7 rfl (by decide) q790 rfl rfl hin rfl rfl rfl (Nat.le_of_ble_eq_true rfl) rfl dX7_init_184 (fun H locs B => ?_)
  refine lv_aload_n hx hb dX7_init_187 rfl (lv_at hl 0 rfl) ?_
  refine lv_iconst (v := (4 : Int32)) hx hb dX7_init_188 (by decide) ?_
  refine n_arr0 (N := 4) hx hb hT hK hA B (by decide) (by decide) (by omega) (Nat.le_of_ble_eq_true rfl) (Nat.le_of_ble_eq_true rfl) dX7_init_189 (fun ad17 TT27 H eT27 B => ?_)
  refine n_putF0 (T := TX7) (N := 33) (fs1 := (.int 0 :: .ref ad0 :: .ref ad1 :: .int 0 :: .int 0 :: .ref ad2 :: .ref ad3 :: .ref ad4 :: .ref ad5 :: .ref ad6 :: .int 5 :: .ref ad7 :: .int 0 :: .ref ad8 :: .ref ad9 :: .int 0 :: .ref ad10 :: .int 0 :: .ref ad11 :: .ref ad12 :: .ref ad13 :: .ref ad14 :: .int 0 :: .ref ad15 :: .int 0 :: .ref ad16 :: .ref ad17 :: .null :: .int 0 :: .null :: .int 0 :: .int 0 :: .null :: [])) 26 hx hb hT hown hK B inlX7 tyX7_ok nmX7 rfl (by decide) q791 rfl rfl hin rfl rfl rfl (Nat.le_of_ble_eq_true rfl) rfl dX7_init_191 (fun H locs B => ?_)
  refine lv_aload_n hx hb dX7_init_194 rfl (lv_at hl 0 rfl) ?_
  refine lv_bipush (v := (80 : Int32)) hx hb dX7_init_195 (by decide) ?_
  refine n_arr0 (N := 80) hx hb hT hK hA B (by decide) (by decide) (by omega) (Nat.le_of_ble_eq_true rfl) (Nat.le_of_ble_eq_true rfl) dX7_init_197 (fun ad18 TT28 H eT28 B => ?_)
  refine n_putF0 (T := TX7) (N := 33) (fs1 := (.int 0 :: .ref ad0 :: .ref ad1 :: .int 0 :: .int 0 :: .ref ad2 :: .ref ad3 :: .ref ad4 :: .ref ad5 :: .ref ad6 :: .int 5 :: .ref ad7 :: .int 0 :: .ref ad8 :: .ref ad9 :: .int 0 :: .ref ad10 :: .int 0 :: .ref ad11 :: .ref ad12 :: .ref ad13 :: .ref ad14 :: .int 0 :: .ref ad15 :: .int 0 :: .ref ad16 :: .ref ad17 :: .ref ad18 :: .int 0 :: .null :: .int 0 :: .int 0 :: .null :: [])) 27 hx hb hT hown hK B inlX7 tyX7_ok nmX7 rfl (by decide) q792 rfl rfl hin rfl rfl rfl (Nat.le_of_ble_eq_true rfl) rfl dX7_init_199 (fun H locs B => ?_)
  refine lv_aload_n hx hb dX7_init_202 rfl (lv_at hl 0 rfl) ?_
  refine lv_sipush (v := (460 : Int32)) hx hb dX7_init_203 (by decide) ?_
  refine n_arr0 (N := 460) hx hb hT hK hA B (by decide) (by decide) (by omega) (Nat.le_of_ble_eq_true rfl) (Nat.le_of_ble_eq_true rfl) dX7_init_206 (fun ad19 TT29 H eT29 B => ?_)
  refine n_putF0 (T := TX7) (N := 33) (fs1 := (.int 0 :: .ref ad0 :: .ref ad1 :: .int 0 :: .int 0 :: .ref ad2 :: .ref ad3 :: .ref ad4 :: .ref ad5 :: .ref ad6 :: .int 5 :: .ref ad7 :: .int 0 :: .ref ad8 :: .ref ad9 :: .int 0 :: .ref ad10 :: .int 0 :: .ref ad11 :: .ref ad12 :: .ref ad13 :: .ref ad14 :: .int 0 :: .ref ad15 :: .int 0 :: .ref ad16 :: .ref ad17 :: .ref ad18 :: .int 0 :: .ref ad19 :: .int 0 :: .int 0 :: .null :: [])) 29 hx hb hT hown hK B inlX7 tyX7_ok nmX7 rfl (by decide) q794 rfl rfl hin rfl rfl rfl (Nat.le_of_ble_eq_true rfl) rfl dX7_init_208 (fun H locs B => ?_)
  refine lv_aload_n hx hb dX7_init_211 rfl (lv_at hl 0 rfl) ?_
  refine lv_iconst (v := (0 : Int32)) hx hb dX7_init_212 (by decide) ?_
  refine n_put0 (T := TX7) (N := 33) (fs1 := (.int 0 :: .ref ad0 :: .ref ad1 :: .int 0 :: .int 0 :: .ref ad2 :: .ref ad3 :: .ref ad4 :: .ref ad5 :: .ref ad6 :: .int 5 :: .ref ad7 :: .int 0 :: .ref ad8 :: .ref ad9 :: .int 0 :: .ref ad10 :: .int 0 :: .ref ad11 :: .ref ad12 :: .ref ad13 :: .ref ad14 :: .int 0 :: .ref ad15 :: .int 0 :: .ref ad16 :: .ref ad17 :: .ref ad18 :: .int 0 :: .ref ad19 :: .int 0 :: .int 0 :: .null :: [])) 12 hx hb hT hown hK B inlX7 tyX7_ok nmX7 rfl (by decide) q777 rfl rfl rfl rfl (Nat.le_of_ble_eq_true rfl) rfl dX7_init_213 (fun H locs B => ?_)
  refine W.widen (k := 20) (n := 9609) (Nat.le_of_ble_eq_true rfl) (Nat.le_of_ble_eq_true rfl) ?_
  have BF := B
  subst eT29
  subst eT28
  subst eT27
  subst eT26
  subst eT25
  subst eT24
  subst eT23
  subst eT22
  subst eT21
  subst eT20
  subst eT19
  subst eT18
  subst eT17
  subst eT16
  subst eT15
  subst eT14
  subst eT13
  subst eT12
  subst eT11
  subst eT10
  subst eT9
  subst eT8
  subst eT7
  subst eT6
  subst eT5
  subst eT4
  subst eT3
  subst eT2
  subst eT1
  exact n_ret (fun i => ([ad0, ad1, ad2, ad3, ad4, ad5, ad6, ad7, ad8, ad9, ad10, ad11, ad12, ad13, ad14, ad15, ad16, ad17, ad18, ad19] : List Nat).getD i 0) hx hb hr hlk hK BF dX7_init_216
