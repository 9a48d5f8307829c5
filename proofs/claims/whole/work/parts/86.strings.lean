/-! ===== String constants: what is said of them, contracts that ask it, calls ===== -/
def kLen : List Nat := [7, 8]
def kByt : List (List Int32) := [[46, 49, 61, 48, 43, 45, 120], [111, 99, 98, 119, 107, 103, 100, 114]]
def kL (i : Nat) : Nat := kLen.getD i 0
def kB (i : Nat) (j : Nat) : Int32 := (kByt.getD i []).getD j 0
def SFx (adK adV : Nat → Nat) (A : Nat → Prop) (U : State) (H : Heap) : Prop := vk_S 2 kLen kByt adK adV A U H ∧ (vk_R RX6 225 ".1=0+-x" (adK 0) U ∧ vk_R RX6 244 "ocbwkgdr" (adK 1) U) ∧ va_Z RJ0 "COMPACT_STRINGS" "Z" (.int 1) A U H
theorem SFx.go {adK adV : Nat → Nat} {A : Nat → Prop} {s U : State} {H : Heap} {locs : List Loc} {ws : va_W} (hE : SFx adK adV A s s.heap) (hS : va_S A s.heap H locs) (hAB : ∀ q, va_A ws H.size q → A q) (hU : U.heap = H) (hW : s.WarmedH U.vm) : SFx adK adV (va_A ws H.size) U U.heap := by
  rw [hU]
  exact ⟨((hE.1.kept hS.2.1).moved hW.alike).narrow hAB, ⟨vk_R.warm hW hE.2.1.1, vk_R.warm hW hE.2.1.2⟩, ((hE.2.2.kept hS.2.1).moved hW.alike).narrow hAB⟩
def PCS (D : va_G) (tys : List (ClassId × FieldType)) (adK adV : Nat → Nat) (ws : va_W) (as : List Value) (sz : Nat) : Array Value → State → Prop :=
  va_Pc as (fun U => U.heap.size = sz ∧ va_P D vwCl ws U.heap ∧ va_K D vwCl tys U ∧ va_D (fun _ => True) ws ∧ SFx adK adV (va_A ws sz) U U.heap)
def CTiS (l : Launch) (D : va_G) (tys : List (ClassId × FieldType)) (adK adV : Nat → Nat) (ww : Mm → va_W) (y : MethodName) (wds : List Cond) (rm : Room) (as : List Value) (f : Mm → Option (Int32 × Mm)) : Prop :=
  ∀ (sz : Nat) (σ : Mm) (out : Int32 × Mm), f σ = some out → Met l y wds rm (PCS D tys adK adV (ww σ) as sz) (QI D tys ww (va_A (ww σ) sz) out) 0 0 (va_A (ww σ) sz)
def CTvS (l : Launch) (D : va_G) (tys : List (ClassId × FieldType)) (adK adV : Nat → Nat) (ww : Mm → va_W) (y : MethodName) (wds : List Cond) (rm : Room) (as : List Value) (f : Mm → Option Mm) : Prop :=
  ∀ (sz : Nat) (σ : Mm) (out : Mm), f σ = some out → Met l y wds rm (PCS D tys adK adV (ww σ) as sz) (QV D tys ww (va_A (ww σ) sz) out) 0 0 (va_A (ww σ) sz)
def CTrS (l : Launch) (D : va_G) (tys : List (ClassId × FieldType)) (adK adV : Nat → Nat) (ww : Mm → va_W) (y : MethodName) (wds : List Cond) (rm : Room) (as : List Value) (f : Mm → Option Int32) : Prop :=
  ∀ (sz : Nat) (σ : Mm) (r : Int32), f σ = some r → Met l y wds rm (PCS D tys adK adV (ww σ) as sz) (QI D tys ww (va_A (ww σ) sz) (r, σ)) 0 0 (va_A (ww σ) sz)
theorem pcs_blind {D : va_G} {tys : List (ClassId × FieldType)} {adK adV : Nat → Nat} {ws : va_W} {as : List Value} {sz : Nat} : FrameBlind (PCS D tys adK adV ws as sz) := by
  intro a U g mk q
  obtain ⟨q0, q1, qP, qK, qD, qS⟩ := q
  exact ⟨q0, q1, qP, va_K.moved (u := U) (U := U.calling g mk a) (Vm.Alike.refl U.vm) qK, qD, vk_S.moved (u := U) (U := U.calling g mk a) (Vm.Alike.refl U.vm) qS.1, ⟨vk_R.same (u := U) (U := U.calling g mk a) rfl qS.2.1.1, vk_R.same (u := U) (U := U.calling g mk a) rfl qS.2.1.2⟩, va_Z.moved (u := U) (U := U.calling g mk a) (Vm.Alike.refl U.vm) qS.2.2⟩
section XSS
variable {p : Program} {l : Launch} {e : Env} {R : Room} {s : State} {m : MethodId} {args : Array Value} {below : List Frame} {meth : Method} {c : Code} {H : Heap} {locs : List Loc} {Q : State → Prop}
variable {cc : ByteArray} {pc nL : Nat} {ls : Array Slot} {rest : List Value} {D : va_G} {A : Nat → Prop} {a : Nat} {tys : List (ClassId × FieldType)} {ww : Mm → va_W} {σ : Mm} {α : Type} {out : α} {adK adV : Nat → Nat}
theorem x_callViS {own : String} {index maxL n ci q : Nat} {y : MethodName} {bytes : ByteArray} {ret : Option FieldType} {rm : Room} {As : List Value} {f : Mm → Option (Int32 × Mm)} {body : Int32 × Mm → Option α}
    (hE : SFx adK adV A s s.heap) (hx : p.tables.exec = Jvm.exec) (hb : c.code = cc) (hml : c.maxLocals = nL) (hT : ∀ w ∈ wsL_law, w.before args s = true) (hown : s.vm.findClass own = some m.cls) (hK : va_K D vwCl tys s) (hA : ∀ q, s.heap.size ≤ q → A q) (B : BD D A s.heap (ww σ) H locs) (hl : ls.size = nL)
    (hM : CTiS l D tys adK adV ww y (.code y bytes maxL ret :: wsL_law) rm (.ref a :: As) f) (hy : MI y bytes maxL ret n) (hv : MV y) (hO : IsO ww ci q a) (hc : (vwCl[ci]?).map (fun r => r.1) = some y.cls) (hlk : Cond.methodLink own index y ∈ wsL_law)
    (hrc : rm.cells = 0 ∧ rm.slots = 0) (hR : rm.frames + 1 ≤ R.frames ∧ 8 + (maxL + 11) + rm.locals ≤ R.locals) (hn : As.length = n) {st0 : List Value} (hst : st0 = As.reverse ++ .ref a :: rest) (hW : (rest.map fun v => v.category).sum ≤ 8) (hdg : decode cc pc = .ok (.invokevirtual index, 3))
    (hm : (f σ).bind body = some out) (kk : ∀ (r : Int32) (σ1 : Mm) (H1 : Heap) (locs1 : List Loc), BD D A s.heap (ww σ1) H1 locs1 → body (r, σ1) = some out → W p l e R s m args below meth c H1 locs1 0 0 Q (F0 m (pc + 3) ls (.int r :: rest))) : W p l e R s m args below meth c H locs 0 0 Q (F0 m pc ls st0) := by
  obtain ⟨⟨r0, σ1⟩, hf, hm2⟩ := Option.bind_eq_some_iff.mp hm
  obtain ⟨fs, hO⟩ := hO σ
  obtain ⟨rc, hc1, hc2⟩ := Option.map_eq_some_iff.mp hc
  subst hst
  refine va_calli (va_runV (As := As) (rest := rest) (C := y.cls) (n := n) ⟨hx, hb, hml, hown, hT⟩ (hM H.size σ _ hf) ⟨cb_of hT hy hlk hrc hR, hT _ hv.1, hT _ hv.2⟩ ⟨pcs_blind, by rw [← hc2]; exact va_recv hK B.1 hc1 hO, fun U hU hW => ⟨rfl, by rw [hU], by rw [hU]; exact B.1, va_K.moved hW.alike hK, B.2.1.weaken (fun _ _ _ _ => trivial), hE.go B.2.2 (fr_all B.2.1 B.2.2 hA) hU hW⟩⟩ rfl hn hl rfl (lv_room hW) hdg ⟨Nat.zero_le _, Nat.zero_le _⟩) B.2.2 (fun q _ h => fr_all B.2.1 B.2.2 hA q h) (fr_all B.2.1 B.2.2 hA) (fun r u t H1 locs1 ht hvm hw hB hz1 hk1 hS => ?_)
  obtain ⟨e1, e2⟩ := hw
  obtain ⟨hP1, hK1, hD1⟩ := hB
  rw [ht] at hP1
  dsimp only at e1 e2
  subst e1; subst e2
  exact kk _ _ H1 locs1 (bd_back hA B hP1 hD1 hS) hm2
theorem x_callVvS {own : String} {index maxL n ci q : Nat} {y : MethodName} {bytes : ByteArray} {ret : Option FieldType} {rm : Room} {As : List Value} {f : Mm → Option Mm} {body : Mm → Option α}
    (hE : SFx adK adV A s s.heap) (hx : p.tables.exec = Jvm.exec) (hb : c.code = cc) (hml : c.maxLocals = nL) (hT : ∀ w ∈ wsL_law, w.before args s = true) (hown : s.vm.findClass own = some m.cls) (hK : va_K D vwCl tys s) (hA : ∀ q, s.heap.size ≤ q → A q) (B : BD D A s.heap (ww σ) H locs) (hl : ls.size = nL)
    (hM : CTvS l D tys adK adV ww y (.code y bytes maxL ret :: wsL_law) rm (.ref a :: As) f) (hy : MI y bytes maxL ret n) (hv : MV y) (hO : IsO ww ci q a) (hc : (vwCl[ci]?).map (fun r => r.1) = some y.cls) (hlk : Cond.methodLink own index y ∈ wsL_law)
    (hrc : rm.cells = 0 ∧ rm.slots = 0) (hR : rm.frames + 1 ≤ R.frames ∧ 8 + (maxL + 11) + rm.locals ≤ R.locals) (hn : As.length = n) {st0 : List Value} (hst : st0 = As.reverse ++ .ref a :: rest) (hW : (rest.map fun v => v.category).sum ≤ 8) (hdg : decode cc pc = .ok (.invokevirtual index, 3))
    (hm : (f σ).bind body = some out) (kk : ∀ (σ1 : Mm) (H1 : Heap) (locs1 : List Loc), BD D A s.heap (ww σ1) H1 locs1 → body σ1 = some out → W p l e R s m args below meth c H1 locs1 0 0 Q (F0 m (pc + 3) ls rest)) : W p l e R s m args below meth c H locs 0 0 Q (F0 m pc ls st0) := by
  obtain ⟨σ1, hf, hm2⟩ := Option.bind_eq_some_iff.mp hm
  obtain ⟨fs, hO⟩ := hO σ
  obtain ⟨rc, hc1, hc2⟩ := Option.map_eq_some_iff.mp hc
  subst hst
  refine va_callv (va_runV (As := As) (rest := rest) (C := y.cls) (n := n) ⟨hx, hb, hml, hown, hT⟩ (hM H.size σ _ hf) ⟨cb_of hT hy hlk hrc hR, hT _ hv.1, hT _ hv.2⟩ ⟨pcs_blind, by rw [← hc2]; exact va_recv hK B.1 hc1 hO, fun U hU hW => ⟨rfl, by rw [hU], by rw [hU]; exact B.1, va_K.moved hW.alike hK, B.2.1.weaken (fun _ _ _ _ => trivial), hE.go B.2.2 (fr_all B.2.1 B.2.2 hA) hU hW⟩⟩ rfl hn hl rfl (lv_room hW) hdg ⟨Nat.zero_le _, Nat.zero_le _⟩) B.2.2 (fun q _ h => fr_all B.2.1 B.2.2 hA q h) (fr_all B.2.1 B.2.2 hA) (fun u t H1 locs1 ht hvm hw hB hz1 hk1 hS => ?_)
  obtain ⟨hP1, hK1, hD1⟩ := hB
  rw [ht] at hP1
  subst hw
  exact kk _ H1 locs1 (bd_back hA B hP1 hD1 hS) hm2
theorem x_callVrS {own : String} {index maxL n ci q : Nat} {y : MethodName} {bytes : ByteArray} {ret : Option FieldType} {rm : Room} {As : List Value} {f : Mm → Option Int32} {body : Int32 → Option α}
    (hE : SFx adK adV A s s.heap) (hx : p.tables.exec = Jvm.exec) (hb : c.code = cc) (hml : c.maxLocals = nL) (hT : ∀ w ∈ wsL_law, w.before args s = true) (hown : s.vm.findClass own = some m.cls) (hK : va_K D vwCl tys s) (hA : ∀ q, s.heap.size ≤ q → A q) (B : BD D A s.heap (ww σ) H locs) (hl : ls.size = nL)
    (hM : CTrS l D tys adK adV ww y (.code y bytes maxL ret :: wsL_law) rm (.ref a :: As) f) (hy : MI y bytes maxL ret n) (hv : MV y) (hO : IsO ww ci q a) (hc : (vwCl[ci]?).map (fun r => r.1) = some y.cls) (hlk : Cond.methodLink own index y ∈ wsL_law)
    (hrc : rm.cells = 0 ∧ rm.slots = 0) (hR : rm.frames + 1 ≤ R.frames ∧ 8 + (maxL + 11) + rm.locals ≤ R.locals) (hn : As.length = n) {st0 : List Value} (hst : st0 = As.reverse ++ .ref a :: rest) (hW : (rest.map fun v => v.category).sum ≤ 8) (hdg : decode cc pc = .ok (.invokevirtual index, 3))
    (hm : (f σ).bind body = some out) (kk : ∀ (r : Int32) (H1 : Heap) (locs1 : List Loc), BD D A s.heap (ww σ) H1 locs1 → body r = some out → W p l e R s m args below meth c H1 locs1 0 0 Q (F0 m (pc + 3) ls (.int r :: rest))) : W p l e R s m args below meth c H locs 0 0 Q (F0 m pc ls st0) := by
  obtain ⟨r0, hf, hm2⟩ := Option.bind_eq_some_iff.mp hm
  obtain ⟨fs, hO⟩ := hO σ
  obtain ⟨rc, hc1, hc2⟩ := Option.map_eq_some_iff.mp hc
  subst hst
  refine va_calli (va_runV (As := As) (rest := rest) (C := y.cls) (n := n) ⟨hx, hb, hml, hown, hT⟩ (hM H.size σ _ hf) ⟨cb_of hT hy hlk hrc hR, hT _ hv.1, hT _ hv.2⟩ ⟨pcs_blind, by rw [← hc2]; exact va_recv hK B.1 hc1 hO, fun U hU hW => ⟨rfl, by rw [hU], by rw [hU]; exact B.1, va_K.moved hW.alike hK, B.2.1.weaken (fun _ _ _ _ => trivial), hE.go B.2.2 (fr_all B.2.1 B.2.2 hA) hU hW⟩⟩ rfl hn hl rfl (lv_room hW) hdg ⟨Nat.zero_le _, Nat.zero_le _⟩) B.2.2 (fun q _ h => fr_all B.2.1 B.2.2 hA q h) (fr_all B.2.1 B.2.2 hA) (fun r u t H1 locs1 ht hvm hw hB hz1 hk1 hS => ?_)
  obtain ⟨e1, e2⟩ := hw
  obtain ⟨hP1, hK1, hD1⟩ := hB
  rw [ht] at hP1
  dsimp only at e1 e2
  subst e1; subst e2
  exact kk _ H1 locs1 (bd_back hA B hP1 hD1 hS) hm2
theorem x_callSrS {own : String} {index maxL n : Nat} {y : MethodName} {bytes : ByteArray} {ret : Option FieldType} {rm : Room} {As : List Value} {f : Mm → Option Int32} {body : Int32 → Option α}
    (hE : SFx adK adV A s s.heap) (hx : p.tables.exec = Jvm.exec) (hb : c.code = cc) (hml : c.maxLocals = nL) (hT : ∀ w ∈ wsL_law, w.before args s = true) (hown : s.vm.findClass own = some m.cls) (hK : va_K D vwCl tys s) (hA : ∀ q, s.heap.size ≤ q → A q) (B : BD D A s.heap (ww σ) H locs) (hl : ls.size = nL)
    (hM : CTrS l D tys adK adV ww y (.code y bytes maxL ret :: wsL_law) rm As f) (hy : MI y bytes maxL ret n) (hv : Cond.static y ∈ wsL_law) (hlk : Cond.methodLink own index y ∈ wsL_law)
    (hrc : rm.cells = 0 ∧ rm.slots = 0) (hR : rm.frames + 1 ≤ R.frames ∧ 8 + (maxL + 11) + rm.locals ≤ R.locals) (hn : As.length = n) {st0 : List Value} (hst : st0 = As.reverse ++ rest) (hW : (rest.map fun v => v.category).sum ≤ 8) (hdg : decode cc pc = .ok (.invokestatic index, 3))
    (hm : (f σ).bind body = some out) (kk : ∀ (r : Int32) (H1 : Heap) (locs1 : List Loc), BD D A s.heap (ww σ) H1 locs1 → body r = some out → W p l e R s m args below meth c H1 locs1 0 0 Q (F0 m (pc + 3) ls (.int r :: rest))) : W p l e R s m args below meth c H locs 0 0 Q (F0 m pc ls st0) := by
  obtain ⟨r0, hf, hm2⟩ := Option.bind_eq_some_iff.mp hm
  subst hst
  refine va_calli (va_runS (As := As) (rest := rest) (n := n) ⟨hx, hb, hml, hown, hT⟩ (hM H.size σ _ hf) ⟨cb_of hT hy hlk hrc hR, hT _ hv⟩ ⟨pcs_blind, fun U hU hW => ⟨rfl, by rw [hU], by rw [hU]; exact B.1, va_K.moved hW.alike hK, B.2.1.weaken (fun _ _ _ _ => trivial), hE.go B.2.2 (fr_all B.2.1 B.2.2 hA) hU hW⟩⟩ rfl hn hl rfl (lv_room hW) hdg ⟨Nat.zero_le _, Nat.zero_le _⟩) B.2.2 (fun q _ h => fr_all B.2.1 B.2.2 hA q h) (fr_all B.2.1 B.2.2 hA) (fun r u t H1 locs1 ht hvm hw hB hz1 hk1 hS => ?_)
  obtain ⟨e1, e2⟩ := hw
  obtain ⟨hP1, hK1, hD1⟩ := hB
  rw [ht] at hP1
  dsimp only at e1 e2
  subst e1; subst e2
  exact kk _ H1 locs1 (bd_back hA B hP1 hD1 hS) hm2
theorem x_callKr {own : String} {index maxL n i : Nat} {y : MethodName} {bytes : ByteArray} {ret : Option FieldType} {rm : Room} {As : List Value} {f : Mm → Option Int32} {body : Int32 → Option α}
    (hE : SFx adK adV A s s.heap) (hx : p.tables.exec = Jvm.exec) (hb : c.code = cc) (hml : c.maxLocals = nL) (hT : ∀ w ∈ wsL_law, w.before args s = true) (hown : s.vm.findClass own = some m.cls) (hK : va_K D vwCl tys s) (hA : ∀ q, s.heap.size ≤ q → A q) (B : BD D A s.heap (ww σ) H locs) (hl : ls.size = nL)
    (hM : CTrS l D tys adK adV ww y (.code y bytes maxL ret :: wsL_law) rm (.ref (adK i) :: As) f) (hy : MI y bytes maxL ret n) (hv : MV y) (hi : i < 2) (hc : y.cls = RJ0) (hlk : Cond.methodLink own index y ∈ wsL_law)
    (hrc : rm.cells = 0 ∧ rm.slots = 0) (hR : rm.frames + 1 ≤ R.frames ∧ 8 + (maxL + 11) + rm.locals ≤ R.locals) (hn : As.length = n) {st0 : List Value} (hst : st0 = As.reverse ++ .ref (adK i) :: rest) (hW : (rest.map fun v => v.category).sum ≤ 8) (hdg : decode cc pc = .ok (.invokevirtual index, 3))
    (hm : (f σ).bind body = some out) (kk : ∀ (r : Int32) (H1 : Heap) (locs1 : List Loc), BD D A s.heap (ww σ) H1 locs1 → body r = some out → W p l e R s m args below meth c H1 locs1 0 0 Q (F0 m (pc + 3) ls (.int r :: rest))) : W p l e R s m args below meth c H locs 0 0 Q (F0 m pc ls st0) := by
  obtain ⟨r0, hf, hm2⟩ := Option.bind_eq_some_iff.mp hm
  subst hst
  refine va_calli (va_runV (As := As) (rest := rest) (C := y.cls) (n := n) ⟨hx, hb, hml, hown, hT⟩ (hM H.size σ _ hf) ⟨cb_of hT hy hlk hrc hR, hT _ hv.1, hT _ hv.2⟩ ⟨pcs_blind, by rw [hc]; exact vk_recv hE.1 hi B.2.2, fun U hU hW => ⟨rfl, by rw [hU], by rw [hU]; exact B.1, va_K.moved hW.alike hK, B.2.1.weaken (fun _ _ _ _ => trivial), hE.go B.2.2 (fr_all B.2.1 B.2.2 hA) hU hW⟩⟩ rfl hn hl rfl (lv_room hW) hdg ⟨Nat.zero_le _, Nat.zero_le _⟩) B.2.2 (fun q _ h => fr_all B.2.1 B.2.2 hA q h) (fr_all B.2.1 B.2.2 hA) (fun r u t H1 locs1 ht hvm hw hB hz1 hk1 hS => ?_)
  obtain ⟨e1, e2⟩ := hw
  obtain ⟨hP1, hK1, hD1⟩ := hB
  rw [ht] at hP1
  dsimp only at e1 e2
  subst e1; subst e2
  exact kk _ H1 locs1 (bd_back hA B hP1 hD1 hS) hm2
theorem x_callKc {own : String} {index maxL n i : Nat} {y : MethodName} {bytes : ByteArray} {ret : Option FieldType} {rm : Room} {As : List Value} {f : Mm → Option Int32} {v : Int32}
    (hE : SFx adK adV A s s.heap) (hx : p.tables.exec = Jvm.exec) (hb : c.code = cc) (hml : c.maxLocals = nL) (hT : ∀ w ∈ wsL_law, w.before args s = true) (hown : s.vm.findClass own = some m.cls) (hK : va_K D vwCl tys s) (hA : ∀ q, s.heap.size ≤ q → A q) (B : BD D A s.heap (ww σ) H locs) (hl : ls.size = nL)
    (hM : CTrS l D tys adK adV ww y (.code y bytes maxL ret :: wsL_law) rm (.ref (adK i) :: As) f) (hy : MI y bytes maxL ret n) (hv : MV y) (hi : i < 2) (hc : y.cls = RJ0) (hlk : Cond.methodLink own index y ∈ wsL_law)
    (hrc : rm.cells = 0 ∧ rm.slots = 0) (hR : rm.frames + 1 ≤ R.frames ∧ 8 + (maxL + 11) + rm.locals ≤ R.locals) (hn : As.length = n) {st0 : List Value} (hst : st0 = As.reverse ++ .ref (adK i) :: rest) (hW : (rest.map fun v => v.category).sum ≤ 8) (hdg : decode cc pc = .ok (.invokevirtual index, 3))
    (hf : f σ = some v) (kk : ∀ (H1 : Heap) (locs1 : List Loc), BD D A s.heap (ww σ) H1 locs1 → W p l e R s m args below meth c H1 locs1 0 0 Q (F0 m (pc + 3) ls (.int v :: rest))) : W p l e R s m args below meth c H locs 0 0 Q (F0 m pc ls st0) := by
  subst hst
  refine va_calli (va_runV (As := As) (rest := rest) (C := y.cls) (n := n) ⟨hx, hb, hml, hown, hT⟩ (hM H.size σ _ hf) ⟨cb_of hT hy hlk hrc hR, hT _ hv.1, hT _ hv.2⟩ ⟨pcs_blind, by rw [hc]; exact vk_recv hE.1 hi B.2.2, fun U hU hW => ⟨rfl, by rw [hU], by rw [hU]; exact B.1, va_K.moved hW.alike hK, B.2.1.weaken (fun _ _ _ _ => trivial), hE.go B.2.2 (fr_all B.2.1 B.2.2 hA) hU hW⟩⟩ rfl hn hl rfl (lv_room hW) hdg ⟨Nat.zero_le _, Nat.zero_le _⟩) B.2.2 (fun q _ h => fr_all B.2.1 B.2.2 hA q h) (fr_all B.2.1 B.2.2 hA) (fun r u t H1 locs1 ht hvm hw hB hz1 hk1 hS => ?_)
  obtain ⟨e1, e2⟩ := hw
  obtain ⟨hP1, hK1, hD1⟩ := hB
  rw [ht] at hP1
  dsimp only at e1 e2
  subst e1; subst e2
  exact kk H1 locs1 (bd_back hA B hP1 hD1 hS)
theorem x_kald {i : Nat} {ix : Int32} {body : Int32 → Option α} (hE : SFx adK adV A s s.heap) (hi : i < 2) (hx : p.tables.exec = Jvm.exec) (hb : c.code = cc) (B : BD D A s.heap (ww σ) H locs) (hdg : decode cc pc = .ok (.baload, 1)) (hm : (ald (kL i) (kB i) ix).bind body = some out)
    (kk : ∀ v : Int32, body v = some out → W p l e R s m args below meth c H locs 0 0 Q (F0 m (pc + 1) ls (.int v :: rest))) : W p l e R s m args below meth c H locs 0 0 Q (F0 m pc ls (.int ix :: .ref (adV i) :: rest)) := by
  unfold ald at hm
  by_cases h : ix < 0 ∨ kL i ≤ ix.toNatClampNeg
  · rw [if_pos h] at hm; exact no_none hm
  · rw [if_neg h] at hm
    exact va_tb hx hb (hE.1.1 i hi).2.2.2 B.2.2 h rfl hdg (kk _ hm)
end XSS
section XBS
variable {l : Launch} {D : va_G} {tys : List (ClassId × FieldType)} {ww : Mm → va_W} {y : MethodName} {cc : ByteArray} {nL : Nat} {ret : Option FieldType} {rm : Room} {as : List Value} {adK adV : Nat → Nat}
def BodyWS (l : Launch) (D : va_G) (tys : List (ClassId × FieldType)) (adK adV : Nat → Nat) (ww : Mm → va_W) (y : MethodName) (cc : ByteArray) (nL : Nat) (ret : Option FieldType) (rm : Room) (as : List Value) (σ : Mm) (QQ : (Nat → Prop) → Array Value → State → Outcome → State → Prop) : Prop :=
  ∀ (p : Program) (e : Env) (s : State) (m : MethodId) (below : List Frame) (meth : Method) (c : Code) (A : Nat → Prop) (ls : Array Slot) (H : Heap) (locs : List Loc), p.tables.exec = Jvm.exec → c.code = cc → meth.sig.returnType = ret → meth.locks = false → c.maxLocals = nL → (∀ w ∈ wsL_law, w.before as.toArray s = true) → s.vm.findClass y.cls = some m.cls → va_K D vwCl tys s → (∀ q, s.heap.size ≤ q → A q) → BD D A s.heap (ww σ) H locs → lv_has ls nL (lv_args 0 as) → SFx adK adV A s s.heap → W p l e rm s m as.toArray below meth c H locs 0 0 (MQ below (QQ A) as.toArray s 0 0 A) (F0 m 0 ls [])
theorem met_ofS {sz : Nat} {σ : Mm} {QQ : (Nat → Prop) → Array Value → State → Outcome → State → Prop} (hy : plainName y.cls = true) (hn : (lg_sl as).length ≤ nL) (h : BodyWS l D tys adK adV ww y cc nL ret rm as σ QQ) :
    Met l y (.code y cc nL ret :: wsL_law) rm (PCS D tys adK adV (ww σ) as sz) (QQ (va_A (ww σ) sz)) 0 0 (va_A (ww σ) sz) := by
  refine Met.ofW (cc := cc) (maxL := nL) (ret := ret) hy rfl ?_
  intro p e s m args below meth c s₁ B hml hv
  obtain ⟨rfl, hsz, hP, hK, hD0, hE⟩ := hv
  subst hsz
  have hts := atoms_spec (ws := .code y cc nL ret :: wsL_law) B.pre
  have hl := lv_entry as (n := nL) hn
  rw [lg_entry_eq]
  exact h p e s m below meth c (va_A (ww σ) s.heap.size) _ s.heap [] B.exec B.bytes B.returns B.notSynchronized hml (fun w hw => hts w (List.mem_cons_of_mem _ hw)) (findClass_of_methodNamed B.named) hK (fun q h => Or.inr h) ⟨hP, hD0.self, va_S.rf⟩ hl hE
theorem CTiS.of {f : Mm → Option (Int32 × Mm)} (hy : plainName y.cls = true) (hn : (lg_sl as).length ≤ nL) (h : ∀ σ out, f σ = some out → BodyWS l D tys adK adV ww y cc nL ret rm as σ (fun A => QI D tys ww A out)) : CTiS l D tys adK adV ww y (.code y cc nL ret :: wsL_law) rm as f :=
  fun _ σ out hf => met_ofS (QQ := fun A => QI D tys ww A out) hy hn (h σ out hf)
theorem CTvS.of {f : Mm → Option Mm} (hy : plainName y.cls = true) (hn : (lg_sl as).length ≤ nL) (h : ∀ σ out, f σ = some out → BodyWS l D tys adK adV ww y cc nL ret rm as σ (fun A => QV D tys ww A out)) : CTvS l D tys adK adV ww y (.code y cc nL ret :: wsL_law) rm as f :=
  fun _ σ out hf => met_ofS (QQ := fun A => QV D tys ww A out) hy hn (h σ out hf)
theorem CTrS.of {f : Mm → Option Int32} (hy : plainName y.cls = true) (hn : (lg_sl as).length ≤ nL) (h : ∀ σ r, f σ = some r → BodyWS l D tys adK adV ww y cc nL ret rm as σ (fun A => QI D tys ww A (r, σ))) : CTrS l D tys adK adV ww y (.code y cc nL ret :: wsL_law) rm as f :=
  fun _ σ r hf => met_ofS (QQ := fun A => QI D tys ww A (r, σ)) hy hn (h σ r hf)
end XBS
theorem mi_J0_isLatin1_aae02 : MI yJ0_isLatin1_aae02 cJ0_isLatin1_aae02 1 (some FieldType.boolean) 0 := ⟨⟨by decide +kernel, by decide +kernel, by decide +kernel⟩, q11, q576⟩
theorem mv_J0_isLatin1_aae02 : MV yJ0_isLatin1_aae02 := ⟨q574, q575⟩
theorem mi_J0_coder_7d493 : MI yJ0_coder_7d493 cJ0_coder_7d493 1 (some FieldType.byte) 0 := ⟨⟨by decide +kernel, by decide +kernel, by decide +kernel⟩, q11, q585⟩
theorem mv_J0_coder_7d493 : MV yJ0_coder_7d493 := ⟨q583, q584⟩
theorem mi_J0_length_8abf5 : MI yJ0_length_8abf5 cJ0_length_8abf5 1 (some FieldType.int) 0 := ⟨⟨by decide +kernel, by decide +kernel, by decide +kernel⟩, q11, q581⟩
theorem mv_J0_length_8abf5 : MV yJ0_length_8abf5 := ⟨q579, q580⟩
theorem mi_J1_canEncode_9a6ad : MI yJ1_canEncode_9a6ad cJ1_canEncode_9a6ad 1 (some FieldType.boolean) 1 := ⟨⟨by decide +kernel, by decide +kernel, by decide +kernel⟩, q12, q591⟩
theorem mi_J1_indexOfChar_4cfef : MI yJ1_indexOfChar_4cfef cJ1_indexOfChar_4cfef 6 (some FieldType.int) 4 := ⟨⟨by decide +kernel, by decide +kernel, by decide +kernel⟩, q12, q596⟩
theorem mi_J1_indexOf_4cfef : MI yJ1_indexOf_4cfef cJ1_indexOf_4cfef 4 (some FieldType.int) 4 := ⟨⟨by decide +kernel, by decide +kernel, by decide +kernel⟩, q12, q588⟩
theorem mi_J0_indexOf_7cf53 : MI yJ0_indexOf_7cf53 cJ0_indexOf_7cf53 3 (some FieldType.int) 2 := ⟨⟨by decide +kernel, by decide +kernel, by decide +kernel⟩, q11, q572⟩
theorem mv_J0_indexOf_7cf53 : MV yJ0_indexOf_7cf53 := ⟨q570, q571⟩
theorem mi_J0_indexOf_0f7a4 : MI yJ0_indexOf_0f7a4 cJ0_indexOf_0f7a4 2 (some FieldType.int) 1 := ⟨⟨by decide +kernel, by decide +kernel, by decide +kernel⟩, q11, q568⟩
theorem mv_J0_indexOf_0f7a4 : MV yJ0_indexOf_0f7a4 := ⟨q566, q567⟩
