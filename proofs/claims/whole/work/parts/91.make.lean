/-! ===== worlds side by side; calls of the law; makings ===== -/
theorem va_Pl {D : va_G} {cl : List vw_C} {w1 w2 : va_W} {H : Heap} (h : va_P D cl (w1 ++ w2) H) : va_P D cl w1 H := fun k q hk => h k q (by rw [List.getElem?_append_left (List.getElem?_eq_some_iff.mp hk).1]; exact hk)
theorem ap_r {w1 w2 : va_W} {k : Nat} {q : Nat × va_E} (h : w2[k]? = some q) : (w1 ++ w2)[w1.length + k]? = some q := by
  rw [List.getElem?_append_right (by omega), Nat.add_sub_cancel_left]; exact h
theorem ap_l {w1 w2 : va_W} {k : Nat} {q : Nat × va_E} (h : w1[k]? = some q) : (w1 ++ w2)[k]? = some q := by
  rw [List.getElem?_append_left (List.getElem?_eq_some_iff.mp h).1]; exact h
theorem va_Pr {D : va_G} {cl : List vw_C} {w1 w2 : va_W} {H : Heap} (h : va_P D cl (w1 ++ w2) H) : va_P D cl w2 H := fun _ q hk => h _ q (ap_r hk)
theorem va_Dl {A : Nat → Prop} {w1 w2 : va_W} (h : va_D A (w1 ++ w2)) : va_D A w1 := ⟨fun i j p q hi hj e => h.1 i j p q (ap_l hi) (ap_l hj) e, fun k q hk => h.2 k q (ap_l hk)⟩
theorem va_Dr {A : Nat → Prop} {w1 w2 : va_W} (h : va_D A (w1 ++ w2)) : va_D A w2 := ⟨fun i j p q hi hj e => by
  have := h.1 _ _ p q (ap_r hi) (ap_r hj) e
  omega, fun k q hk => h.2 _ q (ap_r hk)⟩
theorem jn_l {A : Nat → Prop} {D : va_G} {cl : List vw_C} {w1 w2 w3 : va_W} {H H1 : Heap} (hP : va_P D cl (w1 ++ w2) H) (hD : va_D A (w1 ++ w2)) (hk : ∀ q, q < H.size → ¬ va_A w1 H.size q → H1[q]? = H[q]?) (hF : ∀ q, va_A w1 H.size q → A q) (hP1 : va_P D cl w3 H1) (hD1 : va_D (va_A w1 H.size) w3) : va_P D cl (w3 ++ w2) H1 ∧ va_D A (w3 ++ w2) := by
  have apart : ∀ (k : Nat) (q : Nat × va_E), w2[k]? = some q → q.1 < H.size ∧ ¬ va_A w1 H.size q.1 := by
    intro k q hq
    have hl := (va_Pr hP k q hq).lt
    refine ⟨hl, fun h => ?_⟩
    rcases h with ⟨k2, e, h⟩ | h
    · have e1 := hD.1 _ _ (q.1, e) q (ap_l h) (ap_r hq) rfl
      have := (List.getElem?_eq_some_iff.mp h).1
      omega
    · omega
  exact ⟨va_P.app hP1 (fun k q hq => (va_Pr hP k q hq).kept (hk q.1 (apart k q hq).1 (apart k q hq).2)), va_D.app (hD1.weaken (fun _ q _ h => hF q.1 h)) (va_Dr hD) (fun i j x y hx hy hxy => (apart j y hy).2 (by rw [← hxy]; exact hD1.2 i x hx))⟩
theorem jn_r {A : Nat → Prop} {D : va_G} {cl : List vw_C} {w1 w2 w3 : va_W} {H H1 : Heap} (hP : va_P D cl (w1 ++ w2) H) (hD : va_D A (w1 ++ w2)) (hk : ∀ q, q < H.size → ¬ va_A w2 H.size q → H1[q]? = H[q]?) (hF : ∀ q, va_A w2 H.size q → A q) (hP1 : va_P D cl w3 H1) (hD1 : va_D (va_A w2 H.size) w3) : va_P D cl (w1 ++ w3) H1 ∧ va_D A (w1 ++ w3) := by
  have apart : ∀ (k : Nat) (q : Nat × va_E), w1[k]? = some q → q.1 < H.size ∧ ¬ va_A w2 H.size q.1 := by
    intro k q hq
    have hl := (va_Pl hP k q hq).lt
    refine ⟨hl, fun h => ?_⟩
    rcases h with ⟨k2, e, h⟩ | h
    · have e1 := hD.1 _ _ (q.1, e) q (ap_r h) (ap_l hq) rfl
      have := (List.getElem?_eq_some_iff.mp hq).1
      omega
    · omega
  exact ⟨va_P.app (fun k q hq => (va_Pl hP k q hq).kept (hk q.1 (apart k q hq).1 (apart k q hq).2)) hP1, va_D.app (va_Dl hD) (hD1.weaken (fun _ q _ h => hF q.1 h)) (fun i j x y hx hy hxy => (apart i x hx).2 (by rw [hxy]; exact hD1.2 j y hy))⟩
theorem CTr.i {l : Launch} {D : va_G} {tys : List (ClassId × FieldType)} {ww : Mm → va_W} {y : MethodName} {wds : List Cond} {rm : Room} {as : List Value} {f : Mm → Option Int32} (h : CTr l D tys ww y wds rm as f) : CTi l D tys ww y wds rm as (fun σ => Ask σ (f σ)) := by
  intro sz σ out hf
  obtain ⟨r, h1, h2⟩ := Option.bind_eq_some_iff.mp hf
  cases h2
  exact h sz σ r h1
theorem CTi.s {l : Launch} {D : va_G} {tys : List (ClassId × FieldType)} {ww : Mm → va_W} {y : MethodName} {wds : List Cond} {rm : Room} {as : List Value} {f : Mm → Option (Int32 × Mm)} (h : CTi l D tys ww y wds rm as f) (adK adV : Nat → Nat) : CTiS l D tys adK adV ww y wds rm as f :=
  fun sz σ out hf => MetFree.mono (h sz σ out hf) (fun _ _ q => ⟨q.1, q.2.1, q.2.2.1, q.2.2.2.1, q.2.2.2.2.1⟩) (fun _ _ _ _ _ h => h) (fun _ _ _ _ _ h => h)
theorem cb_ofc {s : State} {args : Array Value} {R rm : Room} {own : String} {index maxL n mc ms : Nat} {y : MethodName} {bytes : ByteArray} {ret : Option FieldType} (hT : ∀ w ∈ wsL_law, w.before args s = true) (hy : MI y bytes maxL ret n) (hl : Cond.methodLink own index y ∈ wsL_law) (hrc : rm.cells = mc ∧ rm.slots = ms) (hR : rm.frames + 1 ≤ R.frames ∧ 8 + (maxL + 11) + rm.locals ≤ R.locals) :
    CallB R s args own index y bytes maxL ret (.code y bytes maxL ret :: wsL_law) rm mc ms n := by
  obtain ⟨⟨h1, h2, h3⟩, h4, h5⟩ := hy
  refine ⟨hrc.1, hrc.2, hR.1, hR.2, w_payC hT h5, List.mem_cons_self, hT _ h5, hT _ h4, ⟨h1, h2⟩, fun sig h => ?_, hT _ hl⟩
  rw [h] at h3
  exact (Option.some.inj h3).symm
section YC
variable {p : Program} {l : Launch} {e : Env} {R : Room} {s : State} {m : MethodId} {args : Array Value} {below : List Frame} {meth : Method} {c : Code} {H : Heap} {locs : List Loc} {cells slots : Nat} {Q : State → Prop}
variable {cc : ByteArray} {pc nL : Nat} {ls : Array Slot} {rest : List Value} {D : va_G} {A : Nat → Prop} {a : Nat} {tys : List (ClassId × FieldType)} {ww : Mm → va_W} {σ σ1 : Mm} {r : Int32} {adK adV : Nat → Nat} {wo : va_W}
/-- a call of the law's: one system's world, the other's stands beside it -/
theorem y_callx {own : String} {index maxL n ci q : Nat} {y : MethodName} {bytes : ByteArray} {ret : Option FieldType} {rm : Room} {As : List Value} {f : Mm → Option (Int32 × Mm)}
    (hE : SFx adK adV A s s.heap) (hx : p.tables.exec = Jvm.exec) (hb : c.code = cc) (hml : c.maxLocals = nL) (hT : ∀ w ∈ wsL_law, w.before args s = true) (hown : s.vm.findClass own = some m.cls) (hK : va_K D vwCl tys s) (hA : ∀ q, s.heap.size ≤ q → A q) (B : BD D A s.heap (ww σ ++ wo) H locs) (hl : ls.size = nL)
    (hM : CTiS l D tys adK adV ww y (.code y bytes maxL ret :: wsL_law) rm (.ref a :: As) f) (hy : MI y bytes maxL ret n) (hv : MV y) (hO : IsO ww ci q a) (hc : (vwCl[ci]?).map (fun r => r.1) = some y.cls) (hlk : Cond.methodLink own index y ∈ wsL_law)
    (hrc : rm.cells = 0 ∧ rm.slots = 0) (hR : rm.frames + 1 ≤ R.frames ∧ 8 + (maxL + 11) + rm.locals ≤ R.locals) (hn : As.length = n) {st0 : List Value} (hst : st0 = As.reverse ++ .ref a :: rest) (hW : (rest.map fun v => v.category).sum ≤ 8) (hdg : decode cc pc = .ok (.invokevirtual index, 3)) (hf0 : cells + 0 ≤ R.cells ∧ slots + 0 ≤ R.slots)
    (hf : f σ = some (r, σ1)) (kk : ∀ (H1 : Heap) (locs1 : List Loc), BD D A s.heap (ww σ1 ++ wo) H1 locs1 → W p l e R s m args below meth c H1 locs1 cells slots Q (F0 m (pc + 3) ls (.int r :: rest))) : W p l e R s m args below meth c H locs cells slots Q (F0 m pc ls st0) := by
  obtain ⟨fs, hO⟩ := hO σ
  obtain ⟨rc, hc1, hc2⟩ := Option.map_eq_some_iff.mp hc
  subst hst
  have hP0 := va_Pl B.1
  have hD0 := va_Dl B.2.1
  have hF : ∀ q, va_A (ww σ) H.size q → A q := fr_all hD0 B.2.2 hA
  refine va_calli (va_runV (As := As) (rest := rest) (C := y.cls) (n := n) ⟨hx, hb, hml, hown, hT⟩ (hM H.size σ _ hf) ⟨cb_of hT hy hlk hrc hR, hT _ hv.1, hT _ hv.2⟩ ⟨pcs_blind, by rw [← hc2]; exact va_recv hK hP0 hc1 hO, fun U hU hW => ⟨rfl, by rw [hU], by rw [hU]; exact hP0, va_K.moved hW.alike hK, hD0.weaken (fun _ _ _ _ => trivial), hE.go B.2.2 hF hU hW⟩⟩ rfl hn hl rfl (lv_room hW) hdg hf0) B.2.2 (fun q _ h => hF q h) hF (fun r u t H1 locs1 ht hvm hw hB hz1 hk1 hS => ?_)
  obtain ⟨e1, e2⟩ := hw
  obtain ⟨hP1, hK1, hD1⟩ := hB
  rw [ht] at hP1
  dsimp only at e1 e2
  subst e1; subst e2
  obtain ⟨j1, j2⟩ := jn_l B.1 B.2.1 hk1 hF hP1 hD1
  exact kk H1 locs1 ⟨j1, j2, hS⟩
theorem y_callm {own : String} {index maxL n ci q : Nat} {y : MethodName} {bytes : ByteArray} {ret : Option FieldType} {rm : Room} {As : List Value} {f : Mm → Option (Int32 × Mm)}
    (hE : SFx adK adV A s s.heap) (hx : p.tables.exec = Jvm.exec) (hb : c.code = cc) (hml : c.maxLocals = nL) (hT : ∀ w ∈ wsL_law, w.before args s = true) (hown : s.vm.findClass own = some m.cls) (hK : va_K D vwCl tys s) (hA : ∀ q, s.heap.size ≤ q → A q) (B : BD D A s.heap (wo ++ ww σ) H locs) (hl : ls.size = nL)
    (hM : CTiS l D tys adK adV ww y (.code y bytes maxL ret :: wsL_law) rm (.ref a :: As) f) (hy : MI y bytes maxL ret n) (hv : MV y) (hO : IsO ww ci q a) (hc : (vwCl[ci]?).map (fun r => r.1) = some y.cls) (hlk : Cond.methodLink own index y ∈ wsL_law)
    (hrc : rm.cells = 0 ∧ rm.slots = 0) (hR : rm.frames + 1 ≤ R.frames ∧ 8 + (maxL + 11) + rm.locals ≤ R.locals) (hn : As.length = n) {st0 : List Value} (hst : st0 = As.reverse ++ .ref a :: rest) (hW : (rest.map fun v => v.category).sum ≤ 8) (hdg : decode cc pc = .ok (.invokevirtual index, 3)) (hf0 : cells + 0 ≤ R.cells ∧ slots + 0 ≤ R.slots)
    (hf : f σ = some (r, σ1)) (kk : ∀ (H1 : Heap) (locs1 : List Loc), BD D A s.heap (wo ++ ww σ1) H1 locs1 → W p l e R s m args below meth c H1 locs1 cells slots Q (F0 m (pc + 3) ls (.int r :: rest))) : W p l e R s m args below meth c H locs cells slots Q (F0 m pc ls st0) := by
  obtain ⟨fs, hO⟩ := hO σ
  obtain ⟨rc, hc1, hc2⟩ := Option.map_eq_some_iff.mp hc
  subst hst
  have hP0 := va_Pr B.1
  have hD0 := va_Dr B.2.1
  have hF : ∀ q, va_A (ww σ) H.size q → A q := fr_all hD0 B.2.2 hA
  refine va_calli (va_runV (As := As) (rest := rest) (C := y.cls) (n := n) ⟨hx, hb, hml, hown, hT⟩ (hM H.size σ _ hf) ⟨cb_of hT hy hlk hrc hR, hT _ hv.1, hT _ hv.2⟩ ⟨pcs_blind, by rw [← hc2]; exact va_recv hK hP0 hc1 hO, fun U hU hW => ⟨rfl, by rw [hU], by rw [hU]; exact hP0, va_K.moved hW.alike hK, hD0.weaken (fun _ _ _ _ => trivial), hE.go B.2.2 hF hU hW⟩⟩ rfl hn hl rfl (lv_room hW) hdg hf0) B.2.2 (fun q _ h => hF q h) hF (fun r u t H1 locs1 ht hvm hw hB hz1 hk1 hS => ?_)
  obtain ⟨e1, e2⟩ := hw
  obtain ⟨hP1, hK1, hD1⟩ := hB
  rw [ht] at hP1
  dsimp only at e1 e2
  subst e1; subst e2
  obtain ⟨j1, j2⟩ := jn_r B.1 B.2.1 hk1 hF hP1 hD1
  exact kk H1 locs1 ⟨j1, j2, hS⟩
/-- a void call in a constructor, behind makings -/
theorem y_callv {own : String} {index maxL n ci q : Nat} {y : MethodName} {bytes : ByteArray} {ret : Option FieldType} {rm : Room} {As : List Value} {f : Mm → Option Mm}
    (hx : p.tables.exec = Jvm.exec) (hb : c.code = cc) (hml : c.maxLocals = nL) (hT : ∀ w ∈ wsL_law, w.before args s = true) (hown : s.vm.findClass own = some m.cls) (hK : va_K D vwCl tys s) (hA : ∀ q, s.heap.size ≤ q → A q) (B : BD D A s.heap (ww σ) H locs) (hl : ls.size = nL)
    (hM : CTv l D tys ww y (.code y bytes maxL ret :: wsL_law) rm (.ref a :: As) f) (hy : MI y bytes maxL ret n) (hv : MV y) (hO : IsO ww ci q a) (hc : (vwCl[ci]?).map (fun r => r.1) = some y.cls) (hlk : Cond.methodLink own index y ∈ wsL_law)
    (hrc : rm.cells = 0 ∧ rm.slots = 0) (hR : rm.frames + 1 ≤ R.frames ∧ 8 + (maxL + 11) + rm.locals ≤ R.locals) (hn : As.length = n) {st0 : List Value} (hst : st0 = As.reverse ++ .ref a :: rest) (hW : (rest.map fun v => v.category).sum ≤ 8) (hdg : decode cc pc = .ok (.invokevirtual index, 3)) (hf0 : cells + 0 ≤ R.cells ∧ slots + 0 ≤ R.slots)
    (hf : f σ = some σ1) (kk : ∀ (H1 : Heap) (locs1 : List Loc), BD D A s.heap (ww σ1) H1 locs1 → W p l e R s m args below meth c H1 locs1 cells slots Q (F0 m (pc + 3) ls rest)) : W p l e R s m args below meth c H locs cells slots Q (F0 m pc ls st0) := by
  obtain ⟨fs, hO⟩ := hO σ
  obtain ⟨rc, hc1, hc2⟩ := Option.map_eq_some_iff.mp hc
  subst hst
  refine va_callv (va_runV (As := As) (rest := rest) (C := y.cls) (n := n) ⟨hx, hb, hml, hown, hT⟩ (hM H.size σ _ hf) ⟨cb_of hT hy hlk hrc hR, hT _ hv.1, hT _ hv.2⟩ ⟨pc_blind, by rw [← hc2]; exact va_recv hK B.1 hc1 hO, fun U hU hW => ⟨rfl, by rw [hU], by rw [hU]; exact B.1, va_K.moved hW.alike hK, B.2.1.weaken (fun _ _ _ _ => trivial)⟩⟩ rfl hn hl rfl (lv_room hW) hdg hf0) B.2.2 (fun q _ h => fr_all B.2.1 B.2.2 hA q h) (fr_all B.2.1 B.2.2 hA) (fun u t H1 locs1 ht hvm hw hB hz1 hk1 hS => ?_)
  obtain ⟨hP1, hK1, hD1⟩ := hB
  rw [ht] at hP1
  subst hw
  exact kk H1 locs1 (bd_back hA B hP1 hD1 hS)
/-- what a constructor does: from its own cell, more cells -/
def CC (l : Launch) (D : va_G) (tys : List (ClassId × FieldType)) (y : MethodName) (wds : List Cond) (rm : Room) (as : List Value) (e0 : va_W) (w1 : (Nat → Nat) → va_W) (mc ms : Nat) : Prop :=
  ∀ (sz : Nat), Met l y wds rm (PC D tys e0 as sz) (va_Qv (fun _ : Nat → Nat => True) (fun u t => va_P D vwCl (w1 u) t.heap ∧ va_K D vwCl tys t ∧ va_D (va_A e0 sz) (w1 u)) (va_A e0 sz)) mc ms (va_A e0 sz)
theorem n_init {own : String} {index maxL n mc ms : Nat} {y : MethodName} {bytes : ByteArray} {rm : Room} {As : List Value} {e0 ws : va_W} {w1 : (Nat → Nat) → va_W}
    (hx : p.tables.exec = Jvm.exec) (hb : c.code = cc) (hml : c.maxLocals = nL) (hT : ∀ w ∈ wsL_law, w.before args s = true) (hown : s.vm.findClass own = some m.cls) (hK : va_K D vwCl tys s) (hA : ∀ q, s.heap.size ≤ q → A q) (B : BD D A s.heap (ws ++ e0) H locs) (hl : ls.size = nL)
    (hM : CC l D tys y (.code y bytes maxL none :: wsL_law) rm (.ref a :: As) e0 w1 mc ms) (hy : MI y bytes maxL none n) (hnm : y.name = "<init>") (hv : Cond.instanceMethod y ∈ wsL_law) (hlk : Cond.methodLink own index y ∈ wsL_law)
    (hrc : rm.cells = mc ∧ rm.slots = ms) (hR : rm.frames + 1 ≤ R.frames ∧ 8 + (maxL + 11) + rm.locals ≤ R.locals) (hn : As.length = n) {st0 : List Value} (hst : st0 = As.reverse ++ .ref a :: rest) (hW : (rest.map fun v => v.category).sum ≤ 8) (hdg : decode cc pc = .ok (.invokespecial index, 3)) (hf0 : cells + mc ≤ R.cells ∧ slots + ms ≤ R.slots)
    (kk : ∀ (u : Nat → Nat) (H1 : Heap) (locs1 : List Loc), BD D A s.heap (ws ++ w1 u) H1 locs1 → W p l e R s m args below meth c H1 locs1 (cells + mc) (slots + ms) Q (F0 m (pc + 3) ls rest)) : W p l e R s m args below meth c H locs cells slots Q (F0 m pc ls st0) := by
  subst hst
  have hP0 := va_Pr B.1
  have hD0 := va_Dr B.2.1
  have hF : ∀ q, va_A e0 H.size q → A q := fr_all hD0 B.2.2 hA
  refine va_callv (va_runI (As := As) (rest := rest) (n := n) ⟨hx, hb, hml, hown, hT⟩ (hM H.size) ⟨cb_ofc hT hy hlk hrc hR, hnm, hT _ hv⟩ ⟨pc_blind, fun U hU hW => ⟨rfl, by rw [hU], by rw [hU]; exact hP0, va_K.moved hW.alike hK, hD0.weaken (fun _ _ _ _ => trivial)⟩⟩ rfl hn hl rfl (lv_room hW) hdg hf0) B.2.2 (fun q _ h => hF q h) hF (fun u t H1 locs1 ht hvm hw hB hz1 hk1 hS => ?_)
  obtain ⟨hP1, hK1, hD1⟩ := hB
  rw [ht] at hP1
  obtain ⟨j1, j2⟩ := jn_r B.1 B.2.1 hk1 hF hP1 hD1
  exact kk u H1 locs1 ⟨j1, j2, hS⟩
theorem n_new {own C : String} {T : u_T} {N ci index : Nat} {ws : va_W} {fs : List Value} {ty : Nat → FieldType} (hx : p.tables.exec = Jvm.exec) (hb : c.code = cc) (hT : ∀ w ∈ wsL_law, w.before args s = true) (hown : s.vm.findClass own = some m.cls) (hK : va_K D vwCl tys s) (hA : ∀ q, s.heap.size ≤ q → A q) (B : BD D A s.heap ws H locs)
    (hin : ∀ w ∈ u_ws C T N, w ∈ wsL_law) (hty : ∀ k, k < N → parseFieldDescriptor (T k).2.2.1 = some (ty k)) (hcl : Cond.classLink own index C ∈ wsL_law) (hinst : Cond.instantiable C N ∈ wsL_law) (hini : Cond.initialized C ∈ wsL_law) (hc : vwCl[ci]? = some (C, T, N)) (hfs : ∀ j, j < N → defaultValue (ty j) = vp_V fs j) (hcells : cells + 1 ≤ R.cells) (hslots : slots + N ≤ R.slots) (hdg : decode cc pc = .ok (.new index, 3))
    (kk : ∀ (q : Nat) (H1 : Heap), BD D A s.heap (ws ++ [(q, .inr (ci, fs))]) H1 locs → W p l e R s m args below meth c H1 locs (cells + 1) (slots + N) Q (F0 m (pc + 3) ls (.ref q :: rest))) : W p l e R s m args below meth c H locs cells slots Q (F0 m pc ls rest) :=
  va_new hx hb hT hin ty hty hown (hT _ hcl) (hT _ hinst) (hT _ hini) hK B.1 B.2.1 B.2.2 hA hc hfs hcells hslots hdg (fun q H1 hP hD hS => kk q H1 ⟨hP, hD, hS⟩)
theorem n_arr {cI cZ : ClassId} {ws : va_W} {n : Int32} {N : Nat} (hx : p.tables.exec = Jvm.exec) (hb : c.code = cc) (hT : ∀ w ∈ wsL_law, w.before args s = true) (hK : va_K D vwCl [(cI, FieldType.int), (cZ, FieldType.boolean)] s) (hA : ∀ q, s.heap.size ≤ q → A q) (B : BD D A s.heap ws H locs)
    (hn : ¬ n < 0) (hN : n.toNatClampNeg = N) (hN2 : N ≤ 5000) (hcells : cells + 1 ≤ R.cells) (hslots : slots + N ≤ R.slots) (hdg : decode cc pc = .ok (.newarray .int, 2))
    (kk : ∀ (q : Nat) (H1 : Heap), BD D A s.heap (ws ++ [(q, .inl (cI, N, .inl (fun _ => 0)))]) H1 locs → W p l e R s m args below meth c H1 locs (cells + 1) (slots + N) Q (F0 m (pc + 2) ls (.ref q :: rest))) : W p l e R s m args below meth c H locs cells slots Q (F0 m pc ls (.int n :: rest)) := by
  refine va_newa (atype := .int) (ty := .int) (a0 := (N, .inl (fun _ => 0))) hx hb (hT _ q41) rfl hK B.1 B.2.1 B.2.2 hA (fun _ => rfl) hn hN ?_ hcells hslots hdg (fun q cA H1 hK1 hP hD hS => ?_)
  · show N * componentBytes FieldType.int ≤ 536870912
    have : componentBytes FieldType.int ≤ 8 := by decide
    have := Nat.mul_le_mul hN2 this
    omega
  · have e1 := va_nm_int (hK1.2 2 _ rfl).2
    have e2 := va_nm_int (hK.2 0 _ rfl).2
    have e3 : cA = cI := Option.some.inj (e1.symm.trans e2)
    subst e3
    exact kk q H1 ⟨hP, hD, hS⟩
theorem n_arrz {cI cZ : ClassId} {ws : va_W} {n : Int32} {N : Nat} (hx : p.tables.exec = Jvm.exec) (hb : c.code = cc) (hT : ∀ w ∈ wsL_law, w.before args s = true) (hK : va_K D vwCl [(cI, FieldType.int), (cZ, FieldType.boolean)] s) (hA : ∀ q, s.heap.size ≤ q → A q) (B : BD D A s.heap ws H locs)
    (hn : ¬ n < 0) (hN : n.toNatClampNeg = N) (hN2 : N ≤ 5000) (hcells : cells + 1 ≤ R.cells) (hslots : slots + N ≤ R.slots) (hdg : decode cc pc = .ok (.newarray .boolean, 2))
    (kk : ∀ (q : Nat) (H1 : Heap), BD D A s.heap (ws ++ [(q, .inl (cZ, N, .inl (fun _ => 0)))]) H1 locs → W p l e R s m args below meth c H1 locs (cells + 1) (slots + N) Q (F0 m (pc + 2) ls (.ref q :: rest))) : W p l e R s m args below meth c H locs cells slots Q (F0 m pc ls (.int n :: rest)) := by
  refine va_newa (atype := .boolean) (ty := .boolean) (a0 := (N, .inl (fun _ => 0))) hx hb (hT _ q831) rfl hK B.1 B.2.1 B.2.2 hA (fun _ => rfl) hn hN ?_ hcells hslots hdg (fun q cA H1 hK1 hP hD hS => ?_)
  · show N * componentBytes FieldType.boolean ≤ 536870912
    have : componentBytes FieldType.boolean ≤ 8 := by decide
    have := Nat.mul_le_mul hN2 this
    omega
  · have e1 := va_nm_boolean (hK1.2 2 _ rfl).2
    have e2 := va_nm_boolean (hK.2 1 _ rfl).2
    have e3 : cA = cZ := Option.some.inj (e1.symm.trans e2)
    subst e3
    exact kk q H1 ⟨hP, hD, hS⟩
theorem n_put {own ref C : String} {T : u_T} {N ci index : Nat} {ws : va_W} {fs : List Value} {ty0 : Nat → FieldType} {v : Value} (q0 k : Nat) (hx : p.tables.exec = Jvm.exec) (hb : c.code = cc) (hT : ∀ w ∈ wsL_law, w.before args s = true) (hown : s.vm.findClass own = some m.cls) (hK : va_K D vwCl tys s) (B : BD D A s.heap ws H locs)
    (hin : ∀ w ∈ u_ws C T N, w ∈ wsL_law) (hty : ∀ k, k < N → parseFieldDescriptor (T k).2.2.1 = some (ty0 k)) (hnm : ∀ a, a < N → ∀ b, b < N → a ≠ b → (T a).2.1 ≠ (T b).2.1) (he : ws[q0]? = some (a, .inr (ci, fs))) (hc : vwCl[ci]? = some (C, T, N)) (hk : k < N) (hlk : Cond.fieldLink own index ref (T k).2.1 (T k).2.2.1 ∈ wsL_law) (hr : ref = (T k).1) (hfin : (T k).2.2.2 = false) (hn : narrow (ty0 k) v = v) (hfit : fits (ty0 k) v = true) (hl : k < fs.length) (hdg : decode cc pc = .ok (.putfield index, 3))
    (kk : ∀ (H1 : Heap) (locs1 : List Loc), BD D A s.heap (ws.set q0 (a, .inr (ci, fs.set k v))) H1 locs1 → W p l e R s m args below meth c H1 locs1 cells slots Q (F0 m (pc + 3) ls rest)) : W p l e R s m args below meth c H locs cells slots Q (F0 m pc ls (v :: .ref a :: rest)) := by
  subst hr
  exact va_put hx hb hT hin ty0 hty hnm hown hK B.1 B.2.1 B.2.2 q0 he hc k hk (hT _ hlk) (fun _ h9 => h9) hfin (hty k hk) hn hfit hl hdg (fun H1 locs1 hP hD hS => kk H1 locs1 ⟨hP, hD, hS⟩)
theorem n_putF {own ref C : String} {T : u_T} {N ci index : Nat} {ws : va_W} {fs : List Value} {ty0 : Nat → FieldType} {v : Value} (q0 k : Nat) (hx : p.tables.exec = Jvm.exec) (hb : c.code = cc) (hT : ∀ w ∈ wsL_law, w.before args s = true) (hown : s.vm.findClass own = some m.cls) (hK : va_K D vwCl tys s) (B : BD D A s.heap ws H locs)
    (hin : ∀ w ∈ u_ws C T N, w ∈ wsL_law) (hty : ∀ k, k < N → parseFieldDescriptor (T k).2.2.1 = some (ty0 k)) (hnm : ∀ a, a < N → ∀ b, b < N → a ≠ b → (T a).2.1 ≠ (T b).2.1) (he : ws[q0]? = some (a, .inr (ci, fs))) (hc : vwCl[ci]? = some (C, T, N)) (hk : k < N) (hlk : Cond.fieldLink own index ref (T k).2.1 (T k).2.2.1 ∈ wsL_law) (hr : ref = (T k).1) (hfin : (T k).2.2.2 = true) (hin2 : meth.name = "<init>") (hdecl : (T k).1 = own) (hn : narrow (ty0 k) v = v) (hfit : fits (ty0 k) v = true) (hl : k < fs.length) (hdg : decode cc pc = .ok (.putfield index, 3))
    (kk : ∀ (H1 : Heap) (locs1 : List Loc), BD D A s.heap (ws.set q0 (a, .inr (ci, fs.set k v))) H1 locs1 → W p l e R s m args below meth c H1 locs1 cells slots Q (F0 m (pc + 3) ls rest)) : W p l e R s m args below meth c H locs cells slots Q (F0 m pc ls (v :: .ref a :: rest)) := by
  subst hr
  exact va_putF hx hb hT hin ty0 hty hnm hown hK B.1 B.2.1 B.2.2 q0 he hc k hk (hT _ hlk) (fun _ h9 => h9) hfin hin2 hdecl (hty k hk) hn hfit hl hdg (fun H1 locs1 hP hD hS => kk H1 locs1 ⟨hP, hD, hS⟩)
theorem n_get {own ref C : String} {T : u_T} {N ci index : Nat} {ws : va_W} {fs : List Value} {v : Value} (q0 k : Nat) (hx : p.tables.exec = Jvm.exec) (hb : c.code = cc) (hT : ∀ w ∈ wsL_law, w.before args s = true) (hown : s.vm.findClass own = some m.cls) (hK : va_K D vwCl tys s) (B : BD D A s.heap ws H locs)
    (hin : ∀ w ∈ u_ws C T N, w ∈ wsL_law) (he : ws[q0]? = some (a, .inr (ci, fs))) (hc : vwCl[ci]? = some (C, T, N)) (hk : k < N) (hlk : Cond.fieldLink own index ref (T k).2.1 (T k).2.2.1 ∈ wsL_law) (hr : ref = (T k).1) (hv : fs[k]? = some v) (hdg : decode cc pc = .ok (.getfield index, 3))
    (kk : W p l e R s m args below meth c H locs cells slots Q (F0 m (pc + 3) ls (v :: rest))) : W p l e R s m args below meth c H locs cells slots Q (F0 m pc ls (.ref a :: rest)) := by
  subst hr
  exact va_get hx hb hT hin hown hK B.1 q0 he hc k hk (hT _ hlk) (fun _ h9 => h9) hv hdg kk
theorem n_obj {own : String} {index : Nat} (hx : p.tables.exec = Jvm.exec) (hb : c.code = cc) (hml : c.maxLocals = nL) (hl : ls.size = nL) (hT : ∀ w ∈ wsL_law, w.before args s = true) (hown : s.vm.findClass own = some m.cls) (hlk : Cond.methodLink own index objectInit ∈ wsL_law) (hdg : decode cc pc = .ok (.invokespecial index, 3)) (hf : 1 ≤ R.frames) (hlo : 12 ≤ R.locals)
    (kk : W p l e R s m args below meth c H locs cells slots Q (F0 m (pc + 3) ls [])) : W p l e R s m args below meth c H locs cells slots Q (F0 m pc ls [.ref a]) := by
  refine W.objInit hx hb hown (hT _ hlk) (hT _ q22) (hT _ q23) rfl (by rw [hml]; exact hl) rfl hdg hf (by show 2 * 0 + 0 + 12 ≤ R.locals; omega) ?_
  exact W.eq (g2 := F0 m (pc + 3) ls []) rfl kk
theorem n_ret {w1 : (Nat → Nat) → va_W} (u : Nat → Nat) (hx : p.tables.exec = Jvm.exec) (hb : c.code = cc) (hr : meth.sig.returnType = none) (hlk : meth.locks = false) (hK : va_K D vwCl tys s) (B : BD D A s.heap (w1 u) H locs) (hdg : decode cc pc = .ok (.return_, 1)) :
    W p l e R s m args below meth c H locs cells slots (MQ below (va_Qv (fun _ : Nat → Nat => True) (fun u t => va_P D vwCl (w1 u) t.heap ∧ va_K D vwCl tys t ∧ va_D A (w1 u)) A) args s cells slots A) (F0 m pc ls []) :=
  W.vret hx hb hr (fun t ht hW => ⟨⟨u, rfl, trivial, by rw [ht]; exact B.1, va_K.moved hW.alike hK, B.2.1⟩, B.2.2.F ht⟩) B.2.2.2.2 hdg hlk
end YC
theorem CC.of {l : Launch} {D : va_G} {tys : List (ClassId × FieldType)} {y : MethodName} {cc : ByteArray} {nL mc ms : Nat} {rm : Room} {as : List Value} {e0 : va_W} {w1 : (Nat → Nat) → va_W} (hy : plainName y.cls = true) (hnm : y.name = "<init>") (hn : (lg_sl as).length ≤ nL)
    (h : ∀ (p : Program) (e : Env) (s : State) (m : MethodId) (below : List Frame) (meth : Method) (c : Code) (A : Nat → Prop) (ls : Array Slot), p.tables.exec = Jvm.exec → c.code = cc → meth.sig.returnType = none → meth.locks = false → c.maxLocals = nL → (∀ w ∈ wsL_law, w.before as.toArray s = true) → s.vm.findClass y.cls = some m.cls → meth.name = "<init>" → va_K D vwCl tys s → (∀ q, s.heap.size ≤ q → A q) → BD D A s.heap e0 s.heap [] → lv_has ls nL (lv_args 0 as) → W p l e rm s m as.toArray below meth c s.heap [] 0 0 (MQ below (va_Qv (fun _ : Nat → Nat => True) (fun u t => va_P D vwCl (w1 u) t.heap ∧ va_K D vwCl tys t ∧ va_D A (w1 u)) A) as.toArray s mc ms A) (F0 m 0 ls [])) :
    CC l D tys y (.code y cc nL none :: wsL_law) rm as e0 w1 mc ms := by
  intro sz
  refine Met.ofW (cc := cc) (maxL := nL) (ret := none) hy rfl ?_
  intro p e s m args below meth c s₁ B hml hv
  obtain ⟨rfl, hsz, hP, hK, hD0⟩ := hv
  subst hsz
  have hts := atoms_spec (ws := .code y cc nL none :: wsL_law) B.pre
  have hl := lv_entry as (n := nL) hn
  rw [lg_entry_eq]
  exact h p e s m below meth c (va_A e0 s.heap.size) _ B.exec B.bytes B.returns B.notSynchronized hml (fun w hw => hts w (List.mem_cons_of_mem _ hw)) (findClass_of_methodNamed B.named) ((name_of_methodNamed B.named B.method).1.trans hnm) hK (fun q h => Or.inr h) ⟨hP, hD0.self, va_S.rf⟩ hl
