/-! the memory of a system: rows of ints by their number; a single int is a constant row -/
abbrev Mm : Type := Nat → Nat → Int32
def st (σ : Mm) (k : Nat) (f : Nat → Int32) : Mm := fun j => if j = k then f else σ j
theorem st_eq (σ : Mm) (k : Nat) (f : Nat → Int32) : st σ k f k = f := if_pos rfl
theorem st_ne (σ : Mm) {j k : Nat} (f : Nat → Int32) (h : j ≠ k) : st σ k f j = σ j := if_neg h
def sc (σ : Mm) (k : Nat) (v : Int32) : Mm := st σ k (fun _ => v)
/-- reading and writing a row of n places; none where the machine would throw -/
def ald (n : Nat) (f : Nat → Int32) (i : Int32) : Option Int32 := if i < 0 ∨ n ≤ i.toNatClampNeg then none else some (f i.toNatClampNeg)
def ast (n : Nat) (σ : Mm) (k : Nat) (i v : Int32) : Option Mm := if i < 0 ∨ n ≤ i.toNatClampNeg then none else some (st σ k (upd (σ k) i.toNatClampNeg v))
def nz (y x : Int32) : Option Int32 := if y = 0 then none else some x
def zb (v : Int32) : Option Int32 := if v = 0 ∨ v = 1 then some v else none
/-- a Row's methods -/
def rat (n : Nat) (f : Nat → Int32) (i : Int32) : Int32 := if i < 0 ∨ n ≤ i.toNatClampNeg then 0 else f i.toNatClampNeg
def rput (n : Nat) (σ : Mm) (k : Nat) (i v : Int32) : Mm := if i < 0 ∨ n ≤ i.toNatClampNeg then σ else st σ k (upd (σ k) i.toNatClampNeg v)
def radd (n : Nat) (σ : Mm) (k : Nat) (i v : Int32) : Mm := if i < 0 ∨ n ≤ i.toNatClampNeg then σ else st σ k (upd (σ k) i.toNatClampNeg (σ k i.toNatClampNeg + v))
def rfill (n : Nat) (σ : Mm) (k : Nat) (v : Int32) : Mm := st σ k (fun j => if j < n then v else σ k j)
def rcopy (n : Nat) (σ : Mm) (k : Nat) (n2 k2 : Nat) : Mm := st σ k (fun j => if j < n then (if j < n2 then σ k2 j else 0) else σ k j)
theorem no_none {α : Type} {x : α} {P : Prop} (h : (none : Option α) = some x) : P := by cases h
/-- loops: a step told of the loop itself, so many times at most -/
def wh1 {A1 α : Type} (f : (A1 → Option α) → A1 → Option α) : Nat → A1 → Option α
  | 0, _ => none
  | n + 1, a1 => f (wh1 f n) a1
def wh2 {A1 A2 α : Type} (f : (A1 → A2 → Option α) → A1 → A2 → Option α) : Nat → A1 → A2 → Option α
  | 0, _, _ => none
  | n + 1, a1, a2 => f (wh2 f n) a1 a2
def wh3 {A1 A2 A3 α : Type} (f : (A1 → A2 → A3 → Option α) → A1 → A2 → A3 → Option α) : Nat → A1 → A2 → A3 → Option α
  | 0, _, _, _ => none
  | n + 1, a1, a2, a3 => f (wh3 f n) a1 a2 a3
def wh4 {A1 A2 A3 A4 α : Type} (f : (A1 → A2 → A3 → A4 → Option α) → A1 → A2 → A3 → A4 → Option α) : Nat → A1 → A2 → A3 → A4 → Option α
  | 0, _, _, _, _ => none
  | n + 1, a1, a2, a3, a4 => f (wh4 f n) a1 a2 a3 a4
def wh5 {A1 A2 A3 A4 A5 α : Type} (f : (A1 → A2 → A3 → A4 → A5 → Option α) → A1 → A2 → A3 → A4 → A5 → Option α) : Nat → A1 → A2 → A3 → A4 → A5 → Option α
  | 0, _, _, _, _, _ => none
  | n + 1, a1, a2, a3, a4, a5 => f (wh5 f n) a1 a2 a3 a4 a5
/-- a world that is a memory's: where its rows and its numbers stand -/
def IsA (ww : Mm → va_W) (cA : ClassId) (k n p a : Nat) : Prop := (∀ σ, (ww σ)[p]? = some (a, .inl (cA, n, .inl (σ k)))) ∧ ∀ (σ : Mm) (f : Nat → Int32), (ww σ).set p (a, .inl (cA, n, .inl f)) = ww (st σ k f)
def IsO (ww : Mm → va_W) (ci q a : Nat) : Prop := ∀ σ, ∃ fs, (ww σ)[q]? = some (a, .inr (ci, fs))
def IsV (ww : Mm → va_W) (ci q a i : Nat) (v : Value) : Prop := ∀ σ, ∃ fs, (ww σ)[q]? = some (a, .inr (ci, fs)) ∧ fs[i]? = some v
def IsI (ww : Mm → va_W) (ci q a i k : Nat) : Prop := ∀ σ, ∃ fs, (ww σ)[q]? = some (a, .inr (ci, fs)) ∧ fs[i]? = some (.int (σ k 0)) ∧ ∀ v, (ww σ).set q (a, .inr (ci, fs.set i (.int v))) = ww (sc σ k v)
theorem IsV.o {ww : Mm → va_W} {ci q a i : Nat} {v : Value} (h : IsV ww ci q a i v) : IsO ww ci q a := fun σ => by obtain ⟨fs, h1, -⟩ := h σ; exact ⟨fs, h1⟩
theorem IsI.o {ww : Mm → va_W} {ci q a i k : Nat} (h : IsI ww ci q a i k) : IsO ww ci q a := fun σ => by obtain ⟨fs, h1, -⟩ := h σ; exact ⟨fs, h1⟩
def BD (D : va_G) (A : Nat → Prop) (H0 : Heap) (ws : va_W) (H : Heap) (locs : List Loc) : Prop := va_P D vwCl ws H ∧ va_D A ws ∧ va_S A H0 H locs
/-- contracts: from a memory, by a function that says what comes; int, void, and an int that changes nothing -/
def QI (D : va_G) (tys : List (ClassId × FieldType)) (ww : Mm → va_W) (A : Nat → Prop) (out : Int32 × Mm) : Array Value → State → Outcome → State → Prop :=
  va_Qi (fun (r : Int32) (u : Mm) => r = out.1 ∧ u = out.2) (fun u t => va_P D vwCl (ww u) t.heap ∧ va_K D vwCl tys t ∧ va_D A (ww u)) A
def QV (D : va_G) (tys : List (ClassId × FieldType)) (ww : Mm → va_W) (A : Nat → Prop) (out : Mm) : Array Value → State → Outcome → State → Prop :=
  va_Qv (fun (u : Mm) => u = out) (fun u t => va_P D vwCl (ww u) t.heap ∧ va_K D vwCl tys t ∧ va_D A (ww u)) A
def PC (D : va_G) (tys : List (ClassId × FieldType)) (ws : va_W) (as : List Value) (sz : Nat) : Array Value → State → Prop :=
  va_Pc as (fun U => U.heap.size = sz ∧ va_P D vwCl ws U.heap ∧ va_K D vwCl tys U ∧ va_D (fun _ => True) ws)
def CTi (l : Launch) (D : va_G) (tys : List (ClassId × FieldType)) (ww : Mm → va_W) (y : MethodName) (wds : List Cond) (rm : Room) (as : List Value) (f : Mm → Option (Int32 × Mm)) : Prop :=
  ∀ (sz : Nat) (σ : Mm) (out : Int32 × Mm), f σ = some out → Met l y wds rm (PC D tys (ww σ) as sz) (QI D tys ww (va_A (ww σ) sz) out) 0 0 (va_A (ww σ) sz)
def CTv (l : Launch) (D : va_G) (tys : List (ClassId × FieldType)) (ww : Mm → va_W) (y : MethodName) (wds : List Cond) (rm : Room) (as : List Value) (f : Mm → Option Mm) : Prop :=
  ∀ (sz : Nat) (σ : Mm) (out : Mm), f σ = some out → Met l y wds rm (PC D tys (ww σ) as sz) (QV D tys ww (va_A (ww σ) sz) out) 0 0 (va_A (ww σ) sz)
def CTr (l : Launch) (D : va_G) (tys : List (ClassId × FieldType)) (ww : Mm → va_W) (y : MethodName) (wds : List Cond) (rm : Room) (as : List Value) (f : Mm → Option Int32) : Prop :=
  ∀ (sz : Nat) (σ : Mm) (r : Int32), f σ = some r → Met l y wds rm (PC D tys (ww σ) as sz) (QI D tys ww (va_A (ww σ) sz) (r, σ)) 0 0 (va_A (ww σ) sz)
/-- what the tables say of a method that is called -/
def MI (y : MethodName) (bytes : ByteArray) (maxL : Nat) (ret : Option FieldType) (n : Nat) : Prop :=
  (y.cls ≠ "java/lang/invoke/MethodHandle" ∧ y.cls ≠ "java/lang/invoke/VarHandle" ∧ (parseMethodDescriptor y.desc).map (fun d => d.parameters.length) = some n) ∧ Cond.initialized y.cls ∈ wsL_law ∧ Cond.code y bytes maxL ret ∈ wsL_law
def MV (y : MethodName) : Prop := Cond.instanceMethod y ∈ wsL_law ∧ Cond.selects y.cls y y ∈ wsL_law
/-- every word of the list holds wherever the launch has got to -/
theorem w_pay {s : State} {args : Array Value} (hT : ∀ w ∈ wsL_law, w.before args s = true) : ∀ w ∈ wsL_law, ∀ (a' : Array Value) (U : State), s.WarmedH U.vm → w.before a' U = true := by
  intro w hw a' U hW
  have h := hT w hw
  have hg := (List.mem_filter.mp hw).2
  rcases (Bool.or_eq_true _ _).mp hg with g | g
  · exact word_at hW (good_of_word g) h
  · cases w <;> first | (cases g; done) | exact va_Nw.use rfl (va_Nw.warmF hW (va_Nw.of rfl h)) | exact va_Nw.use rfl (va_Nw.warmM hW (va_Nw.of rfl h))
theorem w_payC {s : State} {args : Array Value} {v : Cond} (hT : ∀ w ∈ wsL_law, w.before args s = true) (hv : v ∈ wsL_law) : ∀ w ∈ v :: wsL_law, ∀ (a' : Array Value) (U : State), s.WarmedH U.vm → w.before a' U = true := by
  intro w hw
  rcases List.mem_cons.mp hw with rfl | hw
  · exact w_pay hT _ hv
  · exact w_pay hT _ hw
theorem cb_of {s : State} {args : Array Value} {R rm : Room} {own : String} {index maxL n : Nat} {y : MethodName} {bytes : ByteArray} {ret : Option FieldType} (hT : ∀ w ∈ wsL_law, w.before args s = true) (hy : MI y bytes maxL ret n) (hl : Cond.methodLink own index y ∈ wsL_law) (hrc : rm.cells = 0 ∧ rm.slots = 0) (hR : rm.frames + 1 ≤ R.frames ∧ 8 + (maxL + 11) + rm.locals ≤ R.locals) :
    CallB R s args own index y bytes maxL ret (.code y bytes maxL ret :: wsL_law) rm 0 0 n := by
  obtain ⟨⟨h1, h2, h3⟩, h4, h5⟩ := hy
  refine ⟨hrc.1, hrc.2, hR.1, hR.2, w_payC hT h5, List.mem_cons_self, hT _ h5, hT _ h4, ⟨h1, h2⟩, fun sig h => ?_, hT _ hl⟩
  rw [h] at h3
  exact (Option.some.inj h3).symm
theorem cn_of {s : State} {args : Array Value} {R rm : Room} {own host : String} {index maxL n : Nat} {y : MethodName} {bytes : ByteArray} {ret : Option FieldType} (hT : ∀ w ∈ wsL_law, w.before args s = true) (hy : MI y bytes maxL ret n) (hl : Cond.methodLinkNest own index y host ∈ wsL_law) (hrc : rm.cells = 0 ∧ rm.slots = 0) (hR : rm.frames + 1 ≤ R.frames ∧ 8 + (maxL + 11) + rm.locals ≤ R.locals) :
    va_CN R s args own index y host bytes maxL ret (.code y bytes maxL ret :: wsL_law) rm 0 0 n := by
  obtain ⟨⟨h1, h2, h3⟩, h4, h5⟩ := hy
  refine ⟨⟨hrc.1, hrc.2, hR.1, hR.2, w_payC hT h5, List.mem_cons_self⟩, hT _ h5, hT _ h4, ⟨h1, h2⟩, fun sig h => ?_, hT _ hl⟩
  rw [h] at h3
  exact (Option.some.inj h3).symm
theorem fr_all {A : Nat → Prop} {ws : va_W} {H0 H : Heap} {locs : List Loc} (hD : va_D A ws) (hS : va_S A H0 H locs) (hA : ∀ q, H0.size ≤ q → A q) : ∀ q, va_A ws H.size q → A q := by
  intro q h
  rcases h with ⟨k, e, h⟩ | h
  · exact hD.2 k (q, e) h
  · exact hA q (Nat.le_trans hS.1 h)
theorem pc_blind {D : va_G} {tys : List (ClassId × FieldType)} {ws : va_W} {as : List Value} {sz : Nat} : FrameBlind (PC D tys ws as sz) := by
  intro a U g mk q
  obtain ⟨q0, q1, qP, qK, qD⟩ := q
  exact ⟨q0, q1, qP, va_K.moved (u := U) (U := U.calling g mk a) (Vm.Alike.refl U.vm) qK, qD⟩
section XR
variable {p : Program} {l : Launch} {e : Env} {R : Room} {s : State} {m : MethodId} {args : Array Value} {below : List Frame} {meth : Method} {c : Code} {H : Heap} {locs : List Loc} {Q : State → Prop}
variable {cc : ByteArray} {pc : Nat} {ls : Array Slot} {rest : List Value} {D : va_G} {A : Nat → Prop} {a : Nat} {tys : List (ClassId × FieldType)} {ww : Mm → va_W} {H0 : Heap} {σ : Mm} {α : Type} {out : α}
theorem x_getv {own ref C : String} {T : u_T} {N ci index q k : Nat} {v : Value} (hx : p.tables.exec = Jvm.exec) (hb : c.code = cc) (hT : ∀ w ∈ wsL_law, w.before args s = true) (hown : s.vm.findClass own = some m.cls) (hK : va_K D vwCl tys s) (B : BD D A H0 (ww σ) H locs)
    (hV : IsV ww ci q a k v) (hin : ∀ w ∈ u_ws C T N, w ∈ wsL_law) (hc : vwCl[ci]? = some (C, T, N)) (hk : k < N) (hlk : Cond.fieldLink own index ref (T k).2.1 (T k).2.2.1 ∈ wsL_law) (hr : ref = (T k).1) (hdg : decode cc pc = .ok (.getfield index, 3))
    (kk : W p l e R s m args below meth c H locs 0 0 Q (F0 m (pc + 3) ls (v :: rest))) : W p l e R s m args below meth c H locs 0 0 Q (F0 m pc ls (.ref a :: rest)) := by
  obtain ⟨fs, h1, h2⟩ := hV σ
  subst hr
  exact va_get hx hb hT hin hown hK B.1 q h1 hc k hk (hT _ hlk) (fun _ h9 => h9) h2 hdg kk
theorem x_geti {own ref C : String} {T : u_T} {N ci index q k i : Nat} (hx : p.tables.exec = Jvm.exec) (hb : c.code = cc) (hT : ∀ w ∈ wsL_law, w.before args s = true) (hown : s.vm.findClass own = some m.cls) (hK : va_K D vwCl tys s) (B : BD D A H0 (ww σ) H locs)
    (hV : IsI ww ci q a i k) (hin : ∀ w ∈ u_ws C T N, w ∈ wsL_law) (hc : vwCl[ci]? = some (C, T, N)) (hk : i < N) (hlk : Cond.fieldLink own index ref (T i).2.1 (T i).2.2.1 ∈ wsL_law) (hr : ref = (T i).1) (hdg : decode cc pc = .ok (.getfield index, 3))
    (kk : W p l e R s m args below meth c H locs 0 0 Q (F0 m (pc + 3) ls (.int (σ k 0) :: rest))) : W p l e R s m args below meth c H locs 0 0 Q (F0 m pc ls (.ref a :: rest)) := by
  obtain ⟨fs, h1, h2, -⟩ := hV σ
  subst hr
  exact va_get hx hb hT hin hown hK B.1 q h1 hc i hk (hT _ hlk) (fun _ h9 => h9) h2 hdg kk
theorem x_puti {own ref C : String} {T : u_T} {N ci index q k i : Nat} {ty0 : Nat → FieldType} {ty : FieldType} {v : Int32} {body : Mm → Option α} (hx : p.tables.exec = Jvm.exec) (hb : c.code = cc) (hT : ∀ w ∈ wsL_law, w.before args s = true) (hown : s.vm.findClass own = some m.cls) (hK : va_K D vwCl tys s) (B : BD D A H0 (ww σ) H locs)
    (hV : IsI ww ci q a i k) (hin : ∀ w ∈ u_ws C T N, w ∈ wsL_law) (hty : ∀ k, k < N → parseFieldDescriptor (T k).2.2.1 = some (ty0 k)) (hnm : ∀ a, a < N → ∀ b, b < N → a ≠ b → (T a).2.1 ≠ (T b).2.1) (hc : vwCl[ci]? = some (C, T, N)) (hk : i < N) (hlk : Cond.fieldLink own index ref (T i).2.1 (T i).2.2.1 ∈ wsL_law) (hr : ref = (T i).1) (hfin : (T i).2.2.2 = false) (hd : ty0 i = ty) (hn : narrow ty (.int v) = .int v) (hfit : fits ty (.int v) = true) (hdg : decode cc pc = .ok (.putfield index, 3))
    (hm : (some (sc σ k v)).bind body = some out)
    (kk : ∀ (σ1 : Mm) (H1 : Heap) (locs1 : List Loc), BD D A H0 (ww σ1) H1 locs1 → body σ1 = some out → W p l e R s m args below meth c H1 locs1 0 0 Q (F0 m (pc + 3) ls rest)) : W p l e R s m args below meth c H locs 0 0 Q (F0 m pc ls (.int v :: .ref a :: rest)) := by
  obtain ⟨fs, h1, h2, h3⟩ := hV σ
  subst hr
  refine va_put hx hb hT hin ty0 hty hnm hown hK B.1 B.2.1 B.2.2 q h1 hc i hk (hT _ hlk) (fun _ h9 => h9) hfin (hty i hk) (by rw [hd]; exact hn) (by rw [hd]; exact hfit) (List.getElem?_eq_some_iff.mp h2).1 hdg (fun H1 locs1 hP hD hS => ?_)
  rw [h3 v] at hP hD
  exact kk (sc σ k v) H1 locs1 ⟨hP, hD, hS⟩ hm
theorem x_getib {own ref C : String} {T : u_T} {N ci index q k i : Nat} {body : Int32 → Option α} (hx : p.tables.exec = Jvm.exec) (hb : c.code = cc) (hT : ∀ w ∈ wsL_law, w.before args s = true) (hown : s.vm.findClass own = some m.cls) (hK : va_K D vwCl tys s) (B : BD D A H0 (ww σ) H locs)
    (hV : IsI ww ci q a i k) (hin : ∀ w ∈ u_ws C T N, w ∈ wsL_law) (hc : vwCl[ci]? = some (C, T, N)) (hk : i < N) (hlk : Cond.fieldLink own index ref (T i).2.1 (T i).2.2.1 ∈ wsL_law) (hr : ref = (T i).1) (hdg : decode cc pc = .ok (.getfield index, 3))
    (hm : (some (σ k 0)).bind body = some out) (kk : ∀ v : Int32, body v = some out → W p l e R s m args below meth c H locs 0 0 Q (F0 m (pc + 3) ls (.int v :: rest))) : W p l e R s m args below meth c H locs 0 0 Q (F0 m pc ls (.ref a :: rest)) := by
  obtain ⟨fs, h1, h2, -⟩ := hV σ
  subst hr
  exact va_get hx hb hT hin hown hK B.1 q h1 hc i hk (hT _ hlk) (fun _ h9 => h9) h2 hdg (kk _ hm)
theorem x_getvN {own ref C host : String} {T : u_T} {N ci index q k : Nat} {v : Value} (hx : p.tables.exec = Jvm.exec) (hb : c.code = cc) (hT : ∀ w ∈ wsL_law, w.before args s = true) (hown : s.vm.findClass own = some m.cls) (hK : va_K D vwCl tys s) (B : BD D A H0 (ww σ) H locs)
    (hV : IsV ww ci q a k v) (hin : ∀ w ∈ u_ws C T N, w ∈ wsL_law) (hc : vwCl[ci]? = some (C, T, N)) (hk : k < N) (hlk : Cond.fieldLinkNest own index ref (T k).2.1 (T k).2.2.1 host ∈ wsL_law) (hr : ref = (T k).1) (hdg : decode cc pc = .ok (.getfield index, 3))
    (kk : W p l e R s m args below meth c H locs 0 0 Q (F0 m (pc + 3) ls (v :: rest))) : W p l e R s m args below meth c H locs 0 0 Q (F0 m pc ls (.ref a :: rest)) := by
  obtain ⟨fs, h1, h2⟩ := hV σ
  subst hr
  exact va_getN hx hb hT hin hown hK B.1 q h1 hc k hk (hT _ hlk) (fun _ h9 => h9) h2 hdg kk
theorem x_getiN {own ref C host : String} {T : u_T} {N ci index q k i : Nat} (hx : p.tables.exec = Jvm.exec) (hb : c.code = cc) (hT : ∀ w ∈ wsL_law, w.before args s = true) (hown : s.vm.findClass own = some m.cls) (hK : va_K D vwCl tys s) (B : BD D A H0 (ww σ) H locs)
    (hV : IsI ww ci q a i k) (hin : ∀ w ∈ u_ws C T N, w ∈ wsL_law) (hc : vwCl[ci]? = some (C, T, N)) (hk : i < N) (hlk : Cond.fieldLinkNest own index ref (T i).2.1 (T i).2.2.1 host ∈ wsL_law) (hr : ref = (T i).1) (hdg : decode cc pc = .ok (.getfield index, 3))
    (kk : W p l e R s m args below meth c H locs 0 0 Q (F0 m (pc + 3) ls (.int (σ k 0) :: rest))) : W p l e R s m args below meth c H locs 0 0 Q (F0 m pc ls (.ref a :: rest)) := by
  obtain ⟨fs, h1, h2, -⟩ := hV σ
  subst hr
  exact va_getN hx hb hT hin hown hK B.1 q h1 hc i hk (hT _ hlk) (fun _ h9 => h9) h2 hdg kk
theorem x_getibN {own ref C host : String} {T : u_T} {N ci index q k i : Nat} {body : Int32 → Option α} (hx : p.tables.exec = Jvm.exec) (hb : c.code = cc) (hT : ∀ w ∈ wsL_law, w.before args s = true) (hown : s.vm.findClass own = some m.cls) (hK : va_K D vwCl tys s) (B : BD D A H0 (ww σ) H locs)
    (hV : IsI ww ci q a i k) (hin : ∀ w ∈ u_ws C T N, w ∈ wsL_law) (hc : vwCl[ci]? = some (C, T, N)) (hk : i < N) (hlk : Cond.fieldLinkNest own index ref (T i).2.1 (T i).2.2.1 host ∈ wsL_law) (hr : ref = (T i).1) (hdg : decode cc pc = .ok (.getfield index, 3))
    (hm : (some (σ k 0)).bind body = some out) (kk : ∀ v : Int32, body v = some out → W p l e R s m args below meth c H locs 0 0 Q (F0 m (pc + 3) ls (.int v :: rest))) : W p l e R s m args below meth c H locs 0 0 Q (F0 m pc ls (.ref a :: rest)) := by
  obtain ⟨fs, h1, h2, -⟩ := hV σ
  subst hr
  exact va_getN hx hb hT hin hown hK B.1 q h1 hc i hk (hT _ hlk) (fun _ h9 => h9) h2 hdg (kk _ hm)
theorem x_putiN {own ref C host : String} {T : u_T} {N ci index q k i : Nat} {ty0 : Nat → FieldType} {ty : FieldType} {v : Int32} {body : Mm → Option α} (hx : p.tables.exec = Jvm.exec) (hb : c.code = cc) (hT : ∀ w ∈ wsL_law, w.before args s = true) (hown : s.vm.findClass own = some m.cls) (hK : va_K D vwCl tys s) (B : BD D A H0 (ww σ) H locs)
    (hV : IsI ww ci q a i k) (hin : ∀ w ∈ u_ws C T N, w ∈ wsL_law) (hty : ∀ k, k < N → parseFieldDescriptor (T k).2.2.1 = some (ty0 k)) (hnm : ∀ a, a < N → ∀ b, b < N → a ≠ b → (T a).2.1 ≠ (T b).2.1) (hc : vwCl[ci]? = some (C, T, N)) (hk : i < N) (hlk : Cond.fieldLinkNest own index ref (T i).2.1 (T i).2.2.1 host ∈ wsL_law) (hr : ref = (T i).1) (hfin : (T i).2.2.2 = false) (hd : ty0 i = ty) (hn : narrow ty (.int v) = .int v) (hfit : fits ty (.int v) = true) (hdg : decode cc pc = .ok (.putfield index, 3))
    (hm : (some (sc σ k v)).bind body = some out)
    (kk : ∀ (σ1 : Mm) (H1 : Heap) (locs1 : List Loc), BD D A H0 (ww σ1) H1 locs1 → body σ1 = some out → W p l e R s m args below meth c H1 locs1 0 0 Q (F0 m (pc + 3) ls rest)) : W p l e R s m args below meth c H locs 0 0 Q (F0 m pc ls (.int v :: .ref a :: rest)) := by
  obtain ⟨fs, h1, h2, h3⟩ := hV σ
  subst hr
  refine va_putN hx hb hT hin ty0 hty hnm hown hK B.1 B.2.1 B.2.2 q h1 hc i hk (hT _ hlk) (fun _ h9 => h9) hfin (hty i hk) (by rw [hd]; exact hn) (by rw [hd]; exact hfit) (List.getElem?_eq_some_iff.mp h2).1 hdg (fun H1 locs1 hP hD hS => ?_)
  rw [h3 v] at hP hD
  exact kk (sc σ k v) H1 locs1 ⟨hP, hD, hS⟩ hm
theorem x_iald {cA : ClassId} {k n q t0 : Nat} {i : Int32} {body : Int32 → Option α} (hx : p.tables.exec = Jvm.exec) (hb : c.code = cc) (hK : va_K D vwCl tys s) (B : BD D A H0 (ww σ) H locs) (hI : IsA ww cA k n q a) (ht : tys[t0]? = some (cA, .int)) (hdg : decode cc pc = .ok (.iaload, 1))
    (hm : (ald n (σ k) i).bind body = some out) (kk : ∀ v : Int32, body v = some out → W p l e R s m args below meth c H locs 0 0 Q (F0 m (pc + 1) ls (.int v :: rest))) : W p l e R s m args below meth c H locs 0 0 Q (F0 m pc ls (.int i :: .ref a :: rest)) := by
  unfold ald at hm
  split at hm
  · exact no_none hm
  · rename_i h
    exact va_iald hx hb hK B.1 q t0 (hI.1 σ) ht h hdg (kk _ hm)
theorem x_zald {cA : ClassId} {k n q t0 : Nat} {i : Int32} {body : Int32 → Option α} (hx : p.tables.exec = Jvm.exec) (hb : c.code = cc) (hK : va_K D vwCl tys s) (B : BD D A H0 (ww σ) H locs) (hI : IsA ww cA k n q a) (ht : tys[t0]? = some (cA, .boolean)) (hdg : decode cc pc = .ok (.baload, 1))
    (hm : (ald n (σ k) i).bind body = some out) (kk : ∀ v : Int32, body v = some out → W p l e R s m args below meth c H locs 0 0 Q (F0 m (pc + 1) ls (.int v :: rest))) : W p l e R s m args below meth c H locs 0 0 Q (F0 m pc ls (.int i :: .ref a :: rest)) := by
  unfold ald at hm
  split at hm
  · exact no_none hm
  · rename_i h
    exact va_zald hx hb hK B.1 q t0 (hI.1 σ) ht h hdg (kk _ hm)
theorem x_iast {cA : ClassId} {k n q t0 : Nat} {i v : Int32} {body : Mm → Option α} (hx : p.tables.exec = Jvm.exec) (hb : c.code = cc) (hK : va_K D vwCl tys s) (B : BD D A H0 (ww σ) H locs) (hI : IsA ww cA k n q a) (ht : tys[t0]? = some (cA, .int)) (hdg : decode cc pc = .ok (.iastore, 1))
    (hm : (ast n σ k i v).bind body = some out) (kk : ∀ (σ1 : Mm) (H1 : Heap) (locs1 : List Loc), BD D A H0 (ww σ1) H1 locs1 → body σ1 = some out → W p l e R s m args below meth c H1 locs1 0 0 Q (F0 m (pc + 1) ls rest)) : W p l e R s m args below meth c H locs 0 0 Q (F0 m pc ls (.int v :: .int i :: .ref a :: rest)) := by
  unfold ast at hm
  split at hm
  · exact no_none hm
  · rename_i h
    refine va_iast hx hb hK B.1 B.2.1 B.2.2 q t0 (hI.1 σ) ht h hdg (fun H1 locs1 hP hD hS => ?_)
    rw [hI.2] at hP hD
    exact kk _ H1 locs1 ⟨hP, hD, hS⟩ hm
theorem x_zast {cA : ClassId} {k n q t0 : Nat} {i v : Int32} {body : Mm → Option α} (hx : p.tables.exec = Jvm.exec) (hb : c.code = cc) (hK : va_K D vwCl tys s) (B : BD D A H0 (ww σ) H locs) (hI : IsA ww cA k n q a) (ht : tys[t0]? = some (cA, .boolean)) (hv : vp_nar .boolean v = v) (hdg : decode cc pc = .ok (.bastore, 1))
    (hm : (ast n σ k i v).bind body = some out) (kk : ∀ (σ1 : Mm) (H1 : Heap) (locs1 : List Loc), BD D A H0 (ww σ1) H1 locs1 → body σ1 = some out → W p l e R s m args below meth c H1 locs1 0 0 Q (F0 m (pc + 1) ls rest)) : W p l e R s m args below meth c H locs 0 0 Q (F0 m pc ls (.int v :: .int i :: .ref a :: rest)) := by
  unfold ast at hm
  split at hm
  · exact no_none hm
  · rename_i h
    refine va_zast hx hb hK B.1 B.2.1 B.2.2 q t0 (hI.1 σ) ht h hdg (fun H1 locs1 hP hD hS => ?_)
    rw [hv, hI.2] at hP hD
    exact kk _ H1 locs1 ⟨hP, hD, hS⟩ hm
theorem x_alen {cA : ClassId} {k n q t0 : Nat} {ty : FieldType} {v : Int32} (hx : p.tables.exec = Jvm.exec) (hb : c.code = cc) (hK : va_K D vwCl tys s) (B : BD D A H0 (ww σ) H locs) (hI : IsA ww cA k n q a) (ht : tys[t0]? = some (cA, ty)) (hv : Int32.ofNat n = v) (hdg : decode cc pc = .ok (.arraylength, 1))
    (kk : W p l e R s m args below meth c H locs 0 0 Q (F0 m (pc + 1) ls (.int v :: rest))) : W p l e R s m args below meth c H locs 0 0 Q (F0 m pc ls (.ref a :: rest)) :=
  va_alen hx hb hK B.1 q t0 (hI.1 σ) ht hv hdg kk
theorem x_idiv {x y : Int32} {body : Int32 → Option α} (hx : p.tables.exec = Jvm.exec) (hb : c.code = cc) (hdg : decode cc pc = .ok (.idiv, 1)) (hm : (nz y (x / y)).bind body = some out)
    (kk : ∀ v : Int32, body v = some out → W p l e R s m args below meth c H locs 0 0 Q (F0 m (pc + 1) ls (.int v :: rest))) : W p l e R s m args below meth c H locs 0 0 Q (F0 m pc ls (.int y :: .int x :: rest)) := by
  unfold nz at hm
  split at hm
  · exact no_none hm
  · rename_i h
    exact lv_idiv hx hb hdg h (kk _ hm)
theorem x_irem {x y : Int32} {body : Int32 → Option α} (hx : p.tables.exec = Jvm.exec) (hb : c.code = cc) (hdg : decode cc pc = .ok (.irem, 1)) (hm : (nz y (x - x / y * y)).bind body = some out)
    (kk : ∀ v : Int32, body v = some out → W p l e R s m args below meth c H locs 0 0 Q (F0 m (pc + 1) ls (.int v :: rest))) : W p l e R s m args below meth c H locs 0 0 Q (F0 m pc ls (.int y :: .int x :: rest)) := by
  unfold nz at hm
  split at hm
  · exact no_none hm
  · rename_i h
    exact lv_irem hx hb hdg h (kk _ hm)
end XR
section XC
variable {p : Program} {l : Launch} {e : Env} {R : Room} {s : State} {m : MethodId} {args : Array Value} {below : List Frame} {meth : Method} {c : Code} {H : Heap} {locs : List Loc} {Q : State → Prop}
variable {cc : ByteArray} {pc nL : Nat} {ls : Array Slot} {rest : List Value} {D : va_G} {A : Nat → Prop} {a : Nat} {tys : List (ClassId × FieldType)} {ww : Mm → va_W} {H0 : Heap} {σ : Mm} {α : Type} {out : α}
/-- behind a call that had the whole world -/
theorem bd_back {σ1 : Mm} {H1 : Heap} {locs1 : List Loc} (hA : ∀ q, H0.size ≤ q → A q) (B : BD D A H0 (ww σ) H locs) (hP1 : va_P D vwCl (ww σ1) H1) (hD1 : va_D (va_A (ww σ) H.size) (ww σ1)) (hS1 : va_S A H0 H1 locs1) : BD D A H0 (ww σ1) H1 locs1 :=
  ⟨hP1, hD1.weaken (fun _ q _ h => fr_all B.2.1 B.2.2 hA q.1 h), hS1⟩
theorem x_callVi {own : String} {index maxL n ci q : Nat} {y : MethodName} {bytes : ByteArray} {ret : Option FieldType} {rm : Room} {As : List Value} {f : Mm → Option (Int32 × Mm)} {body : Int32 × Mm → Option α}
    (hx : p.tables.exec = Jvm.exec) (hb : c.code = cc) (hml : c.maxLocals = nL) (hT : ∀ w ∈ wsL_law, w.before args s = true) (hown : s.vm.findClass own = some m.cls) (hK : va_K D vwCl tys s) (hA : ∀ q, H0.size ≤ q → A q) (B : BD D A H0 (ww σ) H locs) (hl : ls.size = nL)
    (hM : CTi l D tys ww y (.code y bytes maxL ret :: wsL_law) rm (.ref a :: As) f) (hy : MI y bytes maxL ret n) (hv : MV y) (hO : IsO ww ci q a) (hc : (vwCl[ci]?).map (fun r => r.1) = some y.cls) (hlk : Cond.methodLink own index y ∈ wsL_law)
    (hrc : rm.cells = 0 ∧ rm.slots = 0) (hR : rm.frames + 1 ≤ R.frames ∧ 8 + (maxL + 11) + rm.locals ≤ R.locals) (hn : As.length = n) {st0 : List Value} (hst : st0 = As.reverse ++ .ref a :: rest) (hW : (rest.map fun v => v.category).sum ≤ 8) (hdg : decode cc pc = .ok (.invokevirtual index, 3))
    (hm : (f σ).bind body = some out) (kk : ∀ (r : Int32) (σ1 : Mm) (H1 : Heap) (locs1 : List Loc), BD D A H0 (ww σ1) H1 locs1 → body (r, σ1) = some out → W p l e R s m args below meth c H1 locs1 0 0 Q (F0 m (pc + 3) ls (.int r :: rest))) : W p l e R s m args below meth c H locs 0 0 Q (F0 m pc ls st0) := by
  obtain ⟨⟨r0, σ1⟩, hf, hm2⟩ := Option.bind_eq_some_iff.mp hm
  obtain ⟨fs, hO⟩ := hO σ
  obtain ⟨rc, hc1, hc2⟩ := Option.map_eq_some_iff.mp hc
  subst hst
  refine va_calli (va_runV (As := As) (rest := rest) (C := y.cls) (n := n) ⟨hx, hb, hml, hown, hT⟩ (hM H.size σ _ hf) ⟨cb_of hT hy hlk hrc hR, hT _ hv.1, hT _ hv.2⟩ ⟨pc_blind, by rw [← hc2]; exact va_recv hK B.1 hc1 hO, fun U hU hW => ⟨rfl, by rw [hU], by rw [hU]; exact B.1, va_K.moved hW.alike hK, B.2.1.weaken (fun _ _ _ _ => trivial)⟩⟩ rfl hn hl rfl (lv_room hW) hdg ⟨Nat.zero_le _, Nat.zero_le _⟩) B.2.2 (fun q _ h => fr_all B.2.1 B.2.2 hA q h) (fr_all B.2.1 B.2.2 hA) (fun r u t H1 locs1 ht hvm hw hB hz1 hk1 hS => ?_)
  obtain ⟨e1, e2⟩ := hw
  obtain ⟨hP1, hK1, hD1⟩ := hB
  rw [ht] at hP1
  dsimp only at e1 e2
  subst e1; subst e2
  exact kk _ _ H1 locs1 (bd_back hA B hP1 hD1 hS) hm2
theorem x_callVv {own : String} {index maxL n ci q : Nat} {y : MethodName} {bytes : ByteArray} {ret : Option FieldType} {rm : Room} {As : List Value} {f : Mm → Option Mm} {body : Mm → Option α}
    (hx : p.tables.exec = Jvm.exec) (hb : c.code = cc) (hml : c.maxLocals = nL) (hT : ∀ w ∈ wsL_law, w.before args s = true) (hown : s.vm.findClass own = some m.cls) (hK : va_K D vwCl tys s) (hA : ∀ q, H0.size ≤ q → A q) (B : BD D A H0 (ww σ) H locs) (hl : ls.size = nL)
    (hM : CTv l D tys ww y (.code y bytes maxL ret :: wsL_law) rm (.ref a :: As) f) (hy : MI y bytes maxL ret n) (hv : MV y) (hO : IsO ww ci q a) (hc : (vwCl[ci]?).map (fun r => r.1) = some y.cls) (hlk : Cond.methodLink own index y ∈ wsL_law)
    (hrc : rm.cells = 0 ∧ rm.slots = 0) (hR : rm.frames + 1 ≤ R.frames ∧ 8 + (maxL + 11) + rm.locals ≤ R.locals) (hn : As.length = n) {st0 : List Value} (hst : st0 = As.reverse ++ .ref a :: rest) (hW : (rest.map fun v => v.category).sum ≤ 8) (hdg : decode cc pc = .ok (.invokevirtual index, 3))
    (hm : (f σ).bind body = some out) (kk : ∀ (σ1 : Mm) (H1 : Heap) (locs1 : List Loc), BD D A H0 (ww σ1) H1 locs1 → body σ1 = some out → W p l e R s m args below meth c H1 locs1 0 0 Q (F0 m (pc + 3) ls rest)) : W p l e R s m args below meth c H locs 0 0 Q (F0 m pc ls st0) := by
  obtain ⟨σ1, hf, hm2⟩ := Option.bind_eq_some_iff.mp hm
  obtain ⟨fs, hO⟩ := hO σ
  obtain ⟨rc, hc1, hc2⟩ := Option.map_eq_some_iff.mp hc
  subst hst
  refine va_callv (va_runV (As := As) (rest := rest) (C := y.cls) (n := n) ⟨hx, hb, hml, hown, hT⟩ (hM H.size σ _ hf) ⟨cb_of hT hy hlk hrc hR, hT _ hv.1, hT _ hv.2⟩ ⟨pc_blind, by rw [← hc2]; exact va_recv hK B.1 hc1 hO, fun U hU hW => ⟨rfl, by rw [hU], by rw [hU]; exact B.1, va_K.moved hW.alike hK, B.2.1.weaken (fun _ _ _ _ => trivial)⟩⟩ rfl hn hl rfl (lv_room hW) hdg ⟨Nat.zero_le _, Nat.zero_le _⟩) B.2.2 (fun q _ h => fr_all B.2.1 B.2.2 hA q h) (fr_all B.2.1 B.2.2 hA) (fun u t H1 locs1 ht hvm hw hB hz1 hk1 hS => ?_)
  obtain ⟨hP1, hK1, hD1⟩ := hB
  rw [ht] at hP1
  subst hw
  exact kk _ H1 locs1 (bd_back hA B hP1 hD1 hS) hm2
theorem x_callVr {own : String} {index maxL n ci q : Nat} {y : MethodName} {bytes : ByteArray} {ret : Option FieldType} {rm : Room} {As : List Value} {f : Mm → Option Int32} {body : Int32 → Option α}
    (hx : p.tables.exec = Jvm.exec) (hb : c.code = cc) (hml : c.maxLocals = nL) (hT : ∀ w ∈ wsL_law, w.before args s = true) (hown : s.vm.findClass own = some m.cls) (hK : va_K D vwCl tys s) (hA : ∀ q, H0.size ≤ q → A q) (B : BD D A H0 (ww σ) H locs) (hl : ls.size = nL)
    (hM : CTr l D tys ww y (.code y bytes maxL ret :: wsL_law) rm (.ref a :: As) f) (hy : MI y bytes maxL ret n) (hv : MV y) (hO : IsO ww ci q a) (hc : (vwCl[ci]?).map (fun r => r.1) = some y.cls) (hlk : Cond.methodLink own index y ∈ wsL_law)
    (hrc : rm.cells = 0 ∧ rm.slots = 0) (hR : rm.frames + 1 ≤ R.frames ∧ 8 + (maxL + 11) + rm.locals ≤ R.locals) (hn : As.length = n) {st0 : List Value} (hst : st0 = As.reverse ++ .ref a :: rest) (hW : (rest.map fun v => v.category).sum ≤ 8) (hdg : decode cc pc = .ok (.invokevirtual index, 3))
    (hm : (f σ).bind body = some out) (kk : ∀ (r : Int32) (H1 : Heap) (locs1 : List Loc), BD D A H0 (ww σ) H1 locs1 → body r = some out → W p l e R s m args below meth c H1 locs1 0 0 Q (F0 m (pc + 3) ls (.int r :: rest))) : W p l e R s m args below meth c H locs 0 0 Q (F0 m pc ls st0) := by
  obtain ⟨r0, hf, hm2⟩ := Option.bind_eq_some_iff.mp hm
  obtain ⟨fs, hO⟩ := hO σ
  obtain ⟨rc, hc1, hc2⟩ := Option.map_eq_some_iff.mp hc
  subst hst
  refine va_calli (va_runV (As := As) (rest := rest) (C := y.cls) (n := n) ⟨hx, hb, hml, hown, hT⟩ (hM H.size σ _ hf) ⟨cb_of hT hy hlk hrc hR, hT _ hv.1, hT _ hv.2⟩ ⟨pc_blind, by rw [← hc2]; exact va_recv hK B.1 hc1 hO, fun U hU hW => ⟨rfl, by rw [hU], by rw [hU]; exact B.1, va_K.moved hW.alike hK, B.2.1.weaken (fun _ _ _ _ => trivial)⟩⟩ rfl hn hl rfl (lv_room hW) hdg ⟨Nat.zero_le _, Nat.zero_le _⟩) B.2.2 (fun q _ h => fr_all B.2.1 B.2.2 hA q h) (fr_all B.2.1 B.2.2 hA) (fun r u t H1 locs1 ht hvm hw hB hz1 hk1 hS => ?_)
  obtain ⟨e1, e2⟩ := hw
  obtain ⟨hP1, hK1, hD1⟩ := hB
  rw [ht] at hP1
  dsimp only at e1 e2
  subst e1; subst e2
  exact kk _ H1 locs1 (bd_back hA B hP1 hD1 hS) hm2
theorem x_callSr {own : String} {index maxL n : Nat} {y : MethodName} {bytes : ByteArray} {ret : Option FieldType} {rm : Room} {As : List Value} {f : Mm → Option Int32} {body : Int32 → Option α}
    (hx : p.tables.exec = Jvm.exec) (hb : c.code = cc) (hml : c.maxLocals = nL) (hT : ∀ w ∈ wsL_law, w.before args s = true) (hown : s.vm.findClass own = some m.cls) (hK : va_K D vwCl tys s) (hA : ∀ q, H0.size ≤ q → A q) (B : BD D A H0 (ww σ) H locs) (hl : ls.size = nL)
    (hM : CTr l D tys ww y (.code y bytes maxL ret :: wsL_law) rm As f) (hy : MI y bytes maxL ret n) (hv : Cond.static y ∈ wsL_law) (hlk : Cond.methodLink own index y ∈ wsL_law)
    (hrc : rm.cells = 0 ∧ rm.slots = 0) (hR : rm.frames + 1 ≤ R.frames ∧ 8 + (maxL + 11) + rm.locals ≤ R.locals) (hn : As.length = n) {st0 : List Value} (hst : st0 = As.reverse ++ rest) (hW : (rest.map fun v => v.category).sum ≤ 8) (hdg : decode cc pc = .ok (.invokestatic index, 3))
    (hm : (f σ).bind body = some out) (kk : ∀ (r : Int32) (H1 : Heap) (locs1 : List Loc), BD D A H0 (ww σ) H1 locs1 → body r = some out → W p l e R s m args below meth c H1 locs1 0 0 Q (F0 m (pc + 3) ls (.int r :: rest))) : W p l e R s m args below meth c H locs 0 0 Q (F0 m pc ls st0) := by
  obtain ⟨r0, hf, hm2⟩ := Option.bind_eq_some_iff.mp hm
  subst hst
  refine va_calli (va_runS (As := As) (rest := rest) (n := n) ⟨hx, hb, hml, hown, hT⟩ (hM H.size σ _ hf) ⟨cb_of hT hy hlk hrc hR, hT _ hv⟩ ⟨pc_blind, fun U hU hW => ⟨rfl, by rw [hU], by rw [hU]; exact B.1, va_K.moved hW.alike hK, B.2.1.weaken (fun _ _ _ _ => trivial)⟩⟩ rfl hn hl rfl (lv_room hW) hdg ⟨Nat.zero_le _, Nat.zero_le _⟩) B.2.2 (fun q _ h => fr_all B.2.1 B.2.2 hA q h) (fr_all B.2.1 B.2.2 hA) (fun r u t H1 locs1 ht hvm hw hB hz1 hk1 hS => ?_)
  obtain ⟨e1, e2⟩ := hw
  obtain ⟨hP1, hK1, hD1⟩ := hB
  rw [ht] at hP1
  dsimp only at e1 e2
  subst e1; subst e2
  exact kk _ H1 locs1 (bd_back hA B hP1 hD1 hS) hm2
theorem x_callSrN {own host : String} {index maxL n : Nat} {y : MethodName} {bytes : ByteArray} {ret : Option FieldType} {rm : Room} {As : List Value} {f : Mm → Option Int32} {body : Int32 → Option α}
    (hx : p.tables.exec = Jvm.exec) (hb : c.code = cc) (hml : c.maxLocals = nL) (hT : ∀ w ∈ wsL_law, w.before args s = true) (hown : s.vm.findClass own = some m.cls) (hK : va_K D vwCl tys s) (hA : ∀ q, H0.size ≤ q → A q) (B : BD D A H0 (ww σ) H locs) (hl : ls.size = nL)
    (hM : CTr l D tys ww y (.code y bytes maxL ret :: wsL_law) rm As f) (hy : MI y bytes maxL ret n) (hv : Cond.static y ∈ wsL_law) (hlk : Cond.methodLinkNest own index y host ∈ wsL_law)
    (hrc : rm.cells = 0 ∧ rm.slots = 0) (hR : rm.frames + 1 ≤ R.frames ∧ 8 + (maxL + 11) + rm.locals ≤ R.locals) (hn : As.length = n) {st0 : List Value} (hst : st0 = As.reverse ++ rest) (hW : (rest.map fun v => v.category).sum ≤ 8) (hdg : decode cc pc = .ok (.invokestatic index, 3))
    (hm : (f σ).bind body = some out) (kk : ∀ (r : Int32) (H1 : Heap) (locs1 : List Loc), BD D A H0 (ww σ) H1 locs1 → body r = some out → W p l e R s m args below meth c H1 locs1 0 0 Q (F0 m (pc + 3) ls (.int r :: rest))) : W p l e R s m args below meth c H locs 0 0 Q (F0 m pc ls st0) := by
  obtain ⟨r0, hf, hm2⟩ := Option.bind_eq_some_iff.mp hm
  subst hst
  refine va_calli (va_runSN (As := As) (rest := rest) (n := n) ⟨hx, hb, hml, hown, hT⟩ (hM H.size σ _ hf) ⟨cn_of hT hy hlk hrc hR, hT _ hv, trivial⟩ ⟨pc_blind, fun U hU hW => ⟨rfl, by rw [hU], by rw [hU]; exact B.1, va_K.moved hW.alike hK, B.2.1.weaken (fun _ _ _ _ => trivial)⟩⟩ rfl hn hl rfl (lv_room hW) hdg ⟨Nat.zero_le _, Nat.zero_le _⟩) B.2.2 (fun q _ h => fr_all B.2.1 B.2.2 hA q h) (fr_all B.2.1 B.2.2 hA) (fun r u t H1 locs1 ht hvm hw hB hz1 hk1 hS => ?_)
  obtain ⟨e1, e2⟩ := hw
  obtain ⟨hP1, hK1, hD1⟩ := hB
  rw [ht] at hP1
  dsimp only at e1 e2
  subst e1; subst e2
  exact kk _ H1 locs1 (bd_back hA B hP1 hD1 hS) hm2
/-- the ends -/
theorem x_iret {v : Int32} {out : Int32 × Mm} (hx : p.tables.exec = Jvm.exec) (hb : c.code = cc) (hr : meth.sig.returnType = some .int) (hlk : meth.locks = false) (hK : va_K D vwCl tys s) (B : BD D A s.heap (ww σ) H locs) (hdg : decode cc pc = .ok (.ireturn, 1)) (hm : some (v, σ) = some out) :
    W p l e R s m args below meth c H locs 0 0 (MQ below (QI D tys ww A out) args s 0 0 A) (F0 m pc ls [.int v]) := by
  cases hm
  exact W.iret (v := v) hx hb hr (fun t ht hW => ⟨⟨v, σ, rfl, ⟨rfl, rfl⟩, by rw [ht]; exact B.1, va_K.moved hW.alike hK, B.2.1⟩, B.2.2.F ht⟩) B.2.2.2.2 hdg hlk
theorem x_iretr {v r : Int32} (hx : p.tables.exec = Jvm.exec) (hb : c.code = cc) (hr : meth.sig.returnType = some .int) (hlk : meth.locks = false) (hK : va_K D vwCl tys s) (B : BD D A s.heap (ww σ) H locs) (hdg : decode cc pc = .ok (.ireturn, 1)) (hm : some v = some r) :
    W p l e R s m args below meth c H locs 0 0 (MQ below (QI D tys ww A (r, σ)) args s 0 0 A) (F0 m pc ls [.int v]) := by
  cases hm
  exact W.iret (v := v) hx hb hr (fun t ht hW => ⟨⟨v, σ, rfl, ⟨rfl, rfl⟩, by rw [ht]; exact B.1, va_K.moved hW.alike hK, B.2.1⟩, B.2.2.F ht⟩) B.2.2.2.2 hdg hlk
theorem x_zretr {v r : Int32} {ty : FieldType} (hx : p.tables.exec = Jvm.exec) (hb : c.code = cc) (hr : meth.sig.returnType = some ty) (hlk : meth.locks = false) (hK : va_K D vwCl tys s) (B : BD D A s.heap (ww σ) H locs) (hn : narrow ty (.int v) = .int v) (hdg : decode cc pc = .ok (.ireturn, 1)) (hm : some v = some r) :
    W p l e R s m args below meth c H locs 0 0 (MQ below (QI D tys ww A (r, σ)) args s 0 0 A) (F0 m pc ls [.int v]) := by
  cases hm
  exact W.zret (v := v) hx hb hr hn (fun t ht hW => ⟨⟨v, σ, rfl, ⟨rfl, rfl⟩, by rw [ht]; exact B.1, va_K.moved hW.alike hK, B.2.1⟩, B.2.2.F ht⟩) B.2.2.2.2 hdg hlk
theorem zb_narrow {v w : Int32} (h : zb v = some w) : narrow .boolean (.int v) = .int v ∧ w = v := by
  unfold zb at h
  split at h
  · rename_i q
    cases h
    rcases q with rfl | rfl <;> exact ⟨rfl, rfl⟩
  · cases h
theorem x_zbretr {v r : Int32} (hx : p.tables.exec = Jvm.exec) (hb : c.code = cc) (hr : meth.sig.returnType = some .boolean) (hlk : meth.locks = false) (hK : va_K D vwCl tys s) (B : BD D A s.heap (ww σ) H locs) (hdg : decode cc pc = .ok (.ireturn, 1)) (hm : zb v = some r) :
    W p l e R s m args below meth c H locs 0 0 (MQ below (QI D tys ww A (r, σ)) args s 0 0 A) (F0 m pc ls [.int v]) := by
  obtain ⟨h1, h2⟩ := zb_narrow hm
  exact x_zretr hx hb hr hlk hK B h1 hdg (by rw [h2])
theorem x_vret {out : Mm} (hx : p.tables.exec = Jvm.exec) (hb : c.code = cc) (hr : meth.sig.returnType = none) (hlk : meth.locks = false) (hK : va_K D vwCl tys s) (B : BD D A s.heap (ww σ) H locs) (hdg : decode cc pc = .ok (.return_, 1)) (hm : some σ = some out) :
    W p l e R s m args below meth c H locs 0 0 (MQ below (QV D tys ww A out) args s 0 0 A) (F0 m pc ls []) := by
  cases hm
  exact W.vret hx hb hr (fun t ht hW => ⟨⟨σ, rfl, rfl, by rw [ht]; exact B.1, va_K.moved hW.alike hK, B.2.1⟩, B.2.2.F ht⟩) B.2.2.2.2 hdg hlk
end XC
section XB
variable {l : Launch} {D : va_G} {tys : List (ClassId × FieldType)} {ww : Mm → va_W} {y : MethodName} {cc : ByteArray} {nL : Nat} {ret : Option FieldType} {rm : Room} {as : List Value}
def BodyW (l : Launch) (D : va_G) (tys : List (ClassId × FieldType)) (ww : Mm → va_W) (y : MethodName) (cc : ByteArray) (nL : Nat) (ret : Option FieldType) (rm : Room) (as : List Value) (σ : Mm) (QQ : (Nat → Prop) → Array Value → State → Outcome → State → Prop) : Prop :=
  ∀ (p : Program) (e : Env) (s : State) (m : MethodId) (below : List Frame) (meth : Method) (c : Code) (A : Nat → Prop) (ls : Array Slot) (H : Heap) (locs : List Loc), p.tables.exec = Jvm.exec → c.code = cc → meth.sig.returnType = ret → meth.locks = false → c.maxLocals = nL → (∀ w ∈ wsL_law, w.before as.toArray s = true) → s.vm.findClass y.cls = some m.cls → va_K D vwCl tys s → (∀ q, s.heap.size ≤ q → A q) → BD D A s.heap (ww σ) H locs → lv_has ls nL (lv_args 0 as) → W p l e rm s m as.toArray below meth c H locs 0 0 (MQ below (QQ A) as.toArray s 0 0 A) (F0 m 0 ls [])
theorem met_of {sz : Nat} {σ : Mm} {QQ : (Nat → Prop) → Array Value → State → Outcome → State → Prop} (hy : plainName y.cls = true) (hn : (lg_sl as).length ≤ nL) (h : BodyW l D tys ww y cc nL ret rm as σ QQ) :
    Met l y (.code y cc nL ret :: wsL_law) rm (PC D tys (ww σ) as sz) (QQ (va_A (ww σ) sz)) 0 0 (va_A (ww σ) sz) := by
  refine Met.ofW (cc := cc) (maxL := nL) (ret := ret) hy rfl ?_
  intro p e s m args below meth c s₁ B hml hv
  obtain ⟨rfl, hsz, hP, hK, hD0⟩ := hv
  subst hsz
  have hts := atoms_spec (ws := .code y cc nL ret :: wsL_law) B.pre
  have hl := lv_entry as (n := nL) hn
  rw [lg_entry_eq]
  exact h p e s m below meth c (va_A (ww σ) s.heap.size) _ s.heap [] B.exec B.bytes B.returns B.notSynchronized hml (fun w hw => hts w (List.mem_cons_of_mem _ hw)) (findClass_of_methodNamed B.named) hK (fun q h => Or.inr h) ⟨hP, hD0.self, va_S.rf⟩ hl
theorem CTi.of {f : Mm → Option (Int32 × Mm)} (hy : plainName y.cls = true) (hn : (lg_sl as).length ≤ nL) (h : ∀ σ out, f σ = some out → BodyW l D tys ww y cc nL ret rm as σ (fun A => QI D tys ww A out)) : CTi l D tys ww y (.code y cc nL ret :: wsL_law) rm as f :=
  fun _ σ out hf => met_of (QQ := fun A => QI D tys ww A out) hy hn (h σ out hf)
theorem CTv.of {f : Mm → Option Mm} (hy : plainName y.cls = true) (hn : (lg_sl as).length ≤ nL) (h : ∀ σ out, f σ = some out → BodyW l D tys ww y cc nL ret rm as σ (fun A => QV D tys ww A out)) : CTv l D tys ww y (.code y cc nL ret :: wsL_law) rm as f :=
  fun _ σ out hf => met_of (QQ := fun A => QV D tys ww A out) hy hn (h σ out hf)
theorem CTr.of {f : Mm → Option Int32} (hy : plainName y.cls = true) (hn : (lg_sl as).length ≤ nL) (h : ∀ σ r, f σ = some r → BodyW l D tys ww y cc nL ret rm as σ (fun A => QI D tys ww A (r, σ))) : CTr l D tys ww y (.code y cc nL ret :: wsL_law) rm as f :=
  fun _ σ r hf => met_of (QQ := fun A => QI D tys ww A (r, σ)) hy hn (h σ r hf)
end XB
theorem ift {α : Type} {c : Prop} [Decidable c] {A B : Option α} {x : α} (h : (if c then A else B) = some x) (hc : c) : A = some x := by rwa [if_pos hc] at h
theorem iff {α : Type} {c : Prop} [Decidable c] {A B : Option α} {x : α} (h : (if c then A else B) = some x) (hc : ¬ c) : B = some x := by rwa [if_neg hc] at h
theorem loop1 {A1 α : Type} {f : (A1 → Option α) → A1 → Option α} {P : A1 → Prop} {out : α} (hs : ∀ r : A1 → Option α, (∀ a1, r a1 = some out → P a1) → ∀ a1, f r a1 = some out → P a1) : ∀ n a1, wh1 f n a1 = some out → P a1
  | 0, _, h => no_none h
  | n + 1, a1, h => hs (wh1 f n) (loop1 hs n) a1 h
theorem loop2 {A1 A2 α : Type} {f : (A1 → A2 → Option α) → A1 → A2 → Option α} {P : A1 → A2 → Prop} {out : α} (hs : ∀ r : A1 → A2 → Option α, (∀ a1 a2, r a1 a2 = some out → P a1 a2) → ∀ a1 a2, f r a1 a2 = some out → P a1 a2) : ∀ n a1 a2, wh2 f n a1 a2 = some out → P a1 a2
  | 0, _, _, h => no_none h
  | n + 1, a1, a2, h => hs (wh2 f n) (loop2 hs n) a1 a2 h
theorem loop3 {A1 A2 A3 α : Type} {f : (A1 → A2 → A3 → Option α) → A1 → A2 → A3 → Option α} {P : A1 → A2 → A3 → Prop} {out : α} (hs : ∀ r : A1 → A2 → A3 → Option α, (∀ a1 a2 a3, r a1 a2 a3 = some out → P a1 a2 a3) → ∀ a1 a2 a3, f r a1 a2 a3 = some out → P a1 a2 a3) : ∀ n a1 a2 a3, wh3 f n a1 a2 a3 = some out → P a1 a2 a3
  | 0, _, _, _, h => no_none h
  | n + 1, a1, a2, a3, h => hs (wh3 f n) (loop3 hs n) a1 a2 a3 h
theorem loop4 {A1 A2 A3 A4 α : Type} {f : (A1 → A2 → A3 → A4 → Option α) → A1 → A2 → A3 → A4 → Option α} {P : A1 → A2 → A3 → A4 → Prop} {out : α} (hs : ∀ r : A1 → A2 → A3 → A4 → Option α, (∀ a1 a2 a3 a4, r a1 a2 a3 a4 = some out → P a1 a2 a3 a4) → ∀ a1 a2 a3 a4, f r a1 a2 a3 a4 = some out → P a1 a2 a3 a4) : ∀ n a1 a2 a3 a4, wh4 f n a1 a2 a3 a4 = some out → P a1 a2 a3 a4
  | 0, _, _, _, _, h => no_none h
  | n + 1, a1, a2, a3, a4, h => hs (wh4 f n) (loop4 hs n) a1 a2 a3 a4 h
theorem loop5 {A1 A2 A3 A4 A5 α : Type} {f : (A1 → A2 → A3 → A4 → A5 → Option α) → A1 → A2 → A3 → A4 → A5 → Option α} {P : A1 → A2 → A3 → A4 → A5 → Prop} {out : α} (hs : ∀ r : A1 → A2 → A3 → A4 → A5 → Option α, (∀ a1 a2 a3 a4 a5, r a1 a2 a3 a4 a5 = some out → P a1 a2 a3 a4 a5) → ∀ a1 a2 a3 a4 a5, f r a1 a2 a3 a4 a5 = some out → P a1 a2 a3 a4 a5) : ∀ n a1 a2 a3 a4 a5, wh5 f n a1 a2 a3 a4 a5 = some out → P a1 a2 a3 a4 a5
  | 0, _, _, _, _, _, h => no_none h
  | n + 1, a1, a2, a3, a4, a5, h => hs (wh5 f n) (loop5 hs n) a1 a2 a3 a4 a5 h
theorem zb_all {v w : Int32} (h : zb v = some w) : narrow .boolean (.int v) = .int v ∧ fits .boolean (.int v) = true ∧ w = v := by
  unfold zb at h
  split at h
  · rename_i q
    cases h
    rcases q with rfl | rfl <;> exact ⟨rfl, rfl, rfl⟩
  · cases h
section XM
variable {p : Program} {l : Launch} {e : Env} {R : Room} {s : State} {m : MethodId} {args : Array Value} {below : List Frame} {meth : Method} {c : Code} {H : Heap} {locs : List Loc} {Q : State → Prop}
variable {pc : Nat} {ls : Array Slot} {rest : List Value} {cc : ByteArray} {α : Type} {out : α}
theorem x_mmax {own : String} {index : Nat} {x y : Int32} {body : Int32 → Option α} (hx : p.tables.exec = Jvm.exec) (hb : c.code = cc) (hml : c.maxLocals = ls.size) (hown : s.vm.findClass own = some m.cls) (hlink : (Cond.methodLink own index Lib.Math.max.name).before args s = true) (hstat : (Cond.static Lib.Math.max.name).before args s = true) (hini : (Cond.initialized "java/lang/Math").before args s = true) (hcode : (Cond.code Lib.Math.max.name Lib.Math.max.code 2 (some .int)).before args s = true)
    (hframes : 1 ≤ R.frames) (hlocals : (rest.map fun v => v.category).sum + 13 ≤ R.locals) (hdg : decode cc pc = .ok (.invokestatic index, 3)) (hm : (some (if x < y then y else x)).bind body = some out)
    (kk : ∀ v : Int32, body v = some out → W p l e R s m args below meth c H locs 0 0 Q (F0 m (pc + 3) ls (.int v :: rest))) : W p l e R s m args below meth c H locs 0 0 Q (F0 m pc ls (.int y :: .int x :: rest)) :=
  va_mmax hx hb hml hown hlink hstat hini hcode hframes hlocals (Nat.zero_le _) (Nat.zero_le _) hdg (kk _ hm)
theorem x_mmin {own : String} {index : Nat} {x y : Int32} {body : Int32 → Option α} (hx : p.tables.exec = Jvm.exec) (hb : c.code = cc) (hml : c.maxLocals = ls.size) (hown : s.vm.findClass own = some m.cls) (hlink : (Cond.methodLink own index Lib.Math.min.name).before args s = true) (hstat : (Cond.static Lib.Math.min.name).before args s = true) (hini : (Cond.initialized "java/lang/Math").before args s = true) (hcode : (Cond.code Lib.Math.min.name Lib.Math.min.code 2 (some .int)).before args s = true)
    (hframes : 1 ≤ R.frames) (hlocals : (rest.map fun v => v.category).sum + 13 ≤ R.locals) (hdg : decode cc pc = .ok (.invokestatic index, 3)) (hm : (some (if y < x then y else x)).bind body = some out)
    (kk : ∀ v : Int32, body v = some out → W p l e R s m args below meth c H locs 0 0 Q (F0 m (pc + 3) ls (.int v :: rest))) : W p l e R s m args below meth c H locs 0 0 Q (F0 m pc ls (.int y :: .int x :: rest)) :=
  va_mmin hx hb hml hown hlink hstat hini hcode hframes hlocals (Nat.zero_le _) (Nat.zero_le _) hdg (kk _ hm)
theorem x_mabs {own : String} {index : Nat} {x : Int32} {body : Int32 → Option α} (hx : p.tables.exec = Jvm.exec) (hb : c.code = cc) (hml : c.maxLocals = ls.size) (hown : s.vm.findClass own = some m.cls) (hlink : (Cond.methodLink own index Lib.Math.abs.name).before args s = true) (hstat : (Cond.static Lib.Math.abs.name).before args s = true) (hini : (Cond.initialized "java/lang/Math").before args s = true) (hcode : (Cond.code Lib.Math.abs.name Lib.Math.abs.code 1 (some .int)).before args s = true)
    (hframes : 1 ≤ R.frames) (hlocals : (rest.map fun v => v.category).sum + 13 ≤ R.locals) (hdg : decode cc pc = .ok (.invokestatic index, 3)) (hm : (some (if 0 ≤ x then x else 0 - x)).bind body = some out)
    (kk : ∀ v : Int32, body v = some out → W p l e R s m args below meth c H locs 0 0 Q (F0 m (pc + 3) ls (.int v :: rest))) : W p l e R s m args below meth c H locs 0 0 Q (F0 m pc ls (.int x :: rest)) :=
  va_mabs hx hb hml hown hlink hstat hini hcode hframes hlocals (Nat.zero_le _) (Nat.zero_le _) hdg (kk _ hm)
end XM
