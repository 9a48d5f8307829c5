def nestWord : Cond → Bool
  | .fieldLinkNest .. => true
  | .methodLinkNest .. => true
  | _ => false
def wsL_law : List Cond := lw_tbl.filter (fun w => goodWord w || nestWord w)
theorem wsL_law_in : ∀ w ∈ wsL_law, w ∈ lw_tbl := fun _ h => (List.mem_filter.mp h).1
theorem w_in {w : Cond} (h : w ∈ lw_tbl) (g : (goodWord w || nestWord w) = true) : w ∈ wsL_law := List.mem_filter.mpr ⟨h, g⟩
theorem in_t1 {w : Cond} (h : w ∈ tables_1_1) : w ∈ lw_tbl := List.mem_append_right _ (List.mem_append_left _ h)
theorem in_t2 {w : Cond} (h : w ∈ tables_1_2) : w ∈ lw_tbl := List.mem_append_right _ (List.mem_append_right _ (List.mem_append_left _ h))
theorem in_t3 {w : Cond} (h : w ∈ tables_1_3) : w ∈ lw_tbl := List.mem_append_right _ (List.mem_append_right _ (List.mem_append_right _ (List.mem_append_left _ h)))
theorem in_t4 {w : Cond} (h : w ∈ tables_1_4) : w ∈ lw_tbl := List.mem_append_right _ (List.mem_append_right _ (List.mem_append_right _ (List.mem_append_right _ (List.mem_append_left _ h))))
theorem in_t5 {w : Cond} (h : w ∈ tables_1_5) : w ∈ lw_tbl := List.mem_append_right _ (List.mem_append_right _ (List.mem_append_right _ (List.mem_append_right _ (List.mem_append_right _ (List.mem_append_left _ h)))))
theorem in_t6 {w : Cond} (h : w ∈ tables_1_6) : w ∈ lw_tbl := List.mem_append_right _ (List.mem_append_right _ (List.mem_append_right _ (List.mem_append_right _ (List.mem_append_right _ (List.mem_append_right _ h)))))
theorem in_sel {w : Cond} (h : w ∈ k2_sels lw_privs) : w ∈ lw_tbl := List.mem_append_left _ h
theorem in_priv1 {q : MethodName × Nat} (h : q ∈ lw_privs_1) : q ∈ lw_privs := List.mem_append_left _ h
theorem in_priv2 {q : MethodName × Nat} (h : q ∈ lw_privs_2) : q ∈ lw_privs := List.mem_append_right _ (List.mem_append_left _ h)
theorem in_priv3 {q : MethodName × Nat} (h : q ∈ lw_privs_3) : q ∈ lw_privs := List.mem_append_right _ (List.mem_append_right _ (List.mem_append_left _ h))
theorem in_priv4 {q : MethodName × Nat} (h : q ∈ lw_privs_4) : q ∈ lw_privs := List.mem_append_right _ (List.mem_append_right _ (List.mem_append_right _ (List.mem_append_left _ h)))
theorem in_priv5 {q : MethodName × Nat} (h : q ∈ lw_privs_5) : q ∈ lw_privs := List.mem_append_right _ (List.mem_append_right _ (List.mem_append_right _ (List.mem_append_right _ h)))
theorem ikX0 : ∀ k, k < 12 → u_lay RX0 TX0 k ∈ wsL_law
  | 0, _ => w_in (in_t1 (List.mem_of_getElem? (i := 82) (by decide +kernel))) rfl
  | 1, _ => w_in (in_t1 (List.mem_of_getElem? (i := 84) (by decide +kernel))) rfl
  | 2, _ => w_in (in_t1 (List.mem_of_getElem? (i := 86) (by decide +kernel))) rfl
  | 3, _ => w_in (in_t1 (List.mem_of_getElem? (i := 88) (by decide +kernel))) rfl
  | 4, _ => w_in (in_t1 (List.mem_of_getElem? (i := 90) (by decide +kernel))) rfl
  | 5, _ => w_in (in_t1 (List.mem_of_getElem? (i := 92) (by decide +kernel))) rfl
  | 6, _ => w_in (in_t1 (List.mem_of_getElem? (i := 94) (by decide +kernel))) rfl
  | 7, _ => w_in (in_t1 (List.mem_of_getElem? (i := 96) (by decide +kernel))) rfl
  | 8, _ => w_in (in_t1 (List.mem_of_getElem? (i := 98) (by decide +kernel))) rfl
  | 9, _ => w_in (in_t1 (List.mem_of_getElem? (i := 100) (by decide +kernel))) rfl
  | 10, _ => w_in (in_t1 (List.mem_of_getElem? (i := 102) (by decide +kernel))) rfl
  | 11, _ => w_in (in_t1 (List.mem_of_getElem? (i := 104) (by decide +kernel))) rfl
  | n + 12, h => absurd h (by omega)
theorem inlX0 : ∀ w ∈ u_ws RX0 TX0 12, w ∈ wsL_law := by
  intro w h
  obtain ⟨k, hk, rfl⟩ := List.mem_map.mp h
  exact ikX0 k (List.mem_range.mp hk)
theorem ikX1 : ∀ k, k < 8 → u_lay RX1 TX1 k ∈ wsL_law
  | 0, _ => w_in (in_t1 (List.mem_of_getElem? (i := 173) (by decide +kernel))) rfl
  | 1, _ => w_in (in_t1 (List.mem_of_getElem? (i := 175) (by decide +kernel))) rfl
  | 2, _ => w_in (in_t1 (List.mem_of_getElem? (i := 177) (by decide +kernel))) rfl
  | 3, _ => w_in (in_t1 (List.mem_of_getElem? (i := 179) (by decide +kernel))) rfl
  | 4, _ => w_in (in_t1 (List.mem_of_getElem? (i := 181) (by decide +kernel))) rfl
  | 5, _ => w_in (in_t1 (List.mem_of_getElem? (i := 183) (by decide +kernel))) rfl
  | 6, _ => w_in (in_t1 (List.mem_of_getElem? (i := 185) (by decide +kernel))) rfl
  | 7, _ => w_in (in_t1 (List.mem_of_getElem? (i := 187) (by decide +kernel))) rfl
  | n + 8, h => absurd h (by omega)
theorem inlX1 : ∀ w ∈ u_ws RX1 TX1 8, w ∈ wsL_law := by
  intro w h
  obtain ⟨k, hk, rfl⟩ := List.mem_map.mp h
  exact ikX1 k (List.mem_range.mp hk)
theorem ikX2 : ∀ k, k < 1 → u_lay RX2 TX2 k ∈ wsL_law
  | 0, _ => w_in (in_t1 (List.mem_of_getElem? (i := 40) (by decide +kernel))) rfl
  | n + 1, h => absurd h (by omega)
theorem inlX2 : ∀ w ∈ u_ws RX2 TX2 1, w ∈ wsL_law := by
  intro w h
  obtain ⟨k, hk, rfl⟩ := List.mem_map.mp h
  exact ikX2 k (List.mem_range.mp hk)
theorem ikX3 : ∀ k, k < 2 → u_lay RX3 TX3 k ∈ wsL_law
  | 0, _ => w_in (in_t1 (List.mem_of_getElem? (i := 220) (by decide +kernel))) rfl
  | 1, _ => w_in (in_t1 (List.mem_of_getElem? (i := 222) (by decide +kernel))) rfl
  | n + 2, h => absurd h (by omega)
theorem inlX3 : ∀ w ∈ u_ws RX3 TX3 2, w ∈ wsL_law := by
  intro w h
  obtain ⟨k, hk, rfl⟩ := List.mem_map.mp h
  exact ikX3 k (List.mem_range.mp hk)
theorem ikX4 : ∀ k, k < 10 → u_lay RX4 TX4 k ∈ wsL_law
  | 0, _ => w_in (in_t1 (List.mem_of_getElem? (i := 136) (by decide +kernel))) rfl
  | 1, _ => w_in (in_t1 (List.mem_of_getElem? (i := 138) (by decide +kernel))) rfl
  | 2, _ => w_in (in_t1 (List.mem_of_getElem? (i := 140) (by decide +kernel))) rfl
  | 3, _ => w_in (in_t1 (List.mem_of_getElem? (i := 142) (by decide +kernel))) rfl
  | 4, _ => w_in (in_t1 (List.mem_of_getElem? (i := 144) (by decide +kernel))) rfl
  | 5, _ => w_in (in_t1 (List.mem_of_getElem? (i := 146) (by decide +kernel))) rfl
  | 6, _ => w_in (in_t1 (List.mem_of_getElem? (i := 148) (by decide +kernel))) rfl
  | 7, _ => w_in (in_t1 (List.mem_of_getElem? (i := 150) (by decide +kernel))) rfl
  | 8, _ => w_in (in_t1 (List.mem_of_getElem? (i := 152) (by decide +kernel))) rfl
  | 9, _ => w_in (in_t1 (List.mem_of_getElem? (i := 154) (by decide +kernel))) rfl
  | n + 10, h => absurd h (by omega)
theorem inlX4 : ∀ w ∈ u_ws RX4 TX4 10, w ∈ wsL_law := by
  intro w h
  obtain ⟨k, hk, rfl⟩ := List.mem_map.mp h
  exact ikX4 k (List.mem_range.mp hk)
theorem ikX5 : ∀ k, k < 2 → u_lay RX5 TX5 k ∈ wsL_law
  | 0, _ => w_in (in_t1 (List.mem_of_getElem? (i := 201) (by decide +kernel))) rfl
  | 1, _ => w_in (in_t1 (List.mem_of_getElem? (i := 203) (by decide +kernel))) rfl
  | n + 2, h => absurd h (by omega)
theorem inlX5 : ∀ w ∈ u_ws RX5 TX5 2, w ∈ wsL_law := by
  intro w h
  obtain ⟨k, hk, rfl⟩ := List.mem_map.mp h
  exact ikX5 k (List.mem_range.mp hk)
theorem ikX6 : ∀ k, k < 8 → u_lay RX6 TX6 k ∈ wsL_law
  | 0, _ => w_in (in_t1 (List.mem_of_getElem? (i := 233) (by decide +kernel))) rfl
  | 1, _ => w_in (in_t1 (List.mem_of_getElem? (i := 235) (by decide +kernel))) rfl
  | 2, _ => w_in (in_t1 (List.mem_of_getElem? (i := 237) (by decide +kernel))) rfl
  | 3, _ => w_in (in_t1 (List.mem_of_getElem? (i := 239) (by decide +kernel))) rfl
  | 4, _ => w_in (in_t2 (List.mem_of_getElem? (i := 1) (by decide +kernel))) rfl
  | 5, _ => w_in (in_t2 (List.mem_of_getElem? (i := 3) (by decide +kernel))) rfl
  | 6, _ => w_in (in_t2 (List.mem_of_getElem? (i := 5) (by decide +kernel))) rfl
  | 7, _ => w_in (in_t2 (List.mem_of_getElem? (i := 7) (by decide +kernel))) rfl
  | n + 8, h => absurd h (by omega)
theorem inlX6 : ∀ w ∈ u_ws RX6 TX6 8, w ∈ wsL_law := by
  intro w h
  obtain ⟨k, hk, rfl⟩ := List.mem_map.mp h
  exact ikX6 k (List.mem_range.mp hk)
theorem ikX7 : ∀ k, k < 33 → u_lay RX7 TX7 k ∈ wsL_law
  | 0, _ => w_in (in_t4 (List.mem_of_getElem? (i := 166) (by decide +kernel))) rfl
  | 1, _ => w_in (in_t4 (List.mem_of_getElem? (i := 168) (by decide +kernel))) rfl
  | 2, _ => w_in (in_t4 (List.mem_of_getElem? (i := 170) (by decide +kernel))) rfl
  | 3, _ => w_in (in_t4 (List.mem_of_getElem? (i := 172) (by decide +kernel))) rfl
  | 4, _ => w_in (in_t4 (List.mem_of_getElem? (i := 174) (by decide +kernel))) rfl
  | 5, _ => w_in (in_t4 (List.mem_of_getElem? (i := 176) (by decide +kernel))) rfl
  | 6, _ => w_in (in_t4 (List.mem_of_getElem? (i := 178) (by decide +kernel))) rfl
  | 7, _ => w_in (in_t4 (List.mem_of_getElem? (i := 180) (by decide +kernel))) rfl
  | 8, _ => w_in (in_t4 (List.mem_of_getElem? (i := 182) (by decide +kernel))) rfl
  | 9, _ => w_in (in_t4 (List.mem_of_getElem? (i := 184) (by decide +kernel))) rfl
  | 10, _ => w_in (in_t4 (List.mem_of_getElem? (i := 186) (by decide +kernel))) rfl
  | 11, _ => w_in (in_t4 (List.mem_of_getElem? (i := 188) (by decide +kernel))) rfl
  | 12, _ => w_in (in_t4 (List.mem_of_getElem? (i := 190) (by decide +kernel))) rfl
  | 13, _ => w_in (in_t4 (List.mem_of_getElem? (i := 192) (by decide +kernel))) rfl
  | 14, _ => w_in (in_t4 (List.mem_of_getElem? (i := 194) (by decide +kernel))) rfl
  | 15, _ => w_in (in_t4 (List.mem_of_getElem? (i := 196) (by decide +kernel))) rfl
  | 16, _ => w_in (in_t4 (List.mem_of_getElem? (i := 198) (by decide +kernel))) rfl
  | 17, _ => w_in (in_t4 (List.mem_of_getElem? (i := 200) (by decide +kernel))) rfl
  | 18, _ => w_in (in_t4 (List.mem_of_getElem? (i := 202) (by decide +kernel))) rfl
  | 19, _ => w_in (in_t4 (List.mem_of_getElem? (i := 204) (by decide +kernel))) rfl
  | 20, _ => w_in (in_t4 (List.mem_of_getElem? (i := 206) (by decide +kernel))) rfl
  | 21, _ => w_in (in_t4 (List.mem_of_getElem? (i := 208) (by decide +kernel))) rfl
  | 22, _ => w_in (in_t4 (List.mem_of_getElem? (i := 210) (by decide +kernel))) rfl
  | 23, _ => w_in (in_t4 (List.mem_of_getElem? (i := 212) (by decide +kernel))) rfl
  | 24, _ => w_in (in_t4 (List.mem_of_getElem? (i := 214) (by decide +kernel))) rfl
  | 25, _ => w_in (in_t4 (List.mem_of_getElem? (i := 216) (by decide +kernel))) rfl
  | 26, _ => w_in (in_t4 (List.mem_of_getElem? (i := 218) (by decide +kernel))) rfl
  | 27, _ => w_in (in_t4 (List.mem_of_getElem? (i := 220) (by decide +kernel))) rfl
  | 28, _ => w_in (in_t4 (List.mem_of_getElem? (i := 222) (by decide +kernel))) rfl
  | 29, _ => w_in (in_t4 (List.mem_of_getElem? (i := 224) (by decide +kernel))) rfl
  | 30, _ => w_in (in_t4 (List.mem_of_getElem? (i := 226) (by decide +kernel))) rfl
  | 31, _ => w_in (in_t4 (List.mem_of_getElem? (i := 228) (by decide +kernel))) rfl
  | 32, _ => w_in (in_t4 (List.mem_of_getElem? (i := 230) (by decide +kernel))) rfl
  | n + 33, h => absurd h (by omega)
theorem inlX7 : ∀ w ∈ u_ws RX7 TX7 33, w ∈ wsL_law := by
  intro w h
  obtain ⟨k, hk, rfl⟩ := List.mem_map.mp h
  exact ikX7 k (List.mem_range.mp hk)
theorem q0 : Cond.initialized RL ∈ wsL_law := w_in (in_t1 (List.mem_of_getElem? (i := 0) (by decide +kernel))) rfl
theorem q1 : Cond.initialized RX6 ∈ wsL_law := w_in (in_t1 (List.mem_of_getElem? (i := 1) (by decide +kernel))) rfl
theorem q2 : Cond.initialized RX0 ∈ wsL_law := w_in (in_t1 (List.mem_of_getElem? (i := 2) (by decide +kernel))) rfl
theorem q3 : Cond.initialized RX2 ∈ wsL_law := w_in (in_t1 (List.mem_of_getElem? (i := 3) (by decide +kernel))) rfl
theorem q4 : Cond.initialized RJ9 ∈ wsL_law := w_in (in_t1 (List.mem_of_getElem? (i := 4) (by decide +kernel))) rfl
theorem q5 : Cond.initialized RX4 ∈ wsL_law := w_in (in_t1 (List.mem_of_getElem? (i := 5) (by decide +kernel))) rfl
theorem q6 : Cond.initialized RX1 ∈ wsL_law := w_in (in_t1 (List.mem_of_getElem? (i := 6) (by decide +kernel))) rfl
theorem q7 : Cond.initialized RX5 ∈ wsL_law := w_in (in_t1 (List.mem_of_getElem? (i := 7) (by decide +kernel))) rfl
theorem q8 : Cond.initialized RX3 ∈ wsL_law := w_in (in_t1 (List.mem_of_getElem? (i := 8) (by decide +kernel))) rfl
theorem q9 : Cond.initialized RX7 ∈ wsL_law := w_in (in_t1 (List.mem_of_getElem? (i := 9) (by decide +kernel))) rfl
theorem q10 : Cond.initialized RJ6 ∈ wsL_law := w_in (in_t1 (List.mem_of_getElem? (i := 10) (by decide +kernel))) rfl
theorem q11 : Cond.initialized RJ0 ∈ wsL_law := w_in (in_t1 (List.mem_of_getElem? (i := 11) (by decide +kernel))) rfl
theorem q12 : Cond.initialized RJ1 ∈ wsL_law := w_in (in_t1 (List.mem_of_getElem? (i := 12) (by decide +kernel))) rfl
theorem q13 : Cond.initialized RJ2 ∈ wsL_law := w_in (in_t1 (List.mem_of_getElem? (i := 13) (by decide +kernel))) rfl
theorem q14 : Cond.initialized RJ3 ∈ wsL_law := w_in (in_t1 (List.mem_of_getElem? (i := 14) (by decide +kernel))) rfl
theorem q15 : Cond.initialized RJ11 ∈ wsL_law := w_in (in_t1 (List.mem_of_getElem? (i := 15) (by decide +kernel))) rfl
theorem q16 : Cond.classLink RL 7 RX6 ∈ wsL_law := w_in (in_t1 (List.mem_of_getElem? (i := 16) (by decide +kernel))) rfl
theorem q17 : Cond.instantiable RX6 8 ∈ wsL_law := w_in (in_t1 (List.mem_of_getElem? (i := 17) (by decide +kernel))) rfl
theorem q18 : Cond.methodLink RL 9 yX6_init ∈ wsL_law := w_in (in_t1 (List.mem_of_getElem? (i := 18) (by decide +kernel))) rfl
theorem q19 : Cond.instanceMethod yX6_init ∈ wsL_law := w_in (in_t1 (List.mem_of_getElem? (i := 19) (by decide +kernel))) rfl
theorem q20 : Cond.code yX6_init cX6_init 1 (none : Option FieldType) ∈ wsL_law := w_in (in_t1 (List.mem_of_getElem? (i := 20) (by decide +kernel))) rfl
theorem q21 : Cond.methodLink RX6 1 objectInit ∈ wsL_law := w_in (in_t1 (List.mem_of_getElem? (i := 21) (by decide +kernel))) rfl
theorem q22 : Cond.instanceMethod objectInit ∈ wsL_law := w_in (in_t1 (List.mem_of_getElem? (i := 22) (by decide +kernel))) rfl
theorem q23 : Cond.code objectInit object_method_1_code 1 (none : Option FieldType) ∈ wsL_law := w_in (in_t1 (List.mem_of_getElem? (i := 23) (by decide +kernel))) rfl
theorem q24 : Cond.classLink RX6 7 RX0 ∈ wsL_law := w_in (in_t1 (List.mem_of_getElem? (i := 24) (by decide +kernel))) rfl
theorem q25 : Cond.instantiable RX0 12 ∈ wsL_law := w_in (in_t1 (List.mem_of_getElem? (i := 25) (by decide +kernel))) rfl
theorem q26 : Cond.methodLink RX6 9 yX0_init ∈ wsL_law := w_in (in_t1 (List.mem_of_getElem? (i := 26) (by decide +kernel))) rfl
theorem q27 : Cond.instanceMethod yX0_init ∈ wsL_law := w_in (in_t1 (List.mem_of_getElem? (i := 27) (by decide +kernel))) rfl
theorem q28 : Cond.code yX0_init cX0_init 1 (none : Option FieldType) ∈ wsL_law := w_in (in_t1 (List.mem_of_getElem? (i := 28) (by decide +kernel))) rfl
theorem q29 : Cond.methodLink RX0 3 objectInit ∈ wsL_law := w_in (in_t1 (List.mem_of_getElem? (i := 29) (by decide +kernel))) rfl
theorem q30 : Cond.classLink RX0 9 RX2 ∈ wsL_law := w_in (in_t1 (List.mem_of_getElem? (i := 30) (by decide +kernel))) rfl
theorem q31 : Cond.instantiable RX2 1 ∈ wsL_law := w_in (in_t1 (List.mem_of_getElem? (i := 31) (by decide +kernel))) rfl
theorem q32 : Cond.methodLink RX0 11 yX2_init ∈ wsL_law := w_in (in_t1 (List.mem_of_getElem? (i := 32) (by decide +kernel))) rfl
theorem q33 : Cond.instanceMethod yX2_init ∈ wsL_law := w_in (in_t1 (List.mem_of_getElem? (i := 33) (by decide +kernel))) rfl
theorem q34 : Cond.code yX2_init cX2_init 2 (none : Option FieldType) ∈ wsL_law := w_in (in_t1 (List.mem_of_getElem? (i := 34) (by decide +kernel))) rfl
theorem q35 : Cond.methodLink RX2 1 objectInit ∈ wsL_law := w_in (in_t1 (List.mem_of_getElem? (i := 35) (by decide +kernel))) rfl
theorem q36 : Cond.methodLink RX2 7 yJ9_max_7cf53 ∈ wsL_law := w_in (in_t1 (List.mem_of_getElem? (i := 36) (by decide +kernel))) rfl
theorem q37 : Cond.static yJ9_max_7cf53 ∈ wsL_law := w_in (in_t1 (List.mem_of_getElem? (i := 37) (by decide +kernel))) rfl
theorem q38 : Cond.code yJ9_max_7cf53 cJ9_max_7cf53 2 (some FieldType.int) ∈ wsL_law := w_in (in_t1 (List.mem_of_getElem? (i := 38) (by decide +kernel))) rfl
theorem q39 : Cond.fieldLink RX2 13 RX2 "cells" "[I" ∈ wsL_law := w_in (in_t1 (List.mem_of_getElem? (i := 39) (by decide +kernel))) rfl
theorem q41 : Cond.arrayClass FieldType.int ∈ wsL_law := w_in (in_t1 (List.mem_of_getElem? (i := 43) (by decide +kernel))) rfl
theorem q42 : Cond.methodLink RX0 45 yX2_put ∈ wsL_law := w_in (in_t1 (List.mem_of_getElem? (i := 44) (by decide +kernel))) rfl
theorem q43 : Cond.instanceMethod yX2_put ∈ wsL_law := w_in (in_t1 (List.mem_of_getElem? (i := 45) (by decide +kernel))) rfl
theorem q44 : Cond.selects RX2 yX2_put yX2_put ∈ wsL_law := w_in (in_t1 (List.mem_of_getElem? (i := 46) (by decide +kernel))) rfl
theorem q45 : Cond.code yX2_put cX2_put 3 (none : Option FieldType) ∈ wsL_law := w_in (in_t1 (List.mem_of_getElem? (i := 47) (by decide +kernel))) rfl
theorem q46 : Cond.fieldLink RX0 49 RX0 "players" "I" ∈ wsL_law := w_in (in_t1 (List.mem_of_getElem? (i := 48) (by decide +kernel))) rfl
theorem q47 : Cond.fieldLinkNest RX6 64 RX0 "players" "I" RX6 ∈ wsL_law := w_in (in_t1 (List.mem_of_getElem? (i := 49) (by decide +kernel))) rfl
theorem q48 : Cond.fieldLinkNest RX4 75 RX0 "players" "I" RX6 ∈ wsL_law := w_in (in_t1 (List.mem_of_getElem? (i := 50) (by decide +kernel))) rfl
theorem q49 : Cond.fieldLinkNest RX1 96 RX0 "players" "I" RX6 ∈ wsL_law := w_in (in_t1 (List.mem_of_getElem? (i := 51) (by decide +kernel))) rfl
theorem q50 : Cond.fieldLink RX0 14 RX0 "ratings" "LSwissRounds$Row;" ∈ wsL_law := w_in (in_t1 (List.mem_of_getElem? (i := 52) (by decide +kernel))) rfl
theorem q51 : Cond.fieldLinkNest RX6 99 RX0 "ratings" "LSwissRounds$Row;" RX6 ∈ wsL_law := w_in (in_t1 (List.mem_of_getElem? (i := 53) (by decide +kernel))) rfl
theorem q52 : Cond.fieldLinkNest RX4 82 RX0 "ratings" "LSwissRounds$Row;" RX6 ∈ wsL_law := w_in (in_t1 (List.mem_of_getElem? (i := 54) (by decide +kernel))) rfl
theorem q53 : Cond.fieldLink RX0 20 RX0 "inside" "LSwissRounds$Row;" ∈ wsL_law := w_in (in_t1 (List.mem_of_getElem? (i := 55) (by decide +kernel))) rfl
theorem q54 : Cond.fieldLinkNest RX6 82 RX0 "inside" "LSwissRounds$Row;" RX6 ∈ wsL_law := w_in (in_t1 (List.mem_of_getElem? (i := 56) (by decide +kernel))) rfl
theorem q55 : Cond.fieldLinkNest RX1 104 RX0 "inside" "LSwissRounds$Row;" RX6 ∈ wsL_law := w_in (in_t1 (List.mem_of_getElem? (i := 57) (by decide +kernel))) rfl
theorem q56 : Cond.fieldLink RX0 56 RX0 "rounds" "I" ∈ wsL_law := w_in (in_t1 (List.mem_of_getElem? (i := 58) (by decide +kernel))) rfl
theorem q57 : Cond.fieldLinkNest RX6 148 RX0 "rounds" "I" RX6 ∈ wsL_law := w_in (in_t1 (List.mem_of_getElem? (i := 59) (by decide +kernel))) rfl
theorem q58 : Cond.fieldLinkNest RX6 60 RX0 "open" "Z" RX6 ∈ wsL_law := w_in (in_t1 (List.mem_of_getElem? (i := 60) (by decide +kernel))) rfl
theorem q59 : Cond.fieldLink RX0 59 RX0 "open" "Z" ∈ wsL_law := w_in (in_t1 (List.mem_of_getElem? (i := 61) (by decide +kernel))) rfl
theorem q60 : Cond.fieldLink RX0 23 RX0 "boards" "LSwissRounds$Row;" ∈ wsL_law := w_in (in_t1 (List.mem_of_getElem? (i := 62) (by decide +kernel))) rfl
theorem q61 : Cond.fieldLinkNest RX4 95 RX0 "boards" "LSwissRounds$Row;" RX6 ∈ wsL_law := w_in (in_t1 (List.mem_of_getElem? (i := 63) (by decide +kernel))) rfl
theorem q62 : Cond.fieldLinkNest RX6 160 RX0 "boards" "LSwissRounds$Row;" RX6 ∈ wsL_law := w_in (in_t1 (List.mem_of_getElem? (i := 64) (by decide +kernel))) rfl
theorem q63 : Cond.fieldLink RX0 26 RX0 "byes" "LSwissRounds$Row;" ∈ wsL_law := w_in (in_t1 (List.mem_of_getElem? (i := 65) (by decide +kernel))) rfl
theorem q64 : Cond.fieldLinkNest RX4 110 RX0 "byes" "LSwissRounds$Row;" RX6 ∈ wsL_law := w_in (in_t1 (List.mem_of_getElem? (i := 66) (by decide +kernel))) rfl
theorem q65 : Cond.fieldLinkNest RX6 181 RX0 "byes" "LSwissRounds$Row;" RX6 ∈ wsL_law := w_in (in_t1 (List.mem_of_getElem? (i := 67) (by decide +kernel))) rfl
theorem q66 : Cond.fieldLink RX0 29 RX0 "whites" "LSwissRounds$Row;" ∈ wsL_law := w_in (in_t1 (List.mem_of_getElem? (i := 68) (by decide +kernel))) rfl
theorem q67 : Cond.fieldLinkNest RX4 101 RX0 "whites" "LSwissRounds$Row;" RX6 ∈ wsL_law := w_in (in_t1 (List.mem_of_getElem? (i := 69) (by decide +kernel))) rfl
theorem q68 : Cond.fieldLinkNest RX6 172 RX0 "whites" "LSwissRounds$Row;" RX6 ∈ wsL_law := w_in (in_t1 (List.mem_of_getElem? (i := 70) (by decide +kernel))) rfl
theorem q69 : Cond.fieldLink RX0 32 RX0 "blacks" "LSwissRounds$Row;" ∈ wsL_law := w_in (in_t1 (List.mem_of_getElem? (i := 71) (by decide +kernel))) rfl
theorem q70 : Cond.fieldLinkNest RX4 107 RX0 "blacks" "LSwissRounds$Row;" RX6 ∈ wsL_law := w_in (in_t1 (List.mem_of_getElem? (i := 72) (by decide +kernel))) rfl
theorem q71 : Cond.fieldLinkNest RX6 175 RX0 "blacks" "LSwissRounds$Row;" RX6 ∈ wsL_law := w_in (in_t1 (List.mem_of_getElem? (i := 73) (by decide +kernel))) rfl
theorem q72 : Cond.fieldLink RX0 35 RX0 "outcomes" "LSwissRounds$Row;" ∈ wsL_law := w_in (in_t1 (List.mem_of_getElem? (i := 74) (by decide +kernel))) rfl
theorem q73 : Cond.fieldLinkNest RX6 178 RX0 "outcomes" "LSwissRounds$Row;" RX6 ∈ wsL_law := w_in (in_t1 (List.mem_of_getElem? (i := 75) (by decide +kernel))) rfl
theorem q74 : Cond.fieldLink RX0 38 RX0 "breaks" "I" ∈ wsL_law := w_in (in_t1 (List.mem_of_getElem? (i := 76) (by decide +kernel))) rfl
theorem q75 : Cond.fieldLinkNest RX4 158 RX0 "breaks" "I" RX6 ∈ wsL_law := w_in (in_t1 (List.mem_of_getElem? (i := 77) (by decide +kernel))) rfl
theorem q76 : Cond.fieldLinkNest RX6 241 RX0 "breaks" "I" RX6 ∈ wsL_law := w_in (in_t1 (List.mem_of_getElem? (i := 78) (by decide +kernel))) rfl
theorem q77 : Cond.fieldLink RX0 42 RX0 "breakOrder" "LSwissRounds$Row;" ∈ wsL_law := w_in (in_t1 (List.mem_of_getElem? (i := 79) (by decide +kernel))) rfl
theorem q78 : Cond.fieldLinkNest RX4 161 RX0 "breakOrder" "LSwissRounds$Row;" RX6 ∈ wsL_law := w_in (in_t1 (List.mem_of_getElem? (i := 80) (by decide +kernel))) rfl
theorem q79 : Cond.fieldLinkNest RX6 246 RX0 "breakOrder" "LSwissRounds$Row;" RX6 ∈ wsL_law := w_in (in_t1 (List.mem_of_getElem? (i := 81) (by decide +kernel))) rfl
theorem q92 : Cond.classLink RX6 19 RX4 ∈ wsL_law := w_in (in_t1 (List.mem_of_getElem? (i := 107) (by decide +kernel))) rfl
theorem q93 : Cond.instantiable RX4 10 ∈ wsL_law := w_in (in_t1 (List.mem_of_getElem? (i := 108) (by decide +kernel))) rfl
theorem q94 : Cond.methodLink RX6 21 yX4_init ∈ wsL_law := w_in (in_t1 (List.mem_of_getElem? (i := 109) (by decide +kernel))) rfl
theorem q95 : Cond.instanceMethod yX4_init ∈ wsL_law := w_in (in_t1 (List.mem_of_getElem? (i := 110) (by decide +kernel))) rfl
theorem q96 : Cond.code yX4_init cX4_init 2 (none : Option FieldType) ∈ wsL_law := w_in (in_t1 (List.mem_of_getElem? (i := 111) (by decide +kernel))) rfl
theorem q97 : Cond.methodLink RX4 3 objectInit ∈ wsL_law := w_in (in_t1 (List.mem_of_getElem? (i := 112) (by decide +kernel))) rfl
theorem q98 : Cond.classLink RX4 9 RX2 ∈ wsL_law := w_in (in_t1 (List.mem_of_getElem? (i := 113) (by decide +kernel))) rfl
theorem q99 : Cond.methodLink RX4 11 yX2_init ∈ wsL_law := w_in (in_t1 (List.mem_of_getElem? (i := 114) (by decide +kernel))) rfl
theorem q100 : Cond.fieldLink RX4 44 RX4 "book" "LSwissRounds$Book;" ∈ wsL_law := w_in (in_t1 (List.mem_of_getElem? (i := 115) (by decide +kernel))) rfl
theorem q101 : Cond.fieldLink RX4 14 RX4 "ties" "LSwissRounds$Row;" ∈ wsL_law := w_in (in_t1 (List.mem_of_getElem? (i := 116) (by decide +kernel))) rfl
theorem q102 : Cond.fieldLink RX4 20 RX4 "played" "LSwissRounds$Row;" ∈ wsL_law := w_in (in_t1 (List.mem_of_getElem? (i := 117) (by decide +kernel))) rfl
theorem q103 : Cond.fieldLinkNest RX6 105 RX4 "played" "LSwissRounds$Row;" RX6 ∈ wsL_law := w_in (in_t1 (List.mem_of_getElem? (i := 118) (by decide +kernel))) rfl
theorem q104 : Cond.fieldLink RX4 23 RX4 "balances" "LSwissRounds$Row;" ∈ wsL_law := w_in (in_t1 (List.mem_of_getElem? (i := 119) (by decide +kernel))) rfl
theorem q105 : Cond.fieldLinkNest RX6 108 RX4 "balances" "LSwissRounds$Row;" RX6 ∈ wsL_law := w_in (in_t1 (List.mem_of_getElem? (i := 120) (by decide +kernel))) rfl
theorem q106 : Cond.fieldLinkNest RX1 135 RX4 "balances" "LSwissRounds$Row;" RX6 ∈ wsL_law := w_in (in_t1 (List.mem_of_getElem? (i := 121) (by decide +kernel))) rfl
theorem q107 : Cond.fieldLink RX4 26 RX4 "latest" "LSwissRounds$Row;" ∈ wsL_law := w_in (in_t1 (List.mem_of_getElem? (i := 122) (by decide +kernel))) rfl
theorem q108 : Cond.fieldLinkNest RX6 111 RX4 "latest" "LSwissRounds$Row;" RX6 ∈ wsL_law := w_in (in_t1 (List.mem_of_getElem? (i := 123) (by decide +kernel))) rfl
theorem q109 : Cond.fieldLinkNest RX1 138 RX4 "latest" "LSwissRounds$Row;" RX6 ∈ wsL_law := w_in (in_t1 (List.mem_of_getElem? (i := 124) (by decide +kernel))) rfl
theorem q110 : Cond.fieldLink RX4 29 RX4 "byes" "LSwissRounds$Row;" ∈ wsL_law := w_in (in_t1 (List.mem_of_getElem? (i := 125) (by decide +kernel))) rfl
theorem q111 : Cond.fieldLinkNest RX6 114 RX4 "byes" "LSwissRounds$Row;" RX6 ∈ wsL_law := w_in (in_t1 (List.mem_of_getElem? (i := 126) (by decide +kernel))) rfl
theorem q112 : Cond.fieldLinkNest RX1 110 RX4 "byes" "LSwissRounds$Row;" RX6 ∈ wsL_law := w_in (in_t1 (List.mem_of_getElem? (i := 127) (by decide +kernel))) rfl
theorem q113 : Cond.fieldLink RX4 32 RX4 "forfeits" "LSwissRounds$Row;" ∈ wsL_law := w_in (in_t1 (List.mem_of_getElem? (i := 128) (by decide +kernel))) rfl
theorem q114 : Cond.fieldLinkNest RX6 117 RX4 "forfeits" "LSwissRounds$Row;" RX6 ∈ wsL_law := w_in (in_t1 (List.mem_of_getElem? (i := 129) (by decide +kernel))) rfl
theorem q115 : Cond.fieldLinkNest RX1 113 RX4 "forfeits" "LSwissRounds$Row;" RX6 ∈ wsL_law := w_in (in_t1 (List.mem_of_getElem? (i := 130) (by decide +kernel))) rfl
theorem q116 : Cond.fieldLink RX4 35 RX4 "meetings" "LSwissRounds$Row;" ∈ wsL_law := w_in (in_t1 (List.mem_of_getElem? (i := 131) (by decide +kernel))) rfl
theorem q117 : Cond.fieldLink RX4 38 RX4 "made" "LSwissRounds$Row;" ∈ wsL_law := w_in (in_t1 (List.mem_of_getElem? (i := 132) (by decide +kernel))) rfl
theorem q118 : Cond.fieldLink RX4 41 RX4 "standing" "LSwissRounds$Row;" ∈ wsL_law := w_in (in_t1 (List.mem_of_getElem? (i := 133) (by decide +kernel))) rfl
theorem q119 : Cond.fieldLinkNest RX1 99 RX4 "standing" "LSwissRounds$Row;" RX6 ∈ wsL_law := w_in (in_t1 (List.mem_of_getElem? (i := 134) (by decide +kernel))) rfl
theorem q120 : Cond.fieldLinkNest RX6 126 RX4 "standing" "LSwissRounds$Row;" RX6 ∈ wsL_law := w_in (in_t1 (List.mem_of_getElem? (i := 135) (by decide +kernel))) rfl
theorem q131 : Cond.classLink RX6 28 RX1 ∈ wsL_law := w_in (in_t1 (List.mem_of_getElem? (i := 157) (by decide +kernel))) rfl
theorem q132 : Cond.instantiable RX1 8 ∈ wsL_law := w_in (in_t1 (List.mem_of_getElem? (i := 158) (by decide +kernel))) rfl
theorem q133 : Cond.methodLink RX6 30 yX1_init ∈ wsL_law := w_in (in_t1 (List.mem_of_getElem? (i := 159) (by decide +kernel))) rfl
theorem q134 : Cond.instanceMethod yX1_init ∈ wsL_law := w_in (in_t1 (List.mem_of_getElem? (i := 160) (by decide +kernel))) rfl
theorem q135 : Cond.code yX1_init cX1_init 3 (none : Option FieldType) ∈ wsL_law := w_in (in_t1 (List.mem_of_getElem? (i := 161) (by decide +kernel))) rfl
theorem q136 : Cond.methodLink RX1 3 objectInit ∈ wsL_law := w_in (in_t1 (List.mem_of_getElem? (i := 162) (by decide +kernel))) rfl
theorem q137 : Cond.classLink RX1 9 RX2 ∈ wsL_law := w_in (in_t1 (List.mem_of_getElem? (i := 163) (by decide +kernel))) rfl
theorem q138 : Cond.methodLink RX1 11 yX2_init ∈ wsL_law := w_in (in_t1 (List.mem_of_getElem? (i := 164) (by decide +kernel))) rfl
theorem q139 : Cond.fieldLink RX1 29 RX1 "book" "LSwissRounds$Book;" ∈ wsL_law := w_in (in_t1 (List.mem_of_getElem? (i := 165) (by decide +kernel))) rfl
theorem q140 : Cond.fieldLink RX1 33 RX1 "table" "LSwissRounds$Table;" ∈ wsL_law := w_in (in_t1 (List.mem_of_getElem? (i := 166) (by decide +kernel))) rfl
theorem q141 : Cond.fieldLink RX1 14 RX1 "seats" "LSwissRounds$Row;" ∈ wsL_law := w_in (in_t1 (List.mem_of_getElem? (i := 167) (by decide +kernel))) rfl
theorem q142 : Cond.fieldLink RX1 74 RX1 "count" "I" ∈ wsL_law := w_in (in_t1 (List.mem_of_getElem? (i := 168) (by decide +kernel))) rfl
theorem q143 : Cond.fieldLink RX1 65 RX1 "resting" "I" ∈ wsL_law := w_in (in_t1 (List.mem_of_getElem? (i := 169) (by decide +kernel))) rfl
theorem q144 : Cond.fieldLink RX1 20 RX1 "costs" "LSwissRounds$Row;" ∈ wsL_law := w_in (in_t1 (List.mem_of_getElem? (i := 170) (by decide +kernel))) rfl
theorem q145 : Cond.fieldLink RX1 23 RX1 "sums" "LSwissRounds$Row;" ∈ wsL_law := w_in (in_t1 (List.mem_of_getElem? (i := 171) (by decide +kernel))) rfl
theorem q146 : Cond.fieldLink RX1 26 RX1 "numbers" "LSwissRounds$Row;" ∈ wsL_law := w_in (in_t1 (List.mem_of_getElem? (i := 172) (by decide +kernel))) rfl
theorem q155 : Cond.classLink RX6 37 RX5 ∈ wsL_law := w_in (in_t1 (List.mem_of_getElem? (i := 190) (by decide +kernel))) rfl
theorem q156 : Cond.instantiable RX5 2 ∈ wsL_law := w_in (in_t1 (List.mem_of_getElem? (i := 191) (by decide +kernel))) rfl
theorem q157 : Cond.methodLink RX6 39 yX5_init ∈ wsL_law := w_in (in_t1 (List.mem_of_getElem? (i := 192) (by decide +kernel))) rfl
theorem q158 : Cond.instanceMethod yX5_init ∈ wsL_law := w_in (in_t1 (List.mem_of_getElem? (i := 193) (by decide +kernel))) rfl
theorem q159 : Cond.code yX5_init cX5_init 2 (none : Option FieldType) ∈ wsL_law := w_in (in_t1 (List.mem_of_getElem? (i := 194) (by decide +kernel))) rfl
theorem q160 : Cond.methodLink RX5 1 objectInit ∈ wsL_law := w_in (in_t1 (List.mem_of_getElem? (i := 195) (by decide +kernel))) rfl
theorem q161 : Cond.classLink RX5 7 RX2 ∈ wsL_law := w_in (in_t1 (List.mem_of_getElem? (i := 196) (by decide +kernel))) rfl
theorem q162 : Cond.methodLink RX5 9 yX2_init ∈ wsL_law := w_in (in_t1 (List.mem_of_getElem? (i := 197) (by decide +kernel))) rfl
theorem q163 : Cond.fieldLink RX5 12 RX5 "bytes" "LSwissRounds$Row;" ∈ wsL_law := w_in (in_t1 (List.mem_of_getElem? (i := 198) (by decide +kernel))) rfl
theorem q164 : Cond.fieldLink RX5 22 RX5 "length" "I" ∈ wsL_law := w_in (in_t1 (List.mem_of_getElem? (i := 199) (by decide +kernel))) rfl
theorem q165 : Cond.fieldLinkNest RX6 213 RX5 "length" "I" RX6 ∈ wsL_law := w_in (in_t1 (List.mem_of_getElem? (i := 200) (by decide +kernel))) rfl
theorem q168 : Cond.classLink RX6 49 RX3 ∈ wsL_law := w_in (in_t1 (List.mem_of_getElem? (i := 206) (by decide +kernel))) rfl
theorem q169 : Cond.instantiable RX3 2 ∈ wsL_law := w_in (in_t1 (List.mem_of_getElem? (i := 207) (by decide +kernel))) rfl
theorem q170 : Cond.methodLink RX6 51 yX3_init ∈ wsL_law := w_in (in_t1 (List.mem_of_getElem? (i := 208) (by decide +kernel))) rfl
theorem q171 : Cond.instanceMethod yX3_init ∈ wsL_law := w_in (in_t1 (List.mem_of_getElem? (i := 209) (by decide +kernel))) rfl
theorem q172 : Cond.code yX3_init cX3_init 1 (none : Option FieldType) ∈ wsL_law := w_in (in_t1 (List.mem_of_getElem? (i := 210) (by decide +kernel))) rfl
theorem q173 : Cond.methodLink RX3 3 objectInit ∈ wsL_law := w_in (in_t1 (List.mem_of_getElem? (i := 211) (by decide +kernel))) rfl
theorem q174 : Cond.classLink RX3 9 RX2 ∈ wsL_law := w_in (in_t1 (List.mem_of_getElem? (i := 212) (by decide +kernel))) rfl
theorem q175 : Cond.methodLink RX3 11 yX2_init ∈ wsL_law := w_in (in_t1 (List.mem_of_getElem? (i := 213) (by decide +kernel))) rfl
theorem q176 : Cond.methodLink RX3 23 yX2_fill ∈ wsL_law := w_in (in_t1 (List.mem_of_getElem? (i := 214) (by decide +kernel))) rfl
theorem q177 : Cond.instanceMethod yX2_fill ∈ wsL_law := w_in (in_t1 (List.mem_of_getElem? (i := 215) (by decide +kernel))) rfl
theorem q178 : Cond.selects RX2 yX2_fill yX2_fill ∈ wsL_law := w_in (in_t1 (List.mem_of_getElem? (i := 216) (by decide +kernel))) rfl
theorem q179 : Cond.code yX2_fill cX2_fill 3 (none : Option FieldType) ∈ wsL_law := w_in (in_t1 (List.mem_of_getElem? (i := 217) (by decide +kernel))) rfl
theorem q180 : Cond.fieldLink RX3 14 RX3 "sizes" "LSwissRounds$Row;" ∈ wsL_law := w_in (in_t1 (List.mem_of_getElem? (i := 218) (by decide +kernel))) rfl
theorem q181 : Cond.fieldLink RX3 20 RX3 "cells" "LSwissRounds$Row;" ∈ wsL_law := w_in (in_t1 (List.mem_of_getElem? (i := 219) (by decide +kernel))) rfl
theorem q184 : Cond.fieldLink RX6 10 RX6 "book" "LSwissRounds$Book;" ∈ wsL_law := w_in (in_t1 (List.mem_of_getElem? (i := 225) (by decide +kernel))) rfl
theorem q185 : Cond.fieldLink RX6 16 RX6 "saved" "LSwissRounds$Book;" ∈ wsL_law := w_in (in_t1 (List.mem_of_getElem? (i := 226) (by decide +kernel))) rfl
theorem q186 : Cond.fieldLink RX6 294 RX6 "isSaved" "Z" ∈ wsL_law := w_in (in_t1 (List.mem_of_getElem? (i := 227) (by decide +kernel))) rfl
theorem q187 : Cond.fieldLink RX6 24 RX6 "table" "LSwissRounds$Table;" ∈ wsL_law := w_in (in_t1 (List.mem_of_getElem? (i := 228) (by decide +kernel))) rfl
theorem q188 : Cond.fieldLink RX6 33 RX6 "pairing" "LSwissRounds$Pairing;" ∈ wsL_law := w_in (in_t1 (List.mem_of_getElem? (i := 229) (by decide +kernel))) rfl
theorem q189 : Cond.fieldLink RX6 42 RX6 "tape" "LSwissRounds$Text;" ∈ wsL_law := w_in (in_t1 (List.mem_of_getElem? (i := 230) (by decide +kernel))) rfl
theorem q190 : Cond.fieldLink RX6 46 RX6 "sheet" "LSwissRounds$Text;" ∈ wsL_law := w_in (in_t1 (List.mem_of_getElem? (i := 231) (by decide +kernel))) rfl
theorem q191 : Cond.fieldLink RX6 52 RX6 "shelf" "LSwissRounds$Shelf;" ∈ wsL_law := w_in (in_t1 (List.mem_of_getElem? (i := 232) (by decide +kernel))) rfl
theorem q200 : Cond.methodLink RL 13 yX6_join ∈ wsL_law := w_in (in_t2 (List.mem_of_getElem? (i := 10) (by decide +kernel))) rfl
theorem q201 : Cond.instanceMethod yX6_join ∈ wsL_law := w_in (in_t2 (List.mem_of_getElem? (i := 11) (by decide +kernel))) rfl
theorem q202 : Cond.selects RX6 yX6_join yX6_join ∈ wsL_law := w_in (in_t2 (List.mem_of_getElem? (i := 12) (by decide +kernel))) rfl
theorem q203 : Cond.code yX6_join cX6_join 3 (some FieldType.int) ∈ wsL_law := w_in (in_t2 (List.mem_of_getElem? (i := 13) (by decide +kernel))) rfl
theorem q204 : Cond.methodLink RX6 56 yX6_isRating ∈ wsL_law := w_in (in_t2 (List.mem_of_getElem? (i := 14) (by decide +kernel))) rfl
theorem q205 : Cond.static yX6_isRating ∈ wsL_law := w_in (in_t2 (List.mem_of_getElem? (i := 15) (by decide +kernel))) rfl
theorem q206 : Cond.code yX6_isRating cX6_isRating 1 (some FieldType.boolean) ∈ wsL_law := w_in (in_t2 (List.mem_of_getElem? (i := 16) (by decide +kernel))) rfl
theorem q207 : Cond.methodLink RX6 68 yX0_enter ∈ wsL_law := w_in (in_t2 (List.mem_of_getElem? (i := 17) (by decide +kernel))) rfl
theorem q208 : Cond.instanceMethod yX0_enter ∈ wsL_law := w_in (in_t2 (List.mem_of_getElem? (i := 18) (by decide +kernel))) rfl
theorem q209 : Cond.selects RX0 yX0_enter yX0_enter ∈ wsL_law := w_in (in_t2 (List.mem_of_getElem? (i := 19) (by decide +kernel))) rfl
theorem q210 : Cond.code yX0_enter cX0_enter 3 (some FieldType.int) ∈ wsL_law := w_in (in_t2 (List.mem_of_getElem? (i := 20) (by decide +kernel))) rfl
theorem q211 : Cond.methodLink RX6 72 yX4_reckon ∈ wsL_law := w_in (in_t2 (List.mem_of_getElem? (i := 21) (by decide +kernel))) rfl
theorem q212 : Cond.instanceMethod yX4_reckon ∈ wsL_law := w_in (in_t2 (List.mem_of_getElem? (i := 22) (by decide +kernel))) rfl
theorem q213 : Cond.selects RX4 yX4_reckon yX4_reckon ∈ wsL_law := w_in (in_t2 (List.mem_of_getElem? (i := 23) (by decide +kernel))) rfl
theorem q214 : Cond.code yX4_reckon cX4_reckon 2 (none : Option FieldType) ∈ wsL_law := w_in (in_t2 (List.mem_of_getElem? (i := 24) (by decide +kernel))) rfl
theorem q215 : Cond.methodLink RX4 63 yX4_wipe ∈ wsL_law := w_in (in_t2 (List.mem_of_getElem? (i := 25) (by decide +kernel))) rfl
theorem q216 : Cond.instanceMethod yX4_wipe ∈ wsL_law := w_in (in_t2 (List.mem_of_getElem? (i := 27) (by decide +kernel))) rfl
theorem q217 : Cond.code yX4_wipe cX4_wipe 1 (none : Option FieldType) ∈ wsL_law := w_in (in_t2 (List.mem_of_getElem? (i := 28) (by decide +kernel))) rfl
theorem q218 : Cond.methodLink RX4 92 yX2_fill ∈ wsL_law := w_in (in_t2 (List.mem_of_getElem? (i := 29) (by decide +kernel))) rfl
theorem q219 : Cond.methodLink RX4 66 yX0_countDone ∈ wsL_law := w_in (in_t2 (List.mem_of_getElem? (i := 30) (by decide +kernel))) rfl
theorem q220 : Cond.instanceMethod yX0_countDone ∈ wsL_law := w_in (in_t2 (List.mem_of_getElem? (i := 31) (by decide +kernel))) rfl
theorem q221 : Cond.selects RX0 yX0_countDone yX0_countDone ∈ wsL_law := w_in (in_t2 (List.mem_of_getElem? (i := 32) (by decide +kernel))) rfl
theorem q222 : Cond.code yX0_countDone cX0_countDone 1 (some FieldType.int) ∈ wsL_law := w_in (in_t2 (List.mem_of_getElem? (i := 33) (by decide +kernel))) rfl
theorem q223 : Cond.methodLink RX4 72 yX4_countRound ∈ wsL_law := w_in (in_t2 (List.mem_of_getElem? (i := 34) (by decide +kernel))) rfl
theorem q224 : Cond.instanceMethod yX4_countRound ∈ wsL_law := w_in (in_t2 (List.mem_of_getElem? (i := 36) (by decide +kernel))) rfl
theorem q225 : Cond.code yX4_countRound cX4_countRound 4 (none : Option FieldType) ∈ wsL_law := w_in (in_t2 (List.mem_of_getElem? (i := 37) (by decide +kernel))) rfl
theorem q226 : Cond.methodLink RX4 48 yX2_at ∈ wsL_law := w_in (in_t2 (List.mem_of_getElem? (i := 38) (by decide +kernel))) rfl
theorem q227 : Cond.instanceMethod yX2_at ∈ wsL_law := w_in (in_t2 (List.mem_of_getElem? (i := 39) (by decide +kernel))) rfl
theorem q228 : Cond.selects RX2 yX2_at yX2_at ∈ wsL_law := w_in (in_t2 (List.mem_of_getElem? (i := 40) (by decide +kernel))) rfl
theorem q229 : Cond.code yX2_at cX2_at 2 (some FieldType.int) ∈ wsL_law := w_in (in_t2 (List.mem_of_getElem? (i := 41) (by decide +kernel))) rfl
theorem q230 : Cond.methodLink RX4 98 yX0_boardCell ∈ wsL_law := w_in (in_t2 (List.mem_of_getElem? (i := 42) (by decide +kernel))) rfl
theorem q231 : Cond.static yX0_boardCell ∈ wsL_law := w_in (in_t2 (List.mem_of_getElem? (i := 43) (by decide +kernel))) rfl
theorem q232 : Cond.code yX0_boardCell cX0_boardCell 2 (some FieldType.int) ∈ wsL_law := w_in (in_t2 (List.mem_of_getElem? (i := 44) (by decide +kernel))) rfl
theorem q233 : Cond.methodLink RX4 104 yX4_countSide ∈ wsL_law := w_in (in_t2 (List.mem_of_getElem? (i := 45) (by decide +kernel))) rfl
theorem q234 : Cond.instanceMethod yX4_countSide ∈ wsL_law := w_in (in_t2 (List.mem_of_getElem? (i := 47) (by decide +kernel))) rfl
theorem q235 : Cond.code yX4_countSide cX4_countSide 5 (none : Option FieldType) ∈ wsL_law := w_in (in_t2 (List.mem_of_getElem? (i := 48) (by decide +kernel))) rfl
theorem q236 : Cond.methodLink RX4 114 yX0_outcomeFor ∈ wsL_law := w_in (in_t2 (List.mem_of_getElem? (i := 49) (by decide +kernel))) rfl
theorem q237 : Cond.instanceMethod yX0_outcomeFor ∈ wsL_law := w_in (in_t2 (List.mem_of_getElem? (i := 50) (by decide +kernel))) rfl
theorem q238 : Cond.selects RX0 yX0_outcomeFor yX0_outcomeFor ∈ wsL_law := w_in (in_t2 (List.mem_of_getElem? (i := 51) (by decide +kernel))) rfl
theorem q239 : Cond.code yX0_outcomeFor cX0_outcomeFor 5 (some FieldType.int) ∈ wsL_law := w_in (in_t2 (List.mem_of_getElem? (i := 52) (by decide +kernel))) rfl
theorem q240 : Cond.methodLink RX0 67 yX0_boardCell ∈ wsL_law := w_in (in_t2 (List.mem_of_getElem? (i := 53) (by decide +kernel))) rfl
theorem q241 : Cond.methodLink RX0 63 yX2_at ∈ wsL_law := w_in (in_t2 (List.mem_of_getElem? (i := 54) (by decide +kernel))) rfl
theorem q242 : Cond.methodLink RX0 74 yX0_colourAt ∈ wsL_law := w_in (in_t2 (List.mem_of_getElem? (i := 55) (by decide +kernel))) rfl
theorem q243 : Cond.instanceMethod yX0_colourAt ∈ wsL_law := w_in (in_t2 (List.mem_of_getElem? (i := 56) (by decide +kernel))) rfl
theorem q244 : Cond.selects RX0 yX0_colourAt yX0_colourAt ∈ wsL_law := w_in (in_t2 (List.mem_of_getElem? (i := 57) (by decide +kernel))) rfl
theorem q245 : Cond.code yX0_colourAt cX0_colourAt 4 (some FieldType.int) ∈ wsL_law := w_in (in_t2 (List.mem_of_getElem? (i := 58) (by decide +kernel))) rfl
theorem q246 : Cond.methodLinkNest RX0 78 yX6_mirrored RX6 ∈ wsL_law := w_in (in_t2 (List.mem_of_getElem? (i := 59) (by decide +kernel))) rfl
theorem q247 : Cond.static yX6_mirrored ∈ wsL_law := w_in (in_t2 (List.mem_of_getElem? (i := 60) (by decide +kernel))) rfl
theorem q248 : Cond.code yX6_mirrored cX6_mirrored 1 (some FieldType.int) ∈ wsL_law := w_in (in_t2 (List.mem_of_getElem? (i := 61) (by decide +kernel))) rfl
theorem q249 : Cond.methodLinkNest RX4 118 yX6_pointsFor RX6 ∈ wsL_law := w_in (in_t2 (List.mem_of_getElem? (i := 62) (by decide +kernel))) rfl
theorem q250 : Cond.static yX6_pointsFor ∈ wsL_law := w_in (in_t2 (List.mem_of_getElem? (i := 63) (by decide +kernel))) rfl
theorem q251 : Cond.code yX6_pointsFor cX6_pointsFor 1 (some FieldType.int) ∈ wsL_law := w_in (in_t2 (List.mem_of_getElem? (i := 64) (by decide +kernel))) rfl
theorem q252 : Cond.methodLink RX4 85 yX4_addTie ∈ wsL_law := w_in (in_t2 (List.mem_of_getElem? (i := 65) (by decide +kernel))) rfl
theorem q253 : Cond.instanceMethod yX4_addTie ∈ wsL_law := w_in (in_t2 (List.mem_of_getElem? (i := 67) (by decide +kernel))) rfl
theorem q254 : Cond.code yX4_addTie cX4_addTie 4 (none : Option FieldType) ∈ wsL_law := w_in (in_t2 (List.mem_of_getElem? (i := 68) (by decide +kernel))) rfl
theorem q255 : Cond.methodLink RX4 52 yX2_add ∈ wsL_law := w_in (in_t2 (List.mem_of_getElem? (i := 69) (by decide +kernel))) rfl
theorem q256 : Cond.instanceMethod yX2_add ∈ wsL_law := w_in (in_t2 (List.mem_of_getElem? (i := 70) (by decide +kernel))) rfl
theorem q257 : Cond.selects RX2 yX2_add yX2_add ∈ wsL_law := w_in (in_t2 (List.mem_of_getElem? (i := 71) (by decide +kernel))) rfl
theorem q258 : Cond.code yX2_add cX2_add 3 (none : Option FieldType) ∈ wsL_law := w_in (in_t2 (List.mem_of_getElem? (i := 72) (by decide +kernel))) rfl
theorem q259 : Cond.methodLinkNest RX4 121 yX6_isOverTheBoard RX6 ∈ wsL_law := w_in (in_t2 (List.mem_of_getElem? (i := 73) (by decide +kernel))) rfl
theorem q260 : Cond.static yX6_isOverTheBoard ∈ wsL_law := w_in (in_t2 (List.mem_of_getElem? (i := 74) (by decide +kernel))) rfl
theorem q261 : Cond.code yX6_isOverTheBoard cX6_isOverTheBoard 1 (some FieldType.boolean) ∈ wsL_law := w_in (in_t2 (List.mem_of_getElem? (i := 75) (by decide +kernel))) rfl
theorem q262 : Cond.methodLink RX4 125 yX4_countPlayed ∈ wsL_law := w_in (in_t2 (List.mem_of_getElem? (i := 76) (by decide +kernel))) rfl
theorem q263 : Cond.instanceMethod yX4_countPlayed ∈ wsL_law := w_in (in_t2 (List.mem_of_getElem? (i := 78) (by decide +kernel))) rfl
theorem q264 : Cond.code yX4_countPlayed cX4_countPlayed 7 (none : Option FieldType) ∈ wsL_law := w_in (in_t2 (List.mem_of_getElem? (i := 79) (by decide +kernel))) rfl
theorem q265 : Cond.methodLink RX4 128 yX0_colourAt ∈ wsL_law := w_in (in_t2 (List.mem_of_getElem? (i := 80) (by decide +kernel))) rfl
theorem q266 : Cond.methodLink RX4 131 yX0_otherAt ∈ wsL_law := w_in (in_t2 (List.mem_of_getElem? (i := 81) (by decide +kernel))) rfl
theorem q267 : Cond.instanceMethod yX0_otherAt ∈ wsL_law := w_in (in_t2 (List.mem_of_getElem? (i := 82) (by decide +kernel))) rfl
theorem q268 : Cond.selects RX0 yX0_otherAt yX0_otherAt ∈ wsL_law := w_in (in_t2 (List.mem_of_getElem? (i := 83) (by decide +kernel))) rfl
theorem q269 : Cond.code yX0_otherAt cX0_otherAt 5 (some FieldType.int) ∈ wsL_law := w_in (in_t2 (List.mem_of_getElem? (i := 84) (by decide +kernel))) rfl
theorem q270 : Cond.methodLink RX4 56 yX4_twoCell ∈ wsL_law := w_in (in_t2 (List.mem_of_getElem? (i := 85) (by decide +kernel))) rfl
theorem q271 : Cond.static yX4_twoCell ∈ wsL_law := w_in (in_t2 (List.mem_of_getElem? (i := 86) (by decide +kernel))) rfl
theorem q272 : Cond.code yX4_twoCell cX4_twoCell 2 (some FieldType.int) ∈ wsL_law := w_in (in_t2 (List.mem_of_getElem? (i := 87) (by decide +kernel))) rfl
theorem q273 : Cond.methodLink RX4 134 yX2_put ∈ wsL_law := w_in (in_t2 (List.mem_of_getElem? (i := 88) (by decide +kernel))) rfl
theorem q274 : Cond.methodLink RX4 111 yX4_tieOf ∈ wsL_law := w_in (in_t2 (List.mem_of_getElem? (i := 89) (by decide +kernel))) rfl
theorem q275 : Cond.instanceMethod yX4_tieOf ∈ wsL_law := w_in (in_t2 (List.mem_of_getElem? (i := 90) (by decide +kernel))) rfl
theorem q276 : Cond.selects RX4 yX4_tieOf yX4_tieOf ∈ wsL_law := w_in (in_t2 (List.mem_of_getElem? (i := 91) (by decide +kernel))) rfl
theorem q277 : Cond.code yX4_tieOf cX4_tieOf 3 (some FieldType.int) ∈ wsL_law := w_in (in_t2 (List.mem_of_getElem? (i := 92) (by decide +kernel))) rfl
theorem q278 : Cond.methodLink RX4 79 yX4_compareWithOpponents ∈ wsL_law := w_in (in_t2 (List.mem_of_getElem? (i := 93) (by decide +kernel))) rfl
theorem q279 : Cond.instanceMethod yX4_compareWithOpponents ∈ wsL_law := w_in (in_t2 (List.mem_of_getElem? (i := 95) (by decide +kernel))) rfl
theorem q280 : Cond.code yX4_compareWithOpponents cX4_compareWithOpponents 7 (none : Option FieldType) ∈ wsL_law := w_in (in_t2 (List.mem_of_getElem? (i := 96) (by decide +kernel))) rfl
theorem q281 : Cond.methodLink RX4 137 yX4_haveMet ∈ wsL_law := w_in (in_t2 (List.mem_of_getElem? (i := 97) (by decide +kernel))) rfl
theorem q282 : Cond.instanceMethod yX4_haveMet ∈ wsL_law := w_in (in_t2 (List.mem_of_getElem? (i := 98) (by decide +kernel))) rfl
theorem q283 : Cond.selects RX4 yX4_haveMet yX4_haveMet ∈ wsL_law := w_in (in_t2 (List.mem_of_getElem? (i := 99) (by decide +kernel))) rfl
theorem q284 : Cond.code yX4_haveMet cX4_haveMet 3 (some FieldType.boolean) ∈ wsL_law := w_in (in_t2 (List.mem_of_getElem? (i := 100) (by decide +kernel))) rfl
theorem q285 : Cond.methodLink RX4 60 yX4_meetingOf ∈ wsL_law := w_in (in_t2 (List.mem_of_getElem? (i := 101) (by decide +kernel))) rfl
theorem q286 : Cond.instanceMethod yX4_meetingOf ∈ wsL_law := w_in (in_t2 (List.mem_of_getElem? (i := 102) (by decide +kernel))) rfl
theorem q287 : Cond.selects RX4 yX4_meetingOf yX4_meetingOf ∈ wsL_law := w_in (in_t2 (List.mem_of_getElem? (i := 103) (by decide +kernel))) rfl
theorem q288 : Cond.code yX4_meetingOf cX4_meetingOf 3 (some FieldType.int) ∈ wsL_law := w_in (in_t2 (List.mem_of_getElem? (i := 104) (by decide +kernel))) rfl
theorem q289 : Cond.methodLink RX4 141 yX4_madeAgainst ∈ wsL_law := w_in (in_t2 (List.mem_of_getElem? (i := 105) (by decide +kernel))) rfl
theorem q290 : Cond.instanceMethod yX4_madeAgainst ∈ wsL_law := w_in (in_t2 (List.mem_of_getElem? (i := 106) (by decide +kernel))) rfl
theorem q291 : Cond.selects RX4 yX4_madeAgainst yX4_madeAgainst ∈ wsL_law := w_in (in_t2 (List.mem_of_getElem? (i := 107) (by decide +kernel))) rfl
theorem q292 : Cond.code yX4_madeAgainst cX4_madeAgainst 3 (some FieldType.int) ∈ wsL_law := w_in (in_t2 (List.mem_of_getElem? (i := 108) (by decide +kernel))) rfl
theorem q293 : Cond.methodLink RX4 144 yJ9_min_7cf53 ∈ wsL_law := w_in (in_t2 (List.mem_of_getElem? (i := 109) (by decide +kernel))) rfl
theorem q294 : Cond.static yJ9_min_7cf53 ∈ wsL_law := w_in (in_t2 (List.mem_of_getElem? (i := 110) (by decide +kernel))) rfl
theorem q295 : Cond.code yJ9_min_7cf53 cJ9_min_7cf53 2 (some FieldType.int) ∈ wsL_law := w_in (in_t2 (List.mem_of_getElem? (i := 111) (by decide +kernel))) rfl
theorem q296 : Cond.methodLink RX4 149 yJ9_max_7cf53 ∈ wsL_law := w_in (in_t2 (List.mem_of_getElem? (i := 112) (by decide +kernel))) rfl
theorem q297 : Cond.methodLink RX4 89 yX4_stand ∈ wsL_law := w_in (in_t2 (List.mem_of_getElem? (i := 113) (by decide +kernel))) rfl
theorem q298 : Cond.instanceMethod yX4_stand ∈ wsL_law := w_in (in_t2 (List.mem_of_getElem? (i := 115) (by decide +kernel))) rfl
theorem q299 : Cond.code yX4_stand cX4_stand 3 (none : Option FieldType) ∈ wsL_law := w_in (in_t2 (List.mem_of_getElem? (i := 116) (by decide +kernel))) rfl
theorem q300 : Cond.methodLink RX4 152 yX4_isAhead ∈ wsL_law := w_in (in_t2 (List.mem_of_getElem? (i := 117) (by decide +kernel))) rfl
theorem q301 : Cond.instanceMethod yX4_isAhead ∈ wsL_law := w_in (in_t2 (List.mem_of_getElem? (i := 119) (by decide +kernel))) rfl
theorem q302 : Cond.code yX4_isAhead cX4_isAhead 4 (some FieldType.boolean) ∈ wsL_law := w_in (in_t2 (List.mem_of_getElem? (i := 120) (by decide +kernel))) rfl
theorem q303 : Cond.methodLink RX4 155 yX4_firstDifference ∈ wsL_law := w_in (in_t2 (List.mem_of_getElem? (i := 121) (by decide +kernel))) rfl
theorem q304 : Cond.instanceMethod yX4_firstDifference ∈ wsL_law := w_in (in_t2 (List.mem_of_getElem? (i := 122) (by decide +kernel))) rfl
theorem q305 : Cond.selects RX4 yX4_firstDifference yX4_firstDifference ∈ wsL_law := w_in (in_t2 (List.mem_of_getElem? (i := 123) (by decide +kernel))) rfl
theorem q306 : Cond.code yX4_firstDifference cX4_firstDifference 5 (some FieldType.int) ∈ wsL_law := w_in (in_t2 (List.mem_of_getElem? (i := 124) (by decide +kernel))) rfl
theorem q307 : Cond.methodLink RL 18 yX6_leave ∈ wsL_law := w_in (in_t2 (List.mem_of_getElem? (i := 125) (by decide +kernel))) rfl
theorem q308 : Cond.instanceMethod yX6_leave ∈ wsL_law := w_in (in_t2 (List.mem_of_getElem? (i := 126) (by decide +kernel))) rfl
theorem q309 : Cond.selects RX6 yX6_leave yX6_leave ∈ wsL_law := w_in (in_t2 (List.mem_of_getElem? (i := 127) (by decide +kernel))) rfl
theorem q310 : Cond.code yX6_leave cX6_leave 2 (some FieldType.int) ∈ wsL_law := w_in (in_t2 (List.mem_of_getElem? (i := 128) (by decide +kernel))) rfl
theorem q311 : Cond.methodLink RX6 75 yX6_move ∈ wsL_law := w_in (in_t2 (List.mem_of_getElem? (i := 129) (by decide +kernel))) rfl
theorem q312 : Cond.instanceMethod yX6_move ∈ wsL_law := w_in (in_t2 (List.mem_of_getElem? (i := 131) (by decide +kernel))) rfl
theorem q313 : Cond.code yX6_move cX6_move 3 (some FieldType.int) ∈ wsL_law := w_in (in_t2 (List.mem_of_getElem? (i := 132) (by decide +kernel))) rfl
theorem q314 : Cond.methodLink RX6 79 yX6_isPlayer ∈ wsL_law := w_in (in_t2 (List.mem_of_getElem? (i := 133) (by decide +kernel))) rfl
theorem q315 : Cond.instanceMethod yX6_isPlayer ∈ wsL_law := w_in (in_t2 (List.mem_of_getElem? (i := 135) (by decide +kernel))) rfl
theorem q316 : Cond.code yX6_isPlayer cX6_isPlayer 2 (some FieldType.boolean) ∈ wsL_law := w_in (in_t2 (List.mem_of_getElem? (i := 136) (by decide +kernel))) rfl
theorem q317 : Cond.methodLink RX6 86 yX2_at ∈ wsL_law := w_in (in_t2 (List.mem_of_getElem? (i := 137) (by decide +kernel))) rfl
theorem q318 : Cond.methodLink RX6 91 yX2_put ∈ wsL_law := w_in (in_t2 (List.mem_of_getElem? (i := 138) (by decide +kernel))) rfl
theorem q319 : Cond.methodLink RX6 95 yX0_countInside ∈ wsL_law := w_in (in_t2 (List.mem_of_getElem? (i := 139) (by decide +kernel))) rfl
theorem q320 : Cond.instanceMethod yX0_countInside ∈ wsL_law := w_in (in_t2 (List.mem_of_getElem? (i := 140) (by decide +kernel))) rfl
theorem q321 : Cond.selects RX0 yX0_countInside yX0_countInside ∈ wsL_law := w_in (in_t2 (List.mem_of_getElem? (i := 141) (by decide +kernel))) rfl
theorem q322 : Cond.code yX0_countInside cX0_countInside 3 (some FieldType.int) ∈ wsL_law := w_in (in_t2 (List.mem_of_getElem? (i := 142) (by decide +kernel))) rfl
theorem q323 : Cond.methodLink RL 22 yX6_back ∈ wsL_law := w_in (in_t2 (List.mem_of_getElem? (i := 143) (by decide +kernel))) rfl
theorem q324 : Cond.instanceMethod yX6_back ∈ wsL_law := w_in (in_t2 (List.mem_of_getElem? (i := 144) (by decide +kernel))) rfl
theorem q325 : Cond.selects RX6 yX6_back yX6_back ∈ wsL_law := w_in (in_t2 (List.mem_of_getElem? (i := 145) (by decide +kernel))) rfl
theorem q326 : Cond.code yX6_back cX6_back 2 (some FieldType.int) ∈ wsL_law := w_in (in_t2 (List.mem_of_getElem? (i := 146) (by decide +kernel))) rfl
theorem q327 : Cond.methodLink RL 26 yX6_rate ∈ wsL_law := w_in (in_t2 (List.mem_of_getElem? (i := 147) (by decide +kernel))) rfl
theorem q328 : Cond.instanceMethod yX6_rate ∈ wsL_law := w_in (in_t2 (List.mem_of_getElem? (i := 148) (by decide +kernel))) rfl
theorem q329 : Cond.selects RX6 yX6_rate yX6_rate ∈ wsL_law := w_in (in_t2 (List.mem_of_getElem? (i := 149) (by decide +kernel))) rfl
theorem q330 : Cond.code yX6_rate cX6_rate 4 (some FieldType.int) ∈ wsL_law := w_in (in_t2 (List.mem_of_getElem? (i := 150) (by decide +kernel))) rfl
theorem q331 : Cond.methodLink RL 31 yX6_of ∈ wsL_law := w_in (in_t2 (List.mem_of_getElem? (i := 151) (by decide +kernel))) rfl
theorem q332 : Cond.instanceMethod yX6_of ∈ wsL_law := w_in (in_t2 (List.mem_of_getElem? (i := 152) (by decide +kernel))) rfl
theorem q333 : Cond.selects RX6 yX6_of yX6_of ∈ wsL_law := w_in (in_t2 (List.mem_of_getElem? (i := 153) (by decide +kernel))) rfl
theorem q334 : Cond.code yX6_of cX6_of 3 (some FieldType.int) ∈ wsL_law := w_in (in_t2 (List.mem_of_getElem? (i := 154) (by decide +kernel))) rfl
theorem q335 : Cond.methodLink RX6 102 yX4_tieOf ∈ wsL_law := w_in (in_t2 (List.mem_of_getElem? (i := 155) (by decide +kernel))) rfl
theorem q336 : Cond.methodLink RX6 120 yX4_countMet ∈ wsL_law := w_in (in_t2 (List.mem_of_getElem? (i := 156) (by decide +kernel))) rfl
theorem q337 : Cond.instanceMethod yX4_countMet ∈ wsL_law := w_in (in_t2 (List.mem_of_getElem? (i := 157) (by decide +kernel))) rfl
theorem q338 : Cond.selects RX4 yX4_countMet yX4_countMet ∈ wsL_law := w_in (in_t2 (List.mem_of_getElem? (i := 158) (by decide +kernel))) rfl
theorem q339 : Cond.code yX4_countMet cX4_countMet 4 (some FieldType.int) ∈ wsL_law := w_in (in_t2 (List.mem_of_getElem? (i := 159) (by decide +kernel))) rfl
theorem q340 : Cond.methodLink RL 35 yX6_tie ∈ wsL_law := w_in (in_t2 (List.mem_of_getElem? (i := 160) (by decide +kernel))) rfl
theorem q341 : Cond.instanceMethod yX6_tie ∈ wsL_law := w_in (in_t2 (List.mem_of_getElem? (i := 161) (by decide +kernel))) rfl
theorem q342 : Cond.selects RX6 yX6_tie yX6_tie ∈ wsL_law := w_in (in_t2 (List.mem_of_getElem? (i := 162) (by decide +kernel))) rfl
theorem q343 : Cond.code yX6_tie cX6_tie 3 (some FieldType.int) ∈ wsL_law := w_in (in_t2 (List.mem_of_getElem? (i := 163) (by decide +kernel))) rfl
theorem q344 : Cond.methodLink RL 39 yX6_rank ∈ wsL_law := w_in (in_t2 (List.mem_of_getElem? (i := 164) (by decide +kernel))) rfl
theorem q345 : Cond.instanceMethod yX6_rank ∈ wsL_law := w_in (in_t2 (List.mem_of_getElem? (i := 165) (by decide +kernel))) rfl
theorem q346 : Cond.selects RX6 yX6_rank yX6_rank ∈ wsL_law := w_in (in_t2 (List.mem_of_getElem? (i := 166) (by decide +kernel))) rfl
theorem q347 : Cond.code yX6_rank cX6_rank 2 (some FieldType.int) ∈ wsL_law := w_in (in_t2 (List.mem_of_getElem? (i := 167) (by decide +kernel))) rfl
theorem q348 : Cond.methodLink RX6 123 yX4_placeOf ∈ wsL_law := w_in (in_t2 (List.mem_of_getElem? (i := 168) (by decide +kernel))) rfl
theorem q349 : Cond.instanceMethod yX4_placeOf ∈ wsL_law := w_in (in_t2 (List.mem_of_getElem? (i := 169) (by decide +kernel))) rfl
theorem q350 : Cond.selects RX4 yX4_placeOf yX4_placeOf ∈ wsL_law := w_in (in_t2 (List.mem_of_getElem? (i := 170) (by decide +kernel))) rfl
theorem q351 : Cond.code yX4_placeOf cX4_placeOf 3 (some FieldType.int) ∈ wsL_law := w_in (in_t2 (List.mem_of_getElem? (i := 171) (by decide +kernel))) rfl
theorem q352 : Cond.methodLink RL 43 yX6_nth ∈ wsL_law := w_in (in_t2 (List.mem_of_getElem? (i := 172) (by decide +kernel))) rfl
theorem q353 : Cond.instanceMethod yX6_nth ∈ wsL_law := w_in (in_t2 (List.mem_of_getElem? (i := 173) (by decide +kernel))) rfl
theorem q354 : Cond.selects RX6 yX6_nth yX6_nth ∈ wsL_law := w_in (in_t2 (List.mem_of_getElem? (i := 174) (by decide +kernel))) rfl
theorem q355 : Cond.code yX6_nth cX6_nth 2 (some FieldType.int) ∈ wsL_law := w_in (in_t2 (List.mem_of_getElem? (i := 175) (by decide +kernel))) rfl
theorem q356 : Cond.methodLink RL 47 yX6_explain ∈ wsL_law := w_in (in_t2 (List.mem_of_getElem? (i := 176) (by decide +kernel))) rfl
theorem q357 : Cond.instanceMethod yX6_explain ∈ wsL_law := w_in (in_t2 (List.mem_of_getElem? (i := 177) (by decide +kernel))) rfl
theorem q358 : Cond.selects RX6 yX6_explain yX6_explain ∈ wsL_law := w_in (in_t2 (List.mem_of_getElem? (i := 178) (by decide +kernel))) rfl
theorem q359 : Cond.code yX6_explain cX6_explain 5 (some FieldType.int) ∈ wsL_law := w_in (in_t2 (List.mem_of_getElem? (i := 179) (by decide +kernel))) rfl
theorem q360 : Cond.methodLink RX6 129 yX6_areTwo ∈ wsL_law := w_in (in_t2 (List.mem_of_getElem? (i := 180) (by decide +kernel))) rfl
theorem q361 : Cond.instanceMethod yX6_areTwo ∈ wsL_law := w_in (in_t2 (List.mem_of_getElem? (i := 182) (by decide +kernel))) rfl
theorem q362 : Cond.code yX6_areTwo cX6_areTwo 3 (some FieldType.boolean) ∈ wsL_law := w_in (in_t2 (List.mem_of_getElem? (i := 183) (by decide +kernel))) rfl
theorem q363 : Cond.methodLink RX6 133 yX4_firstDifference ∈ wsL_law := w_in (in_t2 (List.mem_of_getElem? (i := 184) (by decide +kernel))) rfl
theorem q364 : Cond.methodLink RL 105 yX6_alike ∈ wsL_law := w_in (in_t2 (List.mem_of_getElem? (i := 185) (by decide +kernel))) rfl
theorem q365 : Cond.instanceMethod yX6_alike ∈ wsL_law := w_in (in_t2 (List.mem_of_getElem? (i := 186) (by decide +kernel))) rfl
theorem q366 : Cond.selects RX6 yX6_alike yX6_alike ∈ wsL_law := w_in (in_t2 (List.mem_of_getElem? (i := 187) (by decide +kernel))) rfl
theorem q367 : Cond.code yX6_alike cX6_alike 5 (some FieldType.int) ∈ wsL_law := w_in (in_t2 (List.mem_of_getElem? (i := 188) (by decide +kernel))) rfl
theorem q368 : Cond.methodLink RL 109 yX6_colours ∈ wsL_law := w_in (in_t2 (List.mem_of_getElem? (i := 189) (by decide +kernel))) rfl
theorem q369 : Cond.instanceMethod yX6_colours ∈ wsL_law := w_in (in_t2 (List.mem_of_getElem? (i := 190) (by decide +kernel))) rfl
theorem q370 : Cond.selects RX6 yX6_colours yX6_colours ∈ wsL_law := w_in (in_t2 (List.mem_of_getElem? (i := 191) (by decide +kernel))) rfl
theorem q371 : Cond.code yX6_colours cX6_colours 4 (some FieldType.int) ∈ wsL_law := w_in (in_t2 (List.mem_of_getElem? (i := 192) (by decide +kernel))) rfl
theorem q372 : Cond.methodLink RX6 136 yX6_isBalance ∈ wsL_law := w_in (in_t2 (List.mem_of_getElem? (i := 193) (by decide +kernel))) rfl
theorem q373 : Cond.static yX6_isBalance ∈ wsL_law := w_in (in_t2 (List.mem_of_getElem? (i := 194) (by decide +kernel))) rfl
theorem q374 : Cond.code yX6_isBalance cX6_isBalance 2 (some FieldType.boolean) ∈ wsL_law := w_in (in_t2 (List.mem_of_getElem? (i := 195) (by decide +kernel))) rfl
theorem q375 : Cond.methodLink RL 52 yX6_met ∈ wsL_law := w_in (in_t2 (List.mem_of_getElem? (i := 196) (by decide +kernel))) rfl
theorem q376 : Cond.instanceMethod yX6_met ∈ wsL_law := w_in (in_t2 (List.mem_of_getElem? (i := 197) (by decide +kernel))) rfl
theorem q377 : Cond.selects RX6 yX6_met yX6_met ∈ wsL_law := w_in (in_t2 (List.mem_of_getElem? (i := 198) (by decide +kernel))) rfl
theorem q378 : Cond.code yX6_met cX6_met 3 (some FieldType.int) ∈ wsL_law := w_in (in_t2 (List.mem_of_getElem? (i := 199) (by decide +kernel))) rfl
theorem q379 : Cond.methodLink RX6 139 yX4_meetingOf ∈ wsL_law := w_in (in_t2 (List.mem_of_getElem? (i := 200) (by decide +kernel))) rfl
theorem q380 : Cond.methodLink RL 56 yX6_cost ∈ wsL_law := w_in (in_t2 (List.mem_of_getElem? (i := 201) (by decide +kernel))) rfl
theorem q381 : Cond.instanceMethod yX6_cost ∈ wsL_law := w_in (in_t2 (List.mem_of_getElem? (i := 202) (by decide +kernel))) rfl
theorem q382 : Cond.selects RX6 yX6_cost yX6_cost ∈ wsL_law := w_in (in_t2 (List.mem_of_getElem? (i := 203) (by decide +kernel))) rfl
theorem q383 : Cond.code yX6_cost cX6_cost 3 (some FieldType.int) ∈ wsL_law := w_in (in_t2 (List.mem_of_getElem? (i := 204) (by decide +kernel))) rfl
theorem q384 : Cond.methodLink RX6 142 yX4_costOf ∈ wsL_law := w_in (in_t2 (List.mem_of_getElem? (i := 205) (by decide +kernel))) rfl
theorem q385 : Cond.instanceMethod yX4_costOf ∈ wsL_law := w_in (in_t2 (List.mem_of_getElem? (i := 206) (by decide +kernel))) rfl
theorem q386 : Cond.selects RX4 yX4_costOf yX4_costOf ∈ wsL_law := w_in (in_t2 (List.mem_of_getElem? (i := 207) (by decide +kernel))) rfl
theorem q387 : Cond.code yX4_costOf cX4_costOf 4 (some FieldType.int) ∈ wsL_law := w_in (in_t2 (List.mem_of_getElem? (i := 208) (by decide +kernel))) rfl
theorem q388 : Cond.methodLink RX4 167 yJ9_abs_0f7a4 ∈ wsL_law := w_in (in_t2 (List.mem_of_getElem? (i := 209) (by decide +kernel))) rfl
theorem q389 : Cond.static yJ9_abs_0f7a4 ∈ wsL_law := w_in (in_t2 (List.mem_of_getElem? (i := 210) (by decide +kernel))) rfl
theorem q390 : Cond.code yJ9_abs_0f7a4 cJ9_abs_0f7a4 1 (some FieldType.int) ∈ wsL_law := w_in (in_t2 (List.mem_of_getElem? (i := 211) (by decide +kernel))) rfl
theorem q391 : Cond.methodLink RL 97 yX6_direct ∈ wsL_law := w_in (in_t2 (List.mem_of_getElem? (i := 212) (by decide +kernel))) rfl
theorem q392 : Cond.instanceMethod yX6_direct ∈ wsL_law := w_in (in_t2 (List.mem_of_getElem? (i := 213) (by decide +kernel))) rfl
theorem q393 : Cond.selects RX6 yX6_direct yX6_direct ∈ wsL_law := w_in (in_t2 (List.mem_of_getElem? (i := 214) (by decide +kernel))) rfl
theorem q394 : Cond.code yX6_direct cX6_direct 3 (some FieldType.int) ∈ wsL_law := w_in (in_t2 (List.mem_of_getElem? (i := 215) (by decide +kernel))) rfl
theorem q395 : Cond.methodLink RX6 145 yX4_madeAgainst ∈ wsL_law := w_in (in_t2 (List.mem_of_getElem? (i := 216) (by decide +kernel))) rfl
theorem q396 : Cond.methodLink RL 60 yX6_pair ∈ wsL_law := w_in (in_t2 (List.mem_of_getElem? (i := 217) (by decide +kernel))) rfl
theorem q397 : Cond.instanceMethod yX6_pair ∈ wsL_law := w_in (in_t2 (List.mem_of_getElem? (i := 218) (by decide +kernel))) rfl
theorem q398 : Cond.selects RX6 yX6_pair yX6_pair ∈ wsL_law := w_in (in_t2 (List.mem_of_getElem? (i := 219) (by decide +kernel))) rfl
theorem q399 : Cond.code yX6_pair cX6_pair 1 (some FieldType.int) ∈ wsL_law := w_in (in_t2 (List.mem_of_getElem? (i := 220) (by decide +kernel))) rfl
theorem q400 : Cond.methodLink RX6 151 yX1_arrange ∈ wsL_law := w_in (in_t2 (List.mem_of_getElem? (i := 221) (by decide +kernel))) rfl
theorem q401 : Cond.instanceMethod yX1_arrange ∈ wsL_law := w_in (in_t2 (List.mem_of_getElem? (i := 222) (by decide +kernel))) rfl
theorem q402 : Cond.selects RX1 yX1_arrange yX1_arrange ∈ wsL_law := w_in (in_t2 (List.mem_of_getElem? (i := 223) (by decide +kernel))) rfl
theorem q403 : Cond.code yX1_arrange cX1_arrange 3 (none : Option FieldType) ∈ wsL_law := w_in (in_t2 (List.mem_of_getElem? (i := 224) (by decide +kernel))) rfl
theorem q404 : Cond.methodLink RX1 37 yX1_seatAll ∈ wsL_law := w_in (in_t2 (List.mem_of_getElem? (i := 225) (by decide +kernel))) rfl
theorem q405 : Cond.instanceMethod yX1_seatAll ∈ wsL_law := w_in (in_t2 (List.mem_of_getElem? (i := 227) (by decide +kernel))) rfl
theorem q406 : Cond.code yX1_seatAll cX1_seatAll 3 (none : Option FieldType) ∈ wsL_law := w_in (in_t2 (List.mem_of_getElem? (i := 228) (by decide +kernel))) rfl
theorem q407 : Cond.methodLink RX1 61 yX2_at ∈ wsL_law := w_in (in_t2 (List.mem_of_getElem? (i := 229) (by decide +kernel))) rfl
theorem q408 : Cond.methodLink RX1 46 yX2_put ∈ wsL_law := w_in (in_t2 (List.mem_of_getElem? (i := 230) (by decide +kernel))) rfl
theorem q409 : Cond.methodLink RX1 40 yX1_giveBye ∈ wsL_law := w_in (in_t2 (List.mem_of_getElem? (i := 231) (by decide +kernel))) rfl
theorem q410 : Cond.instanceMethod yX1_giveBye ∈ wsL_law := w_in (in_t2 (List.mem_of_getElem? (i := 233) (by decide +kernel))) rfl
theorem q411 : Cond.code yX1_giveBye cX1_giveBye 3 (none : Option FieldType) ∈ wsL_law := w_in (in_t2 (List.mem_of_getElem? (i := 234) (by decide +kernel))) rfl
theorem q412 : Cond.methodLink RX1 107 yX1_seatOfBye ∈ wsL_law := w_in (in_t2 (List.mem_of_getElem? (i := 235) (by decide +kernel))) rfl
theorem q413 : Cond.instanceMethod yX1_seatOfBye ∈ wsL_law := w_in (in_t2 (List.mem_of_getElem? (i := 237) (by decide +kernel))) rfl
theorem q414 : Cond.code yX1_seatOfBye cX1_seatOfBye 3 (some FieldType.int) ∈ wsL_law := w_in (in_t2 (List.mem_of_getElem? (i := 238) (by decide +kernel))) rfl
theorem q415 : Cond.methodLink RX1 43 yX1_noteCosts ∈ wsL_law := w_in (in_t2 (List.mem_of_getElem? (i := 239) (by decide +kernel))) rfl
theorem q416 : Cond.instanceMethod yX1_noteCosts ∈ wsL_law := w_in (in_t3 (List.mem_of_getElem? (i := 1) (by decide +kernel))) rfl
theorem q417 : Cond.code yX1_noteCosts cX1_noteCosts 3 (none : Option FieldType) ∈ wsL_law := w_in (in_t3 (List.mem_of_getElem? (i := 2) (by decide +kernel))) rfl
theorem q418 : Cond.methodLink RX1 116 yX4_costOf ∈ wsL_law := w_in (in_t3 (List.mem_of_getElem? (i := 3) (by decide +kernel))) rfl
theorem q419 : Cond.methodLink RX1 50 yX1_wholeSet ∈ wsL_law := w_in (in_t3 (List.mem_of_getElem? (i := 4) (by decide +kernel))) rfl
theorem q420 : Cond.instanceMethod yX1_wholeSet ∈ wsL_law := w_in (in_t3 (List.mem_of_getElem? (i := 6) (by decide +kernel))) rfl
theorem q421 : Cond.code yX1_wholeSet cX1_wholeSet 1 (some FieldType.int) ∈ wsL_law := w_in (in_t3 (List.mem_of_getElem? (i := 7) (by decide +kernel))) rfl
theorem q422 : Cond.methodLink RX1 54 yX1_isReached ∈ wsL_law := w_in (in_t3 (List.mem_of_getElem? (i := 8) (by decide +kernel))) rfl
theorem q423 : Cond.instanceMethod yX1_isReached ∈ wsL_law := w_in (in_t3 (List.mem_of_getElem? (i := 10) (by decide +kernel))) rfl
theorem q424 : Cond.code yX1_isReached cX1_isReached 3 (some FieldType.boolean) ∈ wsL_law := w_in (in_t3 (List.mem_of_getElem? (i := 11) (by decide +kernel))) rfl
theorem q425 : Cond.methodLink RX1 91 yJ6_bitCount_0f7a4 ∈ wsL_law := w_in (in_t3 (List.mem_of_getElem? (i := 12) (by decide +kernel))) rfl
theorem q426 : Cond.static yJ6_bitCount_0f7a4 ∈ wsL_law := w_in (in_t3 (List.mem_of_getElem? (i := 13) (by decide +kernel))) rfl
theorem q427 : Cond.code yJ6_bitCount_0f7a4 cJ6_bitCount_0f7a4 1 (some FieldType.int) ∈ wsL_law := w_in (in_t3 (List.mem_of_getElem? (i := 14) (by decide +kernel))) rfl
theorem q428 : Cond.constant RJ6 265 1431655765 ∈ wsL_law := w_in (in_t3 (List.mem_of_getElem? (i := 15) (by decide +kernel))) rfl
theorem q429 : Cond.constant RJ6 266 858993459 ∈ wsL_law := w_in (in_t3 (List.mem_of_getElem? (i := 16) (by decide +kernel))) rfl
theorem q430 : Cond.constant RJ6 267 252645135 ∈ wsL_law := w_in (in_t3 (List.mem_of_getElem? (i := 17) (by decide +kernel))) rfl
theorem q431 : Cond.methodLink RX1 77 yX1_firstSeat ∈ wsL_law := w_in (in_t3 (List.mem_of_getElem? (i := 18) (by decide +kernel))) rfl
theorem q432 : Cond.static yX1_firstSeat ∈ wsL_law := w_in (in_t3 (List.mem_of_getElem? (i := 19) (by decide +kernel))) rfl
theorem q433 : Cond.code yX1_firstSeat cX1_firstSeat 1 (some FieldType.int) ∈ wsL_law := w_in (in_t3 (List.mem_of_getElem? (i := 20) (by decide +kernel))) rfl
theorem q434 : Cond.methodLink RX1 58 yX1_weigh ∈ wsL_law := w_in (in_t3 (List.mem_of_getElem? (i := 21) (by decide +kernel))) rfl
theorem q435 : Cond.instanceMethod yX1_weigh ∈ wsL_law := w_in (in_t3 (List.mem_of_getElem? (i := 23) (by decide +kernel))) rfl
theorem q436 : Cond.code yX1_weigh cX1_weigh 7 (none : Option FieldType) ∈ wsL_law := w_in (in_t3 (List.mem_of_getElem? (i := 24) (by decide +kernel))) rfl
theorem q437 : Cond.methodLink RX1 120 yX1_sumWith ∈ wsL_law := w_in (in_t3 (List.mem_of_getElem? (i := 25) (by decide +kernel))) rfl
theorem q438 : Cond.instanceMethod yX1_sumWith ∈ wsL_law := w_in (in_t3 (List.mem_of_getElem? (i := 27) (by decide +kernel))) rfl
theorem q439 : Cond.code yX1_sumWith cX1_sumWith 6 (some FieldType.int) ∈ wsL_law := w_in (in_t3 (List.mem_of_getElem? (i := 28) (by decide +kernel))) rfl
theorem q440 : Cond.methodLink RX1 87 yX1_without ∈ wsL_law := w_in (in_t3 (List.mem_of_getElem? (i := 29) (by decide +kernel))) rfl
theorem q441 : Cond.static yX1_without ∈ wsL_law := w_in (in_t3 (List.mem_of_getElem? (i := 30) (by decide +kernel))) rfl
theorem q442 : Cond.code yX1_without cX1_without 3 (some FieldType.int) ∈ wsL_law := w_in (in_t3 (List.mem_of_getElem? (i := 31) (by decide +kernel))) rfl
theorem q443 : Cond.methodLink RX1 123 yJ9_min_7cf53 ∈ wsL_law := w_in (in_t3 (List.mem_of_getElem? (i := 32) (by decide +kernel))) rfl
theorem q444 : Cond.methodLink RX6 154 yX1_leastCost ∈ wsL_law := w_in (in_t3 (List.mem_of_getElem? (i := 33) (by decide +kernel))) rfl
theorem q445 : Cond.instanceMethod yX1_leastCost ∈ wsL_law := w_in (in_t3 (List.mem_of_getElem? (i := 34) (by decide +kernel))) rfl
theorem q446 : Cond.selects RX1 yX1_leastCost yX1_leastCost ∈ wsL_law := w_in (in_t3 (List.mem_of_getElem? (i := 35) (by decide +kernel))) rfl
theorem q447 : Cond.code yX1_leastCost cX1_leastCost 1 (some FieldType.int) ∈ wsL_law := w_in (in_t3 (List.mem_of_getElem? (i := 36) (by decide +kernel))) rfl
theorem q448 : Cond.methodLink RX6 157 yX1_openRound ∈ wsL_law := w_in (in_t3 (List.mem_of_getElem? (i := 37) (by decide +kernel))) rfl
theorem q449 : Cond.instanceMethod yX1_openRound ∈ wsL_law := w_in (in_t3 (List.mem_of_getElem? (i := 38) (by decide +kernel))) rfl
theorem q450 : Cond.selects RX1 yX1_openRound yX1_openRound ∈ wsL_law := w_in (in_t3 (List.mem_of_getElem? (i := 39) (by decide +kernel))) rfl
theorem q451 : Cond.code yX1_openRound cX1_openRound 5 (none : Option FieldType) ∈ wsL_law := w_in (in_t3 (List.mem_of_getElem? (i := 40) (by decide +kernel))) rfl
theorem q452 : Cond.methodLink RX1 69 yX0_startRound ∈ wsL_law := w_in (in_t3 (List.mem_of_getElem? (i := 41) (by decide +kernel))) rfl
theorem q453 : Cond.instanceMethod yX0_startRound ∈ wsL_law := w_in (in_t3 (List.mem_of_getElem? (i := 42) (by decide +kernel))) rfl
theorem q454 : Cond.selects RX0 yX0_startRound yX0_startRound ∈ wsL_law := w_in (in_t3 (List.mem_of_getElem? (i := 43) (by decide +kernel))) rfl
theorem q455 : Cond.code yX0_startRound cX0_startRound 2 (none : Option FieldType) ∈ wsL_law := w_in (in_t3 (List.mem_of_getElem? (i := 44) (by decide +kernel))) rfl
theorem q456 : Cond.methodLink RX1 80 yX1_earliestMate ∈ wsL_law := w_in (in_t3 (List.mem_of_getElem? (i := 45) (by decide +kernel))) rfl
theorem q457 : Cond.instanceMethod yX1_earliestMate ∈ wsL_law := w_in (in_t3 (List.mem_of_getElem? (i := 47) (by decide +kernel))) rfl
theorem q458 : Cond.code yX1_earliestMate cX1_earliestMate 5 (some FieldType.int) ∈ wsL_law := w_in (in_t3 (List.mem_of_getElem? (i := 48) (by decide +kernel))) rfl
theorem q459 : Cond.methodLink RX1 83 yX1_seatBoard ∈ wsL_law := w_in (in_t3 (List.mem_of_getElem? (i := 49) (by decide +kernel))) rfl
theorem q460 : Cond.instanceMethod yX1_seatBoard ∈ wsL_law := w_in (in_t3 (List.mem_of_getElem? (i := 51) (by decide +kernel))) rfl
theorem q461 : Cond.code yX1_seatBoard cX1_seatBoard 4 (none : Option FieldType) ∈ wsL_law := w_in (in_t3 (List.mem_of_getElem? (i := 52) (by decide +kernel))) rfl
theorem q462 : Cond.methodLink RX1 128 yX1_hasWhite ∈ wsL_law := w_in (in_t3 (List.mem_of_getElem? (i := 53) (by decide +kernel))) rfl
theorem q463 : Cond.instanceMethod yX1_hasWhite ∈ wsL_law := w_in (in_t3 (List.mem_of_getElem? (i := 55) (by decide +kernel))) rfl
theorem q464 : Cond.code yX1_hasWhite cX1_hasWhite 8 (some FieldType.boolean) ∈ wsL_law := w_in (in_t3 (List.mem_of_getElem? (i := 56) (by decide +kernel))) rfl
theorem q465 : Cond.methodLink RX1 132 yX0_addBoard ∈ wsL_law := w_in (in_t3 (List.mem_of_getElem? (i := 57) (by decide +kernel))) rfl
theorem q466 : Cond.instanceMethod yX0_addBoard ∈ wsL_law := w_in (in_t3 (List.mem_of_getElem? (i := 58) (by decide +kernel))) rfl
theorem q467 : Cond.selects RX0 yX0_addBoard yX0_addBoard ∈ wsL_law := w_in (in_t3 (List.mem_of_getElem? (i := 59) (by decide +kernel))) rfl
theorem q468 : Cond.code yX0_addBoard cX0_addBoard 5 (none : Option FieldType) ∈ wsL_law := w_in (in_t3 (List.mem_of_getElem? (i := 60) (by decide +kernel))) rfl
theorem q469 : Cond.methodLink RX0 71 yX2_add ∈ wsL_law := w_in (in_t3 (List.mem_of_getElem? (i := 61) (by decide +kernel))) rfl
theorem q470 : Cond.methodLink RL 65 yX6_least ∈ wsL_law := w_in (in_t3 (List.mem_of_getElem? (i := 62) (by decide +kernel))) rfl
theorem q471 : Cond.instanceMethod yX6_least ∈ wsL_law := w_in (in_t3 (List.mem_of_getElem? (i := 63) (by decide +kernel))) rfl
theorem q472 : Cond.selects RX6 yX6_least yX6_least ∈ wsL_law := w_in (in_t3 (List.mem_of_getElem? (i := 64) (by decide +kernel))) rfl
theorem q473 : Cond.code yX6_least cX6_least 1 (some FieldType.int) ∈ wsL_law := w_in (in_t3 (List.mem_of_getElem? (i := 65) (by decide +kernel))) rfl
theorem q474 : Cond.methodLink RL 69 yX6_ways ∈ wsL_law := w_in (in_t3 (List.mem_of_getElem? (i := 66) (by decide +kernel))) rfl
theorem q475 : Cond.instanceMethod yX6_ways ∈ wsL_law := w_in (in_t3 (List.mem_of_getElem? (i := 67) (by decide +kernel))) rfl
theorem q476 : Cond.selects RX6 yX6_ways yX6_ways ∈ wsL_law := w_in (in_t3 (List.mem_of_getElem? (i := 68) (by decide +kernel))) rfl
theorem q477 : Cond.code yX6_ways cX6_ways 1 (some FieldType.int) ∈ wsL_law := w_in (in_t3 (List.mem_of_getElem? (i := 69) (by decide +kernel))) rfl
theorem q478 : Cond.methodLink RX6 163 yX1_countWays ∈ wsL_law := w_in (in_t3 (List.mem_of_getElem? (i := 70) (by decide +kernel))) rfl
theorem q479 : Cond.instanceMethod yX1_countWays ∈ wsL_law := w_in (in_t3 (List.mem_of_getElem? (i := 71) (by decide +kernel))) rfl
theorem q480 : Cond.selects RX1 yX1_countWays yX1_countWays ∈ wsL_law := w_in (in_t3 (List.mem_of_getElem? (i := 72) (by decide +kernel))) rfl
theorem q481 : Cond.code yX1_countWays cX1_countWays 1 (some FieldType.int) ∈ wsL_law := w_in (in_t3 (List.mem_of_getElem? (i := 73) (by decide +kernel))) rfl
theorem q482 : Cond.methodLink RL 73 yX6_board ∈ wsL_law := w_in (in_t3 (List.mem_of_getElem? (i := 74) (by decide +kernel))) rfl
theorem q483 : Cond.instanceMethod yX6_board ∈ wsL_law := w_in (in_t3 (List.mem_of_getElem? (i := 75) (by decide +kernel))) rfl
theorem q484 : Cond.selects RX6 yX6_board yX6_board ∈ wsL_law := w_in (in_t3 (List.mem_of_getElem? (i := 76) (by decide +kernel))) rfl
theorem q485 : Cond.code yX6_board cX6_board 5 (some FieldType.int) ∈ wsL_law := w_in (in_t3 (List.mem_of_getElem? (i := 77) (by decide +kernel))) rfl
theorem q486 : Cond.methodLink RX6 166 yX6_isRound ∈ wsL_law := w_in (in_t3 (List.mem_of_getElem? (i := 78) (by decide +kernel))) rfl
theorem q487 : Cond.instanceMethod yX6_isRound ∈ wsL_law := w_in (in_t3 (List.mem_of_getElem? (i := 80) (by decide +kernel))) rfl
theorem q488 : Cond.code yX6_isRound cX6_isRound 2 (some FieldType.boolean) ∈ wsL_law := w_in (in_t3 (List.mem_of_getElem? (i := 81) (by decide +kernel))) rfl
theorem q489 : Cond.methodLink RX6 169 yX0_boardCell ∈ wsL_law := w_in (in_t3 (List.mem_of_getElem? (i := 82) (by decide +kernel))) rfl
theorem q490 : Cond.methodLink RL 77 yX6_bye ∈ wsL_law := w_in (in_t3 (List.mem_of_getElem? (i := 83) (by decide +kernel))) rfl
theorem q491 : Cond.instanceMethod yX6_bye ∈ wsL_law := w_in (in_t3 (List.mem_of_getElem? (i := 84) (by decide +kernel))) rfl
theorem q492 : Cond.selects RX6 yX6_bye yX6_bye ∈ wsL_law := w_in (in_t3 (List.mem_of_getElem? (i := 85) (by decide +kernel))) rfl
theorem q493 : Cond.code yX6_bye cX6_bye 2 (some FieldType.int) ∈ wsL_law := w_in (in_t3 (List.mem_of_getElem? (i := 86) (by decide +kernel))) rfl
theorem q494 : Cond.methodLink RL 81 yX6_result ∈ wsL_law := w_in (in_t3 (List.mem_of_getElem? (i := 87) (by decide +kernel))) rfl
theorem q495 : Cond.instanceMethod yX6_result ∈ wsL_law := w_in (in_t3 (List.mem_of_getElem? (i := 88) (by decide +kernel))) rfl
theorem q496 : Cond.selects RX6 yX6_result yX6_result ∈ wsL_law := w_in (in_t3 (List.mem_of_getElem? (i := 89) (by decide +kernel))) rfl
theorem q497 : Cond.code yX6_result cX6_result 6 (some FieldType.int) ∈ wsL_law := w_in (in_t3 (List.mem_of_getElem? (i := 90) (by decide +kernel))) rfl
theorem q498 : Cond.methodLink RL 85 yX6_close ∈ wsL_law := w_in (in_t3 (List.mem_of_getElem? (i := 91) (by decide +kernel))) rfl
theorem q499 : Cond.instanceMethod yX6_close ∈ wsL_law := w_in (in_t3 (List.mem_of_getElem? (i := 92) (by decide +kernel))) rfl
theorem q500 : Cond.selects RX6 yX6_close yX6_close ∈ wsL_law := w_in (in_t3 (List.mem_of_getElem? (i := 93) (by decide +kernel))) rfl
theorem q501 : Cond.code yX6_close cX6_close 2 (some FieldType.int) ∈ wsL_law := w_in (in_t3 (List.mem_of_getElem? (i := 94) (by decide +kernel))) rfl
theorem q502 : Cond.methodLink RX6 182 yX0_countOutcomes ∈ wsL_law := w_in (in_t3 (List.mem_of_getElem? (i := 95) (by decide +kernel))) rfl
theorem q503 : Cond.instanceMethod yX0_countOutcomes ∈ wsL_law := w_in (in_t3 (List.mem_of_getElem? (i := 96) (by decide +kernel))) rfl
theorem q504 : Cond.selects RX0 yX0_countOutcomes yX0_countOutcomes ∈ wsL_law := w_in (in_t3 (List.mem_of_getElem? (i := 97) (by decide +kernel))) rfl
theorem q505 : Cond.code yX0_countOutcomes cX0_countOutcomes 4 (some FieldType.int) ∈ wsL_law := w_in (in_t3 (List.mem_of_getElem? (i := 98) (by decide +kernel))) rfl
theorem q506 : Cond.methodLink RL 89 yX6_drop ∈ wsL_law := w_in (in_t3 (List.mem_of_getElem? (i := 99) (by decide +kernel))) rfl
theorem q507 : Cond.instanceMethod yX6_drop ∈ wsL_law := w_in (in_t3 (List.mem_of_getElem? (i := 100) (by decide +kernel))) rfl
theorem q508 : Cond.selects RX6 yX6_drop yX6_drop ∈ wsL_law := w_in (in_t3 (List.mem_of_getElem? (i := 101) (by decide +kernel))) rfl
theorem q509 : Cond.code yX6_drop cX6_drop 1 (some FieldType.int) ∈ wsL_law := w_in (in_t3 (List.mem_of_getElem? (i := 102) (by decide +kernel))) rfl
theorem q510 : Cond.methodLink RL 93 yX6_game ∈ wsL_law := w_in (in_t3 (List.mem_of_getElem? (i := 103) (by decide +kernel))) rfl
theorem q511 : Cond.instanceMethod yX6_game ∈ wsL_law := w_in (in_t3 (List.mem_of_getElem? (i := 104) (by decide +kernel))) rfl
theorem q512 : Cond.selects RX6 yX6_game yX6_game ∈ wsL_law := w_in (in_t3 (List.mem_of_getElem? (i := 105) (by decide +kernel))) rfl
theorem q513 : Cond.code yX6_game cX6_game 5 (some FieldType.int) ∈ wsL_law := w_in (in_t3 (List.mem_of_getElem? (i := 106) (by decide +kernel))) rfl
theorem q514 : Cond.methodLink RX6 185 yX0_boardWith ∈ wsL_law := w_in (in_t3 (List.mem_of_getElem? (i := 107) (by decide +kernel))) rfl
theorem q515 : Cond.instanceMethod yX0_boardWith ∈ wsL_law := w_in (in_t3 (List.mem_of_getElem? (i := 108) (by decide +kernel))) rfl
theorem q516 : Cond.selects RX0 yX0_boardWith yX0_boardWith ∈ wsL_law := w_in (in_t3 (List.mem_of_getElem? (i := 109) (by decide +kernel))) rfl
theorem q517 : Cond.code yX0_boardWith cX0_boardWith 5 (some FieldType.int) ∈ wsL_law := w_in (in_t3 (List.mem_of_getElem? (i := 110) (by decide +kernel))) rfl
theorem q518 : Cond.methodLink RX6 188 yX0_otherAt ∈ wsL_law := w_in (in_t3 (List.mem_of_getElem? (i := 111) (by decide +kernel))) rfl
theorem q519 : Cond.methodLink RX6 192 yX0_colourAt ∈ wsL_law := w_in (in_t3 (List.mem_of_getElem? (i := 112) (by decide +kernel))) rfl
theorem q520 : Cond.methodLink RX6 195 yX0_countDone ∈ wsL_law := w_in (in_t3 (List.mem_of_getElem? (i := 113) (by decide +kernel))) rfl
theorem q521 : Cond.methodLink RX6 198 yX6_pointsMade ∈ wsL_law := w_in (in_t3 (List.mem_of_getElem? (i := 114) (by decide +kernel))) rfl
theorem q522 : Cond.instanceMethod yX6_pointsMade ∈ wsL_law := w_in (in_t3 (List.mem_of_getElem? (i := 116) (by decide +kernel))) rfl
theorem q523 : Cond.code yX6_pointsMade cX6_pointsMade 4 (some FieldType.int) ∈ wsL_law := w_in (in_t3 (List.mem_of_getElem? (i := 117) (by decide +kernel))) rfl
theorem q524 : Cond.methodLink RX6 201 yX0_outcomeFor ∈ wsL_law := w_in (in_t3 (List.mem_of_getElem? (i := 118) (by decide +kernel))) rfl
theorem q525 : Cond.methodLink RX6 204 yX6_pointsFor ∈ wsL_law := w_in (in_t3 (List.mem_of_getElem? (i := 119) (by decide +kernel))) rfl
theorem q526 : Cond.methodLink RL 101 yX6_average ∈ wsL_law := w_in (in_t3 (List.mem_of_getElem? (i := 120) (by decide +kernel))) rfl
theorem q527 : Cond.instanceMethod yX6_average ∈ wsL_law := w_in (in_t3 (List.mem_of_getElem? (i := 121) (by decide +kernel))) rfl
theorem q528 : Cond.selects RX6 yX6_average yX6_average ∈ wsL_law := w_in (in_t3 (List.mem_of_getElem? (i := 122) (by decide +kernel))) rfl
theorem q529 : Cond.code yX6_average cX6_average 6 (some FieldType.int) ∈ wsL_law := w_in (in_t3 (List.mem_of_getElem? (i := 123) (by decide +kernel))) rfl
theorem q530 : Cond.methodLink RX6 207 yX4_sumRatings ∈ wsL_law := w_in (in_t3 (List.mem_of_getElem? (i := 124) (by decide +kernel))) rfl
theorem q531 : Cond.instanceMethod yX4_sumRatings ∈ wsL_law := w_in (in_t3 (List.mem_of_getElem? (i := 125) (by decide +kernel))) rfl
theorem q532 : Cond.selects RX4 yX4_sumRatings yX4_sumRatings ∈ wsL_law := w_in (in_t3 (List.mem_of_getElem? (i := 126) (by decide +kernel))) rfl
theorem q533 : Cond.code yX4_sumRatings cX4_sumRatings 4 (some FieldType.int) ∈ wsL_law := w_in (in_t3 (List.mem_of_getElem? (i := 127) (by decide +kernel))) rfl
theorem q534 : Cond.methodLink RX6 210 yX6_commonDivisor ∈ wsL_law := w_in (in_t3 (List.mem_of_getElem? (i := 128) (by decide +kernel))) rfl
theorem q535 : Cond.static yX6_commonDivisor ∈ wsL_law := w_in (in_t3 (List.mem_of_getElem? (i := 129) (by decide +kernel))) rfl
theorem q536 : Cond.code yX6_commonDivisor cX6_commonDivisor 3 (some FieldType.int) ∈ wsL_law := w_in (in_t3 (List.mem_of_getElem? (i := 130) (by decide +kernel))) rfl
theorem q537 : Cond.methodLink RL 113 yX6_feed ∈ wsL_law := w_in (in_t3 (List.mem_of_getElem? (i := 131) (by decide +kernel))) rfl
theorem q538 : Cond.instanceMethod yX6_feed ∈ wsL_law := w_in (in_t3 (List.mem_of_getElem? (i := 132) (by decide +kernel))) rfl
theorem q539 : Cond.selects RX6 yX6_feed yX6_feed ∈ wsL_law := w_in (in_t3 (List.mem_of_getElem? (i := 133) (by decide +kernel))) rfl
theorem q540 : Cond.code yX6_feed cX6_feed 2 (some FieldType.int) ∈ wsL_law := w_in (in_t3 (List.mem_of_getElem? (i := 134) (by decide +kernel))) rfl
theorem q541 : Cond.methodLink RX6 216 yX5_append ∈ wsL_law := w_in (in_t3 (List.mem_of_getElem? (i := 135) (by decide +kernel))) rfl
theorem q542 : Cond.instanceMethod yX5_append ∈ wsL_law := w_in (in_t3 (List.mem_of_getElem? (i := 136) (by decide +kernel))) rfl
theorem q543 : Cond.selects RX5 yX5_append yX5_append ∈ wsL_law := w_in (in_t3 (List.mem_of_getElem? (i := 137) (by decide +kernel))) rfl
theorem q544 : Cond.code yX5_append cX5_append 2 (none : Option FieldType) ∈ wsL_law := w_in (in_t3 (List.mem_of_getElem? (i := 138) (by decide +kernel))) rfl
theorem q545 : Cond.methodLink RX5 26 yX2_put ∈ wsL_law := w_in (in_t3 (List.mem_of_getElem? (i := 139) (by decide +kernel))) rfl
theorem q546 : Cond.methodLink RL 117 yX6_clear ∈ wsL_law := w_in (in_t3 (List.mem_of_getElem? (i := 140) (by decide +kernel))) rfl
theorem q547 : Cond.instanceMethod yX6_clear ∈ wsL_law := w_in (in_t3 (List.mem_of_getElem? (i := 141) (by decide +kernel))) rfl
theorem q548 : Cond.selects RX6 yX6_clear yX6_clear ∈ wsL_law := w_in (in_t3 (List.mem_of_getElem? (i := 142) (by decide +kernel))) rfl
theorem q549 : Cond.code yX6_clear cX6_clear 2 (some FieldType.int) ∈ wsL_law := w_in (in_t3 (List.mem_of_getElem? (i := 143) (by decide +kernel))) rfl
theorem q550 : Cond.methodLink RL 121 yX6_results ∈ wsL_law := w_in (in_t3 (List.mem_of_getElem? (i := 144) (by decide +kernel))) rfl
theorem q551 : Cond.instanceMethod yX6_results ∈ wsL_law := w_in (in_t3 (List.mem_of_getElem? (i := 145) (by decide +kernel))) rfl
theorem q552 : Cond.selects RX6 yX6_results yX6_results ∈ wsL_law := w_in (in_t3 (List.mem_of_getElem? (i := 146) (by decide +kernel))) rfl
theorem q553 : Cond.code yX6_results cX6_results 2 (some FieldType.int) ∈ wsL_law := w_in (in_t3 (List.mem_of_getElem? (i := 147) (by decide +kernel))) rfl
theorem q554 : Cond.methodLink RX6 219 yX6_readResults ∈ wsL_law := w_in (in_t3 (List.mem_of_getElem? (i := 148) (by decide +kernel))) rfl
theorem q555 : Cond.instanceMethod yX6_readResults ∈ wsL_law := w_in (in_t3 (List.mem_of_getElem? (i := 150) (by decide +kernel))) rfl
theorem q556 : Cond.code yX6_readResults cX6_readResults 6 (some FieldType.int) ∈ wsL_law := w_in (in_t3 (List.mem_of_getElem? (i := 151) (by decide +kernel))) rfl
theorem q557 : Cond.methodLink RX6 222 yX6_faultOfResults ∈ wsL_law := w_in (in_t3 (List.mem_of_getElem? (i := 152) (by decide +kernel))) rfl
theorem q558 : Cond.instanceMethod yX6_faultOfResults ∈ wsL_law := w_in (in_t3 (List.mem_of_getElem? (i := 154) (by decide +kernel))) rfl
theorem q559 : Cond.code yX6_faultOfResults cX6_faultOfResults 3 (some FieldType.int) ∈ wsL_law := w_in (in_t3 (List.mem_of_getElem? (i := 155) (by decide +kernel))) rfl
theorem q560 : Cond.methodLink RX6 227 yX5_byteAt ∈ wsL_law := w_in (in_t3 (List.mem_of_getElem? (i := 157) (by decide +kernel))) rfl
theorem q561 : Cond.instanceMethod yX5_byteAt ∈ wsL_law := w_in (in_t3 (List.mem_of_getElem? (i := 158) (by decide +kernel))) rfl
theorem q562 : Cond.selects RX5 yX5_byteAt yX5_byteAt ∈ wsL_law := w_in (in_t3 (List.mem_of_getElem? (i := 159) (by decide +kernel))) rfl
theorem q563 : Cond.code yX5_byteAt cX5_byteAt 2 (some FieldType.int) ∈ wsL_law := w_in (in_t3 (List.mem_of_getElem? (i := 160) (by decide +kernel))) rfl
theorem q564 : Cond.methodLink RX5 18 yX2_at ∈ wsL_law := w_in (in_t3 (List.mem_of_getElem? (i := 161) (by decide +kernel))) rfl
theorem q565 : Cond.methodLink RX6 230 yJ0_indexOf_0f7a4 ∈ wsL_law := w_in (in_t3 (List.mem_of_getElem? (i := 162) (by decide +kernel))) rfl
theorem q566 : Cond.instanceMethod yJ0_indexOf_0f7a4 ∈ wsL_law := w_in (in_t3 (List.mem_of_getElem? (i := 163) (by decide +kernel))) rfl
theorem q567 : Cond.selects RJ0 yJ0_indexOf_0f7a4 yJ0_indexOf_0f7a4 ∈ wsL_law := w_in (in_t3 (List.mem_of_getElem? (i := 164) (by decide +kernel))) rfl
theorem q568 : Cond.code yJ0_indexOf_0f7a4 cJ0_indexOf_0f7a4 2 (some FieldType.int) ∈ wsL_law := w_in (in_t3 (List.mem_of_getElem? (i := 165) (by decide +kernel))) rfl
theorem q569 : Cond.methodLink RJ0 633 yJ0_indexOf_7cf53 ∈ wsL_law := w_in (in_t3 (List.mem_of_getElem? (i := 166) (by decide +kernel))) rfl
theorem q570 : Cond.instanceMethod yJ0_indexOf_7cf53 ∈ wsL_law := w_in (in_t3 (List.mem_of_getElem? (i := 167) (by decide +kernel))) rfl
theorem q571 : Cond.selects RJ0 yJ0_indexOf_7cf53 yJ0_indexOf_7cf53 ∈ wsL_law := w_in (in_t3 (List.mem_of_getElem? (i := 168) (by decide +kernel))) rfl
theorem q572 : Cond.code yJ0_indexOf_7cf53 cJ0_indexOf_7cf53 3 (some FieldType.int) ∈ wsL_law := w_in (in_t3 (List.mem_of_getElem? (i := 169) (by decide +kernel))) rfl
theorem q573 : Cond.methodLink RJ0 492 yJ0_isLatin1_aae02 ∈ wsL_law := w_in (in_t3 (List.mem_of_getElem? (i := 170) (by decide +kernel))) rfl
theorem q574 : Cond.instanceMethod yJ0_isLatin1_aae02 ∈ wsL_law := w_in (in_t3 (List.mem_of_getElem? (i := 171) (by decide +kernel))) rfl
theorem q575 : Cond.selects RJ0 yJ0_isLatin1_aae02 yJ0_isLatin1_aae02 ∈ wsL_law := w_in (in_t3 (List.mem_of_getElem? (i := 172) (by decide +kernel))) rfl
theorem q576 : Cond.code yJ0_isLatin1_aae02 cJ0_isLatin1_aae02 1 (some FieldType.boolean) ∈ wsL_law := w_in (in_t3 (List.mem_of_getElem? (i := 173) (by decide +kernel))) rfl
theorem q577 : Cond.fieldLink RJ0 38 RJ0 "COMPACT_STRINGS" "Z" ∈ wsL_law := w_in (in_t3 (List.mem_of_getElem? (i := 174) (by decide +kernel))) rfl
theorem q578 : Cond.methodLink RJ0 505 yJ0_length_8abf5 ∈ wsL_law := w_in (in_t3 (List.mem_of_getElem? (i := 176) (by decide +kernel))) rfl
theorem q579 : Cond.instanceMethod yJ0_length_8abf5 ∈ wsL_law := w_in (in_t3 (List.mem_of_getElem? (i := 177) (by decide +kernel))) rfl
theorem q580 : Cond.selects RJ0 yJ0_length_8abf5 yJ0_length_8abf5 ∈ wsL_law := w_in (in_t3 (List.mem_of_getElem? (i := 178) (by decide +kernel))) rfl
theorem q581 : Cond.code yJ0_length_8abf5 cJ0_length_8abf5 1 (some FieldType.int) ∈ wsL_law := w_in (in_t3 (List.mem_of_getElem? (i := 179) (by decide +kernel))) rfl
theorem q582 : Cond.methodLink RJ0 335 yJ0_coder_7d493 ∈ wsL_law := w_in (in_t3 (List.mem_of_getElem? (i := 180) (by decide +kernel))) rfl
theorem q583 : Cond.instanceMethod yJ0_coder_7d493 ∈ wsL_law := w_in (in_t3 (List.mem_of_getElem? (i := 181) (by decide +kernel))) rfl
theorem q584 : Cond.selects RJ0 yJ0_coder_7d493 yJ0_coder_7d493 ∈ wsL_law := w_in (in_t3 (List.mem_of_getElem? (i := 182) (by decide +kernel))) rfl
theorem q585 : Cond.code yJ0_coder_7d493 cJ0_coder_7d493 1 (some FieldType.byte) ∈ wsL_law := w_in (in_t3 (List.mem_of_getElem? (i := 183) (by decide +kernel))) rfl
theorem q586 : Cond.methodLink RJ0 637 yJ1_indexOf_4cfef ∈ wsL_law := w_in (in_t3 (List.mem_of_getElem? (i := 184) (by decide +kernel))) rfl
theorem q587 : Cond.static yJ1_indexOf_4cfef ∈ wsL_law := w_in (in_t3 (List.mem_of_getElem? (i := 185) (by decide +kernel))) rfl
theorem q588 : Cond.code yJ1_indexOf_4cfef cJ1_indexOf_4cfef 4 (some FieldType.int) ∈ wsL_law := w_in (in_t3 (List.mem_of_getElem? (i := 186) (by decide +kernel))) rfl
theorem q589 : Cond.methodLink RJ1 88 yJ1_canEncode_9a6ad ∈ wsL_law := w_in (in_t3 (List.mem_of_getElem? (i := 187) (by decide +kernel))) rfl
theorem q590 : Cond.static yJ1_canEncode_9a6ad ∈ wsL_law := w_in (in_t3 (List.mem_of_getElem? (i := 188) (by decide +kernel))) rfl
theorem q591 : Cond.code yJ1_canEncode_9a6ad cJ1_canEncode_9a6ad 1 (some FieldType.boolean) ∈ wsL_law := w_in (in_t3 (List.mem_of_getElem? (i := 189) (by decide +kernel))) rfl
theorem q592 : Cond.methodLink RJ1 92 yJ9_max_7cf53 ∈ wsL_law := w_in (in_t3 (List.mem_of_getElem? (i := 190) (by decide +kernel))) rfl
theorem q593 : Cond.methodLink RJ1 38 yJ9_min_7cf53 ∈ wsL_law := w_in (in_t3 (List.mem_of_getElem? (i := 191) (by decide +kernel))) rfl
theorem q594 : Cond.methodLink RJ1 95 yJ1_indexOfChar_4cfef ∈ wsL_law := w_in (in_t3 (List.mem_of_getElem? (i := 192) (by decide +kernel))) rfl
theorem q595 : Cond.static yJ1_indexOfChar_4cfef ∈ wsL_law := w_in (in_t3 (List.mem_of_getElem? (i := 193) (by decide +kernel))) rfl
theorem q596 : Cond.code yJ1_indexOfChar_4cfef cJ1_indexOfChar_4cfef 6 (some FieldType.int) ∈ wsL_law := w_in (in_t3 (List.mem_of_getElem? (i := 194) (by decide +kernel))) rfl
theorem q597 : Cond.methodLink RJ0 640 yJ2_indexOf_4cfef ∈ wsL_law := w_in (in_t3 (List.mem_of_getElem? (i := 195) (by decide +kernel))) rfl
theorem q598 : Cond.static yJ2_indexOf_4cfef ∈ wsL_law := w_in (in_t3 (List.mem_of_getElem? (i := 196) (by decide +kernel))) rfl
theorem q599 : Cond.code yJ2_indexOf_4cfef cJ2_indexOf_4cfef 4 (some FieldType.int) ∈ wsL_law := w_in (in_t3 (List.mem_of_getElem? (i := 197) (by decide +kernel))) rfl
theorem q600 : Cond.methodLink RJ2 224 yJ9_max_7cf53 ∈ wsL_law := w_in (in_t3 (List.mem_of_getElem? (i := 198) (by decide +kernel))) rfl
theorem q601 : Cond.methodLink RJ2 183 yJ9_min_7cf53 ∈ wsL_law := w_in (in_t3 (List.mem_of_getElem? (i := 199) (by decide +kernel))) rfl
theorem q602 : Cond.constant RJ2 227 65536 ∈ wsL_law := w_in (in_t3 (List.mem_of_getElem? (i := 200) (by decide +kernel))) rfl
theorem q603 : Cond.methodLink RJ2 228 yJ2_indexOfChar_4cfef ∈ wsL_law := w_in (in_t3 (List.mem_of_getElem? (i := 201) (by decide +kernel))) rfl
theorem q604 : Cond.static yJ2_indexOfChar_4cfef ∈ wsL_law := w_in (in_t3 (List.mem_of_getElem? (i := 202) (by decide +kernel))) rfl
theorem q605 : Cond.code yJ2_indexOfChar_4cfef cJ2_indexOfChar_4cfef 4 (some FieldType.int) ∈ wsL_law := w_in (in_t3 (List.mem_of_getElem? (i := 203) (by decide +kernel))) rfl
theorem q606 : Cond.methodLink RJ2 96 yJ2_checkBoundsBeginEnd_d044e ∈ wsL_law := w_in (in_t3 (List.mem_of_getElem? (i := 204) (by decide +kernel))) rfl
theorem q607 : Cond.static yJ2_checkBoundsBeginEnd_d044e ∈ wsL_law := w_in (in_t3 (List.mem_of_getElem? (i := 205) (by decide +kernel))) rfl
theorem q608 : Cond.code yJ2_checkBoundsBeginEnd_d044e cJ2_checkBoundsBeginEnd_d044e 3 (none : Option FieldType) ∈ wsL_law := w_in (in_t3 (List.mem_of_getElem? (i := 206) (by decide +kernel))) rfl
theorem q609 : Cond.methodLink RJ2 48 yJ2_length_9d52b ∈ wsL_law := w_in (in_t3 (List.mem_of_getElem? (i := 207) (by decide +kernel))) rfl
theorem q610 : Cond.static yJ2_length_9d52b ∈ wsL_law := w_in (in_t3 (List.mem_of_getElem? (i := 208) (by decide +kernel))) rfl
theorem q611 : Cond.code yJ2_length_9d52b cJ2_length_9d52b 1 (some FieldType.int) ∈ wsL_law := w_in (in_t3 (List.mem_of_getElem? (i := 209) (by decide +kernel))) rfl
theorem q612 : Cond.methodLink RJ2 241 yJ0_checkBoundsBeginEnd_23922 ∈ wsL_law := w_in (in_t3 (List.mem_of_getElem? (i := 210) (by decide +kernel))) rfl
theorem q613 : Cond.static yJ0_checkBoundsBeginEnd_23922 ∈ wsL_law := w_in (in_t3 (List.mem_of_getElem? (i := 211) (by decide +kernel))) rfl
theorem q614 : Cond.code yJ0_checkBoundsBeginEnd_23922 cJ0_checkBoundsBeginEnd_23922 3 (none : Option FieldType) ∈ wsL_law := w_in (in_t3 (List.mem_of_getElem? (i := 212) (by decide +kernel))) rfl
theorem q615 : Cond.fieldLink RJ0 1053 RJ3 "SIOOBE_FORMATTER" "Ljava/util/function/BiFunction;" ∈ wsL_law := w_in (in_t3 (List.mem_of_getElem? (i := 213) (by decide +kernel))) rfl
theorem q616 : Cond.methodLink RJ0 1062 yJ3_checkFromToIndex_8c36e ∈ wsL_law := w_in (in_t3 (List.mem_of_getElem? (i := 215) (by decide +kernel))) rfl
theorem q617 : Cond.static yJ3_checkFromToIndex_8c36e ∈ wsL_law := w_in (in_t3 (List.mem_of_getElem? (i := 216) (by decide +kernel))) rfl
theorem q618 : Cond.code yJ3_checkFromToIndex_8c36e cJ3_checkFromToIndex_8c36e 4 (some FieldType.int) ∈ wsL_law := w_in (in_t3 (List.mem_of_getElem? (i := 217) (by decide +kernel))) rfl
theorem q619 : Cond.methodLink RJ2 244 yJ2_indexOfCharUnsafe_4cfef ∈ wsL_law := w_in (in_t3 (List.mem_of_getElem? (i := 218) (by decide +kernel))) rfl
theorem q620 : Cond.static yJ2_indexOfCharUnsafe_4cfef ∈ wsL_law := w_in (in_t3 (List.mem_of_getElem? (i := 219) (by decide +kernel))) rfl
theorem q621 : Cond.code yJ2_indexOfCharUnsafe_4cfef cJ2_indexOfCharUnsafe_4cfef 5 (some FieldType.int) ∈ wsL_law := w_in (in_t3 (List.mem_of_getElem? (i := 220) (by decide +kernel))) rfl
theorem q622 : Cond.methodLink RJ2 71 yJ2_getChar_3b067 ∈ wsL_law := w_in (in_t3 (List.mem_of_getElem? (i := 221) (by decide +kernel))) rfl
theorem q623 : Cond.static yJ2_getChar_3b067 ∈ wsL_law := w_in (in_t3 (List.mem_of_getElem? (i := 222) (by decide +kernel))) rfl
theorem q624 : Cond.code yJ2_getChar_3b067 cJ2_getChar_3b067 2 (some FieldType.char) ∈ wsL_law := w_in (in_t3 (List.mem_of_getElem? (i := 223) (by decide +kernel))) rfl
theorem q625 : Cond.fieldLink RJ2 44 RJ2 "$assertionsDisabled" "Z" ∈ wsL_law := w_in (in_t3 (List.mem_of_getElem? (i := 224) (by decide +kernel))) rfl
theorem q626 : Cond.fieldLink RJ2 59 RJ2 "HI_BYTE_SHIFT" "I" ∈ wsL_law := w_in (in_t3 (List.mem_of_getElem? (i := 226) (by decide +kernel))) rfl
theorem q627 : Cond.fieldLink RJ2 63 RJ2 "LO_BYTE_SHIFT" "I" ∈ wsL_law := w_in (in_t3 (List.mem_of_getElem? (i := 228) (by decide +kernel))) rfl
theorem q628 : Cond.methodLink RJ2 232 yJ2_indexOfSupplementary_4cfef ∈ wsL_law := w_in (in_t3 (List.mem_of_getElem? (i := 230) (by decide +kernel))) rfl
theorem q629 : Cond.static yJ2_indexOfSupplementary_4cfef ∈ wsL_law := w_in (in_t3 (List.mem_of_getElem? (i := 231) (by decide +kernel))) rfl
theorem q630 : Cond.code yJ2_indexOfSupplementary_4cfef cJ2_indexOfSupplementary_4cfef 7 (some FieldType.int) ∈ wsL_law := w_in (in_t3 (List.mem_of_getElem? (i := 232) (by decide +kernel))) rfl
theorem q631 : Cond.methodLink RJ2 164 yJ11_isValidCodePoint_9a6ad ∈ wsL_law := w_in (in_t3 (List.mem_of_getElem? (i := 233) (by decide +kernel))) rfl
theorem q632 : Cond.static yJ11_isValidCodePoint_9a6ad ∈ wsL_law := w_in (in_t3 (List.mem_of_getElem? (i := 234) (by decide +kernel))) rfl
theorem q633 : Cond.code yJ11_isValidCodePoint_9a6ad cJ11_isValidCodePoint_9a6ad 2 (some FieldType.boolean) ∈ wsL_law := w_in (in_t3 (List.mem_of_getElem? (i := 235) (by decide +kernel))) rfl
theorem q634 : Cond.methodLink RJ2 157 yJ11_highSurrogate_5068e ∈ wsL_law := w_in (in_t3 (List.mem_of_getElem? (i := 236) (by decide +kernel))) rfl
theorem q635 : Cond.static yJ11_highSurrogate_5068e ∈ wsL_law := w_in (in_t3 (List.mem_of_getElem? (i := 237) (by decide +kernel))) rfl
theorem q636 : Cond.code yJ11_highSurrogate_5068e cJ11_highSurrogate_5068e 1 (some FieldType.char) ∈ wsL_law := w_in (in_t3 (List.mem_of_getElem? (i := 238) (by decide +kernel))) rfl
theorem q637 : Cond.constant RJ11 110 55232 ∈ wsL_law := w_in (in_t3 (List.mem_of_getElem? (i := 239) (by decide +kernel))) rfl
theorem q638 : Cond.methodLink RJ2 161 yJ11_lowSurrogate_5068e ∈ wsL_law := w_in (in_t4 (List.mem_of_getElem? (i := 0) (by decide +kernel))) rfl
theorem q639 : Cond.static yJ11_lowSurrogate_5068e ∈ wsL_law := w_in (in_t4 (List.mem_of_getElem? (i := 1) (by decide +kernel))) rfl
theorem q640 : Cond.code yJ11_lowSurrogate_5068e cJ11_lowSurrogate_5068e 1 (some FieldType.char) ∈ wsL_law := w_in (in_t4 (List.mem_of_getElem? (i := 2) (by decide +kernel))) rfl
theorem q641 : Cond.constant RJ11 76 56320 ∈ wsL_law := w_in (in_t4 (List.mem_of_getElem? (i := 3) (by decide +kernel))) rfl
theorem q642 : Cond.arrayClass FieldType.byte ∈ wsL_law := w_in (in_t4 (List.mem_of_getElem? (i := 4) (by decide +kernel))) rfl
theorem q643 : Cond.methodLink RL 125 yX6_order ∈ wsL_law := w_in (in_t4 (List.mem_of_getElem? (i := 5) (by decide +kernel))) rfl
theorem q644 : Cond.instanceMethod yX6_order ∈ wsL_law := w_in (in_t4 (List.mem_of_getElem? (i := 6) (by decide +kernel))) rfl
theorem q645 : Cond.selects RX6 yX6_order yX6_order ∈ wsL_law := w_in (in_t4 (List.mem_of_getElem? (i := 7) (by decide +kernel))) rfl
theorem q646 : Cond.code yX6_order cX6_order 2 (some FieldType.int) ∈ wsL_law := w_in (in_t4 (List.mem_of_getElem? (i := 8) (by decide +kernel))) rfl
theorem q647 : Cond.methodLink RX6 235 yX6_faultOfOrder ∈ wsL_law := w_in (in_t4 (List.mem_of_getElem? (i := 9) (by decide +kernel))) rfl
theorem q648 : Cond.instanceMethod yX6_faultOfOrder ∈ wsL_law := w_in (in_t4 (List.mem_of_getElem? (i := 11) (by decide +kernel))) rfl
theorem q649 : Cond.code yX6_faultOfOrder cX6_faultOfOrder 4 (some FieldType.int) ∈ wsL_law := w_in (in_t4 (List.mem_of_getElem? (i := 12) (by decide +kernel))) rfl
theorem q650 : Cond.methodLink RX6 238 yX6_readOrder ∈ wsL_law := w_in (in_t4 (List.mem_of_getElem? (i := 14) (by decide +kernel))) rfl
theorem q651 : Cond.instanceMethod yX6_readOrder ∈ wsL_law := w_in (in_t4 (List.mem_of_getElem? (i := 16) (by decide +kernel))) rfl
theorem q652 : Cond.code yX6_readOrder cX6_readOrder 2 (none : Option FieldType) ∈ wsL_law := w_in (in_t4 (List.mem_of_getElem? (i := 17) (by decide +kernel))) rfl
theorem q653 : Cond.methodLink RL 129 yX6_ordered ∈ wsL_law := w_in (in_t4 (List.mem_of_getElem? (i := 18) (by decide +kernel))) rfl
theorem q654 : Cond.instanceMethod yX6_ordered ∈ wsL_law := w_in (in_t4 (List.mem_of_getElem? (i := 19) (by decide +kernel))) rfl
theorem q655 : Cond.selects RX6 yX6_ordered yX6_ordered ∈ wsL_law := w_in (in_t4 (List.mem_of_getElem? (i := 20) (by decide +kernel))) rfl
theorem q656 : Cond.code yX6_ordered cX6_ordered 2 (some FieldType.int) ∈ wsL_law := w_in (in_t4 (List.mem_of_getElem? (i := 21) (by decide +kernel))) rfl
theorem q657 : Cond.methodLink RL 133 yX6_line ∈ wsL_law := w_in (in_t4 (List.mem_of_getElem? (i := 22) (by decide +kernel))) rfl
theorem q658 : Cond.instanceMethod yX6_line ∈ wsL_law := w_in (in_t4 (List.mem_of_getElem? (i := 23) (by decide +kernel))) rfl
theorem q659 : Cond.selects RX6 yX6_line yX6_line ∈ wsL_law := w_in (in_t4 (List.mem_of_getElem? (i := 24) (by decide +kernel))) rfl
theorem q660 : Cond.code yX6_line cX6_line 3 (some FieldType.int) ∈ wsL_law := w_in (in_t4 (List.mem_of_getElem? (i := 25) (by decide +kernel))) rfl
theorem q661 : Cond.methodLink RX6 249 yX5_appendNumber ∈ wsL_law := w_in (in_t4 (List.mem_of_getElem? (i := 26) (by decide +kernel))) rfl
theorem q662 : Cond.instanceMethod yX5_appendNumber ∈ wsL_law := w_in (in_t4 (List.mem_of_getElem? (i := 27) (by decide +kernel))) rfl
theorem q663 : Cond.selects RX5 yX5_appendNumber yX5_appendNumber ∈ wsL_law := w_in (in_t4 (List.mem_of_getElem? (i := 28) (by decide +kernel))) rfl
theorem q664 : Cond.code yX5_appendNumber cX5_appendNumber 2 (none : Option FieldType) ∈ wsL_law := w_in (in_t4 (List.mem_of_getElem? (i := 29) (by decide +kernel))) rfl
theorem q665 : Cond.methodLink RX5 30 yX5_append ∈ wsL_law := w_in (in_t4 (List.mem_of_getElem? (i := 30) (by decide +kernel))) rfl
theorem q666 : Cond.methodLink RX6 252 yX6_writeHalved ∈ wsL_law := w_in (in_t4 (List.mem_of_getElem? (i := 31) (by decide +kernel))) rfl
theorem q667 : Cond.instanceMethod yX6_writeHalved ∈ wsL_law := w_in (in_t4 (List.mem_of_getElem? (i := 33) (by decide +kernel))) rfl
theorem q668 : Cond.code yX6_writeHalved cX6_writeHalved 2 (none : Option FieldType) ∈ wsL_law := w_in (in_t4 (List.mem_of_getElem? (i := 34) (by decide +kernel))) rfl
theorem q669 : Cond.methodLink RX6 255 yX6_writeRound ∈ wsL_law := w_in (in_t4 (List.mem_of_getElem? (i := 35) (by decide +kernel))) rfl
theorem q670 : Cond.instanceMethod yX6_writeRound ∈ wsL_law := w_in (in_t4 (List.mem_of_getElem? (i := 37) (by decide +kernel))) rfl
theorem q671 : Cond.code yX6_writeRound cX6_writeRound 4 (none : Option FieldType) ∈ wsL_law := w_in (in_t4 (List.mem_of_getElem? (i := 38) (by decide +kernel))) rfl
theorem q672 : Cond.methodLink RX6 258 yX6_markFor ∈ wsL_law := w_in (in_t4 (List.mem_of_getElem? (i := 39) (by decide +kernel))) rfl
theorem q673 : Cond.static yX6_markFor ∈ wsL_law := w_in (in_t4 (List.mem_of_getElem? (i := 40) (by decide +kernel))) rfl
theorem q674 : Cond.code yX6_markFor cX6_markFor 1 (some FieldType.char) ∈ wsL_law := w_in (in_t4 (List.mem_of_getElem? (i := 41) (by decide +kernel))) rfl
theorem q675 : Cond.methodLink RL 137 yX6_paper ∈ wsL_law := w_in (in_t4 (List.mem_of_getElem? (i := 42) (by decide +kernel))) rfl
theorem q676 : Cond.instanceMethod yX6_paper ∈ wsL_law := w_in (in_t4 (List.mem_of_getElem? (i := 43) (by decide +kernel))) rfl
theorem q677 : Cond.selects RX6 yX6_paper yX6_paper ∈ wsL_law := w_in (in_t4 (List.mem_of_getElem? (i := 44) (by decide +kernel))) rfl
theorem q678 : Cond.code yX6_paper cX6_paper 2 (some FieldType.int) ∈ wsL_law := w_in (in_t4 (List.mem_of_getElem? (i := 45) (by decide +kernel))) rfl
theorem q679 : Cond.methodLink RL 141 yX6_told ∈ wsL_law := w_in (in_t4 (List.mem_of_getElem? (i := 46) (by decide +kernel))) rfl
theorem q680 : Cond.instanceMethod yX6_told ∈ wsL_law := w_in (in_t4 (List.mem_of_getElem? (i := 47) (by decide +kernel))) rfl
theorem q681 : Cond.selects RX6 yX6_told yX6_told ∈ wsL_law := w_in (in_t4 (List.mem_of_getElem? (i := 48) (by decide +kernel))) rfl
theorem q682 : Cond.code yX6_told cX6_told 2 (some FieldType.int) ∈ wsL_law := w_in (in_t4 (List.mem_of_getElem? (i := 49) (by decide +kernel))) rfl
theorem q683 : Cond.methodLink RX6 262 yX4_countMeetings ∈ wsL_law := w_in (in_t4 (List.mem_of_getElem? (i := 50) (by decide +kernel))) rfl
theorem q684 : Cond.instanceMethod yX4_countMeetings ∈ wsL_law := w_in (in_t4 (List.mem_of_getElem? (i := 51) (by decide +kernel))) rfl
theorem q685 : Cond.selects RX4 yX4_countMeetings yX4_countMeetings ∈ wsL_law := w_in (in_t4 (List.mem_of_getElem? (i := 52) (by decide +kernel))) rfl
theorem q686 : Cond.code yX4_countMeetings cX4_countMeetings 3 (some FieldType.int) ∈ wsL_law := w_in (in_t4 (List.mem_of_getElem? (i := 53) (by decide +kernel))) rfl
theorem q687 : Cond.methodLink RX4 164 yX4_countMet ∈ wsL_law := w_in (in_t4 (List.mem_of_getElem? (i := 54) (by decide +kernel))) rfl
theorem q688 : Cond.methodLink RX6 265 yX4_sumPoints ∈ wsL_law := w_in (in_t4 (List.mem_of_getElem? (i := 55) (by decide +kernel))) rfl
theorem q689 : Cond.instanceMethod yX4_sumPoints ∈ wsL_law := w_in (in_t4 (List.mem_of_getElem? (i := 56) (by decide +kernel))) rfl
theorem q690 : Cond.selects RX4 yX4_sumPoints yX4_sumPoints ∈ wsL_law := w_in (in_t4 (List.mem_of_getElem? (i := 57) (by decide +kernel))) rfl
theorem q691 : Cond.code yX4_sumPoints cX4_sumPoints 3 (some FieldType.int) ∈ wsL_law := w_in (in_t4 (List.mem_of_getElem? (i := 58) (by decide +kernel))) rfl
theorem q692 : Cond.methodLink RL 145 yX6_list ∈ wsL_law := w_in (in_t4 (List.mem_of_getElem? (i := 59) (by decide +kernel))) rfl
theorem q693 : Cond.instanceMethod yX6_list ∈ wsL_law := w_in (in_t4 (List.mem_of_getElem? (i := 60) (by decide +kernel))) rfl
theorem q694 : Cond.selects RX6 yX6_list yX6_list ∈ wsL_law := w_in (in_t4 (List.mem_of_getElem? (i := 61) (by decide +kernel))) rfl
theorem q695 : Cond.code yX6_list cX6_list 3 (some FieldType.int) ∈ wsL_law := w_in (in_t4 (List.mem_of_getElem? (i := 62) (by decide +kernel))) rfl
theorem q696 : Cond.methodLink RX6 268 yX3_isList ∈ wsL_law := w_in (in_t4 (List.mem_of_getElem? (i := 63) (by decide +kernel))) rfl
theorem q697 : Cond.static yX3_isList ∈ wsL_law := w_in (in_t4 (List.mem_of_getElem? (i := 64) (by decide +kernel))) rfl
theorem q698 : Cond.code yX3_isList cX3_isList 1 (some FieldType.boolean) ∈ wsL_law := w_in (in_t4 (List.mem_of_getElem? (i := 65) (by decide +kernel))) rfl
theorem q699 : Cond.methodLink RX6 271 yX3_hold ∈ wsL_law := w_in (in_t4 (List.mem_of_getElem? (i := 66) (by decide +kernel))) rfl
theorem q700 : Cond.instanceMethod yX3_hold ∈ wsL_law := w_in (in_t4 (List.mem_of_getElem? (i := 67) (by decide +kernel))) rfl
theorem q701 : Cond.selects RX3 yX3_hold yX3_hold ∈ wsL_law := w_in (in_t4 (List.mem_of_getElem? (i := 68) (by decide +kernel))) rfl
theorem q702 : Cond.code yX3_hold cX3_hold 4 (none : Option FieldType) ∈ wsL_law := w_in (in_t4 (List.mem_of_getElem? (i := 69) (by decide +kernel))) rfl
theorem q703 : Cond.methodLink RX3 30 yX2_put ∈ wsL_law := w_in (in_t4 (List.mem_of_getElem? (i := 70) (by decide +kernel))) rfl
theorem q704 : Cond.methodLink RX3 34 yX3_putAt ∈ wsL_law := w_in (in_t4 (List.mem_of_getElem? (i := 71) (by decide +kernel))) rfl
theorem q705 : Cond.instanceMethod yX3_putAt ∈ wsL_law := w_in (in_t4 (List.mem_of_getElem? (i := 72) (by decide +kernel))) rfl
theorem q706 : Cond.selects RX3 yX3_putAt yX3_putAt ∈ wsL_law := w_in (in_t4 (List.mem_of_getElem? (i := 73) (by decide +kernel))) rfl
theorem q707 : Cond.code yX3_putAt cX3_putAt 4 (none : Option FieldType) ∈ wsL_law := w_in (in_t4 (List.mem_of_getElem? (i := 74) (by decide +kernel))) rfl
theorem q708 : Cond.methodLink RL 149 yX6_set ∈ wsL_law := w_in (in_t4 (List.mem_of_getElem? (i := 75) (by decide +kernel))) rfl
theorem q709 : Cond.instanceMethod yX6_set ∈ wsL_law := w_in (in_t4 (List.mem_of_getElem? (i := 76) (by decide +kernel))) rfl
theorem q710 : Cond.selects RX6 yX6_set yX6_set ∈ wsL_law := w_in (in_t4 (List.mem_of_getElem? (i := 77) (by decide +kernel))) rfl
theorem q711 : Cond.code yX6_set cX6_set 5 (some FieldType.int) ∈ wsL_law := w_in (in_t4 (List.mem_of_getElem? (i := 78) (by decide +kernel))) rfl
theorem q712 : Cond.methodLink RX6 274 yX6_refusalOfList ∈ wsL_law := w_in (in_t4 (List.mem_of_getElem? (i := 79) (by decide +kernel))) rfl
theorem q713 : Cond.instanceMethod yX6_refusalOfList ∈ wsL_law := w_in (in_t4 (List.mem_of_getElem? (i := 81) (by decide +kernel))) rfl
theorem q714 : Cond.code yX6_refusalOfList cX6_refusalOfList 2 (some FieldType.int) ∈ wsL_law := w_in (in_t4 (List.mem_of_getElem? (i := 82) (by decide +kernel))) rfl
theorem q715 : Cond.methodLink RX6 288 yX3_isHeld ∈ wsL_law := w_in (in_t4 (List.mem_of_getElem? (i := 83) (by decide +kernel))) rfl
theorem q716 : Cond.instanceMethod yX3_isHeld ∈ wsL_law := w_in (in_t4 (List.mem_of_getElem? (i := 84) (by decide +kernel))) rfl
theorem q717 : Cond.selects RX3 yX3_isHeld yX3_isHeld ∈ wsL_law := w_in (in_t4 (List.mem_of_getElem? (i := 85) (by decide +kernel))) rfl
theorem q718 : Cond.code yX3_isHeld cX3_isHeld 2 (some FieldType.boolean) ∈ wsL_law := w_in (in_t4 (List.mem_of_getElem? (i := 86) (by decide +kernel))) rfl
theorem q719 : Cond.methodLink RX3 26 yX2_at ∈ wsL_law := w_in (in_t4 (List.mem_of_getElem? (i := 87) (by decide +kernel))) rfl
theorem q720 : Cond.methodLink RX6 277 yX3_hasPlace ∈ wsL_law := w_in (in_t4 (List.mem_of_getElem? (i := 88) (by decide +kernel))) rfl
theorem q721 : Cond.instanceMethod yX3_hasPlace ∈ wsL_law := w_in (in_t4 (List.mem_of_getElem? (i := 89) (by decide +kernel))) rfl
theorem q722 : Cond.selects RX3 yX3_hasPlace yX3_hasPlace ∈ wsL_law := w_in (in_t4 (List.mem_of_getElem? (i := 90) (by decide +kernel))) rfl
theorem q723 : Cond.code yX3_hasPlace cX3_hasPlace 3 (some FieldType.boolean) ∈ wsL_law := w_in (in_t4 (List.mem_of_getElem? (i := 91) (by decide +kernel))) rfl
theorem q724 : Cond.methodLink RX6 280 yX3_putAt ∈ wsL_law := w_in (in_t4 (List.mem_of_getElem? (i := 92) (by decide +kernel))) rfl
theorem q725 : Cond.methodLink RL 153 yX6_get ∈ wsL_law := w_in (in_t4 (List.mem_of_getElem? (i := 93) (by decide +kernel))) rfl
theorem q726 : Cond.instanceMethod yX6_get ∈ wsL_law := w_in (in_t4 (List.mem_of_getElem? (i := 94) (by decide +kernel))) rfl
theorem q727 : Cond.selects RX6 yX6_get yX6_get ∈ wsL_law := w_in (in_t4 (List.mem_of_getElem? (i := 95) (by decide +kernel))) rfl
theorem q728 : Cond.code yX6_get cX6_get 3 (some FieldType.int) ∈ wsL_law := w_in (in_t4 (List.mem_of_getElem? (i := 96) (by decide +kernel))) rfl
theorem q729 : Cond.constant RX6 284 (-2000000000) ∈ wsL_law := w_in (in_t4 (List.mem_of_getElem? (i := 97) (by decide +kernel))) rfl
theorem q730 : Cond.methodLink RX6 285 yX3_valueAt ∈ wsL_law := w_in (in_t4 (List.mem_of_getElem? (i := 98) (by decide +kernel))) rfl
theorem q731 : Cond.instanceMethod yX3_valueAt ∈ wsL_law := w_in (in_t4 (List.mem_of_getElem? (i := 99) (by decide +kernel))) rfl
theorem q732 : Cond.selects RX3 yX3_valueAt yX3_valueAt ∈ wsL_law := w_in (in_t4 (List.mem_of_getElem? (i := 100) (by decide +kernel))) rfl
theorem q733 : Cond.code yX3_valueAt cX3_valueAt 3 (some FieldType.int) ∈ wsL_law := w_in (in_t4 (List.mem_of_getElem? (i := 101) (by decide +kernel))) rfl
theorem q734 : Cond.methodLink RL 157 yX6_lay ∈ wsL_law := w_in (in_t4 (List.mem_of_getElem? (i := 102) (by decide +kernel))) rfl
theorem q735 : Cond.instanceMethod yX6_lay ∈ wsL_law := w_in (in_t4 (List.mem_of_getElem? (i := 103) (by decide +kernel))) rfl
theorem q736 : Cond.selects RX6 yX6_lay yX6_lay ∈ wsL_law := w_in (in_t4 (List.mem_of_getElem? (i := 104) (by decide +kernel))) rfl
theorem q737 : Cond.code yX6_lay cX6_lay 5 (some FieldType.int) ∈ wsL_law := w_in (in_t4 (List.mem_of_getElem? (i := 105) (by decide +kernel))) rfl
theorem q738 : Cond.methodLink RL 161 yX6_judge ∈ wsL_law := w_in (in_t4 (List.mem_of_getElem? (i := 106) (by decide +kernel))) rfl
theorem q739 : Cond.instanceMethod yX6_judge ∈ wsL_law := w_in (in_t4 (List.mem_of_getElem? (i := 107) (by decide +kernel))) rfl
theorem q740 : Cond.selects RX6 yX6_judge yX6_judge ∈ wsL_law := w_in (in_t4 (List.mem_of_getElem? (i := 108) (by decide +kernel))) rfl
theorem q741 : Cond.code yX6_judge cX6_judge 5 (some FieldType.int) ∈ wsL_law := w_in (in_t4 (List.mem_of_getElem? (i := 109) (by decide +kernel))) rfl
theorem q742 : Cond.methodLink RL 165 yX6_image ∈ wsL_law := w_in (in_t4 (List.mem_of_getElem? (i := 110) (by decide +kernel))) rfl
theorem q743 : Cond.instanceMethod yX6_image ∈ wsL_law := w_in (in_t4 (List.mem_of_getElem? (i := 111) (by decide +kernel))) rfl
theorem q744 : Cond.selects RX6 yX6_image yX6_image ∈ wsL_law := w_in (in_t4 (List.mem_of_getElem? (i := 112) (by decide +kernel))) rfl
theorem q745 : Cond.code yX6_image cX6_image 1 (some FieldType.int) ∈ wsL_law := w_in (in_t4 (List.mem_of_getElem? (i := 113) (by decide +kernel))) rfl
theorem q746 : Cond.methodLink RX6 291 yX0_copy ∈ wsL_law := w_in (in_t4 (List.mem_of_getElem? (i := 114) (by decide +kernel))) rfl
theorem q747 : Cond.instanceMethod yX0_copy ∈ wsL_law := w_in (in_t4 (List.mem_of_getElem? (i := 115) (by decide +kernel))) rfl
theorem q748 : Cond.selects RX0 yX0_copy yX0_copy ∈ wsL_law := w_in (in_t4 (List.mem_of_getElem? (i := 116) (by decide +kernel))) rfl
theorem q749 : Cond.code yX0_copy cX0_copy 2 (none : Option FieldType) ∈ wsL_law := w_in (in_t4 (List.mem_of_getElem? (i := 117) (by decide +kernel))) rfl
theorem q750 : Cond.methodLink RX0 52 yX2_copy ∈ wsL_law := w_in (in_t4 (List.mem_of_getElem? (i := 118) (by decide +kernel))) rfl
theorem q751 : Cond.instanceMethod yX2_copy ∈ wsL_law := w_in (in_t4 (List.mem_of_getElem? (i := 119) (by decide +kernel))) rfl
theorem q752 : Cond.selects RX2 yX2_copy yX2_copy ∈ wsL_law := w_in (in_t4 (List.mem_of_getElem? (i := 120) (by decide +kernel))) rfl
theorem q753 : Cond.code yX2_copy cX2_copy 3 (none : Option FieldType) ∈ wsL_law := w_in (in_t4 (List.mem_of_getElem? (i := 121) (by decide +kernel))) rfl
theorem q754 : Cond.methodLink RX2 19 yX2_at ∈ wsL_law := w_in (in_t4 (List.mem_of_getElem? (i := 122) (by decide +kernel))) rfl
theorem q755 : Cond.methodLink RL 169 yX6_undo ∈ wsL_law := w_in (in_t4 (List.mem_of_getElem? (i := 123) (by decide +kernel))) rfl
theorem q756 : Cond.instanceMethod yX6_undo ∈ wsL_law := w_in (in_t4 (List.mem_of_getElem? (i := 124) (by decide +kernel))) rfl
theorem q757 : Cond.selects RX6 yX6_undo yX6_undo ∈ wsL_law := w_in (in_t4 (List.mem_of_getElem? (i := 125) (by decide +kernel))) rfl
theorem q758 : Cond.code yX6_undo cX6_undo 1 (some FieldType.int) ∈ wsL_law := w_in (in_t4 (List.mem_of_getElem? (i := 126) (by decide +kernel))) rfl
theorem q759 : Cond.classLink RL 10 RX7 ∈ wsL_law := w_in (in_t4 (List.mem_of_getElem? (i := 127) (by decide +kernel))) rfl
theorem q760 : Cond.instantiable RX7 33 ∈ wsL_law := w_in (in_t4 (List.mem_of_getElem? (i := 128) (by decide +kernel))) rfl
theorem q761 : Cond.methodLink RL 12 yX7_init ∈ wsL_law := w_in (in_t4 (List.mem_of_getElem? (i := 129) (by decide +kernel))) rfl
theorem q762 : Cond.instanceMethod yX7_init ∈ wsL_law := w_in (in_t4 (List.mem_of_getElem? (i := 130) (by decide +kernel))) rfl
theorem q763 : Cond.code yX7_init cX7_init 1 (none : Option FieldType) ∈ wsL_law := w_in (in_t4 (List.mem_of_getElem? (i := 131) (by decide +kernel))) rfl
theorem q764 : Cond.methodLink RX7 1 objectInit ∈ wsL_law := w_in (in_t4 (List.mem_of_getElem? (i := 132) (by decide +kernel))) rfl
theorem q765 : Cond.fieldLink RX7 78 RX7 "players" "I" ∈ wsL_law := w_in (in_t4 (List.mem_of_getElem? (i := 133) (by decide +kernel))) rfl
theorem q766 : Cond.fieldLink RX7 7 RX7 "ratings" "[I" ∈ wsL_law := w_in (in_t4 (List.mem_of_getElem? (i := 134) (by decide +kernel))) rfl
theorem q767 : Cond.fieldLink RX7 13 RX7 "isIn" "[I" ∈ wsL_law := w_in (in_t4 (List.mem_of_getElem? (i := 135) (by decide +kernel))) rfl
theorem q768 : Cond.fieldLink RX7 89 RX7 "rounds" "I" ∈ wsL_law := w_in (in_t4 (List.mem_of_getElem? (i := 136) (by decide +kernel))) rfl
theorem q769 : Cond.fieldLink RX7 92 RX7 "isOpen" "I" ∈ wsL_law := w_in (in_t4 (List.mem_of_getElem? (i := 137) (by decide +kernel))) rfl
theorem q770 : Cond.fieldLink RX7 16 RX7 "boardMany" "[I" ∈ wsL_law := w_in (in_t4 (List.mem_of_getElem? (i := 138) (by decide +kernel))) rfl
theorem q771 : Cond.fieldLink RX7 19 RX7 "byes" "[I" ∈ wsL_law := w_in (in_t4 (List.mem_of_getElem? (i := 139) (by decide +kernel))) rfl
theorem q772 : Cond.fieldLink RX7 22 RX7 "whites" "[I" ∈ wsL_law := w_in (in_t4 (List.mem_of_getElem? (i := 140) (by decide +kernel))) rfl
theorem q773 : Cond.fieldLink RX7 25 RX7 "blacks" "[I" ∈ wsL_law := w_in (in_t4 (List.mem_of_getElem? (i := 141) (by decide +kernel))) rfl
theorem q774 : Cond.fieldLink RX7 28 RX7 "results0" "[I" ∈ wsL_law := w_in (in_t4 (List.mem_of_getElem? (i := 142) (by decide +kernel))) rfl
theorem q775 : Cond.fieldLink RX7 31 RX7 "tieMany" "I" ∈ wsL_law := w_in (in_t4 (List.mem_of_getElem? (i := 143) (by decide +kernel))) rfl
theorem q776 : Cond.fieldLink RX7 35 RX7 "ties" "[I" ∈ wsL_law := w_in (in_t4 (List.mem_of_getElem? (i := 144) (by decide +kernel))) rfl
theorem q777 : Cond.fieldLink RX7 75 RX7 "thrown" "I" ∈ wsL_law := w_in (in_t4 (List.mem_of_getElem? (i := 145) (by decide +kernel))) rfl
theorem q778 : Cond.fieldLink RX7 38 RX7 "tiesOf" "[I" ∈ wsL_law := w_in (in_t4 (List.mem_of_getElem? (i := 146) (by decide +kernel))) rfl
theorem q779 : Cond.fieldLink RX7 41 RX7 "standing" "[I" ∈ wsL_law := w_in (in_t4 (List.mem_of_getElem? (i := 147) (by decide +kernel))) rfl
theorem q780 : Cond.fieldLink RX7 184 RX7 "paired" "I" ∈ wsL_law := w_in (in_t4 (List.mem_of_getElem? (i := 148) (by decide +kernel))) rfl
theorem q781 : Cond.fieldLink RX7 44 RX7 "atPlace" "[I" ∈ wsL_law := w_in (in_t4 (List.mem_of_getElem? (i := 149) (by decide +kernel))) rfl
theorem q782 : Cond.fieldLink RX7 166 RX7 "byeNow" "I" ∈ wsL_law := w_in (in_t4 (List.mem_of_getElem? (i := 150) (by decide +kernel))) rfl
theorem q783 : Cond.fieldLink RX7 47 RX7 "costs" "[I" ∈ wsL_law := w_in (in_t4 (List.mem_of_getElem? (i := 151) (by decide +kernel))) rfl
theorem q784 : Cond.fieldLink RX7 50 RX7 "bests" "[I" ∈ wsL_law := w_in (in_t4 (List.mem_of_getElem? (i := 152) (by decide +kernel))) rfl
theorem q785 : Cond.fieldLink RX7 53 RX7 "manyWays" "[I" ∈ wsL_law := w_in (in_t4 (List.mem_of_getElem? (i := 153) (by decide +kernel))) rfl
theorem q786 : Cond.fieldLink RX7 56 RX7 "tape" "[I" ∈ wsL_law := w_in (in_t4 (List.mem_of_getElem? (i := 154) (by decide +kernel))) rfl
theorem q787 : Cond.fieldLink RX7 235 RX7 "size" "I" ∈ wsL_law := w_in (in_t4 (List.mem_of_getElem? (i := 155) (by decide +kernel))) rfl
theorem q788 : Cond.fieldLink RX7 59 RX7 "paper0" "[I" ∈ wsL_law := w_in (in_t4 (List.mem_of_getElem? (i := 156) (by decide +kernel))) rfl
theorem q789 : Cond.fieldLink RX7 247 RX7 "paperSize" "I" ∈ wsL_law := w_in (in_t4 (List.mem_of_getElem? (i := 157) (by decide +kernel))) rfl
theorem q790 : Cond.fieldLink RX7 62 RX7 "holdsList" "[Z" ∈ wsL_law := w_in (in_t4 (List.mem_of_getElem? (i := 158) (by decide +kernel))) rfl
theorem q791 : Cond.fieldLink RX7 66 RX7 "listMany" "[I" ∈ wsL_law := w_in (in_t4 (List.mem_of_getElem? (i := 159) (by decide +kernel))) rfl
theorem q792 : Cond.fieldLink RX7 69 RX7 "listed" "[I" ∈ wsL_law := w_in (in_t4 (List.mem_of_getElem? (i := 160) (by decide +kernel))) rfl
theorem q793 : Cond.fieldLink RX7 284 RX7 "hasImage" "Z" ∈ wsL_law := w_in (in_t4 (List.mem_of_getElem? (i := 161) (by decide +kernel))) rfl
theorem q794 : Cond.fieldLink RX7 72 RX7 "imaged" "[I" ∈ wsL_law := w_in (in_t4 (List.mem_of_getElem? (i := 162) (by decide +kernel))) rfl
theorem q795 : Cond.fieldLink RX7 278 RX7 "place0" "I" ∈ wsL_law := w_in (in_t4 (List.mem_of_getElem? (i := 163) (by decide +kernel))) rfl
theorem q796 : Cond.fieldLink RX7 271 RX7 "isTaking" "Z" ∈ wsL_law := w_in (in_t4 (List.mem_of_getElem? (i := 164) (by decide +kernel))) rfl
theorem q797 : Cond.fieldLink RX7 275 RX7 "keptIn" "[I" ∈ wsL_law := w_in (in_t4 (List.mem_of_getElem? (i := 165) (by decide +kernel))) rfl
theorem q831 : Cond.arrayClass FieldType.boolean ∈ wsL_law := w_in (in_t4 (List.mem_of_getElem? (i := 233) (by decide +kernel))) rfl
theorem q832 : Cond.methodLink RL 64 yX7_pair ∈ wsL_law := w_in (in_t4 (List.mem_of_getElem? (i := 234) (by decide +kernel))) rfl
theorem q833 : Cond.instanceMethod yX7_pair ∈ wsL_law := w_in (in_t4 (List.mem_of_getElem? (i := 235) (by decide +kernel))) rfl
theorem q834 : Cond.selects RX7 yX7_pair yX7_pair ∈ wsL_law := w_in (in_t4 (List.mem_of_getElem? (i := 236) (by decide +kernel))) rfl
theorem q835 : Cond.code yX7_pair cX7_pair 5 (some FieldType.int) ∈ wsL_law := w_in (in_t4 (List.mem_of_getElem? (i := 237) (by decide +kernel))) rfl
theorem q836 : Cond.methodLink RX7 203 yX7_wrongPairing ∈ wsL_law := w_in (in_t4 (List.mem_of_getElem? (i := 238) (by decide +kernel))) rfl
theorem q837 : Cond.instanceMethod yX7_wrongPairing ∈ wsL_law := w_in (in_t5 (List.mem_of_getElem? (i := 0) (by decide +kernel))) rfl
theorem q838 : Cond.code yX7_wrongPairing cX7_wrongPairing 1 (some FieldType.int) ∈ wsL_law := w_in (in_t5 (List.mem_of_getElem? (i := 1) (by decide +kernel))) rfl
theorem q839 : Cond.methodLink RX7 175 yX7_manyIn ∈ wsL_law := w_in (in_t5 (List.mem_of_getElem? (i := 2) (by decide +kernel))) rfl
theorem q840 : Cond.instanceMethod yX7_manyIn ∈ wsL_law := w_in (in_t5 (List.mem_of_getElem? (i := 4) (by decide +kernel))) rfl
theorem q841 : Cond.code yX7_manyIn cX7_manyIn 3 (some FieldType.int) ∈ wsL_law := w_in (in_t5 (List.mem_of_getElem? (i := 5) (by decide +kernel))) rfl
theorem q842 : Cond.methodLink RX7 206 yX7_layBests ∈ wsL_law := w_in (in_t5 (List.mem_of_getElem? (i := 6) (by decide +kernel))) rfl
theorem q843 : Cond.instanceMethod yX7_layBests ∈ wsL_law := w_in (in_t5 (List.mem_of_getElem? (i := 8) (by decide +kernel))) rfl
theorem q844 : Cond.code yX7_layBests cX7_layBests 6 (none : Option FieldType) ∈ wsL_law := w_in (in_t5 (List.mem_of_getElem? (i := 9) (by decide +kernel))) rfl
theorem q845 : Cond.methodLink RX7 193 yX7_layPlaces ∈ wsL_law := w_in (in_t5 (List.mem_of_getElem? (i := 10) (by decide +kernel))) rfl
theorem q846 : Cond.instanceMethod yX7_layPlaces ∈ wsL_law := w_in (in_t5 (List.mem_of_getElem? (i := 12) (by decide +kernel))) rfl
theorem q847 : Cond.code yX7_layPlaces cX7_layPlaces 4 (none : Option FieldType) ∈ wsL_law := w_in (in_t5 (List.mem_of_getElem? (i := 13) (by decide +kernel))) rfl
theorem q848 : Cond.methodLink RX7 178 yX7_layStanding ∈ wsL_law := w_in (in_t5 (List.mem_of_getElem? (i := 14) (by decide +kernel))) rfl
theorem q849 : Cond.instanceMethod yX7_layStanding ∈ wsL_law := w_in (in_t5 (List.mem_of_getElem? (i := 16) (by decide +kernel))) rfl
theorem q850 : Cond.code yX7_layStanding cX7_layStanding 3 (none : Option FieldType) ∈ wsL_law := w_in (in_t5 (List.mem_of_getElem? (i := 17) (by decide +kernel))) rfl
theorem q851 : Cond.methodLink RX7 154 yX7_tieOf ∈ wsL_law := w_in (in_t5 (List.mem_of_getElem? (i := 18) (by decide +kernel))) rfl
theorem q852 : Cond.instanceMethod yX7_tieOf ∈ wsL_law := w_in (in_t5 (List.mem_of_getElem? (i := 20) (by decide +kernel))) rfl
theorem q853 : Cond.code yX7_tieOf cX7_tieOf 3 (some FieldType.int) ∈ wsL_law := w_in (in_t5 (List.mem_of_getElem? (i := 21) (by decide +kernel))) rfl
theorem q854 : Cond.methodLink RX7 128 yX7_pointsOf ∈ wsL_law := w_in (in_t5 (List.mem_of_getElem? (i := 22) (by decide +kernel))) rfl
theorem q855 : Cond.instanceMethod yX7_pointsOf ∈ wsL_law := w_in (in_t5 (List.mem_of_getElem? (i := 24) (by decide +kernel))) rfl
theorem q856 : Cond.code yX7_pointsOf cX7_pointsOf 2 (some FieldType.int) ∈ wsL_law := w_in (in_t5 (List.mem_of_getElem? (i := 25) (by decide +kernel))) rfl
theorem q857 : Cond.methodLink RX7 99 yX7_done ∈ wsL_law := w_in (in_t5 (List.mem_of_getElem? (i := 26) (by decide +kernel))) rfl
theorem q858 : Cond.instanceMethod yX7_done ∈ wsL_law := w_in (in_t5 (List.mem_of_getElem? (i := 28) (by decide +kernel))) rfl
theorem q859 : Cond.code yX7_done cX7_done 1 (some FieldType.int) ∈ wsL_law := w_in (in_t5 (List.mem_of_getElem? (i := 29) (by decide +kernel))) rfl
theorem q860 : Cond.methodLink RX7 111 yX7_pointsBehind ∈ wsL_law := w_in (in_t5 (List.mem_of_getElem? (i := 30) (by decide +kernel))) rfl
theorem q861 : Cond.instanceMethod yX7_pointsBehind ∈ wsL_law := w_in (in_t5 (List.mem_of_getElem? (i := 32) (by decide +kernel))) rfl
theorem q862 : Cond.code yX7_pointsBehind cX7_pointsBehind 5 (some FieldType.int) ∈ wsL_law := w_in (in_t5 (List.mem_of_getElem? (i := 33) (by decide +kernel))) rfl
theorem q863 : Cond.methodLink RX7 108 yX7_madeIn ∈ wsL_law := w_in (in_t5 (List.mem_of_getElem? (i := 34) (by decide +kernel))) rfl
theorem q864 : Cond.instanceMethod yX7_madeIn ∈ wsL_law := w_in (in_t5 (List.mem_of_getElem? (i := 36) (by decide +kernel))) rfl
theorem q865 : Cond.code yX7_madeIn cX7_madeIn 4 (some FieldType.int) ∈ wsL_law := w_in (in_t5 (List.mem_of_getElem? (i := 37) (by decide +kernel))) rfl
theorem q866 : Cond.methodLink RX7 95 yX7_boardOf ∈ wsL_law := w_in (in_t5 (List.mem_of_getElem? (i := 38) (by decide +kernel))) rfl
theorem q867 : Cond.instanceMethod yX7_boardOf ∈ wsL_law := w_in (in_t5 (List.mem_of_getElem? (i := 40) (by decide +kernel))) rfl
theorem q868 : Cond.code yX7_boardOf cX7_boardOf 5 (some FieldType.int) ∈ wsL_law := w_in (in_t5 (List.mem_of_getElem? (i := 41) (by decide +kernel))) rfl
theorem q869 : Cond.methodLink RX7 105 yX7_madeOn ∈ wsL_law := w_in (in_t5 (List.mem_of_getElem? (i := 42) (by decide +kernel))) rfl
theorem q870 : Cond.instanceMethod yX7_madeOn ∈ wsL_law := w_in (in_t5 (List.mem_of_getElem? (i := 44) (by decide +kernel))) rfl
theorem q871 : Cond.code yX7_madeOn cX7_madeOn 5 (some FieldType.int) ∈ wsL_law := w_in (in_t5 (List.mem_of_getElem? (i := 45) (by decide +kernel))) rfl
theorem q872 : Cond.methodLink RX7 131 yX7_opponentsOf ∈ wsL_law := w_in (in_t5 (List.mem_of_getElem? (i := 46) (by decide +kernel))) rfl
theorem q873 : Cond.instanceMethod yX7_opponentsOf ∈ wsL_law := w_in (in_t5 (List.mem_of_getElem? (i := 48) (by decide +kernel))) rfl
theorem q874 : Cond.code yX7_opponentsOf cX7_opponentsOf 8 (some FieldType.int) ∈ wsL_law := w_in (in_t5 (List.mem_of_getElem? (i := 49) (by decide +kernel))) rfl
theorem q875 : Cond.constant RX7 127 1000000 ∈ wsL_law := w_in (in_t5 (List.mem_of_getElem? (i := 50) (by decide +kernel))) rfl
theorem q876 : Cond.methodLink RX7 114 yX7_playedIn ∈ wsL_law := w_in (in_t5 (List.mem_of_getElem? (i := 51) (by decide +kernel))) rfl
theorem q877 : Cond.instanceMethod yX7_playedIn ∈ wsL_law := w_in (in_t5 (List.mem_of_getElem? (i := 53) (by decide +kernel))) rfl
theorem q878 : Cond.code yX7_playedIn cX7_playedIn 4 (some FieldType.int) ∈ wsL_law := w_in (in_t5 (List.mem_of_getElem? (i := 54) (by decide +kernel))) rfl
theorem q879 : Cond.constantLong RX7 103 3 ∈ wsL_law := w_in (in_t5 (List.mem_of_getElem? (i := 55) (by decide +kernel))) rfl
theorem q880 : Cond.methodLink RX7 81 yX7_in ∈ wsL_law := w_in (in_t5 (List.mem_of_getElem? (i := 56) (by decide +kernel))) rfl
theorem q881 : Cond.static yX7_in ∈ wsL_law := w_in (in_t5 (List.mem_of_getElem? (i := 57) (by decide +kernel))) rfl
theorem q882 : Cond.code yX7_in cX7_in 6 (some FieldType.boolean) ∈ wsL_law := w_in (in_t5 (List.mem_of_getElem? (i := 58) (by decide +kernel))) rfl
theorem q883 : Cond.methodLink RX7 117 yX7_otherOn ∈ wsL_law := w_in (in_t5 (List.mem_of_getElem? (i := 59) (by decide +kernel))) rfl
theorem q884 : Cond.instanceMethod yX7_otherOn ∈ wsL_law := w_in (in_t5 (List.mem_of_getElem? (i := 61) (by decide +kernel))) rfl
theorem q885 : Cond.code yX7_otherOn cX7_otherOn 3 (some FieldType.int) ∈ wsL_law := w_in (in_t5 (List.mem_of_getElem? (i := 62) (by decide +kernel))) rfl
theorem q886 : Cond.methodLink RX7 135 yX7_beatenOf ∈ wsL_law := w_in (in_t5 (List.mem_of_getElem? (i := 63) (by decide +kernel))) rfl
theorem q887 : Cond.instanceMethod yX7_beatenOf ∈ wsL_law := w_in (in_t5 (List.mem_of_getElem? (i := 65) (by decide +kernel))) rfl
theorem q888 : Cond.code yX7_beatenOf cX7_beatenOf 5 (some FieldType.int) ∈ wsL_law := w_in (in_t5 (List.mem_of_getElem? (i := 66) (by decide +kernel))) rfl
theorem q889 : Cond.methodLink RX7 138 yX7_winsOf ∈ wsL_law := w_in (in_t5 (List.mem_of_getElem? (i := 67) (by decide +kernel))) rfl
theorem q890 : Cond.instanceMethod yX7_winsOf ∈ wsL_law := w_in (in_t5 (List.mem_of_getElem? (i := 69) (by decide +kernel))) rfl
theorem q891 : Cond.code yX7_winsOf cX7_winsOf 5 (some FieldType.int) ∈ wsL_law := w_in (in_t5 (List.mem_of_getElem? (i := 70) (by decide +kernel))) rfl
theorem q892 : Cond.methodLink RX7 124 yX7_blacksOf ∈ wsL_law := w_in (in_t5 (List.mem_of_getElem? (i := 71) (by decide +kernel))) rfl
theorem q893 : Cond.instanceMethod yX7_blacksOf ∈ wsL_law := w_in (in_t5 (List.mem_of_getElem? (i := 73) (by decide +kernel))) rfl
theorem q894 : Cond.code yX7_blacksOf cX7_blacksOf 4 (some FieldType.int) ∈ wsL_law := w_in (in_t5 (List.mem_of_getElem? (i := 74) (by decide +kernel))) rfl
theorem q895 : Cond.methodLink RX7 141 yX7_growthOf ∈ wsL_law := w_in (in_t5 (List.mem_of_getElem? (i := 75) (by decide +kernel))) rfl
theorem q896 : Cond.instanceMethod yX7_growthOf ∈ wsL_law := w_in (in_t5 (List.mem_of_getElem? (i := 77) (by decide +kernel))) rfl
theorem q897 : Cond.code yX7_growthOf cX7_growthOf 4 (some FieldType.int) ∈ wsL_law := w_in (in_t5 (List.mem_of_getElem? (i := 78) (by decide +kernel))) rfl
theorem q898 : Cond.methodLink RX7 144 yX7_directOf ∈ wsL_law := w_in (in_t5 (List.mem_of_getElem? (i := 79) (by decide +kernel))) rfl
theorem q899 : Cond.instanceMethod yX7_directOf ∈ wsL_law := w_in (in_t5 (List.mem_of_getElem? (i := 81) (by decide +kernel))) rfl
theorem q900 : Cond.code yX7_directOf cX7_directOf 5 (some FieldType.int) ∈ wsL_law := w_in (in_t5 (List.mem_of_getElem? (i := 82) (by decide +kernel))) rfl
theorem q901 : Cond.methodLink RX7 157 yX7_aheadOf ∈ wsL_law := w_in (in_t5 (List.mem_of_getElem? (i := 83) (by decide +kernel))) rfl
theorem q902 : Cond.instanceMethod yX7_aheadOf ∈ wsL_law := w_in (in_t5 (List.mem_of_getElem? (i := 85) (by decide +kernel))) rfl
theorem q903 : Cond.code yX7_aheadOf cX7_aheadOf 4 (some FieldType.int) ∈ wsL_law := w_in (in_t5 (List.mem_of_getElem? (i := 86) (by decide +kernel))) rfl
theorem q904 : Cond.methodLink RX7 150 yX7_isAhead ∈ wsL_law := w_in (in_t5 (List.mem_of_getElem? (i := 87) (by decide +kernel))) rfl
theorem q905 : Cond.instanceMethod yX7_isAhead ∈ wsL_law := w_in (in_t5 (List.mem_of_getElem? (i := 89) (by decide +kernel))) rfl
theorem q906 : Cond.code yX7_isAhead cX7_isAhead 4 (some FieldType.boolean) ∈ wsL_law := w_in (in_t5 (List.mem_of_getElem? (i := 90) (by decide +kernel))) rfl
theorem q907 : Cond.methodLink RX7 147 yX7_differsIn ∈ wsL_law := w_in (in_t5 (List.mem_of_getElem? (i := 91) (by decide +kernel))) rfl
theorem q908 : Cond.instanceMethod yX7_differsIn ∈ wsL_law := w_in (in_t5 (List.mem_of_getElem? (i := 93) (by decide +kernel))) rfl
theorem q909 : Cond.code yX7_differsIn cX7_differsIn 5 (some FieldType.int) ∈ wsL_law := w_in (in_t5 (List.mem_of_getElem? (i := 94) (by decide +kernel))) rfl
theorem q910 : Cond.methodLink RX7 181 yX7_layBye ∈ wsL_law := w_in (in_t5 (List.mem_of_getElem? (i := 95) (by decide +kernel))) rfl
theorem q911 : Cond.instanceMethod yX7_layBye ∈ wsL_law := w_in (in_t5 (List.mem_of_getElem? (i := 97) (by decide +kernel))) rfl
theorem q912 : Cond.code yX7_layBye cX7_layBye 4 (none : Option FieldType) ∈ wsL_law := w_in (in_t5 (List.mem_of_getElem? (i := 98) (by decide +kernel))) rfl
theorem q913 : Cond.methodLink RX7 169 yX7_byesOf ∈ wsL_law := w_in (in_t5 (List.mem_of_getElem? (i := 99) (by decide +kernel))) rfl
theorem q914 : Cond.instanceMethod yX7_byesOf ∈ wsL_law := w_in (in_t5 (List.mem_of_getElem? (i := 101) (by decide +kernel))) rfl
theorem q915 : Cond.code yX7_byesOf cX7_byesOf 4 (some FieldType.int) ∈ wsL_law := w_in (in_t5 (List.mem_of_getElem? (i := 102) (by decide +kernel))) rfl
theorem q916 : Cond.methodLink RX7 172 yX7_forfeitsOf ∈ wsL_law := w_in (in_t5 (List.mem_of_getElem? (i := 103) (by decide +kernel))) rfl
theorem q917 : Cond.instanceMethod yX7_forfeitsOf ∈ wsL_law := w_in (in_t5 (List.mem_of_getElem? (i := 105) (by decide +kernel))) rfl
theorem q918 : Cond.code yX7_forfeitsOf cX7_forfeitsOf 5 (some FieldType.int) ∈ wsL_law := w_in (in_t5 (List.mem_of_getElem? (i := 106) (by decide +kernel))) rfl
theorem q919 : Cond.methodLink RX7 187 yX7_metIn ∈ wsL_law := w_in (in_t5 (List.mem_of_getElem? (i := 107) (by decide +kernel))) rfl
theorem q920 : Cond.instanceMethod yX7_metIn ∈ wsL_law := w_in (in_t5 (List.mem_of_getElem? (i := 109) (by decide +kernel))) rfl
theorem q921 : Cond.code yX7_metIn cX7_metIn 6 (some FieldType.int) ∈ wsL_law := w_in (in_t5 (List.mem_of_getElem? (i := 110) (by decide +kernel))) rfl
theorem q922 : Cond.methodLink RX7 190 yX7_costOf ∈ wsL_law := w_in (in_t5 (List.mem_of_getElem? (i := 111) (by decide +kernel))) rfl
theorem q923 : Cond.instanceMethod yX7_costOf ∈ wsL_law := w_in (in_t5 (List.mem_of_getElem? (i := 113) (by decide +kernel))) rfl
theorem q924 : Cond.code yX7_costOf cX7_costOf 7 (some FieldType.int) ∈ wsL_law := w_in (in_t5 (List.mem_of_getElem? (i := 114) (by decide +kernel))) rfl
theorem q925 : Cond.methodLink RX7 160 yX7_balanceOf ∈ wsL_law := w_in (in_t5 (List.mem_of_getElem? (i := 115) (by decide +kernel))) rfl
theorem q926 : Cond.instanceMethod yX7_balanceOf ∈ wsL_law := w_in (in_t5 (List.mem_of_getElem? (i := 117) (by decide +kernel))) rfl
theorem q927 : Cond.code yX7_balanceOf cX7_balanceOf 2 (some FieldType.int) ∈ wsL_law := w_in (in_t5 (List.mem_of_getElem? (i := 118) (by decide +kernel))) rfl
theorem q928 : Cond.methodLink RX7 120 yX7_playedMany ∈ wsL_law := w_in (in_t5 (List.mem_of_getElem? (i := 119) (by decide +kernel))) rfl
theorem q929 : Cond.instanceMethod yX7_playedMany ∈ wsL_law := w_in (in_t5 (List.mem_of_getElem? (i := 121) (by decide +kernel))) rfl
theorem q930 : Cond.code yX7_playedMany cX7_playedMany 4 (some FieldType.int) ∈ wsL_law := w_in (in_t5 (List.mem_of_getElem? (i := 122) (by decide +kernel))) rfl
theorem q931 : Cond.methodLink RX7 163 yX7_latestOf ∈ wsL_law := w_in (in_t5 (List.mem_of_getElem? (i := 123) (by decide +kernel))) rfl
theorem q932 : Cond.instanceMethod yX7_latestOf ∈ wsL_law := w_in (in_t5 (List.mem_of_getElem? (i := 125) (by decide +kernel))) rfl
theorem q933 : Cond.code yX7_latestOf cX7_latestOf 5 (some FieldType.int) ∈ wsL_law := w_in (in_t5 (List.mem_of_getElem? (i := 126) (by decide +kernel))) rfl
theorem q934 : Cond.methodLink RX7 196 yX7_leastBit ∈ wsL_law := w_in (in_t5 (List.mem_of_getElem? (i := 127) (by decide +kernel))) rfl
theorem q935 : Cond.static yX7_leastBit ∈ wsL_law := w_in (in_t5 (List.mem_of_getElem? (i := 128) (by decide +kernel))) rfl
theorem q936 : Cond.code yX7_leastBit cX7_leastBit 2 (some FieldType.int) ∈ wsL_law := w_in (in_t5 (List.mem_of_getElem? (i := 129) (by decide +kernel))) rfl
theorem q937 : Cond.methodLink RX7 209 yX7_earliestWith ∈ wsL_law := w_in (in_t5 (List.mem_of_getElem? (i := 130) (by decide +kernel))) rfl
theorem q938 : Cond.instanceMethod yX7_earliestWith ∈ wsL_law := w_in (in_t5 (List.mem_of_getElem? (i := 132) (by decide +kernel))) rfl
theorem q939 : Cond.code yX7_earliestWith cX7_earliestWith 7 (some FieldType.int) ∈ wsL_law := w_in (in_t5 (List.mem_of_getElem? (i := 133) (by decide +kernel))) rfl
theorem q940 : Cond.methodLink RX7 212 yX7_putBoard ∈ wsL_law := w_in (in_t5 (List.mem_of_getElem? (i := 134) (by decide +kernel))) rfl
theorem q941 : Cond.instanceMethod yX7_putBoard ∈ wsL_law := w_in (in_t5 (List.mem_of_getElem? (i := 136) (by decide +kernel))) rfl
theorem q942 : Cond.code yX7_putBoard cX7_putBoard 6 (none : Option FieldType) ∈ wsL_law := w_in (in_t5 (List.mem_of_getElem? (i := 137) (by decide +kernel))) rfl
theorem q943 : Cond.methodLink RX7 199 yX7_isWhite ∈ wsL_law := w_in (in_t5 (List.mem_of_getElem? (i := 138) (by decide +kernel))) rfl
theorem q944 : Cond.instanceMethod yX7_isWhite ∈ wsL_law := w_in (in_t5 (List.mem_of_getElem? (i := 140) (by decide +kernel))) rfl
theorem q945 : Cond.code yX7_isWhite cX7_isWhite 8 (some FieldType.boolean) ∈ wsL_law := w_in (in_t5 (List.mem_of_getElem? (i := 141) (by decide +kernel))) rfl
theorem q946 : Cond.methodLink RL 68 yX7_least ∈ wsL_law := w_in (in_t5 (List.mem_of_getElem? (i := 142) (by decide +kernel))) rfl
theorem q947 : Cond.instanceMethod yX7_least ∈ wsL_law := w_in (in_t5 (List.mem_of_getElem? (i := 143) (by decide +kernel))) rfl
theorem q948 : Cond.selects RX7 yX7_least yX7_least ∈ wsL_law := w_in (in_t5 (List.mem_of_getElem? (i := 144) (by decide +kernel))) rfl
theorem q949 : Cond.code yX7_least cX7_least 2 (some FieldType.int) ∈ wsL_law := w_in (in_t5 (List.mem_of_getElem? (i := 145) (by decide +kernel))) rfl
theorem q950 : Cond.methodLink RL 72 yX7_ways ∈ wsL_law := w_in (in_t5 (List.mem_of_getElem? (i := 146) (by decide +kernel))) rfl
theorem q951 : Cond.instanceMethod yX7_ways ∈ wsL_law := w_in (in_t5 (List.mem_of_getElem? (i := 147) (by decide +kernel))) rfl
theorem q952 : Cond.selects RX7 yX7_ways yX7_ways ∈ wsL_law := w_in (in_t5 (List.mem_of_getElem? (i := 148) (by decide +kernel))) rfl
theorem q953 : Cond.code yX7_ways cX7_ways 1 (some FieldType.int) ∈ wsL_law := w_in (in_t5 (List.mem_of_getElem? (i := 149) (by decide +kernel))) rfl
theorem q954 : Cond.methodLink RL 17 yX7_join ∈ wsL_law := w_in (in_t5 (List.mem_of_getElem? (i := 150) (by decide +kernel))) rfl
theorem q955 : Cond.instanceMethod yX7_join ∈ wsL_law := w_in (in_t5 (List.mem_of_getElem? (i := 151) (by decide +kernel))) rfl
theorem q956 : Cond.selects RX7 yX7_join yX7_join ∈ wsL_law := w_in (in_t5 (List.mem_of_getElem? (i := 152) (by decide +kernel))) rfl
theorem q957 : Cond.code yX7_join cX7_join 2 (some FieldType.int) ∈ wsL_law := w_in (in_t5 (List.mem_of_getElem? (i := 153) (by decide +kernel))) rfl
theorem q958 : Cond.constantLong RX7 216 3000 ∈ wsL_law := w_in (in_t5 (List.mem_of_getElem? (i := 154) (by decide +kernel))) rfl
theorem q959 : Cond.methodLink RL 21 yX7_leave ∈ wsL_law := w_in (in_t5 (List.mem_of_getElem? (i := 155) (by decide +kernel))) rfl
theorem q960 : Cond.instanceMethod yX7_leave ∈ wsL_law := w_in (in_t5 (List.mem_of_getElem? (i := 156) (by decide +kernel))) rfl
theorem q961 : Cond.selects RX7 yX7_leave yX7_leave ∈ wsL_law := w_in (in_t5 (List.mem_of_getElem? (i := 157) (by decide +kernel))) rfl
theorem q962 : Cond.code yX7_leave cX7_leave 2 (some FieldType.int) ∈ wsL_law := w_in (in_t5 (List.mem_of_getElem? (i := 158) (by decide +kernel))) rfl
theorem q963 : Cond.methodLink RX7 85 yX7_isPlayer ∈ wsL_law := w_in (in_t5 (List.mem_of_getElem? (i := 159) (by decide +kernel))) rfl
theorem q964 : Cond.instanceMethod yX7_isPlayer ∈ wsL_law := w_in (in_t5 (List.mem_of_getElem? (i := 161) (by decide +kernel))) rfl
theorem q965 : Cond.code yX7_isPlayer cX7_isPlayer 2 (some FieldType.boolean) ∈ wsL_law := w_in (in_t5 (List.mem_of_getElem? (i := 162) (by decide +kernel))) rfl
theorem q966 : Cond.methodLink RL 25 yX7_back ∈ wsL_law := w_in (in_t5 (List.mem_of_getElem? (i := 163) (by decide +kernel))) rfl
theorem q967 : Cond.instanceMethod yX7_back ∈ wsL_law := w_in (in_t5 (List.mem_of_getElem? (i := 164) (by decide +kernel))) rfl
theorem q968 : Cond.selects RX7 yX7_back yX7_back ∈ wsL_law := w_in (in_t5 (List.mem_of_getElem? (i := 165) (by decide +kernel))) rfl
theorem q969 : Cond.code yX7_back cX7_back 2 (some FieldType.int) ∈ wsL_law := w_in (in_t5 (List.mem_of_getElem? (i := 166) (by decide +kernel))) rfl
theorem q970 : Cond.methodLink RL 30 yX7_rate ∈ wsL_law := w_in (in_t5 (List.mem_of_getElem? (i := 167) (by decide +kernel))) rfl
theorem q971 : Cond.instanceMethod yX7_rate ∈ wsL_law := w_in (in_t5 (List.mem_of_getElem? (i := 168) (by decide +kernel))) rfl
theorem q972 : Cond.selects RX7 yX7_rate yX7_rate ∈ wsL_law := w_in (in_t5 (List.mem_of_getElem? (i := 169) (by decide +kernel))) rfl
theorem q973 : Cond.code yX7_rate cX7_rate 4 (some FieldType.int) ∈ wsL_law := w_in (in_t5 (List.mem_of_getElem? (i := 170) (by decide +kernel))) rfl
theorem q974 : Cond.methodLink RL 34 yX7_of ∈ wsL_law := w_in (in_t5 (List.mem_of_getElem? (i := 171) (by decide +kernel))) rfl
theorem q975 : Cond.instanceMethod yX7_of ∈ wsL_law := w_in (in_t5 (List.mem_of_getElem? (i := 172) (by decide +kernel))) rfl
theorem q976 : Cond.selects RX7 yX7_of yX7_of ∈ wsL_law := w_in (in_t5 (List.mem_of_getElem? (i := 173) (by decide +kernel))) rfl
theorem q977 : Cond.code yX7_of cX7_of 3 (some FieldType.int) ∈ wsL_law := w_in (in_t5 (List.mem_of_getElem? (i := 174) (by decide +kernel))) rfl
theorem q978 : Cond.constantLong RX7 218 8 ∈ wsL_law := w_in (in_t5 (List.mem_of_getElem? (i := 175) (by decide +kernel))) rfl
theorem q979 : Cond.methodLink RL 38 yX7_tie ∈ wsL_law := w_in (in_t5 (List.mem_of_getElem? (i := 176) (by decide +kernel))) rfl
theorem q980 : Cond.instanceMethod yX7_tie ∈ wsL_law := w_in (in_t5 (List.mem_of_getElem? (i := 177) (by decide +kernel))) rfl
theorem q981 : Cond.selects RX7 yX7_tie yX7_tie ∈ wsL_law := w_in (in_t5 (List.mem_of_getElem? (i := 178) (by decide +kernel))) rfl
theorem q982 : Cond.code yX7_tie cX7_tie 3 (some FieldType.int) ∈ wsL_law := w_in (in_t5 (List.mem_of_getElem? (i := 179) (by decide +kernel))) rfl
theorem q983 : Cond.methodLink RL 42 yX7_rank ∈ wsL_law := w_in (in_t5 (List.mem_of_getElem? (i := 180) (by decide +kernel))) rfl
theorem q984 : Cond.instanceMethod yX7_rank ∈ wsL_law := w_in (in_t5 (List.mem_of_getElem? (i := 181) (by decide +kernel))) rfl
theorem q985 : Cond.selects RX7 yX7_rank yX7_rank ∈ wsL_law := w_in (in_t5 (List.mem_of_getElem? (i := 182) (by decide +kernel))) rfl
theorem q986 : Cond.code yX7_rank cX7_rank 2 (some FieldType.int) ∈ wsL_law := w_in (in_t5 (List.mem_of_getElem? (i := 183) (by decide +kernel))) rfl
theorem q987 : Cond.methodLink RL 46 yX7_nth ∈ wsL_law := w_in (in_t5 (List.mem_of_getElem? (i := 184) (by decide +kernel))) rfl
theorem q988 : Cond.instanceMethod yX7_nth ∈ wsL_law := w_in (in_t5 (List.mem_of_getElem? (i := 185) (by decide +kernel))) rfl
theorem q989 : Cond.selects RX7 yX7_nth yX7_nth ∈ wsL_law := w_in (in_t5 (List.mem_of_getElem? (i := 186) (by decide +kernel))) rfl
theorem q990 : Cond.code yX7_nth cX7_nth 2 (some FieldType.int) ∈ wsL_law := w_in (in_t5 (List.mem_of_getElem? (i := 187) (by decide +kernel))) rfl
theorem q991 : Cond.methodLink RL 51 yX7_explain ∈ wsL_law := w_in (in_t5 (List.mem_of_getElem? (i := 188) (by decide +kernel))) rfl
theorem q992 : Cond.instanceMethod yX7_explain ∈ wsL_law := w_in (in_t5 (List.mem_of_getElem? (i := 189) (by decide +kernel))) rfl
theorem q993 : Cond.selects RX7 yX7_explain yX7_explain ∈ wsL_law := w_in (in_t5 (List.mem_of_getElem? (i := 190) (by decide +kernel))) rfl
theorem q994 : Cond.code yX7_explain cX7_explain 5 (some FieldType.int) ∈ wsL_law := w_in (in_t5 (List.mem_of_getElem? (i := 191) (by decide +kernel))) rfl
theorem q995 : Cond.methodLink RX7 220 yX7_areTwo ∈ wsL_law := w_in (in_t5 (List.mem_of_getElem? (i := 192) (by decide +kernel))) rfl
theorem q996 : Cond.instanceMethod yX7_areTwo ∈ wsL_law := w_in (in_t5 (List.mem_of_getElem? (i := 194) (by decide +kernel))) rfl
theorem q997 : Cond.code yX7_areTwo cX7_areTwo 3 (some FieldType.boolean) ∈ wsL_law := w_in (in_t5 (List.mem_of_getElem? (i := 195) (by decide +kernel))) rfl
theorem q998 : Cond.methodLink RL 55 yX7_met ∈ wsL_law := w_in (in_t5 (List.mem_of_getElem? (i := 196) (by decide +kernel))) rfl
theorem q999 : Cond.instanceMethod yX7_met ∈ wsL_law := w_in (in_t5 (List.mem_of_getElem? (i := 197) (by decide +kernel))) rfl
theorem q1000 : Cond.selects RX7 yX7_met yX7_met ∈ wsL_law := w_in (in_t5 (List.mem_of_getElem? (i := 198) (by decide +kernel))) rfl
theorem q1001 : Cond.code yX7_met cX7_met 3 (some FieldType.int) ∈ wsL_law := w_in (in_t5 (List.mem_of_getElem? (i := 199) (by decide +kernel))) rfl
theorem q1002 : Cond.methodLink RL 59 yX7_cost ∈ wsL_law := w_in (in_t5 (List.mem_of_getElem? (i := 200) (by decide +kernel))) rfl
theorem q1003 : Cond.instanceMethod yX7_cost ∈ wsL_law := w_in (in_t5 (List.mem_of_getElem? (i := 201) (by decide +kernel))) rfl
theorem q1004 : Cond.selects RX7 yX7_cost yX7_cost ∈ wsL_law := w_in (in_t5 (List.mem_of_getElem? (i := 202) (by decide +kernel))) rfl
theorem q1005 : Cond.code yX7_cost cX7_cost 3 (some FieldType.int) ∈ wsL_law := w_in (in_t5 (List.mem_of_getElem? (i := 203) (by decide +kernel))) rfl
theorem q1006 : Cond.methodLink RL 100 yX7_direct ∈ wsL_law := w_in (in_t5 (List.mem_of_getElem? (i := 204) (by decide +kernel))) rfl
theorem q1007 : Cond.instanceMethod yX7_direct ∈ wsL_law := w_in (in_t5 (List.mem_of_getElem? (i := 205) (by decide +kernel))) rfl
theorem q1008 : Cond.selects RX7 yX7_direct yX7_direct ∈ wsL_law := w_in (in_t5 (List.mem_of_getElem? (i := 206) (by decide +kernel))) rfl
theorem q1009 : Cond.code yX7_direct cX7_direct 4 (some FieldType.int) ∈ wsL_law := w_in (in_t5 (List.mem_of_getElem? (i := 207) (by decide +kernel))) rfl
theorem q1010 : Cond.methodLink RL 104 yX7_average ∈ wsL_law := w_in (in_t5 (List.mem_of_getElem? (i := 208) (by decide +kernel))) rfl
theorem q1011 : Cond.instanceMethod yX7_average ∈ wsL_law := w_in (in_t5 (List.mem_of_getElem? (i := 209) (by decide +kernel))) rfl
theorem q1012 : Cond.selects RX7 yX7_average yX7_average ∈ wsL_law := w_in (in_t5 (List.mem_of_getElem? (i := 210) (by decide +kernel))) rfl
theorem q1013 : Cond.code yX7_average cX7_average 7 (some FieldType.int) ∈ wsL_law := w_in (in_t5 (List.mem_of_getElem? (i := 211) (by decide +kernel))) rfl
theorem q1014 : Cond.methodLink RX7 223 yX7_divisor ∈ wsL_law := w_in (in_t5 (List.mem_of_getElem? (i := 212) (by decide +kernel))) rfl
theorem q1015 : Cond.static yX7_divisor ∈ wsL_law := w_in (in_t5 (List.mem_of_getElem? (i := 213) (by decide +kernel))) rfl
theorem q1016 : Cond.code yX7_divisor cX7_divisor 5 (some FieldType.int) ∈ wsL_law := w_in (in_t5 (List.mem_of_getElem? (i := 214) (by decide +kernel))) rfl
theorem q1017 : Cond.methodLink RL 108 yX7_alike ∈ wsL_law := w_in (in_t5 (List.mem_of_getElem? (i := 215) (by decide +kernel))) rfl
theorem q1018 : Cond.instanceMethod yX7_alike ∈ wsL_law := w_in (in_t5 (List.mem_of_getElem? (i := 216) (by decide +kernel))) rfl
theorem q1019 : Cond.selects RX7 yX7_alike yX7_alike ∈ wsL_law := w_in (in_t5 (List.mem_of_getElem? (i := 217) (by decide +kernel))) rfl
theorem q1020 : Cond.code yX7_alike cX7_alike 4 (some FieldType.int) ∈ wsL_law := w_in (in_t5 (List.mem_of_getElem? (i := 218) (by decide +kernel))) rfl
theorem q1021 : Cond.methodLink RL 112 yX7_colours ∈ wsL_law := w_in (in_t5 (List.mem_of_getElem? (i := 219) (by decide +kernel))) rfl
theorem q1022 : Cond.instanceMethod yX7_colours ∈ wsL_law := w_in (in_t5 (List.mem_of_getElem? (i := 220) (by decide +kernel))) rfl
theorem q1023 : Cond.selects RX7 yX7_colours yX7_colours ∈ wsL_law := w_in (in_t5 (List.mem_of_getElem? (i := 221) (by decide +kernel))) rfl
theorem q1024 : Cond.code yX7_colours cX7_colours 5 (some FieldType.int) ∈ wsL_law := w_in (in_t5 (List.mem_of_getElem? (i := 222) (by decide +kernel))) rfl
theorem q1025 : Cond.constantLong RX7 226 2 ∈ wsL_law := w_in (in_t5 (List.mem_of_getElem? (i := 223) (by decide +kernel))) rfl
theorem q1026 : Cond.methodLink RL 76 yX7_board ∈ wsL_law := w_in (in_t5 (List.mem_of_getElem? (i := 224) (by decide +kernel))) rfl
theorem q1027 : Cond.instanceMethod yX7_board ∈ wsL_law := w_in (in_t5 (List.mem_of_getElem? (i := 225) (by decide +kernel))) rfl
theorem q1028 : Cond.selects RX7 yX7_board yX7_board ∈ wsL_law := w_in (in_t5 (List.mem_of_getElem? (i := 226) (by decide +kernel))) rfl
theorem q1029 : Cond.code yX7_board cX7_board 4 (some FieldType.int) ∈ wsL_law := w_in (in_t5 (List.mem_of_getElem? (i := 227) (by decide +kernel))) rfl
theorem q1030 : Cond.methodLink RL 80 yX7_bye ∈ wsL_law := w_in (in_t5 (List.mem_of_getElem? (i := 228) (by decide +kernel))) rfl
theorem q1031 : Cond.instanceMethod yX7_bye ∈ wsL_law := w_in (in_t5 (List.mem_of_getElem? (i := 229) (by decide +kernel))) rfl
theorem q1032 : Cond.selects RX7 yX7_bye yX7_bye ∈ wsL_law := w_in (in_t5 (List.mem_of_getElem? (i := 230) (by decide +kernel))) rfl
theorem q1033 : Cond.code yX7_bye cX7_bye 2 (some FieldType.int) ∈ wsL_law := w_in (in_t5 (List.mem_of_getElem? (i := 231) (by decide +kernel))) rfl
theorem q1034 : Cond.methodLink RL 84 yX7_result ∈ wsL_law := w_in (in_t5 (List.mem_of_getElem? (i := 232) (by decide +kernel))) rfl
theorem q1035 : Cond.instanceMethod yX7_result ∈ wsL_law := w_in (in_t5 (List.mem_of_getElem? (i := 233) (by decide +kernel))) rfl
theorem q1036 : Cond.selects RX7 yX7_result yX7_result ∈ wsL_law := w_in (in_t5 (List.mem_of_getElem? (i := 234) (by decide +kernel))) rfl
theorem q1037 : Cond.code yX7_result cX7_result 5 (some FieldType.int) ∈ wsL_law := w_in (in_t5 (List.mem_of_getElem? (i := 235) (by decide +kernel))) rfl
theorem q1038 : Cond.constantLong RX7 228 6 ∈ wsL_law := w_in (in_t5 (List.mem_of_getElem? (i := 236) (by decide +kernel))) rfl
theorem q1039 : Cond.methodLink RL 88 yX7_close ∈ wsL_law := w_in (in_t5 (List.mem_of_getElem? (i := 237) (by decide +kernel))) rfl
theorem q1040 : Cond.instanceMethod yX7_close ∈ wsL_law := w_in (in_t5 (List.mem_of_getElem? (i := 238) (by decide +kernel))) rfl
theorem q1041 : Cond.selects RX7 yX7_close yX7_close ∈ wsL_law := w_in (in_t5 (List.mem_of_getElem? (i := 239) (by decide +kernel))) rfl
theorem q1042 : Cond.code yX7_close cX7_close 1 (some FieldType.int) ∈ wsL_law := w_in (in_t6 (List.mem_of_getElem? (i := 0) (by decide +kernel))) rfl
theorem q1043 : Cond.methodLink RX7 230 yX7_withResult ∈ wsL_law := w_in (in_t6 (List.mem_of_getElem? (i := 1) (by decide +kernel))) rfl
theorem q1044 : Cond.instanceMethod yX7_withResult ∈ wsL_law := w_in (in_t6 (List.mem_of_getElem? (i := 3) (by decide +kernel))) rfl
theorem q1045 : Cond.code yX7_withResult cX7_withResult 3 (some FieldType.int) ∈ wsL_law := w_in (in_t6 (List.mem_of_getElem? (i := 4) (by decide +kernel))) rfl
theorem q1046 : Cond.methodLink RL 92 yX7_drop ∈ wsL_law := w_in (in_t6 (List.mem_of_getElem? (i := 5) (by decide +kernel))) rfl
theorem q1047 : Cond.instanceMethod yX7_drop ∈ wsL_law := w_in (in_t6 (List.mem_of_getElem? (i := 6) (by decide +kernel))) rfl
theorem q1048 : Cond.selects RX7 yX7_drop yX7_drop ∈ wsL_law := w_in (in_t6 (List.mem_of_getElem? (i := 7) (by decide +kernel))) rfl
theorem q1049 : Cond.code yX7_drop cX7_drop 1 (some FieldType.int) ∈ wsL_law := w_in (in_t6 (List.mem_of_getElem? (i := 8) (by decide +kernel))) rfl
theorem q1050 : Cond.methodLink RL 96 yX7_game ∈ wsL_law := w_in (in_t6 (List.mem_of_getElem? (i := 9) (by decide +kernel))) rfl
theorem q1051 : Cond.instanceMethod yX7_game ∈ wsL_law := w_in (in_t6 (List.mem_of_getElem? (i := 10) (by decide +kernel))) rfl
theorem q1052 : Cond.selects RX7 yX7_game yX7_game ∈ wsL_law := w_in (in_t6 (List.mem_of_getElem? (i := 11) (by decide +kernel))) rfl
theorem q1053 : Cond.code yX7_game cX7_game 5 (some FieldType.int) ∈ wsL_law := w_in (in_t6 (List.mem_of_getElem? (i := 12) (by decide +kernel))) rfl
theorem q1054 : Cond.methodLink RL 116 yX7_feed ∈ wsL_law := w_in (in_t6 (List.mem_of_getElem? (i := 13) (by decide +kernel))) rfl
theorem q1055 : Cond.instanceMethod yX7_feed ∈ wsL_law := w_in (in_t6 (List.mem_of_getElem? (i := 14) (by decide +kernel))) rfl
theorem q1056 : Cond.selects RX7 yX7_feed yX7_feed ∈ wsL_law := w_in (in_t6 (List.mem_of_getElem? (i := 15) (by decide +kernel))) rfl
theorem q1057 : Cond.code yX7_feed cX7_feed 2 (some FieldType.int) ∈ wsL_law := w_in (in_t6 (List.mem_of_getElem? (i := 16) (by decide +kernel))) rfl
theorem q1058 : Cond.constantLong RX7 233 127 ∈ wsL_law := w_in (in_t6 (List.mem_of_getElem? (i := 17) (by decide +kernel))) rfl
theorem q1059 : Cond.methodLink RL 120 yX7_clear ∈ wsL_law := w_in (in_t6 (List.mem_of_getElem? (i := 18) (by decide +kernel))) rfl
theorem q1060 : Cond.instanceMethod yX7_clear ∈ wsL_law := w_in (in_t6 (List.mem_of_getElem? (i := 19) (by decide +kernel))) rfl
theorem q1061 : Cond.selects RX7 yX7_clear yX7_clear ∈ wsL_law := w_in (in_t6 (List.mem_of_getElem? (i := 20) (by decide +kernel))) rfl
theorem q1062 : Cond.code yX7_clear cX7_clear 2 (some FieldType.int) ∈ wsL_law := w_in (in_t6 (List.mem_of_getElem? (i := 21) (by decide +kernel))) rfl
theorem q1063 : Cond.methodLink RL 124 yX7_results ∈ wsL_law := w_in (in_t6 (List.mem_of_getElem? (i := 22) (by decide +kernel))) rfl
theorem q1064 : Cond.instanceMethod yX7_results ∈ wsL_law := w_in (in_t6 (List.mem_of_getElem? (i := 23) (by decide +kernel))) rfl
theorem q1065 : Cond.selects RX7 yX7_results yX7_results ∈ wsL_law := w_in (in_t6 (List.mem_of_getElem? (i := 24) (by decide +kernel))) rfl
theorem q1066 : Cond.code yX7_results cX7_results 6 (some FieldType.int) ∈ wsL_law := w_in (in_t6 (List.mem_of_getElem? (i := 25) (by decide +kernel))) rfl
theorem q1067 : Cond.methodLink RX7 238 yX7_resultOf ∈ wsL_law := w_in (in_t6 (List.mem_of_getElem? (i := 26) (by decide +kernel))) rfl
theorem q1068 : Cond.static yX7_resultOf ∈ wsL_law := w_in (in_t6 (List.mem_of_getElem? (i := 27) (by decide +kernel))) rfl
theorem q1069 : Cond.code yX7_resultOf cX7_resultOf 1 (some FieldType.int) ∈ wsL_law := w_in (in_t6 (List.mem_of_getElem? (i := 28) (by decide +kernel))) rfl
theorem q1070 : Cond.methodLink RL 128 yX7_order ∈ wsL_law := w_in (in_t6 (List.mem_of_getElem? (i := 29) (by decide +kernel))) rfl
theorem q1071 : Cond.instanceMethod yX7_order ∈ wsL_law := w_in (in_t6 (List.mem_of_getElem? (i := 30) (by decide +kernel))) rfl
theorem q1072 : Cond.selects RX7 yX7_order yX7_order ∈ wsL_law := w_in (in_t6 (List.mem_of_getElem? (i := 31) (by decide +kernel))) rfl
theorem q1073 : Cond.code yX7_order cX7_order 4 (some FieldType.int) ∈ wsL_law := w_in (in_t6 (List.mem_of_getElem? (i := 32) (by decide +kernel))) rfl
theorem q1074 : Cond.methodLink RX7 241 yX7_tieBy ∈ wsL_law := w_in (in_t6 (List.mem_of_getElem? (i := 33) (by decide +kernel))) rfl
theorem q1075 : Cond.static yX7_tieBy ∈ wsL_law := w_in (in_t6 (List.mem_of_getElem? (i := 34) (by decide +kernel))) rfl
theorem q1076 : Cond.code yX7_tieBy cX7_tieBy 1 (some FieldType.int) ∈ wsL_law := w_in (in_t6 (List.mem_of_getElem? (i := 35) (by decide +kernel))) rfl
theorem q1077 : Cond.methodLink RX7 244 yX7_isAgain ∈ wsL_law := w_in (in_t6 (List.mem_of_getElem? (i := 36) (by decide +kernel))) rfl
theorem q1078 : Cond.instanceMethod yX7_isAgain ∈ wsL_law := w_in (in_t6 (List.mem_of_getElem? (i := 38) (by decide +kernel))) rfl
theorem q1079 : Cond.code yX7_isAgain cX7_isAgain 4 (some FieldType.boolean) ∈ wsL_law := w_in (in_t6 (List.mem_of_getElem? (i := 39) (by decide +kernel))) rfl
theorem q1080 : Cond.methodLink RL 132 yX7_ordered ∈ wsL_law := w_in (in_t6 (List.mem_of_getElem? (i := 40) (by decide +kernel))) rfl
theorem q1081 : Cond.instanceMethod yX7_ordered ∈ wsL_law := w_in (in_t6 (List.mem_of_getElem? (i := 41) (by decide +kernel))) rfl
theorem q1082 : Cond.selects RX7 yX7_ordered yX7_ordered ∈ wsL_law := w_in (in_t6 (List.mem_of_getElem? (i := 42) (by decide +kernel))) rfl
theorem q1083 : Cond.code yX7_ordered cX7_ordered 2 (some FieldType.int) ∈ wsL_law := w_in (in_t6 (List.mem_of_getElem? (i := 43) (by decide +kernel))) rfl
theorem q1084 : Cond.methodLink RL 136 yX7_line ∈ wsL_law := w_in (in_t6 (List.mem_of_getElem? (i := 44) (by decide +kernel))) rfl
theorem q1085 : Cond.instanceMethod yX7_line ∈ wsL_law := w_in (in_t6 (List.mem_of_getElem? (i := 45) (by decide +kernel))) rfl
theorem q1086 : Cond.selects RX7 yX7_line yX7_line ∈ wsL_law := w_in (in_t6 (List.mem_of_getElem? (i := 46) (by decide +kernel))) rfl
theorem q1087 : Cond.code yX7_line cX7_line 3 (some FieldType.int) ∈ wsL_law := w_in (in_t6 (List.mem_of_getElem? (i := 47) (by decide +kernel))) rfl
theorem q1088 : Cond.methodLink RX7 254 yX7_writesNumber ∈ wsL_law := w_in (in_t6 (List.mem_of_getElem? (i := 48) (by decide +kernel))) rfl
theorem q1089 : Cond.instanceMethod yX7_writesNumber ∈ wsL_law := w_in (in_t6 (List.mem_of_getElem? (i := 50) (by decide +kernel))) rfl
theorem q1090 : Cond.code yX7_writesNumber cX7_writesNumber 2 (none : Option FieldType) ∈ wsL_law := w_in (in_t6 (List.mem_of_getElem? (i := 51) (by decide +kernel))) rfl
theorem q1091 : Cond.methodLink RX7 250 yX7_writes ∈ wsL_law := w_in (in_t6 (List.mem_of_getElem? (i := 52) (by decide +kernel))) rfl
theorem q1092 : Cond.instanceMethod yX7_writes ∈ wsL_law := w_in (in_t6 (List.mem_of_getElem? (i := 54) (by decide +kernel))) rfl
theorem q1093 : Cond.code yX7_writes cX7_writes 2 (none : Option FieldType) ∈ wsL_law := w_in (in_t6 (List.mem_of_getElem? (i := 55) (by decide +kernel))) rfl
theorem q1094 : Cond.methodLink RX7 257 yX7_writesRound ∈ wsL_law := w_in (in_t6 (List.mem_of_getElem? (i := 56) (by decide +kernel))) rfl
theorem q1095 : Cond.instanceMethod yX7_writesRound ∈ wsL_law := w_in (in_t6 (List.mem_of_getElem? (i := 58) (by decide +kernel))) rfl
theorem q1096 : Cond.code yX7_writesRound cX7_writesRound 5 (none : Option FieldType) ∈ wsL_law := w_in (in_t6 (List.mem_of_getElem? (i := 59) (by decide +kernel))) rfl
theorem q1097 : Cond.methodLink RL 140 yX7_paper ∈ wsL_law := w_in (in_t6 (List.mem_of_getElem? (i := 60) (by decide +kernel))) rfl
theorem q1098 : Cond.instanceMethod yX7_paper ∈ wsL_law := w_in (in_t6 (List.mem_of_getElem? (i := 61) (by decide +kernel))) rfl
theorem q1099 : Cond.selects RX7 yX7_paper yX7_paper ∈ wsL_law := w_in (in_t6 (List.mem_of_getElem? (i := 62) (by decide +kernel))) rfl
theorem q1100 : Cond.code yX7_paper cX7_paper 2 (some FieldType.int) ∈ wsL_law := w_in (in_t6 (List.mem_of_getElem? (i := 63) (by decide +kernel))) rfl
theorem q1101 : Cond.methodLink RL 144 yX7_told ∈ wsL_law := w_in (in_t6 (List.mem_of_getElem? (i := 64) (by decide +kernel))) rfl
theorem q1102 : Cond.instanceMethod yX7_told ∈ wsL_law := w_in (in_t6 (List.mem_of_getElem? (i := 65) (by decide +kernel))) rfl
theorem q1103 : Cond.selects RX7 yX7_told yX7_told ∈ wsL_law := w_in (in_t6 (List.mem_of_getElem? (i := 66) (by decide +kernel))) rfl
theorem q1104 : Cond.code yX7_told cX7_told 2 (some FieldType.int) ∈ wsL_law := w_in (in_t6 (List.mem_of_getElem? (i := 67) (by decide +kernel))) rfl
theorem q1105 : Cond.methodLink RX7 261 yX7_metTwos ∈ wsL_law := w_in (in_t6 (List.mem_of_getElem? (i := 68) (by decide +kernel))) rfl
theorem q1106 : Cond.instanceMethod yX7_metTwos ∈ wsL_law := w_in (in_t6 (List.mem_of_getElem? (i := 70) (by decide +kernel))) rfl
theorem q1107 : Cond.code yX7_metTwos cX7_metTwos 4 (some FieldType.int) ∈ wsL_law := w_in (in_t6 (List.mem_of_getElem? (i := 71) (by decide +kernel))) rfl
theorem q1108 : Cond.methodLink RX7 264 yX7_allPoints ∈ wsL_law := w_in (in_t6 (List.mem_of_getElem? (i := 72) (by decide +kernel))) rfl
theorem q1109 : Cond.instanceMethod yX7_allPoints ∈ wsL_law := w_in (in_t6 (List.mem_of_getElem? (i := 74) (by decide +kernel))) rfl
theorem q1110 : Cond.code yX7_allPoints cX7_allPoints 3 (some FieldType.int) ∈ wsL_law := w_in (in_t6 (List.mem_of_getElem? (i := 75) (by decide +kernel))) rfl
theorem q1111 : Cond.methodLink RL 148 yX7_list ∈ wsL_law := w_in (in_t6 (List.mem_of_getElem? (i := 76) (by decide +kernel))) rfl
theorem q1112 : Cond.instanceMethod yX7_list ∈ wsL_law := w_in (in_t6 (List.mem_of_getElem? (i := 77) (by decide +kernel))) rfl
theorem q1113 : Cond.selects RX7 yX7_list yX7_list ∈ wsL_law := w_in (in_t6 (List.mem_of_getElem? (i := 78) (by decide +kernel))) rfl
theorem q1114 : Cond.code yX7_list cX7_list 4 (some FieldType.int) ∈ wsL_law := w_in (in_t6 (List.mem_of_getElem? (i := 79) (by decide +kernel))) rfl
theorem q1115 : Cond.methodLink RX7 267 yX7_isList ∈ wsL_law := w_in (in_t6 (List.mem_of_getElem? (i := 80) (by decide +kernel))) rfl
theorem q1116 : Cond.static yX7_isList ∈ wsL_law := w_in (in_t6 (List.mem_of_getElem? (i := 81) (by decide +kernel))) rfl
theorem q1117 : Cond.code yX7_isList cX7_isList 1 (some FieldType.boolean) ∈ wsL_law := w_in (in_t6 (List.mem_of_getElem? (i := 82) (by decide +kernel))) rfl
theorem q1118 : Cond.methodLink RL 152 yX7_set ∈ wsL_law := w_in (in_t6 (List.mem_of_getElem? (i := 83) (by decide +kernel))) rfl
theorem q1119 : Cond.instanceMethod yX7_set ∈ wsL_law := w_in (in_t6 (List.mem_of_getElem? (i := 84) (by decide +kernel))) rfl
theorem q1120 : Cond.selects RX7 yX7_set yX7_set ∈ wsL_law := w_in (in_t6 (List.mem_of_getElem? (i := 85) (by decide +kernel))) rfl
theorem q1121 : Cond.code yX7_set cX7_set 4 (some FieldType.int) ∈ wsL_law := w_in (in_t6 (List.mem_of_getElem? (i := 86) (by decide +kernel))) rfl
theorem q1122 : Cond.methodLink RL 156 yX7_get ∈ wsL_law := w_in (in_t6 (List.mem_of_getElem? (i := 87) (by decide +kernel))) rfl
theorem q1123 : Cond.instanceMethod yX7_get ∈ wsL_law := w_in (in_t6 (List.mem_of_getElem? (i := 88) (by decide +kernel))) rfl
theorem q1124 : Cond.selects RX7 yX7_get yX7_get ∈ wsL_law := w_in (in_t6 (List.mem_of_getElem? (i := 89) (by decide +kernel))) rfl
theorem q1125 : Cond.code yX7_get cX7_get 3 (some FieldType.int) ∈ wsL_law := w_in (in_t6 (List.mem_of_getElem? (i := 90) (by decide +kernel))) rfl
theorem q1126 : Cond.constant RX7 270 (-2000000000) ∈ wsL_law := w_in (in_t6 (List.mem_of_getElem? (i := 91) (by decide +kernel))) rfl
theorem q1127 : Cond.methodLink RL 160 yX7_lay ∈ wsL_law := w_in (in_t6 (List.mem_of_getElem? (i := 92) (by decide +kernel))) rfl
theorem q1128 : Cond.instanceMethod yX7_lay ∈ wsL_law := w_in (in_t6 (List.mem_of_getElem? (i := 93) (by decide +kernel))) rfl
theorem q1129 : Cond.selects RX7 yX7_lay yX7_lay ∈ wsL_law := w_in (in_t6 (List.mem_of_getElem? (i := 94) (by decide +kernel))) rfl
theorem q1130 : Cond.code yX7_lay cX7_lay 4 (some FieldType.int) ∈ wsL_law := w_in (in_t6 (List.mem_of_getElem? (i := 95) (by decide +kernel))) rfl
theorem q1131 : Cond.methodLink RL 164 yX7_judge ∈ wsL_law := w_in (in_t6 (List.mem_of_getElem? (i := 96) (by decide +kernel))) rfl
theorem q1132 : Cond.instanceMethod yX7_judge ∈ wsL_law := w_in (in_t6 (List.mem_of_getElem? (i := 97) (by decide +kernel))) rfl
theorem q1133 : Cond.selects RX7 yX7_judge yX7_judge ∈ wsL_law := w_in (in_t6 (List.mem_of_getElem? (i := 98) (by decide +kernel))) rfl
theorem q1134 : Cond.code yX7_judge cX7_judge 4 (some FieldType.int) ∈ wsL_law := w_in (in_t6 (List.mem_of_getElem? (i := 99) (by decide +kernel))) rfl
theorem q1135 : Cond.methodLink RL 168 yX7_image ∈ wsL_law := w_in (in_t6 (List.mem_of_getElem? (i := 100) (by decide +kernel))) rfl
theorem q1136 : Cond.instanceMethod yX7_image ∈ wsL_law := w_in (in_t6 (List.mem_of_getElem? (i := 101) (by decide +kernel))) rfl
theorem q1137 : Cond.selects RX7 yX7_image yX7_image ∈ wsL_law := w_in (in_t6 (List.mem_of_getElem? (i := 102) (by decide +kernel))) rfl
theorem q1138 : Cond.code yX7_image cX7_image 1 (some FieldType.int) ∈ wsL_law := w_in (in_t6 (List.mem_of_getElem? (i := 103) (by decide +kernel))) rfl
theorem q1139 : Cond.methodLink RX7 287 yX7_carryAll ∈ wsL_law := w_in (in_t6 (List.mem_of_getElem? (i := 104) (by decide +kernel))) rfl
theorem q1140 : Cond.instanceMethod yX7_carryAll ∈ wsL_law := w_in (in_t6 (List.mem_of_getElem? (i := 106) (by decide +kernel))) rfl
theorem q1141 : Cond.code yX7_carryAll cX7_carryAll 3 (none : Option FieldType) ∈ wsL_law := w_in (in_t6 (List.mem_of_getElem? (i := 107) (by decide +kernel))) rfl
theorem q1142 : Cond.methodLink RX7 281 yX7_carry ∈ wsL_law := w_in (in_t6 (List.mem_of_getElem? (i := 108) (by decide +kernel))) rfl
theorem q1143 : Cond.instanceMethod yX7_carry ∈ wsL_law := w_in (in_t6 (List.mem_of_getElem? (i := 110) (by decide +kernel))) rfl
theorem q1144 : Cond.code yX7_carry cX7_carry 2 (some FieldType.int) ∈ wsL_law := w_in (in_t6 (List.mem_of_getElem? (i := 111) (by decide +kernel))) rfl
theorem q1145 : Cond.methodLink RL 172 yX7_undo ∈ wsL_law := w_in (in_t6 (List.mem_of_getElem? (i := 112) (by decide +kernel))) rfl
theorem q1146 : Cond.instanceMethod yX7_undo ∈ wsL_law := w_in (in_t6 (List.mem_of_getElem? (i := 113) (by decide +kernel))) rfl
theorem q1147 : Cond.selects RX7 yX7_undo yX7_undo ∈ wsL_law := w_in (in_t6 (List.mem_of_getElem? (i := 114) (by decide +kernel))) rfl
theorem q1148 : Cond.code yX7_undo cX7_undo 1 (some FieldType.int) ∈ wsL_law := w_in (in_t6 (List.mem_of_getElem? (i := 115) (by decide +kernel))) rfl
theorem q1149 : Cond.fieldLink RJ0 15 RJ0 "coder" "B" ∈ wsL_law := w_in (in_t6 (List.mem_of_getElem? (i := 116) (by decide +kernel))) rfl
theorem q1150 : Cond.fieldLink RJ0 9 RJ0 "value" "[B" ∈ wsL_law := w_in (in_t6 (List.mem_of_getElem? (i := 117) (by decide +kernel))) rfl
theorem q1151 : Cond.selects RX4 yX4_wipe yX4_wipe ∈ wsL_law := w_in (in_sel (List.mem_map.mpr ⟨(yX4_wipe, 10), in_priv1 (List.mem_of_getElem? (i := 0) (by decide +kernel)), rfl⟩)) rfl
theorem q1152 : Cond.selects RX4 yX4_countRound yX4_countRound ∈ wsL_law := w_in (in_sel (List.mem_map.mpr ⟨(yX4_countRound, 10), in_priv1 (List.mem_of_getElem? (i := 1) (by decide +kernel)), rfl⟩)) rfl
theorem q1153 : Cond.selects RX4 yX4_countSide yX4_countSide ∈ wsL_law := w_in (in_sel (List.mem_map.mpr ⟨(yX4_countSide, 10), in_priv1 (List.mem_of_getElem? (i := 2) (by decide +kernel)), rfl⟩)) rfl
theorem q1154 : Cond.selects RX4 yX4_addTie yX4_addTie ∈ wsL_law := w_in (in_sel (List.mem_map.mpr ⟨(yX4_addTie, 10), in_priv1 (List.mem_of_getElem? (i := 3) (by decide +kernel)), rfl⟩)) rfl
theorem q1155 : Cond.selects RX4 yX4_countPlayed yX4_countPlayed ∈ wsL_law := w_in (in_sel (List.mem_map.mpr ⟨(yX4_countPlayed, 10), in_priv1 (List.mem_of_getElem? (i := 4) (by decide +kernel)), rfl⟩)) rfl
theorem q1156 : Cond.selects RX4 yX4_compareWithOpponents yX4_compareWithOpponents ∈ wsL_law := w_in (in_sel (List.mem_map.mpr ⟨(yX4_compareWithOpponents, 10), in_priv1 (List.mem_of_getElem? (i := 5) (by decide +kernel)), rfl⟩)) rfl
theorem q1157 : Cond.selects RX4 yX4_stand yX4_stand ∈ wsL_law := w_in (in_sel (List.mem_map.mpr ⟨(yX4_stand, 10), in_priv1 (List.mem_of_getElem? (i := 6) (by decide +kernel)), rfl⟩)) rfl
theorem q1158 : Cond.selects RX4 yX4_isAhead yX4_isAhead ∈ wsL_law := w_in (in_sel (List.mem_map.mpr ⟨(yX4_isAhead, 10), in_priv1 (List.mem_of_getElem? (i := 7) (by decide +kernel)), rfl⟩)) rfl
theorem q1159 : Cond.selects RX6 yX6_move yX6_move ∈ wsL_law := w_in (in_sel (List.mem_map.mpr ⟨(yX6_move, 8), in_priv1 (List.mem_of_getElem? (i := 8) (by decide +kernel)), rfl⟩)) rfl
theorem q1160 : Cond.selects RX6 yX6_isPlayer yX6_isPlayer ∈ wsL_law := w_in (in_sel (List.mem_map.mpr ⟨(yX6_isPlayer, 8), in_priv1 (List.mem_of_getElem? (i := 9) (by decide +kernel)), rfl⟩)) rfl
theorem q1161 : Cond.selects RX6 yX6_areTwo yX6_areTwo ∈ wsL_law := w_in (in_sel (List.mem_map.mpr ⟨(yX6_areTwo, 8), in_priv1 (List.mem_of_getElem? (i := 10) (by decide +kernel)), rfl⟩)) rfl
theorem q1162 : Cond.selects RX1 yX1_seatAll yX1_seatAll ∈ wsL_law := w_in (in_sel (List.mem_map.mpr ⟨(yX1_seatAll, 8), in_priv1 (List.mem_of_getElem? (i := 11) (by decide +kernel)), rfl⟩)) rfl
theorem q1163 : Cond.selects RX1 yX1_giveBye yX1_giveBye ∈ wsL_law := w_in (in_sel (List.mem_map.mpr ⟨(yX1_giveBye, 8), in_priv1 (List.mem_of_getElem? (i := 12) (by decide +kernel)), rfl⟩)) rfl
theorem q1164 : Cond.selects RX1 yX1_seatOfBye yX1_seatOfBye ∈ wsL_law := w_in (in_sel (List.mem_map.mpr ⟨(yX1_seatOfBye, 8), in_priv1 (List.mem_of_getElem? (i := 13) (by decide +kernel)), rfl⟩)) rfl
theorem q1165 : Cond.selects RX1 yX1_noteCosts yX1_noteCosts ∈ wsL_law := w_in (in_sel (List.mem_map.mpr ⟨(yX1_noteCosts, 8), in_priv1 (List.mem_of_getElem? (i := 14) (by decide +kernel)), rfl⟩)) rfl
theorem q1166 : Cond.selects RX1 yX1_wholeSet yX1_wholeSet ∈ wsL_law := w_in (in_sel (List.mem_map.mpr ⟨(yX1_wholeSet, 8), in_priv1 (List.mem_of_getElem? (i := 15) (by decide +kernel)), rfl⟩)) rfl
theorem q1167 : Cond.selects RX1 yX1_isReached yX1_isReached ∈ wsL_law := w_in (in_sel (List.mem_map.mpr ⟨(yX1_isReached, 8), in_priv2 (List.mem_of_getElem? (i := 0) (by decide +kernel)), rfl⟩)) rfl
theorem q1168 : Cond.selects RX1 yX1_weigh yX1_weigh ∈ wsL_law := w_in (in_sel (List.mem_map.mpr ⟨(yX1_weigh, 8), in_priv2 (List.mem_of_getElem? (i := 1) (by decide +kernel)), rfl⟩)) rfl
theorem q1169 : Cond.selects RX1 yX1_sumWith yX1_sumWith ∈ wsL_law := w_in (in_sel (List.mem_map.mpr ⟨(yX1_sumWith, 8), in_priv2 (List.mem_of_getElem? (i := 2) (by decide +kernel)), rfl⟩)) rfl
theorem q1170 : Cond.selects RX1 yX1_earliestMate yX1_earliestMate ∈ wsL_law := w_in (in_sel (List.mem_map.mpr ⟨(yX1_earliestMate, 8), in_priv2 (List.mem_of_getElem? (i := 3) (by decide +kernel)), rfl⟩)) rfl
theorem q1171 : Cond.selects RX1 yX1_seatBoard yX1_seatBoard ∈ wsL_law := w_in (in_sel (List.mem_map.mpr ⟨(yX1_seatBoard, 8), in_priv2 (List.mem_of_getElem? (i := 4) (by decide +kernel)), rfl⟩)) rfl
theorem q1172 : Cond.selects RX1 yX1_hasWhite yX1_hasWhite ∈ wsL_law := w_in (in_sel (List.mem_map.mpr ⟨(yX1_hasWhite, 8), in_priv2 (List.mem_of_getElem? (i := 5) (by decide +kernel)), rfl⟩)) rfl
theorem q1173 : Cond.selects RX6 yX6_isRound yX6_isRound ∈ wsL_law := w_in (in_sel (List.mem_map.mpr ⟨(yX6_isRound, 8), in_priv2 (List.mem_of_getElem? (i := 6) (by decide +kernel)), rfl⟩)) rfl
theorem q1174 : Cond.selects RX6 yX6_pointsMade yX6_pointsMade ∈ wsL_law := w_in (in_sel (List.mem_map.mpr ⟨(yX6_pointsMade, 8), in_priv2 (List.mem_of_getElem? (i := 7) (by decide +kernel)), rfl⟩)) rfl
theorem q1175 : Cond.selects RX6 yX6_readResults yX6_readResults ∈ wsL_law := w_in (in_sel (List.mem_map.mpr ⟨(yX6_readResults, 8), in_priv2 (List.mem_of_getElem? (i := 8) (by decide +kernel)), rfl⟩)) rfl
theorem q1176 : Cond.selects RX6 yX6_faultOfResults yX6_faultOfResults ∈ wsL_law := w_in (in_sel (List.mem_map.mpr ⟨(yX6_faultOfResults, 8), in_priv2 (List.mem_of_getElem? (i := 9) (by decide +kernel)), rfl⟩)) rfl
theorem q1177 : Cond.selects RX6 yX6_faultOfOrder yX6_faultOfOrder ∈ wsL_law := w_in (in_sel (List.mem_map.mpr ⟨(yX6_faultOfOrder, 8), in_priv2 (List.mem_of_getElem? (i := 10) (by decide +kernel)), rfl⟩)) rfl
theorem q1178 : Cond.selects RX6 yX6_readOrder yX6_readOrder ∈ wsL_law := w_in (in_sel (List.mem_map.mpr ⟨(yX6_readOrder, 8), in_priv2 (List.mem_of_getElem? (i := 11) (by decide +kernel)), rfl⟩)) rfl
theorem q1179 : Cond.selects RX6 yX6_writeHalved yX6_writeHalved ∈ wsL_law := w_in (in_sel (List.mem_map.mpr ⟨(yX6_writeHalved, 8), in_priv2 (List.mem_of_getElem? (i := 12) (by decide +kernel)), rfl⟩)) rfl
theorem q1180 : Cond.selects RX6 yX6_writeRound yX6_writeRound ∈ wsL_law := w_in (in_sel (List.mem_map.mpr ⟨(yX6_writeRound, 8), in_priv2 (List.mem_of_getElem? (i := 13) (by decide +kernel)), rfl⟩)) rfl
theorem q1181 : Cond.selects RX6 yX6_refusalOfList yX6_refusalOfList ∈ wsL_law := w_in (in_sel (List.mem_map.mpr ⟨(yX6_refusalOfList, 8), in_priv2 (List.mem_of_getElem? (i := 14) (by decide +kernel)), rfl⟩)) rfl
theorem q1182 : Cond.selects RX7 yX7_wrongPairing yX7_wrongPairing ∈ wsL_law := w_in (in_sel (List.mem_map.mpr ⟨(yX7_wrongPairing, 33), in_priv2 (List.mem_of_getElem? (i := 15) (by decide +kernel)), rfl⟩)) rfl
theorem q1183 : Cond.selects RX7 yX7_manyIn yX7_manyIn ∈ wsL_law := w_in (in_sel (List.mem_map.mpr ⟨(yX7_manyIn, 33), in_priv3 (List.mem_of_getElem? (i := 0) (by decide +kernel)), rfl⟩)) rfl
theorem q1184 : Cond.selects RX7 yX7_layBests yX7_layBests ∈ wsL_law := w_in (in_sel (List.mem_map.mpr ⟨(yX7_layBests, 33), in_priv3 (List.mem_of_getElem? (i := 1) (by decide +kernel)), rfl⟩)) rfl
theorem q1185 : Cond.selects RX7 yX7_layPlaces yX7_layPlaces ∈ wsL_law := w_in (in_sel (List.mem_map.mpr ⟨(yX7_layPlaces, 33), in_priv3 (List.mem_of_getElem? (i := 2) (by decide +kernel)), rfl⟩)) rfl
theorem q1186 : Cond.selects RX7 yX7_layStanding yX7_layStanding ∈ wsL_law := w_in (in_sel (List.mem_map.mpr ⟨(yX7_layStanding, 33), in_priv3 (List.mem_of_getElem? (i := 3) (by decide +kernel)), rfl⟩)) rfl
theorem q1187 : Cond.selects RX7 yX7_tieOf yX7_tieOf ∈ wsL_law := w_in (in_sel (List.mem_map.mpr ⟨(yX7_tieOf, 33), in_priv3 (List.mem_of_getElem? (i := 4) (by decide +kernel)), rfl⟩)) rfl
theorem q1188 : Cond.selects RX7 yX7_pointsOf yX7_pointsOf ∈ wsL_law := w_in (in_sel (List.mem_map.mpr ⟨(yX7_pointsOf, 33), in_priv3 (List.mem_of_getElem? (i := 5) (by decide +kernel)), rfl⟩)) rfl
theorem q1189 : Cond.selects RX7 yX7_done yX7_done ∈ wsL_law := w_in (in_sel (List.mem_map.mpr ⟨(yX7_done, 33), in_priv3 (List.mem_of_getElem? (i := 6) (by decide +kernel)), rfl⟩)) rfl
theorem q1190 : Cond.selects RX7 yX7_pointsBehind yX7_pointsBehind ∈ wsL_law := w_in (in_sel (List.mem_map.mpr ⟨(yX7_pointsBehind, 33), in_priv3 (List.mem_of_getElem? (i := 7) (by decide +kernel)), rfl⟩)) rfl
theorem q1191 : Cond.selects RX7 yX7_madeIn yX7_madeIn ∈ wsL_law := w_in (in_sel (List.mem_map.mpr ⟨(yX7_madeIn, 33), in_priv3 (List.mem_of_getElem? (i := 8) (by decide +kernel)), rfl⟩)) rfl
theorem q1192 : Cond.selects RX7 yX7_boardOf yX7_boardOf ∈ wsL_law := w_in (in_sel (List.mem_map.mpr ⟨(yX7_boardOf, 33), in_priv3 (List.mem_of_getElem? (i := 9) (by decide +kernel)), rfl⟩)) rfl
theorem q1193 : Cond.selects RX7 yX7_madeOn yX7_madeOn ∈ wsL_law := w_in (in_sel (List.mem_map.mpr ⟨(yX7_madeOn, 33), in_priv3 (List.mem_of_getElem? (i := 10) (by decide +kernel)), rfl⟩)) rfl
theorem q1194 : Cond.selects RX7 yX7_opponentsOf yX7_opponentsOf ∈ wsL_law := w_in (in_sel (List.mem_map.mpr ⟨(yX7_opponentsOf, 33), in_priv3 (List.mem_of_getElem? (i := 11) (by decide +kernel)), rfl⟩)) rfl
theorem q1195 : Cond.selects RX7 yX7_playedIn yX7_playedIn ∈ wsL_law := w_in (in_sel (List.mem_map.mpr ⟨(yX7_playedIn, 33), in_priv3 (List.mem_of_getElem? (i := 12) (by decide +kernel)), rfl⟩)) rfl
theorem q1196 : Cond.selects RX7 yX7_otherOn yX7_otherOn ∈ wsL_law := w_in (in_sel (List.mem_map.mpr ⟨(yX7_otherOn, 33), in_priv3 (List.mem_of_getElem? (i := 13) (by decide +kernel)), rfl⟩)) rfl
theorem q1197 : Cond.selects RX7 yX7_beatenOf yX7_beatenOf ∈ wsL_law := w_in (in_sel (List.mem_map.mpr ⟨(yX7_beatenOf, 33), in_priv3 (List.mem_of_getElem? (i := 14) (by decide +kernel)), rfl⟩)) rfl
theorem q1198 : Cond.selects RX7 yX7_winsOf yX7_winsOf ∈ wsL_law := w_in (in_sel (List.mem_map.mpr ⟨(yX7_winsOf, 33), in_priv3 (List.mem_of_getElem? (i := 15) (by decide +kernel)), rfl⟩)) rfl
theorem q1199 : Cond.selects RX7 yX7_blacksOf yX7_blacksOf ∈ wsL_law := w_in (in_sel (List.mem_map.mpr ⟨(yX7_blacksOf, 33), in_priv4 (List.mem_of_getElem? (i := 0) (by decide +kernel)), rfl⟩)) rfl
theorem q1200 : Cond.selects RX7 yX7_growthOf yX7_growthOf ∈ wsL_law := w_in (in_sel (List.mem_map.mpr ⟨(yX7_growthOf, 33), in_priv4 (List.mem_of_getElem? (i := 1) (by decide +kernel)), rfl⟩)) rfl
theorem q1201 : Cond.selects RX7 yX7_directOf yX7_directOf ∈ wsL_law := w_in (in_sel (List.mem_map.mpr ⟨(yX7_directOf, 33), in_priv4 (List.mem_of_getElem? (i := 2) (by decide +kernel)), rfl⟩)) rfl
theorem q1202 : Cond.selects RX7 yX7_aheadOf yX7_aheadOf ∈ wsL_law := w_in (in_sel (List.mem_map.mpr ⟨(yX7_aheadOf, 33), in_priv4 (List.mem_of_getElem? (i := 3) (by decide +kernel)), rfl⟩)) rfl
theorem q1203 : Cond.selects RX7 yX7_isAhead yX7_isAhead ∈ wsL_law := w_in (in_sel (List.mem_map.mpr ⟨(yX7_isAhead, 33), in_priv4 (List.mem_of_getElem? (i := 4) (by decide +kernel)), rfl⟩)) rfl
theorem q1204 : Cond.selects RX7 yX7_differsIn yX7_differsIn ∈ wsL_law := w_in (in_sel (List.mem_map.mpr ⟨(yX7_differsIn, 33), in_priv4 (List.mem_of_getElem? (i := 5) (by decide +kernel)), rfl⟩)) rfl
theorem q1205 : Cond.selects RX7 yX7_layBye yX7_layBye ∈ wsL_law := w_in (in_sel (List.mem_map.mpr ⟨(yX7_layBye, 33), in_priv4 (List.mem_of_getElem? (i := 6) (by decide +kernel)), rfl⟩)) rfl
theorem q1206 : Cond.selects RX7 yX7_byesOf yX7_byesOf ∈ wsL_law := w_in (in_sel (List.mem_map.mpr ⟨(yX7_byesOf, 33), in_priv4 (List.mem_of_getElem? (i := 7) (by decide +kernel)), rfl⟩)) rfl
theorem q1207 : Cond.selects RX7 yX7_forfeitsOf yX7_forfeitsOf ∈ wsL_law := w_in (in_sel (List.mem_map.mpr ⟨(yX7_forfeitsOf, 33), in_priv4 (List.mem_of_getElem? (i := 8) (by decide +kernel)), rfl⟩)) rfl
theorem q1208 : Cond.selects RX7 yX7_metIn yX7_metIn ∈ wsL_law := w_in (in_sel (List.mem_map.mpr ⟨(yX7_metIn, 33), in_priv4 (List.mem_of_getElem? (i := 9) (by decide +kernel)), rfl⟩)) rfl
theorem q1209 : Cond.selects RX7 yX7_costOf yX7_costOf ∈ wsL_law := w_in (in_sel (List.mem_map.mpr ⟨(yX7_costOf, 33), in_priv4 (List.mem_of_getElem? (i := 10) (by decide +kernel)), rfl⟩)) rfl
theorem q1210 : Cond.selects RX7 yX7_balanceOf yX7_balanceOf ∈ wsL_law := w_in (in_sel (List.mem_map.mpr ⟨(yX7_balanceOf, 33), in_priv4 (List.mem_of_getElem? (i := 11) (by decide +kernel)), rfl⟩)) rfl
theorem q1211 : Cond.selects RX7 yX7_playedMany yX7_playedMany ∈ wsL_law := w_in (in_sel (List.mem_map.mpr ⟨(yX7_playedMany, 33), in_priv4 (List.mem_of_getElem? (i := 12) (by decide +kernel)), rfl⟩)) rfl
theorem q1212 : Cond.selects RX7 yX7_latestOf yX7_latestOf ∈ wsL_law := w_in (in_sel (List.mem_map.mpr ⟨(yX7_latestOf, 33), in_priv4 (List.mem_of_getElem? (i := 13) (by decide +kernel)), rfl⟩)) rfl
theorem q1213 : Cond.selects RX7 yX7_earliestWith yX7_earliestWith ∈ wsL_law := w_in (in_sel (List.mem_map.mpr ⟨(yX7_earliestWith, 33), in_priv4 (List.mem_of_getElem? (i := 14) (by decide +kernel)), rfl⟩)) rfl
theorem q1214 : Cond.selects RX7 yX7_putBoard yX7_putBoard ∈ wsL_law := w_in (in_sel (List.mem_map.mpr ⟨(yX7_putBoard, 33), in_priv4 (List.mem_of_getElem? (i := 15) (by decide +kernel)), rfl⟩)) rfl
theorem q1215 : Cond.selects RX7 yX7_isWhite yX7_isWhite ∈ wsL_law := w_in (in_sel (List.mem_map.mpr ⟨(yX7_isWhite, 33), in_priv5 (List.mem_of_getElem? (i := 0) (by decide +kernel)), rfl⟩)) rfl
theorem q1216 : Cond.selects RX7 yX7_isPlayer yX7_isPlayer ∈ wsL_law := w_in (in_sel (List.mem_map.mpr ⟨(yX7_isPlayer, 33), in_priv5 (List.mem_of_getElem? (i := 1) (by decide +kernel)), rfl⟩)) rfl
theorem q1217 : Cond.selects RX7 yX7_areTwo yX7_areTwo ∈ wsL_law := w_in (in_sel (List.mem_map.mpr ⟨(yX7_areTwo, 33), in_priv5 (List.mem_of_getElem? (i := 2) (by decide +kernel)), rfl⟩)) rfl
theorem q1218 : Cond.selects RX7 yX7_withResult yX7_withResult ∈ wsL_law := w_in (in_sel (List.mem_map.mpr ⟨(yX7_withResult, 33), in_priv5 (List.mem_of_getElem? (i := 3) (by decide +kernel)), rfl⟩)) rfl
theorem q1219 : Cond.selects RX7 yX7_isAgain yX7_isAgain ∈ wsL_law := w_in (in_sel (List.mem_map.mpr ⟨(yX7_isAgain, 33), in_priv5 (List.mem_of_getElem? (i := 4) (by decide +kernel)), rfl⟩)) rfl
theorem q1220 : Cond.selects RX7 yX7_writesNumber yX7_writesNumber ∈ wsL_law := w_in (in_sel (List.mem_map.mpr ⟨(yX7_writesNumber, 33), in_priv5 (List.mem_of_getElem? (i := 5) (by decide +kernel)), rfl⟩)) rfl
theorem q1221 : Cond.selects RX7 yX7_writes yX7_writes ∈ wsL_law := w_in (in_sel (List.mem_map.mpr ⟨(yX7_writes, 33), in_priv5 (List.mem_of_getElem? (i := 6) (by decide +kernel)), rfl⟩)) rfl
theorem q1222 : Cond.selects RX7 yX7_writesRound yX7_writesRound ∈ wsL_law := w_in (in_sel (List.mem_map.mpr ⟨(yX7_writesRound, 33), in_priv5 (List.mem_of_getElem? (i := 7) (by decide +kernel)), rfl⟩)) rfl
theorem q1223 : Cond.selects RX7 yX7_metTwos yX7_metTwos ∈ wsL_law := w_in (in_sel (List.mem_map.mpr ⟨(yX7_metTwos, 33), in_priv5 (List.mem_of_getElem? (i := 8) (by decide +kernel)), rfl⟩)) rfl
theorem q1224 : Cond.selects RX7 yX7_allPoints yX7_allPoints ∈ wsL_law := w_in (in_sel (List.mem_map.mpr ⟨(yX7_allPoints, 33), in_priv5 (List.mem_of_getElem? (i := 9) (by decide +kernel)), rfl⟩)) rfl
theorem q1225 : Cond.selects RX7 yX7_carryAll yX7_carryAll ∈ wsL_law := w_in (in_sel (List.mem_map.mpr ⟨(yX7_carryAll, 33), in_priv5 (List.mem_of_getElem? (i := 10) (by decide +kernel)), rfl⟩)) rfl
theorem q1226 : Cond.selects RX7 yX7_carry yX7_carry ∈ wsL_law := w_in (in_sel (List.mem_map.mpr ⟨(yX7_carry, 33), in_priv5 (List.mem_of_getElem? (i := 11) (by decide +kernel)), rfl⟩)) rfl
