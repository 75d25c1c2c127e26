/-! the cells of the objects; the three that test an index first -/
abbrev o_X (a : Nat → Nat)  : Nat × va_E := (a 0, .inr (9, [.ref (a 1), .ref (a 5), .ref (a 15), .ref (a 20), .ref (a 22), .ref (a 23), .ref (a 27), .ref (a 31), .ref (a 33)]))
abbrev o_S (a : Nat → Nat) (S_columns : Int32) (S_rows : Int32) (S_grade : Int32) (S_stepsMade : Int32) : Nat × va_E := (a 1, .inr (6, [.ref (a 2), .ref (a 3), .ref (a 4), .int S_columns, .int S_rows, .int S_grade, .int S_stepsMade]))
abbrev o_Y (a : Nat → Nat) (Y_islands : Int32) (Y_ways : Int32) : Nat × va_E := (a 5, .inr (2, [.ref (a 6), .ref (a 7), .ref (a 8), .ref (a 9), .ref (a 10), .ref (a 11), .ref (a 12), .ref (a 13), .ref (a 14), .int Y_islands, .int Y_ways]))
abbrev o_U (a : Nat → Nat)  : Nat × va_E := (a 15, .inr (7, [.ref (a 1), .ref (a 5), .ref (a 16), .ref (a 17), .ref (a 18), .ref (a 19)]))
abbrev o_G (a : Nat → Nat)  : Nat × va_E := (a 20, .inr (0, [.ref (a 5), .ref (a 21)]))
abbrev o_R (a : Nat → Nat) (R_built : Int64) : Nat × va_E := (a 22, .inr (4, [.ref (a 1), .ref (a 5), .ref (a 15), .ref (a 20), .long R_built]))
abbrev o_E (a : Nat → Nat) (E_built : Int64) (E_most : Int32) (E_watched : Int32) (E_found : Int32) (E_common : Int32) (E_differs : Int32) : Nat × va_E := (a 23, .inr (5, [.ref (a 1), .ref (a 5), .ref (a 20), .ref (a 24), .ref (a 25), .ref (a 26), .long E_built, .int E_most, .int E_watched, .int E_found, .int E_common, .int E_differs]))
abbrev o_K (a : Nat → Nat) (K_columns : Int32) (K_rows : Int32) (K_islands : Int32) (K_z : Int32) : Nat × va_E := (a 27, .inr (3, [.ref (a 28), .ref (a 29), .ref (a 30), .int K_columns, .int K_rows, .int K_islands, .int K_z]))
abbrev o_H (a : Nat → Nat) (H_size : Int32) : Nat × va_E := (a 31, .inr (1, [.ref (a 32), .int H_size]))
abbrev o_T (a : Nat → Nat) (T_length : Int32) (T_columns : Int32) (T_rows : Int32) (T_inRow : Int32) (T_islands : Int32) (T_faultIndex : Int32) (T_faultReason : Int32) : Nat × va_E := (a 33, .inr (8, [.ref (a 34), .int T_length, .int T_columns, .int T_rows, .int T_inRow, .int T_islands, .int T_faultIndex, .int T_faultReason]))
abbrev o_M (a : Nat → Nat) (M_pasts : Int32) (M_typed : Int32) (M_ways : Int32) (M_z : Int32) (M_why : Int32) (M_rows : Int32) (M_wide : Int32) (M_column : Int32) (M_found : Int32) : Nat × va_E := (a 35, .inr (10, [.ref (a 36), .ref (a 37), .int M_pasts, .ref (a 38), .int M_typed, .int M_ways, .ref (a 39), .ref (a 40), .ref (a 41), .ref (a 42), .int M_z, .ref (a 43), .int M_why, .int M_rows, .int M_wide, .int M_column, .int M_found]))
abbrev o_O (o : Nat → Nat) (O_columns : Int32) (O_rows : Int32) (O_grade : Int32) (O_stepsMade : Int32) : Nat × va_E := (o 0, .inr (6, [.ref (o 1), .ref (o 2), .ref (o 3), .int O_columns, .int O_rows, .int O_grade, .int O_stepsMade]))
abbrev ai (q : Nat) (cI : ClassId) (n : Nat) (f : Nat → Int32) : Nat × va_E := (q, .inl (cI, n, .inl f))
abbrev aj (q : Nat) (cJ : ClassId) (n : Nat) (f : Nat → Int64) : Nat × va_E := (q, .inl (cJ, n, .inr (.inl f)))
theorem vAt_in {n : Nat} (hn : n ≤ 100000) {x : Int32} (h1 : ¬ x < 0) (h2 : ¬ nI n ≤ x) : vp_in x n := by
  obtain ⟨j, hj, rfl⟩ := nI_of h1
  have : j < n := by
    rcases Nat.lt_or_ge j n with q | q
    · exact q
    · exact absurd ((nI_leI (by omega) hj).mpr q) h2
  exact vp_in_nI this (by omega)

/-- row[place] if there is such a place -/
set_option maxHeartbeats 4000000 in
set_option maxRecDepth 100000 in
theorem c_X9_valueAt (l : Launch) (D : va_G) (cI cJ cS cB : ClassId) (q n : Nat) (hn : n ≤ 100000) (f : Nat → Int32) (x : Int32) (r : Int32) (hm : vAt n f x = r) : mU l D (TYs cI cJ cS cB) yX9_valueAt wsX9_valueAt { frames := 0, cells := 0, slots := 0, locals := 0 } [.ref q, .int x] [ai q cI n f] [ai q cI n f] (some (.int r)) := by
  refine mG_of (cc := cX9_valueAt) (maxL := 2) (ret := some .int) (by decide) rfl rfl (by decide) ?_
  intro p e s m args below meth c A hx hb hr hml hlk hnm hts hown hK hP hD hA hS ls hl
  have hl : lv_has ls 2 [(0, .ref q), (1, .int x)] := hl
  unfold vAt at hm
  refine lv_iload_n hx hb dX9_valueAt_0 rfl (lv_at hl 1 rfl) ?_
  refine lv_if_lt (tgt := 16) hx hb dX9_valueAt_1 (by decide) (fun c1 => ?_) (fun c1 => ?_)
  · have hm := ip c1 hm
    refine lv_iconst (v := 0) hx hb dX9_valueAt_16 (by decide) ?_
    subst hm
    exact rI () hx hb hr hlk hP hD hS dX9_valueAt_17
  · have hm := ine c1 hm
    refine lv_iload_n hx hb dX9_valueAt_4 rfl (lv_at hl 1 rfl) ?_
    refine lv_aload_n hx hb dX9_valueAt_5 rfl (lv_at hl 0 rfl) ?_
    refine va_alen hx hb hK.1 hP 0 0 rfl rfl (v := nI n) rfl dX9_valueAt_6 ?_
    refine lv_icmp_ge (tgt := 16) hx hb dX9_valueAt_7 (by decide) (fun c2 => ?_) (fun c2 => ?_)
    · have hm := ip c2 hm
      refine lv_iconst (v := 0) hx hb dX9_valueAt_16 (by decide) ?_
      subst hm
      exact rI () hx hb hr hlk hP hD hS dX9_valueAt_17
    · have hm := ine c2 hm
      have hin := vAt_in hn c1 c2
      refine lv_aload_n hx hb dX9_valueAt_10 rfl (lv_at hl 0 rfl) ?_
      refine lv_iload_n hx hb dX9_valueAt_11 rfl (lv_at hl 1 rfl) ?_
      refine va_iald hx hb hK.1 hP 0 0 rfl rfl hin dX9_valueAt_12 ?_
      refine lv_goto (tgt := 17) hx hb dX9_valueAt_13 (by decide) ?_
      subst hm
      exact rI () hx hb hr hlk hP hD hS dX9_valueAt_17
/-- row[place] = value if there is such a place -/
set_option maxHeartbeats 4000000 in
set_option maxRecDepth 100000 in
theorem c_X9_put (l : Launch) (D : va_G) (cI cJ cS cB : ClassId) (q n : Nat) (hn : n ≤ 100000) (f : Nat → Int32) (x v : Int32) (r : Nat → Int32) (hm : vPut n f x v = r) : mU l D (TYs cI cJ cS cB) yX9_put wsX9_put { frames := 0, cells := 0, slots := 0, locals := 0 } [.ref q, .int x, .int v] [ai q cI n f] [ai q cI n r] none := by
  refine mG_of (cc := cX9_put) (maxL := 3) (ret := none) (by decide) rfl rfl (by decide) ?_
  intro p e s m args below meth c A hx hb hr hml hlk hnm hts hown hK hP hD hA hS ls hl
  have hl : lv_has ls 3 [(0, .ref q), (1, .int x), (2, .int v)] := hl
  unfold vPut at hm
  refine lv_iload_n hx hb dX9_put_0 rfl (lv_at hl 1 rfl) ?_
  refine lv_if_lt (tgt := 14) hx hb dX9_put_1 (by decide) (fun c1 => ?_) (fun c1 => ?_)
  · have hm := ip c1 hm
    subst hm
    exact rV () hx hb hr hlk hP hD hS dX9_put_14
  · have hm := ine c1 hm
    refine lv_iload_n hx hb dX9_put_4 rfl (lv_at hl 1 rfl) ?_
    refine lv_aload_n hx hb dX9_put_5 rfl (lv_at hl 0 rfl) ?_
    refine va_alen hx hb hK.1 hP 0 0 rfl rfl (v := nI n) rfl dX9_put_6 ?_
    refine lv_icmp_ge (tgt := 14) hx hb dX9_put_7 (by decide) (fun c2 => ?_) (fun c2 => ?_)
    · have hm := ip c2 hm
      subst hm
      exact rV () hx hb hr hlk hP hD hS dX9_put_14
    · have hm := ine c2 hm
      have hin := vAt_in hn c1 c2
      refine lv_aload_n hx hb dX9_put_10 rfl (lv_at hl 0 rfl) ?_
      refine lv_iload_n hx hb dX9_put_11 rfl (lv_at hl 1 rfl) ?_
      refine lv_iload_n hx hb dX9_put_12 rfl (lv_at hl 2 rfl) ?_
      refine va_iast hx hb hK.1 hP hD hS 0 0 rfl rfl hin dX9_put_13 (fun H locs hP hD hS => ?_)
      subst hm
      exact rV () hx hb hr hlk hP hD hS dX9_put_14
/-- row[place] += value if there is such a place -/
set_option maxHeartbeats 4000000 in
set_option maxRecDepth 100000 in
theorem c_X9_add (l : Launch) (D : va_G) (cI cJ cS cB : ClassId) (q n : Nat) (hn : n ≤ 100000) (f : Nat → Int32) (x v : Int32) (r : Nat → Int32) (hm : vAdd n f x v = r) : mU l D (TYs cI cJ cS cB) yX9_add wsX9_add { frames := 0, cells := 0, slots := 0, locals := 0 } [.ref q, .int x, .int v] [ai q cI n f] [ai q cI n r] none := by
  refine mG_of (cc := cX9_add) (maxL := 3) (ret := none) (by decide) rfl rfl (by decide) ?_
  intro p e s m args below meth c A hx hb hr hml hlk hnm hts hown hK hP hD hA hS ls hl
  have hl : lv_has ls 3 [(0, .ref q), (1, .int x), (2, .int v)] := hl
  unfold vAdd at hm
  refine lv_iload_n hx hb dX9_add_0 rfl (lv_at hl 1 rfl) ?_
  refine lv_if_lt (tgt := 17) hx hb dX9_add_1 (by decide) (fun c1 => ?_) (fun c1 => ?_)
  · have hm := ip c1 hm
    subst hm
    exact rV () hx hb hr hlk hP hD hS dX9_add_17
  · have hm := ine c1 hm
    refine lv_iload_n hx hb dX9_add_4 rfl (lv_at hl 1 rfl) ?_
    refine lv_aload_n hx hb dX9_add_5 rfl (lv_at hl 0 rfl) ?_
    refine va_alen hx hb hK.1 hP 0 0 rfl rfl (v := nI n) rfl dX9_add_6 ?_
    refine lv_icmp_ge (tgt := 17) hx hb dX9_add_7 (by decide) (fun c2 => ?_) (fun c2 => ?_)
    · have hm := ip c2 hm
      subst hm
      exact rV () hx hb hr hlk hP hD hS dX9_add_17
    · have hm := ine c2 hm
      have hin := vAt_in hn c1 c2
      refine lv_aload_n hx hb dX9_add_10 rfl (lv_at hl 0 rfl) ?_
      refine lv_iload_n hx hb dX9_add_11 rfl (lv_at hl 1 rfl) ?_
      refine lv_dup2 hx hb dX9_add_12 rfl rfl ?_
      refine va_iald hx hb hK.1 hP 0 0 rfl rfl hin dX9_add_13 ?_
      refine lv_iload_n hx hb dX9_add_14 rfl (lv_at hl 2 rfl) ?_
      refine lv_iadd hx hb dX9_add_15 ?_
      refine va_iast hx hb hK.1 hP hD hS 0 0 rfl rfl hin dX9_add_16 (fun H locs hP hD hS => ?_)
      subst hm
      exact rV () hx hb hr hlk hP hD hS dX9_add_17

theorem hd_X9_valueAt : yX9_valueAt.cls ≠ "java/lang/invoke/MethodHandle" ∧ yX9_valueAt.cls ≠ "java/lang/invoke/VarHandle" ∧ (parseMethodDescriptor yX9_valueAt.desc).map (fun d => d.parameters.length) = some 2 := by decide +kernel
theorem hd_X9_put : yX9_put.cls ≠ "java/lang/invoke/MethodHandle" ∧ yX9_put.cls ≠ "java/lang/invoke/VarHandle" ∧ (parseMethodDescriptor yX9_put.desc).map (fun d => d.parameters.length) = some 3 := by decide +kernel
theorem hd_X9_add : yX9_add.cls ≠ "java/lang/invoke/MethodHandle" ∧ yX9_add.cls ≠ "java/lang/invoke/VarHandle" ∧ (parseMethodDescriptor yX9_add.desc).map (fun d => d.parameters.length) = some 3 := by decide +kernel
theorem hd_X6_cells : yX6_cells.cls = RX6 ∧ yX6_cells.cls ≠ "java/lang/invoke/MethodHandle" ∧ yX6_cells.cls ≠ "java/lang/invoke/VarHandle" ∧ (parseMethodDescriptor yX6_cells.desc).map (fun d => d.parameters.length) = some 0 := by decide +kernel
def m_X6_cells (S_columns : Int32) (S_rows : Int32) : Int32 :=
  S_columns * S_rows
set_option maxHeartbeats 4000000 in
set_option maxRecDepth 100000 in
theorem c_X6_cells (l : Launch) (D : va_G) (cI cJ cS cB : ClassId) (a : Nat → Nat) (S_columns : Int32) (S_rows : Int32) (S_grade : Int32) (S_stepsMade : Int32)  (r0 : Int32) (hm : m_X6_cells S_columns S_rows = r0) :
    mU l D (TYs cI cJ cS cB) yX6_cells wsX6_cells { frames := 0, cells := 0, slots := 0, locals := 0 } [.ref (a 1)] [o_S a S_columns S_rows S_grade S_stepsMade] [o_S a S_columns S_rows S_grade S_stepsMade] (some (.int r0)) := by
  refine mG_of (cc := cX6_cells) (maxL := 1) (ret := (some .int)) (by decide) rfl rfl (by decide) ?_
  intro p e s m args below meth c A hx hb hr hml hlk hnm hts hown hK hP hD hA hS ls hl
  have hl : lv_has ls 1 [(0, .ref (a 1))] := hl
  have hiX6 : ∀ w ∈ wsX60, w ∈ wsX6_cells := fun w h => List.mem_cons_of_mem _ (List.mem_append_right _ h)
  unfold m_X6_cells at hm
  refine lv_aload_n hx hb dX6_cells_0 rfl (lv_at hl 0 rfl) ?_
  refine va_get (D := D) (ci := 6) (v := .int S_columns) (C := RX6) (T := TX6) (N := 7) hx hb hts hiX6 hown hK.1 hP 0 rfl rfl 3 (by decide) (hts (.fieldLink RX6 25 "IslandBridges$State" "columns" "I") (List.mem_of_getElem? (i := 1) rfl)) (fun _ h9 => h9) rfl dX6_cells_1 ?_
  refine lv_aload_n hx hb dX6_cells_4 rfl (lv_at hl 0 rfl) ?_
  refine va_get (D := D) (ci := 6) (v := .int S_rows) (C := RX6) (T := TX6) (N := 7) hx hb hts hiX6 hown hK.1 hP 0 rfl rfl 4 (by decide) (hts (.fieldLink RX6 29 "IslandBridges$State" "rows" "I") (List.mem_of_getElem? (i := 2) rfl)) (fun _ h9 => h9) rfl dX6_cells_5 ?_
  refine lv_imul hx hb dX6_cells_8 ?_
  cases hm
  exact rI () hx hb hr hlk hP hD hS dX6_cells_9
theorem hd_X2_first : yX2_first.cls = RX2 ∧ yX2_first.cls ≠ "java/lang/invoke/MethodHandle" ∧ yX2_first.cls ≠ "java/lang/invoke/VarHandle" ∧ (parseMethodDescriptor yX2_first.desc).map (fun d => d.parameters.length) = some 1 := by decide +kernel
def m_X2_first (Y_firstOf : Nat → Int32) (x1 : Int32) : Int32 :=
  lt1 (vAt 48 Y_firstOf x1) (fun v1 => v1)
set_option maxHeartbeats 4000000 in
set_option maxRecDepth 100000 in
theorem c_X2_first (l : Launch) (D : va_G) (cI cJ cS cB : ClassId) (a : Nat → Nat) (Y_islands : Int32) (Y_ways : Int32) (Y_firstOf : Nat → Int32) (x1 : Int32) (r0 : Int32) (hm : m_X2_first Y_firstOf x1 = r0) :
    mU l D (TYs cI cJ cS cB) yX2_first wsX2_first { frames := 1, cells := 0, slots := 0, locals := 21 } [.ref (a 5), .int x1] [o_Y a Y_islands Y_ways, ai (a 8) cI 48 Y_firstOf] [o_Y a Y_islands Y_ways, ai (a 8) cI 48 Y_firstOf] (some (.int r0)) := by
  refine mG_of (cc := cX2_first) (maxL := 2) (ret := (some .int)) (by decide) rfl rfl (by decide) ?_
  intro p e s m args below meth c A hx hb hr hml hlk hnm hts hown hK hP hD hA hS ls hl
  have hl : lv_has ls 2 [(0, .ref (a 5)), (1, .int x1)] := hl
  have hiX2 : ∀ w ∈ wsX20, w ∈ wsX2_first := fun w h => List.mem_cons_of_mem _ (List.mem_append_right _ h)
  unfold m_X2_first at hm
  refine lv_aload_n hx hb dX2_first_0 rfl (lv_at hl 0 rfl) ?_
  refine va_get (D := D) (ci := 2) (v := .ref (a 8)) (C := RX2) (T := TX2) (N := 11) hx hb hts hiX2 hown hK.1 hP 0 rfl rfl 2 (by decide) (hts (.fieldLink RX2 18 "IslandBridges$Layout" "firstOf" "[I") (List.mem_of_getElem? (i := 1) rfl)) (fun _ h9 => h9) rfl dX2_first_1 ?_
  refine lv_iload_n hx hb dX2_first_4 rfl (lv_at hl 1 rfl) ?_
  obtain ⟨v1, ev1, hm⟩ := lt1_inv hm
  refine cNs ⟨hx, hb, hml, hown, hts⟩ (c_X9_valueAt l D cI cJ cS cB (a 8) 48 (Nat.le_of_ble_eq_true rfl) Y_firstOf x1 v1 ev1) ⟨va_cnB 2 hts gX2_first_X9_valueAt_n62 rfl rfl rfl (hK.n 4 rfl) (hts (.initialized RX9) (List.mem_of_getElem? (i := 3) rfl)) hd_X9_valueAt ⟨(Nat.le_of_ble_eq_true rfl), (Nat.le_of_ble_eq_true rfl)⟩, (hts (.static yX9_valueAt) (List.mem_of_getElem? (i := 2) rfl)), trivial⟩ hK hP hD hS hA [1] rfl rfl rfl hl.1 (Nat.le_of_ble_eq_true rfl) ⟨Nat.zero_le _, Nat.zero_le _⟩ rfl dX2_first_5 (fun H locs hP hD hS => ?_)
  cases hm
  exact rI () hx hb hr hlk hP hD hS dX2_first_8
theorem hd_X2_second : yX2_second.cls = RX2 ∧ yX2_second.cls ≠ "java/lang/invoke/MethodHandle" ∧ yX2_second.cls ≠ "java/lang/invoke/VarHandle" ∧ (parseMethodDescriptor yX2_second.desc).map (fun d => d.parameters.length) = some 1 := by decide +kernel
def m_X2_second (Y_secondOf : Nat → Int32) (x1 : Int32) : Int32 :=
  lt1 (vAt 48 Y_secondOf x1) (fun v1 => v1)
set_option maxHeartbeats 4000000 in
set_option maxRecDepth 100000 in
theorem c_X2_second (l : Launch) (D : va_G) (cI cJ cS cB : ClassId) (a : Nat → Nat) (Y_islands : Int32) (Y_ways : Int32) (Y_secondOf : Nat → Int32) (x1 : Int32) (r0 : Int32) (hm : m_X2_second Y_secondOf x1 = r0) :
    mU l D (TYs cI cJ cS cB) yX2_second wsX2_second { frames := 1, cells := 0, slots := 0, locals := 21 } [.ref (a 5), .int x1] [o_Y a Y_islands Y_ways, ai (a 9) cI 48 Y_secondOf] [o_Y a Y_islands Y_ways, ai (a 9) cI 48 Y_secondOf] (some (.int r0)) := by
  refine mG_of (cc := cX2_second) (maxL := 2) (ret := (some .int)) (by decide) rfl rfl (by decide) ?_
  intro p e s m args below meth c A hx hb hr hml hlk hnm hts hown hK hP hD hA hS ls hl
  have hl : lv_has ls 2 [(0, .ref (a 5)), (1, .int x1)] := hl
  have hiX2 : ∀ w ∈ wsX20, w ∈ wsX2_second := fun w h => List.mem_cons_of_mem _ (List.mem_append_right _ h)
  unfold m_X2_second at hm
  refine lv_aload_n hx hb dX2_second_0 rfl (lv_at hl 0 rfl) ?_
  refine va_get (D := D) (ci := 2) (v := .ref (a 9)) (C := RX2) (T := TX2) (N := 11) hx hb hts hiX2 hown hK.1 hP 0 rfl rfl 3 (by decide) (hts (.fieldLink RX2 21 "IslandBridges$Layout" "secondOf" "[I") (List.mem_of_getElem? (i := 1) rfl)) (fun _ h9 => h9) rfl dX2_second_1 ?_
  refine lv_iload_n hx hb dX2_second_4 rfl (lv_at hl 1 rfl) ?_
  obtain ⟨v1, ev1, hm⟩ := lt1_inv hm
  refine cNs ⟨hx, hb, hml, hown, hts⟩ (c_X9_valueAt l D cI cJ cS cB (a 9) 48 (Nat.le_of_ble_eq_true rfl) Y_secondOf x1 v1 ev1) ⟨va_cnB 2 hts gX2_second_X9_valueAt_n62 rfl rfl rfl (hK.n 4 rfl) (hts (.initialized RX9) (List.mem_of_getElem? (i := 3) rfl)) hd_X9_valueAt ⟨(Nat.le_of_ble_eq_true rfl), (Nat.le_of_ble_eq_true rfl)⟩, (hts (.static yX9_valueAt) (List.mem_of_getElem? (i := 2) rfl)), trivial⟩ hK hP hD hS hA [1] rfl rfl rfl hl.1 (Nat.le_of_ble_eq_true rfl) ⟨Nat.zero_le _, Nat.zero_le _⟩ rfl dX2_second_5 (fun H locs hP hD hS => ?_)
  cases hm
  exact rI () hx hb hr hlk hP hD hS dX2_second_8
theorem hd_X2_isOver : yX2_isOver.cls = RX2 ∧ yX2_isOver.cls ≠ "java/lang/invoke/MethodHandle" ∧ yX2_isOver.cls ≠ "java/lang/invoke/VarHandle" ∧ (parseMethodDescriptor yX2_isOver.desc).map (fun d => d.parameters.length) = some 2 := by decide +kernel
def m_X2_isOver (Y_firstCellOf : Nat → Int32) (Y_secondCellOf : Nat → Int32) (Y_strideOf : Nat → Int32) (x1 : Int32) (x2 : Int32) : Option (Int32) :=
  lt1 (vAt 48 Y_strideOf x1) (fun v1 => lt1 (vAt 48 Y_firstCellOf x1) (fun v2 => lt1 (vAt 48 Y_secondCellOf x1) (fun v3 => if v1 = 0 then (some 0) else (if x2 ≤ v2 then (some 0) else (if v3 ≤ x2 then (some 0) else (rmd (x2 - v2) v1 (fun v4 => if v4 = 0 then (some 1) else (some 0))))))))
set_option maxHeartbeats 4000000 in
set_option maxRecDepth 100000 in
theorem c_X2_isOver (l : Launch) (D : va_G) (cI cJ cS cB : ClassId) (a : Nat → Nat) (Y_islands : Int32) (Y_ways : Int32) (Y_firstCellOf : Nat → Int32) (Y_secondCellOf : Nat → Int32) (Y_strideOf : Nat → Int32) (x1 : Int32) (x2 : Int32) (r0 : Int32) (hm : m_X2_isOver Y_firstCellOf Y_secondCellOf Y_strideOf x1 x2 = some r0) :
    mU l D (TYs cI cJ cS cB) yX2_isOver wsX2_isOver { frames := 1, cells := 0, slots := 0, locals := 21 } [.ref (a 5), .int x1, .int x2] [o_Y a Y_islands Y_ways, ai (a 10) cI 48 Y_firstCellOf, ai (a 11) cI 48 Y_secondCellOf, ai (a 12) cI 48 Y_strideOf] [o_Y a Y_islands Y_ways, ai (a 10) cI 48 Y_firstCellOf, ai (a 11) cI 48 Y_secondCellOf, ai (a 12) cI 48 Y_strideOf] (some (.int r0)) := by
  refine mG_of (cc := cX2_isOver) (maxL := 6) (ret := (some .boolean)) (by decide) rfl rfl (by decide) ?_
  intro p e s m args below meth c A hx hb hr hml hlk hnm hts hown hK hP hD hA hS ls hl
  have hl : lv_has ls 6 [(0, .ref (a 5)), (1, .int x1), (2, .int x2)] := hl
  have hiX2 : ∀ w ∈ wsX20, w ∈ wsX2_isOver := fun w h => List.mem_cons_of_mem _ (List.mem_append_right _ h)
  unfold m_X2_isOver at hm
  refine lv_aload_n hx hb dX2_isOver_0 rfl (lv_at hl 0 rfl) ?_
  refine va_get (D := D) (ci := 2) (v := .ref (a 12)) (C := RX2) (T := TX2) (N := 11) hx hb hts hiX2 hown hK.1 hP 0 rfl rfl 6 (by decide) (hts (.fieldLink RX2 30 "IslandBridges$Layout" "strideOf" "[I") (List.mem_of_getElem? (i := 1) rfl)) (fun _ h9 => h9) rfl dX2_isOver_1 ?_
  refine lv_iload_n hx hb dX2_isOver_4 rfl (lv_at hl 1 rfl) ?_
  obtain ⟨v1, ev1, hm⟩ := lt1_inv hm
  refine cNs ⟨hx, hb, hml, hown, hts⟩ (c_X9_valueAt l D cI cJ cS cB (a 12) 48 (Nat.le_of_ble_eq_true rfl) Y_strideOf x1 v1 ev1) ⟨va_cnB 2 hts gX2_isOver_X9_valueAt_n62 rfl rfl rfl (hK.n 4 rfl) (hts (.initialized RX9) (List.mem_of_getElem? (i := 5) rfl)) hd_X9_valueAt ⟨(Nat.le_of_ble_eq_true rfl), (Nat.le_of_ble_eq_true rfl)⟩, (hts (.static yX9_valueAt) (List.mem_of_getElem? (i := 4) rfl)), trivial⟩ hK hP hD hS hA [3] rfl rfl rfl hl.1 (Nat.le_of_ble_eq_true rfl) ⟨Nat.zero_le _, Nat.zero_le _⟩ rfl dX2_isOver_5 (fun H locs hP hD hS => ?_)
  refine lv_istore_n (lv' := [(3, .int v1), (0, .ref (a 5)), (1, .int x1), (2, .int x2)]) hx hb dX2_isOver_8 rfl hl (by decide) rfl (fun ls hl => ?_)
  refine lv_aload_n hx hb dX2_isOver_9 rfl (lv_at hl 1 rfl) ?_
  refine va_get (D := D) (ci := 2) (v := .ref (a 10)) (C := RX2) (T := TX2) (N := 11) hx hb hts hiX2 hown hK.1 hP 0 rfl rfl 4 (by decide) (hts (.fieldLink RX2 24 "IslandBridges$Layout" "firstCellOf" "[I") (List.mem_of_getElem? (i := 2) rfl)) (fun _ h9 => h9) rfl dX2_isOver_10 ?_
  refine lv_iload_n hx hb dX2_isOver_13 rfl (lv_at hl 2 rfl) ?_
  obtain ⟨v2, ev2, hm⟩ := lt1_inv hm
  refine cNs ⟨hx, hb, hml, hown, hts⟩ (c_X9_valueAt l D cI cJ cS cB (a 10) 48 (Nat.le_of_ble_eq_true rfl) Y_firstCellOf x1 v2 ev2) ⟨va_cnB 2 hts gX2_isOver_X9_valueAt_n62 rfl rfl rfl (hK.n 4 rfl) (hts (.initialized RX9) (List.mem_of_getElem? (i := 5) rfl)) hd_X9_valueAt ⟨(Nat.le_of_ble_eq_true rfl), (Nat.le_of_ble_eq_true rfl)⟩, (hts (.static yX9_valueAt) (List.mem_of_getElem? (i := 4) rfl)), trivial⟩ hK hP hD hS hA [1] rfl rfl rfl hl.1 (Nat.le_of_ble_eq_true rfl) ⟨Nat.zero_le _, Nat.zero_le _⟩ rfl dX2_isOver_14 (fun H locs hP hD hS => ?_)
  refine lv_istore (lv' := [(4, .int v2), (3, .int v1), (0, .ref (a 5)), (1, .int x1), (2, .int x2)]) hx hb dX2_isOver_17 hl (by decide) rfl (fun ls hl => ?_)
  refine lv_aload_n hx hb dX2_isOver_19 rfl (lv_at hl 2 rfl) ?_
  refine va_get (D := D) (ci := 2) (v := .ref (a 11)) (C := RX2) (T := TX2) (N := 11) hx hb hts hiX2 hown hK.1 hP 0 rfl rfl 5 (by decide) (hts (.fieldLink RX2 27 "IslandBridges$Layout" "secondCellOf" "[I") (List.mem_of_getElem? (i := 3) rfl)) (fun _ h9 => h9) rfl dX2_isOver_20 ?_
  refine lv_iload_n hx hb dX2_isOver_23 rfl (lv_at hl 3 rfl) ?_
  obtain ⟨v3, ev3, hm⟩ := lt1_inv hm
  refine cNs ⟨hx, hb, hml, hown, hts⟩ (c_X9_valueAt l D cI cJ cS cB (a 11) 48 (Nat.le_of_ble_eq_true rfl) Y_secondCellOf x1 v3 ev3) ⟨va_cnB 2 hts gX2_isOver_X9_valueAt_n62 rfl rfl rfl (hK.n 4 rfl) (hts (.initialized RX9) (List.mem_of_getElem? (i := 5) rfl)) hd_X9_valueAt ⟨(Nat.le_of_ble_eq_true rfl), (Nat.le_of_ble_eq_true rfl)⟩, (hts (.static yX9_valueAt) (List.mem_of_getElem? (i := 4) rfl)), trivial⟩ hK hP hD hS hA [2] rfl rfl rfl hl.1 (Nat.le_of_ble_eq_true rfl) ⟨Nat.zero_le _, Nat.zero_le _⟩ rfl dX2_isOver_24 (fun H locs hP hD hS => ?_)
  refine lv_istore (lv' := [(5, .int v3), (4, .int v2), (3, .int v1), (0, .ref (a 5)), (1, .int x1), (2, .int x2)]) hx hb dX2_isOver_27 hl (by decide) rfl (fun ls hl => ?_)
  refine lv_iload_n hx hb dX2_isOver_29 rfl (lv_at hl 2 rfl) ?_
  refine lv_if_eq (tgt := 58) hx hb dX2_isOver_30 (by decide) (fun c30 => ?_) (fun c30 => ?_)
  · have hm := ip c30 hm
    refine lv_iconst (v := 0) hx hb dX2_isOver_58 (by decide) ?_
    cases hm
    exact rZ () hx hb hr hlk (by decide) hP hD hS dX2_isOver_59
  · have hm := ine c30 hm
    refine lv_iload_n hx hb dX2_isOver_33 rfl (lv_at hl 5 rfl) ?_
    refine lv_iload hx hb dX2_isOver_34 (lv_at hl 1 rfl) ?_
    refine lv_icmp_le (tgt := 58) hx hb dX2_isOver_36 (by decide) (fun c36 => ?_) (fun c36 => ?_)
    · have hm := ip c36 hm
      refine lv_iconst (v := 0) hx hb dX2_isOver_58 (by decide) ?_
      cases hm
      exact rZ () hx hb hr hlk (by decide) hP hD hS dX2_isOver_59
    · have hm := ine c36 hm
      refine lv_iload_n hx hb dX2_isOver_39 rfl (lv_at hl 5 rfl) ?_
      refine lv_iload hx hb dX2_isOver_40 (lv_at hl 0 rfl) ?_
      refine lv_icmp_ge (tgt := 58) hx hb dX2_isOver_42 (by decide) (fun c42 => ?_) (fun c42 => ?_)
      · have hm := ip c42 hm
        refine lv_iconst (v := 0) hx hb dX2_isOver_58 (by decide) ?_
        cases hm
        exact rZ () hx hb hr hlk (by decide) hP hD hS dX2_isOver_59
      · have hm := ine c42 hm
        refine lv_iload_n hx hb dX2_isOver_45 rfl (lv_at hl 5 rfl) ?_
        refine lv_iload hx hb dX2_isOver_46 (lv_at hl 1 rfl) ?_
        refine lv_isub hx hb dX2_isOver_48 ?_
        refine lv_iload_n hx hb dX2_isOver_49 rfl (lv_at hl 2 rfl) ?_
        obtain ⟨v4, nv4, ev4, hm⟩ := rmd_inv hm
        refine lv_irem hx hb dX2_isOver_50 nv4 ?_
        refine ltop ev4 ?_
        refine lv_if_ne (tgt := 58) hx hb dX2_isOver_51 (by decide) (fun c51 => ?_) (fun c51 => ?_)
        · have hm := ine c51 hm
          refine lv_iconst (v := 0) hx hb dX2_isOver_58 (by decide) ?_
          cases hm
          exact rZ () hx hb hr hlk (by decide) hP hD hS dX2_isOver_59
        · have hm := ip c51 hm
          refine lv_iconst (v := 1) hx hb dX2_isOver_54 (by decide) ?_
          refine lv_goto (tgt := 59) hx hb dX2_isOver_55 (by decide) ?_
          cases hm
          exact rZ () hx hb hr hlk (by decide) hP hD hS dX2_isOver_59
theorem hd_X0_leader : yX0_leader.cls = RX0 ∧ yX0_leader.cls ≠ "java/lang/invoke/MethodHandle" ∧ yX0_leader.cls ≠ "java/lang/invoke/VarHandle" ∧ (parseMethodDescriptor yX0_leader.desc).map (fun d => d.parameters.length) = some 1 := by decide +kernel
def m_X0_leader (G_leaders : Nat → Int32) (x1 : Int32) : Int32 :=
  lt1 (vAt 24 G_leaders x1) (fun v1 => v1)
set_option maxHeartbeats 4000000 in
set_option maxRecDepth 100000 in
theorem c_X0_leader (l : Launch) (D : va_G) (cI cJ cS cB : ClassId) (a : Nat → Nat) (G_leaders : Nat → Int32) (x1 : Int32) (r0 : Int32) (hm : m_X0_leader G_leaders x1 = r0) :
    mU l D (TYs cI cJ cS cB) yX0_leader wsX0_leader { frames := 1, cells := 0, slots := 0, locals := 21 } [.ref (a 20), .int x1] [o_G a , ai (a 21) cI 24 G_leaders] [o_G a , ai (a 21) cI 24 G_leaders] (some (.int r0)) := by
  refine mG_of (cc := cX0_leader) (maxL := 2) (ret := (some .int)) (by decide) rfl rfl (by decide) ?_
  intro p e s m args below meth c A hx hb hr hml hlk hnm hts hown hK hP hD hA hS ls hl
  have hl : lv_has ls 2 [(0, .ref (a 20)), (1, .int x1)] := hl
  have hiX0 : ∀ w ∈ wsX00, w ∈ wsX0_leader := fun w h => List.mem_cons_of_mem _ (List.mem_append_right _ h)
  unfold m_X0_leader at hm
  refine lv_aload_n hx hb dX0_leader_0 rfl (lv_at hl 0 rfl) ?_
  refine va_get (D := D) (ci := 0) (v := .ref (a 21)) (C := RX0) (T := TX0) (N := 2) hx hb hts hiX0 hown hK.1 hP 0 rfl rfl 1 (by decide) (hts (.fieldLink RX0 9 "IslandBridges$Groups" "leaders" "[I") (List.mem_of_getElem? (i := 1) rfl)) (fun _ h9 => h9) rfl dX0_leader_1 ?_
  refine lv_iload_n hx hb dX0_leader_4 rfl (lv_at hl 1 rfl) ?_
  obtain ⟨v1, ev1, hm⟩ := lt1_inv hm
  refine cNs ⟨hx, hb, hml, hown, hts⟩ (c_X9_valueAt l D cI cJ cS cB (a 21) 24 (Nat.le_of_ble_eq_true rfl) G_leaders x1 v1 ev1) ⟨va_cnB 2 hts gX0_leader_X9_valueAt_n29 rfl rfl rfl (hK.n 11 rfl) (hts (.initialized RX9) (List.mem_of_getElem? (i := 3) rfl)) hd_X9_valueAt ⟨(Nat.le_of_ble_eq_true rfl), (Nat.le_of_ble_eq_true rfl)⟩, (hts (.static yX9_valueAt) (List.mem_of_getElem? (i := 2) rfl)), trivial⟩ hK hP hD hS hA [1] rfl rfl rfl hl.1 (Nat.le_of_ble_eq_true rfl) ⟨Nat.zero_le _, Nat.zero_le _⟩ rfl dX0_leader_5 (fun H locs hP hD hS => ?_)
  cases hm
  exact rI () hx hb hr hlk hP hD hS dX0_leader_8
theorem hd_X0_join : yX0_join.cls = RX0 ∧ yX0_join.cls ≠ "java/lang/invoke/MethodHandle" ∧ yX0_join.cls ≠ "java/lang/invoke/VarHandle" ∧ (parseMethodDescriptor yX0_join.desc).map (fun d => d.parameters.length) = some 2 := by decide +kernel
def m_X0_join_j52 (rec16 : Int32 → (Nat → Int32) → Option ((Nat → Int32))) (y8 : Int32) (y9 : Nat → Int32) : Option ((Nat → Int32)) :=
  lt1 (y8 + 1) (fun v10 => rec16 v10 y9)
def m_X0_join_b16 (Y_islands : Int32) (y3 : Int32) (y4 : Int32) (rec16 : Int32 → (Nat → Int32) → Option ((Nat → Int32))) (y5 : Int32) (y6 : Nat → Int32) : Option ((Nat → Int32)) :=
  if Y_islands ≤ y5 then (some y6) else (lt1 (vAt 24 y6 y5) (fun v7 => if v7 = y4 then (lt1 (vPut 24 y6 y5 y3) (fun v11 => m_X0_join_j52 rec16 y5 v11)) else (m_X0_join_j52 rec16 y5 y6)))
def m_X0_join (N : Nat) (Y_islands : Int32) (G_leaders : Nat → Int32) (x1 : Int32) (x2 : Int32) : Option ((Nat → Int32)) :=
  lt1 (mnI x1 x2) (fun v1 => lt1 (mxI x1 x2) (fun v2 => lp2 (m_X0_join_b16 Y_islands v1 v2) N 0 G_leaders))
set_option maxHeartbeats 4000000 in
set_option maxRecDepth 100000 in
theorem c_X0_join (l : Launch) (D : va_G) (cI cJ cS cB : ClassId) (a : Nat → Nat) (Y_islands : Int32) (Y_ways : Int32) (G_leaders : Nat → Int32) (x1 : Int32) (x2 : Int32) (N : Nat) (G_leaders' : Nat → Int32) (hm : m_X0_join N Y_islands G_leaders x1 x2 = some G_leaders') :
    mU l D (TYs cI cJ cS cB) yX0_join wsX0_join { frames := 1, cells := 0, slots := 0, locals := 22 } [.ref (a 20), .int x1, .int x2] [o_Y a Y_islands Y_ways, o_G a , ai (a 21) cI 24 G_leaders] [o_Y a Y_islands Y_ways, o_G a , ai (a 21) cI 24 G_leaders'] none := by
  refine mG_of (cc := cX0_join) (maxL := 6) (ret := none) (by decide) rfl rfl (by decide) ?_
  intro p e s m args below meth c A hx hb hr hml hlk hnm hts hown hK hP hD hA hS ls hl
  have hl : lv_has ls 6 [(0, .ref (a 20)), (1, .int x1), (2, .int x2)] := hl
  have hiX0 : ∀ w ∈ wsX00, w ∈ wsX0_join := fun w h => List.mem_cons_of_mem _ (List.mem_append_left _ (List.mem_append_right _ h))
  have hiX2 : ∀ w ∈ wsX20, w ∈ wsX0_join := fun w h => List.mem_cons_of_mem _ (List.mem_append_right _ h)
  unfold m_X0_join at hm
  have h16 : ∀ (y3 : Int32) (y4 : Int32), ∀ (n : Nat) (y5 : Int32) (y6 : Nat → Int32), lp2 (m_X0_join_b16 Y_islands y3 y4) n y5 y6 = some G_leaders' → ∀ (H : Heap) (locs : List Loc), va_P D vwCl [o_Y a Y_islands Y_ways, o_G a , ai (a 21) cI 24 y6] H → va_D A [o_Y a Y_islands Y_ways, o_G a , ai (a 21) cI 24 y6] → va_S A s.heap H locs → ∀ ls : Array Slot, lv_has ls 6 [(0, .ref (a 20)), (3, .int y3), (4, .int y4), (5, .int y5)] → W p l e { frames := 1, cells := 0, slots := 0, locals := 22 } s m args below meth c H locs 0 0 (MQ below (eQ D none (fun _ : Unit => [o_Y a Y_islands Y_ways, o_G a , ai (a 21) cI 24 G_leaders']) A) args s 0 0 A) (F0 m 16 ls []) := by
    intro y3 y4
    refine lp2_ind (fun rec16 ih16 y5 y6 hm => ?_)
    have h52 : ∀ (y8 : Int32) (y9 : Nat → Int32), m_X0_join_j52 rec16 y8 y9 = some G_leaders' → ∀ (H : Heap) (locs : List Loc), va_P D vwCl [o_Y a Y_islands Y_ways, o_G a , ai (a 21) cI 24 y9] H → va_D A [o_Y a Y_islands Y_ways, o_G a , ai (a 21) cI 24 y9] → va_S A s.heap H locs → ∀ ls : Array Slot, lv_has ls 6 [(0, .ref (a 20)), (3, .int y3), (4, .int y4), (5, .int y8)] → W p l e { frames := 1, cells := 0, slots := 0, locals := 22 } s m args below meth c H locs 0 0 (MQ below (eQ D none (fun _ : Unit => [o_Y a Y_islands Y_ways, o_G a , ai (a 21) cI 24 G_leaders']) A) args s 0 0 A) (F0 m 52 ls []) := by
      intro y8 y9 hm H locs hP hD hS ls hl
      unfold m_X0_join_j52 at hm
      obtain ⟨v10, ev10, hm⟩ := lt1_inv hm
      refine lv_iinc (v := v10) (lv' := [(5, .int v10), (0, .ref (a 20)), (3, .int y3), (4, .int y4)]) hx hb dX0_join_52 hl (k := 3) rfl ev10 (by decide) rfl (fun ls hl => ?_)
      refine lv_goto (tgt := 16) hx hb dX0_join_55 (by decide) ?_
      exact ih16 v10 y9 hm _ _ hP hD hS ls (lv_sub hl [1, 2, 3, 0] rfl)
    intro H locs hP hD hS ls hl
    unfold m_X0_join_b16 at hm
    refine lv_iload hx hb dX0_join_16 (lv_at hl 3 rfl) ?_
    refine lv_aload_n hx hb dX0_join_18 rfl (lv_at hl 0 rfl) ?_
    refine va_get (D := D) (ci := 0) (v := .ref (a 5)) (C := RX0) (T := TX0) (N := 2) hx hb hts hiX0 hown hK.1 hP 1 rfl rfl 0 (by decide) (hts (.fieldLink RX0 15 "IslandBridges$Groups" "layout" "LIslandBridges$Layout;") (List.mem_of_getElem? (i := 8) rfl)) (fun _ h9 => h9) rfl dX0_join_19 ?_
    refine va_get (D := D) (ci := 2) (v := .int Y_islands) (C := RX2) (T := TX2) (N := 11) hx hb hts hiX2 hown hK.1 hP 0 rfl rfl 9 (by decide) (hts (.fieldLink RX0 56 "IslandBridges$Layout" "islands" "I") (List.mem_of_getElem? (i := 9) rfl)) (fun _ h9 => h9) rfl dX0_join_22 ?_
    refine lv_icmp_ge (tgt := 58) hx hb dX0_join_25 (by decide) (fun c25 => ?_) (fun c25 => ?_)
    · have hm := ip c25 hm
      cases hm
      exact rV () hx hb hr hlk hP hD hS dX0_join_58
    · have hm := ine c25 hm
      refine lv_aload_n hx hb dX0_join_28 rfl (lv_at hl 0 rfl) ?_
      refine va_get (D := D) (ci := 0) (v := .ref (a 21)) (C := RX0) (T := TX0) (N := 2) hx hb hts hiX0 hown hK.1 hP 1 rfl rfl 1 (by decide) (hts (.fieldLink RX0 9 "IslandBridges$Groups" "leaders" "[I") (List.mem_of_getElem? (i := 10) rfl)) (fun _ h9 => h9) rfl dX0_join_29 ?_
      refine lv_iload hx hb dX0_join_32 (lv_at hl 3 rfl) ?_
      obtain ⟨v7, ev7, hm⟩ := lt1_inv hm
      refine cNs ⟨hx, hb, hml, hown, hts⟩ (c_X9_valueAt l D cI cJ cS cB (a 21) 24 (Nat.le_of_ble_eq_true rfl) y6 y5 v7 ev7) ⟨va_cnB 2 hts gX0_join_X9_valueAt_n29 rfl rfl rfl (hK.n 11 rfl) (hts (.initialized RX9) (List.mem_of_getElem? (i := 12) rfl)) hd_X9_valueAt ⟨(Nat.le_of_ble_eq_true rfl), (Nat.le_of_ble_eq_true rfl)⟩, (hts (.static yX9_valueAt) (List.mem_of_getElem? (i := 11) rfl)), trivial⟩ hK hP hD hS hA [2] rfl rfl rfl hl.1 (Nat.le_of_ble_eq_true rfl) ⟨Nat.zero_le _, Nat.zero_le _⟩ rfl dX0_join_34 (fun H locs hP hD hS => ?_)
      refine lv_iload hx hb dX0_join_37 (lv_at hl 2 rfl) ?_
      refine lv_icmp_ne (tgt := 52) hx hb dX0_join_39 (by decide) (fun c39 => ?_) (fun c39 => ?_)
      · have hm := ine c39 hm
        exact h52 y5 y6 hm _ _ hP hD hS ls (lv_sub hl [0, 1, 2, 3] rfl)
      · have hm := ip c39 hm
        refine lv_aload_n hx hb dX0_join_42 rfl (lv_at hl 0 rfl) ?_
        refine va_get (D := D) (ci := 0) (v := .ref (a 21)) (C := RX0) (T := TX0) (N := 2) hx hb hts hiX0 hown hK.1 hP 1 rfl rfl 1 (by decide) (hts (.fieldLink RX0 9 "IslandBridges$Groups" "leaders" "[I") (List.mem_of_getElem? (i := 10) rfl)) (fun _ h9 => h9) rfl dX0_join_43 ?_
        refine lv_iload hx hb dX0_join_46 (lv_at hl 3 rfl) ?_
        refine lv_iload_n hx hb dX0_join_48 rfl (lv_at hl 1 rfl) ?_
        obtain ⟨v11, ev11, hm⟩ := lt1_inv hm
        refine cNw ⟨hx, hb, hml, hown, hts⟩ (c_X9_put l D cI cJ cS cB (a 21) 24 (Nat.le_of_ble_eq_true rfl) y6 y5 y3 v11 ev11) ⟨va_cnB 3 hts gX0_join_X9_put_n19 rfl rfl rfl (hK.n 10 rfl) (hts (.initialized RX9) (List.mem_of_getElem? (i := 12) rfl)) hd_X9_put ⟨(Nat.le_of_ble_eq_true rfl), (Nat.le_of_ble_eq_true rfl)⟩, (hts (.static yX9_put) (List.mem_of_getElem? (i := 14) rfl)), trivial⟩ hK hP hD hS hA [2] rfl rfl (Nat.le_of_ble_eq_true rfl) rfl hl.1 (Nat.le_of_ble_eq_true rfl) ⟨Nat.zero_le _, Nat.zero_le _⟩ rfl dX0_join_49 (fun H locs hP hD hS => ?_)
        have hP : va_P D vwCl [o_Y a Y_islands Y_ways, o_G a , ai (a 21) cI 24 v11] H := hP
        have hD : va_D A [o_Y a Y_islands Y_ways, o_G a , ai (a 21) cI 24 v11] := hD
        exact h52 y5 v11 hm _ _ hP hD hS ls (lv_sub hl [0, 1, 2, 3] rfl)
  refine lv_iload_n hx hb dX0_join_0 rfl (lv_at hl 1 rfl) ?_
  refine lv_iload_n hx hb dX0_join_1 rfl (lv_at hl 2 rfl) ?_
  obtain ⟨v1, ev1, hm⟩ := lt1_inv hm
  refine va_mmin hx hb (hml.trans hl.1.symm) hown (hts (.methodLink RX0 47 Lib.Math.min.name) (List.mem_of_getElem? (i := 1) rfl)) (hts (.static Lib.Math.min.name) (List.mem_of_getElem? (i := 2) rfl)) (hts (.initialized "java/lang/Math") (List.mem_of_getElem? (i := 3) rfl)) (hts (.code Lib.Math.min.name Lib.Math.min.code 2 (some .int)) (List.mem_of_getElem? (i := 4) rfl)) (Nat.le_of_ble_eq_true rfl) (Nat.le_of_ble_eq_true rfl) (Nat.zero_le _) (Nat.zero_le _) dX0_join_2 ?_
  refine ltop ev1 ?_
  refine lv_istore_n (lv' := [(3, .int v1), (0, .ref (a 20)), (1, .int x1), (2, .int x2)]) hx hb dX0_join_5 rfl hl (by decide) rfl (fun ls hl => ?_)
  refine lv_iload_n hx hb dX0_join_6 rfl (lv_at hl 2 rfl) ?_
  refine lv_iload_n hx hb dX0_join_7 rfl (lv_at hl 3 rfl) ?_
  obtain ⟨v2, ev2, hm⟩ := lt1_inv hm
  refine va_mmax hx hb (hml.trans hl.1.symm) hown (hts (.methodLink RX0 53 Lib.Math.max.name) (List.mem_of_getElem? (i := 5) rfl)) (hts (.static Lib.Math.max.name) (List.mem_of_getElem? (i := 6) rfl)) (hts (.initialized "java/lang/Math") (List.mem_of_getElem? (i := 3) rfl)) (hts (.code Lib.Math.max.name Lib.Math.max.code 2 (some .int)) (List.mem_of_getElem? (i := 7) rfl)) (Nat.le_of_ble_eq_true rfl) (Nat.le_of_ble_eq_true rfl) (Nat.zero_le _) (Nat.zero_le _) dX0_join_8 ?_
  refine ltop ev2 ?_
  refine lv_istore (lv' := [(4, .int v2), (3, .int v1), (0, .ref (a 20)), (1, .int x1), (2, .int x2)]) hx hb dX0_join_11 hl (by decide) rfl (fun ls hl => ?_)
  refine lv_iconst (v := 0) hx hb dX0_join_13 (by decide) ?_
  refine lv_istore (lv' := [(5, .int 0), (4, .int v2), (3, .int v1), (0, .ref (a 20)), (1, .int x1), (2, .int x2)]) hx hb dX0_join_14 hl (by decide) rfl (fun ls hl => ?_)
  exact h16 v1 v2 N 0 G_leaders hm _ _ hP hD hS ls (lv_sub hl [3, 2, 1, 0] rfl)
theorem hd_X0_read : yX0_read.cls = RX0 ∧ yX0_read.cls ≠ "java/lang/invoke/MethodHandle" ∧ yX0_read.cls ≠ "java/lang/invoke/VarHandle" ∧ (parseMethodDescriptor yX0_read.desc).map (fun d => d.parameters.length) = some 1 := by decide +kernel
def m_X0_read_j72 (rec25 : Int32 → (Nat → Int32) → Option ((Nat → Int32))) (y7 : Int32) (y8 : Nat → Int32) : Option ((Nat → Int32)) :=
  lt1 (y7 + 1) (fun v9 => rec25 v9 y8)
def m_X0_read_b25 (N : Nat) (Y_islands : Int32) (Y_ways : Int32) (Y_firstOf : Nat → Int32) (Y_secondOf : Nat → Int32) (P : Nat → Int32) (rec25 : Int32 → (Nat → Int32) → Option ((Nat → Int32))) (y4 : Int32) (y5 : Nat → Int32) : Option ((Nat → Int32)) :=
  if Y_ways ≤ y4 then (some y5) else (lt1 (vAt 48 P y4) (fun v6 => if v6 ≤ 0 then (m_X0_read_j72 rec25 y4 y5) else (lt1 (m_X2_first Y_firstOf y4) (fun v10 => lt1 (m_X0_leader y5 v10) (fun v11 => lt1 (m_X2_second Y_secondOf y4) (fun v12 => lt1 (m_X0_leader y5 v12) (fun v13 => bd1 (m_X0_join N Y_islands y5 v11 v13) (fun v14 => m_X0_read_j72 rec25 y4 v14))))))))
def m_X0_read_j23 (N : Nat) (Y_islands : Int32) (Y_ways : Int32) (Y_firstOf : Nat → Int32) (Y_secondOf : Nat → Int32) (P : Nat → Int32) (y3 : Nat → Int32) : Option ((Nat → Int32)) :=
  lp2 (m_X0_read_b25 N Y_islands Y_ways Y_firstOf Y_secondOf P) N 0 y3
def m_X0_read_b2 (N : Nat) (Y_islands : Int32) (Y_ways : Int32) (Y_firstOf : Nat → Int32) (Y_secondOf : Nat → Int32) (P : Nat → Int32) (rec2 : Int32 → (Nat → Int32) → Option ((Nat → Int32))) (y1 : Int32) (y2 : Nat → Int32) : Option ((Nat → Int32)) :=
  if 24 ≤ y1 then (m_X0_read_j23 N Y_islands Y_ways Y_firstOf Y_secondOf P y2) else (lt1 (vPut 24 y2 y1 y1) (fun v15 => lt1 (y1 + 1) (fun v16 => rec2 v16 v15)))
def m_X0_read (N : Nat) (Y_islands : Int32) (Y_ways : Int32) (Y_firstOf : Nat → Int32) (Y_secondOf : Nat → Int32) (G_leaders : Nat → Int32) (P : Nat → Int32) : Option ((Nat → Int32)) :=
  lp2 (m_X0_read_b2 N Y_islands Y_ways Y_firstOf Y_secondOf P) N 0 G_leaders
set_option maxHeartbeats 4000000 in
set_option maxRecDepth 100000 in
theorem c_X0_read (l : Launch) (D : va_G) (cI cJ cS cB : ClassId) (a : Nat → Nat) (q : Nat) (Y_islands : Int32) (Y_ways : Int32) (Y_firstOf : Nat → Int32) (Y_secondOf : Nat → Int32) (G_leaders : Nat → Int32) (P : Nat → Int32)  (N : Nat) (G_leaders' : Nat → Int32) (hm : m_X0_read N Y_islands Y_ways Y_firstOf Y_secondOf G_leaders P = some G_leaders') :
    mU l D (TYs cI cJ cS cB) yX0_read wsX0_read { frames := 2, cells := 0, slots := 0, locals := 47 } [.ref (a 20), .ref (q)] [o_Y a Y_islands Y_ways, ai (a 8) cI 48 Y_firstOf, ai (a 9) cI 48 Y_secondOf, o_G a , ai (a 21) cI 24 G_leaders, ai (q) cI 48 P] [o_Y a Y_islands Y_ways, ai (a 8) cI 48 Y_firstOf, ai (a 9) cI 48 Y_secondOf, o_G a , ai (a 21) cI 24 G_leaders', ai (q) cI 48 P] none := by
  refine mG_of (cc := cX0_read) (maxL := 3) (ret := none) (by decide) rfl rfl (by decide) ?_
  intro p e s m args below meth c A hx hb hr hml hlk hnm hts hown hK hP hD hA hS ls hl
  have hl : lv_has ls 3 [(0, .ref (a 20)), (1, .ref (q))] := hl
  have hiX0 : ∀ w ∈ wsX00, w ∈ wsX0_read := fun w h => List.mem_cons_of_mem _ (List.mem_append_left _ (List.mem_append_right _ h))
  have hiX2 : ∀ w ∈ wsX20, w ∈ wsX0_read := fun w h => List.mem_cons_of_mem _ (List.mem_append_right _ h)
  unfold m_X0_read at hm
  have h25 : ∀ (n : Nat) (y4 : Int32) (y5 : Nat → Int32), lp2 (m_X0_read_b25 N Y_islands Y_ways Y_firstOf Y_secondOf P) n y4 y5 = some G_leaders' → ∀ (H : Heap) (locs : List Loc), va_P D vwCl [o_Y a Y_islands Y_ways, ai (a 8) cI 48 Y_firstOf, ai (a 9) cI 48 Y_secondOf, o_G a , ai (a 21) cI 24 y5, ai (q) cI 48 P] H → va_D A [o_Y a Y_islands Y_ways, ai (a 8) cI 48 Y_firstOf, ai (a 9) cI 48 Y_secondOf, o_G a , ai (a 21) cI 24 y5, ai (q) cI 48 P] → va_S A s.heap H locs → ∀ ls : Array Slot, lv_has ls 3 [(0, .ref (a 20)), (1, .ref (q)), (2, .int y4)] → W p l e { frames := 2, cells := 0, slots := 0, locals := 47 } s m args below meth c H locs 0 0 (MQ below (eQ D none (fun _ : Unit => [o_Y a Y_islands Y_ways, ai (a 8) cI 48 Y_firstOf, ai (a 9) cI 48 Y_secondOf, o_G a , ai (a 21) cI 24 G_leaders', ai (q) cI 48 P]) A) args s 0 0 A) (F0 m 25 ls []) := by
    refine lp2_ind (fun rec25 ih25 y4 y5 hm => ?_)
    have h72 : ∀ (y7 : Int32) (y8 : Nat → Int32), m_X0_read_j72 rec25 y7 y8 = some G_leaders' → ∀ (H : Heap) (locs : List Loc), va_P D vwCl [o_Y a Y_islands Y_ways, ai (a 8) cI 48 Y_firstOf, ai (a 9) cI 48 Y_secondOf, o_G a , ai (a 21) cI 24 y8, ai (q) cI 48 P] H → va_D A [o_Y a Y_islands Y_ways, ai (a 8) cI 48 Y_firstOf, ai (a 9) cI 48 Y_secondOf, o_G a , ai (a 21) cI 24 y8, ai (q) cI 48 P] → va_S A s.heap H locs → ∀ ls : Array Slot, lv_has ls 3 [(0, .ref (a 20)), (1, .ref (q)), (2, .int y7)] → W p l e { frames := 2, cells := 0, slots := 0, locals := 47 } s m args below meth c H locs 0 0 (MQ below (eQ D none (fun _ : Unit => [o_Y a Y_islands Y_ways, ai (a 8) cI 48 Y_firstOf, ai (a 9) cI 48 Y_secondOf, o_G a , ai (a 21) cI 24 G_leaders', ai (q) cI 48 P]) A) args s 0 0 A) (F0 m 72 ls []) := by
      intro y7 y8 hm H locs hP hD hS ls hl
      unfold m_X0_read_j72 at hm
      obtain ⟨v9, ev9, hm⟩ := lt1_inv hm
      refine lv_iinc (v := v9) (lv' := [(2, .int v9), (0, .ref (a 20)), (1, .ref (q))]) hx hb dX0_read_72 hl (k := 2) rfl ev9 (by decide) rfl (fun ls hl => ?_)
      refine lv_goto (tgt := 25) hx hb dX0_read_75 (by decide) ?_
      exact ih25 v9 y8 hm _ _ hP hD hS ls (lv_sub hl [1, 2, 0] rfl)
    intro H locs hP hD hS ls hl
    unfold m_X0_read_b25 at hm
    refine lv_iload_n hx hb dX0_read_25 rfl (lv_at hl 2 rfl) ?_
    refine lv_aload_n hx hb dX0_read_26 rfl (lv_at hl 0 rfl) ?_
    refine va_get (D := D) (ci := 0) (v := .ref (a 5)) (C := RX0) (T := TX0) (N := 2) hx hb hts hiX0 hown hK.1 hP 3 rfl rfl 0 (by decide) (hts (.fieldLink RX0 15 "IslandBridges$Groups" "layout" "LIslandBridges$Layout;") (List.mem_of_getElem? (i := 2) rfl)) (fun _ h9 => h9) rfl dX0_read_27 ?_
    refine va_get (D := D) (ci := 2) (v := .int Y_ways) (C := RX2) (T := TX2) (N := 11) hx hb hts hiX2 hown hK.1 hP 0 rfl rfl 10 (by decide) (hts (.fieldLink RX0 23 "IslandBridges$Layout" "ways" "I") (List.mem_of_getElem? (i := 3) rfl)) (fun _ h9 => h9) rfl dX0_read_30 ?_
    refine lv_icmp_ge (tgt := 78) hx hb dX0_read_33 (by decide) (fun c33 => ?_) (fun c33 => ?_)
    · have hm := ip c33 hm
      cases hm
      exact rV () hx hb hr hlk hP hD hS dX0_read_78
    · have hm := ine c33 hm
      refine lv_aload_n hx hb dX0_read_36 rfl (lv_at hl 1 rfl) ?_
      refine lv_iload_n hx hb dX0_read_37 rfl (lv_at hl 2 rfl) ?_
      obtain ⟨v6, ev6, hm⟩ := lt1_inv hm
      refine cNs ⟨hx, hb, hml, hown, hts⟩ (c_X9_valueAt l D cI cJ cS cB (q) 48 (Nat.le_of_ble_eq_true rfl) P y4 v6 ev6) ⟨va_cnB 2 hts gX0_read_X9_valueAt_n29 rfl rfl rfl (hK.n 11 rfl) (hts (.initialized RX9) (List.mem_of_getElem? (i := 5) rfl)) hd_X9_valueAt ⟨(Nat.le_of_ble_eq_true rfl), (Nat.le_of_ble_eq_true rfl)⟩, (hts (.static yX9_valueAt) (List.mem_of_getElem? (i := 7) rfl)), trivial⟩ hK hP hD hS hA [5] rfl rfl rfl hl.1 (Nat.le_of_ble_eq_true rfl) ⟨Nat.zero_le _, Nat.zero_le _⟩ rfl dX0_read_38 (fun H locs hP hD hS => ?_)
      refine lv_if_le (tgt := 72) hx hb dX0_read_41 (by decide) (fun c41 => ?_) (fun c41 => ?_)
      · have hm := ip c41 hm
        exact h72 y4 y5 hm _ _ hP hD hS ls (lv_sub hl [0, 1, 2] rfl)
      · have hm := ine c41 hm
        refine lv_aload_n hx hb dX0_read_44 rfl (lv_at hl 0 rfl) ?_
        refine lv_aload_n hx hb dX0_read_45 rfl (lv_at hl 0 rfl) ?_
        refine lv_aload_n hx hb dX0_read_46 rfl (lv_at hl 0 rfl) ?_
        refine va_get (D := D) (ci := 0) (v := .ref (a 5)) (C := RX0) (T := TX0) (N := 2) hx hb hts hiX0 hown hK.1 hP 3 rfl rfl 0 (by decide) (hts (.fieldLink RX0 15 "IslandBridges$Groups" "layout" "LIslandBridges$Layout;") (List.mem_of_getElem? (i := 2) rfl)) (fun _ h9 => h9) rfl dX0_read_47 ?_
        refine lv_iload_n hx hb dX0_read_50 rfl (lv_at hl 2 rfl) ?_
        obtain ⟨v10, h_v10, hm⟩ := lt1_inv hm
        refine cVs ⟨hx, hb, hml, hown, hts⟩ (c_X2_first l D cI cJ cS cB a Y_islands Y_ways Y_firstOf y4 v10 h_v10) (cwV 1 hts gX0_read_X2_first rfl rfl rfl hd_X2_first ⟨(Nat.le_of_ble_eq_true rfl), (Nat.le_of_ble_eq_true rfl)⟩) hK hP hD hS hA [0, 1] rfl rfl rfl hl.1 (Nat.le_of_ble_eq_true rfl) ⟨Nat.zero_le _, Nat.zero_le _⟩ 0 rfl rfl rfl rfl dX0_read_51 (fun H locs hP hD hS => ?_)
        obtain ⟨v11, h_v11, hm⟩ := lt1_inv hm
        refine cVs ⟨hx, hb, hml, hown, hts⟩ (c_X0_leader l D cI cJ cS cB a y5 v10 v11 h_v11) (cwV 1 hts gX0_read_X0_leader rfl rfl rfl hd_X0_leader ⟨(Nat.le_of_ble_eq_true rfl), (Nat.le_of_ble_eq_true rfl)⟩) hK hP hD hS hA [3, 4] rfl rfl rfl hl.1 (Nat.le_of_ble_eq_true rfl) ⟨Nat.zero_le _, Nat.zero_le _⟩ 3 rfl rfl rfl rfl dX0_read_54 (fun H locs hP hD hS => ?_)
        refine lv_aload_n hx hb dX0_read_57 rfl (lv_at hl 0 rfl) ?_
        refine lv_aload_n hx hb dX0_read_58 rfl (lv_at hl 0 rfl) ?_
        refine va_get (D := D) (ci := 0) (v := .ref (a 5)) (C := RX0) (T := TX0) (N := 2) hx hb hts hiX0 hown hK.1 hP 3 rfl rfl 0 (by decide) (hts (.fieldLink RX0 15 "IslandBridges$Groups" "layout" "LIslandBridges$Layout;") (List.mem_of_getElem? (i := 2) rfl)) (fun _ h9 => h9) rfl dX0_read_59 ?_
        refine lv_iload_n hx hb dX0_read_62 rfl (lv_at hl 2 rfl) ?_
        obtain ⟨v12, h_v12, hm⟩ := lt1_inv hm
        refine cVs ⟨hx, hb, hml, hown, hts⟩ (c_X2_second l D cI cJ cS cB a Y_islands Y_ways Y_secondOf y4 v12 h_v12) (cwV 1 hts gX0_read_X2_second rfl rfl rfl hd_X2_second ⟨(Nat.le_of_ble_eq_true rfl), (Nat.le_of_ble_eq_true rfl)⟩) hK hP hD hS hA [0, 2] rfl rfl rfl hl.1 (Nat.le_of_ble_eq_true rfl) ⟨Nat.zero_le _, Nat.zero_le _⟩ 0 rfl rfl rfl rfl dX0_read_63 (fun H locs hP hD hS => ?_)
        obtain ⟨v13, h_v13, hm⟩ := lt1_inv hm
        refine cVs ⟨hx, hb, hml, hown, hts⟩ (c_X0_leader l D cI cJ cS cB a y5 v12 v13 h_v13) (cwV 1 hts gX0_read_X0_leader rfl rfl rfl hd_X0_leader ⟨(Nat.le_of_ble_eq_true rfl), (Nat.le_of_ble_eq_true rfl)⟩) hK hP hD hS hA [3, 4] rfl rfl rfl hl.1 (Nat.le_of_ble_eq_true rfl) ⟨Nat.zero_le _, Nat.zero_le _⟩ 3 rfl rfl rfl rfl dX0_read_66 (fun H locs hP hD hS => ?_)
        obtain ⟨v14, h_v14, hm⟩ := bd1_inv hm
        refine cVw ⟨hx, hb, hml, hown, hts⟩ (c_X0_join l D cI cJ cS cB a Y_islands Y_ways y5 v11 v13 N v14 h_v14) (cwV 2 hts gX0_read_X0_join rfl rfl rfl hd_X0_join ⟨(Nat.le_of_ble_eq_true rfl), (Nat.le_of_ble_eq_true rfl)⟩) hK hP hD hS hA [0, 3, 4] rfl rfl (Nat.le_of_ble_eq_true rfl) rfl hl.1 (Nat.le_of_ble_eq_true rfl) ⟨Nat.zero_le _, Nat.zero_le _⟩ 3 rfl rfl rfl rfl dX0_read_69 (fun H locs hP hD hS => ?_)
        have hP : va_P D vwCl [o_Y a Y_islands Y_ways, ai (a 8) cI 48 Y_firstOf, ai (a 9) cI 48 Y_secondOf, o_G a , ai (a 21) cI 24 v14, ai (q) cI 48 P] H := hP
        have hD : va_D A [o_Y a Y_islands Y_ways, ai (a 8) cI 48 Y_firstOf, ai (a 9) cI 48 Y_secondOf, o_G a , ai (a 21) cI 24 v14, ai (q) cI 48 P] := hD
        exact h72 y4 v14 hm _ _ hP hD hS ls (lv_sub hl [0, 1, 2] rfl)
  have h23 : ∀ (y3 : Nat → Int32), m_X0_read_j23 N Y_islands Y_ways Y_firstOf Y_secondOf P y3 = some G_leaders' → ∀ (H : Heap) (locs : List Loc), va_P D vwCl [o_Y a Y_islands Y_ways, ai (a 8) cI 48 Y_firstOf, ai (a 9) cI 48 Y_secondOf, o_G a , ai (a 21) cI 24 y3, ai (q) cI 48 P] H → va_D A [o_Y a Y_islands Y_ways, ai (a 8) cI 48 Y_firstOf, ai (a 9) cI 48 Y_secondOf, o_G a , ai (a 21) cI 24 y3, ai (q) cI 48 P] → va_S A s.heap H locs → ∀ ls : Array Slot, lv_has ls 3 [(0, .ref (a 20)), (1, .ref (q))] → W p l e { frames := 2, cells := 0, slots := 0, locals := 47 } s m args below meth c H locs 0 0 (MQ below (eQ D none (fun _ : Unit => [o_Y a Y_islands Y_ways, ai (a 8) cI 48 Y_firstOf, ai (a 9) cI 48 Y_secondOf, o_G a , ai (a 21) cI 24 G_leaders', ai (q) cI 48 P]) A) args s 0 0 A) (F0 m 23 ls []) := by
    intro y3 hm H locs hP hD hS ls hl
    unfold m_X0_read_j23 at hm
    refine lv_iconst (v := 0) hx hb dX0_read_23 (by decide) ?_
    refine lv_istore_n (lv' := [(2, .int 0), (0, .ref (a 20)), (1, .ref (q))]) hx hb dX0_read_24 rfl hl (by decide) rfl (fun ls hl => ?_)
    exact h25  N 0 y3 hm _ _ hP hD hS ls (lv_sub hl [1, 2, 0] rfl)
  have h2 : ∀ (n : Nat) (y1 : Int32) (y2 : Nat → Int32), lp2 (m_X0_read_b2 N Y_islands Y_ways Y_firstOf Y_secondOf P) n y1 y2 = some G_leaders' → ∀ (H : Heap) (locs : List Loc), va_P D vwCl [o_Y a Y_islands Y_ways, ai (a 8) cI 48 Y_firstOf, ai (a 9) cI 48 Y_secondOf, o_G a , ai (a 21) cI 24 y2, ai (q) cI 48 P] H → va_D A [o_Y a Y_islands Y_ways, ai (a 8) cI 48 Y_firstOf, ai (a 9) cI 48 Y_secondOf, o_G a , ai (a 21) cI 24 y2, ai (q) cI 48 P] → va_S A s.heap H locs → ∀ ls : Array Slot, lv_has ls 3 [(0, .ref (a 20)), (1, .ref (q)), (2, .int y1)] → W p l e { frames := 2, cells := 0, slots := 0, locals := 47 } s m args below meth c H locs 0 0 (MQ below (eQ D none (fun _ : Unit => [o_Y a Y_islands Y_ways, ai (a 8) cI 48 Y_firstOf, ai (a 9) cI 48 Y_secondOf, o_G a , ai (a 21) cI 24 G_leaders', ai (q) cI 48 P]) A) args s 0 0 A) (F0 m 2 ls []) := by
    refine lp2_ind (fun rec2 ih2 y1 y2 hm => ?_)
    intro H locs hP hD hS ls hl
    unfold m_X0_read_b2 at hm
    refine lv_iload_n hx hb dX0_read_2 rfl (lv_at hl 2 rfl) ?_
    refine lv_bipush (v := 24) hx hb dX0_read_3 (by decide) ?_
    refine lv_icmp_ge (tgt := 23) hx hb dX0_read_5 (by decide) (fun c5 => ?_) (fun c5 => ?_)
    · have hm := ip c5 hm
      exact h23 y2 hm _ _ hP hD hS ls (lv_sub hl [0, 1] rfl)
    · have hm := ine c5 hm
      refine lv_aload_n hx hb dX0_read_8 rfl (lv_at hl 0 rfl) ?_
      refine va_get (D := D) (ci := 0) (v := .ref (a 21)) (C := RX0) (T := TX0) (N := 2) hx hb hts hiX0 hown hK.1 hP 3 rfl rfl 1 (by decide) (hts (.fieldLink RX0 9 "IslandBridges$Groups" "leaders" "[I") (List.mem_of_getElem? (i := 1) rfl)) (fun _ h9 => h9) rfl dX0_read_9 ?_
      refine lv_iload_n hx hb dX0_read_12 rfl (lv_at hl 2 rfl) ?_
      refine lv_iload_n hx hb dX0_read_13 rfl (lv_at hl 2 rfl) ?_
      obtain ⟨v15, ev15, hm⟩ := lt1_inv hm
      refine cNw ⟨hx, hb, hml, hown, hts⟩ (c_X9_put l D cI cJ cS cB (a 21) 24 (Nat.le_of_ble_eq_true rfl) y2 y1 y1 v15 ev15) ⟨va_cnB 3 hts gX0_read_X9_put_n19 rfl rfl rfl (hK.n 10 rfl) (hts (.initialized RX9) (List.mem_of_getElem? (i := 5) rfl)) hd_X9_put ⟨(Nat.le_of_ble_eq_true rfl), (Nat.le_of_ble_eq_true rfl)⟩, (hts (.static yX9_put) (List.mem_of_getElem? (i := 4) rfl)), trivial⟩ hK hP hD hS hA [4] rfl rfl (Nat.le_of_ble_eq_true rfl) rfl hl.1 (Nat.le_of_ble_eq_true rfl) ⟨Nat.zero_le _, Nat.zero_le _⟩ rfl dX0_read_14 (fun H locs hP hD hS => ?_)
      have hP : va_P D vwCl [o_Y a Y_islands Y_ways, ai (a 8) cI 48 Y_firstOf, ai (a 9) cI 48 Y_secondOf, o_G a , ai (a 21) cI 24 v15, ai (q) cI 48 P] H := hP
      have hD : va_D A [o_Y a Y_islands Y_ways, ai (a 8) cI 48 Y_firstOf, ai (a 9) cI 48 Y_secondOf, o_G a , ai (a 21) cI 24 v15, ai (q) cI 48 P] := hD
      obtain ⟨v16, ev16, hm⟩ := lt1_inv hm
      refine lv_iinc (v := v16) (lv' := [(2, .int v16), (0, .ref (a 20)), (1, .ref (q))]) hx hb dX0_read_17 hl (k := 2) rfl ev16 (by decide) rfl (fun ls hl => ?_)
      refine lv_goto (tgt := 2) hx hb dX0_read_20 (by decide) ?_
      exact ih2 v16 v15 hm _ _ hP hD hS ls (lv_sub hl [1, 2, 0] rfl)
  refine lv_iconst (v := 0) hx hb dX0_read_0 (by decide) ?_
  refine lv_istore_n (lv' := [(2, .int 0), (0, .ref (a 20)), (1, .ref (q))]) hx hb dX0_read_1 rfl hl (by decide) rfl (fun ls hl => ?_)
  exact h2  N 0 G_leaders hm _ _ hP hD hS ls (lv_sub hl [1, 2, 0] rfl)
theorem i_vc : Claimed_1_1 ∧ Claimed_1_2 := sorry
