/-! the cells of the objects; the three that test an index first -/
abbrev o_X (a : Nat → Nat)  : Nat × va_E := (a 0, .inr (9, [.ref (a 1), .ref (a 5), .ref (a 15), .ref (a 20), .ref (a 22), .ref (a 23), .ref (a 27), .ref (a 31), .ref (a 33)]))
abbrev o_S (a : Nat → Nat) (S_columns : Int32) (S_rows : Int32) (S_grade : Int32) (S_stepsMade : Int32) : Nat × va_E := (a 1, .inr (6, [.ref (a 2), .ref (a 3), .ref (a 4), .int S_columns, .int S_rows, .int S_grade, .int S_stepsMade]))
abbrev o_Y (a : Nat → Nat) (Y_islands : Int32) (Y_ways : Int32) : Nat × va_E := (a 5, .inr (2, [.ref (a 6), .ref (a 7), .ref (a 8), .ref (a 9), .ref (a 10), .ref (a 11), .ref (a 12), .ref (a 13), .ref (a 14), .int Y_islands, .int Y_ways]))
abbrev o_U (a : Nat → Nat)  : Nat × va_E := (a 15, .inr (7, [.ref (a 1), .ref (a 5), .ref (a 16), .ref (a 17), .ref (a 18), .ref (a 19)]))
abbrev o_G (a : Nat → Nat)  : Nat × va_E := (a 20, .inr (0, [.ref (a 5), .ref (a 21)]))
abbrev o_R (a : Nat → Nat) (R_built : Int64) : Nat × va_E := (a 22, .inr (4, [.ref (a 1), .ref (a 5), .ref (a 15), .ref (a 20), .long R_built]))
abbrev o_E (a : Nat → Nat) (E_built : Int64) (E_most : Int32) (E_watched : Int32) (E_found : Int32) (E_common : Int32) (E_differs : Int32) : Nat × va_E := (a 23, .inr (5, [.ref (a 1), .ref (a 5), .ref (a 20), .ref (a 24), .ref (a 25), .ref (a 26), .long E_built, .int E_most, .int E_watched, .int E_found, .int E_common, .int E_differs]))
abbrev o_K (a : Nat → Nat) (K_columns : Int32) (K_rows : Int32) (K_islands : Int32) (K_z : Int32) : Nat × va_E := (a 27, .inr (3, [.ref (a 28), .ref (a 29), .ref (a 30), .int K_columns, .int K_rows, .int K_islands, .int K_z]))
abbrev o_H (a : Nat → Nat) (H_size : Int32) : Nat × va_E := (a 31, .inr (1, [.ref (a 32), .int H_size]))
abbrev o_T (a : Nat → Nat) (T_length : Int32) (T_columns : Int32) (T_rows : Int32) (T_inRow : Int32) (T_islands : Int32) (T_faultIndex : Int32) (T_faultReason : Int32) : Nat × va_E := (a 33, .inr (8, [.ref (a 34), .int T_length, .int T_columns, .int T_rows, .int T_inRow, .int T_islands, .int T_faultIndex, .int T_faultReason]))
abbrev o_O (o : Nat → Nat) (O_columns : Int32) (O_rows : Int32) (O_grade : Int32) (O_stepsMade : Int32) : Nat × va_E := (o 0, .inr (6, [.ref (o 1), .ref (o 2), .ref (o 3), .int O_columns, .int O_rows, .int O_grade, .int O_stepsMade]))
abbrev o_h (q0 q1 q2 q3 : Nat) (c r g s : Int32) : Nat × va_E := (q0, .inr (6, [.ref q1, .ref q2, .ref q3, .int c, .int r, .int g, .int s]))
def hq (b : Nat → Nat) : Nat → Option Nat := fun k => if k = 0 then some (b 0) else if k = 1 then some (b 4) else if k = 2 then some (b 8) else if k = 3 then some (b 12) else none
abbrev aq (q : Nat) (cS : ClassId) (n : Nat) (f : Nat → Option Nat) : Nat × va_E := (q, .inl (cS, n, .inr (.inr (.inr (.inr f)))))
abbrev ai (q : Nat) (cI : ClassId) (n : Nat) (f : Nat → Int32) : Nat × va_E := (q, .inl (cI, n, .inl f))
abbrev aj (q : Nat) (cJ : ClassId) (n : Nat) (f : Nat → Int64) : Nat × va_E := (q, .inl (cJ, n, .inr (.inl f)))
theorem vAt_in {n : Nat} (hn : n ≤ 100000) {x : Int32} (h1 : ¬ x < 0) (h2 : ¬ nI n ≤ x) : vp_in x n := by
  obtain ⟨j, hj, rfl⟩ := nI_of h1
  have : j < n := by
    rcases Nat.lt_or_ge j n with q | q
    · exact q
    · exact absurd ((nI_leI (by omega) hj).mpr q) h2
  exact vp_in_nI this (by omega)

set_option maxHeartbeats 4000000 in
set_option maxRecDepth 100000 in
theorem c_X9_valueAt (l : Launch) (D : va_G) (cI cJ cS cB : ClassId) (q n : Nat) (hn : n ≤ 100000) (f : Nat → Int32) (x : Int32) (r : Int32) (hm : vAt n f x = r) : mU l D (TYs cI cJ cS cB) yX9_valueAt wsX9_valueAt { frames := 0, cells := 0, slots := 0, locals := 0 } [.ref q, .int x] [ai q cI n f] [ai q cI n f] (some (.int r)) := by
  refine mG_of (cc := cX9_valueAt) (maxL := 2) (ret := some .int) (by decide) rfl rfl (Nat.le_of_ble_eq_true rfl) ?_
  intro p e s m args below meth c A hx hb hr hml hlk hnm hts hown hK hP hD hA hS ls hl
  have hl : lv_has ls 2 [(0, .ref q), (1, .int x)] := hl
  unfold vAt at hm
  refine lv_iload_n hx hb dX9_valueAt_0 rfl (lv_at hl 1 rfl) ?_
  refine lv_if_lt (tgt := 16) hx hb dX9_valueAt_1 (by decide) (fun c1 => ?_) (fun c1 => ?_)
  · have hm := ip c1 hm
    refine lv_iconst (v := 0) hx hb dX9_valueAt_16 (by decide) ?_
    subst hm
    exact rI () hx hb hr hlk hP hD hS dX9_valueAt_17
  · have hm := ine c1 hm
    refine lv_iload_n hx hb dX9_valueAt_4 rfl (lv_at hl 1 rfl) ?_
    refine lv_aload_n hx hb dX9_valueAt_5 rfl (lv_at hl 0 rfl) ?_
    refine va_alen hx hb hK.1 hP 0 0 rfl rfl (v := nI n) rfl dX9_valueAt_6 ?_
    refine lv_icmp_ge (tgt := 16) hx hb dX9_valueAt_7 (by decide) (fun c2 => ?_) (fun c2 => ?_)
    · have hm := ip c2 hm
      refine lv_iconst (v := 0) hx hb dX9_valueAt_16 (by decide) ?_
      subst hm
      exact rI () hx hb hr hlk hP hD hS dX9_valueAt_17
    · have hm := ine c2 hm
      have hin := vAt_in hn c1 c2
      refine lv_aload_n hx hb dX9_valueAt_10 rfl (lv_at hl 0 rfl) ?_
      refine lv_iload_n hx hb dX9_valueAt_11 rfl (lv_at hl 1 rfl) ?_
      refine va_iald hx hb hK.1 hP 0 0 rfl rfl hin dX9_valueAt_12 ?_
      refine lv_goto (tgt := 17) hx hb dX9_valueAt_13 (by decide) ?_
      subst hm
      exact rI () hx hb hr hlk hP hD hS dX9_valueAt_17
set_option maxHeartbeats 4000000 in
set_option maxRecDepth 100000 in
theorem c_X9_put (l : Launch) (D : va_G) (cI cJ cS cB : ClassId) (q n : Nat) (hn : n ≤ 100000) (f : Nat → Int32) (x v : Int32) (r : Nat → Int32) (hm : vPut n f x v = r) : mU l D (TYs cI cJ cS cB) yX9_put wsX9_put { frames := 0, cells := 0, slots := 0, locals := 0 } [.ref q, .int x, .int v] [ai q cI n f] [ai q cI n r] none := by
  refine mG_of (cc := cX9_put) (maxL := 3) (ret := none) (by decide) rfl rfl (Nat.le_of_ble_eq_true rfl) ?_
  intro p e s m args below meth c A hx hb hr hml hlk hnm hts hown hK hP hD hA hS ls hl
  have hl : lv_has ls 3 [(0, .ref q), (1, .int x), (2, .int v)] := hl
  unfold vPut at hm
  refine lv_iload_n hx hb dX9_put_0 rfl (lv_at hl 1 rfl) ?_
  refine lv_if_lt (tgt := 14) hx hb dX9_put_1 (by decide) (fun c1 => ?_) (fun c1 => ?_)
  · have hm := ip c1 hm
    subst hm
    exact rV () hx hb hr hlk hP hD hS dX9_put_14
  · have hm := ine c1 hm
    refine lv_iload_n hx hb dX9_put_4 rfl (lv_at hl 1 rfl) ?_
    refine lv_aload_n hx hb dX9_put_5 rfl (lv_at hl 0 rfl) ?_
    refine va_alen hx hb hK.1 hP 0 0 rfl rfl (v := nI n) rfl dX9_put_6 ?_
    refine lv_icmp_ge (tgt := 14) hx hb dX9_put_7 (by decide) (fun c2 => ?_) (fun c2 => ?_)
    · have hm := ip c2 hm
      subst hm
      exact rV () hx hb hr hlk hP hD hS dX9_put_14
    · have hm := ine c2 hm
      have hin := vAt_in hn c1 c2
      refine lv_aload_n hx hb dX9_put_10 rfl (lv_at hl 0 rfl) ?_
      refine lv_iload_n hx hb dX9_put_11 rfl (lv_at hl 1 rfl) ?_
      refine lv_iload_n hx hb dX9_put_12 rfl (lv_at hl 2 rfl) ?_
      refine va_iast hx hb hK.1 hP hD hS 0 0 rfl rfl hin dX9_put_13 (fun H locs hP hD hS => ?_)
      subst hm
      exact rV () hx hb hr hlk hP hD hS dX9_put_14
set_option maxHeartbeats 4000000 in
set_option maxRecDepth 100000 in
theorem c_X9_add (l : Launch) (D : va_G) (cI cJ cS cB : ClassId) (q n : Nat) (hn : n ≤ 100000) (f : Nat → Int32) (x v : Int32) (r : Nat → Int32) (hm : vAdd n f x v = r) : mU l D (TYs cI cJ cS cB) yX9_add wsX9_add { frames := 0, cells := 0, slots := 0, locals := 0 } [.ref q, .int x, .int v] [ai q cI n f] [ai q cI n r] none := by
  refine mG_of (cc := cX9_add) (maxL := 3) (ret := none) (by decide) rfl rfl (Nat.le_of_ble_eq_true rfl) ?_
  intro p e s m args below meth c A hx hb hr hml hlk hnm hts hown hK hP hD hA hS ls hl
  have hl : lv_has ls 3 [(0, .ref q), (1, .int x), (2, .int v)] := hl
  unfold vAdd at hm
  refine lv_iload_n hx hb dX9_add_0 rfl (lv_at hl 1 rfl) ?_
  refine lv_if_lt (tgt := 17) hx hb dX9_add_1 (by decide) (fun c1 => ?_) (fun c1 => ?_)
  · have hm := ip c1 hm
    subst hm
    exact rV () hx hb hr hlk hP hD hS dX9_add_17
  · have hm := ine c1 hm
    refine lv_iload_n hx hb dX9_add_4 rfl (lv_at hl 1 rfl) ?_
    refine lv_aload_n hx hb dX9_add_5 rfl (lv_at hl 0 rfl) ?_
    refine va_alen hx hb hK.1 hP 0 0 rfl rfl (v := nI n) rfl dX9_add_6 ?_
    refine lv_icmp_ge (tgt := 17) hx hb dX9_add_7 (by decide) (fun c2 => ?_) (fun c2 => ?_)
    · have hm := ip c2 hm
      subst hm
      exact rV () hx hb hr hlk hP hD hS dX9_add_17
    · have hm := ine c2 hm
      have hin := vAt_in hn c1 c2
      refine lv_aload_n hx hb dX9_add_10 rfl (lv_at hl 0 rfl) ?_
      refine lv_iload_n hx hb dX9_add_11 rfl (lv_at hl 1 rfl) ?_
      refine lv_dup2_11 hx hb dX9_add_12 rfl rfl ?_
      refine va_iald hx hb hK.1 hP 0 0 rfl rfl hin dX9_add_13 ?_
      refine lv_iload_n hx hb dX9_add_14 rfl (lv_at hl 2 rfl) ?_
      refine lv_iadd hx hb dX9_add_15 ?_
      refine va_iast hx hb hK.1 hP hD hS 0 0 rfl rfl hin dX9_add_16 (fun H locs hP hD hS => ?_)
      subst hm
      exact rV () hx hb hr hlk hP hD hS dX9_add_17

theorem hd_X9_valueAt : yX9_valueAt.cls ≠ "java/lang/invoke/MethodHandle" ∧ yX9_valueAt.cls ≠ "java/lang/invoke/VarHandle" ∧ (parseMethodDescriptor yX9_valueAt.desc).map (fun d => d.parameters.length) = some 2 := by decide +kernel
theorem hd_X9_put : yX9_put.cls ≠ "java/lang/invoke/MethodHandle" ∧ yX9_put.cls ≠ "java/lang/invoke/VarHandle" ∧ (parseMethodDescriptor yX9_put.desc).map (fun d => d.parameters.length) = some 3 := by decide +kernel
theorem hd_X9_add : yX9_add.cls ≠ "java/lang/invoke/MethodHandle" ∧ yX9_add.cls ≠ "java/lang/invoke/VarHandle" ∧ (parseMethodDescriptor yX9_add.desc).map (fun d => d.parameters.length) = some 3 := by decide +kernel
theorem hd_X1_stateAt : yX1_stateAt.cls = RX1 ∧ yX1_stateAt.cls ≠ "java/lang/invoke/MethodHandle" ∧ yX1_stateAt.cls ≠ "java/lang/invoke/VarHandle" ∧ (parseMethodDescriptor yX1_stateAt.desc).map (fun d => d.parameters.length) = some 1 := by decide +kernel
theorem hd_X1_putState : yX1_putState.cls = RX1 ∧ yX1_putState.cls ≠ "java/lang/invoke/MethodHandle" ∧ yX1_putState.cls ≠ "java/lang/invoke/VarHandle" ∧ (parseMethodDescriptor yX1_putState.desc).map (fun d => d.parameters.length) = some 2 := by decide +kernel
theorem hd_X1_dropOldest : yX1_dropOldest.cls = RX1 ∧ yX1_dropOldest.cls ≠ "java/lang/invoke/MethodHandle" ∧ yX1_dropOldest.cls ≠ "java/lang/invoke/VarHandle" ∧ (parseMethodDescriptor yX1_dropOldest.desc).map (fun d => d.parameters.length) = some 0 := by decide +kernel
theorem hd_X1_record : yX1_record.cls = RX1 ∧ yX1_record.cls ≠ "java/lang/invoke/MethodHandle" ∧ yX1_record.cls ≠ "java/lang/invoke/VarHandle" ∧ (parseMethodDescriptor yX1_record.desc).map (fun d => d.parameters.length) = some 1 := by decide +kernel
theorem hd_X1_restore : yX1_restore.cls = RX1 ∧ yX1_restore.cls ≠ "java/lang/invoke/MethodHandle" ∧ yX1_restore.cls ≠ "java/lang/invoke/VarHandle" ∧ (parseMethodDescriptor yX1_restore.desc).map (fun d => d.parameters.length) = some 1 := by decide +kernel
/-- the history's states by place: the oldest goes to the end; one is set -/
def cpN (n : Nat) (f g : Nat → Int32) : Nat → Int32 := va_cpy f g 0 0 n
def hset {α : Type} (f : Nat → α) (i : Nat) (x : α) : Nat → α := fun j => if j = i then x else f j
def rotB (b : Nat → Nat) : Nat → Nat := fun k => if k < 12 then b (k + 4) else b (k - 12)
def rotF {α : Type} (f : Nat → α) : Nat → α := fun k => if k < 3 then f (k + 1) else f 0
theorem hq_rot (b : Nat → Nat) : va_up (va_up (va_up (va_up (hq b) 0 (some (b 4))) 1 (some (b 8))) 2 (some (b 12))) 3 (some (b 0)) = hq (rotB b) := by
  funext k
  match k with
  | 0 => rfl
  | 1 => rfl
  | 2 => rfl
  | 3 => rfl
  | k + 4 => simp [va_up, hq]
def m_X1_record (S_columns : Int32) (S_rows : Int32) (S_grade : Int32) (S_stepsMade : Int32) (S_numbers : Nat → Int32) (S_bridges : Nat → Int32) (S_caps : Nat → Int32) (H_size : Int32) (Hb : Nat → Nat) (HN : Nat → Nat → Int32) (HB : Nat → Nat → Int32) (HC : Nat → Nat → Int32) (Hc : Nat → Int32) (Hr : Nat → Int32) (Hg : Nat → Int32) (Hs : Nat → Int32) : Option (Int32 × (Nat → Nat) × (Nat → Nat → Int32) × (Nat → Nat → Int32) × (Nat → Nat → Int32) × (Nat → Int32) × (Nat → Int32) × (Nat → Int32) × (Nat → Int32)) :=
  if H_size = 0 then some (1, Hb, hset HN 0 (cpN 144 S_numbers (HN 0)), hset HB 0 (cpN 48 S_bridges (HB 0)), hset HC 0 (cpN 48 S_caps (HC 0)), hset Hc 0 S_columns, hset Hr 0 S_rows, hset Hg 0 S_grade, hset Hs 0 S_stepsMade)
  else if H_size = 1 then some (2, Hb, hset HN 1 (cpN 144 S_numbers (HN 1)), hset HB 1 (cpN 48 S_bridges (HB 1)), hset HC 1 (cpN 48 S_caps (HC 1)), hset Hc 1 S_columns, hset Hr 1 S_rows, hset Hg 1 S_grade, hset Hs 1 S_stepsMade)
  else if H_size = 2 then some (3, Hb, hset HN 2 (cpN 144 S_numbers (HN 2)), hset HB 2 (cpN 48 S_bridges (HB 2)), hset HC 2 (cpN 48 S_caps (HC 2)), hset Hc 2 S_columns, hset Hr 2 S_rows, hset Hg 2 S_grade, hset Hs 2 S_stepsMade)
  else if H_size = 3 then some (4, Hb, hset HN 3 (cpN 144 S_numbers (HN 3)), hset HB 3 (cpN 48 S_bridges (HB 3)), hset HC 3 (cpN 48 S_caps (HC 3)), hset Hc 3 S_columns, hset Hr 3 S_rows, hset Hg 3 S_grade, hset Hs 3 S_stepsMade)
  else if H_size = 4 then some (4, rotB Hb, hset (rotF HN) 3 (cpN 144 S_numbers (HN 0)), hset (rotF HB) 3 (cpN 48 S_bridges (HB 0)), hset (rotF HC) 3 (cpN 48 S_caps (HC 0)), hset (rotF Hc) 3 S_columns, hset (rotF Hr) 3 S_rows, hset (rotF Hg) 3 S_grade, hset (rotF Hs) 3 S_stepsMade)
  else none
def m_X1_restore (S_numbers : Nat → Int32) (S_bridges : Nat → Int32) (S_caps : Nat → Int32) (H_size : Int32) (HN : Nat → Nat → Int32) (HB : Nat → Nat → Int32) (HC : Nat → Nat → Int32) (Hc : Nat → Int32) (Hr : Nat → Int32) (Hg : Nat → Int32) (Hs : Nat → Int32) : Option (Int32 × Int32 × Int32 × Int32 × (Nat → Int32) × (Nat → Int32) × (Nat → Int32) × Int32) :=
  if H_size = 1 then some (Hc 0, Hr 0, Hg 0, Hs 0, cpN 144 (HN 0) S_numbers, cpN 48 (HB 0) S_bridges, cpN 48 (HC 0) S_caps, 0)
  else if H_size = 2 then some (Hc 1, Hr 1, Hg 1, Hs 1, cpN 144 (HN 1) S_numbers, cpN 48 (HB 1) S_bridges, cpN 48 (HC 1) S_caps, 1)
  else if H_size = 3 then some (Hc 2, Hr 2, Hg 2, Hs 2, cpN 144 (HN 2) S_numbers, cpN 48 (HB 2) S_bridges, cpN 48 (HC 2) S_caps, 2)
  else if H_size = 4 then some (Hc 3, Hr 3, Hg 3, Hs 3, cpN 144 (HN 3) S_numbers, cpN 48 (HB 3) S_bridges, cpN 48 (HC 3) S_caps, 3)
  else none
theorem hd_X2_first : yX2_first.cls = RX2 ∧ yX2_first.cls ≠ "java/lang/invoke/MethodHandle" ∧ yX2_first.cls ≠ "java/lang/invoke/VarHandle" ∧ (parseMethodDescriptor yX2_first.desc).map (fun d => d.parameters.length) = some 1 := by decide +kernel
def m_X2_first (Y_firstOf : Nat → Int32) (x1 : Int32) : Int32 :=
  lt1 (vAt 48 Y_firstOf x1) (fun v1 => v1)
set_option maxHeartbeats 4000000 in
set_option maxRecDepth 100000 in
theorem c_X2_first (l : Launch) (D : va_G) (cI cJ cS cB : ClassId) (a : Nat → Nat) (Y_islands : Int32) (Y_ways : Int32) (Y_firstOf : Nat → Int32) (x1 : Int32) (r0 : Int32) (hm : m_X2_first Y_firstOf x1 = r0) :
    mU l D (TYs cI cJ cS cB) yX2_first wsX2_first { frames := 1, cells := 0, slots := 0, locals := 21 } [.ref (a 5), .int x1] [o_Y a Y_islands Y_ways, ai (a 8) cI 48 Y_firstOf] [o_Y a Y_islands Y_ways, ai (a 8) cI 48 Y_firstOf] (some (.int r0)) := by
  refine mG_of (cc := cX2_first) (maxL := 2) (ret := (some .int)) (by decide) rfl rfl (Nat.le_of_ble_eq_true rfl) ?_
  intro p e s m args below meth c A hx hb hr hml hlk hnm hts hown hK hP hD hA hS ls hl
  have hl : lv_has ls 2 [(0, .ref (a 5)), (1, .int x1)] := hl
  have hiX2 : ∀ w ∈ wsX20, w ∈ wsX2_first := fun w h => List.mem_cons_of_mem _ (List.mem_append_right _ h)
  unfold m_X2_first at hm
  refine lv_aload_n hx hb dX2_first_0 rfl (lv_at hl 0 rfl) ?_
  refine va_get (D := D) (ci := 2) (v := .ref (a 8)) (C := RX2) (T := TX2) (N := 11) hx hb hts hiX2 hown hK.1 hP 0 rfl rfl 2 (by decide) (hts (.fieldLink RX2 18 "IslandBridges$Layout" "firstOf" "[I") (List.mem_of_getElem? (i := 1) rfl)) (fun _ h9 => h9) rfl dX2_first_1 ?_
  refine lv_iload_n hx hb dX2_first_4 rfl (lv_at hl 1 rfl) ?_
  obtain ⟨v1, ev1, hm⟩ := lt1_inv hm
  refine cNs ⟨hx, hb, hml, hown, hts⟩ (c_X9_valueAt l D cI cJ cS cB (a 8) 48 (Nat.le_of_ble_eq_true rfl) Y_firstOf x1 v1 ev1) ⟨va_cnB 2 hts gX2_first_X9_valueAt_n62 rfl rfl rfl (kn_4 hK) (hts (.initialized RX9) (List.mem_of_getElem? (i := 3) rfl)) hd_X9_valueAt ⟨(Nat.le_of_ble_eq_true rfl), (Nat.le_of_ble_eq_true rfl)⟩, (hts (.static yX9_valueAt) (List.mem_of_getElem? (i := 2) rfl)), trivial⟩ hK hP hD hS hA [1] rfl rfl rfl hl.1 (Nat.le_of_ble_eq_true rfl) ⟨Nat.zero_le _, Nat.zero_le _⟩ rfl dX2_first_5 (fun H locs hP hD hS => ?_)
  cases hm
  exact rI () hx hb hr hlk hP hD hS dX2_first_8
theorem hd_X0_leader : yX0_leader.cls = RX0 ∧ yX0_leader.cls ≠ "java/lang/invoke/MethodHandle" ∧ yX0_leader.cls ≠ "java/lang/invoke/VarHandle" ∧ (parseMethodDescriptor yX0_leader.desc).map (fun d => d.parameters.length) = some 1 := by decide +kernel
def m_X0_leader (G_leaders : Nat → Int32) (x1 : Int32) : Int32 :=
  lt1 (vAt 24 G_leaders x1) (fun v1 => v1)
set_option maxHeartbeats 4000000 in
set_option maxRecDepth 100000 in
theorem c_X0_leader (l : Launch) (D : va_G) (cI cJ cS cB : ClassId) (a : Nat → Nat) (G_leaders : Nat → Int32) (x1 : Int32) (r0 : Int32) (hm : m_X0_leader G_leaders x1 = r0) :
    mU l D (TYs cI cJ cS cB) yX0_leader wsX0_leader { frames := 1, cells := 0, slots := 0, locals := 21 } [.ref (a 20), .int x1] [o_G a , ai (a 21) cI 24 G_leaders] [o_G a , ai (a 21) cI 24 G_leaders] (some (.int r0)) := by
  refine mG_of (cc := cX0_leader) (maxL := 2) (ret := (some .int)) (by decide) rfl rfl (Nat.le_of_ble_eq_true rfl) ?_
  intro p e s m args below meth c A hx hb hr hml hlk hnm hts hown hK hP hD hA hS ls hl
  have hl : lv_has ls 2 [(0, .ref (a 20)), (1, .int x1)] := hl
  have hiX0 : ∀ w ∈ wsX00, w ∈ wsX0_leader := fun w h => List.mem_cons_of_mem _ (List.mem_append_right _ h)
  unfold m_X0_leader at hm
  refine lv_aload_n hx hb dX0_leader_0 rfl (lv_at hl 0 rfl) ?_
  refine va_get (D := D) (ci := 0) (v := .ref (a 21)) (C := RX0) (T := TX0) (N := 2) hx hb hts hiX0 hown hK.1 hP 0 rfl rfl 1 (by decide) (hts (.fieldLink RX0 9 "IslandBridges$Groups" "leaders" "[I") (List.mem_of_getElem? (i := 1) rfl)) (fun _ h9 => h9) rfl dX0_leader_1 ?_
  refine lv_iload_n hx hb dX0_leader_4 rfl (lv_at hl 1 rfl) ?_
  obtain ⟨v1, ev1, hm⟩ := lt1_inv hm
  refine cNs ⟨hx, hb, hml, hown, hts⟩ (c_X9_valueAt l D cI cJ cS cB (a 21) 24 (Nat.le_of_ble_eq_true rfl) G_leaders x1 v1 ev1) ⟨va_cnB 2 hts gX0_leader_X9_valueAt_n29 rfl rfl rfl (kn_11 hK) (hts (.initialized RX9) (List.mem_of_getElem? (i := 3) rfl)) hd_X9_valueAt ⟨(Nat.le_of_ble_eq_true rfl), (Nat.le_of_ble_eq_true rfl)⟩, (hts (.static yX9_valueAt) (List.mem_of_getElem? (i := 2) rfl)), trivial⟩ hK hP hD hS hA [1] rfl rfl rfl hl.1 (Nat.le_of_ble_eq_true rfl) ⟨Nat.zero_le _, Nat.zero_le _⟩ rfl dX0_leader_5 (fun H locs hP hD hS => ?_)
  cases hm
  exact rI () hx hb hr hlk hP hD hS dX0_leader_8
theorem hd_X2_second : yX2_second.cls = RX2 ∧ yX2_second.cls ≠ "java/lang/invoke/MethodHandle" ∧ yX2_second.cls ≠ "java/lang/invoke/VarHandle" ∧ (parseMethodDescriptor yX2_second.desc).map (fun d => d.parameters.length) = some 1 := by decide +kernel
def m_X2_second (Y_secondOf : Nat → Int32) (x1 : Int32) : Int32 :=
  lt1 (vAt 48 Y_secondOf x1) (fun v1 => v1)
set_option maxHeartbeats 4000000 in
set_option maxRecDepth 100000 in
theorem c_X2_second (l : Launch) (D : va_G) (cI cJ cS cB : ClassId) (a : Nat → Nat) (Y_islands : Int32) (Y_ways : Int32) (Y_secondOf : Nat → Int32) (x1 : Int32) (r0 : Int32) (hm : m_X2_second Y_secondOf x1 = r0) :
    mU l D (TYs cI cJ cS cB) yX2_second wsX2_second { frames := 1, cells := 0, slots := 0, locals := 21 } [.ref (a 5), .int x1] [o_Y a Y_islands Y_ways, ai (a 9) cI 48 Y_secondOf] [o_Y a Y_islands Y_ways, ai (a 9) cI 48 Y_secondOf] (some (.int r0)) := by
  refine mG_of (cc := cX2_second) (maxL := 2) (ret := (some .int)) (by decide) rfl rfl (Nat.le_of_ble_eq_true rfl) ?_
  intro p e s m args below meth c A hx hb hr hml hlk hnm hts hown hK hP hD hA hS ls hl
  have hl : lv_has ls 2 [(0, .ref (a 5)), (1, .int x1)] := hl
  have hiX2 : ∀ w ∈ wsX20, w ∈ wsX2_second := fun w h => List.mem_cons_of_mem _ (List.mem_append_right _ h)
  unfold m_X2_second at hm
  refine lv_aload_n hx hb dX2_second_0 rfl (lv_at hl 0 rfl) ?_
  refine va_get (D := D) (ci := 2) (v := .ref (a 9)) (C := RX2) (T := TX2) (N := 11) hx hb hts hiX2 hown hK.1 hP 0 rfl rfl 3 (by decide) (hts (.fieldLink RX2 21 "IslandBridges$Layout" "secondOf" "[I") (List.mem_of_getElem? (i := 1) rfl)) (fun _ h9 => h9) rfl dX2_second_1 ?_
  refine lv_iload_n hx hb dX2_second_4 rfl (lv_at hl 1 rfl) ?_
  obtain ⟨v1, ev1, hm⟩ := lt1_inv hm
  refine cNs ⟨hx, hb, hml, hown, hts⟩ (c_X9_valueAt l D cI cJ cS cB (a 9) 48 (Nat.le_of_ble_eq_true rfl) Y_secondOf x1 v1 ev1) ⟨va_cnB 2 hts gX2_second_X9_valueAt_n62 rfl rfl rfl (kn_4 hK) (hts (.initialized RX9) (List.mem_of_getElem? (i := 3) rfl)) hd_X9_valueAt ⟨(Nat.le_of_ble_eq_true rfl), (Nat.le_of_ble_eq_true rfl)⟩, (hts (.static yX9_valueAt) (List.mem_of_getElem? (i := 2) rfl)), trivial⟩ hK hP hD hS hA [1] rfl rfl rfl hl.1 (Nat.le_of_ble_eq_true rfl) ⟨Nat.zero_le _, Nat.zero_le _⟩ rfl dX2_second_5 (fun H locs hP hD hS => ?_)
  cases hm
  exact rI () hx hb hr hlk hP hD hS dX2_second_8
theorem hd_X0_join : yX0_join.cls = RX0 ∧ yX0_join.cls ≠ "java/lang/invoke/MethodHandle" ∧ yX0_join.cls ≠ "java/lang/invoke/VarHandle" ∧ (parseMethodDescriptor yX0_join.desc).map (fun d => d.parameters.length) = some 2 := by decide +kernel
def m_X0_join_j52 (rec16 : Int32 → (Nat → Int32) → Option ((Nat → Int32))) (y8 : Int32) (y9 : Nat → Int32) : Option ((Nat → Int32)) :=
  lt1 (y8 + 1) (fun v10 => rec16 v10 y9)
def m_X0_join_b16 (Y_islands : Int32) (y3 : Int32) (y4 : Int32) (rec16 : Int32 → (Nat → Int32) → Option ((Nat → Int32))) (y5 : Int32) (y6 : Nat → Int32) : Option ((Nat → Int32)) :=
  if Y_islands ≤ y5 then (some y6) else (lt1 (vAt 24 y6 y5) (fun v7 => if v7 = y4 then (lt1 (vPut 24 y6 y5 y3) (fun v11 => m_X0_join_j52 rec16 y5 v11)) else (m_X0_join_j52 rec16 y5 y6)))
def m_X0_join (N : Nat) (Y_islands : Int32) (G_leaders : Nat → Int32) (x1 : Int32) (x2 : Int32) : Option ((Nat → Int32)) :=
  lt1 (mnI x1 x2) (fun v1 => lt1 (mxI x1 x2) (fun v2 => zl2 (m_X0_join_b16 Y_islands v1 v2) N 0 G_leaders))
set_option maxHeartbeats 4000000 in
set_option maxRecDepth 100000 in
theorem c_X0_join (l : Launch) (D : va_G) (cI cJ cS cB : ClassId) (a : Nat → Nat) (Y_islands : Int32) (Y_ways : Int32) (G_leaders : Nat → Int32) (x1 : Int32) (x2 : Int32) (N : Nat) (G_leaders' : Nat → Int32) (hm : m_X0_join N Y_islands G_leaders x1 x2 = some G_leaders') :
    mU l D (TYs cI cJ cS cB) yX0_join wsX0_join { frames := 1, cells := 0, slots := 0, locals := 22 } [.ref (a 20), .int x1, .int x2] [o_Y a Y_islands Y_ways, o_G a , ai (a 21) cI 24 G_leaders] [o_Y a Y_islands Y_ways, o_G a , ai (a 21) cI 24 G_leaders'] none := by
  refine mG_of (cc := cX0_join) (maxL := 6) (ret := none) (by decide) rfl rfl (Nat.le_of_ble_eq_true rfl) ?_
  intro p e s m args below meth c A hx hb hr hml hlk hnm hts hown hK hP hD hA hS ls hl
  have hl : lv_has ls 6 [(0, .ref (a 20)), (1, .int x1), (2, .int x2)] := hl
  have hiX0 : ∀ w ∈ wsX00, w ∈ wsX0_join := fun w h => List.mem_cons_of_mem _ (List.mem_append_left _ (List.mem_append_right _ h))
  have hiX2 : ∀ w ∈ wsX20, w ∈ wsX0_join := fun w h => List.mem_cons_of_mem _ (List.mem_append_right _ h)
  unfold m_X0_join at hm
  have h16 : ∀ (y3 : Int32) (y4 : Int32), ∀ (n : Nat) (y5 : Int32) (y6 : Nat → Int32), zl2 (m_X0_join_b16 Y_islands y3 y4) n y5 y6 = some G_leaders' → ∀ (H : Heap) (locs : List Loc), va_P D vwCl [o_Y a Y_islands Y_ways, o_G a , ai (a 21) cI 24 y6] H → va_D A [o_Y a Y_islands Y_ways, o_G a , ai (a 21) cI 24 y6] → va_S A s.heap H locs → ∀ ls : Array Slot, lv_has ls 6 [(0, .ref (a 20)), (3, .int y3), (4, .int y4), (5, .int y5)] → W p l e { frames := 1, cells := 0, slots := 0, locals := 22 } s m args below meth c H locs 0 0 (MQ below (eQ D none (fun _ : Unit => [o_Y a Y_islands Y_ways, o_G a , ai (a 21) cI 24 G_leaders']) A) args s 0 0 A) (F0 m 16 ls []) := by
    intro y3 y4
    refine zl2_ind (fun rec16 ih16 y5 y6 hm => ?_)
    have h52 : ∀ (y8 : Int32) (y9 : Nat → Int32), m_X0_join_j52 rec16 y8 y9 = some G_leaders' → ∀ (H : Heap) (locs : List Loc), va_P D vwCl [o_Y a Y_islands Y_ways, o_G a , ai (a 21) cI 24 y9] H → va_D A [o_Y a Y_islands Y_ways, o_G a , ai (a 21) cI 24 y9] → va_S A s.heap H locs → ∀ ls : Array Slot, lv_has ls 6 [(0, .ref (a 20)), (3, .int y3), (4, .int y4), (5, .int y8)] → W p l e { frames := 1, cells := 0, slots := 0, locals := 22 } s m args below meth c H locs 0 0 (MQ below (eQ D none (fun _ : Unit => [o_Y a Y_islands Y_ways, o_G a , ai (a 21) cI 24 G_leaders']) A) args s 0 0 A) (F0 m 52 ls []) := by
      intro y8 y9 hm H locs hP hD hS ls hl
      unfold m_X0_join_j52 at hm
      obtain ⟨v10, ev10, hm⟩ := lt1_inv hm
      refine lv_iinc (v := v10) (lv' := [(5, .int v10), (0, .ref (a 20)), (3, .int y3), (4, .int y4)]) hx hb dX0_join_52 hl (k := 3) rfl ev10 (by decide) rfl (fun ls hl => ?_)
      refine lv_goto (tgt := 16) hx hb dX0_join_55 (by decide) ?_
      exact ih16 v10 y9 hm _ _ hP hD hS ls (lv_sub hl [1, 2, 3, 0] rfl)
    intro H locs hP hD hS ls hl
    unfold m_X0_join_b16 at hm
    refine lv_iload hx hb dX0_join_16 (lv_at hl 3 rfl) ?_
    refine lv_aload_n hx hb dX0_join_18 rfl (lv_at hl 0 rfl) ?_
    refine va_get (D := D) (ci := 0) (v := .ref (a 5)) (C := RX0) (T := TX0) (N := 2) hx hb hts hiX0 hown hK.1 hP 1 rfl rfl 0 (by decide) (hts (.fieldLink RX0 15 "IslandBridges$Groups" "layout" "LIslandBridges$Layout;") (List.mem_of_getElem? (i := 8) rfl)) (fun _ h9 => h9) rfl dX0_join_19 ?_
    refine va_get (D := D) (ci := 2) (v := .int Y_islands) (C := RX2) (T := TX2) (N := 11) hx hb hts hiX2 hown hK.1 hP 0 rfl rfl 9 (by decide) (hts (.fieldLink RX0 56 "IslandBridges$Layout" "islands" "I") (List.mem_of_getElem? (i := 9) rfl)) (fun _ h9 => h9) rfl dX0_join_22 ?_
    refine lv_icmp_ge (tgt := 58) hx hb dX0_join_25 (by decide) (fun c25 => ?_) (fun c25 => ?_)
    · have hm := ip c25 hm
      cases hm
      exact rV () hx hb hr hlk hP hD hS dX0_join_58
    · have hm := ine c25 hm
      refine lv_aload_n hx hb dX0_join_28 rfl (lv_at hl 0 rfl) ?_
      refine va_get (D := D) (ci := 0) (v := .ref (a 21)) (C := RX0) (T := TX0) (N := 2) hx hb hts hiX0 hown hK.1 hP 1 rfl rfl 1 (by decide) (hts (.fieldLink RX0 9 "IslandBridges$Groups" "leaders" "[I") (List.mem_of_getElem? (i := 10) rfl)) (fun _ h9 => h9) rfl dX0_join_29 ?_
      refine lv_iload hx hb dX0_join_32 (lv_at hl 3 rfl) ?_
      obtain ⟨v7, ev7, hm⟩ := lt1_inv hm
      refine cNs ⟨hx, hb, hml, hown, hts⟩ (c_X9_valueAt l D cI cJ cS cB (a 21) 24 (Nat.le_of_ble_eq_true rfl) y6 y5 v7 ev7) ⟨va_cnB 2 hts gX0_join_X9_valueAt_n29 rfl rfl rfl (kn_11 hK) (hts (.initialized RX9) (List.mem_of_getElem? (i := 12) rfl)) hd_X9_valueAt ⟨(Nat.le_of_ble_eq_true rfl), (Nat.le_of_ble_eq_true rfl)⟩, (hts (.static yX9_valueAt) (List.mem_of_getElem? (i := 11) rfl)), trivial⟩ hK hP hD hS hA [2] rfl rfl rfl hl.1 (Nat.le_of_ble_eq_true rfl) ⟨Nat.zero_le _, Nat.zero_le _⟩ rfl dX0_join_34 (fun H locs hP hD hS => ?_)
      refine lv_iload hx hb dX0_join_37 (lv_at hl 2 rfl) ?_
      refine lv_icmp_ne (tgt := 52) hx hb dX0_join_39 (by decide) (fun c39 => ?_) (fun c39 => ?_)
      · have hm := ine c39 hm
        exact h52 y5 y6 hm _ _ hP hD hS ls (lv_sub hl [0, 1, 2, 3] rfl)
      · have hm := ip c39 hm
        refine lv_aload_n hx hb dX0_join_42 rfl (lv_at hl 0 rfl) ?_
        refine va_get (D := D) (ci := 0) (v := .ref (a 21)) (C := RX0) (T := TX0) (N := 2) hx hb hts hiX0 hown hK.1 hP 1 rfl rfl 1 (by decide) (hts (.fieldLink RX0 9 "IslandBridges$Groups" "leaders" "[I") (List.mem_of_getElem? (i := 10) rfl)) (fun _ h9 => h9) rfl dX0_join_43 ?_
        refine lv_iload hx hb dX0_join_46 (lv_at hl 3 rfl) ?_
        refine lv_iload_n hx hb dX0_join_48 rfl (lv_at hl 1 rfl) ?_
        obtain ⟨v11, ev11, hm⟩ := lt1_inv hm
        refine cNx ⟨hx, hb, hml, hown, hts⟩ (c_X9_put l D cI cJ cS cB (a 21) 24 (Nat.le_of_ble_eq_true rfl) y6 y5 y3 v11 ev11) ⟨va_cnB 3 hts gX0_join_X9_put_n19 rfl rfl rfl (kn_10 hK) (hts (.initialized RX9) (List.mem_of_getElem? (i := 12) rfl)) hd_X9_put ⟨(Nat.le_of_ble_eq_true rfl), (Nat.le_of_ble_eq_true rfl)⟩, (hts (.static yX9_put) (List.mem_of_getElem? (i := 14) rfl)), trivial⟩ hK hP hD hS hA [2] rfl rfl [o_Y a Y_islands Y_ways, o_G a , ai (a 21) cI 24 v11] [(false, 0), (false, 1), (true, 0)] rfl rfl rfl hl.1 (Nat.le_of_ble_eq_true rfl) ⟨Nat.zero_le _, Nat.zero_le _⟩ rfl dX0_join_49 (fun H locs hP hD hS => ?_)
        exact h52 y5 v11 hm _ _ hP hD hS ls (lv_sub hl [0, 1, 2, 3] rfl)
  refine lv_iload_n hx hb dX0_join_0 rfl (lv_at hl 1 rfl) ?_
  refine lv_iload_n hx hb dX0_join_1 rfl (lv_at hl 2 rfl) ?_
  obtain ⟨v1, ev1, hm⟩ := lt1_inv hm
  refine va_mmin hx hb (hml.trans hl.1.symm) hown (hts (.methodLink RX0 47 Lib.Math.min.name) (List.mem_of_getElem? (i := 1) rfl)) (hts (.static Lib.Math.min.name) (List.mem_of_getElem? (i := 2) rfl)) (hts (.initialized "java/lang/Math") (List.mem_of_getElem? (i := 3) rfl)) (hts (.code Lib.Math.min.name Lib.Math.min.code 2 (some .int)) (List.mem_of_getElem? (i := 4) rfl)) (Nat.le_of_ble_eq_true rfl) (Nat.le_of_ble_eq_true rfl) (Nat.zero_le _) (Nat.zero_le _) dX0_join_2 ?_
  refine ltop ev1 ?_
  refine lv_istore_n (lv' := [(3, .int v1), (0, .ref (a 20)), (1, .int x1), (2, .int x2)]) hx hb dX0_join_5 rfl hl (by decide) rfl (fun ls hl => ?_)
  refine lv_iload_n hx hb dX0_join_6 rfl (lv_at hl 2 rfl) ?_
  refine lv_iload_n hx hb dX0_join_7 rfl (lv_at hl 3 rfl) ?_
  obtain ⟨v2, ev2, hm⟩ := lt1_inv hm
  refine va_mmax hx hb (hml.trans hl.1.symm) hown (hts (.methodLink RX0 53 Lib.Math.max.name) (List.mem_of_getElem? (i := 5) rfl)) (hts (.static Lib.Math.max.name) (List.mem_of_getElem? (i := 6) rfl)) (hts (.initialized "java/lang/Math") (List.mem_of_getElem? (i := 3) rfl)) (hts (.code Lib.Math.max.name Lib.Math.max.code 2 (some .int)) (List.mem_of_getElem? (i := 7) rfl)) (Nat.le_of_ble_eq_true rfl) (Nat.le_of_ble_eq_true rfl) (Nat.zero_le _) (Nat.zero_le _) dX0_join_8 ?_
  refine ltop ev2 ?_
  refine lv_istore (lv' := [(4, .int v2), (3, .int v1), (0, .ref (a 20)), (1, .int x1), (2, .int x2)]) hx hb dX0_join_11 hl (by decide) rfl (fun ls hl => ?_)
  refine lv_iconst (v := 0) hx hb dX0_join_13 (by decide) ?_
  refine lv_istore (lv' := [(5, .int 0), (4, .int v2), (3, .int v1), (0, .ref (a 20)), (1, .int x1), (2, .int x2)]) hx hb dX0_join_14 hl (by decide) rfl (fun ls hl => ?_)
  exact h16 v1 v2 N 0 G_leaders hm _ _ hP hD hS ls (lv_sub hl [3, 2, 1, 0] rfl)
theorem hd_X0_read : yX0_read.cls = RX0 ∧ yX0_read.cls ≠ "java/lang/invoke/MethodHandle" ∧ yX0_read.cls ≠ "java/lang/invoke/VarHandle" ∧ (parseMethodDescriptor yX0_read.desc).map (fun d => d.parameters.length) = some 1 := by decide +kernel
def m_X0_read_j72 (rec25 : Int32 → (Nat → Int32) → Option ((Nat → Int32))) (y7 : Int32) (y8 : Nat → Int32) : Option ((Nat → Int32)) :=
  lt1 (y7 + 1) (fun v9 => rec25 v9 y8)
def m_X0_read_b25 (N : Nat) (Y_islands : Int32) (Y_ways : Int32) (Y_firstOf : Nat → Int32) (Y_secondOf : Nat → Int32) (P : Nat → Int32) (rec25 : Int32 → (Nat → Int32) → Option ((Nat → Int32))) (y4 : Int32) (y5 : Nat → Int32) : Option ((Nat → Int32)) :=
  if Y_ways ≤ y4 then (some y5) else (lt1 (vAt 48 P y4) (fun v6 => if v6 ≤ 0 then (m_X0_read_j72 rec25 y4 y5) else (lt1 (m_X2_first Y_firstOf y4) (fun v10 => lt1 (m_X0_leader y5 v10) (fun v11 => lt1 (m_X2_second Y_secondOf y4) (fun v12 => lt1 (m_X0_leader y5 v12) (fun v13 => bd1 (m_X0_join N Y_islands y5 v11 v13) (fun v14 => m_X0_read_j72 rec25 y4 v14))))))))
def m_X0_read_j23 (N : Nat) (Y_islands : Int32) (Y_ways : Int32) (Y_firstOf : Nat → Int32) (Y_secondOf : Nat → Int32) (P : Nat → Int32) (y3 : Nat → Int32) : Option ((Nat → Int32)) :=
  zl2 (m_X0_read_b25 N Y_islands Y_ways Y_firstOf Y_secondOf P) N 0 y3
def m_X0_read_b2 (N : Nat) (Y_islands : Int32) (Y_ways : Int32) (Y_firstOf : Nat → Int32) (Y_secondOf : Nat → Int32) (P : Nat → Int32) (rec2 : Int32 → (Nat → Int32) → Option ((Nat → Int32))) (y1 : Int32) (y2 : Nat → Int32) : Option ((Nat → Int32)) :=
  if 24 ≤ y1 then (m_X0_read_j23 N Y_islands Y_ways Y_firstOf Y_secondOf P y2) else (lt1 (vPut 24 y2 y1 y1) (fun v15 => lt1 (y1 + 1) (fun v16 => rec2 v16 v15)))
def m_X0_read (N : Nat) (Y_islands : Int32) (Y_ways : Int32) (Y_firstOf : Nat → Int32) (Y_secondOf : Nat → Int32) (G_leaders : Nat → Int32) (P : Nat → Int32) : Option ((Nat → Int32)) :=
  zl2 (m_X0_read_b2 N Y_islands Y_ways Y_firstOf Y_secondOf P) N 0 G_leaders
set_option maxHeartbeats 4000000 in
set_option maxRecDepth 100000 in
theorem c_X0_read (l : Launch) (D : va_G) (cI cJ cS cB : ClassId) (a : Nat → Nat) (q : Nat) (Y_islands : Int32) (Y_ways : Int32) (Y_firstOf : Nat → Int32) (Y_secondOf : Nat → Int32) (G_leaders : Nat → Int32) (P : Nat → Int32)  (N : Nat) (G_leaders' : Nat → Int32) (hm : m_X0_read N Y_islands Y_ways Y_firstOf Y_secondOf G_leaders P = some G_leaders') :
    mU l D (TYs cI cJ cS cB) yX0_read wsX0_read { frames := 2, cells := 0, slots := 0, locals := 47 } [.ref (a 20), .ref (q)] [o_Y a Y_islands Y_ways, ai (a 8) cI 48 Y_firstOf, ai (a 9) cI 48 Y_secondOf, o_G a , ai (a 21) cI 24 G_leaders, ai (q) cI 48 P] [o_Y a Y_islands Y_ways, ai (a 8) cI 48 Y_firstOf, ai (a 9) cI 48 Y_secondOf, o_G a , ai (a 21) cI 24 G_leaders', ai (q) cI 48 P] none := by
  refine mG_of (cc := cX0_read) (maxL := 3) (ret := none) (by decide) rfl rfl (Nat.le_of_ble_eq_true rfl) ?_
  intro p e s m args below meth c A hx hb hr hml hlk hnm hts hown hK hP hD hA hS ls hl
  have hl : lv_has ls 3 [(0, .ref (a 20)), (1, .ref (q))] := hl
  have hiX0 : ∀ w ∈ wsX00, w ∈ wsX0_read := fun w h => List.mem_cons_of_mem _ (List.mem_append_left _ (List.mem_append_right _ h))
  have hiX2 : ∀ w ∈ wsX20, w ∈ wsX0_read := fun w h => List.mem_cons_of_mem _ (List.mem_append_right _ h)
  unfold m_X0_read at hm
  have h25 : ∀ (n : Nat) (y4 : Int32) (y5 : Nat → Int32), zl2 (m_X0_read_b25 N Y_islands Y_ways Y_firstOf Y_secondOf P) n y4 y5 = some G_leaders' → ∀ (H : Heap) (locs : List Loc), va_P D vwCl [o_Y a Y_islands Y_ways, ai (a 8) cI 48 Y_firstOf, ai (a 9) cI 48 Y_secondOf, o_G a , ai (a 21) cI 24 y5, ai (q) cI 48 P] H → va_D A [o_Y a Y_islands Y_ways, ai (a 8) cI 48 Y_firstOf, ai (a 9) cI 48 Y_secondOf, o_G a , ai (a 21) cI 24 y5, ai (q) cI 48 P] → va_S A s.heap H locs → ∀ ls : Array Slot, lv_has ls 3 [(0, .ref (a 20)), (1, .ref (q)), (2, .int y4)] → W p l e { frames := 2, cells := 0, slots := 0, locals := 47 } s m args below meth c H locs 0 0 (MQ below (eQ D none (fun _ : Unit => [o_Y a Y_islands Y_ways, ai (a 8) cI 48 Y_firstOf, ai (a 9) cI 48 Y_secondOf, o_G a , ai (a 21) cI 24 G_leaders', ai (q) cI 48 P]) A) args s 0 0 A) (F0 m 25 ls []) := by
    refine zl2_ind (fun rec25 ih25 y4 y5 hm => ?_)
    have h72 : ∀ (y7 : Int32) (y8 : Nat → Int32), m_X0_read_j72 rec25 y7 y8 = some G_leaders' → ∀ (H : Heap) (locs : List Loc), va_P D vwCl [o_Y a Y_islands Y_ways, ai (a 8) cI 48 Y_firstOf, ai (a 9) cI 48 Y_secondOf, o_G a , ai (a 21) cI 24 y8, ai (q) cI 48 P] H → va_D A [o_Y a Y_islands Y_ways, ai (a 8) cI 48 Y_firstOf, ai (a 9) cI 48 Y_secondOf, o_G a , ai (a 21) cI 24 y8, ai (q) cI 48 P] → va_S A s.heap H locs → ∀ ls : Array Slot, lv_has ls 3 [(0, .ref (a 20)), (1, .ref (q)), (2, .int y7)] → W p l e { frames := 2, cells := 0, slots := 0, locals := 47 } s m args below meth c H locs 0 0 (MQ below (eQ D none (fun _ : Unit => [o_Y a Y_islands Y_ways, ai (a 8) cI 48 Y_firstOf, ai (a 9) cI 48 Y_secondOf, o_G a , ai (a 21) cI 24 G_leaders', ai (q) cI 48 P]) A) args s 0 0 A) (F0 m 72 ls []) := by
      intro y7 y8 hm H locs hP hD hS ls hl
      unfold m_X0_read_j72 at hm
      obtain ⟨v9, ev9, hm⟩ := lt1_inv hm
      refine lv_iinc (v := v9) (lv' := [(2, .int v9), (0, .ref (a 20)), (1, .ref (q))]) hx hb dX0_read_72 hl (k := 2) rfl ev9 (by decide) rfl (fun ls hl => ?_)
      refine lv_goto (tgt := 25) hx hb dX0_read_75 (by decide) ?_
      exact ih25 v9 y8 hm _ _ hP hD hS ls (lv_sub hl [1, 2, 0] rfl)
    intro H locs hP hD hS ls hl
    unfold m_X0_read_b25 at hm
    refine lv_iload_n hx hb dX0_read_25 rfl (lv_at hl 2 rfl) ?_
    refine lv_aload_n hx hb dX0_read_26 rfl (lv_at hl 0 rfl) ?_
    refine va_get (D := D) (ci := 0) (v := .ref (a 5)) (C := RX0) (T := TX0) (N := 2) hx hb hts hiX0 hown hK.1 hP 3 rfl rfl 0 (by decide) (hts (.fieldLink RX0 15 "IslandBridges$Groups" "layout" "LIslandBridges$Layout;") (List.mem_of_getElem? (i := 2) rfl)) (fun _ h9 => h9) rfl dX0_read_27 ?_
    refine va_get (D := D) (ci := 2) (v := .int Y_ways) (C := RX2) (T := TX2) (N := 11) hx hb hts hiX2 hown hK.1 hP 0 rfl rfl 10 (by decide) (hts (.fieldLink RX0 23 "IslandBridges$Layout" "ways" "I") (List.mem_of_getElem? (i := 3) rfl)) (fun _ h9 => h9) rfl dX0_read_30 ?_
    refine lv_icmp_ge (tgt := 78) hx hb dX0_read_33 (by decide) (fun c33 => ?_) (fun c33 => ?_)
    · have hm := ip c33 hm
      cases hm
      exact rV () hx hb hr hlk hP hD hS dX0_read_78
    · have hm := ine c33 hm
      refine lv_aload_n hx hb dX0_read_36 rfl (lv_at hl 1 rfl) ?_
      refine lv_iload_n hx hb dX0_read_37 rfl (lv_at hl 2 rfl) ?_
      obtain ⟨v6, ev6, hm⟩ := lt1_inv hm
      refine cNs ⟨hx, hb, hml, hown, hts⟩ (c_X9_valueAt l D cI cJ cS cB (q) 48 (Nat.le_of_ble_eq_true rfl) P y4 v6 ev6) ⟨va_cnB 2 hts gX0_read_X9_valueAt_n29 rfl rfl rfl (kn_11 hK) (hts (.initialized RX9) (List.mem_of_getElem? (i := 5) rfl)) hd_X9_valueAt ⟨(Nat.le_of_ble_eq_true rfl), (Nat.le_of_ble_eq_true rfl)⟩, (hts (.static yX9_valueAt) (List.mem_of_getElem? (i := 7) rfl)), trivial⟩ hK hP hD hS hA [5] rfl rfl rfl hl.1 (Nat.le_of_ble_eq_true rfl) ⟨Nat.zero_le _, Nat.zero_le _⟩ rfl dX0_read_38 (fun H locs hP hD hS => ?_)
      refine lv_if_le (tgt := 72) hx hb dX0_read_41 (by decide) (fun c41 => ?_) (fun c41 => ?_)
      · have hm := ip c41 hm
        exact h72 y4 y5 hm _ _ hP hD hS ls (lv_sub hl [0, 1, 2] rfl)
      · have hm := ine c41 hm
        refine lv_aload_n hx hb dX0_read_44 rfl (lv_at hl 0 rfl) ?_
        refine lv_aload_n hx hb dX0_read_45 rfl (lv_at hl 0 rfl) ?_
        refine lv_aload_n hx hb dX0_read_46 rfl (lv_at hl 0 rfl) ?_
        refine va_get (D := D) (ci := 0) (v := .ref (a 5)) (C := RX0) (T := TX0) (N := 2) hx hb hts hiX0 hown hK.1 hP 3 rfl rfl 0 (by decide) (hts (.fieldLink RX0 15 "IslandBridges$Groups" "layout" "LIslandBridges$Layout;") (List.mem_of_getElem? (i := 2) rfl)) (fun _ h9 => h9) rfl dX0_read_47 ?_
        refine lv_iload_n hx hb dX0_read_50 rfl (lv_at hl 2 rfl) ?_
        obtain ⟨v10, h_v10, hm⟩ := lt1_inv hm
        refine cVs ⟨hx, hb, hml, hown, hts⟩ (c_X2_first l D cI cJ cS cB a Y_islands Y_ways Y_firstOf y4 v10 h_v10) (cwV 1 hts gX0_read_X2_first rfl rfl rfl hd_X2_first ⟨(Nat.le_of_ble_eq_true rfl), (Nat.le_of_ble_eq_true rfl)⟩) hK hP hD hS hA [0, 1] rfl rfl rfl hl.1 (Nat.le_of_ble_eq_true rfl) ⟨Nat.zero_le _, Nat.zero_le _⟩ 0 rfl rfl rfl rfl dX0_read_51 (fun H locs hP hD hS => ?_)
        obtain ⟨v11, h_v11, hm⟩ := lt1_inv hm
        refine cVs ⟨hx, hb, hml, hown, hts⟩ (c_X0_leader l D cI cJ cS cB a y5 v10 v11 h_v11) (cwV 1 hts gX0_read_X0_leader rfl rfl rfl hd_X0_leader ⟨(Nat.le_of_ble_eq_true rfl), (Nat.le_of_ble_eq_true rfl)⟩) hK hP hD hS hA [3, 4] rfl rfl rfl hl.1 (Nat.le_of_ble_eq_true rfl) ⟨Nat.zero_le _, Nat.zero_le _⟩ 3 rfl rfl rfl rfl dX0_read_54 (fun H locs hP hD hS => ?_)
        refine lv_aload_n hx hb dX0_read_57 rfl (lv_at hl 0 rfl) ?_
        refine lv_aload_n hx hb dX0_read_58 rfl (lv_at hl 0 rfl) ?_
        refine va_get (D := D) (ci := 0) (v := .ref (a 5)) (C := RX0) (T := TX0) (N := 2) hx hb hts hiX0 hown hK.1 hP 3 rfl rfl 0 (by decide) (hts (.fieldLink RX0 15 "IslandBridges$Groups" "layout" "LIslandBridges$Layout;") (List.mem_of_getElem? (i := 2) rfl)) (fun _ h9 => h9) rfl dX0_read_59 ?_
        refine lv_iload_n hx hb dX0_read_62 rfl (lv_at hl 2 rfl) ?_
        obtain ⟨v12, h_v12, hm⟩ := lt1_inv hm
        refine cVs ⟨hx, hb, hml, hown, hts⟩ (c_X2_second l D cI cJ cS cB a Y_islands Y_ways Y_secondOf y4 v12 h_v12) (cwV 1 hts gX0_read_X2_second rfl rfl rfl hd_X2_second ⟨(Nat.le_of_ble_eq_true rfl), (Nat.le_of_ble_eq_true rfl)⟩) hK hP hD hS hA [0, 2] rfl rfl rfl hl.1 (Nat.le_of_ble_eq_true rfl) ⟨Nat.zero_le _, Nat.zero_le _⟩ 0 rfl rfl rfl rfl dX0_read_63 (fun H locs hP hD hS => ?_)
        obtain ⟨v13, h_v13, hm⟩ := lt1_inv hm
        refine cVs ⟨hx, hb, hml, hown, hts⟩ (c_X0_leader l D cI cJ cS cB a y5 v12 v13 h_v13) (cwV 1 hts gX0_read_X0_leader rfl rfl rfl hd_X0_leader ⟨(Nat.le_of_ble_eq_true rfl), (Nat.le_of_ble_eq_true rfl)⟩) hK hP hD hS hA [3, 4] rfl rfl rfl hl.1 (Nat.le_of_ble_eq_true rfl) ⟨Nat.zero_le _, Nat.zero_le _⟩ 3 rfl rfl rfl rfl dX0_read_66 (fun H locs hP hD hS => ?_)
        obtain ⟨v14, h_v14, hm⟩ := bd1_inv hm
        refine cVx ⟨hx, hb, hml, hown, hts⟩ (c_X0_join l D cI cJ cS cB a Y_islands Y_ways y5 v11 v13 N v14 h_v14) (cwV 2 hts gX0_read_X0_join rfl rfl rfl hd_X0_join ⟨(Nat.le_of_ble_eq_true rfl), (Nat.le_of_ble_eq_true rfl)⟩) hK hP hD hS hA [0, 3, 4] rfl rfl [o_Y a Y_islands Y_ways, ai (a 8) cI 48 Y_firstOf, ai (a 9) cI 48 Y_secondOf, o_G a , ai (a 21) cI 24 v14, ai (q) cI 48 P] [(true, 0), (false, 1), (false, 2), (true, 1), (true, 2), (false, 5)] rfl rfl rfl hl.1 (Nat.le_of_ble_eq_true rfl) ⟨Nat.zero_le _, Nat.zero_le _⟩ 3 rfl rfl rfl rfl dX0_read_69 (fun H locs hP hD hS => ?_)
        exact h72 y4 v14 hm _ _ hP hD hS ls (lv_sub hl [0, 1, 2] rfl)
  have h23 : ∀ (y3 : Nat → Int32), m_X0_read_j23 N Y_islands Y_ways Y_firstOf Y_secondOf P y3 = some G_leaders' → ∀ (H : Heap) (locs : List Loc), va_P D vwCl [o_Y a Y_islands Y_ways, ai (a 8) cI 48 Y_firstOf, ai (a 9) cI 48 Y_secondOf, o_G a , ai (a 21) cI 24 y3, ai (q) cI 48 P] H → va_D A [o_Y a Y_islands Y_ways, ai (a 8) cI 48 Y_firstOf, ai (a 9) cI 48 Y_secondOf, o_G a , ai (a 21) cI 24 y3, ai (q) cI 48 P] → va_S A s.heap H locs → ∀ ls : Array Slot, lv_has ls 3 [(0, .ref (a 20)), (1, .ref (q))] → W p l e { frames := 2, cells := 0, slots := 0, locals := 47 } s m args below meth c H locs 0 0 (MQ below (eQ D none (fun _ : Unit => [o_Y a Y_islands Y_ways, ai (a 8) cI 48 Y_firstOf, ai (a 9) cI 48 Y_secondOf, o_G a , ai (a 21) cI 24 G_leaders', ai (q) cI 48 P]) A) args s 0 0 A) (F0 m 23 ls []) := by
    intro y3 hm H locs hP hD hS ls hl
    unfold m_X0_read_j23 at hm
    refine lv_iconst (v := 0) hx hb dX0_read_23 (by decide) ?_
    refine lv_istore_n (lv' := [(2, .int 0), (0, .ref (a 20)), (1, .ref (q))]) hx hb dX0_read_24 rfl hl (by decide) rfl (fun ls hl => ?_)
    exact h25  N 0 y3 hm _ _ hP hD hS ls (lv_sub hl [1, 2, 0] rfl)
  have h2 : ∀ (n : Nat) (y1 : Int32) (y2 : Nat → Int32), zl2 (m_X0_read_b2 N Y_islands Y_ways Y_firstOf Y_secondOf P) n y1 y2 = some G_leaders' → ∀ (H : Heap) (locs : List Loc), va_P D vwCl [o_Y a Y_islands Y_ways, ai (a 8) cI 48 Y_firstOf, ai (a 9) cI 48 Y_secondOf, o_G a , ai (a 21) cI 24 y2, ai (q) cI 48 P] H → va_D A [o_Y a Y_islands Y_ways, ai (a 8) cI 48 Y_firstOf, ai (a 9) cI 48 Y_secondOf, o_G a , ai (a 21) cI 24 y2, ai (q) cI 48 P] → va_S A s.heap H locs → ∀ ls : Array Slot, lv_has ls 3 [(0, .ref (a 20)), (1, .ref (q)), (2, .int y1)] → W p l e { frames := 2, cells := 0, slots := 0, locals := 47 } s m args below meth c H locs 0 0 (MQ below (eQ D none (fun _ : Unit => [o_Y a Y_islands Y_ways, ai (a 8) cI 48 Y_firstOf, ai (a 9) cI 48 Y_secondOf, o_G a , ai (a 21) cI 24 G_leaders', ai (q) cI 48 P]) A) args s 0 0 A) (F0 m 2 ls []) := by
    refine zl2_ind (fun rec2 ih2 y1 y2 hm => ?_)
    intro H locs hP hD hS ls hl
    unfold m_X0_read_b2 at hm
    refine lv_iload_n hx hb dX0_read_2 rfl (lv_at hl 2 rfl) ?_
    refine lv_bipush (v := 24) hx hb dX0_read_3 (by decide) ?_
    refine lv_icmp_ge (tgt := 23) hx hb dX0_read_5 (by decide) (fun c5 => ?_) (fun c5 => ?_)
    · have hm := ip c5 hm
      exact h23 y2 hm _ _ hP hD hS ls (lv_sub hl [0, 1] rfl)
    · have hm := ine c5 hm
      refine lv_aload_n hx hb dX0_read_8 rfl (lv_at hl 0 rfl) ?_
      refine va_get (D := D) (ci := 0) (v := .ref (a 21)) (C := RX0) (T := TX0) (N := 2) hx hb hts hiX0 hown hK.1 hP 3 rfl rfl 1 (by decide) (hts (.fieldLink RX0 9 "IslandBridges$Groups" "leaders" "[I") (List.mem_of_getElem? (i := 1) rfl)) (fun _ h9 => h9) rfl dX0_read_9 ?_
      refine lv_iload_n hx hb dX0_read_12 rfl (lv_at hl 2 rfl) ?_
      refine lv_iload_n hx hb dX0_read_13 rfl (lv_at hl 2 rfl) ?_
      obtain ⟨v15, ev15, hm⟩ := lt1_inv hm
      refine cNx ⟨hx, hb, hml, hown, hts⟩ (c_X9_put l D cI cJ cS cB (a 21) 24 (Nat.le_of_ble_eq_true rfl) y2 y1 y1 v15 ev15) ⟨va_cnB 3 hts gX0_read_X9_put_n19 rfl rfl rfl (kn_10 hK) (hts (.initialized RX9) (List.mem_of_getElem? (i := 5) rfl)) hd_X9_put ⟨(Nat.le_of_ble_eq_true rfl), (Nat.le_of_ble_eq_true rfl)⟩, (hts (.static yX9_put) (List.mem_of_getElem? (i := 4) rfl)), trivial⟩ hK hP hD hS hA [4] rfl rfl [o_Y a Y_islands Y_ways, ai (a 8) cI 48 Y_firstOf, ai (a 9) cI 48 Y_secondOf, o_G a , ai (a 21) cI 24 v15, ai (q) cI 48 P] [(false, 0), (false, 1), (false, 2), (false, 3), (true, 0), (false, 5)] rfl rfl rfl hl.1 (Nat.le_of_ble_eq_true rfl) ⟨Nat.zero_le _, Nat.zero_le _⟩ rfl dX0_read_14 (fun H locs hP hD hS => ?_)
      obtain ⟨v16, ev16, hm⟩ := lt1_inv hm
      refine lv_iinc (v := v16) (lv' := [(2, .int v16), (0, .ref (a 20)), (1, .ref (q))]) hx hb dX0_read_17 hl (k := 2) rfl ev16 (by decide) rfl (fun ls hl => ?_)
      refine lv_goto (tgt := 2) hx hb dX0_read_20 (by decide) ?_
      exact ih2 v16 v15 hm _ _ hP hD hS ls (lv_sub hl [1, 2, 0] rfl)
  refine lv_iconst (v := 0) hx hb dX0_read_0 (by decide) ?_
  refine lv_istore_n (lv' := [(2, .int 0), (0, .ref (a 20)), (1, .ref (q))]) hx hb dX0_read_1 rfl hl (by decide) rfl (fun ls hl => ?_)
  exact h2  N 0 G_leaders hm _ _ hP hD hS ls (lv_sub hl [1, 2, 0] rfl)
theorem hd_X0_leadersAheadOf : yX0_leadersAheadOf.cls = RX0 ∧ yX0_leadersAheadOf.cls ≠ "java/lang/invoke/MethodHandle" ∧ yX0_leadersAheadOf.cls ≠ "java/lang/invoke/VarHandle" ∧ (parseMethodDescriptor yX0_leadersAheadOf.desc).map (fun d => d.parameters.length) = some 1 := by decide +kernel
def m_X0_leadersAheadOf_j24 (rec4 : Int32 → Int32 → Option (Int32)) (y4 : Int32) (y5 : Int32) : Option (Int32) :=
  lt1 (y5 + 1) (fun v6 => rec4 y4 v6)
def m_X0_leadersAheadOf_b4 (G_leaders : Nat → Int32) (x1 : Int32) (rec4 : Int32 → Int32 → Option (Int32)) (y1 : Int32) (y2 : Int32) : Option (Int32) :=
  if x1 ≤ y2 then (some y1) else (lt1 (vAt 24 G_leaders y2) (fun v3 => if v3 = y2 then (lt1 (y1 + 1) (fun v7 => m_X0_leadersAheadOf_j24 rec4 v7 y2)) else (m_X0_leadersAheadOf_j24 rec4 y1 y2)))
def m_X0_leadersAheadOf (N : Nat) (G_leaders : Nat → Int32) (x1 : Int32) : Option (Int32) :=
  zl2 (m_X0_leadersAheadOf_b4 G_leaders x1) N 0 0
set_option maxHeartbeats 4000000 in
set_option maxRecDepth 100000 in
theorem c_X0_leadersAheadOf (l : Launch) (D : va_G) (cI cJ cS cB : ClassId) (a : Nat → Nat) (G_leaders : Nat → Int32) (x1 : Int32) (N : Nat) (r0 : Int32) (hm : m_X0_leadersAheadOf N G_leaders x1 = some r0) :
    mU l D (TYs cI cJ cS cB) yX0_leadersAheadOf wsX0_leadersAheadOf { frames := 1, cells := 0, slots := 0, locals := 21 } [.ref (a 20), .int x1] [o_G a , ai (a 21) cI 24 G_leaders] [o_G a , ai (a 21) cI 24 G_leaders] (some (.int r0)) := by
  refine mG_of (cc := cX0_leadersAheadOf) (maxL := 4) (ret := (some .int)) (by decide) rfl rfl (Nat.le_of_ble_eq_true rfl) ?_
  intro p e s m args below meth c A hx hb hr hml hlk hnm hts hown hK hP hD hA hS ls hl
  have hl : lv_has ls 4 [(0, .ref (a 20)), (1, .int x1)] := hl
  have hiX0 : ∀ w ∈ wsX00, w ∈ wsX0_leadersAheadOf := fun w h => List.mem_cons_of_mem _ (List.mem_append_right _ h)
  unfold m_X0_leadersAheadOf at hm
  have h4 : ∀ (n : Nat) (y1 : Int32) (y2 : Int32), zl2 (m_X0_leadersAheadOf_b4 G_leaders x1) n y1 y2 = some r0 → ∀ (H : Heap) (locs : List Loc), va_P D vwCl [o_G a , ai (a 21) cI 24 G_leaders] H → va_D A [o_G a , ai (a 21) cI 24 G_leaders] → va_S A s.heap H locs → ∀ ls : Array Slot, lv_has ls 4 [(0, .ref (a 20)), (1, .int x1), (2, .int y1), (3, .int y2)] → W p l e { frames := 1, cells := 0, slots := 0, locals := 21 } s m args below meth c H locs 0 0 (MQ below (eQ D (some (.int r0)) (fun _ : Unit => [o_G a , ai (a 21) cI 24 G_leaders]) A) args s 0 0 A) (F0 m 4 ls []) := by
    refine zl2_ind (fun rec4 ih4 y1 y2 hm => ?_)
    have h24 : ∀ (y4 : Int32) (y5 : Int32), m_X0_leadersAheadOf_j24 rec4 y4 y5 = some r0 → ∀ (H : Heap) (locs : List Loc), va_P D vwCl [o_G a , ai (a 21) cI 24 G_leaders] H → va_D A [o_G a , ai (a 21) cI 24 G_leaders] → va_S A s.heap H locs → ∀ ls : Array Slot, lv_has ls 4 [(0, .ref (a 20)), (1, .int x1), (2, .int y4), (3, .int y5)] → W p l e { frames := 1, cells := 0, slots := 0, locals := 21 } s m args below meth c H locs 0 0 (MQ below (eQ D (some (.int r0)) (fun _ : Unit => [o_G a , ai (a 21) cI 24 G_leaders]) A) args s 0 0 A) (F0 m 24 ls []) := by
      intro y4 y5 hm H locs hP hD hS ls hl
      unfold m_X0_leadersAheadOf_j24 at hm
      obtain ⟨v6, ev6, hm⟩ := lt1_inv hm
      refine lv_iinc (v := v6) (lv' := [(3, .int v6), (0, .ref (a 20)), (1, .int x1), (2, .int y4)]) hx hb dX0_leadersAheadOf_24 hl (k := 3) rfl ev6 (by decide) rfl (fun ls hl => ?_)
      refine lv_goto (tgt := 4) hx hb dX0_leadersAheadOf_27 (by decide) ?_
      exact ih4 y4 v6 hm _ _ hP hD hS ls (lv_sub hl [1, 2, 3, 0] rfl)
    intro H locs hP hD hS ls hl
    unfold m_X0_leadersAheadOf_b4 at hm
    refine lv_iload_n hx hb dX0_leadersAheadOf_4 rfl (lv_at hl 3 rfl) ?_
    refine lv_iload_n hx hb dX0_leadersAheadOf_5 rfl (lv_at hl 1 rfl) ?_
    refine lv_icmp_ge (tgt := 30) hx hb dX0_leadersAheadOf_6 (by decide) (fun c6 => ?_) (fun c6 => ?_)
    · have hm := ip c6 hm
      refine lv_iload_n hx hb dX0_leadersAheadOf_30 rfl (lv_at hl 2 rfl) ?_
      cases hm
      exact rI () hx hb hr hlk hP hD hS dX0_leadersAheadOf_31
    · have hm := ine c6 hm
      refine lv_aload_n hx hb dX0_leadersAheadOf_9 rfl (lv_at hl 0 rfl) ?_
      refine va_get (D := D) (ci := 0) (v := .ref (a 21)) (C := RX0) (T := TX0) (N := 2) hx hb hts hiX0 hown hK.1 hP 0 rfl rfl 1 (by decide) (hts (.fieldLink RX0 9 "IslandBridges$Groups" "leaders" "[I") (List.mem_of_getElem? (i := 1) rfl)) (fun _ h9 => h9) rfl dX0_leadersAheadOf_10 ?_
      refine lv_iload_n hx hb dX0_leadersAheadOf_13 rfl (lv_at hl 3 rfl) ?_
      obtain ⟨v3, ev3, hm⟩ := lt1_inv hm
      refine cNs ⟨hx, hb, hml, hown, hts⟩ (c_X9_valueAt l D cI cJ cS cB (a 21) 24 (Nat.le_of_ble_eq_true rfl) G_leaders y2 v3 ev3) ⟨va_cnB 2 hts gX0_leadersAheadOf_X9_valueAt_n29 rfl rfl rfl (kn_11 hK) (hts (.initialized RX9) (List.mem_of_getElem? (i := 3) rfl)) hd_X9_valueAt ⟨(Nat.le_of_ble_eq_true rfl), (Nat.le_of_ble_eq_true rfl)⟩, (hts (.static yX9_valueAt) (List.mem_of_getElem? (i := 2) rfl)), trivial⟩ hK hP hD hS hA [1] rfl rfl rfl hl.1 (Nat.le_of_ble_eq_true rfl) ⟨Nat.zero_le _, Nat.zero_le _⟩ rfl dX0_leadersAheadOf_14 (fun H locs hP hD hS => ?_)
      refine lv_iload_n hx hb dX0_leadersAheadOf_17 rfl (lv_at hl 3 rfl) ?_
      refine lv_icmp_ne (tgt := 24) hx hb dX0_leadersAheadOf_18 (by decide) (fun c18 => ?_) (fun c18 => ?_)
      · have hm := ine c18 hm
        exact h24 y1 y2 hm _ _ hP hD hS ls (lv_sub hl [0, 1, 2, 3] rfl)
      · have hm := ip c18 hm
        obtain ⟨v7, ev7, hm⟩ := lt1_inv hm
        refine lv_iinc (v := v7) (lv' := [(2, .int v7), (0, .ref (a 20)), (1, .int x1), (3, .int y2)]) hx hb dX0_leadersAheadOf_21 hl (k := 2) rfl ev7 (by decide) rfl (fun ls hl => ?_)
        exact h24 v7 y2 hm _ _ hP hD hS ls (lv_sub hl [1, 2, 0, 3] rfl)
  refine lv_iconst (v := 0) hx hb dX0_leadersAheadOf_0 (by decide) ?_
  refine lv_istore_n (lv' := [(2, .int 0), (0, .ref (a 20)), (1, .int x1)]) hx hb dX0_leadersAheadOf_1 rfl hl (by decide) rfl (fun ls hl => ?_)
  refine lv_iconst (v := 0) hx hb dX0_leadersAheadOf_2 (by decide) ?_
  refine lv_istore_n (lv' := [(3, .int 0), (2, .int 0), (0, .ref (a 20)), (1, .int x1)]) hx hb dX0_leadersAheadOf_3 rfl hl (by decide) rfl (fun ls hl => ?_)
  exact h4  N 0 0 hm _ _ hP hD hS ls (lv_sub hl [2, 3, 1, 0] rfl)
theorem hd_X0_total : yX0_total.cls = RX0 ∧ yX0_total.cls ≠ "java/lang/invoke/MethodHandle" ∧ yX0_total.cls ≠ "java/lang/invoke/VarHandle" ∧ (parseMethodDescriptor yX0_total.desc).map (fun d => d.parameters.length) = some 0 := by decide +kernel
def m_X0_total (N : Nat) (Y_islands : Int32) (G_leaders : Nat → Int32) : Option (Int32) :=
  bd1 (m_X0_leadersAheadOf N G_leaders Y_islands) (fun v1 => some v1)
set_option maxHeartbeats 4000000 in
set_option maxRecDepth 100000 in
theorem c_X0_total (l : Launch) (D : va_G) (cI cJ cS cB : ClassId) (a : Nat → Nat) (Y_islands : Int32) (Y_ways : Int32) (G_leaders : Nat → Int32)  (N : Nat) (r0 : Int32) (hm : m_X0_total N Y_islands G_leaders = some r0) :
    mU l D (TYs cI cJ cS cB) yX0_total wsX0_total { frames := 2, cells := 0, slots := 0, locals := 44 } [.ref (a 20)] [o_Y a Y_islands Y_ways, o_G a , ai (a 21) cI 24 G_leaders] [o_Y a Y_islands Y_ways, o_G a , ai (a 21) cI 24 G_leaders] (some (.int r0)) := by
  refine mG_of (cc := cX0_total) (maxL := 1) (ret := (some .int)) (by decide) rfl rfl (Nat.le_of_ble_eq_true rfl) ?_
  intro p e s m args below meth c A hx hb hr hml hlk hnm hts hown hK hP hD hA hS ls hl
  have hl : lv_has ls 1 [(0, .ref (a 20))] := hl
  have hiX0 : ∀ w ∈ wsX00, w ∈ wsX0_total := fun w h => List.mem_cons_of_mem _ (List.mem_append_left _ (List.mem_append_right _ h))
  have hiX2 : ∀ w ∈ wsX20, w ∈ wsX0_total := fun w h => List.mem_cons_of_mem _ (List.mem_append_right _ h)
  unfold m_X0_total at hm
  refine lv_aload_n hx hb dX0_total_0 rfl (lv_at hl 0 rfl) ?_
  refine lv_aload_n hx hb dX0_total_1 rfl (lv_at hl 0 rfl) ?_
  refine va_get (D := D) (ci := 0) (v := .ref (a 5)) (C := RX0) (T := TX0) (N := 2) hx hb hts hiX0 hown hK.1 hP 1 rfl rfl 0 (by decide) (hts (.fieldLink RX0 15 "IslandBridges$Groups" "layout" "LIslandBridges$Layout;") (List.mem_of_getElem? (i := 1) rfl)) (fun _ h9 => h9) rfl dX0_total_2 ?_
  refine va_get (D := D) (ci := 2) (v := .int Y_islands) (C := RX2) (T := TX2) (N := 11) hx hb hts hiX2 hown hK.1 hP 0 rfl rfl 9 (by decide) (hts (.fieldLink RX0 56 "IslandBridges$Layout" "islands" "I") (List.mem_of_getElem? (i := 2) rfl)) (fun _ h9 => h9) rfl dX0_total_5 ?_
  obtain ⟨v1, h_v1, hm⟩ := bd1_inv hm
  refine cVs ⟨hx, hb, hml, hown, hts⟩ (c_X0_leadersAheadOf l D cI cJ cS cB a G_leaders Y_islands N v1 h_v1) (cwV 1 hts gX0_total_X0_leadersAheadOf rfl rfl rfl hd_X0_leadersAheadOf ⟨(Nat.le_of_ble_eq_true rfl), (Nat.le_of_ble_eq_true rfl)⟩) hK hP hD hS hA [1, 2] rfl rfl rfl hl.1 (Nat.le_of_ble_eq_true rfl) ⟨Nat.zero_le _, Nat.zero_le _⟩ 1 rfl rfl rfl rfl dX0_total_8 (fun H locs hP hD hS => ?_)
  cases hm
  exact rI () hx hb hr hlk hP hD hS dX0_total_11
theorem hd_X0_numberOf : yX0_numberOf.cls = RX0 ∧ yX0_numberOf.cls ≠ "java/lang/invoke/MethodHandle" ∧ yX0_numberOf.cls ≠ "java/lang/invoke/VarHandle" ∧ (parseMethodDescriptor yX0_numberOf.desc).map (fun d => d.parameters.length) = some 1 := by decide +kernel
def m_X0_numberOf (N : Nat) (G_leaders : Nat → Int32) (x1 : Int32) : Option (Int32) :=
  lt1 (m_X0_leader G_leaders x1) (fun v1 => bd1 (m_X0_leadersAheadOf N G_leaders v1) (fun v2 => some v2))
set_option maxHeartbeats 4000000 in
set_option maxRecDepth 100000 in
theorem c_X0_numberOf (l : Launch) (D : va_G) (cI cJ cS cB : ClassId) (a : Nat → Nat) (G_leaders : Nat → Int32) (x1 : Int32) (N : Nat) (r0 : Int32) (hm : m_X0_numberOf N G_leaders x1 = some r0) :
    mU l D (TYs cI cJ cS cB) yX0_numberOf wsX0_numberOf { frames := 2, cells := 0, slots := 0, locals := 44 } [.ref (a 20), .int x1] [o_G a , ai (a 21) cI 24 G_leaders] [o_G a , ai (a 21) cI 24 G_leaders] (some (.int r0)) := by
  refine mG_of (cc := cX0_numberOf) (maxL := 2) (ret := (some .int)) (by decide) rfl rfl (Nat.le_of_ble_eq_true rfl) ?_
  intro p e s m args below meth c A hx hb hr hml hlk hnm hts hown hK hP hD hA hS ls hl
  have hl : lv_has ls 2 [(0, .ref (a 20)), (1, .int x1)] := hl
  have hiX0 : ∀ w ∈ wsX00, w ∈ wsX0_numberOf := fun w h => List.mem_cons_of_mem _ (List.mem_append_right _ h)
  unfold m_X0_numberOf at hm
  refine lv_aload_n hx hb dX0_numberOf_0 rfl (lv_at hl 0 rfl) ?_
  refine lv_aload_n hx hb dX0_numberOf_1 rfl (lv_at hl 0 rfl) ?_
  refine lv_iload_n hx hb dX0_numberOf_2 rfl (lv_at hl 1 rfl) ?_
  obtain ⟨v1, h_v1, hm⟩ := lt1_inv hm
  refine cVs ⟨hx, hb, hml, hown, hts⟩ (c_X0_leader l D cI cJ cS cB a G_leaders x1 v1 h_v1) (cwV 1 hts gX0_numberOf_X0_leader rfl rfl rfl hd_X0_leader ⟨(Nat.le_of_ble_eq_true rfl), (Nat.le_of_ble_eq_true rfl)⟩) hK hP hD hS hA [0, 1] rfl rfl rfl hl.1 (Nat.le_of_ble_eq_true rfl) ⟨Nat.zero_le _, Nat.zero_le _⟩ 0 rfl rfl rfl rfl dX0_numberOf_3 (fun H locs hP hD hS => ?_)
  obtain ⟨v2, h_v2, hm⟩ := bd1_inv hm
  refine cVs ⟨hx, hb, hml, hown, hts⟩ (c_X0_leadersAheadOf l D cI cJ cS cB a G_leaders v1 N v2 h_v2) (cwV 1 hts gX0_numberOf_X0_leadersAheadOf rfl rfl rfl hd_X0_leadersAheadOf ⟨(Nat.le_of_ble_eq_true rfl), (Nat.le_of_ble_eq_true rfl)⟩) hK hP hD hS hA [0, 1] rfl rfl rfl hl.1 (Nat.le_of_ble_eq_true rfl) ⟨Nat.zero_le _, Nat.zero_le _⟩ 0 rfl rfl rfl rfl dX0_numberOf_6 (fun H locs hP hD hS => ?_)
  cases hm
  exact rI () hx hb hr hlk hP hD hS dX0_numberOf_9
theorem hd_X6_becomeLike : yX6_becomeLike.cls = RX6 ∧ yX6_becomeLike.cls ≠ "java/lang/invoke/MethodHandle" ∧ yX6_becomeLike.cls ≠ "java/lang/invoke/VarHandle" ∧ (parseMethodDescriptor yX6_becomeLike.desc).map (fun d => d.parameters.length) = some 1 := by decide +kernel
def m_X6_becomeLike (S_numbers : Nat → Int32) (S_bridges : Nat → Int32) (S_caps : Nat → Int32) (O_columns : Int32) (O_rows : Int32) (O_grade : Int32) (O_stepsMade : Int32) (O_numbers : Nat → Int32) (O_bridges : Nat → Int32) (O_caps : Nat → Int32) : Int32 × Int32 × Int32 × Int32 × (Nat → Int32) × (Nat → Int32) × (Nat → Int32) :=
  lt1 (cpN 144 O_numbers S_numbers) (fun v1 => lt1 (cpN 48 O_bridges S_bridges) (fun v2 => lt1 (cpN 48 O_caps S_caps) (fun v3 => (O_columns, O_rows, O_grade, O_stepsMade, v1, v2, v3))))
set_option maxHeartbeats 4000000 in
set_option maxRecDepth 100000 in
theorem c_X6_becomeLike (l : Launch) (D : va_G) (cI cJ cS cB : ClassId) (a : Nat → Nat) (o : Nat → Nat) (S_columns : Int32) (S_rows : Int32) (S_grade : Int32) (S_stepsMade : Int32) (S_numbers : Nat → Int32) (S_bridges : Nat → Int32) (S_caps : Nat → Int32) (O_columns : Int32) (O_rows : Int32) (O_grade : Int32) (O_stepsMade : Int32) (O_numbers : Nat → Int32) (O_bridges : Nat → Int32) (O_caps : Nat → Int32)  (S_columns' : Int32) (S_rows' : Int32) (S_grade' : Int32) (S_stepsMade' : Int32) (S_numbers' : Nat → Int32) (S_bridges' : Nat → Int32) (S_caps' : Nat → Int32) (hm : m_X6_becomeLike S_numbers S_bridges S_caps O_columns O_rows O_grade O_stepsMade O_numbers O_bridges O_caps = (S_columns', S_rows', S_grade', S_stepsMade', S_numbers', S_bridges', S_caps')) :
    mU l D (TYs cI cJ cS cB) yX6_becomeLike wsX6_becomeLike { frames := 1, cells := 0, slots := 0, locals := 80 } [.ref (a 1), .ref (o 0)] [o_S a S_columns S_rows S_grade S_stepsMade, ai (a 2) cI 144 S_numbers, ai (a 3) cI 48 S_bridges, ai (a 4) cI 48 S_caps, o_O o O_columns O_rows O_grade O_stepsMade, ai (o 1) cI 144 O_numbers, ai (o 2) cI 48 O_bridges, ai (o 3) cI 48 O_caps] [o_S a S_columns' S_rows' S_grade' S_stepsMade', ai (a 2) cI 144 S_numbers', ai (a 3) cI 48 S_bridges', ai (a 4) cI 48 S_caps', o_O o O_columns O_rows O_grade O_stepsMade, ai (o 1) cI 144 O_numbers, ai (o 2) cI 48 O_bridges, ai (o 3) cI 48 O_caps] none := by
  refine mG_of (cc := cX6_becomeLike) (maxL := 2) (ret := none) (by decide) rfl rfl (Nat.le_of_ble_eq_true rfl) ?_
  intro p e s m args below meth c A hx hb hr hml hlk hnm hts hown hK hP hD hA hS ls hl
  have hl : lv_has ls 2 [(0, .ref (a 1)), (1, .ref (o 0))] := hl
  have hiX6 : ∀ w ∈ wsX60, w ∈ wsX6_becomeLike := fun w h => List.mem_cons_of_mem _ (List.mem_append_right _ h)
  unfold m_X6_becomeLike at hm
  refine lv_aload_n hx hb dX6_becomeLike_0 rfl (lv_at hl 0 rfl) ?_
  refine lv_aload_n hx hb dX6_becomeLike_1 rfl (lv_at hl 1 rfl) ?_
  refine va_get (D := D) (ci := 6) (v := .int O_columns) (C := RX6) (T := TX6) (N := 7) hx hb hts hiX6 hown hK.1 hP 4 rfl rfl 3 (by decide) (hts (.fieldLink RX6 25 "IslandBridges$State" "columns" "I") (List.mem_of_getElem? (i := 1) rfl)) (fun _ h9 => h9) rfl dX6_becomeLike_2 ?_
  refine va_put (D := D) (ci := 6) (v := .int O_columns) (ty := .int) (C := RX6) (T := TX6) (N := 7) hx hb hts hiX6 tyX6 tyX6_ok nmX6 hown hK.1 hP hD hS 0 rfl rfl 3 (by decide) (hts (.fieldLink RX6 25 "IslandBridges$State" "columns" "I") (List.mem_of_getElem? (i := 1) rfl)) (fun _ h9 => h9) rfl (by decide +kernel) rfl rfl (Nat.le_of_ble_eq_true rfl) dX6_becomeLike_5 (fun H locs hP hD hS => ?_)
  have hP : va_P D vwCl [o_S a O_columns S_rows S_grade S_stepsMade, ai (a 2) cI 144 S_numbers, ai (a 3) cI 48 S_bridges, ai (a 4) cI 48 S_caps, o_O o O_columns O_rows O_grade O_stepsMade, ai (o 1) cI 144 O_numbers, ai (o 2) cI 48 O_bridges, ai (o 3) cI 48 O_caps] H := hP
  have hD : va_D A [o_S a O_columns S_rows S_grade S_stepsMade, ai (a 2) cI 144 S_numbers, ai (a 3) cI 48 S_bridges, ai (a 4) cI 48 S_caps, o_O o O_columns O_rows O_grade O_stepsMade, ai (o 1) cI 144 O_numbers, ai (o 2) cI 48 O_bridges, ai (o 3) cI 48 O_caps] := hD
  refine lv_aload_n hx hb dX6_becomeLike_8 rfl (lv_at hl 0 rfl) ?_
  refine lv_aload_n hx hb dX6_becomeLike_9 rfl (lv_at hl 1 rfl) ?_
  refine va_get (D := D) (ci := 6) (v := .int O_rows) (C := RX6) (T := TX6) (N := 7) hx hb hts hiX6 hown hK.1 hP 4 rfl rfl 4 (by decide) (hts (.fieldLink RX6 29 "IslandBridges$State" "rows" "I") (List.mem_of_getElem? (i := 2) rfl)) (fun _ h9 => h9) rfl dX6_becomeLike_10 ?_
  refine va_put (D := D) (ci := 6) (v := .int O_rows) (ty := .int) (C := RX6) (T := TX6) (N := 7) hx hb hts hiX6 tyX6 tyX6_ok nmX6 hown hK.1 hP hD hS 0 rfl rfl 4 (by decide) (hts (.fieldLink RX6 29 "IslandBridges$State" "rows" "I") (List.mem_of_getElem? (i := 2) rfl)) (fun _ h9 => h9) rfl (by decide +kernel) rfl rfl (Nat.le_of_ble_eq_true rfl) dX6_becomeLike_13 (fun H locs hP hD hS => ?_)
  have hP : va_P D vwCl [o_S a O_columns O_rows S_grade S_stepsMade, ai (a 2) cI 144 S_numbers, ai (a 3) cI 48 S_bridges, ai (a 4) cI 48 S_caps, o_O o O_columns O_rows O_grade O_stepsMade, ai (o 1) cI 144 O_numbers, ai (o 2) cI 48 O_bridges, ai (o 3) cI 48 O_caps] H := hP
  have hD : va_D A [o_S a O_columns O_rows S_grade S_stepsMade, ai (a 2) cI 144 S_numbers, ai (a 3) cI 48 S_bridges, ai (a 4) cI 48 S_caps, o_O o O_columns O_rows O_grade O_stepsMade, ai (o 1) cI 144 O_numbers, ai (o 2) cI 48 O_bridges, ai (o 3) cI 48 O_caps] := hD
  refine lv_aload_n hx hb dX6_becomeLike_16 rfl (lv_at hl 0 rfl) ?_
  refine lv_aload_n hx hb dX6_becomeLike_17 rfl (lv_at hl 1 rfl) ?_
  refine va_get (D := D) (ci := 6) (v := .int O_grade) (C := RX6) (T := TX6) (N := 7) hx hb hts hiX6 hown hK.1 hP 4 rfl rfl 5 (by decide) (hts (.fieldLink RX6 39 "IslandBridges$State" "grade" "I") (List.mem_of_getElem? (i := 3) rfl)) (fun _ h9 => h9) rfl dX6_becomeLike_18 ?_
  refine va_put (D := D) (ci := 6) (v := .int O_grade) (ty := .int) (C := RX6) (T := TX6) (N := 7) hx hb hts hiX6 tyX6 tyX6_ok nmX6 hown hK.1 hP hD hS 0 rfl rfl 5 (by decide) (hts (.fieldLink RX6 39 "IslandBridges$State" "grade" "I") (List.mem_of_getElem? (i := 3) rfl)) (fun _ h9 => h9) rfl (by decide +kernel) rfl rfl (Nat.le_of_ble_eq_true rfl) dX6_becomeLike_21 (fun H locs hP hD hS => ?_)
  have hP : va_P D vwCl [o_S a O_columns O_rows O_grade S_stepsMade, ai (a 2) cI 144 S_numbers, ai (a 3) cI 48 S_bridges, ai (a 4) cI 48 S_caps, o_O o O_columns O_rows O_grade O_stepsMade, ai (o 1) cI 144 O_numbers, ai (o 2) cI 48 O_bridges, ai (o 3) cI 48 O_caps] H := hP
  have hD : va_D A [o_S a O_columns O_rows O_grade S_stepsMade, ai (a 2) cI 144 S_numbers, ai (a 3) cI 48 S_bridges, ai (a 4) cI 48 S_caps, o_O o O_columns O_rows O_grade O_stepsMade, ai (o 1) cI 144 O_numbers, ai (o 2) cI 48 O_bridges, ai (o 3) cI 48 O_caps] := hD
  refine lv_aload_n hx hb dX6_becomeLike_24 rfl (lv_at hl 0 rfl) ?_
  refine lv_aload_n hx hb dX6_becomeLike_25 rfl (lv_at hl 1 rfl) ?_
  refine va_get (D := D) (ci := 6) (v := .int O_stepsMade) (C := RX6) (T := TX6) (N := 7) hx hb hts hiX6 hown hK.1 hP 4 rfl rfl 6 (by decide) (hts (.fieldLink RX6 42 "IslandBridges$State" "stepsMade" "I") (List.mem_of_getElem? (i := 4) rfl)) (fun _ h9 => h9) rfl dX6_becomeLike_26 ?_
  refine va_put (D := D) (ci := 6) (v := .int O_stepsMade) (ty := .int) (C := RX6) (T := TX6) (N := 7) hx hb hts hiX6 tyX6 tyX6_ok nmX6 hown hK.1 hP hD hS 0 rfl rfl 6 (by decide) (hts (.fieldLink RX6 42 "IslandBridges$State" "stepsMade" "I") (List.mem_of_getElem? (i := 4) rfl)) (fun _ h9 => h9) rfl (by decide +kernel) rfl rfl (Nat.le_of_ble_eq_true rfl) dX6_becomeLike_29 (fun H locs hP hD hS => ?_)
  have hP : va_P D vwCl [o_S a O_columns O_rows O_grade O_stepsMade, ai (a 2) cI 144 S_numbers, ai (a 3) cI 48 S_bridges, ai (a 4) cI 48 S_caps, o_O o O_columns O_rows O_grade O_stepsMade, ai (o 1) cI 144 O_numbers, ai (o 2) cI 48 O_bridges, ai (o 3) cI 48 O_caps] H := hP
  have hD : va_D A [o_S a O_columns O_rows O_grade O_stepsMade, ai (a 2) cI 144 S_numbers, ai (a 3) cI 48 S_bridges, ai (a 4) cI 48 S_caps, o_O o O_columns O_rows O_grade O_stepsMade, ai (o 1) cI 144 O_numbers, ai (o 2) cI 48 O_bridges, ai (o 3) cI 48 O_caps] := hD
  refine lv_aload_n hx hb dX6_becomeLike_32 rfl (lv_at hl 1 rfl) ?_
  refine va_get (D := D) (ci := 6) (v := .ref (o 1)) (C := RX6) (T := TX6) (N := 7) hx hb hts hiX6 hown hK.1 hP 4 rfl rfl 0 (by decide) (hts (.fieldLink RX6 9 "IslandBridges$State" "numbers" "[I") (List.mem_of_getElem? (i := 5) rfl)) (fun _ h9 => h9) rfl dX6_becomeLike_33 ?_
  refine lv_iconst (v := 0) hx hb dX6_becomeLike_36 (by decide) ?_
  refine lv_aload_n hx hb dX6_becomeLike_37 rfl (lv_at hl 0 rfl) ?_
  refine va_get (D := D) (ci := 6) (v := .ref (a 2)) (C := RX6) (T := TX6) (N := 7) hx hb hts hiX6 hown hK.1 hP 0 rfl rfl 0 (by decide) (hts (.fieldLink RX6 9 "IslandBridges$State" "numbers" "[I") (List.mem_of_getElem? (i := 5) rfl)) (fun _ h9 => h9) rfl dX6_becomeLike_38 ?_
  refine lv_iconst (v := 0) hx hb dX6_becomeLike_41 (by decide) ?_
  refine lv_sipush (v := 144) hx hb dX6_becomeLike_42 (by decide) ?_
  obtain ⟨v1, ev1, hm⟩ := lt1_inv hm
  refine va_copyi hx hb (hml.trans hl.1.symm) hown (hts (.methodLink RX6 45 arraycopyName) (List.mem_of_getElem? (i := 6) rfl)) (hts (.native arraycopyName) (List.mem_of_getElem? (i := 7) rfl)) (hts (.static arraycopyName) (List.mem_of_getElem? (i := 8) rfl)) (hts (.initialized "java/lang/System") (List.mem_of_getElem? (i := 9) rfl)) hK.1 hP hD hS 5 1 0 0 rfl rfl rfl rfl rfl (by decide) (by decide) (by decide) (by decide) (by decide) (fun _ _ => rfl) (Nat.le_of_ble_eq_true rfl) (by decide) dX6_becomeLike_45 (fun H locs hP hD hS => ?_)
  have hP : va_P D vwCl [o_S a O_columns O_rows O_grade O_stepsMade, ai (a 2) cI 144 v1, ai (a 3) cI 48 S_bridges, ai (a 4) cI 48 S_caps, o_O o O_columns O_rows O_grade O_stepsMade, ai (o 1) cI 144 O_numbers, ai (o 2) cI 48 O_bridges, ai (o 3) cI 48 O_caps] H := by rw [← ev1]; exact hP
  have hD : va_D A [o_S a O_columns O_rows O_grade O_stepsMade, ai (a 2) cI 144 v1, ai (a 3) cI 48 S_bridges, ai (a 4) cI 48 S_caps, o_O o O_columns O_rows O_grade O_stepsMade, ai (o 1) cI 144 O_numbers, ai (o 2) cI 48 O_bridges, ai (o 3) cI 48 O_caps] := by rw [← ev1]; exact hD
  refine lv_aload_n hx hb dX6_becomeLike_48 rfl (lv_at hl 1 rfl) ?_
  refine va_get (D := D) (ci := 6) (v := .ref (o 2)) (C := RX6) (T := TX6) (N := 7) hx hb hts hiX6 hown hK.1 hP 4 rfl rfl 1 (by decide) (hts (.fieldLink RX6 15 "IslandBridges$State" "bridges" "[I") (List.mem_of_getElem? (i := 10) rfl)) (fun _ h9 => h9) rfl dX6_becomeLike_49 ?_
  refine lv_iconst (v := 0) hx hb dX6_becomeLike_52 (by decide) ?_
  refine lv_aload_n hx hb dX6_becomeLike_53 rfl (lv_at hl 0 rfl) ?_
  refine va_get (D := D) (ci := 6) (v := .ref (a 3)) (C := RX6) (T := TX6) (N := 7) hx hb hts hiX6 hown hK.1 hP 0 rfl rfl 1 (by decide) (hts (.fieldLink RX6 15 "IslandBridges$State" "bridges" "[I") (List.mem_of_getElem? (i := 10) rfl)) (fun _ h9 => h9) rfl dX6_becomeLike_54 ?_
  refine lv_iconst (v := 0) hx hb dX6_becomeLike_57 (by decide) ?_
  refine lv_bipush (v := 48) hx hb dX6_becomeLike_58 (by decide) ?_
  obtain ⟨v2, ev2, hm⟩ := lt1_inv hm
  refine va_copyi hx hb (hml.trans hl.1.symm) hown (hts (.methodLink RX6 45 arraycopyName) (List.mem_of_getElem? (i := 6) rfl)) (hts (.native arraycopyName) (List.mem_of_getElem? (i := 7) rfl)) (hts (.static arraycopyName) (List.mem_of_getElem? (i := 8) rfl)) (hts (.initialized "java/lang/System") (List.mem_of_getElem? (i := 9) rfl)) hK.1 hP hD hS 6 2 0 0 rfl rfl rfl rfl rfl (by decide) (by decide) (by decide) (by decide) (by decide) (fun _ _ => rfl) (Nat.le_of_ble_eq_true rfl) (by decide) dX6_becomeLike_60 (fun H locs hP hD hS => ?_)
  have hP : va_P D vwCl [o_S a O_columns O_rows O_grade O_stepsMade, ai (a 2) cI 144 v1, ai (a 3) cI 48 v2, ai (a 4) cI 48 S_caps, o_O o O_columns O_rows O_grade O_stepsMade, ai (o 1) cI 144 O_numbers, ai (o 2) cI 48 O_bridges, ai (o 3) cI 48 O_caps] H := by rw [← ev2]; exact hP
  have hD : va_D A [o_S a O_columns O_rows O_grade O_stepsMade, ai (a 2) cI 144 v1, ai (a 3) cI 48 v2, ai (a 4) cI 48 S_caps, o_O o O_columns O_rows O_grade O_stepsMade, ai (o 1) cI 144 O_numbers, ai (o 2) cI 48 O_bridges, ai (o 3) cI 48 O_caps] := by rw [← ev2]; exact hD
  refine lv_aload_n hx hb dX6_becomeLike_63 rfl (lv_at hl 1 rfl) ?_
  refine va_get (D := D) (ci := 6) (v := .ref (o 3)) (C := RX6) (T := TX6) (N := 7) hx hb hts hiX6 hown hK.1 hP 4 rfl rfl 2 (by decide) (hts (.fieldLink RX6 18 "IslandBridges$State" "caps" "[I") (List.mem_of_getElem? (i := 11) rfl)) (fun _ h9 => h9) rfl dX6_becomeLike_64 ?_
  refine lv_iconst (v := 0) hx hb dX6_becomeLike_67 (by decide) ?_
  refine lv_aload_n hx hb dX6_becomeLike_68 rfl (lv_at hl 0 rfl) ?_
  refine va_get (D := D) (ci := 6) (v := .ref (a 4)) (C := RX6) (T := TX6) (N := 7) hx hb hts hiX6 hown hK.1 hP 0 rfl rfl 2 (by decide) (hts (.fieldLink RX6 18 "IslandBridges$State" "caps" "[I") (List.mem_of_getElem? (i := 11) rfl)) (fun _ h9 => h9) rfl dX6_becomeLike_69 ?_
  refine lv_iconst (v := 0) hx hb dX6_becomeLike_72 (by decide) ?_
  refine lv_bipush (v := 48) hx hb dX6_becomeLike_73 (by decide) ?_
  obtain ⟨v3, ev3, hm⟩ := lt1_inv hm
  refine va_copyi hx hb (hml.trans hl.1.symm) hown (hts (.methodLink RX6 45 arraycopyName) (List.mem_of_getElem? (i := 6) rfl)) (hts (.native arraycopyName) (List.mem_of_getElem? (i := 7) rfl)) (hts (.static arraycopyName) (List.mem_of_getElem? (i := 8) rfl)) (hts (.initialized "java/lang/System") (List.mem_of_getElem? (i := 9) rfl)) hK.1 hP hD hS 7 3 0 0 rfl rfl rfl rfl rfl (by decide) (by decide) (by decide) (by decide) (by decide) (fun _ _ => rfl) (Nat.le_of_ble_eq_true rfl) (by decide) dX6_becomeLike_75 (fun H locs hP hD hS => ?_)
  have hP : va_P D vwCl [o_S a O_columns O_rows O_grade O_stepsMade, ai (a 2) cI 144 v1, ai (a 3) cI 48 v2, ai (a 4) cI 48 v3, o_O o O_columns O_rows O_grade O_stepsMade, ai (o 1) cI 144 O_numbers, ai (o 2) cI 48 O_bridges, ai (o 3) cI 48 O_caps] H := by rw [← ev3]; exact hP
  have hD : va_D A [o_S a O_columns O_rows O_grade O_stepsMade, ai (a 2) cI 144 v1, ai (a 3) cI 48 v2, ai (a 4) cI 48 v3, o_O o O_columns O_rows O_grade O_stepsMade, ai (o 1) cI 144 O_numbers, ai (o 2) cI 48 O_bridges, ai (o 3) cI 48 O_caps] := by rw [← ev3]; exact hD
  cases hm
  exact rV () hx hb hr hlk hP hD hS dX6_becomeLike_78
theorem hd_X6_cells : yX6_cells.cls = RX6 ∧ yX6_cells.cls ≠ "java/lang/invoke/MethodHandle" ∧ yX6_cells.cls ≠ "java/lang/invoke/VarHandle" ∧ (parseMethodDescriptor yX6_cells.desc).map (fun d => d.parameters.length) = some 0 := by decide +kernel
def m_X6_cells (S_columns : Int32) (S_rows : Int32) : Int32 :=
  S_columns * S_rows
set_option maxHeartbeats 4000000 in
set_option maxRecDepth 100000 in
theorem c_X6_cells (l : Launch) (D : va_G) (cI cJ cS cB : ClassId) (a : Nat → Nat) (S_columns : Int32) (S_rows : Int32) (S_grade : Int32) (S_stepsMade : Int32)  (r0 : Int32) (hm : m_X6_cells S_columns S_rows = r0) :
    mU l D (TYs cI cJ cS cB) yX6_cells wsX6_cells { frames := 0, cells := 0, slots := 0, locals := 0 } [.ref (a 1)] [o_S a S_columns S_rows S_grade S_stepsMade] [o_S a S_columns S_rows S_grade S_stepsMade] (some (.int r0)) := by
  refine mG_of (cc := cX6_cells) (maxL := 1) (ret := (some .int)) (by decide) rfl rfl (Nat.le_of_ble_eq_true rfl) ?_
  intro p e s m args below meth c A hx hb hr hml hlk hnm hts hown hK hP hD hA hS ls hl
  have hl : lv_has ls 1 [(0, .ref (a 1))] := hl
  have hiX6 : ∀ w ∈ wsX60, w ∈ wsX6_cells := fun w h => List.mem_cons_of_mem _ (List.mem_append_right _ h)
  unfold m_X6_cells at hm
  refine lv_aload_n hx hb dX6_cells_0 rfl (lv_at hl 0 rfl) ?_
  refine va_get (D := D) (ci := 6) (v := .int S_columns) (C := RX6) (T := TX6) (N := 7) hx hb hts hiX6 hown hK.1 hP 0 rfl rfl 3 (by decide) (hts (.fieldLink RX6 25 "IslandBridges$State" "columns" "I") (List.mem_of_getElem? (i := 1) rfl)) (fun _ h9 => h9) rfl dX6_cells_1 ?_
  refine lv_aload_n hx hb dX6_cells_4 rfl (lv_at hl 0 rfl) ?_
  refine va_get (D := D) (ci := 6) (v := .int S_rows) (C := RX6) (T := TX6) (N := 7) hx hb hts hiX6 hown hK.1 hP 0 rfl rfl 4 (by decide) (hts (.fieldLink RX6 29 "IslandBridges$State" "rows" "I") (List.mem_of_getElem? (i := 2) rfl)) (fun _ h9 => h9) rfl dX6_cells_5 ?_
  refine lv_imul hx hb dX6_cells_8 ?_
  cases hm
  exact rI () hx hb hr hlk hP hD hS dX6_cells_9
theorem hd_X2_readIslands : yX2_readIslands.cls = RX2 ∧ yX2_readIslands.cls ≠ "java/lang/invoke/MethodHandle" ∧ yX2_readIslands.cls ≠ "java/lang/invoke/VarHandle" ∧ (parseMethodDescriptor yX2_readIslands.desc).map (fun d => d.parameters.length) = some 1 := by decide +kernel
def m_X2_readIslands_j108 (rec12 : Int32 → Int32 → (Nat → Int32) → (Nat → Int32) → (Nat → Int32) → Option (Int32 × (Nat → Int32) × (Nat → Int32) × (Nat → Int32))) (y25 : Int32) (y26 : Int32) (y27 : Nat → Int32) (y28 : Nat → Int32) (y29 : Nat → Int32) (y30 : Int32) (y31 : Int32) : Option (Int32 × (Nat → Int32) × (Nat → Int32) × (Nat → Int32)) :=
  lt1 (vPut 144 y28 y30 y31) (fun v32 => lt1 (y25 + 1) (fun v33 => rec12 v33 y26 y27 v32 y29))
def m_X2_readIslands_j90 (rec12 : Int32 → Int32 → (Nat → Int32) → (Nat → Int32) → (Nat → Int32) → Option (Int32 × (Nat → Int32) × (Nat → Int32) × (Nat → Int32))) (y19 : Int32) (y20 : Int32) (y21 : Int32) (y22 : Nat → Int32) (y23 : Nat → Int32) (y24 : Nat → Int32) : Option (Int32 × (Nat → Int32) × (Nat → Int32) × (Nat → Int32)) :=
  if y20 = 0 then (m_X2_readIslands_j108 rec12 y19 y21 y22 y23 y24 y19 0) else (m_X2_readIslands_j108 rec12 y19 y21 y22 y23 y24 y19 y21)
def m_X2_readIslands_j49 (rec12 : Int32 → Int32 → (Nat → Int32) → (Nat → Int32) → (Nat → Int32) → Option (Int32 × (Nat → Int32) × (Nat → Int32) × (Nat → Int32))) (y13 : Int32) (y14 : Int32) (y15 : Nat → Int32) (y16 : Nat → Int32) (y17 : Nat → Int32) (y18 : Int32) : Option (Int32 × (Nat → Int32) × (Nat → Int32) × (Nat → Int32)) :=
  if y18 = 0 then (m_X2_readIslands_j90 rec12 y13 y18 y14 y15 y16 y17) else (lt1 (vPut 24 y15 y14 y13) (fun v34 => lt1 (vPut 24 y17 y14 0) (fun v35 => lt1 (y14 + 1) (fun v36 => m_X2_readIslands_j90 rec12 y13 y18 v36 v34 y16 v35))))
def m_X2_readIslands_j48 (rec12 : Int32 → Int32 → (Nat → Int32) → (Nat → Int32) → (Nat → Int32) → Option (Int32 × (Nat → Int32) × (Nat → Int32) × (Nat → Int32))) (y8 : Int32) (y9 : Int32) (y10 : Nat → Int32) (y11 : Nat → Int32) (y12 : Nat → Int32) : Option (Int32 × (Nat → Int32) × (Nat → Int32) × (Nat → Int32)) :=
  m_X2_readIslands_j49 rec12 y8 y9 y10 y11 y12 0
def m_X2_readIslands_b12 (S_numbers : Nat → Int32) (y2 : Int32) (rec12 : Int32 → Int32 → (Nat → Int32) → (Nat → Int32) → (Nat → Int32) → Option (Int32 × (Nat → Int32) × (Nat → Int32) × (Nat → Int32))) (y3 : Int32) (y4 : Int32) (y5 : Nat → Int32) (y6 : Nat → Int32) (y7 : Nat → Int32) : Option (Int32 × (Nat → Int32) × (Nat → Int32) × (Nat → Int32)) :=
  if 144 ≤ y3 then (some ((y4, y5, y6, y7))) else (if y2 ≤ y3 then (m_X2_readIslands_j48 rec12 y3 y4 y5 y6 y7) else (lt1 (vAt 144 S_numbers y3) (fun v37 => if v37 ≤ 0 then (m_X2_readIslands_j48 rec12 y3 y4 y5 y6 y7) else (if 24 ≤ y4 then (m_X2_readIslands_j48 rec12 y3 y4 y5 y6 y7) else (m_X2_readIslands_j49 rec12 y3 y4 y5 y6 y7 1)))))
def m_X2_readIslands (N : Nat) (S_columns : Int32) (S_rows : Int32) (S_numbers : Nat → Int32) (Y_cellOf : Nat → Int32) (Y_islandAfter : Nat → Int32) (Y_waysOf : Nat → Int32) : Option (Int32 × (Nat → Int32) × (Nat → Int32) × (Nat → Int32)) :=
  lt1 (m_X6_cells S_columns S_rows) (fun v1 => zl5 (m_X2_readIslands_b12 S_numbers v1) N 0 0 Y_cellOf Y_islandAfter Y_waysOf)
set_option maxHeartbeats 4000000 in
set_option maxRecDepth 100000 in
theorem c_X2_readIslands (l : Launch) (D : va_G) (cI cJ cS cB : ClassId) (a : Nat → Nat) (S_columns : Int32) (S_rows : Int32) (S_grade : Int32) (S_stepsMade : Int32) (S_numbers : Nat → Int32) (Y_islands : Int32) (Y_ways : Int32) (Y_cellOf : Nat → Int32) (Y_islandAfter : Nat → Int32) (Y_waysOf : Nat → Int32)  (N : Nat) (Y_islands' : Int32) (Y_cellOf' : Nat → Int32) (Y_islandAfter' : Nat → Int32) (Y_waysOf' : Nat → Int32) (hm : m_X2_readIslands N S_columns S_rows S_numbers Y_cellOf Y_islandAfter Y_waysOf = some (Y_islands', Y_cellOf', Y_islandAfter', Y_waysOf')) :
    mU l D (TYs cI cJ cS cB) yX2_readIslands wsX2_readIslands { frames := 1, cells := 0, slots := 0, locals := 22 } [.ref (a 5), .ref (a 1)] [o_S a S_columns S_rows S_grade S_stepsMade, ai (a 2) cI 144 S_numbers, o_Y a Y_islands Y_ways, ai (a 6) cI 24 Y_cellOf, ai (a 7) cI 144 Y_islandAfter, ai (a 13) cI 24 Y_waysOf] [o_S a S_columns S_rows S_grade S_stepsMade, ai (a 2) cI 144 S_numbers, o_Y a Y_islands' Y_ways, ai (a 6) cI 24 Y_cellOf', ai (a 7) cI 144 Y_islandAfter', ai (a 13) cI 24 Y_waysOf'] none := by
  refine mG_of (cc := cX2_readIslands) (maxL := 5) (ret := none) (by decide) rfl rfl (Nat.le_of_ble_eq_true rfl) ?_
  intro p e s m args below meth c A hx hb hr hml hlk hnm hts hown hK hP hD hA hS ls hl
  have hl : lv_has ls 5 [(0, .ref (a 5)), (1, .ref (a 1))] := hl
  have hiX2 : ∀ w ∈ wsX20, w ∈ wsX2_readIslands := fun w h => List.mem_cons_of_mem _ (List.mem_append_left _ (List.mem_append_right _ h))
  have hiX6 : ∀ w ∈ wsX60, w ∈ wsX2_readIslands := fun w h => List.mem_cons_of_mem _ (List.mem_append_right _ h)
  unfold m_X2_readIslands at hm
  have h12 : ∀ (y2 : Int32), ∀ (n : Nat) (y3 : Int32) (y4 : Int32) (y5 : Nat → Int32) (y6 : Nat → Int32) (y7 : Nat → Int32), zl5 (m_X2_readIslands_b12 S_numbers y2) n y3 y4 y5 y6 y7 = some (Y_islands', Y_cellOf', Y_islandAfter', Y_waysOf') → ∀ (H : Heap) (locs : List Loc), va_P D vwCl [o_S a S_columns S_rows S_grade S_stepsMade, ai (a 2) cI 144 S_numbers, o_Y a y4 Y_ways, ai (a 6) cI 24 y5, ai (a 7) cI 144 y6, ai (a 13) cI 24 y7] H → va_D A [o_S a S_columns S_rows S_grade S_stepsMade, ai (a 2) cI 144 S_numbers, o_Y a y4 Y_ways, ai (a 6) cI 24 y5, ai (a 7) cI 144 y6, ai (a 13) cI 24 y7] → va_S A s.heap H locs → ∀ ls : Array Slot, lv_has ls 5 [(0, .ref (a 5)), (1, .ref (a 1)), (2, .int y2), (3, .int y3)] → W p l e { frames := 1, cells := 0, slots := 0, locals := 22 } s m args below meth c H locs 0 0 (MQ below (eQ D none (fun _ : Unit => [o_S a S_columns S_rows S_grade S_stepsMade, ai (a 2) cI 144 S_numbers, o_Y a Y_islands' Y_ways, ai (a 6) cI 24 Y_cellOf', ai (a 7) cI 144 Y_islandAfter', ai (a 13) cI 24 Y_waysOf']) A) args s 0 0 A) (F0 m 12 ls []) := by
    intro y2
    refine zl5_ind (fun rec12 ih12 y3 y4 y5 y6 y7 hm => ?_)
    have h108 : ∀ (y25 : Int32) (y26 : Int32) (y27 : Nat → Int32) (y28 : Nat → Int32) (y29 : Nat → Int32) (y30 : Int32) (y31 : Int32), m_X2_readIslands_j108 rec12 y25 y26 y27 y28 y29 y30 y31 = some (Y_islands', Y_cellOf', Y_islandAfter', Y_waysOf') → ∀ (H : Heap) (locs : List Loc), va_P D vwCl [o_S a S_columns S_rows S_grade S_stepsMade, ai (a 2) cI 144 S_numbers, o_Y a y26 Y_ways, ai (a 6) cI 24 y27, ai (a 7) cI 144 y28, ai (a 13) cI 24 y29] H → va_D A [o_S a S_columns S_rows S_grade S_stepsMade, ai (a 2) cI 144 S_numbers, o_Y a y26 Y_ways, ai (a 6) cI 24 y27, ai (a 7) cI 144 y28, ai (a 13) cI 24 y29] → va_S A s.heap H locs → ∀ ls : Array Slot, lv_has ls 5 [(0, .ref (a 5)), (1, .ref (a 1)), (2, .int y2), (3, .int y25)] → W p l e { frames := 1, cells := 0, slots := 0, locals := 22 } s m args below meth c H locs 0 0 (MQ below (eQ D none (fun _ : Unit => [o_S a S_columns S_rows S_grade S_stepsMade, ai (a 2) cI 144 S_numbers, o_Y a Y_islands' Y_ways, ai (a 6) cI 24 Y_cellOf', ai (a 7) cI 144 Y_islandAfter', ai (a 13) cI 24 Y_waysOf']) A) args s 0 0 A) (F0 m 108 ls [.int y31, .int y30, .ref (a 7)]) := by
      intro y25 y26 y27 y28 y29 y30 y31 hm H locs hP hD hS ls hl
      unfold m_X2_readIslands_j108 at hm
      obtain ⟨v32, ev32, hm⟩ := lt1_inv hm
      refine cNx ⟨hx, hb, hml, hown, hts⟩ (c_X9_put l D cI cJ cS cB (a 7) 144 (Nat.le_of_ble_eq_true rfl) y28 y30 y31 v32 ev32) ⟨va_cnB 3 hts gX2_readIslands_X9_put_n82 rfl rfl rfl (kn_5 hK) (hts (.initialized RX9) (List.mem_of_getElem? (i := 14) rfl)) hd_X9_put ⟨(Nat.le_of_ble_eq_true rfl), (Nat.le_of_ble_eq_true rfl)⟩, (hts (.static yX9_put) (List.mem_of_getElem? (i := 16) rfl)), trivial⟩ hK hP hD hS hA [4] rfl rfl [o_S a S_columns S_rows S_grade S_stepsMade, ai (a 2) cI 144 S_numbers, o_Y a y26 Y_ways, ai (a 6) cI 24 y27, ai (a 7) cI 144 v32, ai (a 13) cI 24 y29] [(false, 0), (false, 1), (false, 2), (false, 3), (true, 0), (false, 5)] rfl rfl rfl hl.1 (Nat.le_of_ble_eq_true rfl) ⟨Nat.zero_le _, Nat.zero_le _⟩ rfl dX2_readIslands_108 (fun H locs hP hD hS => ?_)
      obtain ⟨v33, ev33, hm⟩ := lt1_inv hm
      refine lv_iinc (v := v33) (lv' := [(3, .int v33), (0, .ref (a 5)), (1, .ref (a 1)), (2, .int y2)]) hx hb dX2_readIslands_111 hl (k := 3) rfl ev33 (by decide) rfl (fun ls hl => ?_)
      refine lv_goto (tgt := 12) hx hb dX2_readIslands_114 (by decide) ?_
      exact ih12 v33 y26 y27 v32 y29 hm _ _ hP hD hS ls (lv_sub hl [1, 2, 3, 0] rfl)
    have h90 : ∀ (y19 : Int32) (y20 : Int32) (y21 : Int32) (y22 : Nat → Int32) (y23 : Nat → Int32) (y24 : Nat → Int32), m_X2_readIslands_j90 rec12 y19 y20 y21 y22 y23 y24 = some (Y_islands', Y_cellOf', Y_islandAfter', Y_waysOf') → ∀ (H : Heap) (locs : List Loc), va_P D vwCl [o_S a S_columns S_rows S_grade S_stepsMade, ai (a 2) cI 144 S_numbers, o_Y a y21 Y_ways, ai (a 6) cI 24 y22, ai (a 7) cI 144 y23, ai (a 13) cI 24 y24] H → va_D A [o_S a S_columns S_rows S_grade S_stepsMade, ai (a 2) cI 144 S_numbers, o_Y a y21 Y_ways, ai (a 6) cI 24 y22, ai (a 7) cI 144 y23, ai (a 13) cI 24 y24] → va_S A s.heap H locs → ∀ ls : Array Slot, lv_has ls 5 [(0, .ref (a 5)), (1, .ref (a 1)), (2, .int y2), (3, .int y19), (4, .int y20)] → W p l e { frames := 1, cells := 0, slots := 0, locals := 22 } s m args below meth c H locs 0 0 (MQ below (eQ D none (fun _ : Unit => [o_S a S_columns S_rows S_grade S_stepsMade, ai (a 2) cI 144 S_numbers, o_Y a Y_islands' Y_ways, ai (a 6) cI 24 Y_cellOf', ai (a 7) cI 144 Y_islandAfter', ai (a 13) cI 24 Y_waysOf']) A) args s 0 0 A) (F0 m 90 ls []) := by
      intro y19 y20 y21 y22 y23 y24 hm H locs hP hD hS ls hl
      unfold m_X2_readIslands_j90 at hm
      refine lv_aload_n hx hb dX2_readIslands_90 rfl (lv_at hl 0 rfl) ?_
      refine va_get (D := D) (ci := 2) (v := .ref (a 7)) (C := RX2) (T := TX2) (N := 11) hx hb hts hiX2 hown hK.1 hP 2 rfl rfl 1 (by decide) (hts (.fieldLink RX2 15 "IslandBridges$Layout" "islandAfter" "[I") (List.mem_of_getElem? (i := 5) rfl)) (fun _ h9 => h9) rfl dX2_readIslands_91 ?_
      refine lv_iload_n hx hb dX2_readIslands_94 rfl (lv_at hl 3 rfl) ?_
      refine lv_iload hx hb dX2_readIslands_95 (lv_at hl 4 rfl) ?_
      refine lv_if_eq (tgt := 107) hx hb dX2_readIslands_97 (by decide) (fun c97 => ?_) (fun c97 => ?_)
      · have hm := ip c97 hm
        refine lv_iconst (v := 0) hx hb dX2_readIslands_107 (by decide) ?_
        exact h108 y19 y21 y22 y23 y24 y19 0 hm _ _ hP hD hS ls (lv_sub hl [0, 1, 2, 3] rfl)
      · have hm := ine c97 hm
        refine lv_aload_n hx hb dX2_readIslands_100 rfl (lv_at hl 0 rfl) ?_
        refine va_get (D := D) (ci := 2) (v := .int y21) (C := RX2) (T := TX2) (N := 11) hx hb hts hiX2 hown hK.1 hP 2 rfl rfl 9 (by decide) (hts (.fieldLink RX2 76 "IslandBridges$Layout" "islands" "I") (List.mem_of_getElem? (i := 1) rfl)) (fun _ h9 => h9) rfl dX2_readIslands_101 ?_
        refine lv_goto (tgt := 108) hx hb dX2_readIslands_104 (by decide) ?_
        exact h108 y19 y21 y22 y23 y24 y19 y21 hm _ _ hP hD hS ls (lv_sub hl [0, 1, 2, 3] rfl)
    have h49 : ∀ (y13 : Int32) (y14 : Int32) (y15 : Nat → Int32) (y16 : Nat → Int32) (y17 : Nat → Int32) (y18 : Int32), m_X2_readIslands_j49 rec12 y13 y14 y15 y16 y17 y18 = some (Y_islands', Y_cellOf', Y_islandAfter', Y_waysOf') → ∀ (H : Heap) (locs : List Loc), va_P D vwCl [o_S a S_columns S_rows S_grade S_stepsMade, ai (a 2) cI 144 S_numbers, o_Y a y14 Y_ways, ai (a 6) cI 24 y15, ai (a 7) cI 144 y16, ai (a 13) cI 24 y17] H → va_D A [o_S a S_columns S_rows S_grade S_stepsMade, ai (a 2) cI 144 S_numbers, o_Y a y14 Y_ways, ai (a 6) cI 24 y15, ai (a 7) cI 144 y16, ai (a 13) cI 24 y17] → va_S A s.heap H locs → ∀ ls : Array Slot, lv_has ls 5 [(0, .ref (a 5)), (1, .ref (a 1)), (2, .int y2), (3, .int y13)] → W p l e { frames := 1, cells := 0, slots := 0, locals := 22 } s m args below meth c H locs 0 0 (MQ below (eQ D none (fun _ : Unit => [o_S a S_columns S_rows S_grade S_stepsMade, ai (a 2) cI 144 S_numbers, o_Y a Y_islands' Y_ways, ai (a 6) cI 24 Y_cellOf', ai (a 7) cI 144 Y_islandAfter', ai (a 13) cI 24 Y_waysOf']) A) args s 0 0 A) (F0 m 49 ls [.int y18]) := by
      intro y13 y14 y15 y16 y17 y18 hm H locs hP hD hS ls hl
      unfold m_X2_readIslands_j49 at hm
      refine lv_istore (lv' := [(4, .int y18), (0, .ref (a 5)), (1, .ref (a 1)), (2, .int y2), (3, .int y13)]) hx hb dX2_readIslands_49 hl (by decide) rfl (fun ls hl => ?_)
      refine lv_iload hx hb dX2_readIslands_51 (lv_at hl 0 rfl) ?_
      refine lv_if_eq (tgt := 90) hx hb dX2_readIslands_53 (by decide) (fun c53 => ?_) (fun c53 => ?_)
      · have hm := ip c53 hm
        exact h90 y13 y18 y14 y15 y16 y17 hm _ _ hP hD hS ls (lv_sub hl [1, 2, 3, 4, 0] rfl)
      · have hm := ine c53 hm
        refine lv_aload_n hx hb dX2_readIslands_56 rfl (lv_at hl 1 rfl) ?_
        refine va_get (D := D) (ci := 2) (v := .ref (a 6)) (C := RX2) (T := TX2) (N := 11) hx hb hts hiX2 hown hK.1 hP 2 rfl rfl 0 (by decide) (hts (.fieldLink RX2 9 "IslandBridges$Layout" "cellOf" "[I") (List.mem_of_getElem? (i := 3) rfl)) (fun _ h9 => h9) rfl dX2_readIslands_57 ?_
        refine lv_aload_n hx hb dX2_readIslands_60 rfl (lv_at hl 1 rfl) ?_
        refine va_get (D := D) (ci := 2) (v := .int y14) (C := RX2) (T := TX2) (N := 11) hx hb hts hiX2 hown hK.1 hP 2 rfl rfl 9 (by decide) (hts (.fieldLink RX2 76 "IslandBridges$Layout" "islands" "I") (List.mem_of_getElem? (i := 1) rfl)) (fun _ h9 => h9) rfl dX2_readIslands_61 ?_
        refine lv_iload_n hx hb dX2_readIslands_64 rfl (lv_at hl 4 rfl) ?_
        obtain ⟨v34, ev34, hm⟩ := lt1_inv hm
        refine cNx ⟨hx, hb, hml, hown, hts⟩ (c_X9_put l D cI cJ cS cB (a 6) 24 (Nat.le_of_ble_eq_true rfl) y15 y14 y13 v34 ev34) ⟨va_cnB 3 hts gX2_readIslands_X9_put_n82 rfl rfl rfl (kn_5 hK) (hts (.initialized RX9) (List.mem_of_getElem? (i := 14) rfl)) hd_X9_put ⟨(Nat.le_of_ble_eq_true rfl), (Nat.le_of_ble_eq_true rfl)⟩, (hts (.static yX9_put) (List.mem_of_getElem? (i := 16) rfl)), trivial⟩ hK hP hD hS hA [3] rfl rfl [o_S a S_columns S_rows S_grade S_stepsMade, ai (a 2) cI 144 S_numbers, o_Y a y14 Y_ways, ai (a 6) cI 24 v34, ai (a 7) cI 144 y16, ai (a 13) cI 24 y17] [(false, 0), (false, 1), (false, 2), (true, 0), (false, 4), (false, 5)] rfl rfl rfl hl.1 (Nat.le_of_ble_eq_true rfl) ⟨Nat.zero_le _, Nat.zero_le _⟩ rfl dX2_readIslands_65 (fun H locs hP hD hS => ?_)
        refine lv_aload_n hx hb dX2_readIslands_68 rfl (lv_at hl 1 rfl) ?_
        refine va_get (D := D) (ci := 2) (v := .ref (a 13)) (C := RX2) (T := TX2) (N := 11) hx hb hts hiX2 hown hK.1 hP 2 rfl rfl 7 (by decide) (hts (.fieldLink RX2 33 "IslandBridges$Layout" "waysOf" "[I") (List.mem_of_getElem? (i := 4) rfl)) (fun _ h9 => h9) rfl dX2_readIslands_69 ?_
        refine lv_aload_n hx hb dX2_readIslands_72 rfl (lv_at hl 1 rfl) ?_
        refine va_get (D := D) (ci := 2) (v := .int y14) (C := RX2) (T := TX2) (N := 11) hx hb hts hiX2 hown hK.1 hP 2 rfl rfl 9 (by decide) (hts (.fieldLink RX2 76 "IslandBridges$Layout" "islands" "I") (List.mem_of_getElem? (i := 1) rfl)) (fun _ h9 => h9) rfl dX2_readIslands_73 ?_
        refine lv_iconst (v := 0) hx hb dX2_readIslands_76 (by decide) ?_
        obtain ⟨v35, ev35, hm⟩ := lt1_inv hm
        refine cNx ⟨hx, hb, hml, hown, hts⟩ (c_X9_put l D cI cJ cS cB (a 13) 24 (Nat.le_of_ble_eq_true rfl) y17 y14 0 v35 ev35) ⟨va_cnB 3 hts gX2_readIslands_X9_put_n82 rfl rfl rfl (kn_5 hK) (hts (.initialized RX9) (List.mem_of_getElem? (i := 14) rfl)) hd_X9_put ⟨(Nat.le_of_ble_eq_true rfl), (Nat.le_of_ble_eq_true rfl)⟩, (hts (.static yX9_put) (List.mem_of_getElem? (i := 16) rfl)), trivial⟩ hK hP hD hS hA [5] rfl rfl [o_S a S_columns S_rows S_grade S_stepsMade, ai (a 2) cI 144 S_numbers, o_Y a y14 Y_ways, ai (a 6) cI 24 v34, ai (a 7) cI 144 y16, ai (a 13) cI 24 v35] [(false, 0), (false, 1), (false, 2), (false, 3), (false, 4), (true, 0)] rfl rfl rfl hl.1 (Nat.le_of_ble_eq_true rfl) ⟨Nat.zero_le _, Nat.zero_le _⟩ rfl dX2_readIslands_77 (fun H locs hP hD hS => ?_)
        refine lv_aload_n hx hb dX2_readIslands_80 rfl (lv_at hl 1 rfl) ?_
        refine lv_dup hx hb dX2_readIslands_81 rfl ?_
        refine va_get (D := D) (ci := 2) (v := .int y14) (C := RX2) (T := TX2) (N := 11) hx hb hts hiX2 hown hK.1 hP 2 rfl rfl 9 (by decide) (hts (.fieldLink RX2 76 "IslandBridges$Layout" "islands" "I") (List.mem_of_getElem? (i := 1) rfl)) (fun _ h9 => h9) rfl dX2_readIslands_82 ?_
        refine lv_iconst (v := 1) hx hb dX2_readIslands_85 (by decide) ?_
        refine lv_iadd hx hb dX2_readIslands_86 ?_
        obtain ⟨v36, ev36, hm⟩ := lt1_inv hm
        refine ltop ev36 ?_
        refine va_put (D := D) (ci := 2) (v := .int v36) (ty := .int) (C := RX2) (T := TX2) (N := 11) hx hb hts hiX2 tyX2 tyX2_ok nmX2 hown hK.1 hP hD hS 2 rfl rfl 9 (by decide) (hts (.fieldLink RX2 76 "IslandBridges$Layout" "islands" "I") (List.mem_of_getElem? (i := 1) rfl)) (fun _ h9 => h9) rfl (by decide +kernel) rfl rfl (Nat.le_of_ble_eq_true rfl) dX2_readIslands_87 (fun H locs hP hD hS => ?_)
        have hP : va_P D vwCl [o_S a S_columns S_rows S_grade S_stepsMade, ai (a 2) cI 144 S_numbers, o_Y a v36 Y_ways, ai (a 6) cI 24 v34, ai (a 7) cI 144 y16, ai (a 13) cI 24 v35] H := hP
        have hD : va_D A [o_S a S_columns S_rows S_grade S_stepsMade, ai (a 2) cI 144 S_numbers, o_Y a v36 Y_ways, ai (a 6) cI 24 v34, ai (a 7) cI 144 y16, ai (a 13) cI 24 v35] := hD
        exact h90 y13 y18 v36 v34 y16 v35 hm _ _ hP hD hS ls (lv_sub hl [1, 2, 3, 4, 0] rfl)
    have h48 : ∀ (y8 : Int32) (y9 : Int32) (y10 : Nat → Int32) (y11 : Nat → Int32) (y12 : Nat → Int32), m_X2_readIslands_j48 rec12 y8 y9 y10 y11 y12 = some (Y_islands', Y_cellOf', Y_islandAfter', Y_waysOf') → ∀ (H : Heap) (locs : List Loc), va_P D vwCl [o_S a S_columns S_rows S_grade S_stepsMade, ai (a 2) cI 144 S_numbers, o_Y a y9 Y_ways, ai (a 6) cI 24 y10, ai (a 7) cI 144 y11, ai (a 13) cI 24 y12] H → va_D A [o_S a S_columns S_rows S_grade S_stepsMade, ai (a 2) cI 144 S_numbers, o_Y a y9 Y_ways, ai (a 6) cI 24 y10, ai (a 7) cI 144 y11, ai (a 13) cI 24 y12] → va_S A s.heap H locs → ∀ ls : Array Slot, lv_has ls 5 [(0, .ref (a 5)), (1, .ref (a 1)), (2, .int y2), (3, .int y8)] → W p l e { frames := 1, cells := 0, slots := 0, locals := 22 } s m args below meth c H locs 0 0 (MQ below (eQ D none (fun _ : Unit => [o_S a S_columns S_rows S_grade S_stepsMade, ai (a 2) cI 144 S_numbers, o_Y a Y_islands' Y_ways, ai (a 6) cI 24 Y_cellOf', ai (a 7) cI 144 Y_islandAfter', ai (a 13) cI 24 Y_waysOf']) A) args s 0 0 A) (F0 m 48 ls []) := by
      intro y8 y9 y10 y11 y12 hm H locs hP hD hS ls hl
      unfold m_X2_readIslands_j48 at hm
      refine lv_iconst (v := 0) hx hb dX2_readIslands_48 (by decide) ?_
      exact h49 y8 y9 y10 y11 y12 0 hm _ _ hP hD hS ls (lv_sub hl [0, 1, 2, 3] rfl)
    intro H locs hP hD hS ls hl
    unfold m_X2_readIslands_b12 at hm
    refine lv_iload_n hx hb dX2_readIslands_12 rfl (lv_at hl 3 rfl) ?_
    refine lv_sipush (v := 144) hx hb dX2_readIslands_13 (by decide) ?_
    refine lv_icmp_ge (tgt := 117) hx hb dX2_readIslands_16 (by decide) (fun c16 => ?_) (fun c16 => ?_)
    · have hm := ip c16 hm
      cases hm
      exact rV () hx hb hr hlk hP hD hS dX2_readIslands_117
    · have hm := ine c16 hm
      refine lv_iload_n hx hb dX2_readIslands_19 rfl (lv_at hl 3 rfl) ?_
      refine lv_iload_n hx hb dX2_readIslands_20 rfl (lv_at hl 2 rfl) ?_
      refine lv_icmp_ge (tgt := 48) hx hb dX2_readIslands_21 (by decide) (fun c21 => ?_) (fun c21 => ?_)
      · have hm := ip c21 hm
        exact h48 y3 y4 y5 y6 y7 hm _ _ hP hD hS ls (lv_sub hl [0, 1, 2, 3] rfl)
      · have hm := ine c21 hm
        refine lv_aload_n hx hb dX2_readIslands_24 rfl (lv_at hl 1 rfl) ?_
        refine va_get (D := D) (ci := 6) (v := .ref (a 2)) (C := RX6) (T := TX6) (N := 7) hx hb hts hiX6 hown hK.1 hP 0 rfl rfl 0 (by decide) (hts (.fieldLink RX2 79 "IslandBridges$State" "numbers" "[I") (List.mem_of_getElem? (i := 2) rfl)) (fun _ h9 => h9) rfl dX2_readIslands_25 ?_
        refine lv_iload_n hx hb dX2_readIslands_28 rfl (lv_at hl 3 rfl) ?_
        obtain ⟨v37, ev37, hm⟩ := lt1_inv hm
        refine cNs ⟨hx, hb, hml, hown, hts⟩ (c_X9_valueAt l D cI cJ cS cB (a 2) 144 (Nat.le_of_ble_eq_true rfl) S_numbers y3 v37 ev37) ⟨va_cnB 2 hts gX2_readIslands_X9_valueAt_n62 rfl rfl rfl (kn_4 hK) (hts (.initialized RX9) (List.mem_of_getElem? (i := 14) rfl)) hd_X9_valueAt ⟨(Nat.le_of_ble_eq_true rfl), (Nat.le_of_ble_eq_true rfl)⟩, (hts (.static yX9_valueAt) (List.mem_of_getElem? (i := 13) rfl)), trivial⟩ hK hP hD hS hA [1] rfl rfl rfl hl.1 (Nat.le_of_ble_eq_true rfl) ⟨Nat.zero_le _, Nat.zero_le _⟩ rfl dX2_readIslands_29 (fun H locs hP hD hS => ?_)
        refine lv_if_le (tgt := 48) hx hb dX2_readIslands_32 (by decide) (fun c32 => ?_) (fun c32 => ?_)
        · have hm := ip c32 hm
          exact h48 y3 y4 y5 y6 y7 hm _ _ hP hD hS ls (lv_sub hl [0, 1, 2, 3] rfl)
        · have hm := ine c32 hm
          refine lv_aload_n hx hb dX2_readIslands_35 rfl (lv_at hl 0 rfl) ?_
          refine va_get (D := D) (ci := 2) (v := .int y4) (C := RX2) (T := TX2) (N := 11) hx hb hts hiX2 hown hK.1 hP 2 rfl rfl 9 (by decide) (hts (.fieldLink RX2 76 "IslandBridges$Layout" "islands" "I") (List.mem_of_getElem? (i := 1) rfl)) (fun _ h9 => h9) rfl dX2_readIslands_36 ?_
          refine lv_bipush (v := 24) hx hb dX2_readIslands_39 (by decide) ?_
          refine lv_icmp_ge (tgt := 48) hx hb dX2_readIslands_41 (by decide) (fun c41 => ?_) (fun c41 => ?_)
          · have hm := ip c41 hm
            exact h48 y3 y4 y5 y6 y7 hm _ _ hP hD hS ls (lv_sub hl [0, 1, 2, 3] rfl)
          · have hm := ine c41 hm
            refine lv_iconst (v := 1) hx hb dX2_readIslands_44 (by decide) ?_
            refine lv_goto (tgt := 49) hx hb dX2_readIslands_45 (by decide) ?_
            exact h49 y3 y4 y5 y6 y7 1 hm _ _ hP hD hS ls (lv_sub hl [0, 1, 2, 3] rfl)
  refine lv_aload_n hx hb dX2_readIslands_0 rfl (lv_at hl 0 rfl) ?_
  refine lv_iconst (v := 0) hx hb dX2_readIslands_1 (by decide) ?_
  refine va_put (D := D) (ci := 2) (v := .int 0) (ty := .int) (C := RX2) (T := TX2) (N := 11) hx hb hts hiX2 tyX2 tyX2_ok nmX2 hown hK.1 hP hD hS 2 rfl rfl 9 (by decide) (hts (.fieldLink RX2 76 "IslandBridges$Layout" "islands" "I") (List.mem_of_getElem? (i := 1) rfl)) (fun _ h9 => h9) rfl (by decide +kernel) rfl rfl (Nat.le_of_ble_eq_true rfl) dX2_readIslands_2 (fun H locs hP hD hS => ?_)
  have hP : va_P D vwCl [o_S a S_columns S_rows S_grade S_stepsMade, ai (a 2) cI 144 S_numbers, o_Y a 0 Y_ways, ai (a 6) cI 24 Y_cellOf, ai (a 7) cI 144 Y_islandAfter, ai (a 13) cI 24 Y_waysOf] H := hP
  have hD : va_D A [o_S a S_columns S_rows S_grade S_stepsMade, ai (a 2) cI 144 S_numbers, o_Y a 0 Y_ways, ai (a 6) cI 24 Y_cellOf, ai (a 7) cI 144 Y_islandAfter, ai (a 13) cI 24 Y_waysOf] := hD
  refine lv_aload_n hx hb dX2_readIslands_5 rfl (lv_at hl 1 rfl) ?_
  obtain ⟨v1, h_v1, hm⟩ := lt1_inv hm
  refine cVs ⟨hx, hb, hml, hown, hts⟩ (c_X6_cells l D cI cJ cS cB a S_columns S_rows S_grade S_stepsMade v1 h_v1) (cwV 0 hts gX2_readIslands_X6_cells rfl rfl rfl hd_X6_cells ⟨(Nat.le_of_ble_eq_true rfl), (Nat.le_of_ble_eq_true rfl)⟩) hK hP hD hS hA [0] rfl rfl rfl hl.1 (Nat.le_of_ble_eq_true rfl) ⟨Nat.zero_le _, Nat.zero_le _⟩ 0 rfl rfl rfl rfl dX2_readIslands_6 (fun H locs hP hD hS => ?_)
  refine lv_istore_n (lv' := [(2, .int v1), (0, .ref (a 5)), (1, .ref (a 1))]) hx hb dX2_readIslands_9 rfl hl (by decide) rfl (fun ls hl => ?_)
  refine lv_iconst (v := 0) hx hb dX2_readIslands_10 (by decide) ?_
  refine lv_istore_n (lv' := [(3, .int 0), (2, .int v1), (0, .ref (a 5)), (1, .ref (a 1))]) hx hb dX2_readIslands_11 rfl hl (by decide) rfl (fun ls hl => ?_)
  exact h12 v1 N 0 0 Y_cellOf Y_islandAfter Y_waysOf hm _ _ hP hD hS ls (lv_sub hl [2, 3, 1, 0] rfl)
theorem hd_X2_cellOf : yX2_cellOf.cls = RX2 ∧ yX2_cellOf.cls ≠ "java/lang/invoke/MethodHandle" ∧ yX2_cellOf.cls ≠ "java/lang/invoke/VarHandle" ∧ (parseMethodDescriptor yX2_cellOf.desc).map (fun d => d.parameters.length) = some 1 := by decide +kernel
def m_X2_cellOf (Y_cellOf : Nat → Int32) (x1 : Int32) : Int32 :=
  lt1 (vAt 24 Y_cellOf x1) (fun v1 => v1)
set_option maxHeartbeats 4000000 in
set_option maxRecDepth 100000 in
theorem c_X2_cellOf (l : Launch) (D : va_G) (cI cJ cS cB : ClassId) (a : Nat → Nat) (Y_islands : Int32) (Y_ways : Int32) (Y_cellOf : Nat → Int32) (x1 : Int32) (r0 : Int32) (hm : m_X2_cellOf Y_cellOf x1 = r0) :
    mU l D (TYs cI cJ cS cB) yX2_cellOf wsX2_cellOf { frames := 1, cells := 0, slots := 0, locals := 21 } [.ref (a 5), .int x1] [o_Y a Y_islands Y_ways, ai (a 6) cI 24 Y_cellOf] [o_Y a Y_islands Y_ways, ai (a 6) cI 24 Y_cellOf] (some (.int r0)) := by
  refine mG_of (cc := cX2_cellOf) (maxL := 2) (ret := (some .int)) (by decide) rfl rfl (Nat.le_of_ble_eq_true rfl) ?_
  intro p e s m args below meth c A hx hb hr hml hlk hnm hts hown hK hP hD hA hS ls hl
  have hl : lv_has ls 2 [(0, .ref (a 5)), (1, .int x1)] := hl
  have hiX2 : ∀ w ∈ wsX20, w ∈ wsX2_cellOf := fun w h => List.mem_cons_of_mem _ (List.mem_append_right _ h)
  unfold m_X2_cellOf at hm
  refine lv_aload_n hx hb dX2_cellOf_0 rfl (lv_at hl 0 rfl) ?_
  refine va_get (D := D) (ci := 2) (v := .ref (a 6)) (C := RX2) (T := TX2) (N := 11) hx hb hts hiX2 hown hK.1 hP 0 rfl rfl 0 (by decide) (hts (.fieldLink RX2 9 "IslandBridges$Layout" "cellOf" "[I") (List.mem_of_getElem? (i := 1) rfl)) (fun _ h9 => h9) rfl dX2_cellOf_1 ?_
  refine lv_iload_n hx hb dX2_cellOf_4 rfl (lv_at hl 1 rfl) ?_
  obtain ⟨v1, ev1, hm⟩ := lt1_inv hm
  refine cNs ⟨hx, hb, hml, hown, hts⟩ (c_X9_valueAt l D cI cJ cS cB (a 6) 24 (Nat.le_of_ble_eq_true rfl) Y_cellOf x1 v1 ev1) ⟨va_cnB 2 hts gX2_cellOf_X9_valueAt_n62 rfl rfl rfl (kn_4 hK) (hts (.initialized RX9) (List.mem_of_getElem? (i := 3) rfl)) hd_X9_valueAt ⟨(Nat.le_of_ble_eq_true rfl), (Nat.le_of_ble_eq_true rfl)⟩, (hts (.static yX9_valueAt) (List.mem_of_getElem? (i := 2) rfl)), trivial⟩ hK hP hD hS hA [1] rfl rfl rfl hl.1 (Nat.le_of_ble_eq_true rfl) ⟨Nat.zero_le _, Nat.zero_le _⟩ rfl dX2_cellOf_5 (fun H locs hP hD hS => ?_)
  cases hm
  exact rI () hx hb hr hlk hP hD hS dX2_cellOf_8
theorem hd_X2_islandOn : yX2_islandOn.cls = RX2 ∧ yX2_islandOn.cls ≠ "java/lang/invoke/MethodHandle" ∧ yX2_islandOn.cls ≠ "java/lang/invoke/VarHandle" ∧ (parseMethodDescriptor yX2_islandOn.desc).map (fun d => d.parameters.length) = some 1 := by decide +kernel
def m_X2_islandOn (Y_islandAfter : Nat → Int32) (x1 : Int32) : Int32 :=
  lt1 (vAt 144 Y_islandAfter x1) (fun v1 => v1 - 1)
set_option maxHeartbeats 4000000 in
set_option maxRecDepth 100000 in
theorem c_X2_islandOn (l : Launch) (D : va_G) (cI cJ cS cB : ClassId) (a : Nat → Nat) (Y_islands : Int32) (Y_ways : Int32) (Y_islandAfter : Nat → Int32) (x1 : Int32) (r0 : Int32) (hm : m_X2_islandOn Y_islandAfter x1 = r0) :
    mU l D (TYs cI cJ cS cB) yX2_islandOn wsX2_islandOn { frames := 1, cells := 0, slots := 0, locals := 21 } [.ref (a 5), .int x1] [o_Y a Y_islands Y_ways, ai (a 7) cI 144 Y_islandAfter] [o_Y a Y_islands Y_ways, ai (a 7) cI 144 Y_islandAfter] (some (.int r0)) := by
  refine mG_of (cc := cX2_islandOn) (maxL := 2) (ret := (some .int)) (by decide) rfl rfl (Nat.le_of_ble_eq_true rfl) ?_
  intro p e s m args below meth c A hx hb hr hml hlk hnm hts hown hK hP hD hA hS ls hl
  have hl : lv_has ls 2 [(0, .ref (a 5)), (1, .int x1)] := hl
  have hiX2 : ∀ w ∈ wsX20, w ∈ wsX2_islandOn := fun w h => List.mem_cons_of_mem _ (List.mem_append_right _ h)
  unfold m_X2_islandOn at hm
  refine lv_aload_n hx hb dX2_islandOn_0 rfl (lv_at hl 0 rfl) ?_
  refine va_get (D := D) (ci := 2) (v := .ref (a 7)) (C := RX2) (T := TX2) (N := 11) hx hb hts hiX2 hown hK.1 hP 0 rfl rfl 1 (by decide) (hts (.fieldLink RX2 15 "IslandBridges$Layout" "islandAfter" "[I") (List.mem_of_getElem? (i := 1) rfl)) (fun _ h9 => h9) rfl dX2_islandOn_1 ?_
  refine lv_iload_n hx hb dX2_islandOn_4 rfl (lv_at hl 1 rfl) ?_
  obtain ⟨v1, ev1, hm⟩ := lt1_inv hm
  refine cNs ⟨hx, hb, hml, hown, hts⟩ (c_X9_valueAt l D cI cJ cS cB (a 7) 144 (Nat.le_of_ble_eq_true rfl) Y_islandAfter x1 v1 ev1) ⟨va_cnB 2 hts gX2_islandOn_X9_valueAt_n62 rfl rfl rfl (kn_4 hK) (hts (.initialized RX9) (List.mem_of_getElem? (i := 3) rfl)) hd_X9_valueAt ⟨(Nat.le_of_ble_eq_true rfl), (Nat.le_of_ble_eq_true rfl)⟩, (hts (.static yX9_valueAt) (List.mem_of_getElem? (i := 2) rfl)), trivial⟩ hK hP hD hS hA [1] rfl rfl rfl hl.1 (Nat.le_of_ble_eq_true rfl) ⟨Nat.zero_le _, Nat.zero_le _⟩ rfl dX2_islandOn_5 (fun H locs hP hD hS => ?_)
  refine lv_iconst (v := 1) hx hb dX2_islandOn_8 (by decide) ?_
  refine lv_isub hx hb dX2_islandOn_9 ?_
  cases hm
  exact rI () hx hb hr hlk hP hD hS dX2_islandOn_10
theorem hd_X2_nextIsland : yX2_nextIsland.cls = RX2 ∧ yX2_nextIsland.cls ≠ "java/lang/invoke/MethodHandle" ∧ yX2_nextIsland.cls ≠ "java/lang/invoke/VarHandle" ∧ (parseMethodDescriptor yX2_nextIsland.desc).map (fun d => d.parameters.length) = some 3 := by decide +kernel
def m_X2_nextIsland_j36 (Y_islandAfter : Nat → Int32) (y5 : Int32) : Option (Int32) :=
  lt1 (m_X2_islandOn Y_islandAfter y5) (fun v6 => some v6)
def m_X2_nextIsland_b3 (Y_islandAfter : Nat → Int32) (x1 : Int32) (x2 : Int32) (x3 : Int32) (rec3 : Int32 → Option (Int32)) (y1 : Int32) : Option (Int32) :=
  if 12 ≤ y1 then (some ((-1))) else (lt1 (x1 + (y1 * x2)) (fun v2 => if v2 < x3 then (lt1 (m_X2_islandOn Y_islandAfter v2) (fun v3 => if v3 = ((-1)) then (lt1 (y1 + 1) (fun v4 => rec3 v4)) else (m_X2_nextIsland_j36 Y_islandAfter v2))) else (some ((-1)))))
def m_X2_nextIsland (N : Nat) (Y_islandAfter : Nat → Int32) (x1 : Int32) (x2 : Int32) (x3 : Int32) : Option (Int32) :=
  zl1 (m_X2_nextIsland_b3 Y_islandAfter x1 x2 x3) N 1
set_option maxHeartbeats 4000000 in
set_option maxRecDepth 100000 in
theorem c_X2_nextIsland (l : Launch) (D : va_G) (cI cJ cS cB : ClassId) (a : Nat → Nat) (Y_islands : Int32) (Y_ways : Int32) (Y_islandAfter : Nat → Int32) (x1 : Int32) (x2 : Int32) (x3 : Int32) (N : Nat) (r0 : Int32) (hm : m_X2_nextIsland N Y_islandAfter x1 x2 x3 = some r0) :
    mU l D (TYs cI cJ cS cB) yX2_nextIsland wsX2_nextIsland { frames := 2, cells := 0, slots := 0, locals := 42 } [.ref (a 5), .int x1, .int x2, .int x3] [o_Y a Y_islands Y_ways, ai (a 7) cI 144 Y_islandAfter] [o_Y a Y_islands Y_ways, ai (a 7) cI 144 Y_islandAfter] (some (.int r0)) := by
  refine mG_of (cc := cX2_nextIsland) (maxL := 6) (ret := (some .int)) (by decide) rfl rfl (Nat.le_of_ble_eq_true rfl) ?_
  intro p e s m args below meth c A hx hb hr hml hlk hnm hts hown hK hP hD hA hS ls hl
  have hl : lv_has ls 6 [(0, .ref (a 5)), (1, .int x1), (2, .int x2), (3, .int x3)] := hl
  have hiX2 : ∀ w ∈ wsX20, w ∈ wsX2_nextIsland := fun w h => List.mem_cons_of_mem _ (List.mem_append_right _ h)
  unfold m_X2_nextIsland at hm
  have h36 : ∀ (y5 : Int32), m_X2_nextIsland_j36 Y_islandAfter y5 = some r0 → ∀ (H : Heap) (locs : List Loc), va_P D vwCl [o_Y a Y_islands Y_ways, ai (a 7) cI 144 Y_islandAfter] H → va_D A [o_Y a Y_islands Y_ways, ai (a 7) cI 144 Y_islandAfter] → va_S A s.heap H locs → ∀ ls : Array Slot, lv_has ls 6 [(0, .ref (a 5)), (5, .int y5)] → W p l e { frames := 2, cells := 0, slots := 0, locals := 42 } s m args below meth c H locs 0 0 (MQ below (eQ D (some (.int r0)) (fun _ : Unit => [o_Y a Y_islands Y_ways, ai (a 7) cI 144 Y_islandAfter]) A) args s 0 0 A) (F0 m 36 ls []) := by
    intro y5 hm H locs hP hD hS ls hl
    unfold m_X2_nextIsland_j36 at hm
    refine lv_aload_n hx hb dX2_nextIsland_36 rfl (lv_at hl 0 rfl) ?_
    refine lv_iload hx hb dX2_nextIsland_37 (lv_at hl 1 rfl) ?_
    obtain ⟨v6, h_v6, hm⟩ := lt1_inv hm
    refine cVs ⟨hx, hb, hml, hown, hts⟩ (c_X2_islandOn l D cI cJ cS cB a Y_islands Y_ways Y_islandAfter y5 v6 h_v6) (cwV 1 hts gX2_nextIsland_X2_islandOn rfl rfl rfl hd_X2_islandOn ⟨(Nat.le_of_ble_eq_true rfl), (Nat.le_of_ble_eq_true rfl)⟩) hK hP hD hS hA [0, 1] rfl rfl rfl hl.1 (Nat.le_of_ble_eq_true rfl) ⟨Nat.zero_le _, Nat.zero_le _⟩ 0 rfl rfl rfl rfl dX2_nextIsland_39 (fun H locs hP hD hS => ?_)
    cases hm
    exact rI () hx hb hr hlk hP hD hS dX2_nextIsland_42
  have h3 : ∀ (n : Nat) (y1 : Int32), zl1 (m_X2_nextIsland_b3 Y_islandAfter x1 x2 x3) n y1 = some r0 → ∀ (H : Heap) (locs : List Loc), va_P D vwCl [o_Y a Y_islands Y_ways, ai (a 7) cI 144 Y_islandAfter] H → va_D A [o_Y a Y_islands Y_ways, ai (a 7) cI 144 Y_islandAfter] → va_S A s.heap H locs → ∀ ls : Array Slot, lv_has ls 6 [(0, .ref (a 5)), (1, .int x1), (2, .int x2), (3, .int x3), (4, .int y1)] → W p l e { frames := 2, cells := 0, slots := 0, locals := 42 } s m args below meth c H locs 0 0 (MQ below (eQ D (some (.int r0)) (fun _ : Unit => [o_Y a Y_islands Y_ways, ai (a 7) cI 144 Y_islandAfter]) A) args s 0 0 A) (F0 m 3 ls []) := by
    refine zl1_ind (fun rec3 ih3 y1 hm => ?_)
    intro H locs hP hD hS ls hl
    unfold m_X2_nextIsland_b3 at hm
    refine lv_iload hx hb dX2_nextIsland_3 (lv_at hl 4 rfl) ?_
    refine lv_bipush (v := 12) hx hb dX2_nextIsland_5 (by decide) ?_
    refine lv_icmp_ge (tgt := 49) hx hb dX2_nextIsland_7 (by decide) (fun c7 => ?_) (fun c7 => ?_)
    · have hm := ip c7 hm
      refine lv_iconst (v := (-1)) hx hb dX2_nextIsland_49 (by decide) ?_
      cases hm
      exact rI () hx hb hr hlk hP hD hS dX2_nextIsland_50
    · have hm := ine c7 hm
      refine lv_iload_n hx hb dX2_nextIsland_10 rfl (lv_at hl 1 rfl) ?_
      refine lv_iload hx hb dX2_nextIsland_11 (lv_at hl 4 rfl) ?_
      refine lv_iload_n hx hb dX2_nextIsland_13 rfl (lv_at hl 2 rfl) ?_
      refine lv_imul hx hb dX2_nextIsland_14 ?_
      refine lv_iadd hx hb dX2_nextIsland_15 ?_
      obtain ⟨v2, ev2, hm⟩ := lt1_inv hm
      refine ltop ev2 ?_
      refine lv_istore (lv' := [(5, .int v2), (0, .ref (a 5)), (1, .int x1), (2, .int x2), (3, .int x3), (4, .int y1)]) hx hb dX2_nextIsland_16 hl (by decide) rfl (fun ls hl => ?_)
      refine lv_iload hx hb dX2_nextIsland_18 (lv_at hl 0 rfl) ?_
      refine lv_iload_n hx hb dX2_nextIsland_20 rfl (lv_at hl 4 rfl) ?_
      refine lv_icmp_lt (tgt := 26) hx hb dX2_nextIsland_21 (by decide) (fun c21 => ?_) (fun c21 => ?_)
      · have hm := ip c21 hm
        refine lv_aload_n hx hb dX2_nextIsland_26 rfl (lv_at hl 1 rfl) ?_
        refine lv_iload hx hb dX2_nextIsland_27 (lv_at hl 0 rfl) ?_
        obtain ⟨v3, h_v3, hm⟩ := lt1_inv hm
        refine cVs ⟨hx, hb, hml, hown, hts⟩ (c_X2_islandOn l D cI cJ cS cB a Y_islands Y_ways Y_islandAfter v2 v3 h_v3) (cwV 1 hts gX2_nextIsland_X2_islandOn rfl rfl rfl hd_X2_islandOn ⟨(Nat.le_of_ble_eq_true rfl), (Nat.le_of_ble_eq_true rfl)⟩) hK hP hD hS hA [0, 1] rfl rfl rfl hl.1 (Nat.le_of_ble_eq_true rfl) ⟨Nat.zero_le _, Nat.zero_le _⟩ 0 rfl rfl rfl rfl dX2_nextIsland_29 (fun H locs hP hD hS => ?_)
        refine lv_iconst (v := (-1)) hx hb dX2_nextIsland_32 (by decide) ?_
        refine lv_icmp_eq (tgt := 43) hx hb dX2_nextIsland_33 (by decide) (fun c33 => ?_) (fun c33 => ?_)
        · have hm := ip c33 hm
          obtain ⟨v4, ev4, hm⟩ := lt1_inv hm
          refine lv_iinc (v := v4) (lv' := [(4, .int v4), (5, .int v2), (0, .ref (a 5)), (1, .int x1), (2, .int x2), (3, .int x3)]) hx hb dX2_nextIsland_43 hl (k := 5) rfl ev4 (by decide) rfl (fun ls hl => ?_)
          refine lv_goto (tgt := 3) hx hb dX2_nextIsland_46 (by decide) ?_
          exact ih3 v4 hm _ _ hP hD hS ls (lv_sub hl [2, 3, 4, 5, 0] rfl)
        · have hm := ine c33 hm
          exact h36 v2 hm _ _ hP hD hS ls (lv_sub hl [1, 0] rfl)
      · have hm := ine c21 hm
        refine lv_iconst (v := (-1)) hx hb dX2_nextIsland_24 (by decide) ?_
        cases hm
        exact rI () hx hb hr hlk hP hD hS dX2_nextIsland_25
  refine lv_iconst (v := 1) hx hb dX2_nextIsland_0 (by decide) ?_
  refine lv_istore (lv' := [(4, .int 1), (0, .ref (a 5)), (1, .int x1), (2, .int x2), (3, .int x3)]) hx hb dX2_nextIsland_1 hl (by decide) rfl (fun ls hl => ?_)
  exact h3  N 1 hm _ _ hP hD hS ls (lv_sub hl [1, 2, 3, 4, 0] rfl)
theorem hd_X2_addWay : yX2_addWay.cls = RX2 ∧ yX2_addWay.cls ≠ "java/lang/invoke/MethodHandle" ∧ yX2_addWay.cls ≠ "java/lang/invoke/VarHandle" ∧ (parseMethodDescriptor yX2_addWay.desc).map (fun d => d.parameters.length) = some 3 := by decide +kernel
def m_X2_addWay (Y_ways : Int32) (Y_cellOf : Nat → Int32) (Y_firstOf : Nat → Int32) (Y_secondOf : Nat → Int32) (Y_firstCellOf : Nat → Int32) (Y_secondCellOf : Nat → Int32) (Y_strideOf : Nat → Int32) (Y_waysOf : Nat → Int32) (x1 : Int32) (x2 : Int32) (x3 : Int32) : Int32 × (Nat → Int32) × (Nat → Int32) × (Nat → Int32) × (Nat → Int32) × (Nat → Int32) × (Nat → Int32) :=
  if x2 = ((-1)) then ((Y_ways, Y_firstOf, Y_secondOf, Y_firstCellOf, Y_secondCellOf, Y_strideOf, Y_waysOf)) else (if Y_ways < 48 then (lt1 (vPut 48 Y_firstOf Y_ways x1) (fun v1 => lt1 (vPut 48 Y_secondOf Y_ways x2) (fun v2 => lt1 (m_X2_cellOf Y_cellOf x1) (fun v3 => lt1 (vPut 48 Y_firstCellOf Y_ways v3) (fun v4 => lt1 (m_X2_cellOf Y_cellOf x2) (fun v5 => lt1 (vPut 48 Y_secondCellOf Y_ways v5) (fun v6 => lt1 (vPut 48 Y_strideOf Y_ways x3) (fun v7 => lt1 (vAdd 24 Y_waysOf x1 1) (fun v8 => lt1 (vAdd 24 v8 x2 1) (fun v9 => lt1 (Y_ways + 1) (fun v10 => (v10, v1, v2, v4, v6, v7, v9)))))))))))) else ((Y_ways, Y_firstOf, Y_secondOf, Y_firstCellOf, Y_secondCellOf, Y_strideOf, Y_waysOf)))
set_option maxHeartbeats 4000000 in
set_option maxRecDepth 100000 in
theorem c_X2_addWay (l : Launch) (D : va_G) (cI cJ cS cB : ClassId) (a : Nat → Nat) (Y_islands : Int32) (Y_ways : Int32) (Y_cellOf : Nat → Int32) (Y_firstOf : Nat → Int32) (Y_secondOf : Nat → Int32) (Y_firstCellOf : Nat → Int32) (Y_secondCellOf : Nat → Int32) (Y_strideOf : Nat → Int32) (Y_waysOf : Nat → Int32) (x1 : Int32) (x2 : Int32) (x3 : Int32) (Y_ways' : Int32) (Y_firstOf' : Nat → Int32) (Y_secondOf' : Nat → Int32) (Y_firstCellOf' : Nat → Int32) (Y_secondCellOf' : Nat → Int32) (Y_strideOf' : Nat → Int32) (Y_waysOf' : Nat → Int32) (hm : m_X2_addWay Y_ways Y_cellOf Y_firstOf Y_secondOf Y_firstCellOf Y_secondCellOf Y_strideOf Y_waysOf x1 x2 x3 = (Y_ways', Y_firstOf', Y_secondOf', Y_firstCellOf', Y_secondCellOf', Y_strideOf', Y_waysOf')) :
    mU l D (TYs cI cJ cS cB) yX2_addWay wsX2_addWay { frames := 2, cells := 0, slots := 0, locals := 42 } [.ref (a 5), .int x1, .int x2, .int x3] [o_Y a Y_islands Y_ways, ai (a 6) cI 24 Y_cellOf, ai (a 8) cI 48 Y_firstOf, ai (a 9) cI 48 Y_secondOf, ai (a 10) cI 48 Y_firstCellOf, ai (a 11) cI 48 Y_secondCellOf, ai (a 12) cI 48 Y_strideOf, ai (a 13) cI 24 Y_waysOf] [o_Y a Y_islands Y_ways', ai (a 6) cI 24 Y_cellOf, ai (a 8) cI 48 Y_firstOf', ai (a 9) cI 48 Y_secondOf', ai (a 10) cI 48 Y_firstCellOf', ai (a 11) cI 48 Y_secondCellOf', ai (a 12) cI 48 Y_strideOf', ai (a 13) cI 24 Y_waysOf'] none := by
  refine mG_of (cc := cX2_addWay) (maxL := 4) (ret := none) (by decide) rfl rfl (Nat.le_of_ble_eq_true rfl) ?_
  intro p e s m args below meth c A hx hb hr hml hlk hnm hts hown hK hP hD hA hS ls hl
  have hl : lv_has ls 4 [(0, .ref (a 5)), (1, .int x1), (2, .int x2), (3, .int x3)] := hl
  have hiX2 : ∀ w ∈ wsX20, w ∈ wsX2_addWay := fun w h => List.mem_cons_of_mem _ (List.mem_append_right _ h)
  unfold m_X2_addWay at hm
  refine lv_iload_n hx hb dX2_addWay_0 rfl (lv_at hl 2 rfl) ?_
  refine lv_iconst (v := (-1)) hx hb dX2_addWay_1 (by decide) ?_
  refine lv_icmp_eq (tgt := 14) hx hb dX2_addWay_2 (by decide) (fun c2 => ?_) (fun c2 => ?_)
  · have hm := ip c2 hm
    cases hm
    exact rV () hx hb hr hlk hP hD hS dX2_addWay_14
  · have hm := ine c2 hm
    refine lv_aload_n hx hb dX2_addWay_5 rfl (lv_at hl 0 rfl) ?_
    refine va_get (D := D) (ci := 2) (v := .int Y_ways) (C := RX2) (T := TX2) (N := 11) hx hb hts hiX2 hown hK.1 hP 0 rfl rfl 10 (by decide) (hts (.fieldLink RX2 73 "IslandBridges$Layout" "ways" "I") (List.mem_of_getElem? (i := 1) rfl)) (fun _ h9 => h9) rfl dX2_addWay_6 ?_
    refine lv_bipush (v := 48) hx hb dX2_addWay_9 (by decide) ?_
    refine lv_icmp_lt (tgt := 15) hx hb dX2_addWay_11 (by decide) (fun c11 => ?_) (fun c11 => ?_)
    · have hm := ip c11 hm
      refine lv_aload_n hx hb dX2_addWay_15 rfl (lv_at hl 0 rfl) ?_
      refine va_get (D := D) (ci := 2) (v := .ref (a 8)) (C := RX2) (T := TX2) (N := 11) hx hb hts hiX2 hown hK.1 hP 0 rfl rfl 2 (by decide) (hts (.fieldLink RX2 18 "IslandBridges$Layout" "firstOf" "[I") (List.mem_of_getElem? (i := 2) rfl)) (fun _ h9 => h9) rfl dX2_addWay_16 ?_
      refine lv_aload_n hx hb dX2_addWay_19 rfl (lv_at hl 0 rfl) ?_
      refine va_get (D := D) (ci := 2) (v := .int Y_ways) (C := RX2) (T := TX2) (N := 11) hx hb hts hiX2 hown hK.1 hP 0 rfl rfl 10 (by decide) (hts (.fieldLink RX2 73 "IslandBridges$Layout" "ways" "I") (List.mem_of_getElem? (i := 1) rfl)) (fun _ h9 => h9) rfl dX2_addWay_20 ?_
      refine lv_iload_n hx hb dX2_addWay_23 rfl (lv_at hl 1 rfl) ?_
      obtain ⟨v1, ev1, hm⟩ := lt1_inv hm
      refine cNx ⟨hx, hb, hml, hown, hts⟩ (c_X9_put l D cI cJ cS cB (a 8) 48 (Nat.le_of_ble_eq_true rfl) Y_firstOf Y_ways x1 v1 ev1) ⟨va_cnB 3 hts gX2_addWay_X9_put_n82 rfl rfl rfl (kn_5 hK) (hts (.initialized RX9) (List.mem_of_getElem? (i := 9) rfl)) hd_X9_put ⟨(Nat.le_of_ble_eq_true rfl), (Nat.le_of_ble_eq_true rfl)⟩, (hts (.static yX9_put) (List.mem_of_getElem? (i := 8) rfl)), trivial⟩ hK hP hD hS hA [2] rfl rfl [o_Y a Y_islands Y_ways, ai (a 6) cI 24 Y_cellOf, ai (a 8) cI 48 v1, ai (a 9) cI 48 Y_secondOf, ai (a 10) cI 48 Y_firstCellOf, ai (a 11) cI 48 Y_secondCellOf, ai (a 12) cI 48 Y_strideOf, ai (a 13) cI 24 Y_waysOf] [(false, 0), (false, 1), (true, 0), (false, 3), (false, 4), (false, 5), (false, 6), (false, 7)] rfl rfl rfl hl.1 (Nat.le_of_ble_eq_true rfl) ⟨Nat.zero_le _, Nat.zero_le _⟩ rfl dX2_addWay_24 (fun H locs hP hD hS => ?_)
      refine lv_aload_n hx hb dX2_addWay_27 rfl (lv_at hl 0 rfl) ?_
      refine va_get (D := D) (ci := 2) (v := .ref (a 9)) (C := RX2) (T := TX2) (N := 11) hx hb hts hiX2 hown hK.1 hP 0 rfl rfl 3 (by decide) (hts (.fieldLink RX2 21 "IslandBridges$Layout" "secondOf" "[I") (List.mem_of_getElem? (i := 3) rfl)) (fun _ h9 => h9) rfl dX2_addWay_28 ?_
      refine lv_aload_n hx hb dX2_addWay_31 rfl (lv_at hl 0 rfl) ?_
      refine va_get (D := D) (ci := 2) (v := .int Y_ways) (C := RX2) (T := TX2) (N := 11) hx hb hts hiX2 hown hK.1 hP 0 rfl rfl 10 (by decide) (hts (.fieldLink RX2 73 "IslandBridges$Layout" "ways" "I") (List.mem_of_getElem? (i := 1) rfl)) (fun _ h9 => h9) rfl dX2_addWay_32 ?_
      refine lv_iload_n hx hb dX2_addWay_35 rfl (lv_at hl 2 rfl) ?_
      obtain ⟨v2, ev2, hm⟩ := lt1_inv hm
      refine cNx ⟨hx, hb, hml, hown, hts⟩ (c_X9_put l D cI cJ cS cB (a 9) 48 (Nat.le_of_ble_eq_true rfl) Y_secondOf Y_ways x2 v2 ev2) ⟨va_cnB 3 hts gX2_addWay_X9_put_n82 rfl rfl rfl (kn_5 hK) (hts (.initialized RX9) (List.mem_of_getElem? (i := 9) rfl)) hd_X9_put ⟨(Nat.le_of_ble_eq_true rfl), (Nat.le_of_ble_eq_true rfl)⟩, (hts (.static yX9_put) (List.mem_of_getElem? (i := 8) rfl)), trivial⟩ hK hP hD hS hA [3] rfl rfl [o_Y a Y_islands Y_ways, ai (a 6) cI 24 Y_cellOf, ai (a 8) cI 48 v1, ai (a 9) cI 48 v2, ai (a 10) cI 48 Y_firstCellOf, ai (a 11) cI 48 Y_secondCellOf, ai (a 12) cI 48 Y_strideOf, ai (a 13) cI 24 Y_waysOf] [(false, 0), (false, 1), (false, 2), (true, 0), (false, 4), (false, 5), (false, 6), (false, 7)] rfl rfl rfl hl.1 (Nat.le_of_ble_eq_true rfl) ⟨Nat.zero_le _, Nat.zero_le _⟩ rfl dX2_addWay_36 (fun H locs hP hD hS => ?_)
      refine lv_aload_n hx hb dX2_addWay_39 rfl (lv_at hl 0 rfl) ?_
      refine va_get (D := D) (ci := 2) (v := .ref (a 10)) (C := RX2) (T := TX2) (N := 11) hx hb hts hiX2 hown hK.1 hP 0 rfl rfl 4 (by decide) (hts (.fieldLink RX2 24 "IslandBridges$Layout" "firstCellOf" "[I") (List.mem_of_getElem? (i := 4) rfl)) (fun _ h9 => h9) rfl dX2_addWay_40 ?_
      refine lv_aload_n hx hb dX2_addWay_43 rfl (lv_at hl 0 rfl) ?_
      refine va_get (D := D) (ci := 2) (v := .int Y_ways) (C := RX2) (T := TX2) (N := 11) hx hb hts hiX2 hown hK.1 hP 0 rfl rfl 10 (by decide) (hts (.fieldLink RX2 73 "IslandBridges$Layout" "ways" "I") (List.mem_of_getElem? (i := 1) rfl)) (fun _ h9 => h9) rfl dX2_addWay_44 ?_
      refine lv_aload_n hx hb dX2_addWay_47 rfl (lv_at hl 0 rfl) ?_
      refine lv_iload_n hx hb dX2_addWay_48 rfl (lv_at hl 1 rfl) ?_
      obtain ⟨v3, h_v3, hm⟩ := lt1_inv hm
      refine cVs ⟨hx, hb, hml, hown, hts⟩ (c_X2_cellOf l D cI cJ cS cB a Y_islands Y_ways Y_cellOf x1 v3 h_v3) (cwV 1 hts gX2_addWay_X2_cellOf rfl rfl rfl hd_X2_cellOf ⟨(Nat.le_of_ble_eq_true rfl), (Nat.le_of_ble_eq_true rfl)⟩) hK hP hD hS hA [0, 1] rfl rfl rfl hl.1 (Nat.le_of_ble_eq_true rfl) ⟨Nat.zero_le _, Nat.zero_le _⟩ 0 rfl rfl rfl rfl dX2_addWay_49 (fun H locs hP hD hS => ?_)
      obtain ⟨v4, ev4, hm⟩ := lt1_inv hm
      refine cNx ⟨hx, hb, hml, hown, hts⟩ (c_X9_put l D cI cJ cS cB (a 10) 48 (Nat.le_of_ble_eq_true rfl) Y_firstCellOf Y_ways v3 v4 ev4) ⟨va_cnB 3 hts gX2_addWay_X9_put_n82 rfl rfl rfl (kn_5 hK) (hts (.initialized RX9) (List.mem_of_getElem? (i := 9) rfl)) hd_X9_put ⟨(Nat.le_of_ble_eq_true rfl), (Nat.le_of_ble_eq_true rfl)⟩, (hts (.static yX9_put) (List.mem_of_getElem? (i := 8) rfl)), trivial⟩ hK hP hD hS hA [4] rfl rfl [o_Y a Y_islands Y_ways, ai (a 6) cI 24 Y_cellOf, ai (a 8) cI 48 v1, ai (a 9) cI 48 v2, ai (a 10) cI 48 v4, ai (a 11) cI 48 Y_secondCellOf, ai (a 12) cI 48 Y_strideOf, ai (a 13) cI 24 Y_waysOf] [(false, 0), (false, 1), (false, 2), (false, 3), (true, 0), (false, 5), (false, 6), (false, 7)] rfl rfl rfl hl.1 (Nat.le_of_ble_eq_true rfl) ⟨Nat.zero_le _, Nat.zero_le _⟩ rfl dX2_addWay_52 (fun H locs hP hD hS => ?_)
      refine lv_aload_n hx hb dX2_addWay_55 rfl (lv_at hl 0 rfl) ?_
      refine va_get (D := D) (ci := 2) (v := .ref (a 11)) (C := RX2) (T := TX2) (N := 11) hx hb hts hiX2 hown hK.1 hP 0 rfl rfl 5 (by decide) (hts (.fieldLink RX2 27 "IslandBridges$Layout" "secondCellOf" "[I") (List.mem_of_getElem? (i := 5) rfl)) (fun _ h9 => h9) rfl dX2_addWay_56 ?_
      refine lv_aload_n hx hb dX2_addWay_59 rfl (lv_at hl 0 rfl) ?_
      refine va_get (D := D) (ci := 2) (v := .int Y_ways) (C := RX2) (T := TX2) (N := 11) hx hb hts hiX2 hown hK.1 hP 0 rfl rfl 10 (by decide) (hts (.fieldLink RX2 73 "IslandBridges$Layout" "ways" "I") (List.mem_of_getElem? (i := 1) rfl)) (fun _ h9 => h9) rfl dX2_addWay_60 ?_
      refine lv_aload_n hx hb dX2_addWay_63 rfl (lv_at hl 0 rfl) ?_
      refine lv_iload_n hx hb dX2_addWay_64 rfl (lv_at hl 2 rfl) ?_
      obtain ⟨v5, h_v5, hm⟩ := lt1_inv hm
      refine cVs ⟨hx, hb, hml, hown, hts⟩ (c_X2_cellOf l D cI cJ cS cB a Y_islands Y_ways Y_cellOf x2 v5 h_v5) (cwV 1 hts gX2_addWay_X2_cellOf rfl rfl rfl hd_X2_cellOf ⟨(Nat.le_of_ble_eq_true rfl), (Nat.le_of_ble_eq_true rfl)⟩) hK hP hD hS hA [0, 1] rfl rfl rfl hl.1 (Nat.le_of_ble_eq_true rfl) ⟨Nat.zero_le _, Nat.zero_le _⟩ 0 rfl rfl rfl rfl dX2_addWay_65 (fun H locs hP hD hS => ?_)
      obtain ⟨v6, ev6, hm⟩ := lt1_inv hm
      refine cNx ⟨hx, hb, hml, hown, hts⟩ (c_X9_put l D cI cJ cS cB (a 11) 48 (Nat.le_of_ble_eq_true rfl) Y_secondCellOf Y_ways v5 v6 ev6) ⟨va_cnB 3 hts gX2_addWay_X9_put_n82 rfl rfl rfl (kn_5 hK) (hts (.initialized RX9) (List.mem_of_getElem? (i := 9) rfl)) hd_X9_put ⟨(Nat.le_of_ble_eq_true rfl), (Nat.le_of_ble_eq_true rfl)⟩, (hts (.static yX9_put) (List.mem_of_getElem? (i := 8) rfl)), trivial⟩ hK hP hD hS hA [5] rfl rfl [o_Y a Y_islands Y_ways, ai (a 6) cI 24 Y_cellOf, ai (a 8) cI 48 v1, ai (a 9) cI 48 v2, ai (a 10) cI 48 v4, ai (a 11) cI 48 v6, ai (a 12) cI 48 Y_strideOf, ai (a 13) cI 24 Y_waysOf] [(false, 0), (false, 1), (false, 2), (false, 3), (false, 4), (true, 0), (false, 6), (false, 7)] rfl rfl rfl hl.1 (Nat.le_of_ble_eq_true rfl) ⟨Nat.zero_le _, Nat.zero_le _⟩ rfl dX2_addWay_68 (fun H locs hP hD hS => ?_)
      refine lv_aload_n hx hb dX2_addWay_71 rfl (lv_at hl 0 rfl) ?_
      refine va_get (D := D) (ci := 2) (v := .ref (a 12)) (C := RX2) (T := TX2) (N := 11) hx hb hts hiX2 hown hK.1 hP 0 rfl rfl 6 (by decide) (hts (.fieldLink RX2 30 "IslandBridges$Layout" "strideOf" "[I") (List.mem_of_getElem? (i := 6) rfl)) (fun _ h9 => h9) rfl dX2_addWay_72 ?_
      refine lv_aload_n hx hb dX2_addWay_75 rfl (lv_at hl 0 rfl) ?_
      refine va_get (D := D) (ci := 2) (v := .int Y_ways) (C := RX2) (T := TX2) (N := 11) hx hb hts hiX2 hown hK.1 hP 0 rfl rfl 10 (by decide) (hts (.fieldLink RX2 73 "IslandBridges$Layout" "ways" "I") (List.mem_of_getElem? (i := 1) rfl)) (fun _ h9 => h9) rfl dX2_addWay_76 ?_
      refine lv_iload_n hx hb dX2_addWay_79 rfl (lv_at hl 3 rfl) ?_
      obtain ⟨v7, ev7, hm⟩ := lt1_inv hm
      refine cNx ⟨hx, hb, hml, hown, hts⟩ (c_X9_put l D cI cJ cS cB (a 12) 48 (Nat.le_of_ble_eq_true rfl) Y_strideOf Y_ways x3 v7 ev7) ⟨va_cnB 3 hts gX2_addWay_X9_put_n82 rfl rfl rfl (kn_5 hK) (hts (.initialized RX9) (List.mem_of_getElem? (i := 9) rfl)) hd_X9_put ⟨(Nat.le_of_ble_eq_true rfl), (Nat.le_of_ble_eq_true rfl)⟩, (hts (.static yX9_put) (List.mem_of_getElem? (i := 8) rfl)), trivial⟩ hK hP hD hS hA [6] rfl rfl [o_Y a Y_islands Y_ways, ai (a 6) cI 24 Y_cellOf, ai (a 8) cI 48 v1, ai (a 9) cI 48 v2, ai (a 10) cI 48 v4, ai (a 11) cI 48 v6, ai (a 12) cI 48 v7, ai (a 13) cI 24 Y_waysOf] [(false, 0), (false, 1), (false, 2), (false, 3), (false, 4), (false, 5), (true, 0), (false, 7)] rfl rfl rfl hl.1 (Nat.le_of_ble_eq_true rfl) ⟨Nat.zero_le _, Nat.zero_le _⟩ rfl dX2_addWay_80 (fun H locs hP hD hS => ?_)
      refine lv_aload_n hx hb dX2_addWay_83 rfl (lv_at hl 0 rfl) ?_
      refine va_get (D := D) (ci := 2) (v := .ref (a 13)) (C := RX2) (T := TX2) (N := 11) hx hb hts hiX2 hown hK.1 hP 0 rfl rfl 7 (by decide) (hts (.fieldLink RX2 33 "IslandBridges$Layout" "waysOf" "[I") (List.mem_of_getElem? (i := 7) rfl)) (fun _ h9 => h9) rfl dX2_addWay_84 ?_
      refine lv_iload_n hx hb dX2_addWay_87 rfl (lv_at hl 1 rfl) ?_
      refine lv_iconst (v := 1) hx hb dX2_addWay_88 (by decide) ?_
      obtain ⟨v8, ev8, hm⟩ := lt1_inv hm
      refine cNx ⟨hx, hb, hml, hown, hts⟩ (c_X9_add l D cI cJ cS cB (a 13) 24 (Nat.le_of_ble_eq_true rfl) Y_waysOf x1 1 v8 ev8) ⟨va_cnB 3 hts gX2_addWay_X9_add_n99 rfl rfl rfl (kn_6 hK) (hts (.initialized RX9) (List.mem_of_getElem? (i := 9) rfl)) hd_X9_add ⟨(Nat.le_of_ble_eq_true rfl), (Nat.le_of_ble_eq_true rfl)⟩, (hts (.static yX9_add) (List.mem_of_getElem? (i := 19) rfl)), trivial⟩ hK hP hD hS hA [7] rfl rfl [o_Y a Y_islands Y_ways, ai (a 6) cI 24 Y_cellOf, ai (a 8) cI 48 v1, ai (a 9) cI 48 v2, ai (a 10) cI 48 v4, ai (a 11) cI 48 v6, ai (a 12) cI 48 v7, ai (a 13) cI 24 v8] [(false, 0), (false, 1), (false, 2), (false, 3), (false, 4), (false, 5), (false, 6), (true, 0)] rfl rfl rfl hl.1 (Nat.le_of_ble_eq_true rfl) ⟨Nat.zero_le _, Nat.zero_le _⟩ rfl dX2_addWay_89 (fun H locs hP hD hS => ?_)
      refine lv_aload_n hx hb dX2_addWay_92 rfl (lv_at hl 0 rfl) ?_
      refine va_get (D := D) (ci := 2) (v := .ref (a 13)) (C := RX2) (T := TX2) (N := 11) hx hb hts hiX2 hown hK.1 hP 0 rfl rfl 7 (by decide) (hts (.fieldLink RX2 33 "IslandBridges$Layout" "waysOf" "[I") (List.mem_of_getElem? (i := 7) rfl)) (fun _ h9 => h9) rfl dX2_addWay_93 ?_
      refine lv_iload_n hx hb dX2_addWay_96 rfl (lv_at hl 2 rfl) ?_
      refine lv_iconst (v := 1) hx hb dX2_addWay_97 (by decide) ?_
      obtain ⟨v9, ev9, hm⟩ := lt1_inv hm
      refine cNx ⟨hx, hb, hml, hown, hts⟩ (c_X9_add l D cI cJ cS cB (a 13) 24 (Nat.le_of_ble_eq_true rfl) v8 x2 1 v9 ev9) ⟨va_cnB 3 hts gX2_addWay_X9_add_n99 rfl rfl rfl (kn_6 hK) (hts (.initialized RX9) (List.mem_of_getElem? (i := 9) rfl)) hd_X9_add ⟨(Nat.le_of_ble_eq_true rfl), (Nat.le_of_ble_eq_true rfl)⟩, (hts (.static yX9_add) (List.mem_of_getElem? (i := 19) rfl)), trivial⟩ hK hP hD hS hA [7] rfl rfl [o_Y a Y_islands Y_ways, ai (a 6) cI 24 Y_cellOf, ai (a 8) cI 48 v1, ai (a 9) cI 48 v2, ai (a 10) cI 48 v4, ai (a 11) cI 48 v6, ai (a 12) cI 48 v7, ai (a 13) cI 24 v9] [(false, 0), (false, 1), (false, 2), (false, 3), (false, 4), (false, 5), (false, 6), (true, 0)] rfl rfl rfl hl.1 (Nat.le_of_ble_eq_true rfl) ⟨Nat.zero_le _, Nat.zero_le _⟩ rfl dX2_addWay_98 (fun H locs hP hD hS => ?_)
      refine lv_aload_n hx hb dX2_addWay_101 rfl (lv_at hl 0 rfl) ?_
      refine lv_dup hx hb dX2_addWay_102 rfl ?_
      refine va_get (D := D) (ci := 2) (v := .int Y_ways) (C := RX2) (T := TX2) (N := 11) hx hb hts hiX2 hown hK.1 hP 0 rfl rfl 10 (by decide) (hts (.fieldLink RX2 73 "IslandBridges$Layout" "ways" "I") (List.mem_of_getElem? (i := 1) rfl)) (fun _ h9 => h9) rfl dX2_addWay_103 ?_
      refine lv_iconst (v := 1) hx hb dX2_addWay_106 (by decide) ?_
      refine lv_iadd hx hb dX2_addWay_107 ?_
      obtain ⟨v10, ev10, hm⟩ := lt1_inv hm
      refine ltop ev10 ?_
      refine va_put (D := D) (ci := 2) (v := .int v10) (ty := .int) (C := RX2) (T := TX2) (N := 11) hx hb hts hiX2 tyX2 tyX2_ok nmX2 hown hK.1 hP hD hS 0 rfl rfl 10 (by decide) (hts (.fieldLink RX2 73 "IslandBridges$Layout" "ways" "I") (List.mem_of_getElem? (i := 1) rfl)) (fun _ h9 => h9) rfl (by decide +kernel) rfl rfl (Nat.le_of_ble_eq_true rfl) dX2_addWay_108 (fun H locs hP hD hS => ?_)
      have hP : va_P D vwCl [o_Y a Y_islands v10, ai (a 6) cI 24 Y_cellOf, ai (a 8) cI 48 v1, ai (a 9) cI 48 v2, ai (a 10) cI 48 v4, ai (a 11) cI 48 v6, ai (a 12) cI 48 v7, ai (a 13) cI 24 v9] H := hP
      have hD : va_D A [o_Y a Y_islands v10, ai (a 6) cI 24 Y_cellOf, ai (a 8) cI 48 v1, ai (a 9) cI 48 v2, ai (a 10) cI 48 v4, ai (a 11) cI 48 v6, ai (a 12) cI 48 v7, ai (a 13) cI 24 v9] := hD
      cases hm
      exact rV () hx hb hr hlk hP hD hS dX2_addWay_111
    · have hm := ine c11 hm
      cases hm
      exact rV () hx hb hr hlk hP hD hS dX2_addWay_14
theorem hd_X2_readWays : yX2_readWays.cls = RX2 ∧ yX2_readWays.cls ≠ "java/lang/invoke/MethodHandle" ∧ yX2_readWays.cls ≠ "java/lang/invoke/VarHandle" ∧ (parseMethodDescriptor yX2_readWays.desc).map (fun d => d.parameters.length) = some 2 := by decide +kernel
def m_X2_readWays_b12 (N : Nat) (Y_islands : Int32) (Y_cellOf : Nat → Int32) (Y_islandAfter : Nat → Int32) (x1 : Int32) (x2 : Int32) (rec12 : Int32 → Int32 → (Nat → Int32) → (Nat → Int32) → (Nat → Int32) → (Nat → Int32) → (Nat → Int32) → (Nat → Int32) → Option (Int32 × (Nat → Int32) × (Nat → Int32) × (Nat → Int32) × (Nat → Int32) × (Nat → Int32) × (Nat → Int32))) (y1 : Int32) (y2 : Int32) (y3 : Nat → Int32) (y4 : Nat → Int32) (y5 : Nat → Int32) (y6 : Nat → Int32) (y7 : Nat → Int32) (y8 : Nat → Int32) : Option (Int32 × (Nat → Int32) × (Nat → Int32) × (Nat → Int32) × (Nat → Int32) × (Nat → Int32) × (Nat → Int32)) :=
  if Y_islands ≤ y1 then (some ((y2, y3, y4, y5, y6, y7, y8))) else (lt1 (m_X2_cellOf Y_cellOf y1) (fun v9 => rmd v9 x1 (fun v10 => bd1 (m_X2_nextIsland N Y_islandAfter v9 1 ((v9 - v10) + x1)) (fun v11 => lt7 (m_X2_addWay y2 Y_cellOf y3 y4 y5 y6 y7 y8 y1 v11 1) (fun v12 v13 v14 v15 v16 v17 v18 => bd1 (m_X2_nextIsland N Y_islandAfter v9 x1 x2) (fun v19 => lt7 (m_X2_addWay v12 Y_cellOf v13 v14 v15 v16 v17 v18 y1 v19 x1) (fun v20 v21 v22 v23 v24 v25 v26 => lt1 (y1 + 1) (fun v27 => rec12 v27 v20 v21 v22 v23 v24 v25 v26))))))))
def m_X2_readWays (N : Nat) (Y_islands : Int32) (Y_cellOf : Nat → Int32) (Y_islandAfter : Nat → Int32) (Y_firstOf : Nat → Int32) (Y_secondOf : Nat → Int32) (Y_firstCellOf : Nat → Int32) (Y_secondCellOf : Nat → Int32) (Y_strideOf : Nat → Int32) (Y_waysOf : Nat → Int32) (x1 : Int32) (x2 : Int32) : Option (Int32 × (Nat → Int32) × (Nat → Int32) × (Nat → Int32) × (Nat → Int32) × (Nat → Int32) × (Nat → Int32)) :=
  if x1 = 0 then (some ((0, Y_firstOf, Y_secondOf, Y_firstCellOf, Y_secondCellOf, Y_strideOf, Y_waysOf))) else (zl8 (m_X2_readWays_b12 N Y_islands Y_cellOf Y_islandAfter x1 x2) N 0 0 Y_firstOf Y_secondOf Y_firstCellOf Y_secondCellOf Y_strideOf Y_waysOf)
set_option maxHeartbeats 4000000 in
set_option maxRecDepth 100000 in
theorem c_X2_readWays (l : Launch) (D : va_G) (cI cJ cS cB : ClassId) (a : Nat → Nat) (Y_islands : Int32) (Y_ways : Int32) (Y_cellOf : Nat → Int32) (Y_islandAfter : Nat → Int32) (Y_firstOf : Nat → Int32) (Y_secondOf : Nat → Int32) (Y_firstCellOf : Nat → Int32) (Y_secondCellOf : Nat → Int32) (Y_strideOf : Nat → Int32) (Y_waysOf : Nat → Int32) (x1 : Int32) (x2 : Int32) (N : Nat) (Y_ways' : Int32) (Y_firstOf' : Nat → Int32) (Y_secondOf' : Nat → Int32) (Y_firstCellOf' : Nat → Int32) (Y_secondCellOf' : Nat → Int32) (Y_strideOf' : Nat → Int32) (Y_waysOf' : Nat → Int32) (hm : m_X2_readWays N Y_islands Y_cellOf Y_islandAfter Y_firstOf Y_secondOf Y_firstCellOf Y_secondCellOf Y_strideOf Y_waysOf x1 x2 = some (Y_ways', Y_firstOf', Y_secondOf', Y_firstCellOf', Y_secondCellOf', Y_strideOf', Y_waysOf')) :
    mU l D (TYs cI cJ cS cB) yX2_readWays wsX2_readWays { frames := 3, cells := 0, slots := 0, locals := 67 } [.ref (a 5), .int x1, .int x2] [o_Y a Y_islands Y_ways, ai (a 6) cI 24 Y_cellOf, ai (a 7) cI 144 Y_islandAfter, ai (a 8) cI 48 Y_firstOf, ai (a 9) cI 48 Y_secondOf, ai (a 10) cI 48 Y_firstCellOf, ai (a 11) cI 48 Y_secondCellOf, ai (a 12) cI 48 Y_strideOf, ai (a 13) cI 24 Y_waysOf] [o_Y a Y_islands Y_ways', ai (a 6) cI 24 Y_cellOf, ai (a 7) cI 144 Y_islandAfter, ai (a 8) cI 48 Y_firstOf', ai (a 9) cI 48 Y_secondOf', ai (a 10) cI 48 Y_firstCellOf', ai (a 11) cI 48 Y_secondCellOf', ai (a 12) cI 48 Y_strideOf', ai (a 13) cI 24 Y_waysOf'] none := by
  refine mG_of (cc := cX2_readWays) (maxL := 5) (ret := none) (by decide) rfl rfl (Nat.le_of_ble_eq_true rfl) ?_
  intro p e s m args below meth c A hx hb hr hml hlk hnm hts hown hK hP hD hA hS ls hl
  have hl : lv_has ls 5 [(0, .ref (a 5)), (1, .int x1), (2, .int x2)] := hl
  have hiX2 : ∀ w ∈ wsX20, w ∈ wsX2_readWays := fun w h => List.mem_cons_of_mem _ (List.mem_append_right _ h)
  unfold m_X2_readWays at hm
  have h12 : ∀ (n : Nat) (y1 : Int32) (y2 : Int32) (y3 : Nat → Int32) (y4 : Nat → Int32) (y5 : Nat → Int32) (y6 : Nat → Int32) (y7 : Nat → Int32) (y8 : Nat → Int32), zl8 (m_X2_readWays_b12 N Y_islands Y_cellOf Y_islandAfter x1 x2) n y1 y2 y3 y4 y5 y6 y7 y8 = some (Y_ways', Y_firstOf', Y_secondOf', Y_firstCellOf', Y_secondCellOf', Y_strideOf', Y_waysOf') → ∀ (H : Heap) (locs : List Loc), va_P D vwCl [o_Y a Y_islands y2, ai (a 6) cI 24 Y_cellOf, ai (a 7) cI 144 Y_islandAfter, ai (a 8) cI 48 y3, ai (a 9) cI 48 y4, ai (a 10) cI 48 y5, ai (a 11) cI 48 y6, ai (a 12) cI 48 y7, ai (a 13) cI 24 y8] H → va_D A [o_Y a Y_islands y2, ai (a 6) cI 24 Y_cellOf, ai (a 7) cI 144 Y_islandAfter, ai (a 8) cI 48 y3, ai (a 9) cI 48 y4, ai (a 10) cI 48 y5, ai (a 11) cI 48 y6, ai (a 12) cI 48 y7, ai (a 13) cI 24 y8] → va_S A s.heap H locs → ∀ ls : Array Slot, lv_has ls 5 [(0, .ref (a 5)), (1, .int x1), (2, .int x2), (3, .int y1)] → W p l e { frames := 3, cells := 0, slots := 0, locals := 67 } s m args below meth c H locs 0 0 (MQ below (eQ D none (fun _ : Unit => [o_Y a Y_islands Y_ways', ai (a 6) cI 24 Y_cellOf, ai (a 7) cI 144 Y_islandAfter, ai (a 8) cI 48 Y_firstOf', ai (a 9) cI 48 Y_secondOf', ai (a 10) cI 48 Y_firstCellOf', ai (a 11) cI 48 Y_secondCellOf', ai (a 12) cI 48 Y_strideOf', ai (a 13) cI 24 Y_waysOf']) A) args s 0 0 A) (F0 m 12 ls []) := by
    refine zl8_ind (fun rec12 ih12 y1 y2 y3 y4 y5 y6 y7 y8 hm => ?_)
    intro H locs hP hD hS ls hl
    unfold m_X2_readWays_b12 at hm
    refine lv_iload_n hx hb dX2_readWays_12 rfl (lv_at hl 3 rfl) ?_
    refine lv_aload_n hx hb dX2_readWays_13 rfl (lv_at hl 0 rfl) ?_
    refine va_get (D := D) (ci := 2) (v := .int Y_islands) (C := RX2) (T := TX2) (N := 11) hx hb hts hiX2 hown hK.1 hP 0 rfl rfl 9 (by decide) (hts (.fieldLink RX2 76 "IslandBridges$Layout" "islands" "I") (List.mem_of_getElem? (i := 2) rfl)) (fun _ h9 => h9) rfl dX2_readWays_14 ?_
    refine lv_icmp_ge (tgt := 69) hx hb dX2_readWays_17 (by decide) (fun c17 => ?_) (fun c17 => ?_)
    · have hm := ip c17 hm
      cases hm
      exact rV () hx hb hr hlk hP hD hS dX2_readWays_69
    · have hm := ine c17 hm
      refine lv_aload_n hx hb dX2_readWays_20 rfl (lv_at hl 0 rfl) ?_
      refine lv_iload_n hx hb dX2_readWays_21 rfl (lv_at hl 3 rfl) ?_
      obtain ⟨v9, h_v9, hm⟩ := lt1_inv hm
      refine cVs ⟨hx, hb, hml, hown, hts⟩ (c_X2_cellOf l D cI cJ cS cB a Y_islands y2 Y_cellOf y1 v9 h_v9) (cwV 1 hts gX2_readWays_X2_cellOf rfl rfl rfl hd_X2_cellOf ⟨(Nat.le_of_ble_eq_true rfl), (Nat.le_of_ble_eq_true rfl)⟩) hK hP hD hS hA [0, 1] rfl rfl rfl hl.1 (Nat.le_of_ble_eq_true rfl) ⟨Nat.zero_le _, Nat.zero_le _⟩ 0 rfl rfl rfl rfl dX2_readWays_22 (fun H locs hP hD hS => ?_)
      refine lv_istore (lv' := [(4, .int v9), (0, .ref (a 5)), (1, .int x1), (2, .int x2), (3, .int y1)]) hx hb dX2_readWays_25 hl (by decide) rfl (fun ls hl => ?_)
      refine lv_aload_n hx hb dX2_readWays_27 rfl (lv_at hl 1 rfl) ?_
      refine lv_iload_n hx hb dX2_readWays_28 rfl (lv_at hl 4 rfl) ?_
      refine lv_aload_n hx hb dX2_readWays_29 rfl (lv_at hl 1 rfl) ?_
      refine lv_iload hx hb dX2_readWays_30 (lv_at hl 0 rfl) ?_
      refine lv_iconst (v := 1) hx hb dX2_readWays_32 (by decide) ?_
      refine lv_iload hx hb dX2_readWays_33 (lv_at hl 0 rfl) ?_
      refine lv_iload hx hb dX2_readWays_35 (lv_at hl 0 rfl) ?_
      refine lv_iload_n hx hb dX2_readWays_37 rfl (lv_at hl 2 rfl) ?_
      obtain ⟨v10, nv10, ev10, hm⟩ := rmd_inv hm
      refine lv_irem hx hb dX2_readWays_38 nv10 ?_
      refine ltop ev10 ?_
      refine lv_isub hx hb dX2_readWays_39 ?_
      refine lv_iload_n hx hb dX2_readWays_40 rfl (lv_at hl 2 rfl) ?_
      refine lv_iadd hx hb dX2_readWays_41 ?_
      obtain ⟨v11, h_v11, hm⟩ := bd1_inv hm
      refine cVs ⟨hx, hb, hml, hown, hts⟩ (c_X2_nextIsland l D cI cJ cS cB a Y_islands y2 Y_islandAfter v9 1 ((v9 - v10) + x1) N v11 h_v11) (cwV 3 hts gX2_readWays_X2_nextIsland rfl rfl rfl hd_X2_nextIsland ⟨(Nat.le_of_ble_eq_true rfl), (Nat.le_of_ble_eq_true rfl)⟩) hK hP hD hS hA [0, 2] rfl rfl rfl hl.1 (Nat.le_of_ble_eq_true rfl) ⟨Nat.zero_le _, Nat.zero_le _⟩ 0 rfl rfl rfl rfl dX2_readWays_42 (fun H locs hP hD hS => ?_)
      refine lv_iconst (v := 1) hx hb dX2_readWays_45 (by decide) ?_
      obtain ⟨v12, v13, v14, v15, v16, v17, v18, h_v12, hm⟩ := lt7_inv hm
      refine cVx ⟨hx, hb, hml, hown, hts⟩ (c_X2_addWay l D cI cJ cS cB a Y_islands y2 Y_cellOf y3 y4 y5 y6 y7 y8 y1 v11 1 v12 v13 v14 v15 v16 v17 v18 h_v12) (cwV 3 hts gX2_readWays_X2_addWay rfl rfl rfl hd_X2_addWay ⟨(Nat.le_of_ble_eq_true rfl), (Nat.le_of_ble_eq_true rfl)⟩) hK hP hD hS hA [0, 1, 3, 4, 5, 6, 7, 8] rfl rfl [o_Y a Y_islands v12, ai (a 6) cI 24 Y_cellOf, ai (a 7) cI 144 Y_islandAfter, ai (a 8) cI 48 v13, ai (a 9) cI 48 v14, ai (a 10) cI 48 v15, ai (a 11) cI 48 v16, ai (a 12) cI 48 v17, ai (a 13) cI 24 v18] [(true, 0), (true, 1), (false, 2), (true, 2), (true, 3), (true, 4), (true, 5), (true, 6), (true, 7)] rfl rfl rfl hl.1 (Nat.le_of_ble_eq_true rfl) ⟨Nat.zero_le _, Nat.zero_le _⟩ 0 rfl rfl rfl rfl dX2_readWays_46 (fun H locs hP hD hS => ?_)
      refine lv_aload_n hx hb dX2_readWays_49 rfl (lv_at hl 1 rfl) ?_
      refine lv_iload_n hx hb dX2_readWays_50 rfl (lv_at hl 4 rfl) ?_
      refine lv_aload_n hx hb dX2_readWays_51 rfl (lv_at hl 1 rfl) ?_
      refine lv_iload hx hb dX2_readWays_52 (lv_at hl 0 rfl) ?_
      refine lv_iload_n hx hb dX2_readWays_54 rfl (lv_at hl 2 rfl) ?_
      refine lv_iload_n hx hb dX2_readWays_55 rfl (lv_at hl 3 rfl) ?_
      obtain ⟨v19, h_v19, hm⟩ := bd1_inv hm
      refine cVs ⟨hx, hb, hml, hown, hts⟩ (c_X2_nextIsland l D cI cJ cS cB a Y_islands v12 Y_islandAfter v9 x1 x2 N v19 h_v19) (cwV 3 hts gX2_readWays_X2_nextIsland rfl rfl rfl hd_X2_nextIsland ⟨(Nat.le_of_ble_eq_true rfl), (Nat.le_of_ble_eq_true rfl)⟩) hK hP hD hS hA [0, 2] rfl rfl rfl hl.1 (Nat.le_of_ble_eq_true rfl) ⟨Nat.zero_le _, Nat.zero_le _⟩ 0 rfl rfl rfl rfl dX2_readWays_56 (fun H locs hP hD hS => ?_)
      refine lv_iload_n hx hb dX2_readWays_59 rfl (lv_at hl 2 rfl) ?_
      obtain ⟨v20, v21, v22, v23, v24, v25, v26, h_v20, hm⟩ := lt7_inv hm
      refine cVx ⟨hx, hb, hml, hown, hts⟩ (c_X2_addWay l D cI cJ cS cB a Y_islands v12 Y_cellOf v13 v14 v15 v16 v17 v18 y1 v19 x1 v20 v21 v22 v23 v24 v25 v26 h_v20) (cwV 3 hts gX2_readWays_X2_addWay rfl rfl rfl hd_X2_addWay ⟨(Nat.le_of_ble_eq_true rfl), (Nat.le_of_ble_eq_true rfl)⟩) hK hP hD hS hA [0, 1, 3, 4, 5, 6, 7, 8] rfl rfl [o_Y a Y_islands v20, ai (a 6) cI 24 Y_cellOf, ai (a 7) cI 144 Y_islandAfter, ai (a 8) cI 48 v21, ai (a 9) cI 48 v22, ai (a 10) cI 48 v23, ai (a 11) cI 48 v24, ai (a 12) cI 48 v25, ai (a 13) cI 24 v26] [(true, 0), (true, 1), (false, 2), (true, 2), (true, 3), (true, 4), (true, 5), (true, 6), (true, 7)] rfl rfl rfl hl.1 (Nat.le_of_ble_eq_true rfl) ⟨Nat.zero_le _, Nat.zero_le _⟩ 0 rfl rfl rfl rfl dX2_readWays_60 (fun H locs hP hD hS => ?_)
      obtain ⟨v27, ev27, hm⟩ := lt1_inv hm
      refine lv_iinc (v := v27) (lv' := [(3, .int v27), (4, .int v9), (0, .ref (a 5)), (1, .int x1), (2, .int x2)]) hx hb dX2_readWays_63 hl (k := 4) rfl ev27 (by decide) rfl (fun ls hl => ?_)
      refine lv_goto (tgt := 12) hx hb dX2_readWays_66 (by decide) ?_
      exact ih12 v27 v20 v21 v22 v23 v24 v25 v26 hm _ _ hP hD hS ls (lv_sub hl [2, 3, 4, 0] rfl)
  refine lv_aload_n hx hb dX2_readWays_0 rfl (lv_at hl 0 rfl) ?_
  refine lv_iconst (v := 0) hx hb dX2_readWays_1 (by decide) ?_
  refine va_put (D := D) (ci := 2) (v := .int 0) (ty := .int) (C := RX2) (T := TX2) (N := 11) hx hb hts hiX2 tyX2 tyX2_ok nmX2 hown hK.1 hP hD hS 0 rfl rfl 10 (by decide) (hts (.fieldLink RX2 73 "IslandBridges$Layout" "ways" "I") (List.mem_of_getElem? (i := 1) rfl)) (fun _ h9 => h9) rfl (by decide +kernel) rfl rfl (Nat.le_of_ble_eq_true rfl) dX2_readWays_2 (fun H locs hP hD hS => ?_)
  have hP : va_P D vwCl [o_Y a Y_islands 0, ai (a 6) cI 24 Y_cellOf, ai (a 7) cI 144 Y_islandAfter, ai (a 8) cI 48 Y_firstOf, ai (a 9) cI 48 Y_secondOf, ai (a 10) cI 48 Y_firstCellOf, ai (a 11) cI 48 Y_secondCellOf, ai (a 12) cI 48 Y_strideOf, ai (a 13) cI 24 Y_waysOf] H := hP
  have hD : va_D A [o_Y a Y_islands 0, ai (a 6) cI 24 Y_cellOf, ai (a 7) cI 144 Y_islandAfter, ai (a 8) cI 48 Y_firstOf, ai (a 9) cI 48 Y_secondOf, ai (a 10) cI 48 Y_firstCellOf, ai (a 11) cI 48 Y_secondCellOf, ai (a 12) cI 48 Y_strideOf, ai (a 13) cI 24 Y_waysOf] := hD
  refine lv_iload_n hx hb dX2_readWays_5 rfl (lv_at hl 1 rfl) ?_
  refine lv_if_ne (tgt := 10) hx hb dX2_readWays_6 (by decide) (fun c6 => ?_) (fun c6 => ?_)
  · have hm := ine c6 hm
    refine lv_iconst (v := 0) hx hb dX2_readWays_10 (by decide) ?_
    refine lv_istore_n (lv' := [(3, .int 0), (0, .ref (a 5)), (1, .int x1), (2, .int x2)]) hx hb dX2_readWays_11 rfl hl (by decide) rfl (fun ls hl => ?_)
    exact h12  N 0 0 Y_firstOf Y_secondOf Y_firstCellOf Y_secondCellOf Y_strideOf Y_waysOf hm _ _ hP hD hS ls (lv_sub hl [1, 2, 3, 0] rfl)
  · have hm := ip c6 hm
    cases hm
    exact rV () hx hb hr hlk hP hD hS dX2_readWays_9
theorem hd_X2_isAlongRow : yX2_isAlongRow.cls = RX2 ∧ yX2_isAlongRow.cls ≠ "java/lang/invoke/MethodHandle" ∧ yX2_isAlongRow.cls ≠ "java/lang/invoke/VarHandle" ∧ (parseMethodDescriptor yX2_isAlongRow.desc).map (fun d => d.parameters.length) = some 1 := by decide +kernel
def m_X2_isAlongRow (Y_strideOf : Nat → Int32) (x1 : Int32) : Int32 :=
  lt1 (vAt 48 Y_strideOf x1) (fun v1 => if v1 = 1 then (1) else (0))
set_option maxHeartbeats 4000000 in
set_option maxRecDepth 100000 in
theorem c_X2_isAlongRow (l : Launch) (D : va_G) (cI cJ cS cB : ClassId) (a : Nat → Nat) (Y_islands : Int32) (Y_ways : Int32) (Y_strideOf : Nat → Int32) (x1 : Int32) (r0 : Int32) (hm : m_X2_isAlongRow Y_strideOf x1 = r0) :
    mU l D (TYs cI cJ cS cB) yX2_isAlongRow wsX2_isAlongRow { frames := 1, cells := 0, slots := 0, locals := 21 } [.ref (a 5), .int x1] [o_Y a Y_islands Y_ways, ai (a 12) cI 48 Y_strideOf] [o_Y a Y_islands Y_ways, ai (a 12) cI 48 Y_strideOf] (some (.int r0)) := by
  refine mG_of (cc := cX2_isAlongRow) (maxL := 2) (ret := (some .boolean)) (by decide) rfl rfl (Nat.le_of_ble_eq_true rfl) ?_
  intro p e s m args below meth c A hx hb hr hml hlk hnm hts hown hK hP hD hA hS ls hl
  have hl : lv_has ls 2 [(0, .ref (a 5)), (1, .int x1)] := hl
  have hiX2 : ∀ w ∈ wsX20, w ∈ wsX2_isAlongRow := fun w h => List.mem_cons_of_mem _ (List.mem_append_right _ h)
  unfold m_X2_isAlongRow at hm
  refine lv_aload_n hx hb dX2_isAlongRow_0 rfl (lv_at hl 0 rfl) ?_
  refine va_get (D := D) (ci := 2) (v := .ref (a 12)) (C := RX2) (T := TX2) (N := 11) hx hb hts hiX2 hown hK.1 hP 0 rfl rfl 6 (by decide) (hts (.fieldLink RX2 30 "IslandBridges$Layout" "strideOf" "[I") (List.mem_of_getElem? (i := 1) rfl)) (fun _ h9 => h9) rfl dX2_isAlongRow_1 ?_
  refine lv_iload_n hx hb dX2_isAlongRow_4 rfl (lv_at hl 1 rfl) ?_
  obtain ⟨v1, ev1, hm⟩ := lt1_inv hm
  refine cNs ⟨hx, hb, hml, hown, hts⟩ (c_X9_valueAt l D cI cJ cS cB (a 12) 48 (Nat.le_of_ble_eq_true rfl) Y_strideOf x1 v1 ev1) ⟨va_cnB 2 hts gX2_isAlongRow_X9_valueAt_n62 rfl rfl rfl (kn_4 hK) (hts (.initialized RX9) (List.mem_of_getElem? (i := 3) rfl)) hd_X9_valueAt ⟨(Nat.le_of_ble_eq_true rfl), (Nat.le_of_ble_eq_true rfl)⟩, (hts (.static yX9_valueAt) (List.mem_of_getElem? (i := 2) rfl)), trivial⟩ hK hP hD hS hA [1] rfl rfl rfl hl.1 (Nat.le_of_ble_eq_true rfl) ⟨Nat.zero_le _, Nat.zero_le _⟩ rfl dX2_isAlongRow_5 (fun H locs hP hD hS => ?_)
  refine lv_iconst (v := 1) hx hb dX2_isAlongRow_8 (by decide) ?_
  refine lv_icmp_ne (tgt := 16) hx hb dX2_isAlongRow_9 (by decide) (fun c9 => ?_) (fun c9 => ?_)
  · have hm := ine c9 hm
    refine lv_iconst (v := 0) hx hb dX2_isAlongRow_16 (by decide) ?_
    cases hm
    exact rZ () hx hb hr hlk (by decide) hP hD hS dX2_isAlongRow_17
  · have hm := ip c9 hm
    refine lv_iconst (v := 1) hx hb dX2_isAlongRow_12 (by decide) ?_
    refine lv_goto (tgt := 17) hx hb dX2_isAlongRow_13 (by decide) ?_
    cases hm
    exact rZ () hx hb hr hlk (by decide) hP hD hS dX2_isAlongRow_17
theorem hd_X2_firstCell : yX2_firstCell.cls = RX2 ∧ yX2_firstCell.cls ≠ "java/lang/invoke/MethodHandle" ∧ yX2_firstCell.cls ≠ "java/lang/invoke/VarHandle" ∧ (parseMethodDescriptor yX2_firstCell.desc).map (fun d => d.parameters.length) = some 1 := by decide +kernel
def m_X2_firstCell (Y_firstCellOf : Nat → Int32) (x1 : Int32) : Int32 :=
  lt1 (vAt 48 Y_firstCellOf x1) (fun v1 => v1)
set_option maxHeartbeats 4000000 in
set_option maxRecDepth 100000 in
theorem c_X2_firstCell (l : Launch) (D : va_G) (cI cJ cS cB : ClassId) (a : Nat → Nat) (Y_islands : Int32) (Y_ways : Int32) (Y_firstCellOf : Nat → Int32) (x1 : Int32) (r0 : Int32) (hm : m_X2_firstCell Y_firstCellOf x1 = r0) :
    mU l D (TYs cI cJ cS cB) yX2_firstCell wsX2_firstCell { frames := 1, cells := 0, slots := 0, locals := 21 } [.ref (a 5), .int x1] [o_Y a Y_islands Y_ways, ai (a 10) cI 48 Y_firstCellOf] [o_Y a Y_islands Y_ways, ai (a 10) cI 48 Y_firstCellOf] (some (.int r0)) := by
  refine mG_of (cc := cX2_firstCell) (maxL := 2) (ret := (some .int)) (by decide) rfl rfl (Nat.le_of_ble_eq_true rfl) ?_
  intro p e s m args below meth c A hx hb hr hml hlk hnm hts hown hK hP hD hA hS ls hl
  have hl : lv_has ls 2 [(0, .ref (a 5)), (1, .int x1)] := hl
  have hiX2 : ∀ w ∈ wsX20, w ∈ wsX2_firstCell := fun w h => List.mem_cons_of_mem _ (List.mem_append_right _ h)
  unfold m_X2_firstCell at hm
  refine lv_aload_n hx hb dX2_firstCell_0 rfl (lv_at hl 0 rfl) ?_
  refine va_get (D := D) (ci := 2) (v := .ref (a 10)) (C := RX2) (T := TX2) (N := 11) hx hb hts hiX2 hown hK.1 hP 0 rfl rfl 4 (by decide) (hts (.fieldLink RX2 24 "IslandBridges$Layout" "firstCellOf" "[I") (List.mem_of_getElem? (i := 1) rfl)) (fun _ h9 => h9) rfl dX2_firstCell_1 ?_
  refine lv_iload_n hx hb dX2_firstCell_4 rfl (lv_at hl 1 rfl) ?_
  obtain ⟨v1, ev1, hm⟩ := lt1_inv hm
  refine cNs ⟨hx, hb, hml, hown, hts⟩ (c_X9_valueAt l D cI cJ cS cB (a 10) 48 (Nat.le_of_ble_eq_true rfl) Y_firstCellOf x1 v1 ev1) ⟨va_cnB 2 hts gX2_firstCell_X9_valueAt_n62 rfl rfl rfl (kn_4 hK) (hts (.initialized RX9) (List.mem_of_getElem? (i := 3) rfl)) hd_X9_valueAt ⟨(Nat.le_of_ble_eq_true rfl), (Nat.le_of_ble_eq_true rfl)⟩, (hts (.static yX9_valueAt) (List.mem_of_getElem? (i := 2) rfl)), trivial⟩ hK hP hD hS hA [1] rfl rfl rfl hl.1 (Nat.le_of_ble_eq_true rfl) ⟨Nat.zero_le _, Nat.zero_le _⟩ rfl dX2_firstCell_5 (fun H locs hP hD hS => ?_)
  cases hm
  exact rI () hx hb hr hlk hP hD hS dX2_firstCell_8
theorem hd_X2_isOver : yX2_isOver.cls = RX2 ∧ yX2_isOver.cls ≠ "java/lang/invoke/MethodHandle" ∧ yX2_isOver.cls ≠ "java/lang/invoke/VarHandle" ∧ (parseMethodDescriptor yX2_isOver.desc).map (fun d => d.parameters.length) = some 2 := by decide +kernel
def m_X2_isOver (Y_firstCellOf : Nat → Int32) (Y_secondCellOf : Nat → Int32) (Y_strideOf : Nat → Int32) (x1 : Int32) (x2 : Int32) : Option (Int32) :=
  lt1 (vAt 48 Y_strideOf x1) (fun v1 => lt1 (vAt 48 Y_firstCellOf x1) (fun v2 => lt1 (vAt 48 Y_secondCellOf x1) (fun v3 => if v1 = 0 then (some 0) else (if x2 ≤ v2 then (some 0) else (if v3 ≤ x2 then (some 0) else (rmd (x2 - v2) v1 (fun v4 => if v4 = 0 then (some 1) else (some 0))))))))
set_option maxHeartbeats 4000000 in
set_option maxRecDepth 100000 in
theorem c_X2_isOver (l : Launch) (D : va_G) (cI cJ cS cB : ClassId) (a : Nat → Nat) (Y_islands : Int32) (Y_ways : Int32) (Y_firstCellOf : Nat → Int32) (Y_secondCellOf : Nat → Int32) (Y_strideOf : Nat → Int32) (x1 : Int32) (x2 : Int32) (r0 : Int32) (hm : m_X2_isOver Y_firstCellOf Y_secondCellOf Y_strideOf x1 x2 = some r0) :
    mU l D (TYs cI cJ cS cB) yX2_isOver wsX2_isOver { frames := 1, cells := 0, slots := 0, locals := 21 } [.ref (a 5), .int x1, .int x2] [o_Y a Y_islands Y_ways, ai (a 10) cI 48 Y_firstCellOf, ai (a 11) cI 48 Y_secondCellOf, ai (a 12) cI 48 Y_strideOf] [o_Y a Y_islands Y_ways, ai (a 10) cI 48 Y_firstCellOf, ai (a 11) cI 48 Y_secondCellOf, ai (a 12) cI 48 Y_strideOf] (some (.int r0)) := by
  refine mG_of (cc := cX2_isOver) (maxL := 6) (ret := (some .boolean)) (by decide) rfl rfl (Nat.le_of_ble_eq_true rfl) ?_
  intro p e s m args below meth c A hx hb hr hml hlk hnm hts hown hK hP hD hA hS ls hl
  have hl : lv_has ls 6 [(0, .ref (a 5)), (1, .int x1), (2, .int x2)] := hl
  have hiX2 : ∀ w ∈ wsX20, w ∈ wsX2_isOver := fun w h => List.mem_cons_of_mem _ (List.mem_append_right _ h)
  unfold m_X2_isOver at hm
  refine lv_aload_n hx hb dX2_isOver_0 rfl (lv_at hl 0 rfl) ?_
  refine va_get (D := D) (ci := 2) (v := .ref (a 12)) (C := RX2) (T := TX2) (N := 11) hx hb hts hiX2 hown hK.1 hP 0 rfl rfl 6 (by decide) (hts (.fieldLink RX2 30 "IslandBridges$Layout" "strideOf" "[I") (List.mem_of_getElem? (i := 1) rfl)) (fun _ h9 => h9) rfl dX2_isOver_1 ?_
  refine lv_iload_n hx hb dX2_isOver_4 rfl (lv_at hl 1 rfl) ?_
  obtain ⟨v1, ev1, hm⟩ := lt1_inv hm
  refine cNs ⟨hx, hb, hml, hown, hts⟩ (c_X9_valueAt l D cI cJ cS cB (a 12) 48 (Nat.le_of_ble_eq_true rfl) Y_strideOf x1 v1 ev1) ⟨va_cnB 2 hts gX2_isOver_X9_valueAt_n62 rfl rfl rfl (kn_4 hK) (hts (.initialized RX9) (List.mem_of_getElem? (i := 5) rfl)) hd_X9_valueAt ⟨(Nat.le_of_ble_eq_true rfl), (Nat.le_of_ble_eq_true rfl)⟩, (hts (.static yX9_valueAt) (List.mem_of_getElem? (i := 4) rfl)), trivial⟩ hK hP hD hS hA [3] rfl rfl rfl hl.1 (Nat.le_of_ble_eq_true rfl) ⟨Nat.zero_le _, Nat.zero_le _⟩ rfl dX2_isOver_5 (fun H locs hP hD hS => ?_)
  refine lv_istore_n (lv' := [(3, .int v1), (0, .ref (a 5)), (1, .int x1), (2, .int x2)]) hx hb dX2_isOver_8 rfl hl (by decide) rfl (fun ls hl => ?_)
  refine lv_aload_n hx hb dX2_isOver_9 rfl (lv_at hl 1 rfl) ?_
  refine va_get (D := D) (ci := 2) (v := .ref (a 10)) (C := RX2) (T := TX2) (N := 11) hx hb hts hiX2 hown hK.1 hP 0 rfl rfl 4 (by decide) (hts (.fieldLink RX2 24 "IslandBridges$Layout" "firstCellOf" "[I") (List.mem_of_getElem? (i := 2) rfl)) (fun _ h9 => h9) rfl dX2_isOver_10 ?_
  refine lv_iload_n hx hb dX2_isOver_13 rfl (lv_at hl 2 rfl) ?_
  obtain ⟨v2, ev2, hm⟩ := lt1_inv hm
  refine cNs ⟨hx, hb, hml, hown, hts⟩ (c_X9_valueAt l D cI cJ cS cB (a 10) 48 (Nat.le_of_ble_eq_true rfl) Y_firstCellOf x1 v2 ev2) ⟨va_cnB 2 hts gX2_isOver_X9_valueAt_n62 rfl rfl rfl (kn_4 hK) (hts (.initialized RX9) (List.mem_of_getElem? (i := 5) rfl)) hd_X9_valueAt ⟨(Nat.le_of_ble_eq_true rfl), (Nat.le_of_ble_eq_true rfl)⟩, (hts (.static yX9_valueAt) (List.mem_of_getElem? (i := 4) rfl)), trivial⟩ hK hP hD hS hA [1] rfl rfl rfl hl.1 (Nat.le_of_ble_eq_true rfl) ⟨Nat.zero_le _, Nat.zero_le _⟩ rfl dX2_isOver_14 (fun H locs hP hD hS => ?_)
  refine lv_istore (lv' := [(4, .int v2), (3, .int v1), (0, .ref (a 5)), (1, .int x1), (2, .int x2)]) hx hb dX2_isOver_17 hl (by decide) rfl (fun ls hl => ?_)
  refine lv_aload_n hx hb dX2_isOver_19 rfl (lv_at hl 2 rfl) ?_
  refine va_get (D := D) (ci := 2) (v := .ref (a 11)) (C := RX2) (T := TX2) (N := 11) hx hb hts hiX2 hown hK.1 hP 0 rfl rfl 5 (by decide) (hts (.fieldLink RX2 27 "IslandBridges$Layout" "secondCellOf" "[I") (List.mem_of_getElem? (i := 3) rfl)) (fun _ h9 => h9) rfl dX2_isOver_20 ?_
  refine lv_iload_n hx hb dX2_isOver_23 rfl (lv_at hl 3 rfl) ?_
  obtain ⟨v3, ev3, hm⟩ := lt1_inv hm
  refine cNs ⟨hx, hb, hml, hown, hts⟩ (c_X9_valueAt l D cI cJ cS cB (a 11) 48 (Nat.le_of_ble_eq_true rfl) Y_secondCellOf x1 v3 ev3) ⟨va_cnB 2 hts gX2_isOver_X9_valueAt_n62 rfl rfl rfl (kn_4 hK) (hts (.initialized RX9) (List.mem_of_getElem? (i := 5) rfl)) hd_X9_valueAt ⟨(Nat.le_of_ble_eq_true rfl), (Nat.le_of_ble_eq_true rfl)⟩, (hts (.static yX9_valueAt) (List.mem_of_getElem? (i := 4) rfl)), trivial⟩ hK hP hD hS hA [2] rfl rfl rfl hl.1 (Nat.le_of_ble_eq_true rfl) ⟨Nat.zero_le _, Nat.zero_le _⟩ rfl dX2_isOver_24 (fun H locs hP hD hS => ?_)
  refine lv_istore (lv' := [(5, .int v3), (4, .int v2), (3, .int v1), (0, .ref (a 5)), (1, .int x1), (2, .int x2)]) hx hb dX2_isOver_27 hl (by decide) rfl (fun ls hl => ?_)
  refine lv_iload_n hx hb dX2_isOver_29 rfl (lv_at hl 2 rfl) ?_
  refine lv_if_eq (tgt := 58) hx hb dX2_isOver_30 (by decide) (fun c30 => ?_) (fun c30 => ?_)
  · have hm := ip c30 hm
    refine lv_iconst (v := 0) hx hb dX2_isOver_58 (by decide) ?_
    cases hm
    exact rZ () hx hb hr hlk (by decide) hP hD hS dX2_isOver_59
  · have hm := ine c30 hm
    refine lv_iload_n hx hb dX2_isOver_33 rfl (lv_at hl 5 rfl) ?_
    refine lv_iload hx hb dX2_isOver_34 (lv_at hl 1 rfl) ?_
    refine lv_icmp_le (tgt := 58) hx hb dX2_isOver_36 (by decide) (fun c36 => ?_) (fun c36 => ?_)
    · have hm := ip c36 hm
      refine lv_iconst (v := 0) hx hb dX2_isOver_58 (by decide) ?_
      cases hm
      exact rZ () hx hb hr hlk (by decide) hP hD hS dX2_isOver_59
    · have hm := ine c36 hm
      refine lv_iload_n hx hb dX2_isOver_39 rfl (lv_at hl 5 rfl) ?_
      refine lv_iload hx hb dX2_isOver_40 (lv_at hl 0 rfl) ?_
      refine lv_icmp_ge (tgt := 58) hx hb dX2_isOver_42 (by decide) (fun c42 => ?_) (fun c42 => ?_)
      · have hm := ip c42 hm
        refine lv_iconst (v := 0) hx hb dX2_isOver_58 (by decide) ?_
        cases hm
        exact rZ () hx hb hr hlk (by decide) hP hD hS dX2_isOver_59
      · have hm := ine c42 hm
        refine lv_iload_n hx hb dX2_isOver_45 rfl (lv_at hl 5 rfl) ?_
        refine lv_iload hx hb dX2_isOver_46 (lv_at hl 1 rfl) ?_
        refine lv_isub hx hb dX2_isOver_48 ?_
        refine lv_iload_n hx hb dX2_isOver_49 rfl (lv_at hl 2 rfl) ?_
        obtain ⟨v4, nv4, ev4, hm⟩ := rmd_inv hm
        refine lv_irem hx hb dX2_isOver_50 nv4 ?_
        refine ltop ev4 ?_
        refine lv_if_ne (tgt := 58) hx hb dX2_isOver_51 (by decide) (fun c51 => ?_) (fun c51 => ?_)
        · have hm := ine c51 hm
          refine lv_iconst (v := 0) hx hb dX2_isOver_58 (by decide) ?_
          cases hm
          exact rZ () hx hb hr hlk (by decide) hP hD hS dX2_isOver_59
        · have hm := ip c51 hm
          refine lv_iconst (v := 1) hx hb dX2_isOver_54 (by decide) ?_
          refine lv_goto (tgt := 59) hx hb dX2_isOver_55 (by decide) ?_
          cases hm
          exact rZ () hx hb hr hlk (by decide) hP hD hS dX2_isOver_59
theorem hd_X2_doCross : yX2_doCross.cls = RX2 ∧ yX2_doCross.cls ≠ "java/lang/invoke/MethodHandle" ∧ yX2_doCross.cls ≠ "java/lang/invoke/VarHandle" ∧ (parseMethodDescriptor yX2_doCross.desc).map (fun d => d.parameters.length) = some 3 := by decide +kernel
def m_X2_doCross_j52 (Y_firstCellOf : Nat → Int32) (Y_secondCellOf : Nat → Int32) (Y_strideOf : Nat → Int32) (x1 : Int32) (x2 : Int32) (x3 : Int32) (y7 : Int32) (y8 : Int32) : Option (Int32) :=
  lt1 (m_X2_firstCell Y_firstCellOf y8) (fun v9 => rmd y7 x3 (fun v10 => rmd v9 x3 (fun v11 => lt1 ((y7 - v10) + v11) (fun v12 => bd1 (m_X2_isOver Y_firstCellOf Y_secondCellOf Y_strideOf x1 v12) (fun v13 => if v13 = 0 then (some 0) else (bd1 (m_X2_isOver Y_firstCellOf Y_secondCellOf Y_strideOf x2 v12) (fun v14 => if v14 = 0 then (some 0) else (some 1))))))))
def m_X2_doCross_j33 (Y_firstCellOf : Nat → Int32) (Y_secondCellOf : Nat → Int32) (Y_strideOf : Nat → Int32) (x1 : Int32) (x2 : Int32) (x3 : Int32) (y4 : Int32) : Option (Int32) :=
  lt1 (m_X2_firstCell Y_firstCellOf y4) (fun v5 => lt1 (m_X2_isAlongRow Y_strideOf x1) (fun v6 => if v6 = 0 then (m_X2_doCross_j52 Y_firstCellOf Y_secondCellOf Y_strideOf x1 x2 x3 v5 x1) else (m_X2_doCross_j52 Y_firstCellOf Y_secondCellOf Y_strideOf x1 x2 x3 v5 x2)))
def m_X2_doCross (Y_firstCellOf : Nat → Int32) (Y_secondCellOf : Nat → Int32) (Y_strideOf : Nat → Int32) (x1 : Int32) (x2 : Int32) (x3 : Int32) : Option (Int32) :=
  lt1 (m_X2_isAlongRow Y_strideOf x1) (fun v1 => lt1 (m_X2_isAlongRow Y_strideOf x2) (fun v2 => if v1 = v2 then (some 0) else (if x3 = 0 then (some 0) else (lt1 (m_X2_isAlongRow Y_strideOf x1) (fun v3 => if v3 = 0 then (m_X2_doCross_j33 Y_firstCellOf Y_secondCellOf Y_strideOf x1 x2 x3 x2) else (m_X2_doCross_j33 Y_firstCellOf Y_secondCellOf Y_strideOf x1 x2 x3 x1))))))
set_option maxHeartbeats 4000000 in
set_option maxRecDepth 100000 in
theorem c_X2_doCross (l : Launch) (D : va_G) (cI cJ cS cB : ClassId) (a : Nat → Nat) (Y_islands : Int32) (Y_ways : Int32) (Y_firstCellOf : Nat → Int32) (Y_secondCellOf : Nat → Int32) (Y_strideOf : Nat → Int32) (x1 : Int32) (x2 : Int32) (x3 : Int32) (r0 : Int32) (hm : m_X2_doCross Y_firstCellOf Y_secondCellOf Y_strideOf x1 x2 x3 = some r0) :
    mU l D (TYs cI cJ cS cB) yX2_doCross wsX2_doCross { frames := 2, cells := 0, slots := 0, locals := 46 } [.ref (a 5), .int x1, .int x2, .int x3] [o_Y a Y_islands Y_ways, ai (a 10) cI 48 Y_firstCellOf, ai (a 11) cI 48 Y_secondCellOf, ai (a 12) cI 48 Y_strideOf] [o_Y a Y_islands Y_ways, ai (a 10) cI 48 Y_firstCellOf, ai (a 11) cI 48 Y_secondCellOf, ai (a 12) cI 48 Y_strideOf] (some (.int r0)) := by
  refine mG_of (cc := cX2_doCross) (maxL := 7) (ret := (some .boolean)) (by decide) rfl rfl (Nat.le_of_ble_eq_true rfl) ?_
  intro p e s m args below meth c A hx hb hr hml hlk hnm hts hown hK hP hD hA hS ls hl
  have hl : lv_has ls 7 [(0, .ref (a 5)), (1, .int x1), (2, .int x2), (3, .int x3)] := hl
  have hiX2 : ∀ w ∈ wsX20, w ∈ wsX2_doCross := fun w h => List.mem_cons_of_mem _ (List.mem_append_right _ h)
  unfold m_X2_doCross at hm
  have h52 : ∀ (y7 : Int32) (y8 : Int32), m_X2_doCross_j52 Y_firstCellOf Y_secondCellOf Y_strideOf x1 x2 x3 y7 y8 = some r0 → ∀ (H : Heap) (locs : List Loc), va_P D vwCl [o_Y a Y_islands Y_ways, ai (a 10) cI 48 Y_firstCellOf, ai (a 11) cI 48 Y_secondCellOf, ai (a 12) cI 48 Y_strideOf] H → va_D A [o_Y a Y_islands Y_ways, ai (a 10) cI 48 Y_firstCellOf, ai (a 11) cI 48 Y_secondCellOf, ai (a 12) cI 48 Y_strideOf] → va_S A s.heap H locs → ∀ ls : Array Slot, lv_has ls 7 [(0, .ref (a 5)), (1, .int x1), (2, .int x2), (3, .int x3), (4, .int y7)] → W p l e { frames := 2, cells := 0, slots := 0, locals := 46 } s m args below meth c H locs 0 0 (MQ below (eQ D (some (.int r0)) (fun _ : Unit => [o_Y a Y_islands Y_ways, ai (a 10) cI 48 Y_firstCellOf, ai (a 11) cI 48 Y_secondCellOf, ai (a 12) cI 48 Y_strideOf]) A) args s 0 0 A) (F0 m 52 ls [.int y8, .ref (a 5)]) := by
    intro y7 y8 hm H locs hP hD hS ls hl
    unfold m_X2_doCross_j52 at hm
    obtain ⟨v9, h_v9, hm⟩ := lt1_inv hm
    refine cVs ⟨hx, hb, hml, hown, hts⟩ (c_X2_firstCell l D cI cJ cS cB a Y_islands Y_ways Y_firstCellOf y8 v9 h_v9) (cwV 1 hts gX2_doCross_X2_firstCell rfl rfl rfl hd_X2_firstCell ⟨(Nat.le_of_ble_eq_true rfl), (Nat.le_of_ble_eq_true rfl)⟩) hK hP hD hS hA [0, 1] rfl rfl rfl hl.1 (Nat.le_of_ble_eq_true rfl) ⟨Nat.zero_le _, Nat.zero_le _⟩ 0 rfl rfl rfl rfl dX2_doCross_52 (fun H locs hP hD hS => ?_)
    refine lv_istore (lv' := [(5, .int v9), (0, .ref (a 5)), (1, .int x1), (2, .int x2), (3, .int x3), (4, .int y7)]) hx hb dX2_doCross_55 hl (by decide) rfl (fun ls hl => ?_)
    refine lv_iload hx hb dX2_doCross_57 (lv_at hl 5 rfl) ?_
    refine lv_iload hx hb dX2_doCross_59 (lv_at hl 5 rfl) ?_
    refine lv_iload_n hx hb dX2_doCross_61 rfl (lv_at hl 4 rfl) ?_
    obtain ⟨v10, nv10, ev10, hm⟩ := rmd_inv hm
    refine lv_irem hx hb dX2_doCross_62 nv10 ?_
    refine ltop ev10 ?_
    refine lv_isub hx hb dX2_doCross_63 ?_
    refine lv_iload hx hb dX2_doCross_64 (lv_at hl 0 rfl) ?_
    refine lv_iload_n hx hb dX2_doCross_66 rfl (lv_at hl 4 rfl) ?_
    obtain ⟨v11, nv11, ev11, hm⟩ := rmd_inv hm
    refine lv_irem hx hb dX2_doCross_67 nv11 ?_
    refine ltop ev11 ?_
    refine lv_iadd hx hb dX2_doCross_68 ?_
    obtain ⟨v12, ev12, hm⟩ := lt1_inv hm
    refine ltop ev12 ?_
    refine lv_istore (lv' := [(6, .int v12), (5, .int v9), (0, .ref (a 5)), (1, .int x1), (2, .int x2), (3, .int x3), (4, .int y7)]) hx hb dX2_doCross_69 hl (by decide) rfl (fun ls hl => ?_)
    refine lv_aload_n hx hb dX2_doCross_71 rfl (lv_at hl 2 rfl) ?_
    refine lv_iload_n hx hb dX2_doCross_72 rfl (lv_at hl 3 rfl) ?_
    refine lv_iload hx hb dX2_doCross_73 (lv_at hl 0 rfl) ?_
    obtain ⟨v13, h_v13, hm⟩ := bd1_inv hm
    refine cVs ⟨hx, hb, hml, hown, hts⟩ (c_X2_isOver l D cI cJ cS cB a Y_islands Y_ways Y_firstCellOf Y_secondCellOf Y_strideOf x1 v12 v13 h_v13) (cwV 2 hts gX2_doCross_X2_isOver rfl rfl rfl hd_X2_isOver ⟨(Nat.le_of_ble_eq_true rfl), (Nat.le_of_ble_eq_true rfl)⟩) hK hP hD hS hA [0, 1, 2, 3] rfl rfl rfl hl.1 (Nat.le_of_ble_eq_true rfl) ⟨Nat.zero_le _, Nat.zero_le _⟩ 0 rfl rfl rfl rfl dX2_doCross_75 (fun H locs hP hD hS => ?_)
    refine lv_if_eq (tgt := 95) hx hb dX2_doCross_78 (by decide) (fun c78 => ?_) (fun c78 => ?_)
    · have hm := ip c78 hm
      refine lv_iconst (v := 0) hx hb dX2_doCross_95 (by decide) ?_
      cases hm
      exact rZ () hx hb hr hlk (by decide) hP hD hS dX2_doCross_96
    · have hm := ine c78 hm
      refine lv_aload_n hx hb dX2_doCross_81 rfl (lv_at hl 2 rfl) ?_
      refine lv_iload_n hx hb dX2_doCross_82 rfl (lv_at hl 4 rfl) ?_
      refine lv_iload hx hb dX2_doCross_83 (lv_at hl 0 rfl) ?_
      obtain ⟨v14, h_v14, hm⟩ := bd1_inv hm
      refine cVs ⟨hx, hb, hml, hown, hts⟩ (c_X2_isOver l D cI cJ cS cB a Y_islands Y_ways Y_firstCellOf Y_secondCellOf Y_strideOf x2 v12 v14 h_v14) (cwV 2 hts gX2_doCross_X2_isOver rfl rfl rfl hd_X2_isOver ⟨(Nat.le_of_ble_eq_true rfl), (Nat.le_of_ble_eq_true rfl)⟩) hK hP hD hS hA [0, 1, 2, 3] rfl rfl rfl hl.1 (Nat.le_of_ble_eq_true rfl) ⟨Nat.zero_le _, Nat.zero_le _⟩ 0 rfl rfl rfl rfl dX2_doCross_85 (fun H locs hP hD hS => ?_)
      refine lv_if_eq (tgt := 95) hx hb dX2_doCross_88 (by decide) (fun c88 => ?_) (fun c88 => ?_)
      · have hm := ip c88 hm
        refine lv_iconst (v := 0) hx hb dX2_doCross_95 (by decide) ?_
        cases hm
        exact rZ () hx hb hr hlk (by decide) hP hD hS dX2_doCross_96
      · have hm := ine c88 hm
        refine lv_iconst (v := 1) hx hb dX2_doCross_91 (by decide) ?_
        refine lv_goto (tgt := 96) hx hb dX2_doCross_92 (by decide) ?_
        cases hm
        exact rZ () hx hb hr hlk (by decide) hP hD hS dX2_doCross_96
  have h33 : ∀ (y4 : Int32), m_X2_doCross_j33 Y_firstCellOf Y_secondCellOf Y_strideOf x1 x2 x3 y4 = some r0 → ∀ (H : Heap) (locs : List Loc), va_P D vwCl [o_Y a Y_islands Y_ways, ai (a 10) cI 48 Y_firstCellOf, ai (a 11) cI 48 Y_secondCellOf, ai (a 12) cI 48 Y_strideOf] H → va_D A [o_Y a Y_islands Y_ways, ai (a 10) cI 48 Y_firstCellOf, ai (a 11) cI 48 Y_secondCellOf, ai (a 12) cI 48 Y_strideOf] → va_S A s.heap H locs → ∀ ls : Array Slot, lv_has ls 7 [(0, .ref (a 5)), (1, .int x1), (2, .int x2), (3, .int x3)] → W p l e { frames := 2, cells := 0, slots := 0, locals := 46 } s m args below meth c H locs 0 0 (MQ below (eQ D (some (.int r0)) (fun _ : Unit => [o_Y a Y_islands Y_ways, ai (a 10) cI 48 Y_firstCellOf, ai (a 11) cI 48 Y_secondCellOf, ai (a 12) cI 48 Y_strideOf]) A) args s 0 0 A) (F0 m 33 ls [.int y4, .ref (a 5)]) := by
    intro y4 hm H locs hP hD hS ls hl
    unfold m_X2_doCross_j33 at hm
    obtain ⟨v5, h_v5, hm⟩ := lt1_inv hm
    refine cVs ⟨hx, hb, hml, hown, hts⟩ (c_X2_firstCell l D cI cJ cS cB a Y_islands Y_ways Y_firstCellOf y4 v5 h_v5) (cwV 1 hts gX2_doCross_X2_firstCell rfl rfl rfl hd_X2_firstCell ⟨(Nat.le_of_ble_eq_true rfl), (Nat.le_of_ble_eq_true rfl)⟩) hK hP hD hS hA [0, 1] rfl rfl rfl hl.1 (Nat.le_of_ble_eq_true rfl) ⟨Nat.zero_le _, Nat.zero_le _⟩ 0 rfl rfl rfl rfl dX2_doCross_33 (fun H locs hP hD hS => ?_)
    refine lv_istore (lv' := [(4, .int v5), (0, .ref (a 5)), (1, .int x1), (2, .int x2), (3, .int x3)]) hx hb dX2_doCross_36 hl (by decide) rfl (fun ls hl => ?_)
    refine lv_aload_n hx hb dX2_doCross_38 rfl (lv_at hl 1 rfl) ?_
    refine lv_aload_n hx hb dX2_doCross_39 rfl (lv_at hl 1 rfl) ?_
    refine lv_iload_n hx hb dX2_doCross_40 rfl (lv_at hl 2 rfl) ?_
    obtain ⟨v6, h_v6, hm⟩ := lt1_inv hm
    refine cVs ⟨hx, hb, hml, hown, hts⟩ (c_X2_isAlongRow l D cI cJ cS cB a Y_islands Y_ways Y_strideOf x1 v6 h_v6) (cwV 1 hts gX2_doCross_X2_isAlongRow rfl rfl rfl hd_X2_isAlongRow ⟨(Nat.le_of_ble_eq_true rfl), (Nat.le_of_ble_eq_true rfl)⟩) hK hP hD hS hA [0, 3] rfl rfl rfl hl.1 (Nat.le_of_ble_eq_true rfl) ⟨Nat.zero_le _, Nat.zero_le _⟩ 0 rfl rfl rfl rfl dX2_doCross_41 (fun H locs hP hD hS => ?_)
    refine lv_if_eq (tgt := 51) hx hb dX2_doCross_44 (by decide) (fun c44 => ?_) (fun c44 => ?_)
    · have hm := ip c44 hm
      refine lv_iload_n hx hb dX2_doCross_51 rfl (lv_at hl 2 rfl) ?_
      exact h52 v5 x1 hm _ _ hP hD hS ls (lv_sub hl [1, 2, 3, 4, 0] rfl)
    · have hm := ine c44 hm
      refine lv_iload_n hx hb dX2_doCross_47 rfl (lv_at hl 3 rfl) ?_
      refine lv_goto (tgt := 52) hx hb dX2_doCross_48 (by decide) ?_
      exact h52 v5 x2 hm _ _ hP hD hS ls (lv_sub hl [1, 2, 3, 4, 0] rfl)
  refine lv_aload_n hx hb dX2_doCross_0 rfl (lv_at hl 0 rfl) ?_
  refine lv_iload_n hx hb dX2_doCross_1 rfl (lv_at hl 1 rfl) ?_
  obtain ⟨v1, h_v1, hm⟩ := lt1_inv hm
  refine cVs ⟨hx, hb, hml, hown, hts⟩ (c_X2_isAlongRow l D cI cJ cS cB a Y_islands Y_ways Y_strideOf x1 v1 h_v1) (cwV 1 hts gX2_doCross_X2_isAlongRow rfl rfl rfl hd_X2_isAlongRow ⟨(Nat.le_of_ble_eq_true rfl), (Nat.le_of_ble_eq_true rfl)⟩) hK hP hD hS hA [0, 3] rfl rfl rfl hl.1 (Nat.le_of_ble_eq_true rfl) ⟨Nat.zero_le _, Nat.zero_le _⟩ 0 rfl rfl rfl rfl dX2_doCross_2 (fun H locs hP hD hS => ?_)
  refine lv_aload_n hx hb dX2_doCross_5 rfl (lv_at hl 0 rfl) ?_
  refine lv_iload_n hx hb dX2_doCross_6 rfl (lv_at hl 2 rfl) ?_
  obtain ⟨v2, h_v2, hm⟩ := lt1_inv hm
  refine cVs ⟨hx, hb, hml, hown, hts⟩ (c_X2_isAlongRow l D cI cJ cS cB a Y_islands Y_ways Y_strideOf x2 v2 h_v2) (cwV 1 hts gX2_doCross_X2_isAlongRow rfl rfl rfl hd_X2_isAlongRow ⟨(Nat.le_of_ble_eq_true rfl), (Nat.le_of_ble_eq_true rfl)⟩) hK hP hD hS hA [0, 3] rfl rfl rfl hl.1 (Nat.le_of_ble_eq_true rfl) ⟨Nat.zero_le _, Nat.zero_le _⟩ 0 rfl rfl rfl rfl dX2_doCross_7 (fun H locs hP hD hS => ?_)
  refine lv_icmp_eq (tgt := 17) hx hb dX2_doCross_10 (by decide) (fun c10 => ?_) (fun c10 => ?_)
  · have hm := ip c10 hm
    refine lv_iconst (v := 0) hx hb dX2_doCross_17 (by decide) ?_
    cases hm
    exact rZ () hx hb hr hlk (by decide) hP hD hS dX2_doCross_18
  · have hm := ine c10 hm
    refine lv_iload_n hx hb dX2_doCross_13 rfl (lv_at hl 3 rfl) ?_
    refine lv_if_ne (tgt := 19) hx hb dX2_doCross_14 (by decide) (fun c14 => ?_) (fun c14 => ?_)
    · have hm := ine c14 hm
      refine lv_aload_n hx hb dX2_doCross_19 rfl (lv_at hl 0 rfl) ?_
      refine lv_aload_n hx hb dX2_doCross_20 rfl (lv_at hl 0 rfl) ?_
      refine lv_iload_n hx hb dX2_doCross_21 rfl (lv_at hl 1 rfl) ?_
      obtain ⟨v3, h_v3, hm⟩ := lt1_inv hm
      refine cVs ⟨hx, hb, hml, hown, hts⟩ (c_X2_isAlongRow l D cI cJ cS cB a Y_islands Y_ways Y_strideOf x1 v3 h_v3) (cwV 1 hts gX2_doCross_X2_isAlongRow rfl rfl rfl hd_X2_isAlongRow ⟨(Nat.le_of_ble_eq_true rfl), (Nat.le_of_ble_eq_true rfl)⟩) hK hP hD hS hA [0, 3] rfl rfl rfl hl.1 (Nat.le_of_ble_eq_true rfl) ⟨Nat.zero_le _, Nat.zero_le _⟩ 0 rfl rfl rfl rfl dX2_doCross_22 (fun H locs hP hD hS => ?_)
      refine lv_if_eq (tgt := 32) hx hb dX2_doCross_25 (by decide) (fun c25 => ?_) (fun c25 => ?_)
      · have hm := ip c25 hm
        refine lv_iload_n hx hb dX2_doCross_32 rfl (lv_at hl 2 rfl) ?_
        exact h33 x2 hm _ _ hP hD hS ls (lv_sub hl [0, 1, 2, 3] rfl)
      · have hm := ine c25 hm
        refine lv_iload_n hx hb dX2_doCross_28 rfl (lv_at hl 1 rfl) ?_
        refine lv_goto (tgt := 33) hx hb dX2_doCross_29 (by decide) ?_
        exact h33 x1 hm _ _ hP hD hS ls (lv_sub hl [0, 1, 2, 3] rfl)
    · have hm := ip c14 hm
      refine lv_iconst (v := 0) hx hb dX2_doCross_17 (by decide) ?_
      cases hm
      exact rZ () hx hb hr hlk (by decide) hP hD hS dX2_doCross_18
theorem hd_X2_readCrossings : yX2_readCrossings.cls = RX2 ∧ yX2_readCrossings.cls ≠ "java/lang/invoke/MethodHandle" ∧ yX2_readCrossings.cls ≠ "java/lang/invoke/VarHandle" ∧ (parseMethodDescriptor yX2_readCrossings.desc).map (fun d => d.parameters.length) = some 1 := by decide +kernel
def m_X2_readCrossings_j57 (rec2 : Int32 → (Nat → Int64) → Option ((Nat → Int64))) (y7 : Int32) (y8 : Int64) (y9 : Nat → Int64) : Option ((Nat → Int64)) :=
  wrL 48 y9 y7 y8 (fun v10 => lt1 (y7 + 1) (fun v11 => rec2 v11 v10))
def m_X2_readCrossings_j51 (rec24 : Int64 → Int32 → Option ((Nat → Int64))) (y13 : Int64) (y14 : Int32) : Option ((Nat → Int64)) :=
  lt1 (y14 + 1) (fun v15 => rec24 y13 v15)
def m_X2_readCrossings_b24 (Y_ways : Int32) (Y_firstCellOf : Nat → Int32) (Y_secondCellOf : Nat → Int32) (Y_strideOf : Nat → Int32) (x1 : Int32) (rec2 : Int32 → (Nat → Int64) → Option ((Nat → Int64))) (y3 : Int32) (y6 : Nat → Int64) (rec24 : Int64 → Int32 → Option ((Nat → Int64))) (y4 : Int64) (y5 : Int32) : Option ((Nat → Int64)) :=
  if Y_ways ≤ y5 then (m_X2_readCrossings_j57 rec2 y3 y4 y6) else (bd1 (m_X2_doCross Y_firstCellOf Y_secondCellOf Y_strideOf y3 y5 x1) (fun v12 => if v12 = 0 then (m_X2_readCrossings_j51 rec24 y4 y5) else (lt1 (y4 ||| (((1 : Int64)) <<< (y5.toInt64 &&& 63))) (fun v16 => m_X2_readCrossings_j51 rec24 v16 y5))))
def m_X2_readCrossings_b2 (N : Nat) (Y_ways : Int32) (Y_firstCellOf : Nat → Int32) (Y_secondCellOf : Nat → Int32) (Y_strideOf : Nat → Int32) (x1 : Int32) (rec2 : Int32 → (Nat → Int64) → Option ((Nat → Int64))) (y1 : Int32) (y2 : Nat → Int64) : Option ((Nat → Int64)) :=
  if Y_ways ≤ y1 then (some y2) else (if 48 ≤ y1 then (some y2) else (zl2 (m_X2_readCrossings_b24 Y_ways Y_firstCellOf Y_secondCellOf Y_strideOf x1 rec2 y1 y2) N 0 0))
def m_X2_readCrossings (N : Nat) (Y_ways : Int32) (Y_firstCellOf : Nat → Int32) (Y_secondCellOf : Nat → Int32) (Y_strideOf : Nat → Int32) (Y_crossings : Nat → Int64) (x1 : Int32) : Option ((Nat → Int64)) :=
  zl2 (m_X2_readCrossings_b2 N Y_ways Y_firstCellOf Y_secondCellOf Y_strideOf x1) N 0 Y_crossings
set_option maxHeartbeats 4000000 in
set_option maxRecDepth 100000 in
theorem c_X2_readCrossings (l : Launch) (D : va_G) (cI cJ cS cB : ClassId) (a : Nat → Nat) (Y_islands : Int32) (Y_ways : Int32) (Y_firstCellOf : Nat → Int32) (Y_secondCellOf : Nat → Int32) (Y_strideOf : Nat → Int32) (Y_crossings : Nat → Int64) (x1 : Int32) (N : Nat) (Y_crossings' : Nat → Int64) (hm : m_X2_readCrossings N Y_ways Y_firstCellOf Y_secondCellOf Y_strideOf Y_crossings x1 = some Y_crossings') :
    mU l D (TYs cI cJ cS cB) yX2_readCrossings wsX2_readCrossings { frames := 3, cells := 0, slots := 0, locals := 72 } [.ref (a 5), .int x1] [o_Y a Y_islands Y_ways, ai (a 10) cI 48 Y_firstCellOf, ai (a 11) cI 48 Y_secondCellOf, ai (a 12) cI 48 Y_strideOf, aj (a 14) cJ 48 Y_crossings] [o_Y a Y_islands Y_ways, ai (a 10) cI 48 Y_firstCellOf, ai (a 11) cI 48 Y_secondCellOf, ai (a 12) cI 48 Y_strideOf, aj (a 14) cJ 48 Y_crossings'] none := by
  refine mG_of (cc := cX2_readCrossings) (maxL := 6) (ret := none) (by decide) rfl rfl (Nat.le_of_ble_eq_true rfl) ?_
  intro p e s m args below meth c A hx hb hr hml hlk hnm hts hown hK hP hD hA hS ls hl
  have hl : lv_has ls 6 [(0, .ref (a 5)), (1, .int x1)] := hl
  have hiX2 : ∀ w ∈ wsX20, w ∈ wsX2_readCrossings := fun w h => List.mem_cons_of_mem _ (List.mem_append_right _ h)
  unfold m_X2_readCrossings at hm
  have h2 : ∀ (n : Nat) (y1 : Int32) (y2 : Nat → Int64), zl2 (m_X2_readCrossings_b2 N Y_ways Y_firstCellOf Y_secondCellOf Y_strideOf x1) n y1 y2 = some Y_crossings' → ∀ (H : Heap) (locs : List Loc), va_P D vwCl [o_Y a Y_islands Y_ways, ai (a 10) cI 48 Y_firstCellOf, ai (a 11) cI 48 Y_secondCellOf, ai (a 12) cI 48 Y_strideOf, aj (a 14) cJ 48 y2] H → va_D A [o_Y a Y_islands Y_ways, ai (a 10) cI 48 Y_firstCellOf, ai (a 11) cI 48 Y_secondCellOf, ai (a 12) cI 48 Y_strideOf, aj (a 14) cJ 48 y2] → va_S A s.heap H locs → ∀ ls : Array Slot, lv_has ls 6 [(0, .ref (a 5)), (1, .int x1), (2, .int y1)] → W p l e { frames := 3, cells := 0, slots := 0, locals := 72 } s m args below meth c H locs 0 0 (MQ below (eQ D none (fun _ : Unit => [o_Y a Y_islands Y_ways, ai (a 10) cI 48 Y_firstCellOf, ai (a 11) cI 48 Y_secondCellOf, ai (a 12) cI 48 Y_strideOf, aj (a 14) cJ 48 Y_crossings']) A) args s 0 0 A) (F0 m 2 ls []) := by
    refine zl2_ind (fun rec2 ih2 y1 y2 hm => ?_)
    have h57 : ∀ (y7 : Int32) (y8 : Int64) (y9 : Nat → Int64), m_X2_readCrossings_j57 rec2 y7 y8 y9 = some Y_crossings' → ∀ (H : Heap) (locs : List Loc), va_P D vwCl [o_Y a Y_islands Y_ways, ai (a 10) cI 48 Y_firstCellOf, ai (a 11) cI 48 Y_secondCellOf, ai (a 12) cI 48 Y_strideOf, aj (a 14) cJ 48 y9] H → va_D A [o_Y a Y_islands Y_ways, ai (a 10) cI 48 Y_firstCellOf, ai (a 11) cI 48 Y_secondCellOf, ai (a 12) cI 48 Y_strideOf, aj (a 14) cJ 48 y9] → va_S A s.heap H locs → ∀ ls : Array Slot, lv_has ls 6 [(0, .ref (a 5)), (1, .int x1), (2, .int y7), (3, .long y8)] → W p l e { frames := 3, cells := 0, slots := 0, locals := 72 } s m args below meth c H locs 0 0 (MQ below (eQ D none (fun _ : Unit => [o_Y a Y_islands Y_ways, ai (a 10) cI 48 Y_firstCellOf, ai (a 11) cI 48 Y_secondCellOf, ai (a 12) cI 48 Y_strideOf, aj (a 14) cJ 48 Y_crossings']) A) args s 0 0 A) (F0 m 57 ls []) := by
      intro y7 y8 y9 hm H locs hP hD hS ls hl
      unfold m_X2_readCrossings_j57 at hm
      refine lv_aload_n hx hb dX2_readCrossings_57 rfl (lv_at hl 0 rfl) ?_
      refine va_get (D := D) (ci := 2) (v := .ref (a 14)) (C := RX2) (T := TX2) (N := 11) hx hb hts hiX2 hown hK.1 hP 0 rfl rfl 8 (by decide) (hts (.fieldLink RX2 36 "IslandBridges$Layout" "crossings" "[J") (List.mem_of_getElem? (i := 2) rfl)) (fun _ h9 => h9) rfl dX2_readCrossings_58 ?_
      refine lv_iload_n hx hb dX2_readCrossings_61 rfl (lv_at hl 2 rfl) ?_
      refine lv_lload_n hx hb dX2_readCrossings_62 rfl (lv_at hl 3 rfl) ?_
      obtain ⟨v10, nv10, ev10, hm⟩ := wrL_inv hm
      refine va_last hx hb hK.1 hP hD hS 4 1 rfl rfl nv10 dX2_readCrossings_63 (fun H locs hP hD hS => ?_)
      have hP : va_P D vwCl [o_Y a Y_islands Y_ways, ai (a 10) cI 48 Y_firstCellOf, ai (a 11) cI 48 Y_secondCellOf, ai (a 12) cI 48 Y_strideOf, aj (a 14) cJ 48 v10] H := by rw [← ev10]; exact hP
      have hD : va_D A [o_Y a Y_islands Y_ways, ai (a 10) cI 48 Y_firstCellOf, ai (a 11) cI 48 Y_secondCellOf, ai (a 12) cI 48 Y_strideOf, aj (a 14) cJ 48 v10] := by rw [← ev10]; exact hD
      obtain ⟨v11, ev11, hm⟩ := lt1_inv hm
      refine lv_iinc (v := v11) (lv' := [(2, .int v11), (0, .ref (a 5)), (1, .int x1), (3, .long y8)]) hx hb dX2_readCrossings_64 hl (k := 2) rfl ev11 (by decide) rfl (fun ls hl => ?_)
      refine lv_goto (tgt := 2) hx hb dX2_readCrossings_67 (by decide) ?_
      exact ih2 v11 v10 hm _ _ hP hD hS ls (lv_sub hl [1, 2, 0] rfl)
    have h24 : ∀ (y3 : Int32) (y6 : Nat → Int64), ∀ (n : Nat) (y4 : Int64) (y5 : Int32), zl2 (m_X2_readCrossings_b24 Y_ways Y_firstCellOf Y_secondCellOf Y_strideOf x1 rec2 y3 y6) n y4 y5 = some Y_crossings' → ∀ (H : Heap) (locs : List Loc), va_P D vwCl [o_Y a Y_islands Y_ways, ai (a 10) cI 48 Y_firstCellOf, ai (a 11) cI 48 Y_secondCellOf, ai (a 12) cI 48 Y_strideOf, aj (a 14) cJ 48 y6] H → va_D A [o_Y a Y_islands Y_ways, ai (a 10) cI 48 Y_firstCellOf, ai (a 11) cI 48 Y_secondCellOf, ai (a 12) cI 48 Y_strideOf, aj (a 14) cJ 48 y6] → va_S A s.heap H locs → ∀ ls : Array Slot, lv_has ls 6 [(0, .ref (a 5)), (1, .int x1), (2, .int y3), (3, .long y4), (5, .int y5)] → W p l e { frames := 3, cells := 0, slots := 0, locals := 72 } s m args below meth c H locs 0 0 (MQ below (eQ D none (fun _ : Unit => [o_Y a Y_islands Y_ways, ai (a 10) cI 48 Y_firstCellOf, ai (a 11) cI 48 Y_secondCellOf, ai (a 12) cI 48 Y_strideOf, aj (a 14) cJ 48 Y_crossings']) A) args s 0 0 A) (F0 m 24 ls []) := by
      intro y3 y6
      refine zl2_ind (fun rec24 ih24 y4 y5 hm => ?_)
      have h51 : ∀ (y13 : Int64) (y14 : Int32), m_X2_readCrossings_j51 rec24 y13 y14 = some Y_crossings' → ∀ (H : Heap) (locs : List Loc), va_P D vwCl [o_Y a Y_islands Y_ways, ai (a 10) cI 48 Y_firstCellOf, ai (a 11) cI 48 Y_secondCellOf, ai (a 12) cI 48 Y_strideOf, aj (a 14) cJ 48 y6] H → va_D A [o_Y a Y_islands Y_ways, ai (a 10) cI 48 Y_firstCellOf, ai (a 11) cI 48 Y_secondCellOf, ai (a 12) cI 48 Y_strideOf, aj (a 14) cJ 48 y6] → va_S A s.heap H locs → ∀ ls : Array Slot, lv_has ls 6 [(0, .ref (a 5)), (1, .int x1), (2, .int y3), (3, .long y13), (5, .int y14)] → W p l e { frames := 3, cells := 0, slots := 0, locals := 72 } s m args below meth c H locs 0 0 (MQ below (eQ D none (fun _ : Unit => [o_Y a Y_islands Y_ways, ai (a 10) cI 48 Y_firstCellOf, ai (a 11) cI 48 Y_secondCellOf, ai (a 12) cI 48 Y_strideOf, aj (a 14) cJ 48 Y_crossings']) A) args s 0 0 A) (F0 m 51 ls []) := by
        intro y13 y14 hm H locs hP hD hS ls hl
        unfold m_X2_readCrossings_j51 at hm
        obtain ⟨v15, ev15, hm⟩ := lt1_inv hm
        refine lv_iinc (v := v15) (lv' := [(5, .int v15), (0, .ref (a 5)), (1, .int x1), (2, .int y3), (3, .long y13)]) hx hb dX2_readCrossings_51 hl (k := 4) rfl ev15 (by decide) rfl (fun ls hl => ?_)
        refine lv_goto (tgt := 24) hx hb dX2_readCrossings_54 (by decide) ?_
        exact ih24 y13 v15 hm _ _ hP hD hS ls (lv_sub hl [1, 2, 3, 4, 0] rfl)
      intro H locs hP hD hS ls hl
      unfold m_X2_readCrossings_b24 at hm
      refine lv_iload hx hb dX2_readCrossings_24 (lv_at hl 4 rfl) ?_
      refine lv_aload_n hx hb dX2_readCrossings_26 rfl (lv_at hl 0 rfl) ?_
      refine va_get (D := D) (ci := 2) (v := .int Y_ways) (C := RX2) (T := TX2) (N := 11) hx hb hts hiX2 hown hK.1 hP 0 rfl rfl 10 (by decide) (hts (.fieldLink RX2 73 "IslandBridges$Layout" "ways" "I") (List.mem_of_getElem? (i := 1) rfl)) (fun _ h9 => h9) rfl dX2_readCrossings_27 ?_
      refine lv_icmp_ge (tgt := 57) hx hb dX2_readCrossings_30 (by decide) (fun c30 => ?_) (fun c30 => ?_)
      · have hm := ip c30 hm
        exact h57 y3 y4 y6 hm _ _ hP hD hS ls (lv_sub hl [0, 1, 2, 3] rfl)
      · have hm := ine c30 hm
        refine lv_aload_n hx hb dX2_readCrossings_33 rfl (lv_at hl 0 rfl) ?_
        refine lv_iload_n hx hb dX2_readCrossings_34 rfl (lv_at hl 2 rfl) ?_
        refine lv_iload hx hb dX2_readCrossings_35 (lv_at hl 4 rfl) ?_
        refine lv_iload_n hx hb dX2_readCrossings_37 rfl (lv_at hl 1 rfl) ?_
        obtain ⟨v12, h_v12, hm⟩ := bd1_inv hm
        refine cVs ⟨hx, hb, hml, hown, hts⟩ (c_X2_doCross l D cI cJ cS cB a Y_islands Y_ways Y_firstCellOf Y_secondCellOf Y_strideOf y3 y5 x1 v12 h_v12) (cwV 3 hts gX2_readCrossings_X2_doCross rfl rfl rfl hd_X2_doCross ⟨(Nat.le_of_ble_eq_true rfl), (Nat.le_of_ble_eq_true rfl)⟩) hK hP hD hS hA [0, 1, 2, 3] rfl rfl rfl hl.1 (Nat.le_of_ble_eq_true rfl) ⟨Nat.zero_le _, Nat.zero_le _⟩ 0 rfl rfl rfl rfl dX2_readCrossings_38 (fun H locs hP hD hS => ?_)
        refine lv_if_eq (tgt := 51) hx hb dX2_readCrossings_41 (by decide) (fun c41 => ?_) (fun c41 => ?_)
        · have hm := ip c41 hm
          exact h51 y4 y5 hm _ _ hP hD hS ls (lv_sub hl [0, 1, 2, 3, 4] rfl)
        · have hm := ine c41 hm
          refine lv_lload_n hx hb dX2_readCrossings_44 rfl (lv_at hl 3 rfl) ?_
          refine lv_lconst (v := 1) hx hb dX2_readCrossings_45 (by decide) ?_
          refine lv_iload hx hb dX2_readCrossings_46 (lv_at hl 4 rfl) ?_
          refine lv_lshl hx hb dX2_readCrossings_48 (v := ((1 : Int64)) <<< (y5.toInt64 &&& 63)) rfl ?_
          refine lv_lor hx hb dX2_readCrossings_49 ?_
          obtain ⟨v16, ev16, hm⟩ := lt1_inv hm
          refine ltopL ev16 ?_
          refine lv_lstore_n (lv' := [(3, .long v16), (0, .ref (a 5)), (1, .int x1), (2, .int y3), (5, .int y5)]) hx hb dX2_readCrossings_50 rfl hl (by decide) rfl (fun ls hl => ?_)
          exact h51 v16 y5 hm _ _ hP hD hS ls (lv_sub hl [1, 2, 3, 0, 4] rfl)
    intro H locs hP hD hS ls hl
    unfold m_X2_readCrossings_b2 at hm
    refine lv_iload_n hx hb dX2_readCrossings_2 rfl (lv_at hl 2 rfl) ?_
    refine lv_aload_n hx hb dX2_readCrossings_3 rfl (lv_at hl 0 rfl) ?_
    refine va_get (D := D) (ci := 2) (v := .int Y_ways) (C := RX2) (T := TX2) (N := 11) hx hb hts hiX2 hown hK.1 hP 0 rfl rfl 10 (by decide) (hts (.fieldLink RX2 73 "IslandBridges$Layout" "ways" "I") (List.mem_of_getElem? (i := 1) rfl)) (fun _ h9 => h9) rfl dX2_readCrossings_4 ?_
    refine lv_icmp_ge (tgt := 70) hx hb dX2_readCrossings_7 (by decide) (fun c7 => ?_) (fun c7 => ?_)
    · have hm := ip c7 hm
      cases hm
      exact rV () hx hb hr hlk hP hD hS dX2_readCrossings_70
    · have hm := ine c7 hm
      refine lv_iload_n hx hb dX2_readCrossings_10 rfl (lv_at hl 2 rfl) ?_
      refine lv_aload_n hx hb dX2_readCrossings_11 rfl (lv_at hl 0 rfl) ?_
      refine va_get (D := D) (ci := 2) (v := .ref (a 14)) (C := RX2) (T := TX2) (N := 11) hx hb hts hiX2 hown hK.1 hP 0 rfl rfl 8 (by decide) (hts (.fieldLink RX2 36 "IslandBridges$Layout" "crossings" "[J") (List.mem_of_getElem? (i := 2) rfl)) (fun _ h9 => h9) rfl dX2_readCrossings_12 ?_
      refine va_alen hx hb hK.1 hP 4 1 rfl rfl (v := 48) rfl dX2_readCrossings_15 ?_
      refine lv_icmp_ge (tgt := 70) hx hb dX2_readCrossings_16 (by decide) (fun c16 => ?_) (fun c16 => ?_)
      · have hm := ip c16 hm
        cases hm
        exact rV () hx hb hr hlk hP hD hS dX2_readCrossings_70
      · have hm := ine c16 hm
        refine lv_lconst (v := 0) hx hb dX2_readCrossings_19 (by decide) ?_
        refine lv_lstore_n (lv' := [(3, .long 0), (0, .ref (a 5)), (1, .int x1), (2, .int y1)]) hx hb dX2_readCrossings_20 rfl hl (by decide) rfl (fun ls hl => ?_)
        refine lv_iconst (v := 0) hx hb dX2_readCrossings_21 (by decide) ?_
        refine lv_istore (lv' := [(5, .int 0), (3, .long 0), (0, .ref (a 5)), (1, .int x1), (2, .int y1)]) hx hb dX2_readCrossings_22 hl (by decide) rfl (fun ls hl => ?_)
        exact h24 y1 y2 N 0 0 hm _ _ hP hD hS ls (lv_sub hl [2, 3, 4, 1, 0] rfl)
  refine lv_iconst (v := 0) hx hb dX2_readCrossings_0 (by decide) ?_
  refine lv_istore_n (lv' := [(2, .int 0), (0, .ref (a 5)), (1, .int x1)]) hx hb dX2_readCrossings_1 rfl hl (by decide) rfl (fun ls hl => ?_)
  exact h2  N 0 Y_crossings hm _ _ hP hD hS ls (lv_sub hl [1, 2, 0] rfl)
theorem hd_X2_read : yX2_read.cls = RX2 ∧ yX2_read.cls ≠ "java/lang/invoke/MethodHandle" ∧ yX2_read.cls ≠ "java/lang/invoke/VarHandle" ∧ (parseMethodDescriptor yX2_read.desc).map (fun d => d.parameters.length) = some 1 := by decide +kernel
def m_X2_read (N : Nat) (S_columns : Int32) (S_rows : Int32) (S_numbers : Nat → Int32) (Y_cellOf : Nat → Int32) (Y_islandAfter : Nat → Int32) (Y_firstOf : Nat → Int32) (Y_secondOf : Nat → Int32) (Y_firstCellOf : Nat → Int32) (Y_secondCellOf : Nat → Int32) (Y_strideOf : Nat → Int32) (Y_waysOf : Nat → Int32) (Y_crossings : Nat → Int64) : Option (Int32 × Int32 × (Nat → Int32) × (Nat → Int32) × (Nat → Int32) × (Nat → Int32) × (Nat → Int32) × (Nat → Int32) × (Nat → Int32) × (Nat → Int32) × (Nat → Int64)) :=
  bd4 (m_X2_readIslands N S_columns S_rows S_numbers Y_cellOf Y_islandAfter Y_waysOf) (fun v1 v2 v3 v4 => lt1 (m_X6_cells S_columns S_rows) (fun v5 => bd7 (m_X2_readWays N v1 v2 v3 Y_firstOf Y_secondOf Y_firstCellOf Y_secondCellOf Y_strideOf v4 S_columns v5) (fun v6 v7 v8 v9 v10 v11 v12 => bd1 (m_X2_readCrossings N v6 v9 v10 v11 Y_crossings S_columns) (fun v13 => some ((v1, v6, v2, v3, v7, v8, v9, v10, v11, v12, v13))))))
set_option maxHeartbeats 4000000 in
set_option maxRecDepth 100000 in
theorem c_X2_read (l : Launch) (D : va_G) (cI cJ cS cB : ClassId) (a : Nat → Nat) (S_columns : Int32) (S_rows : Int32) (S_grade : Int32) (S_stepsMade : Int32) (S_numbers : Nat → Int32) (Y_islands : Int32) (Y_ways : Int32) (Y_cellOf : Nat → Int32) (Y_islandAfter : Nat → Int32) (Y_firstOf : Nat → Int32) (Y_secondOf : Nat → Int32) (Y_firstCellOf : Nat → Int32) (Y_secondCellOf : Nat → Int32) (Y_strideOf : Nat → Int32) (Y_waysOf : Nat → Int32) (Y_crossings : Nat → Int64)  (N : Nat) (Y_islands' : Int32) (Y_ways' : Int32) (Y_cellOf' : Nat → Int32) (Y_islandAfter' : Nat → Int32) (Y_firstOf' : Nat → Int32) (Y_secondOf' : Nat → Int32) (Y_firstCellOf' : Nat → Int32) (Y_secondCellOf' : Nat → Int32) (Y_strideOf' : Nat → Int32) (Y_waysOf' : Nat → Int32) (Y_crossings' : Nat → Int64) (hm : m_X2_read N S_columns S_rows S_numbers Y_cellOf Y_islandAfter Y_firstOf Y_secondOf Y_firstCellOf Y_secondCellOf Y_strideOf Y_waysOf Y_crossings = some (Y_islands', Y_ways', Y_cellOf', Y_islandAfter', Y_firstOf', Y_secondOf', Y_firstCellOf', Y_secondCellOf', Y_strideOf', Y_waysOf', Y_crossings')) :
    mU l D (TYs cI cJ cS cB) yX2_read wsX2_read { frames := 4, cells := 0, slots := 0, locals := 97 } [.ref (a 5), .ref (a 1)] [o_S a S_columns S_rows S_grade S_stepsMade, ai (a 2) cI 144 S_numbers, o_Y a Y_islands Y_ways, ai (a 6) cI 24 Y_cellOf, ai (a 7) cI 144 Y_islandAfter, ai (a 8) cI 48 Y_firstOf, ai (a 9) cI 48 Y_secondOf, ai (a 10) cI 48 Y_firstCellOf, ai (a 11) cI 48 Y_secondCellOf, ai (a 12) cI 48 Y_strideOf, ai (a 13) cI 24 Y_waysOf, aj (a 14) cJ 48 Y_crossings] [o_S a S_columns S_rows S_grade S_stepsMade, ai (a 2) cI 144 S_numbers, o_Y a Y_islands' Y_ways', ai (a 6) cI 24 Y_cellOf', ai (a 7) cI 144 Y_islandAfter', ai (a 8) cI 48 Y_firstOf', ai (a 9) cI 48 Y_secondOf', ai (a 10) cI 48 Y_firstCellOf', ai (a 11) cI 48 Y_secondCellOf', ai (a 12) cI 48 Y_strideOf', ai (a 13) cI 24 Y_waysOf', aj (a 14) cJ 48 Y_crossings'] none := by
  refine mG_of (cc := cX2_read) (maxL := 2) (ret := none) (by decide) rfl rfl (Nat.le_of_ble_eq_true rfl) ?_
  intro p e s m args below meth c A hx hb hr hml hlk hnm hts hown hK hP hD hA hS ls hl
  have hl : lv_has ls 2 [(0, .ref (a 5)), (1, .ref (a 1))] := hl
  have hiX2 : ∀ w ∈ wsX20, w ∈ wsX2_read := fun w h => List.mem_cons_of_mem _ (List.mem_append_right _ h)
  have hiX6 : ∀ w ∈ wsX60, w ∈ wsX2_read := fun w h => List.mem_cons_of_mem _ (List.mem_append_left _ (List.mem_append_right _ h))
  unfold m_X2_read at hm
  refine lv_aload_n hx hb dX2_read_0 rfl (lv_at hl 0 rfl) ?_
  refine lv_aload_n hx hb dX2_read_1 rfl (lv_at hl 1 rfl) ?_
  obtain ⟨v1, v2, v3, v4, h_v1, hm⟩ := bd4_inv hm
  refine cVx ⟨hx, hb, hml, hown, hts⟩ (c_X2_readIslands l D cI cJ cS cB a S_columns S_rows S_grade S_stepsMade S_numbers Y_islands Y_ways Y_cellOf Y_islandAfter Y_waysOf N v1 v2 v3 v4 h_v1) (cwV 1 hts gX2_read_X2_readIslands rfl rfl rfl hd_X2_readIslands ⟨(Nat.le_of_ble_eq_true rfl), (Nat.le_of_ble_eq_true rfl)⟩) hK hP hD hS hA [0, 1, 2, 3, 4, 10] rfl rfl [o_S a S_columns S_rows S_grade S_stepsMade, ai (a 2) cI 144 S_numbers, o_Y a v1 Y_ways, ai (a 6) cI 24 v2, ai (a 7) cI 144 v3, ai (a 8) cI 48 Y_firstOf, ai (a 9) cI 48 Y_secondOf, ai (a 10) cI 48 Y_firstCellOf, ai (a 11) cI 48 Y_secondCellOf, ai (a 12) cI 48 Y_strideOf, ai (a 13) cI 24 v4, aj (a 14) cJ 48 Y_crossings] [(true, 0), (true, 1), (true, 2), (true, 3), (true, 4), (false, 5), (false, 6), (false, 7), (false, 8), (false, 9), (true, 5), (false, 11)] rfl rfl rfl hl.1 (Nat.le_of_ble_eq_true rfl) ⟨Nat.zero_le _, Nat.zero_le _⟩ 2 rfl rfl rfl rfl dX2_read_2 (fun H locs hP hD hS => ?_)
  refine lv_aload_n hx hb dX2_read_5 rfl (lv_at hl 0 rfl) ?_
  refine lv_aload_n hx hb dX2_read_6 rfl (lv_at hl 1 rfl) ?_
  refine va_get (D := D) (ci := 6) (v := .int S_columns) (C := RX6) (T := TX6) (N := 7) hx hb hts hiX6 hown hK.1 hP 0 rfl rfl 3 (by decide) (hts (.fieldLink RX2 44 "IslandBridges$State" "columns" "I") (List.mem_of_getElem? (i := 1) rfl)) (fun _ h9 => h9) rfl dX2_read_7 ?_
  refine lv_aload_n hx hb dX2_read_10 rfl (lv_at hl 1 rfl) ?_
  obtain ⟨v5, h_v5, hm⟩ := lt1_inv hm
  refine cVs ⟨hx, hb, hml, hown, hts⟩ (c_X6_cells l D cI cJ cS cB a S_columns S_rows S_grade S_stepsMade v5 h_v5) (cwV 0 hts gX2_read_X6_cells rfl rfl rfl hd_X6_cells ⟨(Nat.le_of_ble_eq_true rfl), (Nat.le_of_ble_eq_true rfl)⟩) hK hP hD hS hA [0] rfl rfl rfl hl.1 (Nat.le_of_ble_eq_true rfl) ⟨Nat.zero_le _, Nat.zero_le _⟩ 0 rfl rfl rfl rfl dX2_read_11 (fun H locs hP hD hS => ?_)
  obtain ⟨v6, v7, v8, v9, v10, v11, v12, h_v6, hm⟩ := bd7_inv hm
  refine cVx ⟨hx, hb, hml, hown, hts⟩ (c_X2_readWays l D cI cJ cS cB a v1 Y_ways v2 v3 Y_firstOf Y_secondOf Y_firstCellOf Y_secondCellOf Y_strideOf v4 S_columns v5 N v6 v7 v8 v9 v10 v11 v12 h_v6) (cwV 2 hts gX2_read_X2_readWays rfl rfl rfl hd_X2_readWays ⟨(Nat.le_of_ble_eq_true rfl), (Nat.le_of_ble_eq_true rfl)⟩) hK hP hD hS hA [2, 3, 4, 5, 6, 7, 8, 9, 10] rfl rfl [o_S a S_columns S_rows S_grade S_stepsMade, ai (a 2) cI 144 S_numbers, o_Y a v1 v6, ai (a 6) cI 24 v2, ai (a 7) cI 144 v3, ai (a 8) cI 48 v7, ai (a 9) cI 48 v8, ai (a 10) cI 48 v9, ai (a 11) cI 48 v10, ai (a 12) cI 48 v11, ai (a 13) cI 24 v12, aj (a 14) cJ 48 Y_crossings] [(false, 0), (false, 1), (true, 0), (true, 1), (true, 2), (true, 3), (true, 4), (true, 5), (true, 6), (true, 7), (true, 8), (false, 11)] rfl rfl rfl hl.1 (Nat.le_of_ble_eq_true rfl) ⟨Nat.zero_le _, Nat.zero_le _⟩ 2 rfl rfl rfl rfl dX2_read_14 (fun H locs hP hD hS => ?_)
  refine lv_aload_n hx hb dX2_read_17 rfl (lv_at hl 0 rfl) ?_
  refine lv_aload_n hx hb dX2_read_18 rfl (lv_at hl 1 rfl) ?_
  refine va_get (D := D) (ci := 6) (v := .int S_columns) (C := RX6) (T := TX6) (N := 7) hx hb hts hiX6 hown hK.1 hP 0 rfl rfl 3 (by decide) (hts (.fieldLink RX2 44 "IslandBridges$State" "columns" "I") (List.mem_of_getElem? (i := 1) rfl)) (fun _ h9 => h9) rfl dX2_read_19 ?_
  obtain ⟨v13, h_v13, hm⟩ := bd1_inv hm
  refine cVx ⟨hx, hb, hml, hown, hts⟩ (c_X2_readCrossings l D cI cJ cS cB a v1 v6 v9 v10 v11 Y_crossings S_columns N v13 h_v13) (cwV 1 hts gX2_read_X2_readCrossings rfl rfl rfl hd_X2_readCrossings ⟨(Nat.le_of_ble_eq_true rfl), (Nat.le_of_ble_eq_true rfl)⟩) hK hP hD hS hA [2, 7, 8, 9, 11] rfl rfl [o_S a S_columns S_rows S_grade S_stepsMade, ai (a 2) cI 144 S_numbers, o_Y a v1 v6, ai (a 6) cI 24 v2, ai (a 7) cI 144 v3, ai (a 8) cI 48 v7, ai (a 9) cI 48 v8, ai (a 10) cI 48 v9, ai (a 11) cI 48 v10, ai (a 12) cI 48 v11, ai (a 13) cI 24 v12, aj (a 14) cJ 48 v13] [(false, 0), (false, 1), (true, 0), (false, 3), (false, 4), (false, 5), (false, 6), (true, 1), (true, 2), (true, 3), (false, 10), (true, 4)] rfl rfl rfl hl.1 (Nat.le_of_ble_eq_true rfl) ⟨Nat.zero_le _, Nat.zero_le _⟩ 2 rfl rfl rfl rfl dX2_read_22 (fun H locs hP hD hS => ?_)
  cases hm
  exact rV () hx hb hr hlk hP hD hS dX2_read_25
theorem hd_X2_secondCell : yX2_secondCell.cls = RX2 ∧ yX2_secondCell.cls ≠ "java/lang/invoke/MethodHandle" ∧ yX2_secondCell.cls ≠ "java/lang/invoke/VarHandle" ∧ (parseMethodDescriptor yX2_secondCell.desc).map (fun d => d.parameters.length) = some 1 := by decide +kernel
def m_X2_secondCell (Y_secondCellOf : Nat → Int32) (x1 : Int32) : Int32 :=
  lt1 (vAt 48 Y_secondCellOf x1) (fun v1 => v1)
set_option maxHeartbeats 4000000 in
set_option maxRecDepth 100000 in
theorem c_X2_secondCell (l : Launch) (D : va_G) (cI cJ cS cB : ClassId) (a : Nat → Nat) (Y_islands : Int32) (Y_ways : Int32) (Y_secondCellOf : Nat → Int32) (x1 : Int32) (r0 : Int32) (hm : m_X2_secondCell Y_secondCellOf x1 = r0) :
    mU l D (TYs cI cJ cS cB) yX2_secondCell wsX2_secondCell { frames := 1, cells := 0, slots := 0, locals := 21 } [.ref (a 5), .int x1] [o_Y a Y_islands Y_ways, ai (a 11) cI 48 Y_secondCellOf] [o_Y a Y_islands Y_ways, ai (a 11) cI 48 Y_secondCellOf] (some (.int r0)) := by
  refine mG_of (cc := cX2_secondCell) (maxL := 2) (ret := (some .int)) (by decide) rfl rfl (Nat.le_of_ble_eq_true rfl) ?_
  intro p e s m args below meth c A hx hb hr hml hlk hnm hts hown hK hP hD hA hS ls hl
  have hl : lv_has ls 2 [(0, .ref (a 5)), (1, .int x1)] := hl
  have hiX2 : ∀ w ∈ wsX20, w ∈ wsX2_secondCell := fun w h => List.mem_cons_of_mem _ (List.mem_append_right _ h)
  unfold m_X2_secondCell at hm
  refine lv_aload_n hx hb dX2_secondCell_0 rfl (lv_at hl 0 rfl) ?_
  refine va_get (D := D) (ci := 2) (v := .ref (a 11)) (C := RX2) (T := TX2) (N := 11) hx hb hts hiX2 hown hK.1 hP 0 rfl rfl 5 (by decide) (hts (.fieldLink RX2 27 "IslandBridges$Layout" "secondCellOf" "[I") (List.mem_of_getElem? (i := 1) rfl)) (fun _ h9 => h9) rfl dX2_secondCell_1 ?_
  refine lv_iload_n hx hb dX2_secondCell_4 rfl (lv_at hl 1 rfl) ?_
  obtain ⟨v1, ev1, hm⟩ := lt1_inv hm
  refine cNs ⟨hx, hb, hml, hown, hts⟩ (c_X9_valueAt l D cI cJ cS cB (a 11) 48 (Nat.le_of_ble_eq_true rfl) Y_secondCellOf x1 v1 ev1) ⟨va_cnB 2 hts gX2_secondCell_X9_valueAt_n62 rfl rfl rfl (kn_4 hK) (hts (.initialized RX9) (List.mem_of_getElem? (i := 3) rfl)) hd_X9_valueAt ⟨(Nat.le_of_ble_eq_true rfl), (Nat.le_of_ble_eq_true rfl)⟩, (hts (.static yX9_valueAt) (List.mem_of_getElem? (i := 2) rfl)), trivial⟩ hK hP hD hS hA [1] rfl rfl rfl hl.1 (Nat.le_of_ble_eq_true rfl) ⟨Nat.zero_le _, Nat.zero_le _⟩ rfl dX2_secondCell_5 (fun H locs hP hD hS => ?_)
  cases hm
  exact rI () hx hb hr hlk hP hD hS dX2_secondCell_8
theorem hd_X2_cellsBetween : yX2_cellsBetween.cls = RX2 ∧ yX2_cellsBetween.cls ≠ "java/lang/invoke/MethodHandle" ∧ yX2_cellsBetween.cls ≠ "java/lang/invoke/VarHandle" ∧ (parseMethodDescriptor yX2_cellsBetween.desc).map (fun d => d.parameters.length) = some 1 := by decide +kernel
def m_X2_cellsBetween (Y_firstCellOf : Nat → Int32) (Y_secondCellOf : Nat → Int32) (Y_strideOf : Nat → Int32) (x1 : Int32) : Option (Int32) :=
  lt1 (vAt 48 Y_strideOf x1) (fun v1 => if v1 = 0 then (some 0) else (lt1 (m_X2_secondCell Y_secondCellOf x1) (fun v2 => lt1 (m_X2_firstCell Y_firstCellOf x1) (fun v3 => dvd (v2 - v3) v1 (fun v4 => some (v4 - 1))))))
set_option maxHeartbeats 4000000 in
set_option maxRecDepth 100000 in
theorem c_X2_cellsBetween (l : Launch) (D : va_G) (cI cJ cS cB : ClassId) (a : Nat → Nat) (Y_islands : Int32) (Y_ways : Int32) (Y_firstCellOf : Nat → Int32) (Y_secondCellOf : Nat → Int32) (Y_strideOf : Nat → Int32) (x1 : Int32) (r0 : Int32) (hm : m_X2_cellsBetween Y_firstCellOf Y_secondCellOf Y_strideOf x1 = some r0) :
    mU l D (TYs cI cJ cS cB) yX2_cellsBetween wsX2_cellsBetween { frames := 2, cells := 0, slots := 0, locals := 42 } [.ref (a 5), .int x1] [o_Y a Y_islands Y_ways, ai (a 10) cI 48 Y_firstCellOf, ai (a 11) cI 48 Y_secondCellOf, ai (a 12) cI 48 Y_strideOf] [o_Y a Y_islands Y_ways, ai (a 10) cI 48 Y_firstCellOf, ai (a 11) cI 48 Y_secondCellOf, ai (a 12) cI 48 Y_strideOf] (some (.int r0)) := by
  refine mG_of (cc := cX2_cellsBetween) (maxL := 3) (ret := (some .int)) (by decide) rfl rfl (Nat.le_of_ble_eq_true rfl) ?_
  intro p e s m args below meth c A hx hb hr hml hlk hnm hts hown hK hP hD hA hS ls hl
  have hl : lv_has ls 3 [(0, .ref (a 5)), (1, .int x1)] := hl
  have hiX2 : ∀ w ∈ wsX20, w ∈ wsX2_cellsBetween := fun w h => List.mem_cons_of_mem _ (List.mem_append_right _ h)
  unfold m_X2_cellsBetween at hm
  refine lv_aload_n hx hb dX2_cellsBetween_0 rfl (lv_at hl 0 rfl) ?_
  refine va_get (D := D) (ci := 2) (v := .ref (a 12)) (C := RX2) (T := TX2) (N := 11) hx hb hts hiX2 hown hK.1 hP 0 rfl rfl 6 (by decide) (hts (.fieldLink RX2 30 "IslandBridges$Layout" "strideOf" "[I") (List.mem_of_getElem? (i := 1) rfl)) (fun _ h9 => h9) rfl dX2_cellsBetween_1 ?_
  refine lv_iload_n hx hb dX2_cellsBetween_4 rfl (lv_at hl 1 rfl) ?_
  obtain ⟨v1, ev1, hm⟩ := lt1_inv hm
  refine cNs ⟨hx, hb, hml, hown, hts⟩ (c_X9_valueAt l D cI cJ cS cB (a 12) 48 (Nat.le_of_ble_eq_true rfl) Y_strideOf x1 v1 ev1) ⟨va_cnB 2 hts gX2_cellsBetween_X9_valueAt_n62 rfl rfl rfl (kn_4 hK) (hts (.initialized RX9) (List.mem_of_getElem? (i := 3) rfl)) hd_X9_valueAt ⟨(Nat.le_of_ble_eq_true rfl), (Nat.le_of_ble_eq_true rfl)⟩, (hts (.static yX9_valueAt) (List.mem_of_getElem? (i := 2) rfl)), trivial⟩ hK hP hD hS hA [3] rfl rfl rfl hl.1 (Nat.le_of_ble_eq_true rfl) ⟨Nat.zero_le _, Nat.zero_le _⟩ rfl dX2_cellsBetween_5 (fun H locs hP hD hS => ?_)
  refine lv_istore_n (lv' := [(2, .int v1), (0, .ref (a 5)), (1, .int x1)]) hx hb dX2_cellsBetween_8 rfl hl (by decide) rfl (fun ls hl => ?_)
  refine lv_iload_n hx hb dX2_cellsBetween_9 rfl (lv_at hl 0 rfl) ?_
  refine lv_if_ne (tgt := 17) hx hb dX2_cellsBetween_10 (by decide) (fun c10 => ?_) (fun c10 => ?_)
  · have hm := ine c10 hm
    refine lv_aload_n hx hb dX2_cellsBetween_17 rfl (lv_at hl 1 rfl) ?_
    refine lv_iload_n hx hb dX2_cellsBetween_18 rfl (lv_at hl 2 rfl) ?_
    obtain ⟨v2, h_v2, hm⟩ := lt1_inv hm
    refine cVs ⟨hx, hb, hml, hown, hts⟩ (c_X2_secondCell l D cI cJ cS cB a Y_islands Y_ways Y_secondCellOf x1 v2 h_v2) (cwV 1 hts gX2_cellsBetween_X2_secondCell rfl rfl rfl hd_X2_secondCell ⟨(Nat.le_of_ble_eq_true rfl), (Nat.le_of_ble_eq_true rfl)⟩) hK hP hD hS hA [0, 2] rfl rfl rfl hl.1 (Nat.le_of_ble_eq_true rfl) ⟨Nat.zero_le _, Nat.zero_le _⟩ 0 rfl rfl rfl rfl dX2_cellsBetween_19 (fun H locs hP hD hS => ?_)
    refine lv_aload_n hx hb dX2_cellsBetween_22 rfl (lv_at hl 1 rfl) ?_
    refine lv_iload_n hx hb dX2_cellsBetween_23 rfl (lv_at hl 2 rfl) ?_
    obtain ⟨v3, h_v3, hm⟩ := lt1_inv hm
    refine cVs ⟨hx, hb, hml, hown, hts⟩ (c_X2_firstCell l D cI cJ cS cB a Y_islands Y_ways Y_firstCellOf x1 v3 h_v3) (cwV 1 hts gX2_cellsBetween_X2_firstCell rfl rfl rfl hd_X2_firstCell ⟨(Nat.le_of_ble_eq_true rfl), (Nat.le_of_ble_eq_true rfl)⟩) hK hP hD hS hA [0, 1] rfl rfl rfl hl.1 (Nat.le_of_ble_eq_true rfl) ⟨Nat.zero_le _, Nat.zero_le _⟩ 0 rfl rfl rfl rfl dX2_cellsBetween_24 (fun H locs hP hD hS => ?_)
    refine lv_isub hx hb dX2_cellsBetween_27 ?_
    refine lv_iload_n hx hb dX2_cellsBetween_28 rfl (lv_at hl 0 rfl) ?_
    obtain ⟨v4, nv4, ev4, hm⟩ := dvd_inv hm
    refine lv_idiv hx hb dX2_cellsBetween_29 nv4 ?_
    refine ltop ev4 ?_
    refine lv_iconst (v := 1) hx hb dX2_cellsBetween_30 (by decide) ?_
    refine lv_isub hx hb dX2_cellsBetween_31 ?_
    cases hm
    exact rI () hx hb hr hlk hP hD hS dX2_cellsBetween_32
  · have hm := ip c10 hm
    refine lv_iconst (v := 0) hx hb dX2_cellsBetween_13 (by decide) ?_
    refine lv_goto (tgt := 32) hx hb dX2_cellsBetween_14 (by decide) ?_
    cases hm
    exact rI () hx hb hr hlk hP hD hS dX2_cellsBetween_32
theorem hd_X2_crossingsOf : yX2_crossingsOf.cls = RX2 ∧ yX2_crossingsOf.cls ≠ "java/lang/invoke/MethodHandle" ∧ yX2_crossingsOf.cls ≠ "java/lang/invoke/VarHandle" ∧ (parseMethodDescriptor yX2_crossingsOf.desc).map (fun d => d.parameters.length) = some 1 := by decide +kernel
def m_X2_crossingsOf_j22  : Option (Int64) :=
  some 0
def m_X2_crossingsOf (Y_crossings : Nat → Int64) (x1 : Int32) : Option (Int64) :=
  if x1 < 0 then (m_X2_crossingsOf_j22) else (if 48 ≤ x1 then (m_X2_crossingsOf_j22) else (rdL 48 Y_crossings x1 (fun v1 => some v1)))
set_option maxHeartbeats 4000000 in
set_option maxRecDepth 100000 in
theorem c_X2_crossingsOf (l : Launch) (D : va_G) (cI cJ cS cB : ClassId) (a : Nat → Nat) (Y_islands : Int32) (Y_ways : Int32) (Y_crossings : Nat → Int64) (x1 : Int32) (r0 : Int64) (hm : m_X2_crossingsOf Y_crossings x1 = some r0) :
    mU l D (TYs cI cJ cS cB) yX2_crossingsOf wsX2_crossingsOf { frames := 0, cells := 0, slots := 0, locals := 0 } [.ref (a 5), .int x1] [o_Y a Y_islands Y_ways, aj (a 14) cJ 48 Y_crossings] [o_Y a Y_islands Y_ways, aj (a 14) cJ 48 Y_crossings] (some (.long r0)) := by
  refine mG_of (cc := cX2_crossingsOf) (maxL := 2) (ret := (some .long)) (by decide) rfl rfl (Nat.le_of_ble_eq_true rfl) ?_
  intro p e s m args below meth c A hx hb hr hml hlk hnm hts hown hK hP hD hA hS ls hl
  have hl : lv_has ls 2 [(0, .ref (a 5)), (1, .int x1)] := hl
  have hiX2 : ∀ w ∈ wsX20, w ∈ wsX2_crossingsOf := fun w h => List.mem_cons_of_mem _ (List.mem_append_right _ h)
  unfold m_X2_crossingsOf at hm
  have h22 : m_X2_crossingsOf_j22 = some r0 → ∀ (H : Heap) (locs : List Loc), va_P D vwCl [o_Y a Y_islands Y_ways, aj (a 14) cJ 48 Y_crossings] H → va_D A [o_Y a Y_islands Y_ways, aj (a 14) cJ 48 Y_crossings] → va_S A s.heap H locs → ∀ ls : Array Slot, lv_has ls 2 [] → W p l e { frames := 0, cells := 0, slots := 0, locals := 0 } s m args below meth c H locs 0 0 (MQ below (eQ D (some (.long r0)) (fun _ : Unit => [o_Y a Y_islands Y_ways, aj (a 14) cJ 48 Y_crossings]) A) args s 0 0 A) (F0 m 22 ls []) := by
    intro  hm H locs hP hD hS ls hl
    unfold m_X2_crossingsOf_j22 at hm
    refine lv_lconst (v := 0) hx hb dX2_crossingsOf_22 (by decide) ?_
    cases hm
    exact rL () hx hb hr hlk hP hD hS dX2_crossingsOf_23
  refine lv_iload_n hx hb dX2_crossingsOf_0 rfl (lv_at hl 1 rfl) ?_
  refine lv_if_lt (tgt := 22) hx hb dX2_crossingsOf_1 (by decide) (fun c1 => ?_) (fun c1 => ?_)
  · have hm := ip c1 hm
    exact h22  hm _ _ hP hD hS ls (lv_sub hl [] rfl)
  · have hm := ine c1 hm
    refine lv_iload_n hx hb dX2_crossingsOf_4 rfl (lv_at hl 1 rfl) ?_
    refine lv_aload_n hx hb dX2_crossingsOf_5 rfl (lv_at hl 0 rfl) ?_
    refine va_get (D := D) (ci := 2) (v := .ref (a 14)) (C := RX2) (T := TX2) (N := 11) hx hb hts hiX2 hown hK.1 hP 0 rfl rfl 8 (by decide) (hts (.fieldLink RX2 36 "IslandBridges$Layout" "crossings" "[J") (List.mem_of_getElem? (i := 1) rfl)) (fun _ h9 => h9) rfl dX2_crossingsOf_6 ?_
    refine va_alen hx hb hK.1 hP 1 1 rfl rfl (v := 48) rfl dX2_crossingsOf_9 ?_
    refine lv_icmp_ge (tgt := 22) hx hb dX2_crossingsOf_10 (by decide) (fun c10 => ?_) (fun c10 => ?_)
    · have hm := ip c10 hm
      exact h22  hm _ _ hP hD hS ls (lv_sub hl [] rfl)
    · have hm := ine c10 hm
      refine lv_aload_n hx hb dX2_crossingsOf_13 rfl (lv_at hl 0 rfl) ?_
      refine va_get (D := D) (ci := 2) (v := .ref (a 14)) (C := RX2) (T := TX2) (N := 11) hx hb hts hiX2 hown hK.1 hP 0 rfl rfl 8 (by decide) (hts (.fieldLink RX2 36 "IslandBridges$Layout" "crossings" "[J") (List.mem_of_getElem? (i := 1) rfl)) (fun _ h9 => h9) rfl dX2_crossingsOf_14 ?_
      refine lv_iload_n hx hb dX2_crossingsOf_17 rfl (lv_at hl 1 rfl) ?_
      obtain ⟨v1, nv1, ev1, hm⟩ := rdL_inv hm
      refine va_lald hx hb hK.1 hP 1 1 rfl rfl nv1 dX2_crossingsOf_18 ?_
      refine ltopL ev1 ?_
      refine lv_goto (tgt := 23) hx hb dX2_crossingsOf_19 (by decide) ?_
      cases hm
      exact rL () hx hb hr hlk hP hD hS dX2_crossingsOf_23
theorem hd_X2_waysWith : yX2_waysWith.cls = RX2 ∧ yX2_waysWith.cls ≠ "java/lang/invoke/MethodHandle" ∧ yX2_waysWith.cls ≠ "java/lang/invoke/VarHandle" ∧ (parseMethodDescriptor yX2_waysWith.desc).map (fun d => d.parameters.length) = some 1 := by decide +kernel
def m_X2_waysWith_j36 (y3 : Int64) : Option (Int64) :=
  some y3
def m_X2_waysWith_j30 (rec5 : Int64 → Int32 → Option (Int64)) (y5 : Int64) (y6 : Int32) : Option (Int64) :=
  lt1 (y6 + 1) (fun v7 => rec5 y5 v7)
def m_X2_waysWith_b5 (Y_ways : Int32) (P : Nat → Int32) (rec5 : Int64 → Int32 → Option (Int64)) (y1 : Int64) (y2 : Int32) : Option (Int64) :=
  if Y_ways ≤ y2 then (m_X2_waysWith_j36 y1) else (lt1 (vAt 48 P y2) (fun v4 => if v4 ≤ 0 then (m_X2_waysWith_j30 rec5 y1 y2) else (lt1 (y1 ||| (((1 : Int64)) <<< (y2.toInt64 &&& 63))) (fun v8 => m_X2_waysWith_j30 rec5 v8 y2))))
def m_X2_waysWith (N : Nat) (Y_ways : Int32) (P : Nat → Int32) : Option (Int64) :=
  zl2 (m_X2_waysWith_b5 Y_ways P) N 0 0
set_option maxHeartbeats 4000000 in
set_option maxRecDepth 100000 in
theorem c_X2_waysWith (l : Launch) (D : va_G) (cI cJ cS cB : ClassId) (a : Nat → Nat) (q : Nat) (Y_islands : Int32) (Y_ways : Int32) (P : Nat → Int32)  (N : Nat) (r0 : Int64) (hm : m_X2_waysWith N Y_ways P = some r0) :
    mU l D (TYs cI cJ cS cB) yX2_waysWith wsX2_waysWith { frames := 1, cells := 0, slots := 0, locals := 21 } [.ref (a 5), .ref (q)] [o_Y a Y_islands Y_ways, ai (q) cI 48 P] [o_Y a Y_islands Y_ways, ai (q) cI 48 P] (some (.long r0)) := by
  refine mG_of (cc := cX2_waysWith) (maxL := 5) (ret := (some .long)) (by decide) rfl rfl (Nat.le_of_ble_eq_true rfl) ?_
  intro p e s m args below meth c A hx hb hr hml hlk hnm hts hown hK hP hD hA hS ls hl
  have hl : lv_has ls 5 [(0, .ref (a 5)), (1, .ref (q))] := hl
  have hiX2 : ∀ w ∈ wsX20, w ∈ wsX2_waysWith := fun w h => List.mem_cons_of_mem _ (List.mem_append_right _ h)
  unfold m_X2_waysWith at hm
  have h36 : ∀ (y3 : Int64), m_X2_waysWith_j36 y3 = some r0 → ∀ (H : Heap) (locs : List Loc), va_P D vwCl [o_Y a Y_islands Y_ways, ai (q) cI 48 P] H → va_D A [o_Y a Y_islands Y_ways, ai (q) cI 48 P] → va_S A s.heap H locs → ∀ ls : Array Slot, lv_has ls 5 [(2, .long y3)] → W p l e { frames := 1, cells := 0, slots := 0, locals := 21 } s m args below meth c H locs 0 0 (MQ below (eQ D (some (.long r0)) (fun _ : Unit => [o_Y a Y_islands Y_ways, ai (q) cI 48 P]) A) args s 0 0 A) (F0 m 36 ls []) := by
    intro y3 hm H locs hP hD hS ls hl
    unfold m_X2_waysWith_j36 at hm
    refine lv_lload_n hx hb dX2_waysWith_36 rfl (lv_at hl 0 rfl) ?_
    cases hm
    exact rL () hx hb hr hlk hP hD hS dX2_waysWith_37
  have h5 : ∀ (n : Nat) (y1 : Int64) (y2 : Int32), zl2 (m_X2_waysWith_b5 Y_ways P) n y1 y2 = some r0 → ∀ (H : Heap) (locs : List Loc), va_P D vwCl [o_Y a Y_islands Y_ways, ai (q) cI 48 P] H → va_D A [o_Y a Y_islands Y_ways, ai (q) cI 48 P] → va_S A s.heap H locs → ∀ ls : Array Slot, lv_has ls 5 [(0, .ref (a 5)), (1, .ref (q)), (2, .long y1), (4, .int y2)] → W p l e { frames := 1, cells := 0, slots := 0, locals := 21 } s m args below meth c H locs 0 0 (MQ below (eQ D (some (.long r0)) (fun _ : Unit => [o_Y a Y_islands Y_ways, ai (q) cI 48 P]) A) args s 0 0 A) (F0 m 5 ls []) := by
    refine zl2_ind (fun rec5 ih5 y1 y2 hm => ?_)
    have h30 : ∀ (y5 : Int64) (y6 : Int32), m_X2_waysWith_j30 rec5 y5 y6 = some r0 → ∀ (H : Heap) (locs : List Loc), va_P D vwCl [o_Y a Y_islands Y_ways, ai (q) cI 48 P] H → va_D A [o_Y a Y_islands Y_ways, ai (q) cI 48 P] → va_S A s.heap H locs → ∀ ls : Array Slot, lv_has ls 5 [(0, .ref (a 5)), (1, .ref (q)), (2, .long y5), (4, .int y6)] → W p l e { frames := 1, cells := 0, slots := 0, locals := 21 } s m args below meth c H locs 0 0 (MQ below (eQ D (some (.long r0)) (fun _ : Unit => [o_Y a Y_islands Y_ways, ai (q) cI 48 P]) A) args s 0 0 A) (F0 m 30 ls []) := by
      intro y5 y6 hm H locs hP hD hS ls hl
      unfold m_X2_waysWith_j30 at hm
      obtain ⟨v7, ev7, hm⟩ := lt1_inv hm
      refine lv_iinc (v := v7) (lv' := [(4, .int v7), (0, .ref (a 5)), (1, .ref (q)), (2, .long y5)]) hx hb dX2_waysWith_30 hl (k := 3) rfl ev7 (by decide) rfl (fun ls hl => ?_)
      refine lv_goto (tgt := 5) hx hb dX2_waysWith_33 (by decide) ?_
      exact ih5 y5 v7 hm _ _ hP hD hS ls (lv_sub hl [1, 2, 3, 0] rfl)
    intro H locs hP hD hS ls hl
    unfold m_X2_waysWith_b5 at hm
    refine lv_iload hx hb dX2_waysWith_5 (lv_at hl 3 rfl) ?_
    refine lv_aload_n hx hb dX2_waysWith_7 rfl (lv_at hl 0 rfl) ?_
    refine va_get (D := D) (ci := 2) (v := .int Y_ways) (C := RX2) (T := TX2) (N := 11) hx hb hts hiX2 hown hK.1 hP 0 rfl rfl 10 (by decide) (hts (.fieldLink RX2 73 "IslandBridges$Layout" "ways" "I") (List.mem_of_getElem? (i := 1) rfl)) (fun _ h9 => h9) rfl dX2_waysWith_8 ?_
    refine lv_icmp_ge (tgt := 36) hx hb dX2_waysWith_11 (by decide) (fun c11 => ?_) (fun c11 => ?_)
    · have hm := ip c11 hm
      exact h36 y1 hm _ _ hP hD hS ls (lv_sub hl [2] rfl)
    · have hm := ine c11 hm
      refine lv_aload_n hx hb dX2_waysWith_14 rfl (lv_at hl 1 rfl) ?_
      refine lv_iload hx hb dX2_waysWith_15 (lv_at hl 3 rfl) ?_
      obtain ⟨v4, ev4, hm⟩ := lt1_inv hm
      refine cNs ⟨hx, hb, hml, hown, hts⟩ (c_X9_valueAt l D cI cJ cS cB (q) 48 (Nat.le_of_ble_eq_true rfl) P y2 v4 ev4) ⟨va_cnB 2 hts gX2_waysWith_X9_valueAt_n62 rfl rfl rfl (kn_4 hK) (hts (.initialized RX9) (List.mem_of_getElem? (i := 3) rfl)) hd_X9_valueAt ⟨(Nat.le_of_ble_eq_true rfl), (Nat.le_of_ble_eq_true rfl)⟩, (hts (.static yX9_valueAt) (List.mem_of_getElem? (i := 2) rfl)), trivial⟩ hK hP hD hS hA [1] rfl rfl rfl hl.1 (Nat.le_of_ble_eq_true rfl) ⟨Nat.zero_le _, Nat.zero_le _⟩ rfl dX2_waysWith_17 (fun H locs hP hD hS => ?_)
      refine lv_if_le (tgt := 30) hx hb dX2_waysWith_20 (by decide) (fun c20 => ?_) (fun c20 => ?_)
      · have hm := ip c20 hm
        exact h30 y1 y2 hm _ _ hP hD hS ls (lv_sub hl [0, 1, 2, 3] rfl)
      · have hm := ine c20 hm
        refine lv_lload_n hx hb dX2_waysWith_23 rfl (lv_at hl 2 rfl) ?_
        refine lv_lconst (v := 1) hx hb dX2_waysWith_24 (by decide) ?_
        refine lv_iload hx hb dX2_waysWith_25 (lv_at hl 3 rfl) ?_
        refine lv_lshl hx hb dX2_waysWith_27 (v := ((1 : Int64)) <<< (y2.toInt64 &&& 63)) rfl ?_
        refine lv_lor hx hb dX2_waysWith_28 ?_
        obtain ⟨v8, ev8, hm⟩ := lt1_inv hm
        refine ltopL ev8 ?_
        refine lv_lstore_n (lv' := [(2, .long v8), (0, .ref (a 5)), (1, .ref (q)), (4, .int y2)]) hx hb dX2_waysWith_29 rfl hl (by decide) rfl (fun ls hl => ?_)
        exact h30 v8 y2 hm _ _ hP hD hS ls (lv_sub hl [1, 2, 0, 3] rfl)
  refine lv_lconst (v := 0) hx hb dX2_waysWith_0 (by decide) ?_
  refine lv_lstore_n (lv' := [(2, .long 0), (0, .ref (a 5)), (1, .ref (q))]) hx hb dX2_waysWith_1 rfl hl (by decide) rfl (fun ls hl => ?_)
  refine lv_iconst (v := 0) hx hb dX2_waysWith_2 (by decide) ?_
  refine lv_istore (lv' := [(4, .int 0), (2, .long 0), (0, .ref (a 5)), (1, .ref (q))]) hx hb dX2_waysWith_3 hl (by decide) rfl (fun ls hl => ?_)
  exact h5  N 0 0 hm _ _ hP hD hS ls (lv_sub hl [2, 3, 1, 0] rfl)
theorem hd_X7_addWay : yX7_addWay.cls = RX7 ∧ yX7_addWay.cls ≠ "java/lang/invoke/MethodHandle" ∧ yX7_addWay.cls ≠ "java/lang/invoke/VarHandle" ∧ (parseMethodDescriptor yX7_addWay.desc).map (fun d => d.parameters.length) = some 2 := by decide +kernel
def m_X7_addWay (S_bridges : Nat → Int32) (S_caps : Nat → Int32) (U_bridges : Nat → Int32) (U_caps : Nat → Int32) (x1 : Int32) (x2 : Int32) : (Nat → Int32) × (Nat → Int32) :=
  lt1 (vAt 48 S_bridges x2) (fun v1 => lt1 (vAdd 24 U_bridges x1 v1) (fun v2 => lt1 (vAt 48 S_caps x2) (fun v3 => lt1 (vAdd 24 U_caps x1 v3) (fun v4 => (v2, v4)))))
set_option maxHeartbeats 4000000 in
set_option maxRecDepth 100000 in
theorem c_X7_addWay (l : Launch) (D : va_G) (cI cJ cS cB : ClassId) (a : Nat → Nat) (S_columns : Int32) (S_rows : Int32) (S_grade : Int32) (S_stepsMade : Int32) (S_bridges : Nat → Int32) (S_caps : Nat → Int32) (U_bridges : Nat → Int32) (U_caps : Nat → Int32) (x1 : Int32) (x2 : Int32) (U_bridges' : Nat → Int32) (U_caps' : Nat → Int32) (hm : m_X7_addWay S_bridges S_caps U_bridges U_caps x1 x2 = (U_bridges', U_caps')) :
    mU l D (TYs cI cJ cS cB) yX7_addWay wsX7_addWay { frames := 1, cells := 0, slots := 0, locals := 22 } [.ref (a 15), .int x1, .int x2] [o_S a S_columns S_rows S_grade S_stepsMade, ai (a 3) cI 48 S_bridges, ai (a 4) cI 48 S_caps, o_U a , ai (a 17) cI 24 U_bridges, ai (a 18) cI 24 U_caps] [o_S a S_columns S_rows S_grade S_stepsMade, ai (a 3) cI 48 S_bridges, ai (a 4) cI 48 S_caps, o_U a , ai (a 17) cI 24 U_bridges', ai (a 18) cI 24 U_caps'] none := by
  refine mG_of (cc := cX7_addWay) (maxL := 3) (ret := none) (by decide) rfl rfl (Nat.le_of_ble_eq_true rfl) ?_
  intro p e s m args below meth c A hx hb hr hml hlk hnm hts hown hK hP hD hA hS ls hl
  have hl : lv_has ls 3 [(0, .ref (a 15)), (1, .int x1), (2, .int x2)] := hl
  have hiX6 : ∀ w ∈ wsX60, w ∈ wsX7_addWay := fun w h => List.mem_cons_of_mem _ (List.mem_append_right _ h)
  have hiX7 : ∀ w ∈ wsX70, w ∈ wsX7_addWay := fun w h => List.mem_cons_of_mem _ (List.mem_append_left _ (List.mem_append_right _ h))
  unfold m_X7_addWay at hm
  refine lv_aload_n hx hb dX7_addWay_0 rfl (lv_at hl 0 rfl) ?_
  refine va_get (D := D) (ci := 7) (v := .ref (a 17)) (C := RX7) (T := TX7) (N := 6) hx hb hts hiX7 hown hK.1 hP 3 rfl rfl 3 (by decide) (hts (.fieldLink RX7 15 "IslandBridges$Sums" "bridges" "[I") (List.mem_of_getElem? (i := 1) rfl)) (fun _ h9 => h9) rfl dX7_addWay_1 ?_
  refine lv_iload_n hx hb dX7_addWay_4 rfl (lv_at hl 1 rfl) ?_
  refine lv_aload_n hx hb dX7_addWay_5 rfl (lv_at hl 0 rfl) ?_
  refine va_get (D := D) (ci := 7) (v := .ref (a 1)) (C := RX7) (T := TX7) (N := 6) hx hb hts hiX7 hown hK.1 hP 3 rfl rfl 0 (by decide) (hts (.fieldLink RX7 24 "IslandBridges$Sums" "state" "LIslandBridges$State;") (List.mem_of_getElem? (i := 2) rfl)) (fun _ h9 => h9) rfl dX7_addWay_6 ?_
  refine va_get (D := D) (ci := 6) (v := .ref (a 3)) (C := RX6) (T := TX6) (N := 7) hx hb hts hiX6 hown hK.1 hP 0 rfl rfl 1 (by decide) (hts (.fieldLink RX7 66 "IslandBridges$State" "bridges" "[I") (List.mem_of_getElem? (i := 3) rfl)) (fun _ h9 => h9) rfl dX7_addWay_9 ?_
  refine lv_iload_n hx hb dX7_addWay_12 rfl (lv_at hl 2 rfl) ?_
  obtain ⟨v1, ev1, hm⟩ := lt1_inv hm
  refine cNs ⟨hx, hb, hml, hown, hts⟩ (c_X9_valueAt l D cI cJ cS cB (a 3) 48 (Nat.le_of_ble_eq_true rfl) S_bridges x2 v1 ev1) ⟨va_cnB 2 hts gX7_addWay_X9_valueAt_n62 rfl rfl rfl (kn_8 hK) (hts (.initialized RX9) (List.mem_of_getElem? (i := 7) rfl)) hd_X9_valueAt ⟨(Nat.le_of_ble_eq_true rfl), (Nat.le_of_ble_eq_true rfl)⟩, (hts (.static yX9_valueAt) (List.mem_of_getElem? (i := 6) rfl)), trivial⟩ hK hP hD hS hA [1] rfl rfl rfl hl.1 (Nat.le_of_ble_eq_true rfl) ⟨Nat.zero_le _, Nat.zero_le _⟩ rfl dX7_addWay_13 (fun H locs hP hD hS => ?_)
  obtain ⟨v2, ev2, hm⟩ := lt1_inv hm
  refine cNx ⟨hx, hb, hml, hown, hts⟩ (c_X9_add l D cI cJ cS cB (a 17) 24 (Nat.le_of_ble_eq_true rfl) U_bridges x1 v1 v2 ev2) ⟨va_cnB 3 hts gX7_addWay_X9_add_n67 rfl rfl rfl (kn_9 hK) (hts (.initialized RX9) (List.mem_of_getElem? (i := 7) rfl)) hd_X9_add ⟨(Nat.le_of_ble_eq_true rfl), (Nat.le_of_ble_eq_true rfl)⟩, (hts (.static yX9_add) (List.mem_of_getElem? (i := 9) rfl)), trivial⟩ hK hP hD hS hA [4] rfl rfl [o_S a S_columns S_rows S_grade S_stepsMade, ai (a 3) cI 48 S_bridges, ai (a 4) cI 48 S_caps, o_U a , ai (a 17) cI 24 v2, ai (a 18) cI 24 U_caps] [(false, 0), (false, 1), (false, 2), (false, 3), (true, 0), (false, 5)] rfl rfl rfl hl.1 (Nat.le_of_ble_eq_true rfl) ⟨Nat.zero_le _, Nat.zero_le _⟩ rfl dX7_addWay_16 (fun H locs hP hD hS => ?_)
  refine lv_aload_n hx hb dX7_addWay_19 rfl (lv_at hl 0 rfl) ?_
  refine va_get (D := D) (ci := 7) (v := .ref (a 18)) (C := RX7) (T := TX7) (N := 6) hx hb hts hiX7 hown hK.1 hP 3 rfl rfl 4 (by decide) (hts (.fieldLink RX7 18 "IslandBridges$Sums" "caps" "[I") (List.mem_of_getElem? (i := 4) rfl)) (fun _ h9 => h9) rfl dX7_addWay_20 ?_
  refine lv_iload_n hx hb dX7_addWay_23 rfl (lv_at hl 1 rfl) ?_
  refine lv_aload_n hx hb dX7_addWay_24 rfl (lv_at hl 0 rfl) ?_
  refine va_get (D := D) (ci := 7) (v := .ref (a 1)) (C := RX7) (T := TX7) (N := 6) hx hb hts hiX7 hown hK.1 hP 3 rfl rfl 0 (by decide) (hts (.fieldLink RX7 24 "IslandBridges$Sums" "state" "LIslandBridges$State;") (List.mem_of_getElem? (i := 2) rfl)) (fun _ h9 => h9) rfl dX7_addWay_25 ?_
  refine va_get (D := D) (ci := 6) (v := .ref (a 4)) (C := RX6) (T := TX6) (N := 7) hx hb hts hiX6 hown hK.1 hP 0 rfl rfl 2 (by decide) (hts (.fieldLink RX7 70 "IslandBridges$State" "caps" "[I") (List.mem_of_getElem? (i := 5) rfl)) (fun _ h9 => h9) rfl dX7_addWay_28 ?_
  refine lv_iload_n hx hb dX7_addWay_31 rfl (lv_at hl 2 rfl) ?_
  obtain ⟨v3, ev3, hm⟩ := lt1_inv hm
  refine cNs ⟨hx, hb, hml, hown, hts⟩ (c_X9_valueAt l D cI cJ cS cB (a 4) 48 (Nat.le_of_ble_eq_true rfl) S_caps x2 v3 ev3) ⟨va_cnB 2 hts gX7_addWay_X9_valueAt_n62 rfl rfl rfl (kn_8 hK) (hts (.initialized RX9) (List.mem_of_getElem? (i := 7) rfl)) hd_X9_valueAt ⟨(Nat.le_of_ble_eq_true rfl), (Nat.le_of_ble_eq_true rfl)⟩, (hts (.static yX9_valueAt) (List.mem_of_getElem? (i := 6) rfl)), trivial⟩ hK hP hD hS hA [2] rfl rfl rfl hl.1 (Nat.le_of_ble_eq_true rfl) ⟨Nat.zero_le _, Nat.zero_le _⟩ rfl dX7_addWay_32 (fun H locs hP hD hS => ?_)
  obtain ⟨v4, ev4, hm⟩ := lt1_inv hm
  refine cNx ⟨hx, hb, hml, hown, hts⟩ (c_X9_add l D cI cJ cS cB (a 18) 24 (Nat.le_of_ble_eq_true rfl) U_caps x1 v3 v4 ev4) ⟨va_cnB 3 hts gX7_addWay_X9_add_n67 rfl rfl rfl (kn_9 hK) (hts (.initialized RX9) (List.mem_of_getElem? (i := 7) rfl)) hd_X9_add ⟨(Nat.le_of_ble_eq_true rfl), (Nat.le_of_ble_eq_true rfl)⟩, (hts (.static yX9_add) (List.mem_of_getElem? (i := 9) rfl)), trivial⟩ hK hP hD hS hA [5] rfl rfl [o_S a S_columns S_rows S_grade S_stepsMade, ai (a 3) cI 48 S_bridges, ai (a 4) cI 48 S_caps, o_U a , ai (a 17) cI 24 v2, ai (a 18) cI 24 v4] [(false, 0), (false, 1), (false, 2), (false, 3), (false, 4), (true, 0)] rfl rfl rfl hl.1 (Nat.le_of_ble_eq_true rfl) ⟨Nat.zero_le _, Nat.zero_le _⟩ rfl dX7_addWay_35 (fun H locs hP hD hS => ?_)
  cases hm
  exact rV () hx hb hr hlk hP hD hS dX7_addWay_38
theorem hd_X7_read : yX7_read.cls = RX7 ∧ yX7_read.cls ≠ "java/lang/invoke/MethodHandle" ∧ yX7_read.cls ≠ "java/lang/invoke/VarHandle" ∧ (parseMethodDescriptor yX7_read.desc).map (fun d => d.parameters.length) = some 0 := by decide +kernel
def m_X7_read_b79 (S_numbers : Nat → Int32) (Y_islands : Int32) (Y_cellOf : Nat → Int32) (y21 : Nat → Int32) (y22 : Nat → Int32) (rec79 : Int32 → (Nat → Int32) → (Nat → Int32) → Option ((Nat → Int32) × (Nat → Int32) × (Nat → Int32) × (Nat → Int32))) (y19 : Int32) (y20 : Nat → Int32) (y23 : Nat → Int32) : Option ((Nat → Int32) × (Nat → Int32) × (Nat → Int32) × (Nat → Int32)) :=
  if Y_islands ≤ y19 then (some ((y20, y21, y22, y23))) else (lt1 (m_X2_cellOf Y_cellOf y19) (fun v24 => lt1 (vAt 144 S_numbers v24) (fun v25 => lt1 (vPut 24 y20 y19 v25) (fun v26 => lt1 (vAt 24 y21 y19) (fun v27 => lt1 (vPut 24 y23 y19 (v25 - v27)) (fun v28 => lt1 (y19 + 1) (fun v29 => rec79 v29 v26 v28)))))))
def m_X7_read_j77 (N : Nat) (S_numbers : Nat → Int32) (Y_islands : Int32) (Y_cellOf : Nat → Int32) (y15 : Nat → Int32) (y16 : Nat → Int32) (y17 : Nat → Int32) (y18 : Nat → Int32) : Option ((Nat → Int32) × (Nat → Int32) × (Nat → Int32) × (Nat → Int32)) :=
  zl3 (m_X7_read_b79 S_numbers Y_islands Y_cellOf y16 y17) N 0 y15 y18
def m_X7_read_b34 (N : Nat) (S_numbers : Nat → Int32) (S_bridges : Nat → Int32) (S_caps : Nat → Int32) (Y_islands : Int32) (Y_ways : Int32) (Y_cellOf : Nat → Int32) (Y_firstOf : Nat → Int32) (Y_secondOf : Nat → Int32) (y11 : Nat → Int32) (y14 : Nat → Int32) (rec34 : Int32 → (Nat → Int32) → (Nat → Int32) → Option ((Nat → Int32) × (Nat → Int32) × (Nat → Int32) × (Nat → Int32))) (y10 : Int32) (y12 : Nat → Int32) (y13 : Nat → Int32) : Option ((Nat → Int32) × (Nat → Int32) × (Nat → Int32) × (Nat → Int32)) :=
  if Y_ways ≤ y10 then (m_X7_read_j77 N S_numbers Y_islands Y_cellOf y11 y12 y13 y14) else (lt1 (m_X2_first Y_firstOf y10) (fun v30 => lt2 (m_X7_addWay S_bridges S_caps y12 y13 v30 y10) (fun v31 v32 => lt1 (m_X2_second Y_secondOf y10) (fun v33 => lt2 (m_X7_addWay S_bridges S_caps v31 v32 v33 y10) (fun v34 v35 => lt1 (y10 + 1) (fun v36 => rec34 v36 v34 v35))))))
def m_X7_read_j32 (N : Nat) (S_numbers : Nat → Int32) (S_bridges : Nat → Int32) (S_caps : Nat → Int32) (Y_islands : Int32) (Y_ways : Int32) (Y_cellOf : Nat → Int32) (Y_firstOf : Nat → Int32) (Y_secondOf : Nat → Int32) (y6 : Nat → Int32) (y7 : Nat → Int32) (y8 : Nat → Int32) (y9 : Nat → Int32) : Option ((Nat → Int32) × (Nat → Int32) × (Nat → Int32) × (Nat → Int32)) :=
  zl3 (m_X7_read_b34 N S_numbers S_bridges S_caps Y_islands Y_ways Y_cellOf Y_firstOf Y_secondOf y6 y9) N 0 y7 y8
def m_X7_read_b2 (N : Nat) (S_numbers : Nat → Int32) (S_bridges : Nat → Int32) (S_caps : Nat → Int32) (Y_islands : Int32) (Y_ways : Int32) (Y_cellOf : Nat → Int32) (Y_firstOf : Nat → Int32) (Y_secondOf : Nat → Int32) (y2 : Nat → Int32) (y5 : Nat → Int32) (rec2 : Int32 → (Nat → Int32) → (Nat → Int32) → Option ((Nat → Int32) × (Nat → Int32) × (Nat → Int32) × (Nat → Int32))) (y1 : Int32) (y3 : Nat → Int32) (y4 : Nat → Int32) : Option ((Nat → Int32) × (Nat → Int32) × (Nat → Int32) × (Nat → Int32)) :=
  if 24 ≤ y1 then (m_X7_read_j32 N S_numbers S_bridges S_caps Y_islands Y_ways Y_cellOf Y_firstOf Y_secondOf y2 y3 y4 y5) else (lt1 (vPut 24 y3 y1 0) (fun v37 => lt1 (vPut 24 y4 y1 0) (fun v38 => lt1 (y1 + 1) (fun v39 => rec2 v39 v37 v38))))
def m_X7_read (N : Nat) (S_numbers : Nat → Int32) (S_bridges : Nat → Int32) (S_caps : Nat → Int32) (Y_islands : Int32) (Y_ways : Int32) (Y_cellOf : Nat → Int32) (Y_firstOf : Nat → Int32) (Y_secondOf : Nat → Int32) (U_numbers : Nat → Int32) (U_bridges : Nat → Int32) (U_caps : Nat → Int32) (U_lacks : Nat → Int32) : Option ((Nat → Int32) × (Nat → Int32) × (Nat → Int32) × (Nat → Int32)) :=
  zl3 (m_X7_read_b2 N S_numbers S_bridges S_caps Y_islands Y_ways Y_cellOf Y_firstOf Y_secondOf U_numbers U_lacks) N 0 U_bridges U_caps
set_option maxHeartbeats 4000000 in
set_option maxRecDepth 100000 in
theorem c_X7_read (l : Launch) (D : va_G) (cI cJ cS cB : ClassId) (a : Nat → Nat) (S_columns : Int32) (S_rows : Int32) (S_grade : Int32) (S_stepsMade : Int32) (S_numbers : Nat → Int32) (S_bridges : Nat → Int32) (S_caps : Nat → Int32) (Y_islands : Int32) (Y_ways : Int32) (Y_cellOf : Nat → Int32) (Y_firstOf : Nat → Int32) (Y_secondOf : Nat → Int32) (U_numbers : Nat → Int32) (U_bridges : Nat → Int32) (U_caps : Nat → Int32) (U_lacks : Nat → Int32)  (N : Nat) (U_numbers' : Nat → Int32) (U_bridges' : Nat → Int32) (U_caps' : Nat → Int32) (U_lacks' : Nat → Int32) (hm : m_X7_read N S_numbers S_bridges S_caps Y_islands Y_ways Y_cellOf Y_firstOf Y_secondOf U_numbers U_bridges U_caps U_lacks = some (U_numbers', U_bridges', U_caps', U_lacks')) :
    mU l D (TYs cI cJ cS cB) yX7_read wsX7_read { frames := 2, cells := 0, slots := 0, locals := 44 } [.ref (a 15)] [o_S a S_columns S_rows S_grade S_stepsMade, ai (a 2) cI 144 S_numbers, ai (a 3) cI 48 S_bridges, ai (a 4) cI 48 S_caps, o_Y a Y_islands Y_ways, ai (a 6) cI 24 Y_cellOf, ai (a 8) cI 48 Y_firstOf, ai (a 9) cI 48 Y_secondOf, o_U a , ai (a 16) cI 24 U_numbers, ai (a 17) cI 24 U_bridges, ai (a 18) cI 24 U_caps, ai (a 19) cI 24 U_lacks] [o_S a S_columns S_rows S_grade S_stepsMade, ai (a 2) cI 144 S_numbers, ai (a 3) cI 48 S_bridges, ai (a 4) cI 48 S_caps, o_Y a Y_islands Y_ways, ai (a 6) cI 24 Y_cellOf, ai (a 8) cI 48 Y_firstOf, ai (a 9) cI 48 Y_secondOf, o_U a , ai (a 16) cI 24 U_numbers', ai (a 17) cI 24 U_bridges', ai (a 18) cI 24 U_caps', ai (a 19) cI 24 U_lacks'] none := by
  refine mG_of (cc := cX7_read) (maxL := 3) (ret := none) (by decide) rfl rfl (Nat.le_of_ble_eq_true rfl) ?_
  intro p e s m args below meth c A hx hb hr hml hlk hnm hts hown hK hP hD hA hS ls hl
  have hl : lv_has ls 3 [(0, .ref (a 15))] := hl
  have hiX2 : ∀ w ∈ wsX20, w ∈ wsX7_read := fun w h => List.mem_cons_of_mem _ (List.mem_append_left _ (List.mem_append_right _ h))
  have hiX6 : ∀ w ∈ wsX60, w ∈ wsX7_read := fun w h => List.mem_cons_of_mem _ (List.mem_append_right _ h)
  have hiX7 : ∀ w ∈ wsX70, w ∈ wsX7_read := fun w h => List.mem_cons_of_mem _ (List.mem_append_left _ (List.mem_append_left _ (List.mem_append_right _ h)))
  unfold m_X7_read at hm
  have h79 : ∀ (y21 : Nat → Int32) (y22 : Nat → Int32), ∀ (n : Nat) (y19 : Int32) (y20 : Nat → Int32) (y23 : Nat → Int32), zl3 (m_X7_read_b79 S_numbers Y_islands Y_cellOf y21 y22) n y19 y20 y23 = some (U_numbers', U_bridges', U_caps', U_lacks') → ∀ (H : Heap) (locs : List Loc), va_P D vwCl [o_S a S_columns S_rows S_grade S_stepsMade, ai (a 2) cI 144 S_numbers, ai (a 3) cI 48 S_bridges, ai (a 4) cI 48 S_caps, o_Y a Y_islands Y_ways, ai (a 6) cI 24 Y_cellOf, ai (a 8) cI 48 Y_firstOf, ai (a 9) cI 48 Y_secondOf, o_U a , ai (a 16) cI 24 y20, ai (a 17) cI 24 y21, ai (a 18) cI 24 y22, ai (a 19) cI 24 y23] H → va_D A [o_S a S_columns S_rows S_grade S_stepsMade, ai (a 2) cI 144 S_numbers, ai (a 3) cI 48 S_bridges, ai (a 4) cI 48 S_caps, o_Y a Y_islands Y_ways, ai (a 6) cI 24 Y_cellOf, ai (a 8) cI 48 Y_firstOf, ai (a 9) cI 48 Y_secondOf, o_U a , ai (a 16) cI 24 y20, ai (a 17) cI 24 y21, ai (a 18) cI 24 y22, ai (a 19) cI 24 y23] → va_S A s.heap H locs → ∀ ls : Array Slot, lv_has ls 3 [(0, .ref (a 15)), (1, .int y19)] → W p l e { frames := 2, cells := 0, slots := 0, locals := 44 } s m args below meth c H locs 0 0 (MQ below (eQ D none (fun _ : Unit => [o_S a S_columns S_rows S_grade S_stepsMade, ai (a 2) cI 144 S_numbers, ai (a 3) cI 48 S_bridges, ai (a 4) cI 48 S_caps, o_Y a Y_islands Y_ways, ai (a 6) cI 24 Y_cellOf, ai (a 8) cI 48 Y_firstOf, ai (a 9) cI 48 Y_secondOf, o_U a , ai (a 16) cI 24 U_numbers', ai (a 17) cI 24 U_bridges', ai (a 18) cI 24 U_caps', ai (a 19) cI 24 U_lacks']) A) args s 0 0 A) (F0 m 79 ls []) := by
    intro y21 y22
    refine zl3_ind (fun rec79 ih79 y19 y20 y23 hm => ?_)
    intro H locs hP hD hS ls hl
    unfold m_X7_read_b79 at hm
    refine lv_iload_n hx hb dX7_read_79 rfl (lv_at hl 1 rfl) ?_
    refine lv_aload_n hx hb dX7_read_80 rfl (lv_at hl 0 rfl) ?_
    refine va_get (D := D) (ci := 7) (v := .ref (a 5)) (C := RX7) (T := TX7) (N := 6) hx hb hts hiX7 hown hK.1 hP 8 rfl rfl 1 (by decide) (hts (.fieldLink RX7 28 "IslandBridges$Sums" "layout" "LIslandBridges$Layout;") (List.mem_of_getElem? (i := 3) rfl)) (fun _ h9 => h9) rfl dX7_read_81 ?_
    refine va_get (D := D) (ci := 2) (v := .int Y_islands) (C := RX2) (T := TX2) (N := 11) hx hb hts hiX2 hown hK.1 hP 4 rfl rfl 9 (by decide) (hts (.fieldLink RX7 53 "IslandBridges$Layout" "islands" "I") (List.mem_of_getElem? (i := 5) rfl)) (fun _ h9 => h9) rfl dX7_read_84 ?_
    refine lv_icmp_ge (tgt := 142) hx hb dX7_read_87 (by decide) (fun c87 => ?_) (fun c87 => ?_)
    · have hm := ip c87 hm
      cases hm
      exact rV () hx hb hr hlk hP hD hS dX7_read_142
    · have hm := ine c87 hm
      refine lv_aload_n hx hb dX7_read_90 rfl (lv_at hl 0 rfl) ?_
      refine va_get (D := D) (ci := 7) (v := .ref (a 1)) (C := RX7) (T := TX7) (N := 6) hx hb hts hiX7 hown hK.1 hP 8 rfl rfl 0 (by decide) (hts (.fieldLink RX7 24 "IslandBridges$Sums" "state" "LIslandBridges$State;") (List.mem_of_getElem? (i := 6) rfl)) (fun _ h9 => h9) rfl dX7_read_91 ?_
      refine va_get (D := D) (ci := 6) (v := .ref (a 2)) (C := RX6) (T := TX6) (N := 7) hx hb hts hiX6 hown hK.1 hP 0 rfl rfl 0 (by decide) (hts (.fieldLink RX7 56 "IslandBridges$State" "numbers" "[I") (List.mem_of_getElem? (i := 7) rfl)) (fun _ h9 => h9) rfl dX7_read_94 ?_
      refine lv_aload_n hx hb dX7_read_97 rfl (lv_at hl 0 rfl) ?_
      refine va_get (D := D) (ci := 7) (v := .ref (a 5)) (C := RX7) (T := TX7) (N := 6) hx hb hts hiX7 hown hK.1 hP 8 rfl rfl 1 (by decide) (hts (.fieldLink RX7 28 "IslandBridges$Sums" "layout" "LIslandBridges$Layout;") (List.mem_of_getElem? (i := 3) rfl)) (fun _ h9 => h9) rfl dX7_read_98 ?_
      refine lv_iload_n hx hb dX7_read_101 rfl (lv_at hl 1 rfl) ?_
      obtain ⟨v24, h_v24, hm⟩ := lt1_inv hm
      refine cVs ⟨hx, hb, hml, hown, hts⟩ (c_X2_cellOf l D cI cJ cS cB a Y_islands Y_ways Y_cellOf y19 v24 h_v24) (cwV 1 hts gX7_read_X2_cellOf rfl rfl rfl hd_X2_cellOf ⟨(Nat.le_of_ble_eq_true rfl), (Nat.le_of_ble_eq_true rfl)⟩) hK hP hD hS hA [4, 5] rfl rfl rfl hl.1 (Nat.le_of_ble_eq_true rfl) ⟨Nat.zero_le _, Nat.zero_le _⟩ 4 rfl rfl rfl rfl dX7_read_102 (fun H locs hP hD hS => ?_)
      obtain ⟨v25, ev25, hm⟩ := lt1_inv hm
      refine cNs ⟨hx, hb, hml, hown, hts⟩ (c_X9_valueAt l D cI cJ cS cB (a 2) 144 (Nat.le_of_ble_eq_true rfl) S_numbers v24 v25 ev25) ⟨va_cnB 2 hts gX7_read_X9_valueAt_n62 rfl rfl rfl (kn_8 hK) (hts (.initialized RX9) (List.mem_of_getElem? (i := 11) rfl)) hd_X9_valueAt ⟨(Nat.le_of_ble_eq_true rfl), (Nat.le_of_ble_eq_true rfl)⟩, (hts (.static yX9_valueAt) (List.mem_of_getElem? (i := 19) rfl)), trivial⟩ hK hP hD hS hA [1] rfl rfl rfl hl.1 (Nat.le_of_ble_eq_true rfl) ⟨Nat.zero_le _, Nat.zero_le _⟩ rfl dX7_read_105 (fun H locs hP hD hS => ?_)
      refine lv_istore_n (lv' := [(2, .int v25), (0, .ref (a 15)), (1, .int y19)]) hx hb dX7_read_108 rfl hl (by decide) rfl (fun ls hl => ?_)
      refine lv_aload_n hx hb dX7_read_109 rfl (lv_at hl 1 rfl) ?_
      refine va_get (D := D) (ci := 7) (v := .ref (a 16)) (C := RX7) (T := TX7) (N := 6) hx hb hts hiX7 hown hK.1 hP 8 rfl rfl 2 (by decide) (hts (.fieldLink RX7 9 "IslandBridges$Sums" "numbers" "[I") (List.mem_of_getElem? (i := 8) rfl)) (fun _ h9 => h9) rfl dX7_read_110 ?_
      refine lv_iload_n hx hb dX7_read_113 rfl (lv_at hl 2 rfl) ?_
      refine lv_iload_n hx hb dX7_read_114 rfl (lv_at hl 0 rfl) ?_
      obtain ⟨v26, ev26, hm⟩ := lt1_inv hm
      refine cNx ⟨hx, hb, hml, hown, hts⟩ (c_X9_put l D cI cJ cS cB (a 16) 24 (Nat.le_of_ble_eq_true rfl) y20 y19 v25 v26 ev26) ⟨va_cnB 3 hts gX7_read_X9_put_n32 rfl rfl rfl (kn_7 hK) (hts (.initialized RX9) (List.mem_of_getElem? (i := 11) rfl)) hd_X9_put ⟨(Nat.le_of_ble_eq_true rfl), (Nat.le_of_ble_eq_true rfl)⟩, (hts (.static yX9_put) (List.mem_of_getElem? (i := 10) rfl)), trivial⟩ hK hP hD hS hA [9] rfl rfl [o_S a S_columns S_rows S_grade S_stepsMade, ai (a 2) cI 144 S_numbers, ai (a 3) cI 48 S_bridges, ai (a 4) cI 48 S_caps, o_Y a Y_islands Y_ways, ai (a 6) cI 24 Y_cellOf, ai (a 8) cI 48 Y_firstOf, ai (a 9) cI 48 Y_secondOf, o_U a , ai (a 16) cI 24 v26, ai (a 17) cI 24 y21, ai (a 18) cI 24 y22, ai (a 19) cI 24 y23] [(false, 0), (false, 1), (false, 2), (false, 3), (false, 4), (false, 5), (false, 6), (false, 7), (false, 8), (true, 0), (false, 10), (false, 11), (false, 12)] rfl rfl rfl hl.1 (Nat.le_of_ble_eq_true rfl) ⟨Nat.zero_le _, Nat.zero_le _⟩ rfl dX7_read_115 (fun H locs hP hD hS => ?_)
      refine lv_aload_n hx hb dX7_read_118 rfl (lv_at hl 1 rfl) ?_
      refine va_get (D := D) (ci := 7) (v := .ref (a 19)) (C := RX7) (T := TX7) (N := 6) hx hb hts hiX7 hown hK.1 hP 8 rfl rfl 5 (by decide) (hts (.fieldLink RX7 21 "IslandBridges$Sums" "lacks" "[I") (List.mem_of_getElem? (i := 9) rfl)) (fun _ h9 => h9) rfl dX7_read_119 ?_
      refine lv_iload_n hx hb dX7_read_122 rfl (lv_at hl 2 rfl) ?_
      refine lv_iload_n hx hb dX7_read_123 rfl (lv_at hl 0 rfl) ?_
      refine lv_aload_n hx hb dX7_read_124 rfl (lv_at hl 1 rfl) ?_
      refine va_get (D := D) (ci := 7) (v := .ref (a 17)) (C := RX7) (T := TX7) (N := 6) hx hb hts hiX7 hown hK.1 hP 8 rfl rfl 3 (by decide) (hts (.fieldLink RX7 15 "IslandBridges$Sums" "bridges" "[I") (List.mem_of_getElem? (i := 1) rfl)) (fun _ h9 => h9) rfl dX7_read_125 ?_
      refine lv_iload_n hx hb dX7_read_128 rfl (lv_at hl 2 rfl) ?_
      obtain ⟨v27, ev27, hm⟩ := lt1_inv hm
      refine cNs ⟨hx, hb, hml, hown, hts⟩ (c_X9_valueAt l D cI cJ cS cB (a 17) 24 (Nat.le_of_ble_eq_true rfl) y21 y19 v27 ev27) ⟨va_cnB 2 hts gX7_read_X9_valueAt_n62 rfl rfl rfl (kn_8 hK) (hts (.initialized RX9) (List.mem_of_getElem? (i := 11) rfl)) hd_X9_valueAt ⟨(Nat.le_of_ble_eq_true rfl), (Nat.le_of_ble_eq_true rfl)⟩, (hts (.static yX9_valueAt) (List.mem_of_getElem? (i := 19) rfl)), trivial⟩ hK hP hD hS hA [10] rfl rfl rfl hl.1 (Nat.le_of_ble_eq_true rfl) ⟨Nat.zero_le _, Nat.zero_le _⟩ rfl dX7_read_129 (fun H locs hP hD hS => ?_)
      refine lv_isub hx hb dX7_read_132 ?_
      obtain ⟨v28, ev28, hm⟩ := lt1_inv hm
      refine cNx ⟨hx, hb, hml, hown, hts⟩ (c_X9_put l D cI cJ cS cB (a 19) 24 (Nat.le_of_ble_eq_true rfl) y23 y19 (v25 - v27) v28 ev28) ⟨va_cnB 3 hts gX7_read_X9_put_n32 rfl rfl rfl (kn_7 hK) (hts (.initialized RX9) (List.mem_of_getElem? (i := 11) rfl)) hd_X9_put ⟨(Nat.le_of_ble_eq_true rfl), (Nat.le_of_ble_eq_true rfl)⟩, (hts (.static yX9_put) (List.mem_of_getElem? (i := 10) rfl)), trivial⟩ hK hP hD hS hA [12] rfl rfl [o_S a S_columns S_rows S_grade S_stepsMade, ai (a 2) cI 144 S_numbers, ai (a 3) cI 48 S_bridges, ai (a 4) cI 48 S_caps, o_Y a Y_islands Y_ways, ai (a 6) cI 24 Y_cellOf, ai (a 8) cI 48 Y_firstOf, ai (a 9) cI 48 Y_secondOf, o_U a , ai (a 16) cI 24 v26, ai (a 17) cI 24 y21, ai (a 18) cI 24 y22, ai (a 19) cI 24 v28] [(false, 0), (false, 1), (false, 2), (false, 3), (false, 4), (false, 5), (false, 6), (false, 7), (false, 8), (false, 9), (false, 10), (false, 11), (true, 0)] rfl rfl rfl hl.1 (Nat.le_of_ble_eq_true rfl) ⟨Nat.zero_le _, Nat.zero_le _⟩ rfl dX7_read_133 (fun H locs hP hD hS => ?_)
      obtain ⟨v29, ev29, hm⟩ := lt1_inv hm
      refine lv_iinc (v := v29) (lv' := [(1, .int v29), (2, .int v25), (0, .ref (a 15))]) hx hb dX7_read_136 hl (k := 2) rfl ev29 (by decide) rfl (fun ls hl => ?_)
      refine lv_goto (tgt := 79) hx hb dX7_read_139 (by decide) ?_
      exact ih79 v29 v26 v28 hm _ _ hP hD hS ls (lv_sub hl [2, 0] rfl)
  have h77 : ∀ (y15 : Nat → Int32) (y16 : Nat → Int32) (y17 : Nat → Int32) (y18 : Nat → Int32), m_X7_read_j77 N S_numbers Y_islands Y_cellOf y15 y16 y17 y18 = some (U_numbers', U_bridges', U_caps', U_lacks') → ∀ (H : Heap) (locs : List Loc), va_P D vwCl [o_S a S_columns S_rows S_grade S_stepsMade, ai (a 2) cI 144 S_numbers, ai (a 3) cI 48 S_bridges, ai (a 4) cI 48 S_caps, o_Y a Y_islands Y_ways, ai (a 6) cI 24 Y_cellOf, ai (a 8) cI 48 Y_firstOf, ai (a 9) cI 48 Y_secondOf, o_U a , ai (a 16) cI 24 y15, ai (a 17) cI 24 y16, ai (a 18) cI 24 y17, ai (a 19) cI 24 y18] H → va_D A [o_S a S_columns S_rows S_grade S_stepsMade, ai (a 2) cI 144 S_numbers, ai (a 3) cI 48 S_bridges, ai (a 4) cI 48 S_caps, o_Y a Y_islands Y_ways, ai (a 6) cI 24 Y_cellOf, ai (a 8) cI 48 Y_firstOf, ai (a 9) cI 48 Y_secondOf, o_U a , ai (a 16) cI 24 y15, ai (a 17) cI 24 y16, ai (a 18) cI 24 y17, ai (a 19) cI 24 y18] → va_S A s.heap H locs → ∀ ls : Array Slot, lv_has ls 3 [(0, .ref (a 15))] → W p l e { frames := 2, cells := 0, slots := 0, locals := 44 } s m args below meth c H locs 0 0 (MQ below (eQ D none (fun _ : Unit => [o_S a S_columns S_rows S_grade S_stepsMade, ai (a 2) cI 144 S_numbers, ai (a 3) cI 48 S_bridges, ai (a 4) cI 48 S_caps, o_Y a Y_islands Y_ways, ai (a 6) cI 24 Y_cellOf, ai (a 8) cI 48 Y_firstOf, ai (a 9) cI 48 Y_secondOf, o_U a , ai (a 16) cI 24 U_numbers', ai (a 17) cI 24 U_bridges', ai (a 18) cI 24 U_caps', ai (a 19) cI 24 U_lacks']) A) args s 0 0 A) (F0 m 77 ls []) := by
    intro y15 y16 y17 y18 hm H locs hP hD hS ls hl
    unfold m_X7_read_j77 at hm
    refine lv_iconst (v := 0) hx hb dX7_read_77 (by decide) ?_
    refine lv_istore_n (lv' := [(1, .int 0), (0, .ref (a 15))]) hx hb dX7_read_78 rfl hl (by decide) rfl (fun ls hl => ?_)
    exact h79 y16 y17 N 0 y15 y18 hm _ _ hP hD hS ls (lv_sub hl [1, 0] rfl)
  have h34 : ∀ (y11 : Nat → Int32) (y14 : Nat → Int32), ∀ (n : Nat) (y10 : Int32) (y12 : Nat → Int32) (y13 : Nat → Int32), zl3 (m_X7_read_b34 N S_numbers S_bridges S_caps Y_islands Y_ways Y_cellOf Y_firstOf Y_secondOf y11 y14) n y10 y12 y13 = some (U_numbers', U_bridges', U_caps', U_lacks') → ∀ (H : Heap) (locs : List Loc), va_P D vwCl [o_S a S_columns S_rows S_grade S_stepsMade, ai (a 2) cI 144 S_numbers, ai (a 3) cI 48 S_bridges, ai (a 4) cI 48 S_caps, o_Y a Y_islands Y_ways, ai (a 6) cI 24 Y_cellOf, ai (a 8) cI 48 Y_firstOf, ai (a 9) cI 48 Y_secondOf, o_U a , ai (a 16) cI 24 y11, ai (a 17) cI 24 y12, ai (a 18) cI 24 y13, ai (a 19) cI 24 y14] H → va_D A [o_S a S_columns S_rows S_grade S_stepsMade, ai (a 2) cI 144 S_numbers, ai (a 3) cI 48 S_bridges, ai (a 4) cI 48 S_caps, o_Y a Y_islands Y_ways, ai (a 6) cI 24 Y_cellOf, ai (a 8) cI 48 Y_firstOf, ai (a 9) cI 48 Y_secondOf, o_U a , ai (a 16) cI 24 y11, ai (a 17) cI 24 y12, ai (a 18) cI 24 y13, ai (a 19) cI 24 y14] → va_S A s.heap H locs → ∀ ls : Array Slot, lv_has ls 3 [(0, .ref (a 15)), (1, .int y10)] → W p l e { frames := 2, cells := 0, slots := 0, locals := 44 } s m args below meth c H locs 0 0 (MQ below (eQ D none (fun _ : Unit => [o_S a S_columns S_rows S_grade S_stepsMade, ai (a 2) cI 144 S_numbers, ai (a 3) cI 48 S_bridges, ai (a 4) cI 48 S_caps, o_Y a Y_islands Y_ways, ai (a 6) cI 24 Y_cellOf, ai (a 8) cI 48 Y_firstOf, ai (a 9) cI 48 Y_secondOf, o_U a , ai (a 16) cI 24 U_numbers', ai (a 17) cI 24 U_bridges', ai (a 18) cI 24 U_caps', ai (a 19) cI 24 U_lacks']) A) args s 0 0 A) (F0 m 34 ls []) := by
    intro y11 y14
    refine zl3_ind (fun rec34 ih34 y10 y12 y13 hm => ?_)
    intro H locs hP hD hS ls hl
    unfold m_X7_read_b34 at hm
    refine lv_iload_n hx hb dX7_read_34 rfl (lv_at hl 1 rfl) ?_
    refine lv_aload_n hx hb dX7_read_35 rfl (lv_at hl 0 rfl) ?_
    refine va_get (D := D) (ci := 7) (v := .ref (a 5)) (C := RX7) (T := TX7) (N := 6) hx hb hts hiX7 hown hK.1 hP 8 rfl rfl 1 (by decide) (hts (.fieldLink RX7 28 "IslandBridges$Sums" "layout" "LIslandBridges$Layout;") (List.mem_of_getElem? (i := 3) rfl)) (fun _ h9 => h9) rfl dX7_read_36 ?_
    refine va_get (D := D) (ci := 2) (v := .int Y_ways) (C := RX2) (T := TX2) (N := 11) hx hb hts hiX2 hown hK.1 hP 4 rfl rfl 10 (by decide) (hts (.fieldLink RX7 36 "IslandBridges$Layout" "ways" "I") (List.mem_of_getElem? (i := 4) rfl)) (fun _ h9 => h9) rfl dX7_read_39 ?_
    refine lv_icmp_ge (tgt := 77) hx hb dX7_read_42 (by decide) (fun c42 => ?_) (fun c42 => ?_)
    · have hm := ip c42 hm
      exact h77 y11 y12 y13 y14 hm _ _ hP hD hS ls (lv_sub hl [0] rfl)
    · have hm := ine c42 hm
      refine lv_aload_n hx hb dX7_read_45 rfl (lv_at hl 0 rfl) ?_
      refine lv_aload_n hx hb dX7_read_46 rfl (lv_at hl 0 rfl) ?_
      refine va_get (D := D) (ci := 7) (v := .ref (a 5)) (C := RX7) (T := TX7) (N := 6) hx hb hts hiX7 hown hK.1 hP 8 rfl rfl 1 (by decide) (hts (.fieldLink RX7 28 "IslandBridges$Sums" "layout" "LIslandBridges$Layout;") (List.mem_of_getElem? (i := 3) rfl)) (fun _ h9 => h9) rfl dX7_read_47 ?_
      refine lv_iload_n hx hb dX7_read_50 rfl (lv_at hl 1 rfl) ?_
      obtain ⟨v30, h_v30, hm⟩ := lt1_inv hm
      refine cVs ⟨hx, hb, hml, hown, hts⟩ (c_X2_first l D cI cJ cS cB a Y_islands Y_ways Y_firstOf y10 v30 h_v30) (cwV 1 hts gX7_read_X2_first rfl rfl rfl hd_X2_first ⟨(Nat.le_of_ble_eq_true rfl), (Nat.le_of_ble_eq_true rfl)⟩) hK hP hD hS hA [4, 6] rfl rfl rfl hl.1 (Nat.le_of_ble_eq_true rfl) ⟨Nat.zero_le _, Nat.zero_le _⟩ 4 rfl rfl rfl rfl dX7_read_51 (fun H locs hP hD hS => ?_)
      refine lv_iload_n hx hb dX7_read_54 rfl (lv_at hl 1 rfl) ?_
      obtain ⟨v31, v32, h_v31, hm⟩ := lt2_inv hm
      refine cVx ⟨hx, hb, hml, hown, hts⟩ (c_X7_addWay l D cI cJ cS cB a S_columns S_rows S_grade S_stepsMade S_bridges S_caps y12 y13 v30 y10 v31 v32 h_v31) (cwV 2 hts gX7_read_X7_addWay rfl rfl rfl hd_X7_addWay ⟨(Nat.le_of_ble_eq_true rfl), (Nat.le_of_ble_eq_true rfl)⟩) hK hP hD hS hA [0, 2, 3, 8, 10, 11] rfl rfl [o_S a S_columns S_rows S_grade S_stepsMade, ai (a 2) cI 144 S_numbers, ai (a 3) cI 48 S_bridges, ai (a 4) cI 48 S_caps, o_Y a Y_islands Y_ways, ai (a 6) cI 24 Y_cellOf, ai (a 8) cI 48 Y_firstOf, ai (a 9) cI 48 Y_secondOf, o_U a , ai (a 16) cI 24 y11, ai (a 17) cI 24 v31, ai (a 18) cI 24 v32, ai (a 19) cI 24 y14] [(true, 0), (false, 1), (true, 1), (true, 2), (false, 4), (false, 5), (false, 6), (false, 7), (true, 3), (false, 9), (true, 4), (true, 5), (false, 12)] rfl rfl rfl hl.1 (Nat.le_of_ble_eq_true rfl) ⟨Nat.zero_le _, Nat.zero_le _⟩ 8 rfl rfl rfl rfl dX7_read_55 (fun H locs hP hD hS => ?_)
      refine lv_aload_n hx hb dX7_read_58 rfl (lv_at hl 0 rfl) ?_
      refine lv_aload_n hx hb dX7_read_59 rfl (lv_at hl 0 rfl) ?_
      refine va_get (D := D) (ci := 7) (v := .ref (a 5)) (C := RX7) (T := TX7) (N := 6) hx hb hts hiX7 hown hK.1 hP 8 rfl rfl 1 (by decide) (hts (.fieldLink RX7 28 "IslandBridges$Sums" "layout" "LIslandBridges$Layout;") (List.mem_of_getElem? (i := 3) rfl)) (fun _ h9 => h9) rfl dX7_read_60 ?_
      refine lv_iload_n hx hb dX7_read_63 rfl (lv_at hl 1 rfl) ?_
      obtain ⟨v33, h_v33, hm⟩ := lt1_inv hm
      refine cVs ⟨hx, hb, hml, hown, hts⟩ (c_X2_second l D cI cJ cS cB a Y_islands Y_ways Y_secondOf y10 v33 h_v33) (cwV 1 hts gX7_read_X2_second rfl rfl rfl hd_X2_second ⟨(Nat.le_of_ble_eq_true rfl), (Nat.le_of_ble_eq_true rfl)⟩) hK hP hD hS hA [4, 7] rfl rfl rfl hl.1 (Nat.le_of_ble_eq_true rfl) ⟨Nat.zero_le _, Nat.zero_le _⟩ 4 rfl rfl rfl rfl dX7_read_64 (fun H locs hP hD hS => ?_)
      refine lv_iload_n hx hb dX7_read_67 rfl (lv_at hl 1 rfl) ?_
      obtain ⟨v34, v35, h_v34, hm⟩ := lt2_inv hm
      refine cVx ⟨hx, hb, hml, hown, hts⟩ (c_X7_addWay l D cI cJ cS cB a S_columns S_rows S_grade S_stepsMade S_bridges S_caps v31 v32 v33 y10 v34 v35 h_v34) (cwV 2 hts gX7_read_X7_addWay rfl rfl rfl hd_X7_addWay ⟨(Nat.le_of_ble_eq_true rfl), (Nat.le_of_ble_eq_true rfl)⟩) hK hP hD hS hA [0, 2, 3, 8, 10, 11] rfl rfl [o_S a S_columns S_rows S_grade S_stepsMade, ai (a 2) cI 144 S_numbers, ai (a 3) cI 48 S_bridges, ai (a 4) cI 48 S_caps, o_Y a Y_islands Y_ways, ai (a 6) cI 24 Y_cellOf, ai (a 8) cI 48 Y_firstOf, ai (a 9) cI 48 Y_secondOf, o_U a , ai (a 16) cI 24 y11, ai (a 17) cI 24 v34, ai (a 18) cI 24 v35, ai (a 19) cI 24 y14] [(true, 0), (false, 1), (true, 1), (true, 2), (false, 4), (false, 5), (false, 6), (false, 7), (true, 3), (false, 9), (true, 4), (true, 5), (false, 12)] rfl rfl rfl hl.1 (Nat.le_of_ble_eq_true rfl) ⟨Nat.zero_le _, Nat.zero_le _⟩ 8 rfl rfl rfl rfl dX7_read_68 (fun H locs hP hD hS => ?_)
      obtain ⟨v36, ev36, hm⟩ := lt1_inv hm
      refine lv_iinc (v := v36) (lv' := [(1, .int v36), (0, .ref (a 15))]) hx hb dX7_read_71 hl (k := 1) rfl ev36 (by decide) rfl (fun ls hl => ?_)
      refine lv_goto (tgt := 34) hx hb dX7_read_74 (by decide) ?_
      exact ih34 v36 v34 v35 hm _ _ hP hD hS ls (lv_sub hl [1, 0] rfl)
  have h32 : ∀ (y6 : Nat → Int32) (y7 : Nat → Int32) (y8 : Nat → Int32) (y9 : Nat → Int32), m_X7_read_j32 N S_numbers S_bridges S_caps Y_islands Y_ways Y_cellOf Y_firstOf Y_secondOf y6 y7 y8 y9 = some (U_numbers', U_bridges', U_caps', U_lacks') → ∀ (H : Heap) (locs : List Loc), va_P D vwCl [o_S a S_columns S_rows S_grade S_stepsMade, ai (a 2) cI 144 S_numbers, ai (a 3) cI 48 S_bridges, ai (a 4) cI 48 S_caps, o_Y a Y_islands Y_ways, ai (a 6) cI 24 Y_cellOf, ai (a 8) cI 48 Y_firstOf, ai (a 9) cI 48 Y_secondOf, o_U a , ai (a 16) cI 24 y6, ai (a 17) cI 24 y7, ai (a 18) cI 24 y8, ai (a 19) cI 24 y9] H → va_D A [o_S a S_columns S_rows S_grade S_stepsMade, ai (a 2) cI 144 S_numbers, ai (a 3) cI 48 S_bridges, ai (a 4) cI 48 S_caps, o_Y a Y_islands Y_ways, ai (a 6) cI 24 Y_cellOf, ai (a 8) cI 48 Y_firstOf, ai (a 9) cI 48 Y_secondOf, o_U a , ai (a 16) cI 24 y6, ai (a 17) cI 24 y7, ai (a 18) cI 24 y8, ai (a 19) cI 24 y9] → va_S A s.heap H locs → ∀ ls : Array Slot, lv_has ls 3 [(0, .ref (a 15))] → W p l e { frames := 2, cells := 0, slots := 0, locals := 44 } s m args below meth c H locs 0 0 (MQ below (eQ D none (fun _ : Unit => [o_S a S_columns S_rows S_grade S_stepsMade, ai (a 2) cI 144 S_numbers, ai (a 3) cI 48 S_bridges, ai (a 4) cI 48 S_caps, o_Y a Y_islands Y_ways, ai (a 6) cI 24 Y_cellOf, ai (a 8) cI 48 Y_firstOf, ai (a 9) cI 48 Y_secondOf, o_U a , ai (a 16) cI 24 U_numbers', ai (a 17) cI 24 U_bridges', ai (a 18) cI 24 U_caps', ai (a 19) cI 24 U_lacks']) A) args s 0 0 A) (F0 m 32 ls []) := by
    intro y6 y7 y8 y9 hm H locs hP hD hS ls hl
    unfold m_X7_read_j32 at hm
    refine lv_iconst (v := 0) hx hb dX7_read_32 (by decide) ?_
    refine lv_istore_n (lv' := [(1, .int 0), (0, .ref (a 15))]) hx hb dX7_read_33 rfl hl (by decide) rfl (fun ls hl => ?_)
    exact h34 y6 y9 N 0 y7 y8 hm _ _ hP hD hS ls (lv_sub hl [1, 0] rfl)
  have h2 : ∀ (y2 : Nat → Int32) (y5 : Nat → Int32), ∀ (n : Nat) (y1 : Int32) (y3 : Nat → Int32) (y4 : Nat → Int32), zl3 (m_X7_read_b2 N S_numbers S_bridges S_caps Y_islands Y_ways Y_cellOf Y_firstOf Y_secondOf y2 y5) n y1 y3 y4 = some (U_numbers', U_bridges', U_caps', U_lacks') → ∀ (H : Heap) (locs : List Loc), va_P D vwCl [o_S a S_columns S_rows S_grade S_stepsMade, ai (a 2) cI 144 S_numbers, ai (a 3) cI 48 S_bridges, ai (a 4) cI 48 S_caps, o_Y a Y_islands Y_ways, ai (a 6) cI 24 Y_cellOf, ai (a 8) cI 48 Y_firstOf, ai (a 9) cI 48 Y_secondOf, o_U a , ai (a 16) cI 24 y2, ai (a 17) cI 24 y3, ai (a 18) cI 24 y4, ai (a 19) cI 24 y5] H → va_D A [o_S a S_columns S_rows S_grade S_stepsMade, ai (a 2) cI 144 S_numbers, ai (a 3) cI 48 S_bridges, ai (a 4) cI 48 S_caps, o_Y a Y_islands Y_ways, ai (a 6) cI 24 Y_cellOf, ai (a 8) cI 48 Y_firstOf, ai (a 9) cI 48 Y_secondOf, o_U a , ai (a 16) cI 24 y2, ai (a 17) cI 24 y3, ai (a 18) cI 24 y4, ai (a 19) cI 24 y5] → va_S A s.heap H locs → ∀ ls : Array Slot, lv_has ls 3 [(0, .ref (a 15)), (1, .int y1)] → W p l e { frames := 2, cells := 0, slots := 0, locals := 44 } s m args below meth c H locs 0 0 (MQ below (eQ D none (fun _ : Unit => [o_S a S_columns S_rows S_grade S_stepsMade, ai (a 2) cI 144 S_numbers, ai (a 3) cI 48 S_bridges, ai (a 4) cI 48 S_caps, o_Y a Y_islands Y_ways, ai (a 6) cI 24 Y_cellOf, ai (a 8) cI 48 Y_firstOf, ai (a 9) cI 48 Y_secondOf, o_U a , ai (a 16) cI 24 U_numbers', ai (a 17) cI 24 U_bridges', ai (a 18) cI 24 U_caps', ai (a 19) cI 24 U_lacks']) A) args s 0 0 A) (F0 m 2 ls []) := by
    intro y2 y5
    refine zl3_ind (fun rec2 ih2 y1 y3 y4 hm => ?_)
    intro H locs hP hD hS ls hl
    unfold m_X7_read_b2 at hm
    refine lv_iload_n hx hb dX7_read_2 rfl (lv_at hl 1 rfl) ?_
    refine lv_bipush (v := 24) hx hb dX7_read_3 (by decide) ?_
    refine lv_icmp_ge (tgt := 32) hx hb dX7_read_5 (by decide) (fun c5 => ?_) (fun c5 => ?_)
    · have hm := ip c5 hm
      exact h32 y2 y3 y4 y5 hm _ _ hP hD hS ls (lv_sub hl [0] rfl)
    · have hm := ine c5 hm
      refine lv_aload_n hx hb dX7_read_8 rfl (lv_at hl 0 rfl) ?_
      refine va_get (D := D) (ci := 7) (v := .ref (a 17)) (C := RX7) (T := TX7) (N := 6) hx hb hts hiX7 hown hK.1 hP 8 rfl rfl 3 (by decide) (hts (.fieldLink RX7 15 "IslandBridges$Sums" "bridges" "[I") (List.mem_of_getElem? (i := 1) rfl)) (fun _ h9 => h9) rfl dX7_read_9 ?_
      refine lv_iload_n hx hb dX7_read_12 rfl (lv_at hl 1 rfl) ?_
      refine lv_iconst (v := 0) hx hb dX7_read_13 (by decide) ?_
      obtain ⟨v37, ev37, hm⟩ := lt1_inv hm
      refine cNx ⟨hx, hb, hml, hown, hts⟩ (c_X9_put l D cI cJ cS cB (a 17) 24 (Nat.le_of_ble_eq_true rfl) y3 y1 0 v37 ev37) ⟨va_cnB 3 hts gX7_read_X9_put_n32 rfl rfl rfl (kn_7 hK) (hts (.initialized RX9) (List.mem_of_getElem? (i := 11) rfl)) hd_X9_put ⟨(Nat.le_of_ble_eq_true rfl), (Nat.le_of_ble_eq_true rfl)⟩, (hts (.static yX9_put) (List.mem_of_getElem? (i := 10) rfl)), trivial⟩ hK hP hD hS hA [10] rfl rfl [o_S a S_columns S_rows S_grade S_stepsMade, ai (a 2) cI 144 S_numbers, ai (a 3) cI 48 S_bridges, ai (a 4) cI 48 S_caps, o_Y a Y_islands Y_ways, ai (a 6) cI 24 Y_cellOf, ai (a 8) cI 48 Y_firstOf, ai (a 9) cI 48 Y_secondOf, o_U a , ai (a 16) cI 24 y2, ai (a 17) cI 24 v37, ai (a 18) cI 24 y4, ai (a 19) cI 24 y5] [(false, 0), (false, 1), (false, 2), (false, 3), (false, 4), (false, 5), (false, 6), (false, 7), (false, 8), (false, 9), (true, 0), (false, 11), (false, 12)] rfl rfl rfl hl.1 (Nat.le_of_ble_eq_true rfl) ⟨Nat.zero_le _, Nat.zero_le _⟩ rfl dX7_read_14 (fun H locs hP hD hS => ?_)
      refine lv_aload_n hx hb dX7_read_17 rfl (lv_at hl 0 rfl) ?_
      refine va_get (D := D) (ci := 7) (v := .ref (a 18)) (C := RX7) (T := TX7) (N := 6) hx hb hts hiX7 hown hK.1 hP 8 rfl rfl 4 (by decide) (hts (.fieldLink RX7 18 "IslandBridges$Sums" "caps" "[I") (List.mem_of_getElem? (i := 2) rfl)) (fun _ h9 => h9) rfl dX7_read_18 ?_
      refine lv_iload_n hx hb dX7_read_21 rfl (lv_at hl 1 rfl) ?_
      refine lv_iconst (v := 0) hx hb dX7_read_22 (by decide) ?_
      obtain ⟨v38, ev38, hm⟩ := lt1_inv hm
      refine cNx ⟨hx, hb, hml, hown, hts⟩ (c_X9_put l D cI cJ cS cB (a 18) 24 (Nat.le_of_ble_eq_true rfl) y4 y1 0 v38 ev38) ⟨va_cnB 3 hts gX7_read_X9_put_n32 rfl rfl rfl (kn_7 hK) (hts (.initialized RX9) (List.mem_of_getElem? (i := 11) rfl)) hd_X9_put ⟨(Nat.le_of_ble_eq_true rfl), (Nat.le_of_ble_eq_true rfl)⟩, (hts (.static yX9_put) (List.mem_of_getElem? (i := 10) rfl)), trivial⟩ hK hP hD hS hA [11] rfl rfl [o_S a S_columns S_rows S_grade S_stepsMade, ai (a 2) cI 144 S_numbers, ai (a 3) cI 48 S_bridges, ai (a 4) cI 48 S_caps, o_Y a Y_islands Y_ways, ai (a 6) cI 24 Y_cellOf, ai (a 8) cI 48 Y_firstOf, ai (a 9) cI 48 Y_secondOf, o_U a , ai (a 16) cI 24 y2, ai (a 17) cI 24 v37, ai (a 18) cI 24 v38, ai (a 19) cI 24 y5] [(false, 0), (false, 1), (false, 2), (false, 3), (false, 4), (false, 5), (false, 6), (false, 7), (false, 8), (false, 9), (false, 10), (true, 0), (false, 12)] rfl rfl rfl hl.1 (Nat.le_of_ble_eq_true rfl) ⟨Nat.zero_le _, Nat.zero_le _⟩ rfl dX7_read_23 (fun H locs hP hD hS => ?_)
      obtain ⟨v39, ev39, hm⟩ := lt1_inv hm
      refine lv_iinc (v := v39) (lv' := [(1, .int v39), (0, .ref (a 15))]) hx hb dX7_read_26 hl (k := 1) rfl ev39 (by decide) rfl (fun ls hl => ?_)
      refine lv_goto (tgt := 2) hx hb dX7_read_29 (by decide) ?_
      exact ih2 v39 v37 v38 hm _ _ hP hD hS ls (lv_sub hl [1, 0] rfl)
  refine lv_iconst (v := 0) hx hb dX7_read_0 (by decide) ?_
  refine lv_istore_n (lv' := [(1, .int 0), (0, .ref (a 15))]) hx hb dX7_read_1 rfl hl (by decide) rfl (fun ls hl => ?_)
  exact h2 U_numbers U_lacks N 0 U_bridges U_caps hm _ _ hP hD hS ls (lv_sub hl [1, 0] rfl)
theorem hd_X7_areBroken : yX7_areBroken.cls = RX7 ∧ yX7_areBroken.cls ≠ "java/lang/invoke/MethodHandle" ∧ yX7_areBroken.cls ≠ "java/lang/invoke/VarHandle" ∧ (parseMethodDescriptor yX7_areBroken.desc).map (fun d => d.parameters.length) = some 0 := by decide +kernel
def m_X7_areBroken_b2 (Y_islands : Int32) (U_numbers : Nat → Int32) (U_caps : Nat → Int32) (U_lacks : Nat → Int32) (rec2 : Int32 → Option (Int32)) (y1 : Int32) : Option (Int32) :=
  if Y_islands ≤ y1 then (some 0) else (lt1 (vAt 24 U_caps y1) (fun v2 => lt1 (vAt 24 U_numbers y1) (fun v3 => if v2 < v3 then (some 1) else (lt1 (vAt 24 U_lacks y1) (fun v4 => if 0 ≤ v4 then (lt1 (y1 + 1) (fun v5 => rec2 v5)) else (some 1))))))
def m_X7_areBroken (N : Nat) (Y_islands : Int32) (U_numbers : Nat → Int32) (U_caps : Nat → Int32) (U_lacks : Nat → Int32) : Option (Int32) :=
  zl1 (m_X7_areBroken_b2 Y_islands U_numbers U_caps U_lacks) N 0
set_option maxHeartbeats 4000000 in
set_option maxRecDepth 100000 in
theorem c_X7_areBroken (l : Launch) (D : va_G) (cI cJ cS cB : ClassId) (a : Nat → Nat) (Y_islands : Int32) (Y_ways : Int32) (U_numbers : Nat → Int32) (U_caps : Nat → Int32) (U_lacks : Nat → Int32)  (N : Nat) (r0 : Int32) (hm : m_X7_areBroken N Y_islands U_numbers U_caps U_lacks = some r0) :
    mU l D (TYs cI cJ cS cB) yX7_areBroken wsX7_areBroken { frames := 1, cells := 0, slots := 0, locals := 21 } [.ref (a 15)] [o_Y a Y_islands Y_ways, o_U a , ai (a 16) cI 24 U_numbers, ai (a 18) cI 24 U_caps, ai (a 19) cI 24 U_lacks] [o_Y a Y_islands Y_ways, o_U a , ai (a 16) cI 24 U_numbers, ai (a 18) cI 24 U_caps, ai (a 19) cI 24 U_lacks] (some (.int r0)) := by
  refine mG_of (cc := cX7_areBroken) (maxL := 2) (ret := (some .boolean)) (by decide) rfl rfl (Nat.le_of_ble_eq_true rfl) ?_
  intro p e s m args below meth c A hx hb hr hml hlk hnm hts hown hK hP hD hA hS ls hl
  have hl : lv_has ls 2 [(0, .ref (a 15))] := hl
  have hiX2 : ∀ w ∈ wsX20, w ∈ wsX7_areBroken := fun w h => List.mem_cons_of_mem _ (List.mem_append_right _ h)
  have hiX7 : ∀ w ∈ wsX70, w ∈ wsX7_areBroken := fun w h => List.mem_cons_of_mem _ (List.mem_append_left _ (List.mem_append_right _ h))
  unfold m_X7_areBroken at hm
  have h2 : ∀ (n : Nat) (y1 : Int32), zl1 (m_X7_areBroken_b2 Y_islands U_numbers U_caps U_lacks) n y1 = some r0 → ∀ (H : Heap) (locs : List Loc), va_P D vwCl [o_Y a Y_islands Y_ways, o_U a , ai (a 16) cI 24 U_numbers, ai (a 18) cI 24 U_caps, ai (a 19) cI 24 U_lacks] H → va_D A [o_Y a Y_islands Y_ways, o_U a , ai (a 16) cI 24 U_numbers, ai (a 18) cI 24 U_caps, ai (a 19) cI 24 U_lacks] → va_S A s.heap H locs → ∀ ls : Array Slot, lv_has ls 2 [(0, .ref (a 15)), (1, .int y1)] → W p l e { frames := 1, cells := 0, slots := 0, locals := 21 } s m args below meth c H locs 0 0 (MQ below (eQ D (some (.int r0)) (fun _ : Unit => [o_Y a Y_islands Y_ways, o_U a , ai (a 16) cI 24 U_numbers, ai (a 18) cI 24 U_caps, ai (a 19) cI 24 U_lacks]) A) args s 0 0 A) (F0 m 2 ls []) := by
    refine zl1_ind (fun rec2 ih2 y1 hm => ?_)
    intro H locs hP hD hS ls hl
    unfold m_X7_areBroken_b2 at hm
    refine lv_iload_n hx hb dX7_areBroken_2 rfl (lv_at hl 1 rfl) ?_
    refine lv_aload_n hx hb dX7_areBroken_3 rfl (lv_at hl 0 rfl) ?_
    refine va_get (D := D) (ci := 7) (v := .ref (a 5)) (C := RX7) (T := TX7) (N := 6) hx hb hts hiX7 hown hK.1 hP 1 rfl rfl 1 (by decide) (hts (.fieldLink RX7 28 "IslandBridges$Sums" "layout" "LIslandBridges$Layout;") (List.mem_of_getElem? (i := 1) rfl)) (fun _ h9 => h9) rfl dX7_areBroken_4 ?_
    refine va_get (D := D) (ci := 2) (v := .int Y_islands) (C := RX2) (T := TX2) (N := 11) hx hb hts hiX2 hown hK.1 hP 0 rfl rfl 9 (by decide) (hts (.fieldLink RX7 53 "IslandBridges$Layout" "islands" "I") (List.mem_of_getElem? (i := 2) rfl)) (fun _ h9 => h9) rfl dX7_areBroken_7 ?_
    refine lv_icmp_ge (tgt := 51) hx hb dX7_areBroken_10 (by decide) (fun c10 => ?_) (fun c10 => ?_)
    · have hm := ip c10 hm
      refine lv_iconst (v := 0) hx hb dX7_areBroken_51 (by decide) ?_
      cases hm
      exact rZ () hx hb hr hlk (by decide) hP hD hS dX7_areBroken_52
    · have hm := ine c10 hm
      refine lv_aload_n hx hb dX7_areBroken_13 rfl (lv_at hl 0 rfl) ?_
      refine va_get (D := D) (ci := 7) (v := .ref (a 18)) (C := RX7) (T := TX7) (N := 6) hx hb hts hiX7 hown hK.1 hP 1 rfl rfl 4 (by decide) (hts (.fieldLink RX7 18 "IslandBridges$Sums" "caps" "[I") (List.mem_of_getElem? (i := 3) rfl)) (fun _ h9 => h9) rfl dX7_areBroken_14 ?_
      refine lv_iload_n hx hb dX7_areBroken_17 rfl (lv_at hl 1 rfl) ?_
      obtain ⟨v2, ev2, hm⟩ := lt1_inv hm
      refine cNs ⟨hx, hb, hml, hown, hts⟩ (c_X9_valueAt l D cI cJ cS cB (a 18) 24 (Nat.le_of_ble_eq_true rfl) U_caps y1 v2 ev2) ⟨va_cnB 2 hts gX7_areBroken_X9_valueAt_n62 rfl rfl rfl (kn_8 hK) (hts (.initialized RX9) (List.mem_of_getElem? (i := 7) rfl)) hd_X9_valueAt ⟨(Nat.le_of_ble_eq_true rfl), (Nat.le_of_ble_eq_true rfl)⟩, (hts (.static yX9_valueAt) (List.mem_of_getElem? (i := 6) rfl)), trivial⟩ hK hP hD hS hA [3] rfl rfl rfl hl.1 (Nat.le_of_ble_eq_true rfl) ⟨Nat.zero_le _, Nat.zero_le _⟩ rfl dX7_areBroken_18 (fun H locs hP hD hS => ?_)
      refine lv_aload_n hx hb dX7_areBroken_21 rfl (lv_at hl 0 rfl) ?_
      refine va_get (D := D) (ci := 7) (v := .ref (a 16)) (C := RX7) (T := TX7) (N := 6) hx hb hts hiX7 hown hK.1 hP 1 rfl rfl 2 (by decide) (hts (.fieldLink RX7 9 "IslandBridges$Sums" "numbers" "[I") (List.mem_of_getElem? (i := 4) rfl)) (fun _ h9 => h9) rfl dX7_areBroken_22 ?_
      refine lv_iload_n hx hb dX7_areBroken_25 rfl (lv_at hl 1 rfl) ?_
      obtain ⟨v3, ev3, hm⟩ := lt1_inv hm
      refine cNs ⟨hx, hb, hml, hown, hts⟩ (c_X9_valueAt l D cI cJ cS cB (a 16) 24 (Nat.le_of_ble_eq_true rfl) U_numbers y1 v3 ev3) ⟨va_cnB 2 hts gX7_areBroken_X9_valueAt_n62 rfl rfl rfl (kn_8 hK) (hts (.initialized RX9) (List.mem_of_getElem? (i := 7) rfl)) hd_X9_valueAt ⟨(Nat.le_of_ble_eq_true rfl), (Nat.le_of_ble_eq_true rfl)⟩, (hts (.static yX9_valueAt) (List.mem_of_getElem? (i := 6) rfl)), trivial⟩ hK hP hD hS hA [2] rfl rfl rfl hl.1 (Nat.le_of_ble_eq_true rfl) ⟨Nat.zero_le _, Nat.zero_le _⟩ rfl dX7_areBroken_26 (fun H locs hP hD hS => ?_)
      refine lv_icmp_lt (tgt := 43) hx hb dX7_areBroken_29 (by decide) (fun c29 => ?_) (fun c29 => ?_)
      · have hm := ip c29 hm
        refine lv_iconst (v := 1) hx hb dX7_areBroken_43 (by decide) ?_
        cases hm
        exact rZ () hx hb hr hlk (by decide) hP hD hS dX7_areBroken_44
      · have hm := ine c29 hm
        refine lv_aload_n hx hb dX7_areBroken_32 rfl (lv_at hl 0 rfl) ?_
        refine va_get (D := D) (ci := 7) (v := .ref (a 19)) (C := RX7) (T := TX7) (N := 6) hx hb hts hiX7 hown hK.1 hP 1 rfl rfl 5 (by decide) (hts (.fieldLink RX7 21 "IslandBridges$Sums" "lacks" "[I") (List.mem_of_getElem? (i := 5) rfl)) (fun _ h9 => h9) rfl dX7_areBroken_33 ?_
        refine lv_iload_n hx hb dX7_areBroken_36 rfl (lv_at hl 1 rfl) ?_
        obtain ⟨v4, ev4, hm⟩ := lt1_inv hm
        refine cNs ⟨hx, hb, hml, hown, hts⟩ (c_X9_valueAt l D cI cJ cS cB (a 19) 24 (Nat.le_of_ble_eq_true rfl) U_lacks y1 v4 ev4) ⟨va_cnB 2 hts gX7_areBroken_X9_valueAt_n62 rfl rfl rfl (kn_8 hK) (hts (.initialized RX9) (List.mem_of_getElem? (i := 7) rfl)) hd_X9_valueAt ⟨(Nat.le_of_ble_eq_true rfl), (Nat.le_of_ble_eq_true rfl)⟩, (hts (.static yX9_valueAt) (List.mem_of_getElem? (i := 6) rfl)), trivial⟩ hK hP hD hS hA [4] rfl rfl rfl hl.1 (Nat.le_of_ble_eq_true rfl) ⟨Nat.zero_le _, Nat.zero_le _⟩ rfl dX7_areBroken_37 (fun H locs hP hD hS => ?_)
        refine lv_if_ge (tgt := 45) hx hb dX7_areBroken_40 (by decide) (fun c40 => ?_) (fun c40 => ?_)
        · have hm := ip c40 hm
          obtain ⟨v5, ev5, hm⟩ := lt1_inv hm
          refine lv_iinc (v := v5) (lv' := [(1, .int v5), (0, .ref (a 15))]) hx hb dX7_areBroken_45 hl (k := 1) rfl ev5 (by decide) rfl (fun ls hl => ?_)
          refine lv_goto (tgt := 2) hx hb dX7_areBroken_48 (by decide) ?_
          exact ih2 v5 hm _ _ hP hD hS ls (lv_sub hl [1, 0] rfl)
        · have hm := ine c40 hm
          refine lv_iconst (v := 1) hx hb dX7_areBroken_43 (by decide) ?_
          cases hm
          exact rZ () hx hb hr hlk (by decide) hP hD hS dX7_areBroken_44
  refine lv_iconst (v := 0) hx hb dX7_areBroken_0 (by decide) ?_
  refine lv_istore_n (lv' := [(1, .int 0), (0, .ref (a 15))]) hx hb dX7_areBroken_1 rfl hl (by decide) rfl (fun ls hl => ?_)
  exact h2  N 0 hm _ _ hP hD hS ls (lv_sub hl [1, 0] rfl)
theorem hd_X7_lesserLack : yX7_lesserLack.cls = RX7 ∧ yX7_lesserLack.cls ≠ "java/lang/invoke/MethodHandle" ∧ yX7_lesserLack.cls ≠ "java/lang/invoke/VarHandle" ∧ (parseMethodDescriptor yX7_lesserLack.desc).map (fun d => d.parameters.length) = some 1 := by decide +kernel
def m_X7_lesserLack (Y_firstOf : Nat → Int32) (Y_secondOf : Nat → Int32) (U_lacks : Nat → Int32) (x1 : Int32) : Int32 :=
  lt1 (m_X2_first Y_firstOf x1) (fun v1 => lt1 (vAt 24 U_lacks v1) (fun v2 => lt1 (m_X2_second Y_secondOf x1) (fun v3 => lt1 (vAt 24 U_lacks v3) (fun v4 => lt1 (mnI v2 v4) (fun v5 => v5)))))
set_option maxHeartbeats 4000000 in
set_option maxRecDepth 100000 in
theorem c_X7_lesserLack (l : Launch) (D : va_G) (cI cJ cS cB : ClassId) (a : Nat → Nat) (Y_islands : Int32) (Y_ways : Int32) (Y_firstOf : Nat → Int32) (Y_secondOf : Nat → Int32) (U_lacks : Nat → Int32) (x1 : Int32) (r0 : Int32) (hm : m_X7_lesserLack Y_firstOf Y_secondOf U_lacks x1 = r0) :
    mU l D (TYs cI cJ cS cB) yX7_lesserLack wsX7_lesserLack { frames := 2, cells := 0, slots := 0, locals := 42 } [.ref (a 15), .int x1] [o_Y a Y_islands Y_ways, ai (a 8) cI 48 Y_firstOf, ai (a 9) cI 48 Y_secondOf, o_U a , ai (a 19) cI 24 U_lacks] [o_Y a Y_islands Y_ways, ai (a 8) cI 48 Y_firstOf, ai (a 9) cI 48 Y_secondOf, o_U a , ai (a 19) cI 24 U_lacks] (some (.int r0)) := by
  refine mG_of (cc := cX7_lesserLack) (maxL := 2) (ret := (some .int)) (by decide) rfl rfl (Nat.le_of_ble_eq_true rfl) ?_
  intro p e s m args below meth c A hx hb hr hml hlk hnm hts hown hK hP hD hA hS ls hl
  have hl : lv_has ls 2 [(0, .ref (a 15)), (1, .int x1)] := hl
  have hiX2 : ∀ w ∈ wsX20, w ∈ wsX7_lesserLack := fun w h => List.mem_cons_of_mem _ (List.mem_append_right _ h)
  have hiX7 : ∀ w ∈ wsX70, w ∈ wsX7_lesserLack := fun w h => List.mem_cons_of_mem _ (List.mem_append_left _ (List.mem_append_right _ h))
  unfold m_X7_lesserLack at hm
  refine lv_aload_n hx hb dX7_lesserLack_0 rfl (lv_at hl 0 rfl) ?_
  refine va_get (D := D) (ci := 7) (v := .ref (a 19)) (C := RX7) (T := TX7) (N := 6) hx hb hts hiX7 hown hK.1 hP 3 rfl rfl 5 (by decide) (hts (.fieldLink RX7 21 "IslandBridges$Sums" "lacks" "[I") (List.mem_of_getElem? (i := 1) rfl)) (fun _ h9 => h9) rfl dX7_lesserLack_1 ?_
  refine lv_aload_n hx hb dX7_lesserLack_4 rfl (lv_at hl 0 rfl) ?_
  refine va_get (D := D) (ci := 7) (v := .ref (a 5)) (C := RX7) (T := TX7) (N := 6) hx hb hts hiX7 hown hK.1 hP 3 rfl rfl 1 (by decide) (hts (.fieldLink RX7 28 "IslandBridges$Sums" "layout" "LIslandBridges$Layout;") (List.mem_of_getElem? (i := 2) rfl)) (fun _ h9 => h9) rfl dX7_lesserLack_5 ?_
  refine lv_iload_n hx hb dX7_lesserLack_8 rfl (lv_at hl 1 rfl) ?_
  obtain ⟨v1, h_v1, hm⟩ := lt1_inv hm
  refine cVs ⟨hx, hb, hml, hown, hts⟩ (c_X2_first l D cI cJ cS cB a Y_islands Y_ways Y_firstOf x1 v1 h_v1) (cwV 1 hts gX7_lesserLack_X2_first rfl rfl rfl hd_X2_first ⟨(Nat.le_of_ble_eq_true rfl), (Nat.le_of_ble_eq_true rfl)⟩) hK hP hD hS hA [0, 1] rfl rfl rfl hl.1 (Nat.le_of_ble_eq_true rfl) ⟨Nat.zero_le _, Nat.zero_le _⟩ 0 rfl rfl rfl rfl dX7_lesserLack_9 (fun H locs hP hD hS => ?_)
  obtain ⟨v2, ev2, hm⟩ := lt1_inv hm
  refine cNs ⟨hx, hb, hml, hown, hts⟩ (c_X9_valueAt l D cI cJ cS cB (a 19) 24 (Nat.le_of_ble_eq_true rfl) U_lacks v1 v2 ev2) ⟨va_cnB 2 hts gX7_lesserLack_X9_valueAt_n62 rfl rfl rfl (kn_8 hK) (hts (.initialized RX9) (List.mem_of_getElem? (i := 14) rfl)) hd_X9_valueAt ⟨(Nat.le_of_ble_eq_true rfl), (Nat.le_of_ble_eq_true rfl)⟩, (hts (.static yX9_valueAt) (List.mem_of_getElem? (i := 13) rfl)), trivial⟩ hK hP hD hS hA [4] rfl rfl rfl hl.1 (Nat.le_of_ble_eq_true rfl) ⟨Nat.zero_le _, Nat.zero_le _⟩ rfl dX7_lesserLack_12 (fun H locs hP hD hS => ?_)
  refine lv_aload_n hx hb dX7_lesserLack_15 rfl (lv_at hl 0 rfl) ?_
  refine va_get (D := D) (ci := 7) (v := .ref (a 19)) (C := RX7) (T := TX7) (N := 6) hx hb hts hiX7 hown hK.1 hP 3 rfl rfl 5 (by decide) (hts (.fieldLink RX7 21 "IslandBridges$Sums" "lacks" "[I") (List.mem_of_getElem? (i := 1) rfl)) (fun _ h9 => h9) rfl dX7_lesserLack_16 ?_
  refine lv_aload_n hx hb dX7_lesserLack_19 rfl (lv_at hl 0 rfl) ?_
  refine va_get (D := D) (ci := 7) (v := .ref (a 5)) (C := RX7) (T := TX7) (N := 6) hx hb hts hiX7 hown hK.1 hP 3 rfl rfl 1 (by decide) (hts (.fieldLink RX7 28 "IslandBridges$Sums" "layout" "LIslandBridges$Layout;") (List.mem_of_getElem? (i := 2) rfl)) (fun _ h9 => h9) rfl dX7_lesserLack_20 ?_
  refine lv_iload_n hx hb dX7_lesserLack_23 rfl (lv_at hl 1 rfl) ?_
  obtain ⟨v3, h_v3, hm⟩ := lt1_inv hm
  refine cVs ⟨hx, hb, hml, hown, hts⟩ (c_X2_second l D cI cJ cS cB a Y_islands Y_ways Y_secondOf x1 v3 h_v3) (cwV 1 hts gX7_lesserLack_X2_second rfl rfl rfl hd_X2_second ⟨(Nat.le_of_ble_eq_true rfl), (Nat.le_of_ble_eq_true rfl)⟩) hK hP hD hS hA [0, 2] rfl rfl rfl hl.1 (Nat.le_of_ble_eq_true rfl) ⟨Nat.zero_le _, Nat.zero_le _⟩ 0 rfl rfl rfl rfl dX7_lesserLack_24 (fun H locs hP hD hS => ?_)
  obtain ⟨v4, ev4, hm⟩ := lt1_inv hm
  refine cNs ⟨hx, hb, hml, hown, hts⟩ (c_X9_valueAt l D cI cJ cS cB (a 19) 24 (Nat.le_of_ble_eq_true rfl) U_lacks v3 v4 ev4) ⟨va_cnB 2 hts gX7_lesserLack_X9_valueAt_n62 rfl rfl rfl (kn_8 hK) (hts (.initialized RX9) (List.mem_of_getElem? (i := 14) rfl)) hd_X9_valueAt ⟨(Nat.le_of_ble_eq_true rfl), (Nat.le_of_ble_eq_true rfl)⟩, (hts (.static yX9_valueAt) (List.mem_of_getElem? (i := 13) rfl)), trivial⟩ hK hP hD hS hA [4] rfl rfl rfl hl.1 (Nat.le_of_ble_eq_true rfl) ⟨Nat.zero_le _, Nat.zero_le _⟩ rfl dX7_lesserLack_27 (fun H locs hP hD hS => ?_)
  obtain ⟨v5, ev5, hm⟩ := lt1_inv hm
  refine va_mmin hx hb (hml.trans hl.1.symm) hown (hts (.methodLink RX7 71 Lib.Math.min.name) (List.mem_of_getElem? (i := 3) rfl)) (hts (.static Lib.Math.min.name) (List.mem_of_getElem? (i := 4) rfl)) (hts (.initialized "java/lang/Math") (List.mem_of_getElem? (i := 5) rfl)) (hts (.code Lib.Math.min.name Lib.Math.min.code 2 (some .int)) (List.mem_of_getElem? (i := 6) rfl)) (Nat.le_of_ble_eq_true rfl) (Nat.le_of_ble_eq_true rfl) (Nat.zero_le _) (Nat.zero_le _) dX7_lesserLack_30 ?_
  refine ltop ev5 ?_
  cases hm
  exact rI () hx hb hr hlk hP hD hS dX7_lesserLack_33
theorem hd_X7_leastBridgesFor : yX7_leastBridgesFor.cls = RX7 ∧ yX7_leastBridgesFor.cls ≠ "java/lang/invoke/MethodHandle" ∧ yX7_leastBridgesFor.cls ≠ "java/lang/invoke/VarHandle" ∧ (parseMethodDescriptor yX7_leastBridgesFor.desc).map (fun d => d.parameters.length) = some 2 := by decide +kernel
def m_X7_leastBridgesFor (S_caps : Nat → Int32) (U_numbers : Nat → Int32) (U_caps : Nat → Int32) (x1 : Int32) (x2 : Int32) : Int32 :=
  lt1 (vAt 24 U_numbers x1) (fun v1 => lt1 (vAt 24 U_caps x1) (fun v2 => lt1 (vAt 48 S_caps x2) (fun v3 => v1 - (v2 - v3))))
set_option maxHeartbeats 4000000 in
set_option maxRecDepth 100000 in
theorem c_X7_leastBridgesFor (l : Launch) (D : va_G) (cI cJ cS cB : ClassId) (a : Nat → Nat) (S_columns : Int32) (S_rows : Int32) (S_grade : Int32) (S_stepsMade : Int32) (S_caps : Nat → Int32) (U_numbers : Nat → Int32) (U_caps : Nat → Int32) (x1 : Int32) (x2 : Int32) (r0 : Int32) (hm : m_X7_leastBridgesFor S_caps U_numbers U_caps x1 x2 = r0) :
    mU l D (TYs cI cJ cS cB) yX7_leastBridgesFor wsX7_leastBridgesFor { frames := 1, cells := 0, slots := 0, locals := 21 } [.ref (a 15), .int x1, .int x2] [o_S a S_columns S_rows S_grade S_stepsMade, ai (a 4) cI 48 S_caps, o_U a , ai (a 16) cI 24 U_numbers, ai (a 18) cI 24 U_caps] [o_S a S_columns S_rows S_grade S_stepsMade, ai (a 4) cI 48 S_caps, o_U a , ai (a 16) cI 24 U_numbers, ai (a 18) cI 24 U_caps] (some (.int r0)) := by
  refine mG_of (cc := cX7_leastBridgesFor) (maxL := 3) (ret := (some .int)) (by decide) rfl rfl (Nat.le_of_ble_eq_true rfl) ?_
  intro p e s m args below meth c A hx hb hr hml hlk hnm hts hown hK hP hD hA hS ls hl
  have hl : lv_has ls 3 [(0, .ref (a 15)), (1, .int x1), (2, .int x2)] := hl
  have hiX6 : ∀ w ∈ wsX60, w ∈ wsX7_leastBridgesFor := fun w h => List.mem_cons_of_mem _ (List.mem_append_right _ h)
  have hiX7 : ∀ w ∈ wsX70, w ∈ wsX7_leastBridgesFor := fun w h => List.mem_cons_of_mem _ (List.mem_append_left _ (List.mem_append_right _ h))
  unfold m_X7_leastBridgesFor at hm
  refine lv_aload_n hx hb dX7_leastBridgesFor_0 rfl (lv_at hl 0 rfl) ?_
  refine va_get (D := D) (ci := 7) (v := .ref (a 16)) (C := RX7) (T := TX7) (N := 6) hx hb hts hiX7 hown hK.1 hP 2 rfl rfl 2 (by decide) (hts (.fieldLink RX7 9 "IslandBridges$Sums" "numbers" "[I") (List.mem_of_getElem? (i := 1) rfl)) (fun _ h9 => h9) rfl dX7_leastBridgesFor_1 ?_
  refine lv_iload_n hx hb dX7_leastBridgesFor_4 rfl (lv_at hl 1 rfl) ?_
  obtain ⟨v1, ev1, hm⟩ := lt1_inv hm
  refine cNs ⟨hx, hb, hml, hown, hts⟩ (c_X9_valueAt l D cI cJ cS cB (a 16) 24 (Nat.le_of_ble_eq_true rfl) U_numbers x1 v1 ev1) ⟨va_cnB 2 hts gX7_leastBridgesFor_X9_valueAt_n62 rfl rfl rfl (kn_8 hK) (hts (.initialized RX9) (List.mem_of_getElem? (i := 6) rfl)) hd_X9_valueAt ⟨(Nat.le_of_ble_eq_true rfl), (Nat.le_of_ble_eq_true rfl)⟩, (hts (.static yX9_valueAt) (List.mem_of_getElem? (i := 5) rfl)), trivial⟩ hK hP hD hS hA [3] rfl rfl rfl hl.1 (Nat.le_of_ble_eq_true rfl) ⟨Nat.zero_le _, Nat.zero_le _⟩ rfl dX7_leastBridgesFor_5 (fun H locs hP hD hS => ?_)
  refine lv_aload_n hx hb dX7_leastBridgesFor_8 rfl (lv_at hl 0 rfl) ?_
  refine va_get (D := D) (ci := 7) (v := .ref (a 18)) (C := RX7) (T := TX7) (N := 6) hx hb hts hiX7 hown hK.1 hP 2 rfl rfl 4 (by decide) (hts (.fieldLink RX7 18 "IslandBridges$Sums" "caps" "[I") (List.mem_of_getElem? (i := 2) rfl)) (fun _ h9 => h9) rfl dX7_leastBridgesFor_9 ?_
  refine lv_iload_n hx hb dX7_leastBridgesFor_12 rfl (lv_at hl 1 rfl) ?_
  obtain ⟨v2, ev2, hm⟩ := lt1_inv hm
  refine cNs ⟨hx, hb, hml, hown, hts⟩ (c_X9_valueAt l D cI cJ cS cB (a 18) 24 (Nat.le_of_ble_eq_true rfl) U_caps x1 v2 ev2) ⟨va_cnB 2 hts gX7_leastBridgesFor_X9_valueAt_n62 rfl rfl rfl (kn_8 hK) (hts (.initialized RX9) (List.mem_of_getElem? (i := 6) rfl)) hd_X9_valueAt ⟨(Nat.le_of_ble_eq_true rfl), (Nat.le_of_ble_eq_true rfl)⟩, (hts (.static yX9_valueAt) (List.mem_of_getElem? (i := 5) rfl)), trivial⟩ hK hP hD hS hA [4] rfl rfl rfl hl.1 (Nat.le_of_ble_eq_true rfl) ⟨Nat.zero_le _, Nat.zero_le _⟩ rfl dX7_leastBridgesFor_13 (fun H locs hP hD hS => ?_)
  refine lv_aload_n hx hb dX7_leastBridgesFor_16 rfl (lv_at hl 0 rfl) ?_
  refine va_get (D := D) (ci := 7) (v := .ref (a 1)) (C := RX7) (T := TX7) (N := 6) hx hb hts hiX7 hown hK.1 hP 2 rfl rfl 0 (by decide) (hts (.fieldLink RX7 24 "IslandBridges$Sums" "state" "LIslandBridges$State;") (List.mem_of_getElem? (i := 3) rfl)) (fun _ h9 => h9) rfl dX7_leastBridgesFor_17 ?_
  refine va_get (D := D) (ci := 6) (v := .ref (a 4)) (C := RX6) (T := TX6) (N := 7) hx hb hts hiX6 hown hK.1 hP 0 rfl rfl 2 (by decide) (hts (.fieldLink RX7 70 "IslandBridges$State" "caps" "[I") (List.mem_of_getElem? (i := 4) rfl)) (fun _ h9 => h9) rfl dX7_leastBridgesFor_20 ?_
  refine lv_iload_n hx hb dX7_leastBridgesFor_23 rfl (lv_at hl 2 rfl) ?_
  obtain ⟨v3, ev3, hm⟩ := lt1_inv hm
  refine cNs ⟨hx, hb, hml, hown, hts⟩ (c_X9_valueAt l D cI cJ cS cB (a 4) 48 (Nat.le_of_ble_eq_true rfl) S_caps x2 v3 ev3) ⟨va_cnB 2 hts gX7_leastBridgesFor_X9_valueAt_n62 rfl rfl rfl (kn_8 hK) (hts (.initialized RX9) (List.mem_of_getElem? (i := 6) rfl)) hd_X9_valueAt ⟨(Nat.le_of_ble_eq_true rfl), (Nat.le_of_ble_eq_true rfl)⟩, (hts (.static yX9_valueAt) (List.mem_of_getElem? (i := 5) rfl)), trivial⟩ hK hP hD hS hA [1] rfl rfl rfl hl.1 (Nat.le_of_ble_eq_true rfl) ⟨Nat.zero_le _, Nat.zero_le _⟩ rfl dX7_leastBridgesFor_24 (fun H locs hP hD hS => ?_)
  refine lv_isub hx hb dX7_leastBridgesFor_27 ?_
  refine lv_isub hx hb dX7_leastBridgesFor_28 ?_
  cases hm
  exact rI () hx hb hr hlk hP hD hS dX7_leastBridgesFor_29
theorem hd_X7_leastBridges : yX7_leastBridges.cls = RX7 ∧ yX7_leastBridges.cls ≠ "java/lang/invoke/MethodHandle" ∧ yX7_leastBridges.cls ≠ "java/lang/invoke/VarHandle" ∧ (parseMethodDescriptor yX7_leastBridges.desc).map (fun d => d.parameters.length) = some 1 := by decide +kernel
def m_X7_leastBridges (S_caps : Nat → Int32) (Y_firstOf : Nat → Int32) (Y_secondOf : Nat → Int32) (U_numbers : Nat → Int32) (U_caps : Nat → Int32) (x1 : Int32) : Int32 :=
  lt1 (m_X2_first Y_firstOf x1) (fun v1 => lt1 (m_X7_leastBridgesFor S_caps U_numbers U_caps v1 x1) (fun v2 => lt1 (m_X2_second Y_secondOf x1) (fun v3 => lt1 (m_X7_leastBridgesFor S_caps U_numbers U_caps v3 x1) (fun v4 => lt1 (mxI v2 v4) (fun v5 => v5)))))
set_option maxHeartbeats 4000000 in
set_option maxRecDepth 100000 in
theorem c_X7_leastBridges (l : Launch) (D : va_G) (cI cJ cS cB : ClassId) (a : Nat → Nat) (S_columns : Int32) (S_rows : Int32) (S_grade : Int32) (S_stepsMade : Int32) (S_caps : Nat → Int32) (Y_islands : Int32) (Y_ways : Int32) (Y_firstOf : Nat → Int32) (Y_secondOf : Nat → Int32) (U_numbers : Nat → Int32) (U_caps : Nat → Int32) (x1 : Int32) (r0 : Int32) (hm : m_X7_leastBridges S_caps Y_firstOf Y_secondOf U_numbers U_caps x1 = r0) :
    mU l D (TYs cI cJ cS cB) yX7_leastBridges wsX7_leastBridges { frames := 2, cells := 0, slots := 0, locals := 43 } [.ref (a 15), .int x1] [o_S a S_columns S_rows S_grade S_stepsMade, ai (a 4) cI 48 S_caps, o_Y a Y_islands Y_ways, ai (a 8) cI 48 Y_firstOf, ai (a 9) cI 48 Y_secondOf, o_U a , ai (a 16) cI 24 U_numbers, ai (a 18) cI 24 U_caps] [o_S a S_columns S_rows S_grade S_stepsMade, ai (a 4) cI 48 S_caps, o_Y a Y_islands Y_ways, ai (a 8) cI 48 Y_firstOf, ai (a 9) cI 48 Y_secondOf, o_U a , ai (a 16) cI 24 U_numbers, ai (a 18) cI 24 U_caps] (some (.int r0)) := by
  refine mG_of (cc := cX7_leastBridges) (maxL := 2) (ret := (some .int)) (by decide) rfl rfl (Nat.le_of_ble_eq_true rfl) ?_
  intro p e s m args below meth c A hx hb hr hml hlk hnm hts hown hK hP hD hA hS ls hl
  have hl : lv_has ls 2 [(0, .ref (a 15)), (1, .int x1)] := hl
  have hiX2 : ∀ w ∈ wsX20, w ∈ wsX7_leastBridges := fun w h => List.mem_cons_of_mem _ (List.mem_append_left _ (List.mem_append_right _ h))
  have hiX6 : ∀ w ∈ wsX60, w ∈ wsX7_leastBridges := fun w h => List.mem_cons_of_mem _ (List.mem_append_right _ h)
  have hiX7 : ∀ w ∈ wsX70, w ∈ wsX7_leastBridges := fun w h => List.mem_cons_of_mem _ (List.mem_append_left _ (List.mem_append_left _ (List.mem_append_right _ h)))
  unfold m_X7_leastBridges at hm
  refine lv_aload_n hx hb dX7_leastBridges_0 rfl (lv_at hl 0 rfl) ?_
  refine lv_aload_n hx hb dX7_leastBridges_1 rfl (lv_at hl 0 rfl) ?_
  refine va_get (D := D) (ci := 7) (v := .ref (a 5)) (C := RX7) (T := TX7) (N := 6) hx hb hts hiX7 hown hK.1 hP 5 rfl rfl 1 (by decide) (hts (.fieldLink RX7 28 "IslandBridges$Sums" "layout" "LIslandBridges$Layout;") (List.mem_of_getElem? (i := 1) rfl)) (fun _ h9 => h9) rfl dX7_leastBridges_2 ?_
  refine lv_iload_n hx hb dX7_leastBridges_5 rfl (lv_at hl 1 rfl) ?_
  obtain ⟨v1, h_v1, hm⟩ := lt1_inv hm
  refine cVs ⟨hx, hb, hml, hown, hts⟩ (c_X2_first l D cI cJ cS cB a Y_islands Y_ways Y_firstOf x1 v1 h_v1) (cwV 1 hts gX7_leastBridges_X2_first rfl rfl rfl hd_X2_first ⟨(Nat.le_of_ble_eq_true rfl), (Nat.le_of_ble_eq_true rfl)⟩) hK hP hD hS hA [2, 3] rfl rfl rfl hl.1 (Nat.le_of_ble_eq_true rfl) ⟨Nat.zero_le _, Nat.zero_le _⟩ 2 rfl rfl rfl rfl dX7_leastBridges_6 (fun H locs hP hD hS => ?_)
  refine lv_iload_n hx hb dX7_leastBridges_9 rfl (lv_at hl 1 rfl) ?_
  obtain ⟨v2, h_v2, hm⟩ := lt1_inv hm
  refine cVs ⟨hx, hb, hml, hown, hts⟩ (c_X7_leastBridgesFor l D cI cJ cS cB a S_columns S_rows S_grade S_stepsMade S_caps U_numbers U_caps v1 x1 v2 h_v2) (cwV 2 hts gX7_leastBridges_X7_leastBridgesFor rfl rfl rfl hd_X7_leastBridgesFor ⟨(Nat.le_of_ble_eq_true rfl), (Nat.le_of_ble_eq_true rfl)⟩) hK hP hD hS hA [0, 1, 5, 6, 7] rfl rfl rfl hl.1 (Nat.le_of_ble_eq_true rfl) ⟨Nat.zero_le _, Nat.zero_le _⟩ 5 rfl rfl rfl rfl dX7_leastBridges_10 (fun H locs hP hD hS => ?_)
  refine lv_aload_n hx hb dX7_leastBridges_13 rfl (lv_at hl 0 rfl) ?_
  refine lv_aload_n hx hb dX7_leastBridges_14 rfl (lv_at hl 0 rfl) ?_
  refine va_get (D := D) (ci := 7) (v := .ref (a 5)) (C := RX7) (T := TX7) (N := 6) hx hb hts hiX7 hown hK.1 hP 5 rfl rfl 1 (by decide) (hts (.fieldLink RX7 28 "IslandBridges$Sums" "layout" "LIslandBridges$Layout;") (List.mem_of_getElem? (i := 1) rfl)) (fun _ h9 => h9) rfl dX7_leastBridges_15 ?_
  refine lv_iload_n hx hb dX7_leastBridges_18 rfl (lv_at hl 1 rfl) ?_
  obtain ⟨v3, h_v3, hm⟩ := lt1_inv hm
  refine cVs ⟨hx, hb, hml, hown, hts⟩ (c_X2_second l D cI cJ cS cB a Y_islands Y_ways Y_secondOf x1 v3 h_v3) (cwV 1 hts gX7_leastBridges_X2_second rfl rfl rfl hd_X2_second ⟨(Nat.le_of_ble_eq_true rfl), (Nat.le_of_ble_eq_true rfl)⟩) hK hP hD hS hA [2, 4] rfl rfl rfl hl.1 (Nat.le_of_ble_eq_true rfl) ⟨Nat.zero_le _, Nat.zero_le _⟩ 2 rfl rfl rfl rfl dX7_leastBridges_19 (fun H locs hP hD hS => ?_)
  refine lv_iload_n hx hb dX7_leastBridges_22 rfl (lv_at hl 1 rfl) ?_
  obtain ⟨v4, h_v4, hm⟩ := lt1_inv hm
  refine cVs ⟨hx, hb, hml, hown, hts⟩ (c_X7_leastBridgesFor l D cI cJ cS cB a S_columns S_rows S_grade S_stepsMade S_caps U_numbers U_caps v3 x1 v4 h_v4) (cwV 2 hts gX7_leastBridges_X7_leastBridgesFor rfl rfl rfl hd_X7_leastBridgesFor ⟨(Nat.le_of_ble_eq_true rfl), (Nat.le_of_ble_eq_true rfl)⟩) hK hP hD hS hA [0, 1, 5, 6, 7] rfl rfl rfl hl.1 (Nat.le_of_ble_eq_true rfl) ⟨Nat.zero_le _, Nat.zero_le _⟩ 5 rfl rfl rfl rfl dX7_leastBridges_23 (fun H locs hP hD hS => ?_)
  obtain ⟨v5, ev5, hm⟩ := lt1_inv hm
  refine va_mmax hx hb (hml.trans hl.1.symm) hown (hts (.methodLink RX7 80 Lib.Math.max.name) (List.mem_of_getElem? (i := 2) rfl)) (hts (.static Lib.Math.max.name) (List.mem_of_getElem? (i := 3) rfl)) (hts (.initialized "java/lang/Math") (List.mem_of_getElem? (i := 4) rfl)) (hts (.code Lib.Math.max.name Lib.Math.max.code 2 (some .int)) (List.mem_of_getElem? (i := 5) rfl)) (Nat.le_of_ble_eq_true rfl) (Nat.le_of_ble_eq_true rfl) (Nat.zero_le _) (Nat.zero_le _) dX7_leastBridges_26 ?_
  refine ltop ev5 ?_
  cases hm
  exact rI () hx hb hr hlk hP hD hS dX7_leastBridges_29
theorem hd_X6_takeAllBridges : yX6_takeAllBridges.cls = RX6 ∧ yX6_takeAllBridges.cls ≠ "java/lang/invoke/MethodHandle" ∧ yX6_takeAllBridges.cls ≠ "java/lang/invoke/VarHandle" ∧ (parseMethodDescriptor yX6_takeAllBridges.desc).map (fun d => d.parameters.length) = some 0 := by decide +kernel
def m_X6_takeAllBridges_j32 (y8 : Nat → Int32) (y9 : Nat → Int32) : Option (Int32 × Int32 × (Nat → Int32) × (Nat → Int32)) :=
  some ((0, 0, y8, y9))
def m_X6_takeAllBridges_b2  (rec2 : Int32 → (Nat → Int32) → (Nat → Int32) → Option (Int32 × Int32 × (Nat → Int32) × (Nat → Int32))) (y1 : Int32) (y4 : Nat → Int32) (y5 : Nat → Int32) : Option (Int32 × Int32 × (Nat → Int32) × (Nat → Int32)) :=
  if 48 ≤ y1 then (m_X6_takeAllBridges_j32 y4 y5) else (lt1 (vPut 48 y4 y1 0) (fun v10 => lt1 (vPut 48 y5 y1 2) (fun v11 => lt1 (y1 + 1) (fun v12 => rec2 v12 v10 v11))))
def m_X6_takeAllBridges (N : Nat) (S_bridges : Nat → Int32) (S_caps : Nat → Int32) : Option (Int32 × Int32 × (Nat → Int32) × (Nat → Int32)) :=
  zl3 (m_X6_takeAllBridges_b2) N 0 S_bridges S_caps
set_option maxHeartbeats 4000000 in
set_option maxRecDepth 100000 in
theorem c_X6_takeAllBridges (l : Launch) (D : va_G) (cI cJ cS cB : ClassId) (a : Nat → Nat) (S_columns : Int32) (S_rows : Int32) (S_grade : Int32) (S_stepsMade : Int32) (S_bridges : Nat → Int32) (S_caps : Nat → Int32)  (N : Nat) (S_grade' : Int32) (S_stepsMade' : Int32) (S_bridges' : Nat → Int32) (S_caps' : Nat → Int32) (hm : m_X6_takeAllBridges N S_bridges S_caps = some (S_grade', S_stepsMade', S_bridges', S_caps')) :
    mU l D (TYs cI cJ cS cB) yX6_takeAllBridges wsX6_takeAllBridges { frames := 1, cells := 0, slots := 0, locals := 22 } [.ref (a 1)] [o_S a S_columns S_rows S_grade S_stepsMade, ai (a 3) cI 48 S_bridges, ai (a 4) cI 48 S_caps] [o_S a S_columns S_rows S_grade' S_stepsMade', ai (a 3) cI 48 S_bridges', ai (a 4) cI 48 S_caps'] none := by
  refine mG_of (cc := cX6_takeAllBridges) (maxL := 2) (ret := none) (by decide) rfl rfl (Nat.le_of_ble_eq_true rfl) ?_
  intro p e s m args below meth c A hx hb hr hml hlk hnm hts hown hK hP hD hA hS ls hl
  have hl : lv_has ls 2 [(0, .ref (a 1))] := hl
  have hiX6 : ∀ w ∈ wsX60, w ∈ wsX6_takeAllBridges := fun w h => List.mem_cons_of_mem _ (List.mem_append_right _ h)
  unfold m_X6_takeAllBridges at hm
  have h32 : ∀ (y6 : Int32) (y7 : Int32) (y8 : Nat → Int32) (y9 : Nat → Int32), m_X6_takeAllBridges_j32 y8 y9 = some (S_grade', S_stepsMade', S_bridges', S_caps') → ∀ (H : Heap) (locs : List Loc), va_P D vwCl [o_S a S_columns S_rows y6 y7, ai (a 3) cI 48 y8, ai (a 4) cI 48 y9] H → va_D A [o_S a S_columns S_rows y6 y7, ai (a 3) cI 48 y8, ai (a 4) cI 48 y9] → va_S A s.heap H locs → ∀ ls : Array Slot, lv_has ls 2 [(0, .ref (a 1))] → W p l e { frames := 1, cells := 0, slots := 0, locals := 22 } s m args below meth c H locs 0 0 (MQ below (eQ D none (fun _ : Unit => [o_S a S_columns S_rows S_grade' S_stepsMade', ai (a 3) cI 48 S_bridges', ai (a 4) cI 48 S_caps']) A) args s 0 0 A) (F0 m 32 ls []) := by
    intro y6 y7 y8 y9 hm H locs hP hD hS ls hl
    unfold m_X6_takeAllBridges_j32 at hm
    refine lv_aload_n hx hb dX6_takeAllBridges_32 rfl (lv_at hl 0 rfl) ?_
    refine lv_iconst (v := 0) hx hb dX6_takeAllBridges_33 (by decide) ?_
    refine va_put (D := D) (ci := 6) (v := .int 0) (ty := .int) (C := RX6) (T := TX6) (N := 7) hx hb hts hiX6 tyX6 tyX6_ok nmX6 hown hK.1 hP hD hS 0 rfl rfl 5 (by decide) (hts (.fieldLink RX6 39 "IslandBridges$State" "grade" "I") (List.mem_of_getElem? (i := 3) rfl)) (fun _ h9 => h9) rfl (by decide +kernel) rfl rfl (Nat.le_of_ble_eq_true rfl) dX6_takeAllBridges_34 (fun H locs hP hD hS => ?_)
    have hP : va_P D vwCl [o_S a S_columns S_rows 0 y7, ai (a 3) cI 48 y8, ai (a 4) cI 48 y9] H := hP
    have hD : va_D A [o_S a S_columns S_rows 0 y7, ai (a 3) cI 48 y8, ai (a 4) cI 48 y9] := hD
    refine lv_aload_n hx hb dX6_takeAllBridges_37 rfl (lv_at hl 0 rfl) ?_
    refine lv_iconst (v := 0) hx hb dX6_takeAllBridges_38 (by decide) ?_
    refine va_put (D := D) (ci := 6) (v := .int 0) (ty := .int) (C := RX6) (T := TX6) (N := 7) hx hb hts hiX6 tyX6 tyX6_ok nmX6 hown hK.1 hP hD hS 0 rfl rfl 6 (by decide) (hts (.fieldLink RX6 42 "IslandBridges$State" "stepsMade" "I") (List.mem_of_getElem? (i := 4) rfl)) (fun _ h9 => h9) rfl (by decide +kernel) rfl rfl (Nat.le_of_ble_eq_true rfl) dX6_takeAllBridges_39 (fun H locs hP hD hS => ?_)
    have hP : va_P D vwCl [o_S a S_columns S_rows 0 0, ai (a 3) cI 48 y8, ai (a 4) cI 48 y9] H := hP
    have hD : va_D A [o_S a S_columns S_rows 0 0, ai (a 3) cI 48 y8, ai (a 4) cI 48 y9] := hD
    cases hm
    exact rV () hx hb hr hlk hP hD hS dX6_takeAllBridges_42
  have h2 : ∀ (y2 : Int32) (y3 : Int32), ∀ (n : Nat) (y1 : Int32) (y4 : Nat → Int32) (y5 : Nat → Int32), zl3 (m_X6_takeAllBridges_b2) n y1 y4 y5 = some (S_grade', S_stepsMade', S_bridges', S_caps') → ∀ (H : Heap) (locs : List Loc), va_P D vwCl [o_S a S_columns S_rows y2 y3, ai (a 3) cI 48 y4, ai (a 4) cI 48 y5] H → va_D A [o_S a S_columns S_rows y2 y3, ai (a 3) cI 48 y4, ai (a 4) cI 48 y5] → va_S A s.heap H locs → ∀ ls : Array Slot, lv_has ls 2 [(0, .ref (a 1)), (1, .int y1)] → W p l e { frames := 1, cells := 0, slots := 0, locals := 22 } s m args below meth c H locs 0 0 (MQ below (eQ D none (fun _ : Unit => [o_S a S_columns S_rows S_grade' S_stepsMade', ai (a 3) cI 48 S_bridges', ai (a 4) cI 48 S_caps']) A) args s 0 0 A) (F0 m 2 ls []) := by
    intro y2 y3
    refine zl3_ind (fun rec2 ih2 y1 y4 y5 hm => ?_)
    intro H locs hP hD hS ls hl
    unfold m_X6_takeAllBridges_b2 at hm
    refine lv_iload_n hx hb dX6_takeAllBridges_2 rfl (lv_at hl 1 rfl) ?_
    refine lv_bipush (v := 48) hx hb dX6_takeAllBridges_3 (by decide) ?_
    refine lv_icmp_ge (tgt := 32) hx hb dX6_takeAllBridges_5 (by decide) (fun c5 => ?_) (fun c5 => ?_)
    · have hm := ip c5 hm
      exact h32 y2 y3 y4 y5 hm _ _ hP hD hS ls (lv_sub hl [0] rfl)
    · have hm := ine c5 hm
      refine lv_aload_n hx hb dX6_takeAllBridges_8 rfl (lv_at hl 0 rfl) ?_
      refine va_get (D := D) (ci := 6) (v := .ref (a 3)) (C := RX6) (T := TX6) (N := 7) hx hb hts hiX6 hown hK.1 hP 0 rfl rfl 1 (by decide) (hts (.fieldLink RX6 15 "IslandBridges$State" "bridges" "[I") (List.mem_of_getElem? (i := 1) rfl)) (fun _ h9 => h9) rfl dX6_takeAllBridges_9 ?_
      refine lv_iload_n hx hb dX6_takeAllBridges_12 rfl (lv_at hl 1 rfl) ?_
      refine lv_iconst (v := 0) hx hb dX6_takeAllBridges_13 (by decide) ?_
      obtain ⟨v10, ev10, hm⟩ := lt1_inv hm
      refine cNx ⟨hx, hb, hml, hown, hts⟩ (c_X9_put l D cI cJ cS cB (a 3) 48 (Nat.le_of_ble_eq_true rfl) y4 y1 0 v10 ev10) ⟨va_cnB 3 hts gX6_takeAllBridges_X9_put_n32 rfl rfl rfl (kn_0 hK) (hts (.initialized RX9) (List.mem_of_getElem? (i := 6) rfl)) hd_X9_put ⟨(Nat.le_of_ble_eq_true rfl), (Nat.le_of_ble_eq_true rfl)⟩, (hts (.static yX9_put) (List.mem_of_getElem? (i := 5) rfl)), trivial⟩ hK hP hD hS hA [1] rfl rfl [o_S a S_columns S_rows y2 y3, ai (a 3) cI 48 v10, ai (a 4) cI 48 y5] [(false, 0), (true, 0), (false, 2)] rfl rfl rfl hl.1 (Nat.le_of_ble_eq_true rfl) ⟨Nat.zero_le _, Nat.zero_le _⟩ rfl dX6_takeAllBridges_14 (fun H locs hP hD hS => ?_)
      refine lv_aload_n hx hb dX6_takeAllBridges_17 rfl (lv_at hl 0 rfl) ?_
      refine va_get (D := D) (ci := 6) (v := .ref (a 4)) (C := RX6) (T := TX6) (N := 7) hx hb hts hiX6 hown hK.1 hP 0 rfl rfl 2 (by decide) (hts (.fieldLink RX6 18 "IslandBridges$State" "caps" "[I") (List.mem_of_getElem? (i := 2) rfl)) (fun _ h9 => h9) rfl dX6_takeAllBridges_18 ?_
      refine lv_iload_n hx hb dX6_takeAllBridges_21 rfl (lv_at hl 1 rfl) ?_
      refine lv_iconst (v := 2) hx hb dX6_takeAllBridges_22 (by decide) ?_
      obtain ⟨v11, ev11, hm⟩ := lt1_inv hm
      refine cNx ⟨hx, hb, hml, hown, hts⟩ (c_X9_put l D cI cJ cS cB (a 4) 48 (Nat.le_of_ble_eq_true rfl) y5 y1 2 v11 ev11) ⟨va_cnB 3 hts gX6_takeAllBridges_X9_put_n32 rfl rfl rfl (kn_0 hK) (hts (.initialized RX9) (List.mem_of_getElem? (i := 6) rfl)) hd_X9_put ⟨(Nat.le_of_ble_eq_true rfl), (Nat.le_of_ble_eq_true rfl)⟩, (hts (.static yX9_put) (List.mem_of_getElem? (i := 5) rfl)), trivial⟩ hK hP hD hS hA [2] rfl rfl [o_S a S_columns S_rows y2 y3, ai (a 3) cI 48 v10, ai (a 4) cI 48 v11] [(false, 0), (false, 1), (true, 0)] rfl rfl rfl hl.1 (Nat.le_of_ble_eq_true rfl) ⟨Nat.zero_le _, Nat.zero_le _⟩ rfl dX6_takeAllBridges_23 (fun H locs hP hD hS => ?_)
      obtain ⟨v12, ev12, hm⟩ := lt1_inv hm
      refine lv_iinc (v := v12) (lv' := [(1, .int v12), (0, .ref (a 1))]) hx hb dX6_takeAllBridges_26 hl (k := 1) rfl ev12 (by decide) rfl (fun ls hl => ?_)
      refine lv_goto (tgt := 2) hx hb dX6_takeAllBridges_29 (by decide) ?_
      exact ih2 v12 v10 v11 hm _ _ hP hD hS ls (lv_sub hl [1, 0] rfl)
  refine lv_iconst (v := 0) hx hb dX6_takeAllBridges_0 (by decide) ?_
  refine lv_istore_n (lv' := [(1, .int 0), (0, .ref (a 1))]) hx hb dX6_takeAllBridges_1 rfl hl (by decide) rfl (fun ls hl => ?_)
  exact h2 S_grade S_stepsMade N 0 S_bridges S_caps hm _ _ hP hD hS ls (lv_sub hl [1, 0] rfl)
theorem hd_X6_empty : yX6_empty.cls = RX6 ∧ yX6_empty.cls ≠ "java/lang/invoke/MethodHandle" ∧ yX6_empty.cls ≠ "java/lang/invoke/VarHandle" ∧ (parseMethodDescriptor yX6_empty.desc).map (fun d => d.parameters.length) = some 2 := by decide +kernel
def m_X6_empty_j34 (N : Nat) (y9 : Int32) (y10 : Int32) (y13 : Nat → Int32) (y14 : Nat → Int32) (y15 : Nat → Int32) : Option (Int32 × Int32 × Int32 × Int32 × (Nat → Int32) × (Nat → Int32) × (Nat → Int32)) :=
  bd4 (m_X6_takeAllBridges N y14 y15) (fun v16 v17 v18 v19 => some ((y9, y10, v16, v17, y13, v18, v19)))
def m_X6_empty_b12 (N : Nat) (y2 : Int32) (y3 : Int32) (y7 : Nat → Int32) (y8 : Nat → Int32) (rec12 : Int32 → (Nat → Int32) → Option (Int32 × Int32 × Int32 × Int32 × (Nat → Int32) × (Nat → Int32) × (Nat → Int32))) (y1 : Int32) (y6 : Nat → Int32) : Option (Int32 × Int32 × Int32 × Int32 × (Nat → Int32) × (Nat → Int32) × (Nat → Int32)) :=
  if 144 ≤ y1 then (m_X6_empty_j34 N y2 y3 y6 y7 y8) else (lt1 (vPut 144 y6 y1 0) (fun v20 => lt1 (y1 + 1) (fun v21 => rec12 v21 v20)))
def m_X6_empty (N : Nat) (S_numbers : Nat → Int32) (S_bridges : Nat → Int32) (S_caps : Nat → Int32) (x1 : Int32) (x2 : Int32) : Option (Int32 × Int32 × Int32 × Int32 × (Nat → Int32) × (Nat → Int32) × (Nat → Int32)) :=
  zl2 (m_X6_empty_b12 N x1 x2 S_bridges S_caps) N 0 S_numbers
set_option maxHeartbeats 4000000 in
set_option maxRecDepth 100000 in
theorem c_X6_empty (l : Launch) (D : va_G) (cI cJ cS cB : ClassId) (a : Nat → Nat) (S_columns : Int32) (S_rows : Int32) (S_grade : Int32) (S_stepsMade : Int32) (S_numbers : Nat → Int32) (S_bridges : Nat → Int32) (S_caps : Nat → Int32) (x1 : Int32) (x2 : Int32) (N : Nat) (S_columns' : Int32) (S_rows' : Int32) (S_grade' : Int32) (S_stepsMade' : Int32) (S_numbers' : Nat → Int32) (S_bridges' : Nat → Int32) (S_caps' : Nat → Int32) (hm : m_X6_empty N S_numbers S_bridges S_caps x1 x2 = some (S_columns', S_rows', S_grade', S_stepsMade', S_numbers', S_bridges', S_caps')) :
    mU l D (TYs cI cJ cS cB) yX6_empty wsX6_empty { frames := 2, cells := 0, slots := 0, locals := 43 } [.ref (a 1), .int x1, .int x2] [o_S a S_columns S_rows S_grade S_stepsMade, ai (a 2) cI 144 S_numbers, ai (a 3) cI 48 S_bridges, ai (a 4) cI 48 S_caps] [o_S a S_columns' S_rows' S_grade' S_stepsMade', ai (a 2) cI 144 S_numbers', ai (a 3) cI 48 S_bridges', ai (a 4) cI 48 S_caps'] none := by
  refine mG_of (cc := cX6_empty) (maxL := 4) (ret := none) (by decide) rfl rfl (Nat.le_of_ble_eq_true rfl) ?_
  intro p e s m args below meth c A hx hb hr hml hlk hnm hts hown hK hP hD hA hS ls hl
  have hl : lv_has ls 4 [(0, .ref (a 1)), (1, .int x1), (2, .int x2)] := hl
  have hiX6 : ∀ w ∈ wsX60, w ∈ wsX6_empty := fun w h => List.mem_cons_of_mem _ (List.mem_append_right _ h)
  unfold m_X6_empty at hm
  have h34 : ∀ (y9 : Int32) (y10 : Int32) (y11 : Int32) (y12 : Int32) (y13 : Nat → Int32) (y14 : Nat → Int32) (y15 : Nat → Int32), m_X6_empty_j34 N y9 y10 y13 y14 y15 = some (S_columns', S_rows', S_grade', S_stepsMade', S_numbers', S_bridges', S_caps') → ∀ (H : Heap) (locs : List Loc), va_P D vwCl [o_S a y9 y10 y11 y12, ai (a 2) cI 144 y13, ai (a 3) cI 48 y14, ai (a 4) cI 48 y15] H → va_D A [o_S a y9 y10 y11 y12, ai (a 2) cI 144 y13, ai (a 3) cI 48 y14, ai (a 4) cI 48 y15] → va_S A s.heap H locs → ∀ ls : Array Slot, lv_has ls 4 [(0, .ref (a 1))] → W p l e { frames := 2, cells := 0, slots := 0, locals := 43 } s m args below meth c H locs 0 0 (MQ below (eQ D none (fun _ : Unit => [o_S a S_columns' S_rows' S_grade' S_stepsMade', ai (a 2) cI 144 S_numbers', ai (a 3) cI 48 S_bridges', ai (a 4) cI 48 S_caps']) A) args s 0 0 A) (F0 m 34 ls []) := by
    intro y9 y10 y11 y12 y13 y14 y15 hm H locs hP hD hS ls hl
    unfold m_X6_empty_j34 at hm
    refine lv_aload_n hx hb dX6_empty_34 rfl (lv_at hl 0 rfl) ?_
    obtain ⟨v16, v17, v18, v19, h_v16, hm⟩ := bd4_inv hm
    refine cVx ⟨hx, hb, hml, hown, hts⟩ (c_X6_takeAllBridges l D cI cJ cS cB a y9 y10 y11 y12 y14 y15 N v16 v17 v18 v19 h_v16) (cwV 0 hts gX6_empty_X6_takeAllBridges rfl rfl rfl hd_X6_takeAllBridges ⟨(Nat.le_of_ble_eq_true rfl), (Nat.le_of_ble_eq_true rfl)⟩) hK hP hD hS hA [0, 2, 3] rfl rfl [o_S a y9 y10 v16 v17, ai (a 2) cI 144 y13, ai (a 3) cI 48 v18, ai (a 4) cI 48 v19] [(true, 0), (false, 1), (true, 1), (true, 2)] rfl rfl rfl hl.1 (Nat.le_of_ble_eq_true rfl) ⟨Nat.zero_le _, Nat.zero_le _⟩ 0 rfl rfl rfl rfl dX6_empty_35 (fun H locs hP hD hS => ?_)
    cases hm
    exact rV () hx hb hr hlk hP hD hS dX6_empty_38
  have h12 : ∀ (y2 : Int32) (y3 : Int32) (y4 : Int32) (y5 : Int32) (y7 : Nat → Int32) (y8 : Nat → Int32), ∀ (n : Nat) (y1 : Int32) (y6 : Nat → Int32), zl2 (m_X6_empty_b12 N y2 y3 y7 y8) n y1 y6 = some (S_columns', S_rows', S_grade', S_stepsMade', S_numbers', S_bridges', S_caps') → ∀ (H : Heap) (locs : List Loc), va_P D vwCl [o_S a y2 y3 y4 y5, ai (a 2) cI 144 y6, ai (a 3) cI 48 y7, ai (a 4) cI 48 y8] H → va_D A [o_S a y2 y3 y4 y5, ai (a 2) cI 144 y6, ai (a 3) cI 48 y7, ai (a 4) cI 48 y8] → va_S A s.heap H locs → ∀ ls : Array Slot, lv_has ls 4 [(0, .ref (a 1)), (3, .int y1)] → W p l e { frames := 2, cells := 0, slots := 0, locals := 43 } s m args below meth c H locs 0 0 (MQ below (eQ D none (fun _ : Unit => [o_S a S_columns' S_rows' S_grade' S_stepsMade', ai (a 2) cI 144 S_numbers', ai (a 3) cI 48 S_bridges', ai (a 4) cI 48 S_caps']) A) args s 0 0 A) (F0 m 12 ls []) := by
    intro y2 y3 y4 y5 y7 y8
    refine zl2_ind (fun rec12 ih12 y1 y6 hm => ?_)
    intro H locs hP hD hS ls hl
    unfold m_X6_empty_b12 at hm
    refine lv_iload_n hx hb dX6_empty_12 rfl (lv_at hl 1 rfl) ?_
    refine lv_sipush (v := 144) hx hb dX6_empty_13 (by decide) ?_
    refine lv_icmp_ge (tgt := 34) hx hb dX6_empty_16 (by decide) (fun c16 => ?_) (fun c16 => ?_)
    · have hm := ip c16 hm
      exact h34 y2 y3 y4 y5 y6 y7 y8 hm _ _ hP hD hS ls (lv_sub hl [0] rfl)
    · have hm := ine c16 hm
      refine lv_aload_n hx hb dX6_empty_19 rfl (lv_at hl 0 rfl) ?_
      refine va_get (D := D) (ci := 6) (v := .ref (a 2)) (C := RX6) (T := TX6) (N := 7) hx hb hts hiX6 hown hK.1 hP 0 rfl rfl 0 (by decide) (hts (.fieldLink RX6 9 "IslandBridges$State" "numbers" "[I") (List.mem_of_getElem? (i := 3) rfl)) (fun _ h9 => h9) rfl dX6_empty_20 ?_
      refine lv_iload_n hx hb dX6_empty_23 rfl (lv_at hl 1 rfl) ?_
      refine lv_iconst (v := 0) hx hb dX6_empty_24 (by decide) ?_
      obtain ⟨v20, ev20, hm⟩ := lt1_inv hm
      refine cNx ⟨hx, hb, hml, hown, hts⟩ (c_X9_put l D cI cJ cS cB (a 2) 144 (Nat.le_of_ble_eq_true rfl) y6 y1 0 v20 ev20) ⟨va_cnB 3 hts gX6_empty_X9_put_n32 rfl rfl rfl (kn_0 hK) (hts (.initialized RX9) (List.mem_of_getElem? (i := 5) rfl)) hd_X9_put ⟨(Nat.le_of_ble_eq_true rfl), (Nat.le_of_ble_eq_true rfl)⟩, (hts (.static yX9_put) (List.mem_of_getElem? (i := 4) rfl)), trivial⟩ hK hP hD hS hA [1] rfl rfl [o_S a y2 y3 y4 y5, ai (a 2) cI 144 v20, ai (a 3) cI 48 y7, ai (a 4) cI 48 y8] [(false, 0), (true, 0), (false, 2), (false, 3)] rfl rfl rfl hl.1 (Nat.le_of_ble_eq_true rfl) ⟨Nat.zero_le _, Nat.zero_le _⟩ rfl dX6_empty_25 (fun H locs hP hD hS => ?_)
      obtain ⟨v21, ev21, hm⟩ := lt1_inv hm
      refine lv_iinc (v := v21) (lv' := [(3, .int v21), (0, .ref (a 1))]) hx hb dX6_empty_28 hl (k := 1) rfl ev21 (by decide) rfl (fun ls hl => ?_)
      refine lv_goto (tgt := 12) hx hb dX6_empty_31 (by decide) ?_
      exact ih12 v21 v20 hm _ _ hP hD hS ls (lv_sub hl [1, 0] rfl)
  refine lv_aload_n hx hb dX6_empty_0 rfl (lv_at hl 0 rfl) ?_
  refine lv_iload_n hx hb dX6_empty_1 rfl (lv_at hl 1 rfl) ?_
  refine va_put (D := D) (ci := 6) (v := .int x1) (ty := .int) (C := RX6) (T := TX6) (N := 7) hx hb hts hiX6 tyX6 tyX6_ok nmX6 hown hK.1 hP hD hS 0 rfl rfl 3 (by decide) (hts (.fieldLink RX6 25 "IslandBridges$State" "columns" "I") (List.mem_of_getElem? (i := 1) rfl)) (fun _ h9 => h9) rfl (by decide +kernel) rfl rfl (Nat.le_of_ble_eq_true rfl) dX6_empty_2 (fun H locs hP hD hS => ?_)
  have hP : va_P D vwCl [o_S a x1 S_rows S_grade S_stepsMade, ai (a 2) cI 144 S_numbers, ai (a 3) cI 48 S_bridges, ai (a 4) cI 48 S_caps] H := hP
  have hD : va_D A [o_S a x1 S_rows S_grade S_stepsMade, ai (a 2) cI 144 S_numbers, ai (a 3) cI 48 S_bridges, ai (a 4) cI 48 S_caps] := hD
  refine lv_aload_n hx hb dX6_empty_5 rfl (lv_at hl 0 rfl) ?_
  refine lv_iload_n hx hb dX6_empty_6 rfl (lv_at hl 2 rfl) ?_
  refine va_put (D := D) (ci := 6) (v := .int x2) (ty := .int) (C := RX6) (T := TX6) (N := 7) hx hb hts hiX6 tyX6 tyX6_ok nmX6 hown hK.1 hP hD hS 0 rfl rfl 4 (by decide) (hts (.fieldLink RX6 29 "IslandBridges$State" "rows" "I") (List.mem_of_getElem? (i := 2) rfl)) (fun _ h9 => h9) rfl (by decide +kernel) rfl rfl (Nat.le_of_ble_eq_true rfl) dX6_empty_7 (fun H locs hP hD hS => ?_)
  have hP : va_P D vwCl [o_S a x1 x2 S_grade S_stepsMade, ai (a 2) cI 144 S_numbers, ai (a 3) cI 48 S_bridges, ai (a 4) cI 48 S_caps] H := hP
  have hD : va_D A [o_S a x1 x2 S_grade S_stepsMade, ai (a 2) cI 144 S_numbers, ai (a 3) cI 48 S_bridges, ai (a 4) cI 48 S_caps] := hD
  refine lv_iconst (v := 0) hx hb dX6_empty_10 (by decide) ?_
  refine lv_istore_n (lv' := [(3, .int 0), (0, .ref (a 1)), (1, .int x1), (2, .int x2)]) hx hb dX6_empty_11 rfl hl (by decide) rfl (fun ls hl => ?_)
  exact h12 x1 x2 S_grade S_stepsMade S_bridges S_caps N 0 S_numbers hm _ _ hP hD hS ls (lv_sub hl [1, 0] rfl)
theorem hd_J13_bitCount_95d88 : yJ13_bitCount_95d88.cls ≠ "java/lang/invoke/MethodHandle" ∧ yJ13_bitCount_95d88.cls ≠ "java/lang/invoke/VarHandle" ∧ (parseMethodDescriptor yJ13_bitCount_95d88.desc).map (fun d => d.parameters.length) = some 1 := by decide +kernel
def m_J13_bitCount_95d88 (x0 : Int64) : Int32 :=
  lt1 (x0 - (((x0.toUInt64 >>> (((1 : Int32)).toInt64.toUInt64 &&& Int64.toUInt64 63)).toInt64) &&& 6148914691236517205)) (fun v1 => lt1 ((v1 &&& 3689348814741910323) + (((v1.toUInt64 >>> (((2 : Int32)).toInt64.toUInt64 &&& Int64.toUInt64 63)).toInt64) &&& 3689348814741910323)) (fun v2 => lt1 ((v2 + ((v2.toUInt64 >>> (((4 : Int32)).toInt64.toUInt64 &&& Int64.toUInt64 63)).toInt64)) &&& 1085102592571150095) (fun v3 => lt1 (v3 + ((v3.toUInt64 >>> (((8 : Int32)).toInt64.toUInt64 &&& Int64.toUInt64 63)).toInt64)) (fun v4 => lt1 (v4 + ((v4.toUInt64 >>> (((16 : Int32)).toInt64.toUInt64 &&& Int64.toUInt64 63)).toInt64)) (fun v5 => lt1 (v5 + ((v5.toUInt64 >>> (((32 : Int32)).toInt64.toUInt64 &&& Int64.toUInt64 63)).toInt64)) (fun v6 => v6.toInt32 &&& 127))))))
set_option maxHeartbeats 4000000 in
set_option maxRecDepth 100000 in
theorem c_J13_bitCount_95d88 (l : Launch) (D : va_G) (cI cJ cS cB : ClassId) (a : Nat → Nat)  (x0 : Int64) (r0 : Int32) (hm : m_J13_bitCount_95d88 x0 = r0) :
    mU l D (TYs cI cJ cS cB) yJ13_bitCount_95d88 wsJ13_bitCount_95d88 { frames := 0, cells := 0, slots := 0, locals := 0 } [.long x0] [] [] (some (.int r0)) := by
  refine mG_of (cc := cJ13_bitCount_95d88) (maxL := 2) (ret := (some .int)) (by decide) rfl rfl (Nat.le_of_ble_eq_true rfl) ?_
  intro p e s m args below meth c A hx hb hr hml hlk hnm hts hown hK hP hD hA hS ls hl
  have hl : lv_has ls 2 [(0, .long x0)] := hl
  unfold m_J13_bitCount_95d88 at hm
  refine lv_lload_n hx hb dJ13_bitCount_95d88_0 rfl (lv_at hl 0 rfl) ?_
  refine lv_lload_n hx hb dJ13_bitCount_95d88_1 rfl (lv_at hl 0 rfl) ?_
  refine lv_iconst (v := 1) hx hb dJ13_bitCount_95d88_2 (by decide) ?_
  refine lv_lushr hx hb dJ13_bitCount_95d88_3 (v := (x0.toUInt64 >>> (((1 : Int32)).toInt64.toUInt64 &&& Int64.toUInt64 63)).toInt64) rfl ?_
  refine lv_ldc2 (v := 6148914691236517205) hx hb hown (hts (.constantLong RJ13 314 (6148914691236517205)) (List.mem_of_getElem? (i := 1) rfl)) dJ13_bitCount_95d88_4 ?_
  refine lv_land hx hb dJ13_bitCount_95d88_7 ?_
  refine lv_lsub hx hb dJ13_bitCount_95d88_8 ?_
  obtain ⟨v1, ev1, hm⟩ := lt1_inv hm
  refine ltopL ev1 ?_
  refine lv_lstore_n (lv' := [(0, .long v1)]) hx hb dJ13_bitCount_95d88_9 rfl hl (by decide) rfl (fun ls hl => ?_)
  refine lv_lload_n hx hb dJ13_bitCount_95d88_10 rfl (lv_at hl 0 rfl) ?_
  refine lv_ldc2 (v := 3689348814741910323) hx hb hown (hts (.constantLong RJ13 316 (3689348814741910323)) (List.mem_of_getElem? (i := 2) rfl)) dJ13_bitCount_95d88_11 ?_
  refine lv_land hx hb dJ13_bitCount_95d88_14 ?_
  refine lv_lload_n hx hb dJ13_bitCount_95d88_15 rfl (lv_at hl 0 rfl) ?_
  refine lv_iconst (v := 2) hx hb dJ13_bitCount_95d88_16 (by decide) ?_
  refine lv_lushr hx hb dJ13_bitCount_95d88_17 (v := (v1.toUInt64 >>> (((2 : Int32)).toInt64.toUInt64 &&& Int64.toUInt64 63)).toInt64) rfl ?_
  refine lv_ldc2 (v := 3689348814741910323) hx hb hown (hts (.constantLong RJ13 316 (3689348814741910323)) (List.mem_of_getElem? (i := 2) rfl)) dJ13_bitCount_95d88_18 ?_
  refine lv_land hx hb dJ13_bitCount_95d88_21 ?_
  refine lv_ladd hx hb dJ13_bitCount_95d88_22 ?_
  obtain ⟨v2, ev2, hm⟩ := lt1_inv hm
  refine ltopL ev2 ?_
  refine lv_lstore_n (lv' := [(0, .long v2)]) hx hb dJ13_bitCount_95d88_23 rfl hl (by decide) rfl (fun ls hl => ?_)
  refine lv_lload_n hx hb dJ13_bitCount_95d88_24 rfl (lv_at hl 0 rfl) ?_
  refine lv_lload_n hx hb dJ13_bitCount_95d88_25 rfl (lv_at hl 0 rfl) ?_
  refine lv_iconst (v := 4) hx hb dJ13_bitCount_95d88_26 (by decide) ?_
  refine lv_lushr hx hb dJ13_bitCount_95d88_27 (v := (v2.toUInt64 >>> (((4 : Int32)).toInt64.toUInt64 &&& Int64.toUInt64 63)).toInt64) rfl ?_
  refine lv_ladd hx hb dJ13_bitCount_95d88_28 ?_
  refine lv_ldc2 (v := 1085102592571150095) hx hb hown (hts (.constantLong RJ13 318 (1085102592571150095)) (List.mem_of_getElem? (i := 3) rfl)) dJ13_bitCount_95d88_29 ?_
  refine lv_land hx hb dJ13_bitCount_95d88_32 ?_
  obtain ⟨v3, ev3, hm⟩ := lt1_inv hm
  refine ltopL ev3 ?_
  refine lv_lstore_n (lv' := [(0, .long v3)]) hx hb dJ13_bitCount_95d88_33 rfl hl (by decide) rfl (fun ls hl => ?_)
  refine lv_lload_n hx hb dJ13_bitCount_95d88_34 rfl (lv_at hl 0 rfl) ?_
  refine lv_lload_n hx hb dJ13_bitCount_95d88_35 rfl (lv_at hl 0 rfl) ?_
  refine lv_bipush (v := 8) hx hb dJ13_bitCount_95d88_36 (by decide) ?_
  refine lv_lushr hx hb dJ13_bitCount_95d88_38 (v := (v3.toUInt64 >>> (((8 : Int32)).toInt64.toUInt64 &&& Int64.toUInt64 63)).toInt64) rfl ?_
  refine lv_ladd hx hb dJ13_bitCount_95d88_39 ?_
  obtain ⟨v4, ev4, hm⟩ := lt1_inv hm
  refine ltopL ev4 ?_
  refine lv_lstore_n (lv' := [(0, .long v4)]) hx hb dJ13_bitCount_95d88_40 rfl hl (by decide) rfl (fun ls hl => ?_)
  refine lv_lload_n hx hb dJ13_bitCount_95d88_41 rfl (lv_at hl 0 rfl) ?_
  refine lv_lload_n hx hb dJ13_bitCount_95d88_42 rfl (lv_at hl 0 rfl) ?_
  refine lv_bipush (v := 16) hx hb dJ13_bitCount_95d88_43 (by decide) ?_
  refine lv_lushr hx hb dJ13_bitCount_95d88_45 (v := (v4.toUInt64 >>> (((16 : Int32)).toInt64.toUInt64 &&& Int64.toUInt64 63)).toInt64) rfl ?_
  refine lv_ladd hx hb dJ13_bitCount_95d88_46 ?_
  obtain ⟨v5, ev5, hm⟩ := lt1_inv hm
  refine ltopL ev5 ?_
  refine lv_lstore_n (lv' := [(0, .long v5)]) hx hb dJ13_bitCount_95d88_47 rfl hl (by decide) rfl (fun ls hl => ?_)
  refine lv_lload_n hx hb dJ13_bitCount_95d88_48 rfl (lv_at hl 0 rfl) ?_
  refine lv_lload_n hx hb dJ13_bitCount_95d88_49 rfl (lv_at hl 0 rfl) ?_
  refine lv_bipush (v := 32) hx hb dJ13_bitCount_95d88_50 (by decide) ?_
  refine lv_lushr hx hb dJ13_bitCount_95d88_52 (v := (v5.toUInt64 >>> (((32 : Int32)).toInt64.toUInt64 &&& Int64.toUInt64 63)).toInt64) rfl ?_
  refine lv_ladd hx hb dJ13_bitCount_95d88_53 ?_
  obtain ⟨v6, ev6, hm⟩ := lt1_inv hm
  refine ltopL ev6 ?_
  refine lv_lstore_n (lv' := [(0, .long v6)]) hx hb dJ13_bitCount_95d88_54 rfl hl (by decide) rfl (fun ls hl => ?_)
  refine lv_lload_n hx hb dJ13_bitCount_95d88_55 rfl (lv_at hl 0 rfl) ?_
  refine lv_l2i hx hb dJ13_bitCount_95d88_56 (v := v6.toInt32) rfl ?_
  refine lv_bipush (v := 127) hx hb dJ13_bitCount_95d88_57 (by decide) ?_
  refine lv_iand hx hb dJ13_bitCount_95d88_59 ?_
  cases hm
  exact rI () hx hb hr hlk hP hD hS dJ13_bitCount_95d88_60
