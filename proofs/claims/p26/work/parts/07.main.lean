theorem hd_X9_isSide : yX9_isSide.cls ≠ "java/lang/invoke/MethodHandle" ∧ yX9_isSide.cls ≠ "java/lang/invoke/VarHandle" ∧ (parseMethodDescriptor yX9_isSide.desc).map (fun d => d.parameters.length) = some 1 := by decide +kernel
def m_X9_isSide (x0 : Int32) : Int32 :=
  if x0 < 3 then (0) else (if 12 < x0 then (0) else (1))
set_option maxHeartbeats 4000000 in
set_option maxRecDepth 100000 in
theorem c_X9_isSide (l : Launch) (D : va_G) (cI cJ cS cB : ClassId) (a : Nat → Nat)  (x0 : Int32) (r0 : Int32) (hm : m_X9_isSide x0 = r0) :
    mU l D (TYs cI cJ cS cB) yX9_isSide wsX9_isSide { frames := 0, cells := 0, slots := 0, locals := 0 } [.int x0] [] [] (some (.int r0)) := by
  refine mG_of (cc := cX9_isSide) (maxL := 1) (ret := (some .boolean)) (by decide) rfl rfl (Nat.le_of_ble_eq_true rfl) ?_
  intro p e s m args below meth c A hx hb hr hml hlk hnm hts hown hK hP hD hA hS ls hl
  have hl : lv_has ls 1 [(0, .int x0)] := hl
  unfold m_X9_isSide at hm
  refine lv_iload_n hx hb dX9_isSide_0 rfl (lv_at hl 0 rfl) ?_
  refine lv_iconst (v := 3) hx hb dX9_isSide_1 (by decide) ?_
  refine lv_icmp_lt (tgt := 15) hx hb dX9_isSide_2 (by decide) (fun c2 => ?_) (fun c2 => ?_)
  · have hm := ip c2 hm
    refine lv_iconst (v := 0) hx hb dX9_isSide_15 (by decide) ?_
    cases hm
    exact rZ () hx hb hr hlk (by decide) hP hD hS dX9_isSide_16
  · have hm := ine c2 hm
    refine lv_iload_n hx hb dX9_isSide_5 rfl (lv_at hl 0 rfl) ?_
    refine lv_bipush (v := 12) hx hb dX9_isSide_6 (by decide) ?_
    refine lv_icmp_gt (tgt := 15) hx hb dX9_isSide_8 (by decide) (fun c8 => ?_) (fun c8 => ?_)
    · have hm := ip c8 hm
      refine lv_iconst (v := 0) hx hb dX9_isSide_15 (by decide) ?_
      cases hm
      exact rZ () hx hb hr hlk (by decide) hP hD hS dX9_isSide_16
    · have hm := ine c8 hm
      refine lv_iconst (v := 1) hx hb dX9_isSide_11 (by decide) ?_
      refine lv_goto (tgt := 16) hx hb dX9_isSide_12 (by decide) ?_
      cases hm
      exact rZ () hx hb hr hlk (by decide) hP hD hS dX9_isSide_16
theorem hd_X9_renewWays : yX9_renewWays.cls = RX9 ∧ yX9_renewWays.cls ≠ "java/lang/invoke/MethodHandle" ∧ yX9_renewWays.cls ≠ "java/lang/invoke/VarHandle" ∧ (parseMethodDescriptor yX9_renewWays.desc).map (fun d => d.parameters.length) = some 0 := by decide +kernel
def m_X9_renewWays (N : Nat) (S_columns : Int32) (S_rows : Int32) (S_numbers : Nat → Int32) (S_bridges : Nat → Int32) (S_caps : Nat → Int32) (Y_cellOf : Nat → Int32) (Y_islandAfter : Nat → Int32) (Y_firstOf : Nat → Int32) (Y_secondOf : Nat → Int32) (Y_firstCellOf : Nat → Int32) (Y_secondCellOf : Nat → Int32) (Y_strideOf : Nat → Int32) (Y_waysOf : Nat → Int32) (Y_crossings : Nat → Int64) : Option (Int32 × Int32 × (Nat → Int32) × (Nat → Int32) × Int32 × Int32 × (Nat → Int32) × (Nat → Int32) × (Nat → Int32) × (Nat → Int32) × (Nat → Int32) × (Nat → Int32) × (Nat → Int32) × (Nat → Int32) × (Nat → Int64)) :=
  bd4 (m_X6_takeAllBridges N S_bridges S_caps) (fun v1 v2 v3 v4 => bd11 (m_X2_read N S_columns S_rows S_numbers Y_cellOf Y_islandAfter Y_firstOf Y_secondOf Y_firstCellOf Y_secondCellOf Y_strideOf Y_waysOf Y_crossings) (fun v5 v6 v7 v8 v9 v10 v11 v12 v13 v14 v15 => some ((v1, v2, v3, v4, v5, v6, v7, v8, v9, v10, v11, v12, v13, v14, v15))))
set_option maxHeartbeats 4000000 in
set_option maxRecDepth 100000 in
theorem c_X9_renewWays (l : Launch) (D : va_G) (cI cJ cS cB : ClassId) (a : Nat → Nat) (S_columns : Int32) (S_rows : Int32) (S_grade : Int32) (S_stepsMade : Int32) (S_numbers : Nat → Int32) (S_bridges : Nat → Int32) (S_caps : Nat → Int32) (Y_islands : Int32) (Y_ways : Int32) (Y_cellOf : Nat → Int32) (Y_islandAfter : Nat → Int32) (Y_firstOf : Nat → Int32) (Y_secondOf : Nat → Int32) (Y_firstCellOf : Nat → Int32) (Y_secondCellOf : Nat → Int32) (Y_strideOf : Nat → Int32) (Y_waysOf : Nat → Int32) (Y_crossings : Nat → Int64)  (N : Nat) (S_grade' : Int32) (S_stepsMade' : Int32) (S_bridges' : Nat → Int32) (S_caps' : Nat → Int32) (Y_islands' : Int32) (Y_ways' : Int32) (Y_cellOf' : Nat → Int32) (Y_islandAfter' : Nat → Int32) (Y_firstOf' : Nat → Int32) (Y_secondOf' : Nat → Int32) (Y_firstCellOf' : Nat → Int32) (Y_secondCellOf' : Nat → Int32) (Y_strideOf' : Nat → Int32) (Y_waysOf' : Nat → Int32) (Y_crossings' : Nat → Int64) (hm : m_X9_renewWays N S_columns S_rows S_numbers S_bridges S_caps Y_cellOf Y_islandAfter Y_firstOf Y_secondOf Y_firstCellOf Y_secondCellOf Y_strideOf Y_waysOf Y_crossings = some (S_grade', S_stepsMade', S_bridges', S_caps', Y_islands', Y_ways', Y_cellOf', Y_islandAfter', Y_firstOf', Y_secondOf', Y_firstCellOf', Y_secondCellOf', Y_strideOf', Y_waysOf', Y_crossings')) :
    mU l D (TYs cI cJ cS cB) yX9_renewWays wsX9_renewWays { frames := 5, cells := 0, slots := 0, locals := 118 } [.ref (a 0)] [o_X a , o_S a S_columns S_rows S_grade S_stepsMade, ai (a 2) cI 144 S_numbers, ai (a 3) cI 48 S_bridges, ai (a 4) cI 48 S_caps, o_Y a Y_islands Y_ways, ai (a 6) cI 24 Y_cellOf, ai (a 7) cI 144 Y_islandAfter, ai (a 8) cI 48 Y_firstOf, ai (a 9) cI 48 Y_secondOf, ai (a 10) cI 48 Y_firstCellOf, ai (a 11) cI 48 Y_secondCellOf, ai (a 12) cI 48 Y_strideOf, ai (a 13) cI 24 Y_waysOf, aj (a 14) cJ 48 Y_crossings] [o_X a , o_S a S_columns S_rows S_grade' S_stepsMade', ai (a 2) cI 144 S_numbers, ai (a 3) cI 48 S_bridges', ai (a 4) cI 48 S_caps', o_Y a Y_islands' Y_ways', ai (a 6) cI 24 Y_cellOf', ai (a 7) cI 144 Y_islandAfter', ai (a 8) cI 48 Y_firstOf', ai (a 9) cI 48 Y_secondOf', ai (a 10) cI 48 Y_firstCellOf', ai (a 11) cI 48 Y_secondCellOf', ai (a 12) cI 48 Y_strideOf', ai (a 13) cI 24 Y_waysOf', aj (a 14) cJ 48 Y_crossings'] none := by
  refine mG_of (cc := cX9_renewWays) (maxL := 1) (ret := none) (by decide) rfl rfl (Nat.le_of_ble_eq_true rfl) ?_
  intro p e s m args below meth c A hx hb hr hml hlk hnm hts hown hK hP hD hA hS ls hl
  have hl : lv_has ls 1 [(0, .ref (a 0))] := hl
  have hiX2 : ∀ w ∈ wsX20, w ∈ wsX9_renewWays := fun w h => List.mem_cons_of_mem _ (List.mem_append_right _ h)
  have hiX6 : ∀ w ∈ wsX60, w ∈ wsX9_renewWays := fun w h => List.mem_cons_of_mem _ (List.mem_append_left _ (List.mem_append_right _ h))
  have hiX9 : ∀ w ∈ wsX90, w ∈ wsX9_renewWays := fun w h => List.mem_cons_of_mem _ (List.mem_append_left _ (List.mem_append_left _ (List.mem_append_right _ h)))
  unfold m_X9_renewWays at hm
  refine lv_aload_n hx hb dX9_renewWays_0 rfl (lv_at hl 0 rfl) ?_
  refine va_get (D := D) (ci := 9) (v := .ref (a 1)) (C := RX9) (T := TX9) (N := 9) hx hb hts hiX9 hown hK.1 hP 0 rfl rfl 0 (by decide) (hts (.fieldLink RX9 10 "IslandBridges" "state" "LIslandBridges$State;") (List.mem_of_getElem? (i := 1) rfl)) (fun _ h9 => h9) rfl dX9_renewWays_1 ?_
  obtain ⟨v1, v2, v3, v4, h_v1, hm⟩ := bd4_inv hm
  refine cVx ⟨hx, hb, hml, hown, hts⟩ (c_X6_takeAllBridges l D cI cJ cS cB a S_columns S_rows S_grade S_stepsMade S_bridges S_caps N v1 v2 v3 v4 h_v1) (cwV 0 hts gX9_renewWays_X6_takeAllBridges rfl rfl rfl hd_X6_takeAllBridges ⟨(Nat.le_of_ble_eq_true rfl), (Nat.le_of_ble_eq_true rfl)⟩) hK hP hD hS hA [1, 3, 4] rfl rfl [o_X a , o_S a S_columns S_rows v1 v2, ai (a 2) cI 144 S_numbers, ai (a 3) cI 48 v3, ai (a 4) cI 48 v4, o_Y a Y_islands Y_ways, ai (a 6) cI 24 Y_cellOf, ai (a 7) cI 144 Y_islandAfter, ai (a 8) cI 48 Y_firstOf, ai (a 9) cI 48 Y_secondOf, ai (a 10) cI 48 Y_firstCellOf, ai (a 11) cI 48 Y_secondCellOf, ai (a 12) cI 48 Y_strideOf, ai (a 13) cI 24 Y_waysOf, aj (a 14) cJ 48 Y_crossings] [(false, 0), (true, 0), (false, 2), (true, 1), (true, 2), (false, 5), (false, 6), (false, 7), (false, 8), (false, 9), (false, 10), (false, 11), (false, 12), (false, 13), (false, 14)] rfl rfl rfl hl.1 (Nat.le_of_ble_eq_true rfl) ⟨Nat.zero_le _, Nat.zero_le _⟩ 1 rfl rfl rfl rfl dX9_renewWays_4 (fun H locs hP hD hS => ?_)
  refine lv_aload_n hx hb dX9_renewWays_7 rfl (lv_at hl 0 rfl) ?_
  refine va_get (D := D) (ci := 9) (v := .ref (a 5)) (C := RX9) (T := TX9) (N := 9) hx hb hts hiX9 hown hK.1 hP 0 rfl rfl 1 (by decide) (hts (.fieldLink RX9 19 "IslandBridges" "layout" "LIslandBridges$Layout;") (List.mem_of_getElem? (i := 2) rfl)) (fun _ h9 => h9) rfl dX9_renewWays_8 ?_
  refine lv_aload_n hx hb dX9_renewWays_11 rfl (lv_at hl 0 rfl) ?_
  refine va_get (D := D) (ci := 9) (v := .ref (a 1)) (C := RX9) (T := TX9) (N := 9) hx hb hts hiX9 hown hK.1 hP 0 rfl rfl 0 (by decide) (hts (.fieldLink RX9 10 "IslandBridges" "state" "LIslandBridges$State;") (List.mem_of_getElem? (i := 1) rfl)) (fun _ h9 => h9) rfl dX9_renewWays_12 ?_
  obtain ⟨v5, v6, v7, v8, v9, v10, v11, v12, v13, v14, v15, h_v5, hm⟩ := bd11_inv hm
  refine cVx ⟨hx, hb, hml, hown, hts⟩ (c_X2_read l D cI cJ cS cB a S_columns S_rows v1 v2 S_numbers Y_islands Y_ways Y_cellOf Y_islandAfter Y_firstOf Y_secondOf Y_firstCellOf Y_secondCellOf Y_strideOf Y_waysOf Y_crossings N v5 v6 v7 v8 v9 v10 v11 v12 v13 v14 v15 h_v5) (cwV 1 hts gX9_renewWays_X2_read rfl rfl rfl hd_X2_read ⟨(Nat.le_of_ble_eq_true rfl), (Nat.le_of_ble_eq_true rfl)⟩) hK hP hD hS hA [1, 2, 5, 6, 7, 8, 9, 10, 11, 12, 13, 14] rfl rfl [o_X a , o_S a S_columns S_rows v1 v2, ai (a 2) cI 144 S_numbers, ai (a 3) cI 48 v3, ai (a 4) cI 48 v4, o_Y a v5 v6, ai (a 6) cI 24 v7, ai (a 7) cI 144 v8, ai (a 8) cI 48 v9, ai (a 9) cI 48 v10, ai (a 10) cI 48 v11, ai (a 11) cI 48 v12, ai (a 12) cI 48 v13, ai (a 13) cI 24 v14, aj (a 14) cJ 48 v15] [(false, 0), (true, 0), (true, 1), (false, 3), (false, 4), (true, 2), (true, 3), (true, 4), (true, 5), (true, 6), (true, 7), (true, 8), (true, 9), (true, 10), (true, 11)] rfl rfl rfl hl.1 (Nat.le_of_ble_eq_true rfl) ⟨Nat.zero_le _, Nat.zero_le _⟩ 5 rfl rfl rfl rfl dX9_renewWays_15 (fun H locs hP hD hS => ?_)
  cases hm
  exact rV () hx hb hr hlk hP hD hS dX9_renewWays_18
theorem hd_X9_begin : yX9_begin.cls = RX9 ∧ yX9_begin.cls ≠ "java/lang/invoke/MethodHandle" ∧ yX9_begin.cls ≠ "java/lang/invoke/VarHandle" ∧ (parseMethodDescriptor yX9_begin.desc).map (fun d => d.parameters.length) = some 2 := by decide +kernel
def m_X9_begin (N : Nat) (S_columns : Int32) (S_rows : Int32) (S_grade : Int32) (S_stepsMade : Int32) (S_numbers : Nat → Int32) (S_bridges : Nat → Int32) (S_caps : Nat → Int32) (Y_islands : Int32) (Y_ways : Int32) (Y_cellOf : Nat → Int32) (Y_islandAfter : Nat → Int32) (Y_firstOf : Nat → Int32) (Y_secondOf : Nat → Int32) (Y_firstCellOf : Nat → Int32) (Y_secondCellOf : Nat → Int32) (Y_strideOf : Nat → Int32) (Y_waysOf : Nat → Int32) (Y_crossings : Nat → Int64) (H_size : Int32) (Hb : Nat → Nat) (HN : Nat → Nat → Int32) (HB : Nat → Nat → Int32) (HC : Nat → Nat → Int32) (Hc : Nat → Int32) (Hr : Nat → Int32) (Hg : Nat → Int32) (Hs : Nat → Int32) (x1 : Int32) (x2 : Int32) : Option (Int32 × Int32 × Int32 × Int32 × Int32 × (Nat → Int32) × (Nat → Int32) × (Nat → Int32) × Int32 × Int32 × (Nat → Int32) × (Nat → Int32) × (Nat → Int32) × (Nat → Int32) × (Nat → Int32) × (Nat → Int32) × (Nat → Int32) × (Nat → Int32) × (Nat → Int64) × Int32 × (Nat → Nat) × (Nat → Nat → Int32) × (Nat → Nat → Int32) × (Nat → Nat → Int32) × (Nat → Int32) × (Nat → Int32) × (Nat → Int32) × (Nat → Int32)) :=
  lt1 (m_X9_isSide x1) (fun v1 => if v1 = 0 then (some (((-1), S_columns, S_rows, S_grade, S_stepsMade, S_numbers, S_bridges, S_caps, Y_islands, Y_ways, Y_cellOf, Y_islandAfter, Y_firstOf, Y_secondOf, Y_firstCellOf, Y_secondCellOf, Y_strideOf, Y_waysOf, Y_crossings, H_size, Hb, HN, HB, HC, Hc, Hr, Hg, Hs))) else (lt1 (m_X9_isSide x2) (fun v2 => if v2 = 0 then (some (((-1), S_columns, S_rows, S_grade, S_stepsMade, S_numbers, S_bridges, S_caps, Y_islands, Y_ways, Y_cellOf, Y_islandAfter, Y_firstOf, Y_secondOf, Y_firstCellOf, Y_secondCellOf, Y_strideOf, Y_waysOf, Y_crossings, H_size, Hb, HN, HB, HC, Hc, Hr, Hg, Hs))) else (bd9 (m_X1_record S_columns S_rows S_grade S_stepsMade S_numbers S_bridges S_caps H_size Hb HN HB HC Hc Hr Hg Hs) (fun v3 v4 v5 v6 v7 v8 v9 v10 v11 => bd7 (m_X6_empty N S_numbers S_bridges S_caps x1 x2) (fun v12 v13 v14 v15 v16 v17 v18 => bd15 (m_X9_renewWays N v12 v13 v16 v17 v18 Y_cellOf Y_islandAfter Y_firstOf Y_secondOf Y_firstCellOf Y_secondCellOf Y_strideOf Y_waysOf Y_crossings) (fun v19 v20 v21 v22 v23 v24 v25 v26 v27 v28 v29 v30 v31 v32 v33 => some ((Y_islands, v12, v13, v19, v20, v16, v21, v22, v23, v24, v25, v26, v27, v28, v29, v30, v31, v32, v33, v3, v4, v5, v6, v7, v8, v9, v10, v11)))))))))
set_option maxHeartbeats 4000000 in
set_option maxRecDepth 100000 in
theorem c_X9_begin (l : Launch) (D : va_G) (cI cJ cS cB : ClassId) (a : Nat → Nat) (S_columns : Int32) (S_rows : Int32) (S_grade : Int32) (S_stepsMade : Int32) (S_numbers : Nat → Int32) (S_bridges : Nat → Int32) (S_caps : Nat → Int32) (Y_islands : Int32) (Y_ways : Int32) (Y_cellOf : Nat → Int32) (Y_islandAfter : Nat → Int32) (Y_firstOf : Nat → Int32) (Y_secondOf : Nat → Int32) (Y_firstCellOf : Nat → Int32) (Y_secondCellOf : Nat → Int32) (Y_strideOf : Nat → Int32) (Y_waysOf : Nat → Int32) (Y_crossings : Nat → Int64) (H_size : Int32) (Hb : Nat → Nat) (HN : Nat → Nat → Int32) (HB : Nat → Nat → Int32) (HC : Nat → Nat → Int32) (Hc : Nat → Int32) (Hr : Nat → Int32) (Hg : Nat → Int32) (Hs : Nat → Int32) (x1 : Int32) (x2 : Int32) (N : Nat) (r0 : Int32) (S_columns' : Int32) (S_rows' : Int32) (S_grade' : Int32) (S_stepsMade' : Int32) (S_numbers' : Nat → Int32) (S_bridges' : Nat → Int32) (S_caps' : Nat → Int32) (Y_islands' : Int32) (Y_ways' : Int32) (Y_cellOf' : Nat → Int32) (Y_islandAfter' : Nat → Int32) (Y_firstOf' : Nat → Int32) (Y_secondOf' : Nat → Int32) (Y_firstCellOf' : Nat → Int32) (Y_secondCellOf' : Nat → Int32) (Y_strideOf' : Nat → Int32) (Y_waysOf' : Nat → Int32) (Y_crossings' : Nat → Int64) (H_size' : Int32) (Hb' : Nat → Nat) (HN' : Nat → Nat → Int32) (HB' : Nat → Nat → Int32) (HC' : Nat → Nat → Int32) (Hc' : Nat → Int32) (Hr' : Nat → Int32) (Hg' : Nat → Int32) (Hs' : Nat → Int32) (hm : m_X9_begin N S_columns S_rows S_grade S_stepsMade S_numbers S_bridges S_caps Y_islands Y_ways Y_cellOf Y_islandAfter Y_firstOf Y_secondOf Y_firstCellOf Y_secondCellOf Y_strideOf Y_waysOf Y_crossings H_size Hb HN HB HC Hc Hr Hg Hs x1 x2 = some (r0, S_columns', S_rows', S_grade', S_stepsMade', S_numbers', S_bridges', S_caps', Y_islands', Y_ways', Y_cellOf', Y_islandAfter', Y_firstOf', Y_secondOf', Y_firstCellOf', Y_secondCellOf', Y_strideOf', Y_waysOf', Y_crossings', H_size', Hb', HN', HB', HC', Hc', Hr', Hg', Hs')) :
    mU l D (TYs cI cJ cS cB) yX9_begin wsX9_begin { frames := 6, cells := 0, slots := 0, locals := 138 } [.ref (a 0), .int x1, .int x2] [o_X a , o_S a S_columns S_rows S_grade S_stepsMade, ai (a 2) cI 144 S_numbers, ai (a 3) cI 48 S_bridges, ai (a 4) cI 48 S_caps, o_Y a Y_islands Y_ways, ai (a 6) cI 24 Y_cellOf, ai (a 7) cI 144 Y_islandAfter, ai (a 8) cI 48 Y_firstOf, ai (a 9) cI 48 Y_secondOf, ai (a 10) cI 48 Y_firstCellOf, ai (a 11) cI 48 Y_secondCellOf, ai (a 12) cI 48 Y_strideOf, ai (a 13) cI 24 Y_waysOf, aj (a 14) cJ 48 Y_crossings, o_H a H_size, aq (a 32) cS 4 (hq Hb), o_h (Hb 0) (Hb 1) (Hb 2) (Hb 3) (Hc 0) (Hr 0) (Hg 0) (Hs 0), ai (Hb 1) cI 144 (HN 0), ai (Hb 2) cI 48 (HB 0), ai (Hb 3) cI 48 (HC 0), o_h (Hb 4) (Hb 5) (Hb 6) (Hb 7) (Hc 1) (Hr 1) (Hg 1) (Hs 1), ai (Hb 5) cI 144 (HN 1), ai (Hb 6) cI 48 (HB 1), ai (Hb 7) cI 48 (HC 1), o_h (Hb 8) (Hb 9) (Hb 10) (Hb 11) (Hc 2) (Hr 2) (Hg 2) (Hs 2), ai (Hb 9) cI 144 (HN 2), ai (Hb 10) cI 48 (HB 2), ai (Hb 11) cI 48 (HC 2), o_h (Hb 12) (Hb 13) (Hb 14) (Hb 15) (Hc 3) (Hr 3) (Hg 3) (Hs 3), ai (Hb 13) cI 144 (HN 3), ai (Hb 14) cI 48 (HB 3), ai (Hb 15) cI 48 (HC 3)] [o_X a , o_S a S_columns' S_rows' S_grade' S_stepsMade', ai (a 2) cI 144 S_numbers', ai (a 3) cI 48 S_bridges', ai (a 4) cI 48 S_caps', o_Y a Y_islands' Y_ways', ai (a 6) cI 24 Y_cellOf', ai (a 7) cI 144 Y_islandAfter', ai (a 8) cI 48 Y_firstOf', ai (a 9) cI 48 Y_secondOf', ai (a 10) cI 48 Y_firstCellOf', ai (a 11) cI 48 Y_secondCellOf', ai (a 12) cI 48 Y_strideOf', ai (a 13) cI 24 Y_waysOf', aj (a 14) cJ 48 Y_crossings', o_H a H_size', aq (a 32) cS 4 (hq Hb'), o_h (Hb' 0) (Hb' 1) (Hb' 2) (Hb' 3) (Hc' 0) (Hr' 0) (Hg' 0) (Hs' 0), ai (Hb' 1) cI 144 (HN' 0), ai (Hb' 2) cI 48 (HB' 0), ai (Hb' 3) cI 48 (HC' 0), o_h (Hb' 4) (Hb' 5) (Hb' 6) (Hb' 7) (Hc' 1) (Hr' 1) (Hg' 1) (Hs' 1), ai (Hb' 5) cI 144 (HN' 1), ai (Hb' 6) cI 48 (HB' 1), ai (Hb' 7) cI 48 (HC' 1), o_h (Hb' 8) (Hb' 9) (Hb' 10) (Hb' 11) (Hc' 2) (Hr' 2) (Hg' 2) (Hs' 2), ai (Hb' 9) cI 144 (HN' 2), ai (Hb' 10) cI 48 (HB' 2), ai (Hb' 11) cI 48 (HC' 2), o_h (Hb' 12) (Hb' 13) (Hb' 14) (Hb' 15) (Hc' 3) (Hr' 3) (Hg' 3) (Hs' 3), ai (Hb' 13) cI 144 (HN' 3), ai (Hb' 14) cI 48 (HB' 3), ai (Hb' 15) cI 48 (HC' 3)] (some (.int r0)) := by
  refine mG_of (cc := cX9_begin) (maxL := 4) (ret := (some .int)) (by decide) rfl rfl (Nat.le_of_ble_eq_true rfl) ?_
  intro p e s m args below meth c A hx hb hr hml hlk hnm hts hown hK hP hD hA hS ls hl
  have hl : lv_has ls 4 [(0, .ref (a 0)), (1, .int x1), (2, .int x2)] := hl
  have hiX1 : ∀ w ∈ wsX10, w ∈ wsX9_begin := fun w h => List.mem_cons_of_mem _ (List.mem_append_left _ (List.mem_append_right _ h))
  have hiX2 : ∀ w ∈ wsX20, w ∈ wsX9_begin := fun w h => List.mem_cons_of_mem _ (List.mem_append_left _ (List.mem_append_left _ (List.mem_append_right _ h)))
  have hiX6 : ∀ w ∈ wsX60, w ∈ wsX9_begin := fun w h => List.mem_cons_of_mem _ (List.mem_append_right _ h)
  have hiX9 : ∀ w ∈ wsX90, w ∈ wsX9_begin := fun w h => List.mem_cons_of_mem _ (List.mem_append_left _ (List.mem_append_left _ (List.mem_append_left _ (List.mem_append_right _ h))))
  unfold m_X9_begin at hm
  refine lv_iload_n hx hb dX9_begin_0 rfl (lv_at hl 1 rfl) ?_
  obtain ⟨v1, h_v1, hm⟩ := lt1_inv hm
  refine cSs ⟨hx, hb, hml, hown, hts⟩ (c_X9_isSide l D cI cJ cS cB a  x1 v1 h_v1) (va_cwS 1 hts gX9_begin_X9_isSide rfl rfl rfl hd_X9_isSide ⟨(Nat.le_of_ble_eq_true rfl), (Nat.le_of_ble_eq_true rfl)⟩) hK hP hD hS hA [] rfl rfl rfl hl.1 (Nat.le_of_ble_eq_true rfl) ⟨Nat.zero_le _, Nat.zero_le _⟩ rfl dX9_begin_1 (fun H locs hP hD hS => ?_)
  refine lv_if_eq (tgt := 14) hx hb dX9_begin_4 (by decide) (fun c4 => ?_) (fun c4 => ?_)
  · have hm := ip c4 hm
    refine lv_iconst (v := (-1)) hx hb dX9_begin_14 (by decide) ?_
    cases hm
    exact rI () hx hb hr hlk hP hD hS dX9_begin_15
  · have hm := ine c4 hm
    refine lv_iload_n hx hb dX9_begin_7 rfl (lv_at hl 2 rfl) ?_
    obtain ⟨v2, h_v2, hm⟩ := lt1_inv hm
    refine cSs ⟨hx, hb, hml, hown, hts⟩ (c_X9_isSide l D cI cJ cS cB a  x2 v2 h_v2) (va_cwS 1 hts gX9_begin_X9_isSide rfl rfl rfl hd_X9_isSide ⟨(Nat.le_of_ble_eq_true rfl), (Nat.le_of_ble_eq_true rfl)⟩) hK hP hD hS hA [] rfl rfl rfl hl.1 (Nat.le_of_ble_eq_true rfl) ⟨Nat.zero_le _, Nat.zero_le _⟩ rfl dX9_begin_8 (fun H locs hP hD hS => ?_)
    refine lv_if_ne (tgt := 16) hx hb dX9_begin_11 (by decide) (fun c11 => ?_) (fun c11 => ?_)
    · have hm := ine c11 hm
      refine lv_aload_n hx hb dX9_begin_16 rfl (lv_at hl 0 rfl) ?_
      refine va_get (D := D) (ci := 9) (v := .ref (a 5)) (C := RX9) (T := TX9) (N := 9) hx hb hts hiX9 hown hK.1 hP 0 rfl rfl 1 (by decide) (hts (.fieldLink RX9 19 "IslandBridges" "layout" "LIslandBridges$Layout;") (List.mem_of_getElem? (i := 1) rfl)) (fun _ h9 => h9) rfl dX9_begin_17 ?_
      refine va_get (D := D) (ci := 2) (v := .int Y_islands) (C := RX2) (T := TX2) (N := 11) hx hb hts hiX2 hown hK.1 hP 5 rfl rfl 9 (by decide) (hts (.fieldLink RX9 84 "IslandBridges$Layout" "islands" "I") (List.mem_of_getElem? (i := 2) rfl)) (fun _ h9 => h9) rfl dX9_begin_20 ?_
      refine lv_istore_n (lv' := [(3, .int Y_islands), (0, .ref (a 0)), (1, .int x1), (2, .int x2)]) hx hb dX9_begin_23 rfl hl (by decide) rfl (fun ls hl => ?_)
      refine lv_aload_n hx hb dX9_begin_24 rfl (lv_at hl 1 rfl) ?_
      refine va_get (D := D) (ci := 9) (v := .ref (a 31)) (C := RX9) (T := TX9) (N := 9) hx hb hts hiX9 hown hK.1 hP 0 rfl rfl 7 (by decide) (hts (.fieldLink RX9 69 "IslandBridges" "history" "LIslandBridges$History;") (List.mem_of_getElem? (i := 3) rfl)) (fun _ h9 => h9) rfl dX9_begin_25 ?_
      refine lv_aload_n hx hb dX9_begin_28 rfl (lv_at hl 1 rfl) ?_
      refine va_get (D := D) (ci := 9) (v := .ref (a 1)) (C := RX9) (T := TX9) (N := 9) hx hb hts hiX9 hown hK.1 hP 0 rfl rfl 0 (by decide) (hts (.fieldLink RX9 10 "IslandBridges" "state" "LIslandBridges$State;") (List.mem_of_getElem? (i := 4) rfl)) (fun _ h9 => h9) rfl dX9_begin_29 ?_
      obtain ⟨v3, v4, v5, v6, v7, v8, v9, v10, v11, h_v3, hm⟩ := bd9_inv hm
      refine cVx ⟨hx, hb, hml, hown, hts⟩ (c_X1_record l D cI cJ cS cB a S_columns S_rows S_grade S_stepsMade S_numbers S_bridges S_caps H_size Hb HN HB HC Hc Hr Hg Hs v3 v4 v5 v6 v7 v8 v9 v10 v11 h_v3) (cwV 1 hts gX9_begin_X1_record rfl rfl rfl hd_X1_record ⟨(Nat.le_of_ble_eq_true rfl), (Nat.le_of_ble_eq_true rfl)⟩) hK hP hD hS hA [1, 2, 3, 4, 15, 16, 17, 18, 19, 20, 21, 22, 23, 24, 25, 26, 27, 28, 29, 30, 31, 32] rfl rfl [o_X a , o_S a S_columns S_rows S_grade S_stepsMade, ai (a 2) cI 144 S_numbers, ai (a 3) cI 48 S_bridges, ai (a 4) cI 48 S_caps, o_Y a Y_islands Y_ways, ai (a 6) cI 24 Y_cellOf, ai (a 7) cI 144 Y_islandAfter, ai (a 8) cI 48 Y_firstOf, ai (a 9) cI 48 Y_secondOf, ai (a 10) cI 48 Y_firstCellOf, ai (a 11) cI 48 Y_secondCellOf, ai (a 12) cI 48 Y_strideOf, ai (a 13) cI 24 Y_waysOf, aj (a 14) cJ 48 Y_crossings, o_H a v3, aq (a 32) cS 4 (hq v4), o_h (v4 0) (v4 1) (v4 2) (v4 3) (v8 0) (v9 0) (v10 0) (v11 0), ai (v4 1) cI 144 (v5 0), ai (v4 2) cI 48 (v6 0), ai (v4 3) cI 48 (v7 0), o_h (v4 4) (v4 5) (v4 6) (v4 7) (v8 1) (v9 1) (v10 1) (v11 1), ai (v4 5) cI 144 (v5 1), ai (v4 6) cI 48 (v6 1), ai (v4 7) cI 48 (v7 1), o_h (v4 8) (v4 9) (v4 10) (v4 11) (v8 2) (v9 2) (v10 2) (v11 2), ai (v4 9) cI 144 (v5 2), ai (v4 10) cI 48 (v6 2), ai (v4 11) cI 48 (v7 2), o_h (v4 12) (v4 13) (v4 14) (v4 15) (v8 3) (v9 3) (v10 3) (v11 3), ai (v4 13) cI 144 (v5 3), ai (v4 14) cI 48 (v6 3), ai (v4 15) cI 48 (v7 3)] [(false, 0), (true, 0), (true, 1), (true, 2), (true, 3), (false, 5), (false, 6), (false, 7), (false, 8), (false, 9), (false, 10), (false, 11), (false, 12), (false, 13), (false, 14), (true, 4), (true, 5), (true, 6), (true, 7), (true, 8), (true, 9), (true, 10), (true, 11), (true, 12), (true, 13), (true, 14), (true, 15), (true, 16), (true, 17), (true, 18), (true, 19), (true, 20), (true, 21)] rfl rfl rfl hl.1 (Nat.le_of_ble_eq_true rfl) ⟨Nat.zero_le _, Nat.zero_le _⟩ 15 rfl rfl rfl rfl dX9_begin_32 (fun H locs hP hD hS => ?_)
      refine lv_aload_n hx hb dX9_begin_35 rfl (lv_at hl 1 rfl) ?_
      refine va_get (D := D) (ci := 9) (v := .ref (a 1)) (C := RX9) (T := TX9) (N := 9) hx hb hts hiX9 hown hK.1 hP 0 rfl rfl 0 (by decide) (hts (.fieldLink RX9 10 "IslandBridges" "state" "LIslandBridges$State;") (List.mem_of_getElem? (i := 4) rfl)) (fun _ h9 => h9) rfl dX9_begin_36 ?_
      refine lv_iload_n hx hb dX9_begin_39 rfl (lv_at hl 2 rfl) ?_
      refine lv_iload_n hx hb dX9_begin_40 rfl (lv_at hl 3 rfl) ?_
      obtain ⟨v12, v13, v14, v15, v16, v17, v18, h_v12, hm⟩ := bd7_inv hm
      refine cVx ⟨hx, hb, hml, hown, hts⟩ (c_X6_empty l D cI cJ cS cB a S_columns S_rows S_grade S_stepsMade S_numbers S_bridges S_caps x1 x2 N v12 v13 v14 v15 v16 v17 v18 h_v12) (cwV 2 hts gX9_begin_X6_empty rfl rfl rfl hd_X6_empty ⟨(Nat.le_of_ble_eq_true rfl), (Nat.le_of_ble_eq_true rfl)⟩) hK hP hD hS hA [1, 2, 3, 4] rfl rfl [o_X a , o_S a v12 v13 v14 v15, ai (a 2) cI 144 v16, ai (a 3) cI 48 v17, ai (a 4) cI 48 v18, o_Y a Y_islands Y_ways, ai (a 6) cI 24 Y_cellOf, ai (a 7) cI 144 Y_islandAfter, ai (a 8) cI 48 Y_firstOf, ai (a 9) cI 48 Y_secondOf, ai (a 10) cI 48 Y_firstCellOf, ai (a 11) cI 48 Y_secondCellOf, ai (a 12) cI 48 Y_strideOf, ai (a 13) cI 24 Y_waysOf, aj (a 14) cJ 48 Y_crossings, o_H a v3, aq (a 32) cS 4 (hq v4), o_h (v4 0) (v4 1) (v4 2) (v4 3) (v8 0) (v9 0) (v10 0) (v11 0), ai (v4 1) cI 144 (v5 0), ai (v4 2) cI 48 (v6 0), ai (v4 3) cI 48 (v7 0), o_h (v4 4) (v4 5) (v4 6) (v4 7) (v8 1) (v9 1) (v10 1) (v11 1), ai (v4 5) cI 144 (v5 1), ai (v4 6) cI 48 (v6 1), ai (v4 7) cI 48 (v7 1), o_h (v4 8) (v4 9) (v4 10) (v4 11) (v8 2) (v9 2) (v10 2) (v11 2), ai (v4 9) cI 144 (v5 2), ai (v4 10) cI 48 (v6 2), ai (v4 11) cI 48 (v7 2), o_h (v4 12) (v4 13) (v4 14) (v4 15) (v8 3) (v9 3) (v10 3) (v11 3), ai (v4 13) cI 144 (v5 3), ai (v4 14) cI 48 (v6 3), ai (v4 15) cI 48 (v7 3)] [(false, 0), (true, 0), (true, 1), (true, 2), (true, 3), (false, 5), (false, 6), (false, 7), (false, 8), (false, 9), (false, 10), (false, 11), (false, 12), (false, 13), (false, 14), (false, 15), (false, 16), (false, 17), (false, 18), (false, 19), (false, 20), (false, 21), (false, 22), (false, 23), (false, 24), (false, 25), (false, 26), (false, 27), (false, 28), (false, 29), (false, 30), (false, 31), (false, 32)] rfl rfl rfl hl.1 (Nat.le_of_ble_eq_true rfl) ⟨Nat.zero_le _, Nat.zero_le _⟩ 1 rfl rfl rfl rfl dX9_begin_41 (fun H locs hP hD hS => ?_)
      refine lv_aload_n hx hb dX9_begin_44 rfl (lv_at hl 1 rfl) ?_
      obtain ⟨v19, v20, v21, v22, v23, v24, v25, v26, v27, v28, v29, v30, v31, v32, v33, h_v19, hm⟩ := bd15_inv hm
      refine cVx ⟨hx, hb, hml, hown, hts⟩ (c_X9_renewWays l D cI cJ cS cB a v12 v13 v14 v15 v16 v17 v18 Y_islands Y_ways Y_cellOf Y_islandAfter Y_firstOf Y_secondOf Y_firstCellOf Y_secondCellOf Y_strideOf Y_waysOf Y_crossings N v19 v20 v21 v22 v23 v24 v25 v26 v27 v28 v29 v30 v31 v32 v33 h_v19) (cwV 0 hts gX9_begin_X9_renewWays rfl rfl rfl hd_X9_renewWays ⟨(Nat.le_of_ble_eq_true rfl), (Nat.le_of_ble_eq_true rfl)⟩) hK hP hD hS hA [0, 1, 2, 3, 4, 5, 6, 7, 8, 9, 10, 11, 12, 13, 14] rfl rfl [o_X a , o_S a v12 v13 v19 v20, ai (a 2) cI 144 v16, ai (a 3) cI 48 v21, ai (a 4) cI 48 v22, o_Y a v23 v24, ai (a 6) cI 24 v25, ai (a 7) cI 144 v26, ai (a 8) cI 48 v27, ai (a 9) cI 48 v28, ai (a 10) cI 48 v29, ai (a 11) cI 48 v30, ai (a 12) cI 48 v31, ai (a 13) cI 24 v32, aj (a 14) cJ 48 v33, o_H a v3, aq (a 32) cS 4 (hq v4), o_h (v4 0) (v4 1) (v4 2) (v4 3) (v8 0) (v9 0) (v10 0) (v11 0), ai (v4 1) cI 144 (v5 0), ai (v4 2) cI 48 (v6 0), ai (v4 3) cI 48 (v7 0), o_h (v4 4) (v4 5) (v4 6) (v4 7) (v8 1) (v9 1) (v10 1) (v11 1), ai (v4 5) cI 144 (v5 1), ai (v4 6) cI 48 (v6 1), ai (v4 7) cI 48 (v7 1), o_h (v4 8) (v4 9) (v4 10) (v4 11) (v8 2) (v9 2) (v10 2) (v11 2), ai (v4 9) cI 144 (v5 2), ai (v4 10) cI 48 (v6 2), ai (v4 11) cI 48 (v7 2), o_h (v4 12) (v4 13) (v4 14) (v4 15) (v8 3) (v9 3) (v10 3) (v11 3), ai (v4 13) cI 144 (v5 3), ai (v4 14) cI 48 (v6 3), ai (v4 15) cI 48 (v7 3)] [(true, 0), (true, 1), (true, 2), (true, 3), (true, 4), (true, 5), (true, 6), (true, 7), (true, 8), (true, 9), (true, 10), (true, 11), (true, 12), (true, 13), (true, 14), (false, 15), (false, 16), (false, 17), (false, 18), (false, 19), (false, 20), (false, 21), (false, 22), (false, 23), (false, 24), (false, 25), (false, 26), (false, 27), (false, 28), (false, 29), (false, 30), (false, 31), (false, 32)] rfl rfl rfl hl.1 (Nat.le_of_ble_eq_true rfl) ⟨Nat.zero_le _, Nat.zero_le _⟩ 0 rfl rfl rfl rfl dX9_begin_45 (fun H locs hP hD hS => ?_)
      refine lv_iload_n hx hb dX9_begin_48 rfl (lv_at hl 0 rfl) ?_
      cases hm
      exact rI () hx hb hr hlk hP hD hS dX9_begin_49
    · have hm := ip c11 hm
      refine lv_iconst (v := (-1)) hx hb dX9_begin_14 (by decide) ?_
      cases hm
      exact rI () hx hb hr hlk hP hD hS dX9_begin_15
theorem hd_X9_isCell : yX9_isCell.cls = RX9 ∧ yX9_isCell.cls ≠ "java/lang/invoke/MethodHandle" ∧ yX9_isCell.cls ≠ "java/lang/invoke/VarHandle" ∧ (parseMethodDescriptor yX9_isCell.desc).map (fun d => d.parameters.length) = some 1 := by decide +kernel
def m_X9_isCell (S_columns : Int32) (S_rows : Int32) (x1 : Int32) : Int32 :=
  if x1 < 0 then (0) else (lt1 (m_X6_cells S_columns S_rows) (fun v1 => if v1 ≤ x1 then (0) else (1)))
set_option maxHeartbeats 4000000 in
set_option maxRecDepth 100000 in
theorem c_X9_isCell (l : Launch) (D : va_G) (cI cJ cS cB : ClassId) (a : Nat → Nat) (S_columns : Int32) (S_rows : Int32) (S_grade : Int32) (S_stepsMade : Int32) (x1 : Int32) (r0 : Int32) (hm : m_X9_isCell S_columns S_rows x1 = r0) :
    mU l D (TYs cI cJ cS cB) yX9_isCell wsX9_isCell { frames := 1, cells := 0, slots := 0, locals := 20 } [.ref (a 0), .int x1] [o_X a , o_S a S_columns S_rows S_grade S_stepsMade] [o_X a , o_S a S_columns S_rows S_grade S_stepsMade] (some (.int r0)) := by
  refine mG_of (cc := cX9_isCell) (maxL := 2) (ret := (some .boolean)) (by decide) rfl rfl (Nat.le_of_ble_eq_true rfl) ?_
  intro p e s m args below meth c A hx hb hr hml hlk hnm hts hown hK hP hD hA hS ls hl
  have hl : lv_has ls 2 [(0, .ref (a 0)), (1, .int x1)] := hl
  have hiX6 : ∀ w ∈ wsX60, w ∈ wsX9_isCell := fun w h => List.mem_cons_of_mem _ (List.mem_append_right _ h)
  have hiX9 : ∀ w ∈ wsX90, w ∈ wsX9_isCell := fun w h => List.mem_cons_of_mem _ (List.mem_append_left _ (List.mem_append_right _ h))
  unfold m_X9_isCell at hm
  refine lv_iload_n hx hb dX9_isCell_0 rfl (lv_at hl 1 rfl) ?_
  refine lv_if_lt (tgt := 19) hx hb dX9_isCell_1 (by decide) (fun c1 => ?_) (fun c1 => ?_)
  · have hm := ip c1 hm
    refine lv_iconst (v := 0) hx hb dX9_isCell_19 (by decide) ?_
    cases hm
    exact rZ () hx hb hr hlk (by decide) hP hD hS dX9_isCell_20
  · have hm := ine c1 hm
    refine lv_iload_n hx hb dX9_isCell_4 rfl (lv_at hl 1 rfl) ?_
    refine lv_aload_n hx hb dX9_isCell_5 rfl (lv_at hl 0 rfl) ?_
    refine va_get (D := D) (ci := 9) (v := .ref (a 1)) (C := RX9) (T := TX9) (N := 9) hx hb hts hiX9 hown hK.1 hP 0 rfl rfl 0 (by decide) (hts (.fieldLink RX9 10 "IslandBridges" "state" "LIslandBridges$State;") (List.mem_of_getElem? (i := 1) rfl)) (fun _ h9 => h9) rfl dX9_isCell_6 ?_
    obtain ⟨v1, h_v1, hm⟩ := lt1_inv hm
    refine cVs ⟨hx, hb, hml, hown, hts⟩ (c_X6_cells l D cI cJ cS cB a S_columns S_rows S_grade S_stepsMade v1 h_v1) (cwV 0 hts gX9_isCell_X6_cells rfl rfl rfl hd_X6_cells ⟨(Nat.le_of_ble_eq_true rfl), (Nat.le_of_ble_eq_true rfl)⟩) hK hP hD hS hA [1] rfl rfl rfl hl.1 (Nat.le_of_ble_eq_true rfl) ⟨Nat.zero_le _, Nat.zero_le _⟩ 1 rfl rfl rfl rfl dX9_isCell_9 (fun H locs hP hD hS => ?_)
    refine lv_icmp_ge (tgt := 19) hx hb dX9_isCell_12 (by decide) (fun c12 => ?_) (fun c12 => ?_)
    · have hm := ip c12 hm
      refine lv_iconst (v := 0) hx hb dX9_isCell_19 (by decide) ?_
      cases hm
      exact rZ () hx hb hr hlk (by decide) hP hD hS dX9_isCell_20
    · have hm := ine c12 hm
      refine lv_iconst (v := 1) hx hb dX9_isCell_15 (by decide) ?_
      refine lv_goto (tgt := 20) hx hb dX9_isCell_16 (by decide) ?_
      cases hm
      exact rZ () hx hb hr hlk (by decide) hP hD hS dX9_isCell_20
theorem hd_X9_island : yX9_island.cls = RX9 ∧ yX9_island.cls ≠ "java/lang/invoke/MethodHandle" ∧ yX9_island.cls ≠ "java/lang/invoke/VarHandle" ∧ (parseMethodDescriptor yX9_island.desc).map (fun d => d.parameters.length) = some 2 := by decide +kernel
def m_X9_island_j50 (N : Nat) (S_columns : Int32) (S_rows : Int32) (x1 : Int32) (x2 : Int32) (y3 : Int32) (y4 : Int32) (y5 : Nat → Int32) (y6 : Nat → Int32) (y7 : Nat → Int32) (y10 : Nat → Int32) (y11 : Nat → Int32) (y12 : Nat → Int32) (y13 : Nat → Int32) (y14 : Nat → Int32) (y15 : Nat → Int32) (y16 : Nat → Int32) (y17 : Nat → Int32) (y18 : Nat → Int64) (y19 : Int32) (y20 : Nat → Nat) (y21 : Nat → Nat → Int32) (y22 : Nat → Nat → Int32) (y23 : Nat → Nat → Int32) (y24 : Nat → Int32) (y25 : Nat → Int32) (y26 : Nat → Int32) (y27 : Nat → Int32) : Option (Int32 × Int32 × Int32 × (Nat → Int32) × (Nat → Int32) × (Nat → Int32) × Int32 × Int32 × (Nat → Int32) × (Nat → Int32) × (Nat → Int32) × (Nat → Int32) × (Nat → Int32) × (Nat → Int32) × (Nat → Int32) × (Nat → Int32) × (Nat → Int64) × Int32 × (Nat → Nat) × (Nat → Nat → Int32) × (Nat → Nat → Int32) × (Nat → Nat → Int32) × (Nat → Int32) × (Nat → Int32) × (Nat → Int32) × (Nat → Int32)) :=
  bd9 (m_X1_record S_columns S_rows y3 y4 y5 y6 y7 y19 y20 y21 y22 y23 y24 y25 y26 y27) (fun v28 v29 v30 v31 v32 v33 v34 v35 v36 => lt1 (vPut 144 y5 x1 x2) (fun v37 => bd15 (m_X9_renewWays N S_columns S_rows v37 y6 y7 y10 y11 y12 y13 y14 y15 y16 y17 y18) (fun v38 v39 v40 v41 v42 v43 v44 v45 v46 v47 v48 v49 v50 v51 v52 => some ((v43, v38, v39, v37, v40, v41, v42, v43, v44, v45, v46, v47, v48, v49, v50, v51, v52, v28, v29, v30, v31, v32, v33, v34, v35, v36)))))
def m_X9_island (N : Nat) (S_columns : Int32) (S_rows : Int32) (S_grade : Int32) (S_stepsMade : Int32) (S_numbers : Nat → Int32) (S_bridges : Nat → Int32) (S_caps : Nat → Int32) (Y_islands : Int32) (Y_ways : Int32) (Y_cellOf : Nat → Int32) (Y_islandAfter : Nat → Int32) (Y_firstOf : Nat → Int32) (Y_secondOf : Nat → Int32) (Y_firstCellOf : Nat → Int32) (Y_secondCellOf : Nat → Int32) (Y_strideOf : Nat → Int32) (Y_waysOf : Nat → Int32) (Y_crossings : Nat → Int64) (H_size : Int32) (Hb : Nat → Nat) (HN : Nat → Nat → Int32) (HB : Nat → Nat → Int32) (HC : Nat → Nat → Int32) (Hc : Nat → Int32) (Hr : Nat → Int32) (Hg : Nat → Int32) (Hs : Nat → Int32) (x1 : Int32) (x2 : Int32) : Option (Int32 × Int32 × Int32 × (Nat → Int32) × (Nat → Int32) × (Nat → Int32) × Int32 × Int32 × (Nat → Int32) × (Nat → Int32) × (Nat → Int32) × (Nat → Int32) × (Nat → Int32) × (Nat → Int32) × (Nat → Int32) × (Nat → Int32) × (Nat → Int64) × Int32 × (Nat → Nat) × (Nat → Nat → Int32) × (Nat → Nat → Int32) × (Nat → Nat → Int32) × (Nat → Int32) × (Nat → Int32) × (Nat → Int32) × (Nat → Int32)) :=
  lt1 (m_X9_isCell S_columns S_rows x1) (fun v1 => if v1 = 0 then (some (((-1), S_grade, S_stepsMade, S_numbers, S_bridges, S_caps, Y_islands, Y_ways, Y_cellOf, Y_islandAfter, Y_firstOf, Y_secondOf, Y_firstCellOf, Y_secondCellOf, Y_strideOf, Y_waysOf, Y_crossings, H_size, Hb, HN, HB, HC, Hc, Hr, Hg, Hs))) else (if x2 < 1 then (some (((-1), S_grade, S_stepsMade, S_numbers, S_bridges, S_caps, Y_islands, Y_ways, Y_cellOf, Y_islandAfter, Y_firstOf, Y_secondOf, Y_firstCellOf, Y_secondCellOf, Y_strideOf, Y_waysOf, Y_crossings, H_size, Hb, HN, HB, HC, Hc, Hr, Hg, Hs))) else (if x2 ≤ 8 then (lt1 (vAt 144 S_numbers x1) (fun v2 => if v2 = 0 then (if Y_islands < 24 then (m_X9_island_j50 N S_columns S_rows x1 x2 S_grade S_stepsMade S_numbers S_bridges S_caps Y_cellOf Y_islandAfter Y_firstOf Y_secondOf Y_firstCellOf Y_secondCellOf Y_strideOf Y_waysOf Y_crossings H_size Hb HN HB HC Hc Hr Hg Hs) else (some (((-3), S_grade, S_stepsMade, S_numbers, S_bridges, S_caps, Y_islands, Y_ways, Y_cellOf, Y_islandAfter, Y_firstOf, Y_secondOf, Y_firstCellOf, Y_secondCellOf, Y_strideOf, Y_waysOf, Y_crossings, H_size, Hb, HN, HB, HC, Hc, Hr, Hg, Hs)))) else (m_X9_island_j50 N S_columns S_rows x1 x2 S_grade S_stepsMade S_numbers S_bridges S_caps Y_cellOf Y_islandAfter Y_firstOf Y_secondOf Y_firstCellOf Y_secondCellOf Y_strideOf Y_waysOf Y_crossings H_size Hb HN HB HC Hc Hr Hg Hs))) else (some (((-1), S_grade, S_stepsMade, S_numbers, S_bridges, S_caps, Y_islands, Y_ways, Y_cellOf, Y_islandAfter, Y_firstOf, Y_secondOf, Y_firstCellOf, Y_secondCellOf, Y_strideOf, Y_waysOf, Y_crossings, H_size, Hb, HN, HB, HC, Hc, Hr, Hg, Hs))))))
set_option maxHeartbeats 4000000 in
set_option maxRecDepth 100000 in
theorem c_X9_island (l : Launch) (D : va_G) (cI cJ cS cB : ClassId) (a : Nat → Nat) (S_columns : Int32) (S_rows : Int32) (S_grade : Int32) (S_stepsMade : Int32) (S_numbers : Nat → Int32) (S_bridges : Nat → Int32) (S_caps : Nat → Int32) (Y_islands : Int32) (Y_ways : Int32) (Y_cellOf : Nat → Int32) (Y_islandAfter : Nat → Int32) (Y_firstOf : Nat → Int32) (Y_secondOf : Nat → Int32) (Y_firstCellOf : Nat → Int32) (Y_secondCellOf : Nat → Int32) (Y_strideOf : Nat → Int32) (Y_waysOf : Nat → Int32) (Y_crossings : Nat → Int64) (H_size : Int32) (Hb : Nat → Nat) (HN : Nat → Nat → Int32) (HB : Nat → Nat → Int32) (HC : Nat → Nat → Int32) (Hc : Nat → Int32) (Hr : Nat → Int32) (Hg : Nat → Int32) (Hs : Nat → Int32) (x1 : Int32) (x2 : Int32) (N : Nat) (r0 : Int32) (S_grade' : Int32) (S_stepsMade' : Int32) (S_numbers' : Nat → Int32) (S_bridges' : Nat → Int32) (S_caps' : Nat → Int32) (Y_islands' : Int32) (Y_ways' : Int32) (Y_cellOf' : Nat → Int32) (Y_islandAfter' : Nat → Int32) (Y_firstOf' : Nat → Int32) (Y_secondOf' : Nat → Int32) (Y_firstCellOf' : Nat → Int32) (Y_secondCellOf' : Nat → Int32) (Y_strideOf' : Nat → Int32) (Y_waysOf' : Nat → Int32) (Y_crossings' : Nat → Int64) (H_size' : Int32) (Hb' : Nat → Nat) (HN' : Nat → Nat → Int32) (HB' : Nat → Nat → Int32) (HC' : Nat → Nat → Int32) (Hc' : Nat → Int32) (Hr' : Nat → Int32) (Hg' : Nat → Int32) (Hs' : Nat → Int32) (hm : m_X9_island N S_columns S_rows S_grade S_stepsMade S_numbers S_bridges S_caps Y_islands Y_ways Y_cellOf Y_islandAfter Y_firstOf Y_secondOf Y_firstCellOf Y_secondCellOf Y_strideOf Y_waysOf Y_crossings H_size Hb HN HB HC Hc Hr Hg Hs x1 x2 = some (r0, S_grade', S_stepsMade', S_numbers', S_bridges', S_caps', Y_islands', Y_ways', Y_cellOf', Y_islandAfter', Y_firstOf', Y_secondOf', Y_firstCellOf', Y_secondCellOf', Y_strideOf', Y_waysOf', Y_crossings', H_size', Hb', HN', HB', HC', Hc', Hr', Hg', Hs')) :
    mU l D (TYs cI cJ cS cB) yX9_island wsX9_island { frames := 6, cells := 0, slots := 0, locals := 138 } [.ref (a 0), .int x1, .int x2] [o_X a , o_S a S_columns S_rows S_grade S_stepsMade, ai (a 2) cI 144 S_numbers, ai (a 3) cI 48 S_bridges, ai (a 4) cI 48 S_caps, o_Y a Y_islands Y_ways, ai (a 6) cI 24 Y_cellOf, ai (a 7) cI 144 Y_islandAfter, ai (a 8) cI 48 Y_firstOf, ai (a 9) cI 48 Y_secondOf, ai (a 10) cI 48 Y_firstCellOf, ai (a 11) cI 48 Y_secondCellOf, ai (a 12) cI 48 Y_strideOf, ai (a 13) cI 24 Y_waysOf, aj (a 14) cJ 48 Y_crossings, o_H a H_size, aq (a 32) cS 4 (hq Hb), o_h (Hb 0) (Hb 1) (Hb 2) (Hb 3) (Hc 0) (Hr 0) (Hg 0) (Hs 0), ai (Hb 1) cI 144 (HN 0), ai (Hb 2) cI 48 (HB 0), ai (Hb 3) cI 48 (HC 0), o_h (Hb 4) (Hb 5) (Hb 6) (Hb 7) (Hc 1) (Hr 1) (Hg 1) (Hs 1), ai (Hb 5) cI 144 (HN 1), ai (Hb 6) cI 48 (HB 1), ai (Hb 7) cI 48 (HC 1), o_h (Hb 8) (Hb 9) (Hb 10) (Hb 11) (Hc 2) (Hr 2) (Hg 2) (Hs 2), ai (Hb 9) cI 144 (HN 2), ai (Hb 10) cI 48 (HB 2), ai (Hb 11) cI 48 (HC 2), o_h (Hb 12) (Hb 13) (Hb 14) (Hb 15) (Hc 3) (Hr 3) (Hg 3) (Hs 3), ai (Hb 13) cI 144 (HN 3), ai (Hb 14) cI 48 (HB 3), ai (Hb 15) cI 48 (HC 3)] [o_X a , o_S a S_columns S_rows S_grade' S_stepsMade', ai (a 2) cI 144 S_numbers', ai (a 3) cI 48 S_bridges', ai (a 4) cI 48 S_caps', o_Y a Y_islands' Y_ways', ai (a 6) cI 24 Y_cellOf', ai (a 7) cI 144 Y_islandAfter', ai (a 8) cI 48 Y_firstOf', ai (a 9) cI 48 Y_secondOf', ai (a 10) cI 48 Y_firstCellOf', ai (a 11) cI 48 Y_secondCellOf', ai (a 12) cI 48 Y_strideOf', ai (a 13) cI 24 Y_waysOf', aj (a 14) cJ 48 Y_crossings', o_H a H_size', aq (a 32) cS 4 (hq Hb'), o_h (Hb' 0) (Hb' 1) (Hb' 2) (Hb' 3) (Hc' 0) (Hr' 0) (Hg' 0) (Hs' 0), ai (Hb' 1) cI 144 (HN' 0), ai (Hb' 2) cI 48 (HB' 0), ai (Hb' 3) cI 48 (HC' 0), o_h (Hb' 4) (Hb' 5) (Hb' 6) (Hb' 7) (Hc' 1) (Hr' 1) (Hg' 1) (Hs' 1), ai (Hb' 5) cI 144 (HN' 1), ai (Hb' 6) cI 48 (HB' 1), ai (Hb' 7) cI 48 (HC' 1), o_h (Hb' 8) (Hb' 9) (Hb' 10) (Hb' 11) (Hc' 2) (Hr' 2) (Hg' 2) (Hs' 2), ai (Hb' 9) cI 144 (HN' 2), ai (Hb' 10) cI 48 (HB' 2), ai (Hb' 11) cI 48 (HC' 2), o_h (Hb' 12) (Hb' 13) (Hb' 14) (Hb' 15) (Hc' 3) (Hr' 3) (Hg' 3) (Hs' 3), ai (Hb' 13) cI 144 (HN' 3), ai (Hb' 14) cI 48 (HB' 3), ai (Hb' 15) cI 48 (HC' 3)] (some (.int r0)) := by
  refine mG_of (cc := cX9_island) (maxL := 3) (ret := (some .int)) (by decide) rfl rfl (Nat.le_of_ble_eq_true rfl) ?_
  intro p e s m args below meth c A hx hb hr hml hlk hnm hts hown hK hP hD hA hS ls hl
  have hl : lv_has ls 3 [(0, .ref (a 0)), (1, .int x1), (2, .int x2)] := hl
  have hiX1 : ∀ w ∈ wsX10, w ∈ wsX9_island := fun w h => List.mem_cons_of_mem _ (List.mem_append_right _ h)
  have hiX2 : ∀ w ∈ wsX20, w ∈ wsX9_island := fun w h => List.mem_cons_of_mem _ (List.mem_append_left _ (List.mem_append_right _ h))
  have hiX6 : ∀ w ∈ wsX60, w ∈ wsX9_island := fun w h => List.mem_cons_of_mem _ (List.mem_append_left _ (List.mem_append_left _ (List.mem_append_right _ h)))
  have hiX9 : ∀ w ∈ wsX90, w ∈ wsX9_island := fun w h => List.mem_cons_of_mem _ (List.mem_append_left _ (List.mem_append_left _ (List.mem_append_left _ (List.mem_append_right _ h))))
  unfold m_X9_island at hm
  have h50 : ∀ (y3 : Int32) (y4 : Int32) (y5 : Nat → Int32) (y6 : Nat → Int32) (y7 : Nat → Int32) (y8 : Int32) (y9 : Int32) (y10 : Nat → Int32) (y11 : Nat → Int32) (y12 : Nat → Int32) (y13 : Nat → Int32) (y14 : Nat → Int32) (y15 : Nat → Int32) (y16 : Nat → Int32) (y17 : Nat → Int32) (y18 : Nat → Int64) (y19 : Int32) (y20 : Nat → Nat) (y21 : Nat → Nat → Int32) (y22 : Nat → Nat → Int32) (y23 : Nat → Nat → Int32) (y24 : Nat → Int32) (y25 : Nat → Int32) (y26 : Nat → Int32) (y27 : Nat → Int32), m_X9_island_j50 N S_columns S_rows x1 x2 y3 y4 y5 y6 y7 y10 y11 y12 y13 y14 y15 y16 y17 y18 y19 y20 y21 y22 y23 y24 y25 y26 y27 = some (r0, S_grade', S_stepsMade', S_numbers', S_bridges', S_caps', Y_islands', Y_ways', Y_cellOf', Y_islandAfter', Y_firstOf', Y_secondOf', Y_firstCellOf', Y_secondCellOf', Y_strideOf', Y_waysOf', Y_crossings', H_size', Hb', HN', HB', HC', Hc', Hr', Hg', Hs') → ∀ (H : Heap) (locs : List Loc), va_P D vwCl [o_X a , o_S a S_columns S_rows y3 y4, ai (a 2) cI 144 y5, ai (a 3) cI 48 y6, ai (a 4) cI 48 y7, o_Y a y8 y9, ai (a 6) cI 24 y10, ai (a 7) cI 144 y11, ai (a 8) cI 48 y12, ai (a 9) cI 48 y13, ai (a 10) cI 48 y14, ai (a 11) cI 48 y15, ai (a 12) cI 48 y16, ai (a 13) cI 24 y17, aj (a 14) cJ 48 y18, o_H a y19, aq (a 32) cS 4 (hq y20), o_h (y20 0) (y20 1) (y20 2) (y20 3) (y24 0) (y25 0) (y26 0) (y27 0), ai (y20 1) cI 144 (y21 0), ai (y20 2) cI 48 (y22 0), ai (y20 3) cI 48 (y23 0), o_h (y20 4) (y20 5) (y20 6) (y20 7) (y24 1) (y25 1) (y26 1) (y27 1), ai (y20 5) cI 144 (y21 1), ai (y20 6) cI 48 (y22 1), ai (y20 7) cI 48 (y23 1), o_h (y20 8) (y20 9) (y20 10) (y20 11) (y24 2) (y25 2) (y26 2) (y27 2), ai (y20 9) cI 144 (y21 2), ai (y20 10) cI 48 (y22 2), ai (y20 11) cI 48 (y23 2), o_h (y20 12) (y20 13) (y20 14) (y20 15) (y24 3) (y25 3) (y26 3) (y27 3), ai (y20 13) cI 144 (y21 3), ai (y20 14) cI 48 (y22 3), ai (y20 15) cI 48 (y23 3)] H → va_D A [o_X a , o_S a S_columns S_rows y3 y4, ai (a 2) cI 144 y5, ai (a 3) cI 48 y6, ai (a 4) cI 48 y7, o_Y a y8 y9, ai (a 6) cI 24 y10, ai (a 7) cI 144 y11, ai (a 8) cI 48 y12, ai (a 9) cI 48 y13, ai (a 10) cI 48 y14, ai (a 11) cI 48 y15, ai (a 12) cI 48 y16, ai (a 13) cI 24 y17, aj (a 14) cJ 48 y18, o_H a y19, aq (a 32) cS 4 (hq y20), o_h (y20 0) (y20 1) (y20 2) (y20 3) (y24 0) (y25 0) (y26 0) (y27 0), ai (y20 1) cI 144 (y21 0), ai (y20 2) cI 48 (y22 0), ai (y20 3) cI 48 (y23 0), o_h (y20 4) (y20 5) (y20 6) (y20 7) (y24 1) (y25 1) (y26 1) (y27 1), ai (y20 5) cI 144 (y21 1), ai (y20 6) cI 48 (y22 1), ai (y20 7) cI 48 (y23 1), o_h (y20 8) (y20 9) (y20 10) (y20 11) (y24 2) (y25 2) (y26 2) (y27 2), ai (y20 9) cI 144 (y21 2), ai (y20 10) cI 48 (y22 2), ai (y20 11) cI 48 (y23 2), o_h (y20 12) (y20 13) (y20 14) (y20 15) (y24 3) (y25 3) (y26 3) (y27 3), ai (y20 13) cI 144 (y21 3), ai (y20 14) cI 48 (y22 3), ai (y20 15) cI 48 (y23 3)] → va_S A s.heap H locs → ∀ ls : Array Slot, lv_has ls 3 [(0, .ref (a 0)), (1, .int x1), (2, .int x2)] → W p l e { frames := 6, cells := 0, slots := 0, locals := 138 } s m args below meth c H locs 0 0 (MQ below (eQ D (some (.int r0)) (fun _ : Unit => [o_X a , o_S a S_columns S_rows S_grade' S_stepsMade', ai (a 2) cI 144 S_numbers', ai (a 3) cI 48 S_bridges', ai (a 4) cI 48 S_caps', o_Y a Y_islands' Y_ways', ai (a 6) cI 24 Y_cellOf', ai (a 7) cI 144 Y_islandAfter', ai (a 8) cI 48 Y_firstOf', ai (a 9) cI 48 Y_secondOf', ai (a 10) cI 48 Y_firstCellOf', ai (a 11) cI 48 Y_secondCellOf', ai (a 12) cI 48 Y_strideOf', ai (a 13) cI 24 Y_waysOf', aj (a 14) cJ 48 Y_crossings', o_H a H_size', aq (a 32) cS 4 (hq Hb'), o_h (Hb' 0) (Hb' 1) (Hb' 2) (Hb' 3) (Hc' 0) (Hr' 0) (Hg' 0) (Hs' 0), ai (Hb' 1) cI 144 (HN' 0), ai (Hb' 2) cI 48 (HB' 0), ai (Hb' 3) cI 48 (HC' 0), o_h (Hb' 4) (Hb' 5) (Hb' 6) (Hb' 7) (Hc' 1) (Hr' 1) (Hg' 1) (Hs' 1), ai (Hb' 5) cI 144 (HN' 1), ai (Hb' 6) cI 48 (HB' 1), ai (Hb' 7) cI 48 (HC' 1), o_h (Hb' 8) (Hb' 9) (Hb' 10) (Hb' 11) (Hc' 2) (Hr' 2) (Hg' 2) (Hs' 2), ai (Hb' 9) cI 144 (HN' 2), ai (Hb' 10) cI 48 (HB' 2), ai (Hb' 11) cI 48 (HC' 2), o_h (Hb' 12) (Hb' 13) (Hb' 14) (Hb' 15) (Hc' 3) (Hr' 3) (Hg' 3) (Hs' 3), ai (Hb' 13) cI 144 (HN' 3), ai (Hb' 14) cI 48 (HB' 3), ai (Hb' 15) cI 48 (HC' 3)]) A) args s 0 0 A) (F0 m 50 ls []) := by
    intro y3 y4 y5 y6 y7 y8 y9 y10 y11 y12 y13 y14 y15 y16 y17 y18 y19 y20 y21 y22 y23 y24 y25 y26 y27 hm H locs hP hD hS ls hl
    unfold m_X9_island_j50 at hm
    refine lv_aload_n hx hb dX9_island_50 rfl (lv_at hl 0 rfl) ?_
    refine va_get (D := D) (ci := 9) (v := .ref (a 31)) (C := RX9) (T := TX9) (N := 9) hx hb hts hiX9 hown hK.1 hP 0 rfl rfl 7 (by decide) (hts (.fieldLink RX9 69 "IslandBridges" "history" "LIslandBridges$History;") (List.mem_of_getElem? (i := 5) rfl)) (fun _ h9 => h9) rfl dX9_island_51 ?_
    refine lv_aload_n hx hb dX9_island_54 rfl (lv_at hl 0 rfl) ?_
    refine va_get (D := D) (ci := 9) (v := .ref (a 1)) (C := RX9) (T := TX9) (N := 9) hx hb hts hiX9 hown hK.1 hP 0 rfl rfl 0 (by decide) (hts (.fieldLink RX9 10 "IslandBridges" "state" "LIslandBridges$State;") (List.mem_of_getElem? (i := 1) rfl)) (fun _ h9 => h9) rfl dX9_island_55 ?_
    obtain ⟨v28, v29, v30, v31, v32, v33, v34, v35, v36, h_v28, hm⟩ := bd9_inv hm
    refine cVx ⟨hx, hb, hml, hown, hts⟩ (c_X1_record l D cI cJ cS cB a S_columns S_rows y3 y4 y5 y6 y7 y19 y20 y21 y22 y23 y24 y25 y26 y27 v28 v29 v30 v31 v32 v33 v34 v35 v36 h_v28) (cwV 1 hts gX9_island_X1_record rfl rfl rfl hd_X1_record ⟨(Nat.le_of_ble_eq_true rfl), (Nat.le_of_ble_eq_true rfl)⟩) hK hP hD hS hA [1, 2, 3, 4, 15, 16, 17, 18, 19, 20, 21, 22, 23, 24, 25, 26, 27, 28, 29, 30, 31, 32] rfl rfl [o_X a , o_S a S_columns S_rows y3 y4, ai (a 2) cI 144 y5, ai (a 3) cI 48 y6, ai (a 4) cI 48 y7, o_Y a y8 y9, ai (a 6) cI 24 y10, ai (a 7) cI 144 y11, ai (a 8) cI 48 y12, ai (a 9) cI 48 y13, ai (a 10) cI 48 y14, ai (a 11) cI 48 y15, ai (a 12) cI 48 y16, ai (a 13) cI 24 y17, aj (a 14) cJ 48 y18, o_H a v28, aq (a 32) cS 4 (hq v29), o_h (v29 0) (v29 1) (v29 2) (v29 3) (v33 0) (v34 0) (v35 0) (v36 0), ai (v29 1) cI 144 (v30 0), ai (v29 2) cI 48 (v31 0), ai (v29 3) cI 48 (v32 0), o_h (v29 4) (v29 5) (v29 6) (v29 7) (v33 1) (v34 1) (v35 1) (v36 1), ai (v29 5) cI 144 (v30 1), ai (v29 6) cI 48 (v31 1), ai (v29 7) cI 48 (v32 1), o_h (v29 8) (v29 9) (v29 10) (v29 11) (v33 2) (v34 2) (v35 2) (v36 2), ai (v29 9) cI 144 (v30 2), ai (v29 10) cI 48 (v31 2), ai (v29 11) cI 48 (v32 2), o_h (v29 12) (v29 13) (v29 14) (v29 15) (v33 3) (v34 3) (v35 3) (v36 3), ai (v29 13) cI 144 (v30 3), ai (v29 14) cI 48 (v31 3), ai (v29 15) cI 48 (v32 3)] [(false, 0), (true, 0), (true, 1), (true, 2), (true, 3), (false, 5), (false, 6), (false, 7), (false, 8), (false, 9), (false, 10), (false, 11), (false, 12), (false, 13), (false, 14), (true, 4), (true, 5), (true, 6), (true, 7), (true, 8), (true, 9), (true, 10), (true, 11), (true, 12), (true, 13), (true, 14), (true, 15), (true, 16), (true, 17), (true, 18), (true, 19), (true, 20), (true, 21)] rfl rfl rfl hl.1 (Nat.le_of_ble_eq_true rfl) ⟨Nat.zero_le _, Nat.zero_le _⟩ 15 rfl rfl rfl rfl dX9_island_58 (fun H locs hP hD hS => ?_)
    refine lv_aload_n hx hb dX9_island_61 rfl (lv_at hl 0 rfl) ?_
    refine va_get (D := D) (ci := 9) (v := .ref (a 1)) (C := RX9) (T := TX9) (N := 9) hx hb hts hiX9 hown hK.1 hP 0 rfl rfl 0 (by decide) (hts (.fieldLink RX9 10 "IslandBridges" "state" "LIslandBridges$State;") (List.mem_of_getElem? (i := 1) rfl)) (fun _ h9 => h9) rfl dX9_island_62 ?_
    refine va_get (D := D) (ci := 6) (v := .ref (a 2)) (C := RX6) (T := TX6) (N := 7) hx hb hts hiX6 hown hK.1 hP 1 rfl rfl 0 (by decide) (hts (.fieldLink RX9 102 "IslandBridges$State" "numbers" "[I") (List.mem_of_getElem? (i := 2) rfl)) (fun _ h9 => h9) rfl dX9_island_65 ?_
    refine lv_iload_n hx hb dX9_island_68 rfl (lv_at hl 1 rfl) ?_
    refine lv_iload_n hx hb dX9_island_69 rfl (lv_at hl 2 rfl) ?_
    obtain ⟨v37, ev37, hm⟩ := lt1_inv hm
    refine cSx ⟨hx, hb, hml, hown, hts⟩ (c_X9_put l D cI cJ cS cB (a 2) 144 (Nat.le_of_ble_eq_true rfl) y5 x1 x2 v37 ev37) (va_cwS 3 hts gX9_island_X9_put rfl rfl rfl hd_X9_put ⟨(Nat.le_of_ble_eq_true rfl), (Nat.le_of_ble_eq_true rfl)⟩) hK hP hD hS hA [2] rfl rfl [o_X a , o_S a S_columns S_rows y3 y4, ai (a 2) cI 144 v37, ai (a 3) cI 48 y6, ai (a 4) cI 48 y7, o_Y a y8 y9, ai (a 6) cI 24 y10, ai (a 7) cI 144 y11, ai (a 8) cI 48 y12, ai (a 9) cI 48 y13, ai (a 10) cI 48 y14, ai (a 11) cI 48 y15, ai (a 12) cI 48 y16, ai (a 13) cI 24 y17, aj (a 14) cJ 48 y18, o_H a v28, aq (a 32) cS 4 (hq v29), o_h (v29 0) (v29 1) (v29 2) (v29 3) (v33 0) (v34 0) (v35 0) (v36 0), ai (v29 1) cI 144 (v30 0), ai (v29 2) cI 48 (v31 0), ai (v29 3) cI 48 (v32 0), o_h (v29 4) (v29 5) (v29 6) (v29 7) (v33 1) (v34 1) (v35 1) (v36 1), ai (v29 5) cI 144 (v30 1), ai (v29 6) cI 48 (v31 1), ai (v29 7) cI 48 (v32 1), o_h (v29 8) (v29 9) (v29 10) (v29 11) (v33 2) (v34 2) (v35 2) (v36 2), ai (v29 9) cI 144 (v30 2), ai (v29 10) cI 48 (v31 2), ai (v29 11) cI 48 (v32 2), o_h (v29 12) (v29 13) (v29 14) (v29 15) (v33 3) (v34 3) (v35 3) (v36 3), ai (v29 13) cI 144 (v30 3), ai (v29 14) cI 48 (v31 3), ai (v29 15) cI 48 (v32 3)] [(false, 0), (false, 1), (true, 0), (false, 3), (false, 4), (false, 5), (false, 6), (false, 7), (false, 8), (false, 9), (false, 10), (false, 11), (false, 12), (false, 13), (false, 14), (false, 15), (false, 16), (false, 17), (false, 18), (false, 19), (false, 20), (false, 21), (false, 22), (false, 23), (false, 24), (false, 25), (false, 26), (false, 27), (false, 28), (false, 29), (false, 30), (false, 31), (false, 32)] rfl rfl rfl hl.1 (Nat.le_of_ble_eq_true rfl) ⟨Nat.zero_le _, Nat.zero_le _⟩ rfl dX9_island_70 (fun H locs hP hD hS => ?_)
    refine lv_aload_n hx hb dX9_island_73 rfl (lv_at hl 0 rfl) ?_
    obtain ⟨v38, v39, v40, v41, v42, v43, v44, v45, v46, v47, v48, v49, v50, v51, v52, h_v38, hm⟩ := bd15_inv hm
    refine cVx ⟨hx, hb, hml, hown, hts⟩ (c_X9_renewWays l D cI cJ cS cB a S_columns S_rows y3 y4 v37 y6 y7 y8 y9 y10 y11 y12 y13 y14 y15 y16 y17 y18 N v38 v39 v40 v41 v42 v43 v44 v45 v46 v47 v48 v49 v50 v51 v52 h_v38) (cwV 0 hts gX9_island_X9_renewWays rfl rfl rfl hd_X9_renewWays ⟨(Nat.le_of_ble_eq_true rfl), (Nat.le_of_ble_eq_true rfl)⟩) hK hP hD hS hA [0, 1, 2, 3, 4, 5, 6, 7, 8, 9, 10, 11, 12, 13, 14] rfl rfl [o_X a , o_S a S_columns S_rows v38 v39, ai (a 2) cI 144 v37, ai (a 3) cI 48 v40, ai (a 4) cI 48 v41, o_Y a v42 v43, ai (a 6) cI 24 v44, ai (a 7) cI 144 v45, ai (a 8) cI 48 v46, ai (a 9) cI 48 v47, ai (a 10) cI 48 v48, ai (a 11) cI 48 v49, ai (a 12) cI 48 v50, ai (a 13) cI 24 v51, aj (a 14) cJ 48 v52, o_H a v28, aq (a 32) cS 4 (hq v29), o_h (v29 0) (v29 1) (v29 2) (v29 3) (v33 0) (v34 0) (v35 0) (v36 0), ai (v29 1) cI 144 (v30 0), ai (v29 2) cI 48 (v31 0), ai (v29 3) cI 48 (v32 0), o_h (v29 4) (v29 5) (v29 6) (v29 7) (v33 1) (v34 1) (v35 1) (v36 1), ai (v29 5) cI 144 (v30 1), ai (v29 6) cI 48 (v31 1), ai (v29 7) cI 48 (v32 1), o_h (v29 8) (v29 9) (v29 10) (v29 11) (v33 2) (v34 2) (v35 2) (v36 2), ai (v29 9) cI 144 (v30 2), ai (v29 10) cI 48 (v31 2), ai (v29 11) cI 48 (v32 2), o_h (v29 12) (v29 13) (v29 14) (v29 15) (v33 3) (v34 3) (v35 3) (v36 3), ai (v29 13) cI 144 (v30 3), ai (v29 14) cI 48 (v31 3), ai (v29 15) cI 48 (v32 3)] [(true, 0), (true, 1), (true, 2), (true, 3), (true, 4), (true, 5), (true, 6), (true, 7), (true, 8), (true, 9), (true, 10), (true, 11), (true, 12), (true, 13), (true, 14), (false, 15), (false, 16), (false, 17), (false, 18), (false, 19), (false, 20), (false, 21), (false, 22), (false, 23), (false, 24), (false, 25), (false, 26), (false, 27), (false, 28), (false, 29), (false, 30), (false, 31), (false, 32)] rfl rfl rfl hl.1 (Nat.le_of_ble_eq_true rfl) ⟨Nat.zero_le _, Nat.zero_le _⟩ 0 rfl rfl rfl rfl dX9_island_74 (fun H locs hP hD hS => ?_)
    refine lv_aload_n hx hb dX9_island_77 rfl (lv_at hl 0 rfl) ?_
    refine va_get (D := D) (ci := 9) (v := .ref (a 5)) (C := RX9) (T := TX9) (N := 9) hx hb hts hiX9 hown hK.1 hP 0 rfl rfl 1 (by decide) (hts (.fieldLink RX9 19 "IslandBridges" "layout" "LIslandBridges$Layout;") (List.mem_of_getElem? (i := 3) rfl)) (fun _ h9 => h9) rfl dX9_island_78 ?_
    refine va_get (D := D) (ci := 2) (v := .int v43) (C := RX2) (T := TX2) (N := 11) hx hb hts hiX2 hown hK.1 hP 5 rfl rfl 10 (by decide) (hts (.fieldLink RX9 114 "IslandBridges$Layout" "ways" "I") (List.mem_of_getElem? (i := 6) rfl)) (fun _ h9 => h9) rfl dX9_island_81 ?_
    cases hm
    exact rI () hx hb hr hlk hP hD hS dX9_island_84
  refine lv_aload_n hx hb dX9_island_0 rfl (lv_at hl 0 rfl) ?_
  refine lv_iload_n hx hb dX9_island_1 rfl (lv_at hl 1 rfl) ?_
  obtain ⟨v1, h_v1, hm⟩ := lt1_inv hm
  refine cVs ⟨hx, hb, hml, hown, hts⟩ (c_X9_isCell l D cI cJ cS cB a S_columns S_rows S_grade S_stepsMade x1 v1 h_v1) (cwV 1 hts gX9_island_X9_isCell rfl rfl rfl hd_X9_isCell ⟨(Nat.le_of_ble_eq_true rfl), (Nat.le_of_ble_eq_true rfl)⟩) hK hP hD hS hA [0, 1] rfl rfl rfl hl.1 (Nat.le_of_ble_eq_true rfl) ⟨Nat.zero_le _, Nat.zero_le _⟩ 0 rfl rfl rfl rfl dX9_island_2 (fun H locs hP hD hS => ?_)
  refine lv_if_eq (tgt := 19) hx hb dX9_island_5 (by decide) (fun c5 => ?_) (fun c5 => ?_)
  · have hm := ip c5 hm
    refine lv_iconst (v := (-1)) hx hb dX9_island_19 (by decide) ?_
    cases hm
    exact rI () hx hb hr hlk hP hD hS dX9_island_20
  · have hm := ine c5 hm
    refine lv_iload_n hx hb dX9_island_8 rfl (lv_at hl 2 rfl) ?_
    refine lv_iconst (v := 1) hx hb dX9_island_9 (by decide) ?_
    refine lv_icmp_lt (tgt := 19) hx hb dX9_island_10 (by decide) (fun c10 => ?_) (fun c10 => ?_)
    · have hm := ip c10 hm
      refine lv_iconst (v := (-1)) hx hb dX9_island_19 (by decide) ?_
      cases hm
      exact rI () hx hb hr hlk hP hD hS dX9_island_20
    · have hm := ine c10 hm
      refine lv_iload_n hx hb dX9_island_13 rfl (lv_at hl 2 rfl) ?_
      refine lv_bipush (v := 8) hx hb dX9_island_14 (by decide) ?_
      refine lv_icmp_le (tgt := 21) hx hb dX9_island_16 (by decide) (fun c16 => ?_) (fun c16 => ?_)
      · have hm := ip c16 hm
        refine lv_aload_n hx hb dX9_island_21 rfl (lv_at hl 0 rfl) ?_
        refine va_get (D := D) (ci := 9) (v := .ref (a 1)) (C := RX9) (T := TX9) (N := 9) hx hb hts hiX9 hown hK.1 hP 0 rfl rfl 0 (by decide) (hts (.fieldLink RX9 10 "IslandBridges" "state" "LIslandBridges$State;") (List.mem_of_getElem? (i := 1) rfl)) (fun _ h9 => h9) rfl dX9_island_22 ?_
        refine va_get (D := D) (ci := 6) (v := .ref (a 2)) (C := RX6) (T := TX6) (N := 7) hx hb hts hiX6 hown hK.1 hP 1 rfl rfl 0 (by decide) (hts (.fieldLink RX9 102 "IslandBridges$State" "numbers" "[I") (List.mem_of_getElem? (i := 2) rfl)) (fun _ h9 => h9) rfl dX9_island_25 ?_
        refine lv_iload_n hx hb dX9_island_28 rfl (lv_at hl 1 rfl) ?_
        obtain ⟨v2, ev2, hm⟩ := lt1_inv hm
        refine cSs ⟨hx, hb, hml, hown, hts⟩ (c_X9_valueAt l D cI cJ cS cB (a 2) 144 (Nat.le_of_ble_eq_true rfl) S_numbers x1 v2 ev2) (va_cwS 2 hts gX9_island_X9_valueAt rfl rfl rfl hd_X9_valueAt ⟨(Nat.le_of_ble_eq_true rfl), (Nat.le_of_ble_eq_true rfl)⟩) hK hP hD hS hA [2] rfl rfl rfl hl.1 (Nat.le_of_ble_eq_true rfl) ⟨Nat.zero_le _, Nat.zero_le _⟩ rfl dX9_island_29 (fun H locs hP hD hS => ?_)
        refine lv_if_ne (tgt := 50) hx hb dX9_island_32 (by decide) (fun c32 => ?_) (fun c32 => ?_)
        · have hm := ine c32 hm
          exact h50 S_grade S_stepsMade S_numbers S_bridges S_caps Y_islands Y_ways Y_cellOf Y_islandAfter Y_firstOf Y_secondOf Y_firstCellOf Y_secondCellOf Y_strideOf Y_waysOf Y_crossings H_size Hb HN HB HC Hc Hr Hg Hs hm _ _ hP hD hS ls (lv_sub hl [0, 1, 2] rfl)
        · have hm := ip c32 hm
          refine lv_aload_n hx hb dX9_island_35 rfl (lv_at hl 0 rfl) ?_
          refine va_get (D := D) (ci := 9) (v := .ref (a 5)) (C := RX9) (T := TX9) (N := 9) hx hb hts hiX9 hown hK.1 hP 0 rfl rfl 1 (by decide) (hts (.fieldLink RX9 19 "IslandBridges" "layout" "LIslandBridges$Layout;") (List.mem_of_getElem? (i := 3) rfl)) (fun _ h9 => h9) rfl dX9_island_36 ?_
          refine va_get (D := D) (ci := 2) (v := .int Y_islands) (C := RX2) (T := TX2) (N := 11) hx hb hts hiX2 hown hK.1 hP 5 rfl rfl 9 (by decide) (hts (.fieldLink RX9 84 "IslandBridges$Layout" "islands" "I") (List.mem_of_getElem? (i := 4) rfl)) (fun _ h9 => h9) rfl dX9_island_39 ?_
          refine lv_bipush (v := 24) hx hb dX9_island_42 (by decide) ?_
          refine lv_icmp_lt (tgt := 50) hx hb dX9_island_44 (by decide) (fun c44 => ?_) (fun c44 => ?_)
          · have hm := ip c44 hm
            exact h50 S_grade S_stepsMade S_numbers S_bridges S_caps Y_islands Y_ways Y_cellOf Y_islandAfter Y_firstOf Y_secondOf Y_firstCellOf Y_secondCellOf Y_strideOf Y_waysOf Y_crossings H_size Hb HN HB HC Hc Hr Hg Hs hm _ _ hP hD hS ls (lv_sub hl [0, 1, 2] rfl)
          · have hm := ine c44 hm
            refine lv_bipush (v := (-3)) hx hb dX9_island_47 (by decide) ?_
            cases hm
            exact rI () hx hb hr hlk hP hD hS dX9_island_49
      · have hm := ine c16 hm
        refine lv_iconst (v := (-1)) hx hb dX9_island_19 (by decide) ?_
        cases hm
        exact rI () hx hb hr hlk hP hD hS dX9_island_20
theorem hd_X9_removeIsland : yX9_removeIsland.cls = RX9 ∧ yX9_removeIsland.cls ≠ "java/lang/invoke/MethodHandle" ∧ yX9_removeIsland.cls ≠ "java/lang/invoke/VarHandle" ∧ (parseMethodDescriptor yX9_removeIsland.desc).map (fun d => d.parameters.length) = some 1 := by decide +kernel
def m_X9_removeIsland (N : Nat) (S_columns : Int32) (S_rows : Int32) (S_grade : Int32) (S_stepsMade : Int32) (S_numbers : Nat → Int32) (S_bridges : Nat → Int32) (S_caps : Nat → Int32) (Y_islands : Int32) (Y_ways : Int32) (Y_cellOf : Nat → Int32) (Y_islandAfter : Nat → Int32) (Y_firstOf : Nat → Int32) (Y_secondOf : Nat → Int32) (Y_firstCellOf : Nat → Int32) (Y_secondCellOf : Nat → Int32) (Y_strideOf : Nat → Int32) (Y_waysOf : Nat → Int32) (Y_crossings : Nat → Int64) (H_size : Int32) (Hb : Nat → Nat) (HN : Nat → Nat → Int32) (HB : Nat → Nat → Int32) (HC : Nat → Nat → Int32) (Hc : Nat → Int32) (Hr : Nat → Int32) (Hg : Nat → Int32) (Hs : Nat → Int32) (x1 : Int32) : Option (Int32 × Int32 × Int32 × (Nat → Int32) × (Nat → Int32) × (Nat → Int32) × Int32 × Int32 × (Nat → Int32) × (Nat → Int32) × (Nat → Int32) × (Nat → Int32) × (Nat → Int32) × (Nat → Int32) × (Nat → Int32) × (Nat → Int32) × (Nat → Int64) × Int32 × (Nat → Nat) × (Nat → Nat → Int32) × (Nat → Nat → Int32) × (Nat → Nat → Int32) × (Nat → Int32) × (Nat → Int32) × (Nat → Int32) × (Nat → Int32)) :=
  lt1 (m_X9_isCell S_columns S_rows x1) (fun v1 => if v1 = 0 then (some (((-1), S_grade, S_stepsMade, S_numbers, S_bridges, S_caps, Y_islands, Y_ways, Y_cellOf, Y_islandAfter, Y_firstOf, Y_secondOf, Y_firstCellOf, Y_secondCellOf, Y_strideOf, Y_waysOf, Y_crossings, H_size, Hb, HN, HB, HC, Hc, Hr, Hg, Hs))) else (lt1 (vAt 144 S_numbers x1) (fun v2 => if v2 = 0 then (some (((-4), S_grade, S_stepsMade, S_numbers, S_bridges, S_caps, Y_islands, Y_ways, Y_cellOf, Y_islandAfter, Y_firstOf, Y_secondOf, Y_firstCellOf, Y_secondCellOf, Y_strideOf, Y_waysOf, Y_crossings, H_size, Hb, HN, HB, HC, Hc, Hr, Hg, Hs))) else (bd9 (m_X1_record S_columns S_rows S_grade S_stepsMade S_numbers S_bridges S_caps H_size Hb HN HB HC Hc Hr Hg Hs) (fun v3 v4 v5 v6 v7 v8 v9 v10 v11 => lt1 (vPut 144 S_numbers x1 0) (fun v12 => bd15 (m_X9_renewWays N S_columns S_rows v12 S_bridges S_caps Y_cellOf Y_islandAfter Y_firstOf Y_secondOf Y_firstCellOf Y_secondCellOf Y_strideOf Y_waysOf Y_crossings) (fun v13 v14 v15 v16 v17 v18 v19 v20 v21 v22 v23 v24 v25 v26 v27 => some ((v2, v13, v14, v12, v15, v16, v17, v18, v19, v20, v21, v22, v23, v24, v25, v26, v27, v3, v4, v5, v6, v7, v8, v9, v10, v11)))))))))
set_option maxHeartbeats 4000000 in
set_option maxRecDepth 100000 in
theorem c_X9_removeIsland (l : Launch) (D : va_G) (cI cJ cS cB : ClassId) (a : Nat → Nat) (S_columns : Int32) (S_rows : Int32) (S_grade : Int32) (S_stepsMade : Int32) (S_numbers : Nat → Int32) (S_bridges : Nat → Int32) (S_caps : Nat → Int32) (Y_islands : Int32) (Y_ways : Int32) (Y_cellOf : Nat → Int32) (Y_islandAfter : Nat → Int32) (Y_firstOf : Nat → Int32) (Y_secondOf : Nat → Int32) (Y_firstCellOf : Nat → Int32) (Y_secondCellOf : Nat → Int32) (Y_strideOf : Nat → Int32) (Y_waysOf : Nat → Int32) (Y_crossings : Nat → Int64) (H_size : Int32) (Hb : Nat → Nat) (HN : Nat → Nat → Int32) (HB : Nat → Nat → Int32) (HC : Nat → Nat → Int32) (Hc : Nat → Int32) (Hr : Nat → Int32) (Hg : Nat → Int32) (Hs : Nat → Int32) (x1 : Int32) (N : Nat) (r0 : Int32) (S_grade' : Int32) (S_stepsMade' : Int32) (S_numbers' : Nat → Int32) (S_bridges' : Nat → Int32) (S_caps' : Nat → Int32) (Y_islands' : Int32) (Y_ways' : Int32) (Y_cellOf' : Nat → Int32) (Y_islandAfter' : Nat → Int32) (Y_firstOf' : Nat → Int32) (Y_secondOf' : Nat → Int32) (Y_firstCellOf' : Nat → Int32) (Y_secondCellOf' : Nat → Int32) (Y_strideOf' : Nat → Int32) (Y_waysOf' : Nat → Int32) (Y_crossings' : Nat → Int64) (H_size' : Int32) (Hb' : Nat → Nat) (HN' : Nat → Nat → Int32) (HB' : Nat → Nat → Int32) (HC' : Nat → Nat → Int32) (Hc' : Nat → Int32) (Hr' : Nat → Int32) (Hg' : Nat → Int32) (Hs' : Nat → Int32) (hm : m_X9_removeIsland N S_columns S_rows S_grade S_stepsMade S_numbers S_bridges S_caps Y_islands Y_ways Y_cellOf Y_islandAfter Y_firstOf Y_secondOf Y_firstCellOf Y_secondCellOf Y_strideOf Y_waysOf Y_crossings H_size Hb HN HB HC Hc Hr Hg Hs x1 = some (r0, S_grade', S_stepsMade', S_numbers', S_bridges', S_caps', Y_islands', Y_ways', Y_cellOf', Y_islandAfter', Y_firstOf', Y_secondOf', Y_firstCellOf', Y_secondCellOf', Y_strideOf', Y_waysOf', Y_crossings', H_size', Hb', HN', HB', HC', Hc', Hr', Hg', Hs')) :
    mU l D (TYs cI cJ cS cB) yX9_removeIsland wsX9_removeIsland { frames := 6, cells := 0, slots := 0, locals := 138 } [.ref (a 0), .int x1] [o_X a , o_S a S_columns S_rows S_grade S_stepsMade, ai (a 2) cI 144 S_numbers, ai (a 3) cI 48 S_bridges, ai (a 4) cI 48 S_caps, o_Y a Y_islands Y_ways, ai (a 6) cI 24 Y_cellOf, ai (a 7) cI 144 Y_islandAfter, ai (a 8) cI 48 Y_firstOf, ai (a 9) cI 48 Y_secondOf, ai (a 10) cI 48 Y_firstCellOf, ai (a 11) cI 48 Y_secondCellOf, ai (a 12) cI 48 Y_strideOf, ai (a 13) cI 24 Y_waysOf, aj (a 14) cJ 48 Y_crossings, o_H a H_size, aq (a 32) cS 4 (hq Hb), o_h (Hb 0) (Hb 1) (Hb 2) (Hb 3) (Hc 0) (Hr 0) (Hg 0) (Hs 0), ai (Hb 1) cI 144 (HN 0), ai (Hb 2) cI 48 (HB 0), ai (Hb 3) cI 48 (HC 0), o_h (Hb 4) (Hb 5) (Hb 6) (Hb 7) (Hc 1) (Hr 1) (Hg 1) (Hs 1), ai (Hb 5) cI 144 (HN 1), ai (Hb 6) cI 48 (HB 1), ai (Hb 7) cI 48 (HC 1), o_h (Hb 8) (Hb 9) (Hb 10) (Hb 11) (Hc 2) (Hr 2) (Hg 2) (Hs 2), ai (Hb 9) cI 144 (HN 2), ai (Hb 10) cI 48 (HB 2), ai (Hb 11) cI 48 (HC 2), o_h (Hb 12) (Hb 13) (Hb 14) (Hb 15) (Hc 3) (Hr 3) (Hg 3) (Hs 3), ai (Hb 13) cI 144 (HN 3), ai (Hb 14) cI 48 (HB 3), ai (Hb 15) cI 48 (HC 3)] [o_X a , o_S a S_columns S_rows S_grade' S_stepsMade', ai (a 2) cI 144 S_numbers', ai (a 3) cI 48 S_bridges', ai (a 4) cI 48 S_caps', o_Y a Y_islands' Y_ways', ai (a 6) cI 24 Y_cellOf', ai (a 7) cI 144 Y_islandAfter', ai (a 8) cI 48 Y_firstOf', ai (a 9) cI 48 Y_secondOf', ai (a 10) cI 48 Y_firstCellOf', ai (a 11) cI 48 Y_secondCellOf', ai (a 12) cI 48 Y_strideOf', ai (a 13) cI 24 Y_waysOf', aj (a 14) cJ 48 Y_crossings', o_H a H_size', aq (a 32) cS 4 (hq Hb'), o_h (Hb' 0) (Hb' 1) (Hb' 2) (Hb' 3) (Hc' 0) (Hr' 0) (Hg' 0) (Hs' 0), ai (Hb' 1) cI 144 (HN' 0), ai (Hb' 2) cI 48 (HB' 0), ai (Hb' 3) cI 48 (HC' 0), o_h (Hb' 4) (Hb' 5) (Hb' 6) (Hb' 7) (Hc' 1) (Hr' 1) (Hg' 1) (Hs' 1), ai (Hb' 5) cI 144 (HN' 1), ai (Hb' 6) cI 48 (HB' 1), ai (Hb' 7) cI 48 (HC' 1), o_h (Hb' 8) (Hb' 9) (Hb' 10) (Hb' 11) (Hc' 2) (Hr' 2) (Hg' 2) (Hs' 2), ai (Hb' 9) cI 144 (HN' 2), ai (Hb' 10) cI 48 (HB' 2), ai (Hb' 11) cI 48 (HC' 2), o_h (Hb' 12) (Hb' 13) (Hb' 14) (Hb' 15) (Hc' 3) (Hr' 3) (Hg' 3) (Hs' 3), ai (Hb' 13) cI 144 (HN' 3), ai (Hb' 14) cI 48 (HB' 3), ai (Hb' 15) cI 48 (HC' 3)] (some (.int r0)) := by
  refine mG_of (cc := cX9_removeIsland) (maxL := 3) (ret := (some .int)) (by decide) rfl rfl (Nat.le_of_ble_eq_true rfl) ?_
  intro p e s m args below meth c A hx hb hr hml hlk hnm hts hown hK hP hD hA hS ls hl
  have hl : lv_has ls 3 [(0, .ref (a 0)), (1, .int x1)] := hl
  have hiX1 : ∀ w ∈ wsX10, w ∈ wsX9_removeIsland := fun w h => List.mem_cons_of_mem _ (List.mem_append_left _ (List.mem_append_right _ h))
  have hiX2 : ∀ w ∈ wsX20, w ∈ wsX9_removeIsland := fun w h => List.mem_cons_of_mem _ (List.mem_append_right _ h)
  have hiX6 : ∀ w ∈ wsX60, w ∈ wsX9_removeIsland := fun w h => List.mem_cons_of_mem _ (List.mem_append_left _ (List.mem_append_left _ (List.mem_append_right _ h)))
  have hiX9 : ∀ w ∈ wsX90, w ∈ wsX9_removeIsland := fun w h => List.mem_cons_of_mem _ (List.mem_append_left _ (List.mem_append_left _ (List.mem_append_left _ (List.mem_append_right _ h))))
  unfold m_X9_removeIsland at hm
  refine lv_aload_n hx hb dX9_removeIsland_0 rfl (lv_at hl 0 rfl) ?_
  refine lv_iload_n hx hb dX9_removeIsland_1 rfl (lv_at hl 1 rfl) ?_
  obtain ⟨v1, h_v1, hm⟩ := lt1_inv hm
  refine cVs ⟨hx, hb, hml, hown, hts⟩ (c_X9_isCell l D cI cJ cS cB a S_columns S_rows S_grade S_stepsMade x1 v1 h_v1) (cwV 1 hts gX9_removeIsland_X9_isCell rfl rfl rfl hd_X9_isCell ⟨(Nat.le_of_ble_eq_true rfl), (Nat.le_of_ble_eq_true rfl)⟩) hK hP hD hS hA [0, 1] rfl rfl rfl hl.1 (Nat.le_of_ble_eq_true rfl) ⟨Nat.zero_le _, Nat.zero_le _⟩ 0 rfl rfl rfl rfl dX9_removeIsland_2 (fun H locs hP hD hS => ?_)
  refine lv_if_ne (tgt := 10) hx hb dX9_removeIsland_5 (by decide) (fun c5 => ?_) (fun c5 => ?_)
  · have hm := ine c5 hm
    refine lv_aload_n hx hb dX9_removeIsland_10 rfl (lv_at hl 0 rfl) ?_
    refine va_get (D := D) (ci := 9) (v := .ref (a 1)) (C := RX9) (T := TX9) (N := 9) hx hb hts hiX9 hown hK.1 hP 0 rfl rfl 0 (by decide) (hts (.fieldLink RX9 10 "IslandBridges" "state" "LIslandBridges$State;") (List.mem_of_getElem? (i := 1) rfl)) (fun _ h9 => h9) rfl dX9_removeIsland_11 ?_
    refine va_get (D := D) (ci := 6) (v := .ref (a 2)) (C := RX6) (T := TX6) (N := 7) hx hb hts hiX6 hown hK.1 hP 1 rfl rfl 0 (by decide) (hts (.fieldLink RX9 102 "IslandBridges$State" "numbers" "[I") (List.mem_of_getElem? (i := 2) rfl)) (fun _ h9 => h9) rfl dX9_removeIsland_14 ?_
    refine lv_iload_n hx hb dX9_removeIsland_17 rfl (lv_at hl 1 rfl) ?_
    obtain ⟨v2, ev2, hm⟩ := lt1_inv hm
    refine cSs ⟨hx, hb, hml, hown, hts⟩ (c_X9_valueAt l D cI cJ cS cB (a 2) 144 (Nat.le_of_ble_eq_true rfl) S_numbers x1 v2 ev2) (va_cwS 2 hts gX9_removeIsland_X9_valueAt rfl rfl rfl hd_X9_valueAt ⟨(Nat.le_of_ble_eq_true rfl), (Nat.le_of_ble_eq_true rfl)⟩) hK hP hD hS hA [2] rfl rfl rfl hl.1 (Nat.le_of_ble_eq_true rfl) ⟨Nat.zero_le _, Nat.zero_le _⟩ rfl dX9_removeIsland_18 (fun H locs hP hD hS => ?_)
    refine lv_istore_n (lv' := [(2, .int v2), (0, .ref (a 0)), (1, .int x1)]) hx hb dX9_removeIsland_21 rfl hl (by decide) rfl (fun ls hl => ?_)
    refine lv_iload_n hx hb dX9_removeIsland_22 rfl (lv_at hl 0 rfl) ?_
    refine lv_if_ne (tgt := 29) hx hb dX9_removeIsland_23 (by decide) (fun c23 => ?_) (fun c23 => ?_)
    · have hm := ine c23 hm
      refine lv_aload_n hx hb dX9_removeIsland_29 rfl (lv_at hl 1 rfl) ?_
      refine va_get (D := D) (ci := 9) (v := .ref (a 31)) (C := RX9) (T := TX9) (N := 9) hx hb hts hiX9 hown hK.1 hP 0 rfl rfl 7 (by decide) (hts (.fieldLink RX9 69 "IslandBridges" "history" "LIslandBridges$History;") (List.mem_of_getElem? (i := 3) rfl)) (fun _ h9 => h9) rfl dX9_removeIsland_30 ?_
      refine lv_aload_n hx hb dX9_removeIsland_33 rfl (lv_at hl 1 rfl) ?_
      refine va_get (D := D) (ci := 9) (v := .ref (a 1)) (C := RX9) (T := TX9) (N := 9) hx hb hts hiX9 hown hK.1 hP 0 rfl rfl 0 (by decide) (hts (.fieldLink RX9 10 "IslandBridges" "state" "LIslandBridges$State;") (List.mem_of_getElem? (i := 1) rfl)) (fun _ h9 => h9) rfl dX9_removeIsland_34 ?_
      obtain ⟨v3, v4, v5, v6, v7, v8, v9, v10, v11, h_v3, hm⟩ := bd9_inv hm
      refine cVx ⟨hx, hb, hml, hown, hts⟩ (c_X1_record l D cI cJ cS cB a S_columns S_rows S_grade S_stepsMade S_numbers S_bridges S_caps H_size Hb HN HB HC Hc Hr Hg Hs v3 v4 v5 v6 v7 v8 v9 v10 v11 h_v3) (cwV 1 hts gX9_removeIsland_X1_record rfl rfl rfl hd_X1_record ⟨(Nat.le_of_ble_eq_true rfl), (Nat.le_of_ble_eq_true rfl)⟩) hK hP hD hS hA [1, 2, 3, 4, 15, 16, 17, 18, 19, 20, 21, 22, 23, 24, 25, 26, 27, 28, 29, 30, 31, 32] rfl rfl [o_X a , o_S a S_columns S_rows S_grade S_stepsMade, ai (a 2) cI 144 S_numbers, ai (a 3) cI 48 S_bridges, ai (a 4) cI 48 S_caps, o_Y a Y_islands Y_ways, ai (a 6) cI 24 Y_cellOf, ai (a 7) cI 144 Y_islandAfter, ai (a 8) cI 48 Y_firstOf, ai (a 9) cI 48 Y_secondOf, ai (a 10) cI 48 Y_firstCellOf, ai (a 11) cI 48 Y_secondCellOf, ai (a 12) cI 48 Y_strideOf, ai (a 13) cI 24 Y_waysOf, aj (a 14) cJ 48 Y_crossings, o_H a v3, aq (a 32) cS 4 (hq v4), o_h (v4 0) (v4 1) (v4 2) (v4 3) (v8 0) (v9 0) (v10 0) (v11 0), ai (v4 1) cI 144 (v5 0), ai (v4 2) cI 48 (v6 0), ai (v4 3) cI 48 (v7 0), o_h (v4 4) (v4 5) (v4 6) (v4 7) (v8 1) (v9 1) (v10 1) (v11 1), ai (v4 5) cI 144 (v5 1), ai (v4 6) cI 48 (v6 1), ai (v4 7) cI 48 (v7 1), o_h (v4 8) (v4 9) (v4 10) (v4 11) (v8 2) (v9 2) (v10 2) (v11 2), ai (v4 9) cI 144 (v5 2), ai (v4 10) cI 48 (v6 2), ai (v4 11) cI 48 (v7 2), o_h (v4 12) (v4 13) (v4 14) (v4 15) (v8 3) (v9 3) (v10 3) (v11 3), ai (v4 13) cI 144 (v5 3), ai (v4 14) cI 48 (v6 3), ai (v4 15) cI 48 (v7 3)] [(false, 0), (true, 0), (true, 1), (true, 2), (true, 3), (false, 5), (false, 6), (false, 7), (false, 8), (false, 9), (false, 10), (false, 11), (false, 12), (false, 13), (false, 14), (true, 4), (true, 5), (true, 6), (true, 7), (true, 8), (true, 9), (true, 10), (true, 11), (true, 12), (true, 13), (true, 14), (true, 15), (true, 16), (true, 17), (true, 18), (true, 19), (true, 20), (true, 21)] rfl rfl rfl hl.1 (Nat.le_of_ble_eq_true rfl) ⟨Nat.zero_le _, Nat.zero_le _⟩ 15 rfl rfl rfl rfl dX9_removeIsland_37 (fun H locs hP hD hS => ?_)
      refine lv_aload_n hx hb dX9_removeIsland_40 rfl (lv_at hl 1 rfl) ?_
      refine va_get (D := D) (ci := 9) (v := .ref (a 1)) (C := RX9) (T := TX9) (N := 9) hx hb hts hiX9 hown hK.1 hP 0 rfl rfl 0 (by decide) (hts (.fieldLink RX9 10 "IslandBridges" "state" "LIslandBridges$State;") (List.mem_of_getElem? (i := 1) rfl)) (fun _ h9 => h9) rfl dX9_removeIsland_41 ?_
      refine va_get (D := D) (ci := 6) (v := .ref (a 2)) (C := RX6) (T := TX6) (N := 7) hx hb hts hiX6 hown hK.1 hP 1 rfl rfl 0 (by decide) (hts (.fieldLink RX9 102 "IslandBridges$State" "numbers" "[I") (List.mem_of_getElem? (i := 2) rfl)) (fun _ h9 => h9) rfl dX9_removeIsland_44 ?_
      refine lv_iload_n hx hb dX9_removeIsland_47 rfl (lv_at hl 2 rfl) ?_
      refine lv_iconst (v := 0) hx hb dX9_removeIsland_48 (by decide) ?_
      obtain ⟨v12, ev12, hm⟩ := lt1_inv hm
      refine cSx ⟨hx, hb, hml, hown, hts⟩ (c_X9_put l D cI cJ cS cB (a 2) 144 (Nat.le_of_ble_eq_true rfl) S_numbers x1 0 v12 ev12) (va_cwS 3 hts gX9_removeIsland_X9_put rfl rfl rfl hd_X9_put ⟨(Nat.le_of_ble_eq_true rfl), (Nat.le_of_ble_eq_true rfl)⟩) hK hP hD hS hA [2] rfl rfl [o_X a , o_S a S_columns S_rows S_grade S_stepsMade, ai (a 2) cI 144 v12, ai (a 3) cI 48 S_bridges, ai (a 4) cI 48 S_caps, o_Y a Y_islands Y_ways, ai (a 6) cI 24 Y_cellOf, ai (a 7) cI 144 Y_islandAfter, ai (a 8) cI 48 Y_firstOf, ai (a 9) cI 48 Y_secondOf, ai (a 10) cI 48 Y_firstCellOf, ai (a 11) cI 48 Y_secondCellOf, ai (a 12) cI 48 Y_strideOf, ai (a 13) cI 24 Y_waysOf, aj (a 14) cJ 48 Y_crossings, o_H a v3, aq (a 32) cS 4 (hq v4), o_h (v4 0) (v4 1) (v4 2) (v4 3) (v8 0) (v9 0) (v10 0) (v11 0), ai (v4 1) cI 144 (v5 0), ai (v4 2) cI 48 (v6 0), ai (v4 3) cI 48 (v7 0), o_h (v4 4) (v4 5) (v4 6) (v4 7) (v8 1) (v9 1) (v10 1) (v11 1), ai (v4 5) cI 144 (v5 1), ai (v4 6) cI 48 (v6 1), ai (v4 7) cI 48 (v7 1), o_h (v4 8) (v4 9) (v4 10) (v4 11) (v8 2) (v9 2) (v10 2) (v11 2), ai (v4 9) cI 144 (v5 2), ai (v4 10) cI 48 (v6 2), ai (v4 11) cI 48 (v7 2), o_h (v4 12) (v4 13) (v4 14) (v4 15) (v8 3) (v9 3) (v10 3) (v11 3), ai (v4 13) cI 144 (v5 3), ai (v4 14) cI 48 (v6 3), ai (v4 15) cI 48 (v7 3)] [(false, 0), (false, 1), (true, 0), (false, 3), (false, 4), (false, 5), (false, 6), (false, 7), (false, 8), (false, 9), (false, 10), (false, 11), (false, 12), (false, 13), (false, 14), (false, 15), (false, 16), (false, 17), (false, 18), (false, 19), (false, 20), (false, 21), (false, 22), (false, 23), (false, 24), (false, 25), (false, 26), (false, 27), (false, 28), (false, 29), (false, 30), (false, 31), (false, 32)] rfl rfl rfl hl.1 (Nat.le_of_ble_eq_true rfl) ⟨Nat.zero_le _, Nat.zero_le _⟩ rfl dX9_removeIsland_49 (fun H locs hP hD hS => ?_)
      refine lv_aload_n hx hb dX9_removeIsland_52 rfl (lv_at hl 1 rfl) ?_
      obtain ⟨v13, v14, v15, v16, v17, v18, v19, v20, v21, v22, v23, v24, v25, v26, v27, h_v13, hm⟩ := bd15_inv hm
      refine cVx ⟨hx, hb, hml, hown, hts⟩ (c_X9_renewWays l D cI cJ cS cB a S_columns S_rows S_grade S_stepsMade v12 S_bridges S_caps Y_islands Y_ways Y_cellOf Y_islandAfter Y_firstOf Y_secondOf Y_firstCellOf Y_secondCellOf Y_strideOf Y_waysOf Y_crossings N v13 v14 v15 v16 v17 v18 v19 v20 v21 v22 v23 v24 v25 v26 v27 h_v13) (cwV 0 hts gX9_removeIsland_X9_renewWays rfl rfl rfl hd_X9_renewWays ⟨(Nat.le_of_ble_eq_true rfl), (Nat.le_of_ble_eq_true rfl)⟩) hK hP hD hS hA [0, 1, 2, 3, 4, 5, 6, 7, 8, 9, 10, 11, 12, 13, 14] rfl rfl [o_X a , o_S a S_columns S_rows v13 v14, ai (a 2) cI 144 v12, ai (a 3) cI 48 v15, ai (a 4) cI 48 v16, o_Y a v17 v18, ai (a 6) cI 24 v19, ai (a 7) cI 144 v20, ai (a 8) cI 48 v21, ai (a 9) cI 48 v22, ai (a 10) cI 48 v23, ai (a 11) cI 48 v24, ai (a 12) cI 48 v25, ai (a 13) cI 24 v26, aj (a 14) cJ 48 v27, o_H a v3, aq (a 32) cS 4 (hq v4), o_h (v4 0) (v4 1) (v4 2) (v4 3) (v8 0) (v9 0) (v10 0) (v11 0), ai (v4 1) cI 144 (v5 0), ai (v4 2) cI 48 (v6 0), ai (v4 3) cI 48 (v7 0), o_h (v4 4) (v4 5) (v4 6) (v4 7) (v8 1) (v9 1) (v10 1) (v11 1), ai (v4 5) cI 144 (v5 1), ai (v4 6) cI 48 (v6 1), ai (v4 7) cI 48 (v7 1), o_h (v4 8) (v4 9) (v4 10) (v4 11) (v8 2) (v9 2) (v10 2) (v11 2), ai (v4 9) cI 144 (v5 2), ai (v4 10) cI 48 (v6 2), ai (v4 11) cI 48 (v7 2), o_h (v4 12) (v4 13) (v4 14) (v4 15) (v8 3) (v9 3) (v10 3) (v11 3), ai (v4 13) cI 144 (v5 3), ai (v4 14) cI 48 (v6 3), ai (v4 15) cI 48 (v7 3)] [(true, 0), (true, 1), (true, 2), (true, 3), (true, 4), (true, 5), (true, 6), (true, 7), (true, 8), (true, 9), (true, 10), (true, 11), (true, 12), (true, 13), (true, 14), (false, 15), (false, 16), (false, 17), (false, 18), (false, 19), (false, 20), (false, 21), (false, 22), (false, 23), (false, 24), (false, 25), (false, 26), (false, 27), (false, 28), (false, 29), (false, 30), (false, 31), (false, 32)] rfl rfl rfl hl.1 (Nat.le_of_ble_eq_true rfl) ⟨Nat.zero_le _, Nat.zero_le _⟩ 0 rfl rfl rfl rfl dX9_removeIsland_53 (fun H locs hP hD hS => ?_)
      refine lv_iload_n hx hb dX9_removeIsland_56 rfl (lv_at hl 0 rfl) ?_
      cases hm
      exact rI () hx hb hr hlk hP hD hS dX9_removeIsland_57
    · have hm := ip c23 hm
      refine lv_bipush (v := (-4)) hx hb dX9_removeIsland_26 (by decide) ?_
      cases hm
      exact rI () hx hb hr hlk hP hD hS dX9_removeIsland_28
  · have hm := ip c5 hm
    refine lv_iconst (v := (-1)) hx hb dX9_removeIsland_8 (by decide) ?_
    cases hm
    exact rI () hx hb hr hlk hP hD hS dX9_removeIsland_9
theorem hd_X9_at : yX9_at.cls = RX9 ∧ yX9_at.cls ≠ "java/lang/invoke/MethodHandle" ∧ yX9_at.cls ≠ "java/lang/invoke/VarHandle" ∧ (parseMethodDescriptor yX9_at.desc).map (fun d => d.parameters.length) = some 1 := by decide +kernel
def m_X9_at_j93 (rec30 : Int32 → Option (Int32)) (y5 : Int32) : Option (Int32) :=
  lt1 (y5 + 1) (fun v6 => rec30 v6)
def m_X9_at_j89 (y11 : Int32) (y12 : Int32) : Option (Int32) :=
  some (y12 + y11)
def m_X9_at_j71 (Y_strideOf : Nat → Int32) (y8 : Int32) (y9 : Int32) : Option (Int32) :=
  lt1 (m_X2_isAlongRow Y_strideOf y8) (fun v10 => if v10 = 0 then (m_X9_at_j89 y9 20) else (m_X9_at_j89 y9 10))
def m_X9_at_b30 (S_bridges : Nat → Int32) (Y_ways : Int32) (Y_firstCellOf : Nat → Int32) (Y_secondCellOf : Nat → Int32) (Y_strideOf : Nat → Int32) (x1 : Int32) (rec30 : Int32 → Option (Int32)) (y3 : Int32) : Option (Int32) :=
  if Y_ways ≤ y3 then (some 0) else (lt1 (vAt 48 S_bridges y3) (fun v4 => if v4 ≤ 0 then (m_X9_at_j93 rec30 y3) else (bd1 (m_X2_isOver Y_firstCellOf Y_secondCellOf Y_strideOf y3 x1) (fun v7 => if v7 = 0 then (m_X9_at_j93 rec30 y3) else (m_X9_at_j71 Y_strideOf y3 v4)))))
def m_X9_at (N : Nat) (S_columns : Int32) (S_rows : Int32) (S_numbers : Nat → Int32) (S_bridges : Nat → Int32) (Y_ways : Int32) (Y_firstCellOf : Nat → Int32) (Y_secondCellOf : Nat → Int32) (Y_strideOf : Nat → Int32) (x1 : Int32) : Option (Int32) :=
  lt1 (m_X9_isCell S_columns S_rows x1) (fun v1 => if v1 = 0 then (some ((-1))) else (lt1 (vAt 144 S_numbers x1) (fun v2 => if v2 ≤ 0 then (zl1 (m_X9_at_b30 S_bridges Y_ways Y_firstCellOf Y_secondCellOf Y_strideOf x1) N 0) else (some v2))))
set_option maxHeartbeats 4000000 in
set_option maxRecDepth 100000 in
theorem c_X9_at (l : Launch) (D : va_G) (cI cJ cS cB : ClassId) (a : Nat → Nat) (S_columns : Int32) (S_rows : Int32) (S_grade : Int32) (S_stepsMade : Int32) (S_numbers : Nat → Int32) (S_bridges : Nat → Int32) (Y_islands : Int32) (Y_ways : Int32) (Y_firstCellOf : Nat → Int32) (Y_secondCellOf : Nat → Int32) (Y_strideOf : Nat → Int32) (x1 : Int32) (N : Nat) (r0 : Int32) (hm : m_X9_at N S_columns S_rows S_numbers S_bridges Y_ways Y_firstCellOf Y_secondCellOf Y_strideOf x1 = some r0) :
    mU l D (TYs cI cJ cS cB) yX9_at wsX9_at { frames := 2, cells := 0, slots := 0, locals := 46 } [.ref (a 0), .int x1] [o_X a , o_S a S_columns S_rows S_grade S_stepsMade, ai (a 2) cI 144 S_numbers, ai (a 3) cI 48 S_bridges, o_Y a Y_islands Y_ways, ai (a 10) cI 48 Y_firstCellOf, ai (a 11) cI 48 Y_secondCellOf, ai (a 12) cI 48 Y_strideOf] [o_X a , o_S a S_columns S_rows S_grade S_stepsMade, ai (a 2) cI 144 S_numbers, ai (a 3) cI 48 S_bridges, o_Y a Y_islands Y_ways, ai (a 10) cI 48 Y_firstCellOf, ai (a 11) cI 48 Y_secondCellOf, ai (a 12) cI 48 Y_strideOf] (some (.int r0)) := by
  refine mG_of (cc := cX9_at) (maxL := 5) (ret := (some .int)) (by decide) rfl rfl (Nat.le_of_ble_eq_true rfl) ?_
  intro p e s m args below meth c A hx hb hr hml hlk hnm hts hown hK hP hD hA hS ls hl
  have hl : lv_has ls 5 [(0, .ref (a 0)), (1, .int x1)] := hl
  have hiX2 : ∀ w ∈ wsX20, w ∈ wsX9_at := fun w h => List.mem_cons_of_mem _ (List.mem_append_right _ h)
  have hiX6 : ∀ w ∈ wsX60, w ∈ wsX9_at := fun w h => List.mem_cons_of_mem _ (List.mem_append_left _ (List.mem_append_right _ h))
  have hiX9 : ∀ w ∈ wsX90, w ∈ wsX9_at := fun w h => List.mem_cons_of_mem _ (List.mem_append_left _ (List.mem_append_left _ (List.mem_append_right _ h)))
  unfold m_X9_at at hm
  have h89 : ∀ (y11 : Int32) (y12 : Int32), m_X9_at_j89 y11 y12 = some r0 → ∀ (H : Heap) (locs : List Loc), va_P D vwCl [o_X a , o_S a S_columns S_rows S_grade S_stepsMade, ai (a 2) cI 144 S_numbers, ai (a 3) cI 48 S_bridges, o_Y a Y_islands Y_ways, ai (a 10) cI 48 Y_firstCellOf, ai (a 11) cI 48 Y_secondCellOf, ai (a 12) cI 48 Y_strideOf] H → va_D A [o_X a , o_S a S_columns S_rows S_grade S_stepsMade, ai (a 2) cI 144 S_numbers, ai (a 3) cI 48 S_bridges, o_Y a Y_islands Y_ways, ai (a 10) cI 48 Y_firstCellOf, ai (a 11) cI 48 Y_secondCellOf, ai (a 12) cI 48 Y_strideOf] → va_S A s.heap H locs → ∀ ls : Array Slot, lv_has ls 5 [(4, .int y11)] → W p l e { frames := 2, cells := 0, slots := 0, locals := 46 } s m args below meth c H locs 0 0 (MQ below (eQ D (some (.int r0)) (fun _ : Unit => [o_X a , o_S a S_columns S_rows S_grade S_stepsMade, ai (a 2) cI 144 S_numbers, ai (a 3) cI 48 S_bridges, o_Y a Y_islands Y_ways, ai (a 10) cI 48 Y_firstCellOf, ai (a 11) cI 48 Y_secondCellOf, ai (a 12) cI 48 Y_strideOf]) A) args s 0 0 A) (F0 m 89 ls [.int y12]) := by
    intro y11 y12 hm H locs hP hD hS ls hl
    unfold m_X9_at_j89 at hm
    refine lv_iload hx hb dX9_at_89 (lv_at hl 0 rfl) ?_
    refine lv_iadd hx hb dX9_at_91 ?_
    cases hm
    exact rI () hx hb hr hlk hP hD hS dX9_at_92
  have h71 : ∀ (y8 : Int32) (y9 : Int32), m_X9_at_j71 Y_strideOf y8 y9 = some r0 → ∀ (H : Heap) (locs : List Loc), va_P D vwCl [o_X a , o_S a S_columns S_rows S_grade S_stepsMade, ai (a 2) cI 144 S_numbers, ai (a 3) cI 48 S_bridges, o_Y a Y_islands Y_ways, ai (a 10) cI 48 Y_firstCellOf, ai (a 11) cI 48 Y_secondCellOf, ai (a 12) cI 48 Y_strideOf] H → va_D A [o_X a , o_S a S_columns S_rows S_grade S_stepsMade, ai (a 2) cI 144 S_numbers, ai (a 3) cI 48 S_bridges, o_Y a Y_islands Y_ways, ai (a 10) cI 48 Y_firstCellOf, ai (a 11) cI 48 Y_secondCellOf, ai (a 12) cI 48 Y_strideOf] → va_S A s.heap H locs → ∀ ls : Array Slot, lv_has ls 5 [(0, .ref (a 0)), (3, .int y8), (4, .int y9)] → W p l e { frames := 2, cells := 0, slots := 0, locals := 46 } s m args below meth c H locs 0 0 (MQ below (eQ D (some (.int r0)) (fun _ : Unit => [o_X a , o_S a S_columns S_rows S_grade S_stepsMade, ai (a 2) cI 144 S_numbers, ai (a 3) cI 48 S_bridges, o_Y a Y_islands Y_ways, ai (a 10) cI 48 Y_firstCellOf, ai (a 11) cI 48 Y_secondCellOf, ai (a 12) cI 48 Y_strideOf]) A) args s 0 0 A) (F0 m 71 ls []) := by
    intro y8 y9 hm H locs hP hD hS ls hl
    unfold m_X9_at_j71 at hm
    refine lv_aload_n hx hb dX9_at_71 rfl (lv_at hl 0 rfl) ?_
    refine va_get (D := D) (ci := 9) (v := .ref (a 5)) (C := RX9) (T := TX9) (N := 9) hx hb hts hiX9 hown hK.1 hP 0 rfl rfl 1 (by decide) (hts (.fieldLink RX9 19 "IslandBridges" "layout" "LIslandBridges$Layout;") (List.mem_of_getElem? (i := 3) rfl)) (fun _ h9 => h9) rfl dX9_at_72 ?_
    refine lv_iload_n hx hb dX9_at_75 rfl (lv_at hl 1 rfl) ?_
    obtain ⟨v10, h_v10, hm⟩ := lt1_inv hm
    refine cVs ⟨hx, hb, hml, hown, hts⟩ (c_X2_isAlongRow l D cI cJ cS cB a Y_islands Y_ways Y_strideOf y8 v10 h_v10) (cwV 1 hts gX9_at_X2_isAlongRow rfl rfl rfl hd_X2_isAlongRow ⟨(Nat.le_of_ble_eq_true rfl), (Nat.le_of_ble_eq_true rfl)⟩) hK hP hD hS hA [4, 7] rfl rfl rfl hl.1 (Nat.le_of_ble_eq_true rfl) ⟨Nat.zero_le _, Nat.zero_le _⟩ 4 rfl rfl rfl rfl dX9_at_76 (fun H locs hP hD hS => ?_)
    refine lv_if_eq (tgt := 87) hx hb dX9_at_79 (by decide) (fun c79 => ?_) (fun c79 => ?_)
    · have hm := ip c79 hm
      refine lv_bipush (v := 20) hx hb dX9_at_87 (by decide) ?_
      exact h89 y9 20 hm _ _ hP hD hS ls (lv_sub hl [2] rfl)
    · have hm := ine c79 hm
      refine lv_bipush (v := 10) hx hb dX9_at_82 (by decide) ?_
      refine lv_goto (tgt := 89) hx hb dX9_at_84 (by decide) ?_
      exact h89 y9 10 hm _ _ hP hD hS ls (lv_sub hl [2] rfl)
  have h30 : ∀ (n : Nat) (y3 : Int32), zl1 (m_X9_at_b30 S_bridges Y_ways Y_firstCellOf Y_secondCellOf Y_strideOf x1) n y3 = some r0 → ∀ (H : Heap) (locs : List Loc), va_P D vwCl [o_X a , o_S a S_columns S_rows S_grade S_stepsMade, ai (a 2) cI 144 S_numbers, ai (a 3) cI 48 S_bridges, o_Y a Y_islands Y_ways, ai (a 10) cI 48 Y_firstCellOf, ai (a 11) cI 48 Y_secondCellOf, ai (a 12) cI 48 Y_strideOf] H → va_D A [o_X a , o_S a S_columns S_rows S_grade S_stepsMade, ai (a 2) cI 144 S_numbers, ai (a 3) cI 48 S_bridges, o_Y a Y_islands Y_ways, ai (a 10) cI 48 Y_firstCellOf, ai (a 11) cI 48 Y_secondCellOf, ai (a 12) cI 48 Y_strideOf] → va_S A s.heap H locs → ∀ ls : Array Slot, lv_has ls 5 [(0, .ref (a 0)), (1, .int x1), (3, .int y3)] → W p l e { frames := 2, cells := 0, slots := 0, locals := 46 } s m args below meth c H locs 0 0 (MQ below (eQ D (some (.int r0)) (fun _ : Unit => [o_X a , o_S a S_columns S_rows S_grade S_stepsMade, ai (a 2) cI 144 S_numbers, ai (a 3) cI 48 S_bridges, o_Y a Y_islands Y_ways, ai (a 10) cI 48 Y_firstCellOf, ai (a 11) cI 48 Y_secondCellOf, ai (a 12) cI 48 Y_strideOf]) A) args s 0 0 A) (F0 m 30 ls []) := by
    refine zl1_ind (fun rec30 ih30 y3 hm => ?_)
    have h93 : ∀ (y5 : Int32), m_X9_at_j93 rec30 y5 = some r0 → ∀ (H : Heap) (locs : List Loc), va_P D vwCl [o_X a , o_S a S_columns S_rows S_grade S_stepsMade, ai (a 2) cI 144 S_numbers, ai (a 3) cI 48 S_bridges, o_Y a Y_islands Y_ways, ai (a 10) cI 48 Y_firstCellOf, ai (a 11) cI 48 Y_secondCellOf, ai (a 12) cI 48 Y_strideOf] H → va_D A [o_X a , o_S a S_columns S_rows S_grade S_stepsMade, ai (a 2) cI 144 S_numbers, ai (a 3) cI 48 S_bridges, o_Y a Y_islands Y_ways, ai (a 10) cI 48 Y_firstCellOf, ai (a 11) cI 48 Y_secondCellOf, ai (a 12) cI 48 Y_strideOf] → va_S A s.heap H locs → ∀ ls : Array Slot, lv_has ls 5 [(0, .ref (a 0)), (1, .int x1), (3, .int y5)] → W p l e { frames := 2, cells := 0, slots := 0, locals := 46 } s m args below meth c H locs 0 0 (MQ below (eQ D (some (.int r0)) (fun _ : Unit => [o_X a , o_S a S_columns S_rows S_grade S_stepsMade, ai (a 2) cI 144 S_numbers, ai (a 3) cI 48 S_bridges, o_Y a Y_islands Y_ways, ai (a 10) cI 48 Y_firstCellOf, ai (a 11) cI 48 Y_secondCellOf, ai (a 12) cI 48 Y_strideOf]) A) args s 0 0 A) (F0 m 93 ls []) := by
      intro y5 hm H locs hP hD hS ls hl
      unfold m_X9_at_j93 at hm
      obtain ⟨v6, ev6, hm⟩ := lt1_inv hm
      refine lv_iinc (v := v6) (lv' := [(3, .int v6), (0, .ref (a 0)), (1, .int x1)]) hx hb dX9_at_93 hl (k := 2) rfl ev6 (by decide) rfl (fun ls hl => ?_)
      refine lv_goto (tgt := 30) hx hb dX9_at_96 (by decide) ?_
      exact ih30 v6 hm _ _ hP hD hS ls (lv_sub hl [1, 2, 0] rfl)
    intro H locs hP hD hS ls hl
    unfold m_X9_at_b30 at hm
    refine lv_iload_n hx hb dX9_at_30 rfl (lv_at hl 2 rfl) ?_
    refine lv_aload_n hx hb dX9_at_31 rfl (lv_at hl 0 rfl) ?_
    refine va_get (D := D) (ci := 9) (v := .ref (a 5)) (C := RX9) (T := TX9) (N := 9) hx hb hts hiX9 hown hK.1 hP 0 rfl rfl 1 (by decide) (hts (.fieldLink RX9 19 "IslandBridges" "layout" "LIslandBridges$Layout;") (List.mem_of_getElem? (i := 3) rfl)) (fun _ h9 => h9) rfl dX9_at_32 ?_
    refine va_get (D := D) (ci := 2) (v := .int Y_ways) (C := RX2) (T := TX2) (N := 11) hx hb hts hiX2 hown hK.1 hP 4 rfl rfl 10 (by decide) (hts (.fieldLink RX9 114 "IslandBridges$Layout" "ways" "I") (List.mem_of_getElem? (i := 4) rfl)) (fun _ h9 => h9) rfl dX9_at_35 ?_
    refine lv_icmp_ge (tgt := 99) hx hb dX9_at_38 (by decide) (fun c38 => ?_) (fun c38 => ?_)
    · have hm := ip c38 hm
      refine lv_iconst (v := 0) hx hb dX9_at_99 (by decide) ?_
      cases hm
      exact rI () hx hb hr hlk hP hD hS dX9_at_100
    · have hm := ine c38 hm
      refine lv_aload_n hx hb dX9_at_41 rfl (lv_at hl 0 rfl) ?_
      refine va_get (D := D) (ci := 9) (v := .ref (a 1)) (C := RX9) (T := TX9) (N := 9) hx hb hts hiX9 hown hK.1 hP 0 rfl rfl 0 (by decide) (hts (.fieldLink RX9 10 "IslandBridges" "state" "LIslandBridges$State;") (List.mem_of_getElem? (i := 1) rfl)) (fun _ h9 => h9) rfl dX9_at_42 ?_
      refine va_get (D := D) (ci := 6) (v := .ref (a 3)) (C := RX6) (T := TX6) (N := 7) hx hb hts hiX6 hown hK.1 hP 1 rfl rfl 1 (by decide) (hts (.fieldLink RX9 117 "IslandBridges$State" "bridges" "[I") (List.mem_of_getElem? (i := 5) rfl)) (fun _ h9 => h9) rfl dX9_at_45 ?_
      refine lv_iload_n hx hb dX9_at_48 rfl (lv_at hl 2 rfl) ?_
      obtain ⟨v4, ev4, hm⟩ := lt1_inv hm
      refine cSs ⟨hx, hb, hml, hown, hts⟩ (c_X9_valueAt l D cI cJ cS cB (a 3) 48 (Nat.le_of_ble_eq_true rfl) S_bridges y3 v4 ev4) (va_cwS 2 hts gX9_at_X9_valueAt rfl rfl rfl hd_X9_valueAt ⟨(Nat.le_of_ble_eq_true rfl), (Nat.le_of_ble_eq_true rfl)⟩) hK hP hD hS hA [3] rfl rfl rfl hl.1 (Nat.le_of_ble_eq_true rfl) ⟨Nat.zero_le _, Nat.zero_le _⟩ rfl dX9_at_49 (fun H locs hP hD hS => ?_)
      refine lv_istore (lv' := [(4, .int v4), (0, .ref (a 0)), (1, .int x1), (3, .int y3)]) hx hb dX9_at_52 hl (by decide) rfl (fun ls hl => ?_)
      refine lv_iload hx hb dX9_at_54 (lv_at hl 0 rfl) ?_
      refine lv_if_le (tgt := 93) hx hb dX9_at_56 (by decide) (fun c56 => ?_) (fun c56 => ?_)
      · have hm := ip c56 hm
        exact h93 y3 hm _ _ hP hD hS ls (lv_sub hl [1, 2, 3] rfl)
      · have hm := ine c56 hm
        refine lv_aload_n hx hb dX9_at_59 rfl (lv_at hl 1 rfl) ?_
        refine va_get (D := D) (ci := 9) (v := .ref (a 5)) (C := RX9) (T := TX9) (N := 9) hx hb hts hiX9 hown hK.1 hP 0 rfl rfl 1 (by decide) (hts (.fieldLink RX9 19 "IslandBridges" "layout" "LIslandBridges$Layout;") (List.mem_of_getElem? (i := 3) rfl)) (fun _ h9 => h9) rfl dX9_at_60 ?_
        refine lv_iload_n hx hb dX9_at_63 rfl (lv_at hl 3 rfl) ?_
        refine lv_iload_n hx hb dX9_at_64 rfl (lv_at hl 2 rfl) ?_
        obtain ⟨v7, h_v7, hm⟩ := bd1_inv hm
        refine cVs ⟨hx, hb, hml, hown, hts⟩ (c_X2_isOver l D cI cJ cS cB a Y_islands Y_ways Y_firstCellOf Y_secondCellOf Y_strideOf y3 x1 v7 h_v7) (cwV 2 hts gX9_at_X2_isOver rfl rfl rfl hd_X2_isOver ⟨(Nat.le_of_ble_eq_true rfl), (Nat.le_of_ble_eq_true rfl)⟩) hK hP hD hS hA [4, 5, 6, 7] rfl rfl rfl hl.1 (Nat.le_of_ble_eq_true rfl) ⟨Nat.zero_le _, Nat.zero_le _⟩ 4 rfl rfl rfl rfl dX9_at_65 (fun H locs hP hD hS => ?_)
        refine lv_if_eq (tgt := 93) hx hb dX9_at_68 (by decide) (fun c68 => ?_) (fun c68 => ?_)
        · have hm := ip c68 hm
          exact h93 y3 hm _ _ hP hD hS ls (lv_sub hl [1, 2, 3] rfl)
        · have hm := ine c68 hm
          exact h71 y3 v4 hm _ _ hP hD hS ls (lv_sub hl [1, 3, 0] rfl)
  refine lv_aload_n hx hb dX9_at_0 rfl (lv_at hl 0 rfl) ?_
  refine lv_iload_n hx hb dX9_at_1 rfl (lv_at hl 1 rfl) ?_
  obtain ⟨v1, h_v1, hm⟩ := lt1_inv hm
  refine cVs ⟨hx, hb, hml, hown, hts⟩ (c_X9_isCell l D cI cJ cS cB a S_columns S_rows S_grade S_stepsMade x1 v1 h_v1) (cwV 1 hts gX9_at_X9_isCell rfl rfl rfl hd_X9_isCell ⟨(Nat.le_of_ble_eq_true rfl), (Nat.le_of_ble_eq_true rfl)⟩) hK hP hD hS hA [0, 1] rfl rfl rfl hl.1 (Nat.le_of_ble_eq_true rfl) ⟨Nat.zero_le _, Nat.zero_le _⟩ 0 rfl rfl rfl rfl dX9_at_2 (fun H locs hP hD hS => ?_)
  refine lv_if_ne (tgt := 10) hx hb dX9_at_5 (by decide) (fun c5 => ?_) (fun c5 => ?_)
  · have hm := ine c5 hm
    refine lv_aload_n hx hb dX9_at_10 rfl (lv_at hl 0 rfl) ?_
    refine va_get (D := D) (ci := 9) (v := .ref (a 1)) (C := RX9) (T := TX9) (N := 9) hx hb hts hiX9 hown hK.1 hP 0 rfl rfl 0 (by decide) (hts (.fieldLink RX9 10 "IslandBridges" "state" "LIslandBridges$State;") (List.mem_of_getElem? (i := 1) rfl)) (fun _ h9 => h9) rfl dX9_at_11 ?_
    refine va_get (D := D) (ci := 6) (v := .ref (a 2)) (C := RX6) (T := TX6) (N := 7) hx hb hts hiX6 hown hK.1 hP 1 rfl rfl 0 (by decide) (hts (.fieldLink RX9 102 "IslandBridges$State" "numbers" "[I") (List.mem_of_getElem? (i := 2) rfl)) (fun _ h9 => h9) rfl dX9_at_14 ?_
    refine lv_iload_n hx hb dX9_at_17 rfl (lv_at hl 1 rfl) ?_
    obtain ⟨v2, ev2, hm⟩ := lt1_inv hm
    refine cSs ⟨hx, hb, hml, hown, hts⟩ (c_X9_valueAt l D cI cJ cS cB (a 2) 144 (Nat.le_of_ble_eq_true rfl) S_numbers x1 v2 ev2) (va_cwS 2 hts gX9_at_X9_valueAt rfl rfl rfl hd_X9_valueAt ⟨(Nat.le_of_ble_eq_true rfl), (Nat.le_of_ble_eq_true rfl)⟩) hK hP hD hS hA [2] rfl rfl rfl hl.1 (Nat.le_of_ble_eq_true rfl) ⟨Nat.zero_le _, Nat.zero_le _⟩ rfl dX9_at_18 (fun H locs hP hD hS => ?_)
    refine lv_istore_n (lv' := [(2, .int v2), (0, .ref (a 0)), (1, .int x1)]) hx hb dX9_at_21 rfl hl (by decide) rfl (fun ls hl => ?_)
    refine lv_iload_n hx hb dX9_at_22 rfl (lv_at hl 0 rfl) ?_
    refine lv_if_le (tgt := 28) hx hb dX9_at_23 (by decide) (fun c23 => ?_) (fun c23 => ?_)
    · have hm := ip c23 hm
      refine lv_iconst (v := 0) hx hb dX9_at_28 (by decide) ?_
      refine lv_istore_n (lv' := [(3, .int 0), (2, .int v2), (0, .ref (a 0)), (1, .int x1)]) hx hb dX9_at_29 rfl hl (by decide) rfl (fun ls hl => ?_)
      exact h30  N 0 hm _ _ hP hD hS ls (lv_sub hl [2, 3, 0] rfl)
    · have hm := ine c23 hm
      refine lv_iload_n hx hb dX9_at_26 rfl (lv_at hl 0 rfl) ?_
      cases hm
      exact rI () hx hb hr hlk hP hD hS dX9_at_27
  · have hm := ip c5 hm
    refine lv_iconst (v := (-1)) hx hb dX9_at_8 (by decide) ?_
    cases hm
    exact rI () hx hb hr hlk hP hD hS dX9_at_9
theorem hd_X9_islandInfo : yX9_islandInfo.cls = RX9 ∧ yX9_islandInfo.cls ≠ "java/lang/invoke/MethodHandle" ∧ yX9_islandInfo.cls ≠ "java/lang/invoke/VarHandle" ∧ (parseMethodDescriptor yX9_islandInfo.desc).map (fun d => d.parameters.length) = some 2 := by decide +kernel
def m_X9_islandInfo (N : Nat) (S_columns : Int32) (S_rows : Int32) (S_numbers : Nat → Int32) (S_bridges : Nat → Int32) (S_caps : Nat → Int32) (Y_islands : Int32) (Y_ways : Int32) (Y_cellOf : Nat → Int32) (Y_islandAfter : Nat → Int32) (Y_firstOf : Nat → Int32) (Y_secondOf : Nat → Int32) (Y_waysOf : Nat → Int32) (U_numbers : Nat → Int32) (U_bridges : Nat → Int32) (U_caps : Nat → Int32) (U_lacks : Nat → Int32) (G_leaders : Nat → Int32) (x1 : Int32) (x2 : Int32) : Option (Int32 × (Nat → Int32) × (Nat → Int32) × (Nat → Int32) × (Nat → Int32) × (Nat → Int32)) :=
  lt1 (m_X9_isCell S_columns S_rows x1) (fun v1 => if v1 = 0 then (some (((-1), U_numbers, U_bridges, U_caps, U_lacks, G_leaders))) else (if x2 < 0 then (some (((-1), U_numbers, U_bridges, U_caps, U_lacks, G_leaders))) else (if x2 ≤ 5 then (lt1 (m_X2_islandOn Y_islandAfter x1) (fun v2 => if v2 = ((-1)) then (some (((-4), U_numbers, U_bridges, U_caps, U_lacks, G_leaders))) else (bd4 (m_X7_read N S_numbers S_bridges S_caps Y_islands Y_ways Y_cellOf Y_firstOf Y_secondOf U_numbers U_bridges U_caps U_lacks) (fun v3 v4 v5 v6 => if x2 = 0 then (lt1 (vAt 144 S_numbers x1) (fun v7 => some ((v7, v3, v4, v5, v6, G_leaders)))) else (if x2 = 1 then (lt1 (vAt 24 v4 v2) (fun v8 => some ((v8, v3, v4, v5, v6, G_leaders)))) else (if x2 = 2 then (lt1 (vAt 24 v6 v2) (fun v9 => some ((v9, v3, v4, v5, v6, G_leaders)))) else (if x2 = 3 then (lt1 (vAt 24 Y_waysOf v2) (fun v10 => some ((v10, v3, v4, v5, v6, G_leaders)))) else (if x2 = 4 then (lt1 (vAt 24 v5 v2) (fun v11 => some ((v11, v3, v4, v5, v6, G_leaders)))) else (bd1 (m_X0_read N Y_islands Y_ways Y_firstOf Y_secondOf G_leaders S_bridges) (fun v12 => bd1 (m_X0_numberOf N v12 v2) (fun v13 => some ((v13, v3, v4, v5, v6, v12))))))))))))) else (some (((-1), U_numbers, U_bridges, U_caps, U_lacks, G_leaders))))))
set_option maxHeartbeats 4000000 in
set_option maxRecDepth 100000 in
theorem c_X9_islandInfo (l : Launch) (D : va_G) (cI cJ cS cB : ClassId) (a : Nat → Nat) (S_columns : Int32) (S_rows : Int32) (S_grade : Int32) (S_stepsMade : Int32) (S_numbers : Nat → Int32) (S_bridges : Nat → Int32) (S_caps : Nat → Int32) (Y_islands : Int32) (Y_ways : Int32) (Y_cellOf : Nat → Int32) (Y_islandAfter : Nat → Int32) (Y_firstOf : Nat → Int32) (Y_secondOf : Nat → Int32) (Y_waysOf : Nat → Int32) (U_numbers : Nat → Int32) (U_bridges : Nat → Int32) (U_caps : Nat → Int32) (U_lacks : Nat → Int32) (G_leaders : Nat → Int32) (x1 : Int32) (x2 : Int32) (N : Nat) (r0 : Int32) (U_numbers' : Nat → Int32) (U_bridges' : Nat → Int32) (U_caps' : Nat → Int32) (U_lacks' : Nat → Int32) (G_leaders' : Nat → Int32) (hm : m_X9_islandInfo N S_columns S_rows S_numbers S_bridges S_caps Y_islands Y_ways Y_cellOf Y_islandAfter Y_firstOf Y_secondOf Y_waysOf U_numbers U_bridges U_caps U_lacks G_leaders x1 x2 = some (r0, U_numbers', U_bridges', U_caps', U_lacks', G_leaders')) :
    mU l D (TYs cI cJ cS cB) yX9_islandInfo wsX9_islandInfo { frames := 3, cells := 0, slots := 0, locals := 69 } [.ref (a 0), .int x1, .int x2] [o_X a , o_S a S_columns S_rows S_grade S_stepsMade, ai (a 2) cI 144 S_numbers, ai (a 3) cI 48 S_bridges, ai (a 4) cI 48 S_caps, o_Y a Y_islands Y_ways, ai (a 6) cI 24 Y_cellOf, ai (a 7) cI 144 Y_islandAfter, ai (a 8) cI 48 Y_firstOf, ai (a 9) cI 48 Y_secondOf, ai (a 13) cI 24 Y_waysOf, o_U a , ai (a 16) cI 24 U_numbers, ai (a 17) cI 24 U_bridges, ai (a 18) cI 24 U_caps, ai (a 19) cI 24 U_lacks, o_G a , ai (a 21) cI 24 G_leaders] [o_X a , o_S a S_columns S_rows S_grade S_stepsMade, ai (a 2) cI 144 S_numbers, ai (a 3) cI 48 S_bridges, ai (a 4) cI 48 S_caps, o_Y a Y_islands Y_ways, ai (a 6) cI 24 Y_cellOf, ai (a 7) cI 144 Y_islandAfter, ai (a 8) cI 48 Y_firstOf, ai (a 9) cI 48 Y_secondOf, ai (a 13) cI 24 Y_waysOf, o_U a , ai (a 16) cI 24 U_numbers', ai (a 17) cI 24 U_bridges', ai (a 18) cI 24 U_caps', ai (a 19) cI 24 U_lacks', o_G a , ai (a 21) cI 24 G_leaders'] (some (.int r0)) := by
  refine mG_of (cc := cX9_islandInfo) (maxL := 4) (ret := (some .int)) (by decide) rfl rfl (Nat.le_of_ble_eq_true rfl) ?_
  intro p e s m args below meth c A hx hb hr hml hlk hnm hts hown hK hP hD hA hS ls hl
  have hl : lv_has ls 4 [(0, .ref (a 0)), (1, .int x1), (2, .int x2)] := hl
  have hiX0 : ∀ w ∈ wsX00, w ∈ wsX9_islandInfo := fun w h => List.mem_cons_of_mem _ (List.mem_append_right _ h)
  have hiX2 : ∀ w ∈ wsX20, w ∈ wsX9_islandInfo := fun w h => List.mem_cons_of_mem _ (List.mem_append_left _ (List.mem_append_right _ h))
  have hiX6 : ∀ w ∈ wsX60, w ∈ wsX9_islandInfo := fun w h => List.mem_cons_of_mem _ (List.mem_append_left _ (List.mem_append_left _ (List.mem_append_left _ (List.mem_append_right _ h))))
  have hiX7 : ∀ w ∈ wsX70, w ∈ wsX9_islandInfo := fun w h => List.mem_cons_of_mem _ (List.mem_append_left _ (List.mem_append_left _ (List.mem_append_right _ h)))
  have hiX9 : ∀ w ∈ wsX90, w ∈ wsX9_islandInfo := fun w h => List.mem_cons_of_mem _ (List.mem_append_left _ (List.mem_append_left _ (List.mem_append_left _ (List.mem_append_left _ (List.mem_append_right _ h)))))
  unfold m_X9_islandInfo at hm
  refine lv_aload_n hx hb dX9_islandInfo_0 rfl (lv_at hl 0 rfl) ?_
  refine lv_iload_n hx hb dX9_islandInfo_1 rfl (lv_at hl 1 rfl) ?_
  obtain ⟨v1, h_v1, hm⟩ := lt1_inv hm
  refine cVs ⟨hx, hb, hml, hown, hts⟩ (c_X9_isCell l D cI cJ cS cB a S_columns S_rows S_grade S_stepsMade x1 v1 h_v1) (cwV 1 hts gX9_islandInfo_X9_isCell rfl rfl rfl hd_X9_isCell ⟨(Nat.le_of_ble_eq_true rfl), (Nat.le_of_ble_eq_true rfl)⟩) hK hP hD hS hA [0, 1] rfl rfl rfl hl.1 (Nat.le_of_ble_eq_true rfl) ⟨Nat.zero_le _, Nat.zero_le _⟩ 0 rfl rfl rfl rfl dX9_islandInfo_2 (fun H locs hP hD hS => ?_)
  refine lv_if_eq (tgt := 17) hx hb dX9_islandInfo_5 (by decide) (fun c5 => ?_) (fun c5 => ?_)
  · have hm := ip c5 hm
    refine lv_iconst (v := (-1)) hx hb dX9_islandInfo_17 (by decide) ?_
    cases hm
    exact rI () hx hb hr hlk hP hD hS dX9_islandInfo_18
  · have hm := ine c5 hm
    refine lv_iload_n hx hb dX9_islandInfo_8 rfl (lv_at hl 2 rfl) ?_
    refine lv_if_lt (tgt := 17) hx hb dX9_islandInfo_9 (by decide) (fun c9 => ?_) (fun c9 => ?_)
    · have hm := ip c9 hm
      refine lv_iconst (v := (-1)) hx hb dX9_islandInfo_17 (by decide) ?_
      cases hm
      exact rI () hx hb hr hlk hP hD hS dX9_islandInfo_18
    · have hm := ine c9 hm
      refine lv_iload_n hx hb dX9_islandInfo_12 rfl (lv_at hl 2 rfl) ?_
      refine lv_iconst (v := 5) hx hb dX9_islandInfo_13 (by decide) ?_
      refine lv_icmp_le (tgt := 19) hx hb dX9_islandInfo_14 (by decide) (fun c14 => ?_) (fun c14 => ?_)
      · have hm := ip c14 hm
        refine lv_aload_n hx hb dX9_islandInfo_19 rfl (lv_at hl 0 rfl) ?_
        refine va_get (D := D) (ci := 9) (v := .ref (a 5)) (C := RX9) (T := TX9) (N := 9) hx hb hts hiX9 hown hK.1 hP 0 rfl rfl 1 (by decide) (hts (.fieldLink RX9 19 "IslandBridges" "layout" "LIslandBridges$Layout;") (List.mem_of_getElem? (i := 1) rfl)) (fun _ h9 => h9) rfl dX9_islandInfo_20 ?_
        refine lv_iload_n hx hb dX9_islandInfo_23 rfl (lv_at hl 1 rfl) ?_
        obtain ⟨v2, h_v2, hm⟩ := lt1_inv hm
        refine cVs ⟨hx, hb, hml, hown, hts⟩ (c_X2_islandOn l D cI cJ cS cB a Y_islands Y_ways Y_islandAfter x1 v2 h_v2) (cwV 1 hts gX9_islandInfo_X2_islandOn rfl rfl rfl hd_X2_islandOn ⟨(Nat.le_of_ble_eq_true rfl), (Nat.le_of_ble_eq_true rfl)⟩) hK hP hD hS hA [5, 7] rfl rfl rfl hl.1 (Nat.le_of_ble_eq_true rfl) ⟨Nat.zero_le _, Nat.zero_le _⟩ 5 rfl rfl rfl rfl dX9_islandInfo_24 (fun H locs hP hD hS => ?_)
        refine lv_istore_n (lv' := [(3, .int v2), (0, .ref (a 0)), (1, .int x1), (2, .int x2)]) hx hb dX9_islandInfo_27 rfl hl (by decide) rfl (fun ls hl => ?_)
        refine lv_iload_n hx hb dX9_islandInfo_28 rfl (lv_at hl 0 rfl) ?_
        refine lv_iconst (v := (-1)) hx hb dX9_islandInfo_29 (by decide) ?_
        refine lv_icmp_ne (tgt := 36) hx hb dX9_islandInfo_30 (by decide) (fun c30 => ?_) (fun c30 => ?_)
        · have hm := ine c30 hm
          refine lv_aload_n hx hb dX9_islandInfo_36 rfl (lv_at hl 1 rfl) ?_
          refine va_get (D := D) (ci := 9) (v := .ref (a 15)) (C := RX9) (T := TX9) (N := 9) hx hb hts hiX9 hown hK.1 hP 0 rfl rfl 2 (by decide) (hts (.fieldLink RX9 28 "IslandBridges" "sums" "LIslandBridges$Sums;") (List.mem_of_getElem? (i := 2) rfl)) (fun _ h9 => h9) rfl dX9_islandInfo_37 ?_
          obtain ⟨v3, v4, v5, v6, h_v3, hm⟩ := bd4_inv hm
          refine cVx ⟨hx, hb, hml, hown, hts⟩ (c_X7_read l D cI cJ cS cB a S_columns S_rows S_grade S_stepsMade S_numbers S_bridges S_caps Y_islands Y_ways Y_cellOf Y_firstOf Y_secondOf U_numbers U_bridges U_caps U_lacks N v3 v4 v5 v6 h_v3) (cwV 0 hts gX9_islandInfo_X7_read rfl rfl rfl hd_X7_read ⟨(Nat.le_of_ble_eq_true rfl), (Nat.le_of_ble_eq_true rfl)⟩) hK hP hD hS hA [1, 2, 3, 4, 5, 6, 8, 9, 11, 12, 13, 14, 15] rfl rfl [o_X a , o_S a S_columns S_rows S_grade S_stepsMade, ai (a 2) cI 144 S_numbers, ai (a 3) cI 48 S_bridges, ai (a 4) cI 48 S_caps, o_Y a Y_islands Y_ways, ai (a 6) cI 24 Y_cellOf, ai (a 7) cI 144 Y_islandAfter, ai (a 8) cI 48 Y_firstOf, ai (a 9) cI 48 Y_secondOf, ai (a 13) cI 24 Y_waysOf, o_U a , ai (a 16) cI 24 v3, ai (a 17) cI 24 v4, ai (a 18) cI 24 v5, ai (a 19) cI 24 v6, o_G a , ai (a 21) cI 24 G_leaders] [(false, 0), (true, 0), (true, 1), (true, 2), (true, 3), (true, 4), (true, 5), (false, 7), (true, 6), (true, 7), (false, 10), (true, 8), (true, 9), (true, 10), (true, 11), (true, 12), (false, 16), (false, 17)] rfl rfl rfl hl.1 (Nat.le_of_ble_eq_true rfl) ⟨Nat.zero_le _, Nat.zero_le _⟩ 11 rfl rfl rfl rfl dX9_islandInfo_40 (fun H locs hP hD hS => ?_)
          refine lv_iload_n hx hb dX9_islandInfo_43 rfl (lv_at hl 3 rfl) ?_
          by_cases q44_0 : x2 = 0
          · have hm := ip q44_0 hm
            refine lv_tableIn (off := 36) (tgt := 80) hx hb dX9_islandInfo_44 (by rw [q44_0]; decide) (by rw [q44_0]; decide) (by rw [q44_0]; rfl) (by decide) ?_
            refine lv_aload_n hx hb dX9_islandInfo_80 rfl (lv_at hl 1 rfl) ?_
            refine va_get (D := D) (ci := 9) (v := .ref (a 1)) (C := RX9) (T := TX9) (N := 9) hx hb hts hiX9 hown hK.1 hP 0 rfl rfl 0 (by decide) (hts (.fieldLink RX9 10 "IslandBridges" "state" "LIslandBridges$State;") (List.mem_of_getElem? (i := 3) rfl)) (fun _ h9 => h9) rfl dX9_islandInfo_81 ?_
            refine va_get (D := D) (ci := 6) (v := .ref (a 2)) (C := RX6) (T := TX6) (N := 7) hx hb hts hiX6 hown hK.1 hP 1 rfl rfl 0 (by decide) (hts (.fieldLink RX9 102 "IslandBridges$State" "numbers" "[I") (List.mem_of_getElem? (i := 4) rfl)) (fun _ h9 => h9) rfl dX9_islandInfo_84 ?_
            refine lv_iload_n hx hb dX9_islandInfo_87 rfl (lv_at hl 2 rfl) ?_
            obtain ⟨v7, ev7, hm⟩ := lt1_inv hm
            refine cSs ⟨hx, hb, hml, hown, hts⟩ (c_X9_valueAt l D cI cJ cS cB (a 2) 144 (Nat.le_of_ble_eq_true rfl) S_numbers x1 v7 ev7) (va_cwS 2 hts gX9_islandInfo_X9_valueAt rfl rfl rfl hd_X9_valueAt ⟨(Nat.le_of_ble_eq_true rfl), (Nat.le_of_ble_eq_true rfl)⟩) hK hP hD hS hA [2] rfl rfl rfl hl.1 (Nat.le_of_ble_eq_true rfl) ⟨Nat.zero_le _, Nat.zero_le _⟩ rfl dX9_islandInfo_88 (fun H locs hP hD hS => ?_)
            cases hm
            exact rI () hx hb hr hlk hP hD hS dX9_islandInfo_91
          have hm := ine q44_0 hm
          by_cases q44_1 : x2 = 1
          · have hm := ip q44_1 hm
            refine lv_tableIn (off := 48) (tgt := 92) hx hb dX9_islandInfo_44 (by rw [q44_1]; decide) (by rw [q44_1]; decide) (by rw [q44_1]; rfl) (by decide) ?_
            refine lv_aload_n hx hb dX9_islandInfo_92 rfl (lv_at hl 1 rfl) ?_
            refine va_get (D := D) (ci := 9) (v := .ref (a 15)) (C := RX9) (T := TX9) (N := 9) hx hb hts hiX9 hown hK.1 hP 0 rfl rfl 2 (by decide) (hts (.fieldLink RX9 28 "IslandBridges" "sums" "LIslandBridges$Sums;") (List.mem_of_getElem? (i := 2) rfl)) (fun _ h9 => h9) rfl dX9_islandInfo_93 ?_
            refine va_get (D := D) (ci := 7) (v := .ref (a 17)) (C := RX7) (T := TX7) (N := 6) hx hb hts hiX7 hown hK.1 hP 11 rfl rfl 3 (by decide) (hts (.fieldLink RX9 134 "IslandBridges$Sums" "bridges" "[I") (List.mem_of_getElem? (i := 5) rfl)) (fun _ h9 => h9) rfl dX9_islandInfo_96 ?_
            refine lv_iload_n hx hb dX9_islandInfo_99 rfl (lv_at hl 0 rfl) ?_
            obtain ⟨v8, ev8, hm⟩ := lt1_inv hm
            refine cSs ⟨hx, hb, hml, hown, hts⟩ (c_X9_valueAt l D cI cJ cS cB (a 17) 24 (Nat.le_of_ble_eq_true rfl) v4 v2 v8 ev8) (va_cwS 2 hts gX9_islandInfo_X9_valueAt rfl rfl rfl hd_X9_valueAt ⟨(Nat.le_of_ble_eq_true rfl), (Nat.le_of_ble_eq_true rfl)⟩) hK hP hD hS hA [13] rfl rfl rfl hl.1 (Nat.le_of_ble_eq_true rfl) ⟨Nat.zero_le _, Nat.zero_le _⟩ rfl dX9_islandInfo_100 (fun H locs hP hD hS => ?_)
            cases hm
            exact rI () hx hb hr hlk hP hD hS dX9_islandInfo_103
          have hm := ine q44_1 hm
          by_cases q44_2 : x2 = 2
          · have hm := ip q44_2 hm
            refine lv_tableIn (off := 60) (tgt := 104) hx hb dX9_islandInfo_44 (by rw [q44_2]; decide) (by rw [q44_2]; decide) (by rw [q44_2]; rfl) (by decide) ?_
            refine lv_aload_n hx hb dX9_islandInfo_104 rfl (lv_at hl 1 rfl) ?_
            refine va_get (D := D) (ci := 9) (v := .ref (a 15)) (C := RX9) (T := TX9) (N := 9) hx hb hts hiX9 hown hK.1 hP 0 rfl rfl 2 (by decide) (hts (.fieldLink RX9 28 "IslandBridges" "sums" "LIslandBridges$Sums;") (List.mem_of_getElem? (i := 2) rfl)) (fun _ h9 => h9) rfl dX9_islandInfo_105 ?_
            refine va_get (D := D) (ci := 7) (v := .ref (a 19)) (C := RX7) (T := TX7) (N := 6) hx hb hts hiX7 hown hK.1 hP 11 rfl rfl 5 (by decide) (hts (.fieldLink RX9 135 "IslandBridges$Sums" "lacks" "[I") (List.mem_of_getElem? (i := 6) rfl)) (fun _ h9 => h9) rfl dX9_islandInfo_108 ?_
            refine lv_iload_n hx hb dX9_islandInfo_111 rfl (lv_at hl 0 rfl) ?_
            obtain ⟨v9, ev9, hm⟩ := lt1_inv hm
            refine cSs ⟨hx, hb, hml, hown, hts⟩ (c_X9_valueAt l D cI cJ cS cB (a 19) 24 (Nat.le_of_ble_eq_true rfl) v6 v2 v9 ev9) (va_cwS 2 hts gX9_islandInfo_X9_valueAt rfl rfl rfl hd_X9_valueAt ⟨(Nat.le_of_ble_eq_true rfl), (Nat.le_of_ble_eq_true rfl)⟩) hK hP hD hS hA [15] rfl rfl rfl hl.1 (Nat.le_of_ble_eq_true rfl) ⟨Nat.zero_le _, Nat.zero_le _⟩ rfl dX9_islandInfo_112 (fun H locs hP hD hS => ?_)
            cases hm
            exact rI () hx hb hr hlk hP hD hS dX9_islandInfo_115
          have hm := ine q44_2 hm
          by_cases q44_3 : x2 = 3
          · have hm := ip q44_3 hm
            refine lv_tableIn (off := 72) (tgt := 116) hx hb dX9_islandInfo_44 (by rw [q44_3]; decide) (by rw [q44_3]; decide) (by rw [q44_3]; rfl) (by decide) ?_
            refine lv_aload_n hx hb dX9_islandInfo_116 rfl (lv_at hl 1 rfl) ?_
            refine va_get (D := D) (ci := 9) (v := .ref (a 5)) (C := RX9) (T := TX9) (N := 9) hx hb hts hiX9 hown hK.1 hP 0 rfl rfl 1 (by decide) (hts (.fieldLink RX9 19 "IslandBridges" "layout" "LIslandBridges$Layout;") (List.mem_of_getElem? (i := 1) rfl)) (fun _ h9 => h9) rfl dX9_islandInfo_117 ?_
            refine va_get (D := D) (ci := 2) (v := .ref (a 13)) (C := RX2) (T := TX2) (N := 11) hx hb hts hiX2 hown hK.1 hP 5 rfl rfl 7 (by decide) (hts (.fieldLink RX9 138 "IslandBridges$Layout" "waysOf" "[I") (List.mem_of_getElem? (i := 7) rfl)) (fun _ h9 => h9) rfl dX9_islandInfo_120 ?_
            refine lv_iload_n hx hb dX9_islandInfo_123 rfl (lv_at hl 0 rfl) ?_
            obtain ⟨v10, ev10, hm⟩ := lt1_inv hm
            refine cSs ⟨hx, hb, hml, hown, hts⟩ (c_X9_valueAt l D cI cJ cS cB (a 13) 24 (Nat.le_of_ble_eq_true rfl) Y_waysOf v2 v10 ev10) (va_cwS 2 hts gX9_islandInfo_X9_valueAt rfl rfl rfl hd_X9_valueAt ⟨(Nat.le_of_ble_eq_true rfl), (Nat.le_of_ble_eq_true rfl)⟩) hK hP hD hS hA [10] rfl rfl rfl hl.1 (Nat.le_of_ble_eq_true rfl) ⟨Nat.zero_le _, Nat.zero_le _⟩ rfl dX9_islandInfo_124 (fun H locs hP hD hS => ?_)
            cases hm
            exact rI () hx hb hr hlk hP hD hS dX9_islandInfo_127
          have hm := ine q44_3 hm
          by_cases q44_4 : x2 = 4
          · have hm := ip q44_4 hm
            refine lv_tableIn (off := 84) (tgt := 128) hx hb dX9_islandInfo_44 (by rw [q44_4]; decide) (by rw [q44_4]; decide) (by rw [q44_4]; rfl) (by decide) ?_
            refine lv_aload_n hx hb dX9_islandInfo_128 rfl (lv_at hl 1 rfl) ?_
            refine va_get (D := D) (ci := 9) (v := .ref (a 15)) (C := RX9) (T := TX9) (N := 9) hx hb hts hiX9 hown hK.1 hP 0 rfl rfl 2 (by decide) (hts (.fieldLink RX9 28 "IslandBridges" "sums" "LIslandBridges$Sums;") (List.mem_of_getElem? (i := 2) rfl)) (fun _ h9 => h9) rfl dX9_islandInfo_129 ?_
            refine va_get (D := D) (ci := 7) (v := .ref (a 18)) (C := RX7) (T := TX7) (N := 6) hx hb hts hiX7 hown hK.1 hP 11 rfl rfl 4 (by decide) (hts (.fieldLink RX9 141 "IslandBridges$Sums" "caps" "[I") (List.mem_of_getElem? (i := 8) rfl)) (fun _ h9 => h9) rfl dX9_islandInfo_132 ?_
            refine lv_iload_n hx hb dX9_islandInfo_135 rfl (lv_at hl 0 rfl) ?_
            obtain ⟨v11, ev11, hm⟩ := lt1_inv hm
            refine cSs ⟨hx, hb, hml, hown, hts⟩ (c_X9_valueAt l D cI cJ cS cB (a 18) 24 (Nat.le_of_ble_eq_true rfl) v5 v2 v11 ev11) (va_cwS 2 hts gX9_islandInfo_X9_valueAt rfl rfl rfl hd_X9_valueAt ⟨(Nat.le_of_ble_eq_true rfl), (Nat.le_of_ble_eq_true rfl)⟩) hK hP hD hS hA [14] rfl rfl rfl hl.1 (Nat.le_of_ble_eq_true rfl) ⟨Nat.zero_le _, Nat.zero_le _⟩ rfl dX9_islandInfo_136 (fun H locs hP hD hS => ?_)
            cases hm
            exact rI () hx hb hr hlk hP hD hS dX9_islandInfo_139
          have hm := ine q44_4 hm
          have w44_0 : x2.toInt ≠ 0 := fun h9 => q44_0 (Int32.toInt_inj.mp (h9.trans rfl))
          have w44_1 : x2.toInt ≠ 1 := fun h9 => q44_1 (Int32.toInt_inj.mp (h9.trans rfl))
          have w44_2 : x2.toInt ≠ 2 := fun h9 => q44_2 (Int32.toInt_inj.mp (h9.trans rfl))
          have w44_3 : x2.toInt ≠ 3 := fun h9 => q44_3 (Int32.toInt_inj.mp (h9.trans rfl))
          have w44_4 : x2.toInt ≠ 4 := fun h9 => q44_4 (Int32.toInt_inj.mp (h9.trans rfl))
          refine lv_tableOut (tgt := 140) hx hb dX9_islandInfo_44 (by omega) (by decide) ?_
          refine lv_aload_n hx hb dX9_islandInfo_140 rfl (lv_at hl 1 rfl) ?_
          refine va_get (D := D) (ci := 9) (v := .ref (a 20)) (C := RX9) (T := TX9) (N := 9) hx hb hts hiX9 hown hK.1 hP 0 rfl rfl 3 (by decide) (hts (.fieldLink RX9 37 "IslandBridges" "groups" "LIslandBridges$Groups;") (List.mem_of_getElem? (i := 9) rfl)) (fun _ h9 => h9) rfl dX9_islandInfo_141 ?_
          refine lv_aload_n hx hb dX9_islandInfo_144 rfl (lv_at hl 1 rfl) ?_
          refine va_get (D := D) (ci := 9) (v := .ref (a 1)) (C := RX9) (T := TX9) (N := 9) hx hb hts hiX9 hown hK.1 hP 0 rfl rfl 0 (by decide) (hts (.fieldLink RX9 10 "IslandBridges" "state" "LIslandBridges$State;") (List.mem_of_getElem? (i := 3) rfl)) (fun _ h9 => h9) rfl dX9_islandInfo_145 ?_
          refine va_get (D := D) (ci := 6) (v := .ref (a 3)) (C := RX6) (T := TX6) (N := 7) hx hb hts hiX6 hown hK.1 hP 1 rfl rfl 1 (by decide) (hts (.fieldLink RX9 117 "IslandBridges$State" "bridges" "[I") (List.mem_of_getElem? (i := 10) rfl)) (fun _ h9 => h9) rfl dX9_islandInfo_148 ?_
          obtain ⟨v12, h_v12, hm⟩ := bd1_inv hm
          refine cVx ⟨hx, hb, hml, hown, hts⟩ (c_X0_read l D cI cJ cS cB a (a 3) Y_islands Y_ways Y_firstOf Y_secondOf G_leaders S_bridges N v12 h_v12) (cwV 1 hts gX9_islandInfo_X0_read rfl rfl rfl hd_X0_read ⟨(Nat.le_of_ble_eq_true rfl), (Nat.le_of_ble_eq_true rfl)⟩) hK hP hD hS hA [5, 8, 9, 16, 17, 3] rfl rfl [o_X a , o_S a S_columns S_rows S_grade S_stepsMade, ai (a 2) cI 144 S_numbers, ai (a 3) cI 48 S_bridges, ai (a 4) cI 48 S_caps, o_Y a Y_islands Y_ways, ai (a 6) cI 24 Y_cellOf, ai (a 7) cI 144 Y_islandAfter, ai (a 8) cI 48 Y_firstOf, ai (a 9) cI 48 Y_secondOf, ai (a 13) cI 24 Y_waysOf, o_U a , ai (a 16) cI 24 v3, ai (a 17) cI 24 v4, ai (a 18) cI 24 v5, ai (a 19) cI 24 v6, o_G a , ai (a 21) cI 24 v12] [(false, 0), (false, 1), (false, 2), (true, 5), (false, 4), (true, 0), (false, 6), (false, 7), (true, 1), (true, 2), (false, 10), (false, 11), (false, 12), (false, 13), (false, 14), (false, 15), (true, 3), (true, 4)] rfl rfl rfl hl.1 (Nat.le_of_ble_eq_true rfl) ⟨Nat.zero_le _, Nat.zero_le _⟩ 16 rfl rfl rfl rfl dX9_islandInfo_151 (fun H locs hP hD hS => ?_)
          refine lv_aload_n hx hb dX9_islandInfo_154 rfl (lv_at hl 1 rfl) ?_
          refine va_get (D := D) (ci := 9) (v := .ref (a 20)) (C := RX9) (T := TX9) (N := 9) hx hb hts hiX9 hown hK.1 hP 0 rfl rfl 3 (by decide) (hts (.fieldLink RX9 37 "IslandBridges" "groups" "LIslandBridges$Groups;") (List.mem_of_getElem? (i := 9) rfl)) (fun _ h9 => h9) rfl dX9_islandInfo_155 ?_
          refine lv_iload_n hx hb dX9_islandInfo_158 rfl (lv_at hl 0 rfl) ?_
          obtain ⟨v13, h_v13, hm⟩ := bd1_inv hm
          refine cVs ⟨hx, hb, hml, hown, hts⟩ (c_X0_numberOf l D cI cJ cS cB a v12 v2 N v13 h_v13) (cwV 1 hts gX9_islandInfo_X0_numberOf rfl rfl rfl hd_X0_numberOf ⟨(Nat.le_of_ble_eq_true rfl), (Nat.le_of_ble_eq_true rfl)⟩) hK hP hD hS hA [16, 17] rfl rfl rfl hl.1 (Nat.le_of_ble_eq_true rfl) ⟨Nat.zero_le _, Nat.zero_le _⟩ 16 rfl rfl rfl rfl dX9_islandInfo_159 (fun H locs hP hD hS => ?_)
          cases hm
          exact rI () hx hb hr hlk hP hD hS dX9_islandInfo_162
        · have hm := ip c30 hm
          refine lv_bipush (v := (-4)) hx hb dX9_islandInfo_33 (by decide) ?_
          cases hm
          exact rI () hx hb hr hlk hP hD hS dX9_islandInfo_35
      · have hm := ine c14 hm
        refine lv_iconst (v := (-1)) hx hb dX9_islandInfo_17 (by decide) ?_
        cases hm
        exact rI () hx hb hr hlk hP hD hS dX9_islandInfo_18
theorem hd_X9_isWay : yX9_isWay.cls = RX9 ∧ yX9_isWay.cls ≠ "java/lang/invoke/MethodHandle" ∧ yX9_isWay.cls ≠ "java/lang/invoke/VarHandle" ∧ (parseMethodDescriptor yX9_isWay.desc).map (fun d => d.parameters.length) = some 1 := by decide +kernel
def m_X9_isWay (Y_ways : Int32) (x1 : Int32) : Int32 :=
  if x1 < 0 then (0) else (if Y_ways ≤ x1 then (0) else (1))
set_option maxHeartbeats 4000000 in
set_option maxRecDepth 100000 in
theorem c_X9_isWay (l : Launch) (D : va_G) (cI cJ cS cB : ClassId) (a : Nat → Nat) (Y_islands : Int32) (Y_ways : Int32) (x1 : Int32) (r0 : Int32) (hm : m_X9_isWay Y_ways x1 = r0) :
    mU l D (TYs cI cJ cS cB) yX9_isWay wsX9_isWay { frames := 0, cells := 0, slots := 0, locals := 0 } [.ref (a 0), .int x1] [o_X a , o_Y a Y_islands Y_ways] [o_X a , o_Y a Y_islands Y_ways] (some (.int r0)) := by
  refine mG_of (cc := cX9_isWay) (maxL := 2) (ret := (some .boolean)) (by decide) rfl rfl (Nat.le_of_ble_eq_true rfl) ?_
  intro p e s m args below meth c A hx hb hr hml hlk hnm hts hown hK hP hD hA hS ls hl
  have hl : lv_has ls 2 [(0, .ref (a 0)), (1, .int x1)] := hl
  have hiX2 : ∀ w ∈ wsX20, w ∈ wsX9_isWay := fun w h => List.mem_cons_of_mem _ (List.mem_append_right _ h)
  have hiX9 : ∀ w ∈ wsX90, w ∈ wsX9_isWay := fun w h => List.mem_cons_of_mem _ (List.mem_append_left _ (List.mem_append_right _ h))
  unfold m_X9_isWay at hm
  refine lv_iload_n hx hb dX9_isWay_0 rfl (lv_at hl 1 rfl) ?_
  refine lv_if_lt (tgt := 19) hx hb dX9_isWay_1 (by decide) (fun c1 => ?_) (fun c1 => ?_)
  · have hm := ip c1 hm
    refine lv_iconst (v := 0) hx hb dX9_isWay_19 (by decide) ?_
    cases hm
    exact rZ () hx hb hr hlk (by decide) hP hD hS dX9_isWay_20
  · have hm := ine c1 hm
    refine lv_iload_n hx hb dX9_isWay_4 rfl (lv_at hl 1 rfl) ?_
    refine lv_aload_n hx hb dX9_isWay_5 rfl (lv_at hl 0 rfl) ?_
    refine va_get (D := D) (ci := 9) (v := .ref (a 5)) (C := RX9) (T := TX9) (N := 9) hx hb hts hiX9 hown hK.1 hP 0 rfl rfl 1 (by decide) (hts (.fieldLink RX9 19 "IslandBridges" "layout" "LIslandBridges$Layout;") (List.mem_of_getElem? (i := 1) rfl)) (fun _ h9 => h9) rfl dX9_isWay_6 ?_
    refine va_get (D := D) (ci := 2) (v := .int Y_ways) (C := RX2) (T := TX2) (N := 11) hx hb hts hiX2 hown hK.1 hP 1 rfl rfl 10 (by decide) (hts (.fieldLink RX9 114 "IslandBridges$Layout" "ways" "I") (List.mem_of_getElem? (i := 2) rfl)) (fun _ h9 => h9) rfl dX9_isWay_9 ?_
    refine lv_icmp_ge (tgt := 19) hx hb dX9_isWay_12 (by decide) (fun c12 => ?_) (fun c12 => ?_)
    · have hm := ip c12 hm
      refine lv_iconst (v := 0) hx hb dX9_isWay_19 (by decide) ?_
      cases hm
      exact rZ () hx hb hr hlk (by decide) hP hD hS dX9_isWay_20
    · have hm := ine c12 hm
      refine lv_iconst (v := 1) hx hb dX9_isWay_15 (by decide) ?_
      refine lv_goto (tgt := 20) hx hb dX9_isWay_16 (by decide) ?_
      cases hm
      exact rZ () hx hb hr hlk (by decide) hP hD hS dX9_isWay_20
theorem hd_X9_reasonAgainst : yX9_reasonAgainst.cls = RX9 ∧ yX9_reasonAgainst.cls ≠ "java/lang/invoke/MethodHandle" ∧ yX9_reasonAgainst.cls ≠ "java/lang/invoke/VarHandle" ∧ (parseMethodDescriptor yX9_reasonAgainst.desc).map (fun d => d.parameters.length) = some 1 := by decide +kernel
def m_X9_reasonAgainst (N : Nat) (S_numbers : Nat → Int32) (S_bridges : Nat → Int32) (S_caps : Nat → Int32) (Y_islands : Int32) (Y_ways : Int32) (Y_cellOf : Nat → Int32) (Y_firstOf : Nat → Int32) (Y_secondOf : Nat → Int32) (Y_crossings : Nat → Int64) (U_numbers : Nat → Int32) (U_bridges : Nat → Int32) (U_caps : Nat → Int32) (U_lacks : Nat → Int32) (x1 : Int32) : Option (Int32 × (Nat → Int32) × (Nat → Int32) × (Nat → Int32) × (Nat → Int32)) :=
  lt1 (vAt 48 S_bridges x1) (fun v1 => if v1 < 2 then (lt1 (vAt 48 S_caps x1) (fun v2 => if v2 = v1 then (some ((2, U_numbers, U_bridges, U_caps, U_lacks))) else (bd1 (m_X2_crossingsOf Y_crossings x1) (fun v3 => bd1 (m_X2_waysWith N Y_ways S_bridges) (fun v4 => if (lg_cmp (v3 &&& v4) ((0 : Int64))) = 0 then (bd4 (m_X7_read N S_numbers S_bridges S_caps Y_islands Y_ways Y_cellOf Y_firstOf Y_secondOf U_numbers U_bridges U_caps U_lacks) (fun v5 v6 v7 v8 => lt1 (m_X7_lesserLack Y_firstOf Y_secondOf v8 x1) (fun v9 => if 0 < v9 then (some ((0, v5, v6, v7, v8))) else (some ((4, v5, v6, v7, v8)))))) else (some ((3, U_numbers, U_bridges, U_caps, U_lacks)))))))) else (some ((1, U_numbers, U_bridges, U_caps, U_lacks))))
set_option maxHeartbeats 4000000 in
set_option maxRecDepth 100000 in
theorem c_X9_reasonAgainst (l : Launch) (D : va_G) (cI cJ cS cB : ClassId) (a : Nat → Nat) (S_columns : Int32) (S_rows : Int32) (S_grade : Int32) (S_stepsMade : Int32) (S_numbers : Nat → Int32) (S_bridges : Nat → Int32) (S_caps : Nat → Int32) (Y_islands : Int32) (Y_ways : Int32) (Y_cellOf : Nat → Int32) (Y_firstOf : Nat → Int32) (Y_secondOf : Nat → Int32) (Y_crossings : Nat → Int64) (U_numbers : Nat → Int32) (U_bridges : Nat → Int32) (U_caps : Nat → Int32) (U_lacks : Nat → Int32) (x1 : Int32) (N : Nat) (r0 : Int32) (U_numbers' : Nat → Int32) (U_bridges' : Nat → Int32) (U_caps' : Nat → Int32) (U_lacks' : Nat → Int32) (hm : m_X9_reasonAgainst N S_numbers S_bridges S_caps Y_islands Y_ways Y_cellOf Y_firstOf Y_secondOf Y_crossings U_numbers U_bridges U_caps U_lacks x1 = some (r0, U_numbers', U_bridges', U_caps', U_lacks')) :
    mU l D (TYs cI cJ cS cB) yX9_reasonAgainst wsX9_reasonAgainst { frames := 3, cells := 0, slots := 0, locals := 66 } [.ref (a 0), .int x1] [o_X a , o_S a S_columns S_rows S_grade S_stepsMade, ai (a 2) cI 144 S_numbers, ai (a 3) cI 48 S_bridges, ai (a 4) cI 48 S_caps, o_Y a Y_islands Y_ways, ai (a 6) cI 24 Y_cellOf, ai (a 8) cI 48 Y_firstOf, ai (a 9) cI 48 Y_secondOf, aj (a 14) cJ 48 Y_crossings, o_U a , ai (a 16) cI 24 U_numbers, ai (a 17) cI 24 U_bridges, ai (a 18) cI 24 U_caps, ai (a 19) cI 24 U_lacks] [o_X a , o_S a S_columns S_rows S_grade S_stepsMade, ai (a 2) cI 144 S_numbers, ai (a 3) cI 48 S_bridges, ai (a 4) cI 48 S_caps, o_Y a Y_islands Y_ways, ai (a 6) cI 24 Y_cellOf, ai (a 8) cI 48 Y_firstOf, ai (a 9) cI 48 Y_secondOf, aj (a 14) cJ 48 Y_crossings, o_U a , ai (a 16) cI 24 U_numbers', ai (a 17) cI 24 U_bridges', ai (a 18) cI 24 U_caps', ai (a 19) cI 24 U_lacks'] (some (.int r0)) := by
  refine mG_of (cc := cX9_reasonAgainst) (maxL := 3) (ret := (some .int)) (by decide) rfl rfl (Nat.le_of_ble_eq_true rfl) ?_
  intro p e s m args below meth c A hx hb hr hml hlk hnm hts hown hK hP hD hA hS ls hl
  have hl : lv_has ls 3 [(0, .ref (a 0)), (1, .int x1)] := hl
  have hiX2 : ∀ w ∈ wsX20, w ∈ wsX9_reasonAgainst := fun w h => List.mem_cons_of_mem _ (List.mem_append_left _ (List.mem_append_right _ h))
  have hiX6 : ∀ w ∈ wsX60, w ∈ wsX9_reasonAgainst := fun w h => List.mem_cons_of_mem _ (List.mem_append_left _ (List.mem_append_left _ (List.mem_append_right _ h)))
  have hiX7 : ∀ w ∈ wsX70, w ∈ wsX9_reasonAgainst := fun w h => List.mem_cons_of_mem _ (List.mem_append_right _ h)
  have hiX9 : ∀ w ∈ wsX90, w ∈ wsX9_reasonAgainst := fun w h => List.mem_cons_of_mem _ (List.mem_append_left _ (List.mem_append_left _ (List.mem_append_left _ (List.mem_append_right _ h))))
  unfold m_X9_reasonAgainst at hm
  refine lv_aload_n hx hb dX9_reasonAgainst_0 rfl (lv_at hl 0 rfl) ?_
  refine va_get (D := D) (ci := 9) (v := .ref (a 1)) (C := RX9) (T := TX9) (N := 9) hx hb hts hiX9 hown hK.1 hP 0 rfl rfl 0 (by decide) (hts (.fieldLink RX9 10 "IslandBridges" "state" "LIslandBridges$State;") (List.mem_of_getElem? (i := 1) rfl)) (fun _ h9 => h9) rfl dX9_reasonAgainst_1 ?_
  refine va_get (D := D) (ci := 6) (v := .ref (a 3)) (C := RX6) (T := TX6) (N := 7) hx hb hts hiX6 hown hK.1 hP 1 rfl rfl 1 (by decide) (hts (.fieldLink RX9 117 "IslandBridges$State" "bridges" "[I") (List.mem_of_getElem? (i := 2) rfl)) (fun _ h9 => h9) rfl dX9_reasonAgainst_4 ?_
  refine lv_iload_n hx hb dX9_reasonAgainst_7 rfl (lv_at hl 1 rfl) ?_
  obtain ⟨v1, ev1, hm⟩ := lt1_inv hm
  refine cSs ⟨hx, hb, hml, hown, hts⟩ (c_X9_valueAt l D cI cJ cS cB (a 3) 48 (Nat.le_of_ble_eq_true rfl) S_bridges x1 v1 ev1) (va_cwS 2 hts gX9_reasonAgainst_X9_valueAt rfl rfl rfl hd_X9_valueAt ⟨(Nat.le_of_ble_eq_true rfl), (Nat.le_of_ble_eq_true rfl)⟩) hK hP hD hS hA [3] rfl rfl rfl hl.1 (Nat.le_of_ble_eq_true rfl) ⟨Nat.zero_le _, Nat.zero_le _⟩ rfl dX9_reasonAgainst_8 (fun H locs hP hD hS => ?_)
  refine lv_istore_n (lv' := [(2, .int v1), (0, .ref (a 0)), (1, .int x1)]) hx hb dX9_reasonAgainst_11 rfl hl (by decide) rfl (fun ls hl => ?_)
  refine lv_iload_n hx hb dX9_reasonAgainst_12 rfl (lv_at hl 0 rfl) ?_
  refine lv_iconst (v := 2) hx hb dX9_reasonAgainst_13 (by decide) ?_
  refine lv_icmp_lt (tgt := 19) hx hb dX9_reasonAgainst_14 (by decide) (fun c14 => ?_) (fun c14 => ?_)
  · have hm := ip c14 hm
    refine lv_aload_n hx hb dX9_reasonAgainst_19 rfl (lv_at hl 1 rfl) ?_
    refine va_get (D := D) (ci := 9) (v := .ref (a 1)) (C := RX9) (T := TX9) (N := 9) hx hb hts hiX9 hown hK.1 hP 0 rfl rfl 0 (by decide) (hts (.fieldLink RX9 10 "IslandBridges" "state" "LIslandBridges$State;") (List.mem_of_getElem? (i := 1) rfl)) (fun _ h9 => h9) rfl dX9_reasonAgainst_20 ?_
    refine va_get (D := D) (ci := 6) (v := .ref (a 4)) (C := RX6) (T := TX6) (N := 7) hx hb hts hiX6 hown hK.1 hP 1 rfl rfl 2 (by decide) (hts (.fieldLink RX9 159 "IslandBridges$State" "caps" "[I") (List.mem_of_getElem? (i := 3) rfl)) (fun _ h9 => h9) rfl dX9_reasonAgainst_23 ?_
    refine lv_iload_n hx hb dX9_reasonAgainst_26 rfl (lv_at hl 2 rfl) ?_
    obtain ⟨v2, ev2, hm⟩ := lt1_inv hm
    refine cSs ⟨hx, hb, hml, hown, hts⟩ (c_X9_valueAt l D cI cJ cS cB (a 4) 48 (Nat.le_of_ble_eq_true rfl) S_caps x1 v2 ev2) (va_cwS 2 hts gX9_reasonAgainst_X9_valueAt rfl rfl rfl hd_X9_valueAt ⟨(Nat.le_of_ble_eq_true rfl), (Nat.le_of_ble_eq_true rfl)⟩) hK hP hD hS hA [4] rfl rfl rfl hl.1 (Nat.le_of_ble_eq_true rfl) ⟨Nat.zero_le _, Nat.zero_le _⟩ rfl dX9_reasonAgainst_27 (fun H locs hP hD hS => ?_)
    refine lv_iload_n hx hb dX9_reasonAgainst_30 rfl (lv_at hl 0 rfl) ?_
    refine lv_icmp_ne (tgt := 36) hx hb dX9_reasonAgainst_31 (by decide) (fun c31 => ?_) (fun c31 => ?_)
    · have hm := ine c31 hm
      refine lv_aload_n hx hb dX9_reasonAgainst_36 rfl (lv_at hl 1 rfl) ?_
      refine va_get (D := D) (ci := 9) (v := .ref (a 5)) (C := RX9) (T := TX9) (N := 9) hx hb hts hiX9 hown hK.1 hP 0 rfl rfl 1 (by decide) (hts (.fieldLink RX9 19 "IslandBridges" "layout" "LIslandBridges$Layout;") (List.mem_of_getElem? (i := 4) rfl)) (fun _ h9 => h9) rfl dX9_reasonAgainst_37 ?_
      refine lv_iload_n hx hb dX9_reasonAgainst_40 rfl (lv_at hl 2 rfl) ?_
      obtain ⟨v3, h_v3, hm⟩ := bd1_inv hm
      refine cVs ⟨hx, hb, hml, hown, hts⟩ (c_X2_crossingsOf l D cI cJ cS cB a Y_islands Y_ways Y_crossings x1 v3 h_v3) (cwV 1 hts gX9_reasonAgainst_X2_crossingsOf rfl rfl rfl hd_X2_crossingsOf ⟨(Nat.le_of_ble_eq_true rfl), (Nat.le_of_ble_eq_true rfl)⟩) hK hP hD hS hA [5, 9] rfl rfl rfl hl.1 (Nat.le_of_ble_eq_true rfl) ⟨Nat.zero_le _, Nat.zero_le _⟩ 5 rfl rfl rfl rfl dX9_reasonAgainst_41 (fun H locs hP hD hS => ?_)
      refine lv_aload_n hx hb dX9_reasonAgainst_44 rfl (lv_at hl 1 rfl) ?_
      refine va_get (D := D) (ci := 9) (v := .ref (a 5)) (C := RX9) (T := TX9) (N := 9) hx hb hts hiX9 hown hK.1 hP 0 rfl rfl 1 (by decide) (hts (.fieldLink RX9 19 "IslandBridges" "layout" "LIslandBridges$Layout;") (List.mem_of_getElem? (i := 4) rfl)) (fun _ h9 => h9) rfl dX9_reasonAgainst_45 ?_
      refine lv_aload_n hx hb dX9_reasonAgainst_48 rfl (lv_at hl 1 rfl) ?_
      refine va_get (D := D) (ci := 9) (v := .ref (a 1)) (C := RX9) (T := TX9) (N := 9) hx hb hts hiX9 hown hK.1 hP 0 rfl rfl 0 (by decide) (hts (.fieldLink RX9 10 "IslandBridges" "state" "LIslandBridges$State;") (List.mem_of_getElem? (i := 1) rfl)) (fun _ h9 => h9) rfl dX9_reasonAgainst_49 ?_
      refine va_get (D := D) (ci := 6) (v := .ref (a 3)) (C := RX6) (T := TX6) (N := 7) hx hb hts hiX6 hown hK.1 hP 1 rfl rfl 1 (by decide) (hts (.fieldLink RX9 117 "IslandBridges$State" "bridges" "[I") (List.mem_of_getElem? (i := 2) rfl)) (fun _ h9 => h9) rfl dX9_reasonAgainst_52 ?_
      obtain ⟨v4, h_v4, hm⟩ := bd1_inv hm
      refine cVs ⟨hx, hb, hml, hown, hts⟩ (c_X2_waysWith l D cI cJ cS cB a (a 3) Y_islands Y_ways S_bridges N v4 h_v4) (cwV 1 hts gX9_reasonAgainst_X2_waysWith rfl rfl rfl hd_X2_waysWith ⟨(Nat.le_of_ble_eq_true rfl), (Nat.le_of_ble_eq_true rfl)⟩) hK hP hD hS hA [5, 3] rfl rfl rfl hl.1 (Nat.le_of_ble_eq_true rfl) ⟨Nat.zero_le _, Nat.zero_le _⟩ 5 rfl rfl rfl rfl dX9_reasonAgainst_55 (fun H locs hP hD hS => ?_)
      refine lv_land hx hb dX9_reasonAgainst_58 ?_
      refine lv_lconst (v := 0) hx hb dX9_reasonAgainst_59 (by decide) ?_
      refine W.lcmp hx hb dX9_reasonAgainst_60 ?_
      refine lv_if_eq (tgt := 66) hx hb dX9_reasonAgainst_61 (by decide) (fun c61 => ?_) (fun c61 => ?_)
      · have hm := ip c61 hm
        refine lv_aload_n hx hb dX9_reasonAgainst_66 rfl (lv_at hl 1 rfl) ?_
        refine va_get (D := D) (ci := 9) (v := .ref (a 15)) (C := RX9) (T := TX9) (N := 9) hx hb hts hiX9 hown hK.1 hP 0 rfl rfl 2 (by decide) (hts (.fieldLink RX9 28 "IslandBridges" "sums" "LIslandBridges$Sums;") (List.mem_of_getElem? (i := 5) rfl)) (fun _ h9 => h9) rfl dX9_reasonAgainst_67 ?_
        obtain ⟨v5, v6, v7, v8, h_v5, hm⟩ := bd4_inv hm
        refine cVx ⟨hx, hb, hml, hown, hts⟩ (c_X7_read l D cI cJ cS cB a S_columns S_rows S_grade S_stepsMade S_numbers S_bridges S_caps Y_islands Y_ways Y_cellOf Y_firstOf Y_secondOf U_numbers U_bridges U_caps U_lacks N v5 v6 v7 v8 h_v5) (cwV 0 hts gX9_reasonAgainst_X7_read rfl rfl rfl hd_X7_read ⟨(Nat.le_of_ble_eq_true rfl), (Nat.le_of_ble_eq_true rfl)⟩) hK hP hD hS hA [1, 2, 3, 4, 5, 6, 7, 8, 10, 11, 12, 13, 14] rfl rfl [o_X a , o_S a S_columns S_rows S_grade S_stepsMade, ai (a 2) cI 144 S_numbers, ai (a 3) cI 48 S_bridges, ai (a 4) cI 48 S_caps, o_Y a Y_islands Y_ways, ai (a 6) cI 24 Y_cellOf, ai (a 8) cI 48 Y_firstOf, ai (a 9) cI 48 Y_secondOf, aj (a 14) cJ 48 Y_crossings, o_U a , ai (a 16) cI 24 v5, ai (a 17) cI 24 v6, ai (a 18) cI 24 v7, ai (a 19) cI 24 v8] [(false, 0), (true, 0), (true, 1), (true, 2), (true, 3), (true, 4), (true, 5), (true, 6), (true, 7), (false, 9), (true, 8), (true, 9), (true, 10), (true, 11), (true, 12)] rfl rfl rfl hl.1 (Nat.le_of_ble_eq_true rfl) ⟨Nat.zero_le _, Nat.zero_le _⟩ 10 rfl rfl rfl rfl dX9_reasonAgainst_70 (fun H locs hP hD hS => ?_)
        refine lv_aload_n hx hb dX9_reasonAgainst_73 rfl (lv_at hl 1 rfl) ?_
        refine va_get (D := D) (ci := 9) (v := .ref (a 15)) (C := RX9) (T := TX9) (N := 9) hx hb hts hiX9 hown hK.1 hP 0 rfl rfl 2 (by decide) (hts (.fieldLink RX9 28 "IslandBridges" "sums" "LIslandBridges$Sums;") (List.mem_of_getElem? (i := 5) rfl)) (fun _ h9 => h9) rfl dX9_reasonAgainst_74 ?_
        refine lv_iload_n hx hb dX9_reasonAgainst_77 rfl (lv_at hl 2 rfl) ?_
        obtain ⟨v9, h_v9, hm⟩ := lt1_inv hm
        refine cVs ⟨hx, hb, hml, hown, hts⟩ (c_X7_lesserLack l D cI cJ cS cB a Y_islands Y_ways Y_firstOf Y_secondOf v8 x1 v9 h_v9) (cwV 1 hts gX9_reasonAgainst_X7_lesserLack rfl rfl rfl hd_X7_lesserLack ⟨(Nat.le_of_ble_eq_true rfl), (Nat.le_of_ble_eq_true rfl)⟩) hK hP hD hS hA [5, 7, 8, 10, 14] rfl rfl rfl hl.1 (Nat.le_of_ble_eq_true rfl) ⟨Nat.zero_le _, Nat.zero_le _⟩ 10 rfl rfl rfl rfl dX9_reasonAgainst_78 (fun H locs hP hD hS => ?_)
        refine lv_if_gt (tgt := 88) hx hb dX9_reasonAgainst_81 (by decide) (fun c81 => ?_) (fun c81 => ?_)
        · have hm := ip c81 hm
          refine lv_iconst (v := 0) hx hb dX9_reasonAgainst_88 (by decide) ?_
          cases hm
          exact rI () hx hb hr hlk hP hD hS dX9_reasonAgainst_89
        · have hm := ine c81 hm
          refine lv_iconst (v := 4) hx hb dX9_reasonAgainst_84 (by decide) ?_
          refine lv_goto (tgt := 89) hx hb dX9_reasonAgainst_85 (by decide) ?_
          cases hm
          exact rI () hx hb hr hlk hP hD hS dX9_reasonAgainst_89
      · have hm := ine c61 hm
        refine lv_iconst (v := 3) hx hb dX9_reasonAgainst_64 (by decide) ?_
        cases hm
        exact rI () hx hb hr hlk hP hD hS dX9_reasonAgainst_65
    · have hm := ip c31 hm
      refine lv_iconst (v := 2) hx hb dX9_reasonAgainst_34 (by decide) ?_
      cases hm
      exact rI () hx hb hr hlk hP hD hS dX9_reasonAgainst_35
  · have hm := ine c14 hm
    refine lv_iconst (v := 1) hx hb dX9_reasonAgainst_17 (by decide) ?_
    cases hm
    exact rI () hx hb hr hlk hP hD hS dX9_reasonAgainst_18
theorem hd_X9_way : yX9_way.cls = RX9 ∧ yX9_way.cls ≠ "java/lang/invoke/MethodHandle" ∧ yX9_way.cls ≠ "java/lang/invoke/VarHandle" ∧ (parseMethodDescriptor yX9_way.desc).map (fun d => d.parameters.length) = some 2 := by decide +kernel
def m_X9_way (N : Nat) (S_numbers : Nat → Int32) (S_bridges : Nat → Int32) (S_caps : Nat → Int32) (Y_islands : Int32) (Y_ways : Int32) (Y_cellOf : Nat → Int32) (Y_firstOf : Nat → Int32) (Y_secondOf : Nat → Int32) (Y_firstCellOf : Nat → Int32) (Y_secondCellOf : Nat → Int32) (Y_strideOf : Nat → Int32) (Y_crossings : Nat → Int64) (U_numbers : Nat → Int32) (U_bridges : Nat → Int32) (U_caps : Nat → Int32) (U_lacks : Nat → Int32) (x1 : Int32) (x2 : Int32) : Option (Int32 × (Nat → Int32) × (Nat → Int32) × (Nat → Int32) × (Nat → Int32)) :=
  lt1 (m_X9_isWay Y_ways x1) (fun v1 => if v1 = 0 then (some (((-1), U_numbers, U_bridges, U_caps, U_lacks))) else (if x2 = 0 then (lt1 (m_X2_firstCell Y_firstCellOf x1) (fun v2 => some ((v2, U_numbers, U_bridges, U_caps, U_lacks)))) else (if x2 = 1 then (lt1 (m_X2_secondCell Y_secondCellOf x1) (fun v3 => some ((v3, U_numbers, U_bridges, U_caps, U_lacks)))) else (if x2 = 2 then (lt1 (vAt 48 S_bridges x1) (fun v4 => some ((v4, U_numbers, U_bridges, U_caps, U_lacks)))) else (if x2 = 3 then (lt1 (vAt 48 S_caps x1) (fun v5 => some ((v5, U_numbers, U_bridges, U_caps, U_lacks)))) else (if x2 = 4 then (bd1 (m_X2_cellsBetween Y_firstCellOf Y_secondCellOf Y_strideOf x1) (fun v6 => some ((v6, U_numbers, U_bridges, U_caps, U_lacks)))) else (if x2 = 5 then (bd1 (m_X2_crossingsOf Y_crossings x1) (fun v7 => lt1 (m_J13_bitCount_95d88 v7) (fun v8 => some ((v8, U_numbers, U_bridges, U_caps, U_lacks))))) else (if x2 = 6 then (bd1 (m_X2_crossingsOf Y_crossings x1) (fun v9 => bd1 (m_X2_waysWith N Y_ways S_bridges) (fun v10 => lt1 (m_J13_bitCount_95d88 (v9 &&& v10)) (fun v11 => some ((v11, U_numbers, U_bridges, U_caps, U_lacks)))))) else (if x2 = 7 then (bd5 (m_X9_reasonAgainst N S_numbers S_bridges S_caps Y_islands Y_ways Y_cellOf Y_firstOf Y_secondOf Y_crossings U_numbers U_bridges U_caps U_lacks x1) (fun v12 v13 v14 v15 v16 => some ((v12, v13, v14, v15, v16)))) else (some (((-1), U_numbers, U_bridges, U_caps, U_lacks))))))))))))
set_option maxHeartbeats 4000000 in
set_option maxRecDepth 100000 in
theorem c_X9_way (l : Launch) (D : va_G) (cI cJ cS cB : ClassId) (a : Nat → Nat) (S_columns : Int32) (S_rows : Int32) (S_grade : Int32) (S_stepsMade : Int32) (S_numbers : Nat → Int32) (S_bridges : Nat → Int32) (S_caps : Nat → Int32) (Y_islands : Int32) (Y_ways : Int32) (Y_cellOf : Nat → Int32) (Y_firstOf : Nat → Int32) (Y_secondOf : Nat → Int32) (Y_firstCellOf : Nat → Int32) (Y_secondCellOf : Nat → Int32) (Y_strideOf : Nat → Int32) (Y_crossings : Nat → Int64) (U_numbers : Nat → Int32) (U_bridges : Nat → Int32) (U_caps : Nat → Int32) (U_lacks : Nat → Int32) (x1 : Int32) (x2 : Int32) (N : Nat) (r0 : Int32) (U_numbers' : Nat → Int32) (U_bridges' : Nat → Int32) (U_caps' : Nat → Int32) (U_lacks' : Nat → Int32) (hm : m_X9_way N S_numbers S_bridges S_caps Y_islands Y_ways Y_cellOf Y_firstOf Y_secondOf Y_firstCellOf Y_secondCellOf Y_strideOf Y_crossings U_numbers U_bridges U_caps U_lacks x1 x2 = some (r0, U_numbers', U_bridges', U_caps', U_lacks')) :
    mU l D (TYs cI cJ cS cB) yX9_way wsX9_way { frames := 4, cells := 0, slots := 0, locals := 88 } [.ref (a 0), .int x1, .int x2] [o_X a , o_S a S_columns S_rows S_grade S_stepsMade, ai (a 2) cI 144 S_numbers, ai (a 3) cI 48 S_bridges, ai (a 4) cI 48 S_caps, o_Y a Y_islands Y_ways, ai (a 6) cI 24 Y_cellOf, ai (a 8) cI 48 Y_firstOf, ai (a 9) cI 48 Y_secondOf, ai (a 10) cI 48 Y_firstCellOf, ai (a 11) cI 48 Y_secondCellOf, ai (a 12) cI 48 Y_strideOf, aj (a 14) cJ 48 Y_crossings, o_U a , ai (a 16) cI 24 U_numbers, ai (a 17) cI 24 U_bridges, ai (a 18) cI 24 U_caps, ai (a 19) cI 24 U_lacks] [o_X a , o_S a S_columns S_rows S_grade S_stepsMade, ai (a 2) cI 144 S_numbers, ai (a 3) cI 48 S_bridges, ai (a 4) cI 48 S_caps, o_Y a Y_islands Y_ways, ai (a 6) cI 24 Y_cellOf, ai (a 8) cI 48 Y_firstOf, ai (a 9) cI 48 Y_secondOf, ai (a 10) cI 48 Y_firstCellOf, ai (a 11) cI 48 Y_secondCellOf, ai (a 12) cI 48 Y_strideOf, aj (a 14) cJ 48 Y_crossings, o_U a , ai (a 16) cI 24 U_numbers', ai (a 17) cI 24 U_bridges', ai (a 18) cI 24 U_caps', ai (a 19) cI 24 U_lacks'] (some (.int r0)) := by
  refine mG_of (cc := cX9_way) (maxL := 3) (ret := (some .int)) (by decide) rfl rfl (Nat.le_of_ble_eq_true rfl) ?_
  intro p e s m args below meth c A hx hb hr hml hlk hnm hts hown hK hP hD hA hS ls hl
  have hl : lv_has ls 3 [(0, .ref (a 0)), (1, .int x1), (2, .int x2)] := hl
  have hiX2 : ∀ w ∈ wsX20, w ∈ wsX9_way := fun w h => List.mem_cons_of_mem _ (List.mem_append_left _ (List.mem_append_right _ h))
  have hiX6 : ∀ w ∈ wsX60, w ∈ wsX9_way := fun w h => List.mem_cons_of_mem _ (List.mem_append_left _ (List.mem_append_left _ (List.mem_append_right _ h)))
  have hiX7 : ∀ w ∈ wsX70, w ∈ wsX9_way := fun w h => List.mem_cons_of_mem _ (List.mem_append_right _ h)
  have hiX9 : ∀ w ∈ wsX90, w ∈ wsX9_way := fun w h => List.mem_cons_of_mem _ (List.mem_append_left _ (List.mem_append_left _ (List.mem_append_left _ (List.mem_append_right _ h))))
  unfold m_X9_way at hm
  refine lv_aload_n hx hb dX9_way_0 rfl (lv_at hl 0 rfl) ?_
  refine lv_iload_n hx hb dX9_way_1 rfl (lv_at hl 1 rfl) ?_
  obtain ⟨v1, h_v1, hm⟩ := lt1_inv hm
  refine cVs ⟨hx, hb, hml, hown, hts⟩ (c_X9_isWay l D cI cJ cS cB a Y_islands Y_ways x1 v1 h_v1) (cwV 1 hts gX9_way_X9_isWay rfl rfl rfl hd_X9_isWay ⟨(Nat.le_of_ble_eq_true rfl), (Nat.le_of_ble_eq_true rfl)⟩) hK hP hD hS hA [0, 5] rfl rfl rfl hl.1 (Nat.le_of_ble_eq_true rfl) ⟨Nat.zero_le _, Nat.zero_le _⟩ 0 rfl rfl rfl rfl dX9_way_2 (fun H locs hP hD hS => ?_)
  refine lv_if_ne (tgt := 10) hx hb dX9_way_5 (by decide) (fun c5 => ?_) (fun c5 => ?_)
  · have hm := ine c5 hm
    refine lv_iload_n hx hb dX9_way_10 rfl (lv_at hl 2 rfl) ?_
    by_cases q11_0 : x2 = 0
    · have hm := ip q11_0 hm
      refine lv_tableIn (off := 45) (tgt := 56) hx hb dX9_way_11 (by rw [q11_0]; decide) (by rw [q11_0]; decide) (by rw [q11_0]; rfl) (by decide) ?_
      refine lv_aload_n hx hb dX9_way_56 rfl (lv_at hl 0 rfl) ?_
      refine va_get (D := D) (ci := 9) (v := .ref (a 5)) (C := RX9) (T := TX9) (N := 9) hx hb hts hiX9 hown hK.1 hP 0 rfl rfl 1 (by decide) (hts (.fieldLink RX9 19 "IslandBridges" "layout" "LIslandBridges$Layout;") (List.mem_of_getElem? (i := 1) rfl)) (fun _ h9 => h9) rfl dX9_way_57 ?_
      refine lv_iload_n hx hb dX9_way_60 rfl (lv_at hl 1 rfl) ?_
      obtain ⟨v2, h_v2, hm⟩ := lt1_inv hm
      refine cVs ⟨hx, hb, hml, hown, hts⟩ (c_X2_firstCell l D cI cJ cS cB a Y_islands Y_ways Y_firstCellOf x1 v2 h_v2) (cwV 1 hts gX9_way_X2_firstCell rfl rfl rfl hd_X2_firstCell ⟨(Nat.le_of_ble_eq_true rfl), (Nat.le_of_ble_eq_true rfl)⟩) hK hP hD hS hA [5, 9] rfl rfl rfl hl.1 (Nat.le_of_ble_eq_true rfl) ⟨Nat.zero_le _, Nat.zero_le _⟩ 5 rfl rfl rfl rfl dX9_way_61 (fun H locs hP hD hS => ?_)
      cases hm
      exact rI () hx hb hr hlk hP hD hS dX9_way_64
    have hm := ine q11_0 hm
    by_cases q11_1 : x2 = 1
    · have hm := ip q11_1 hm
      refine lv_tableIn (off := 54) (tgt := 65) hx hb dX9_way_11 (by rw [q11_1]; decide) (by rw [q11_1]; decide) (by rw [q11_1]; rfl) (by decide) ?_
      refine lv_aload_n hx hb dX9_way_65 rfl (lv_at hl 0 rfl) ?_
      refine va_get (D := D) (ci := 9) (v := .ref (a 5)) (C := RX9) (T := TX9) (N := 9) hx hb hts hiX9 hown hK.1 hP 0 rfl rfl 1 (by decide) (hts (.fieldLink RX9 19 "IslandBridges" "layout" "LIslandBridges$Layout;") (List.mem_of_getElem? (i := 1) rfl)) (fun _ h9 => h9) rfl dX9_way_66 ?_
      refine lv_iload_n hx hb dX9_way_69 rfl (lv_at hl 1 rfl) ?_
      obtain ⟨v3, h_v3, hm⟩ := lt1_inv hm
      refine cVs ⟨hx, hb, hml, hown, hts⟩ (c_X2_secondCell l D cI cJ cS cB a Y_islands Y_ways Y_secondCellOf x1 v3 h_v3) (cwV 1 hts gX9_way_X2_secondCell rfl rfl rfl hd_X2_secondCell ⟨(Nat.le_of_ble_eq_true rfl), (Nat.le_of_ble_eq_true rfl)⟩) hK hP hD hS hA [5, 10] rfl rfl rfl hl.1 (Nat.le_of_ble_eq_true rfl) ⟨Nat.zero_le _, Nat.zero_le _⟩ 5 rfl rfl rfl rfl dX9_way_70 (fun H locs hP hD hS => ?_)
      cases hm
      exact rI () hx hb hr hlk hP hD hS dX9_way_73
    have hm := ine q11_1 hm
    by_cases q11_2 : x2 = 2
    · have hm := ip q11_2 hm
      refine lv_tableIn (off := 63) (tgt := 74) hx hb dX9_way_11 (by rw [q11_2]; decide) (by rw [q11_2]; decide) (by rw [q11_2]; rfl) (by decide) ?_
      refine lv_aload_n hx hb dX9_way_74 rfl (lv_at hl 0 rfl) ?_
      refine va_get (D := D) (ci := 9) (v := .ref (a 1)) (C := RX9) (T := TX9) (N := 9) hx hb hts hiX9 hown hK.1 hP 0 rfl rfl 0 (by decide) (hts (.fieldLink RX9 10 "IslandBridges" "state" "LIslandBridges$State;") (List.mem_of_getElem? (i := 2) rfl)) (fun _ h9 => h9) rfl dX9_way_75 ?_
      refine va_get (D := D) (ci := 6) (v := .ref (a 3)) (C := RX6) (T := TX6) (N := 7) hx hb hts hiX6 hown hK.1 hP 1 rfl rfl 1 (by decide) (hts (.fieldLink RX9 117 "IslandBridges$State" "bridges" "[I") (List.mem_of_getElem? (i := 3) rfl)) (fun _ h9 => h9) rfl dX9_way_78 ?_
      refine lv_iload_n hx hb dX9_way_81 rfl (lv_at hl 1 rfl) ?_
      obtain ⟨v4, ev4, hm⟩ := lt1_inv hm
      refine cSs ⟨hx, hb, hml, hown, hts⟩ (c_X9_valueAt l D cI cJ cS cB (a 3) 48 (Nat.le_of_ble_eq_true rfl) S_bridges x1 v4 ev4) (va_cwS 2 hts gX9_way_X9_valueAt rfl rfl rfl hd_X9_valueAt ⟨(Nat.le_of_ble_eq_true rfl), (Nat.le_of_ble_eq_true rfl)⟩) hK hP hD hS hA [3] rfl rfl rfl hl.1 (Nat.le_of_ble_eq_true rfl) ⟨Nat.zero_le _, Nat.zero_le _⟩ rfl dX9_way_82 (fun H locs hP hD hS => ?_)
      cases hm
      exact rI () hx hb hr hlk hP hD hS dX9_way_85
    have hm := ine q11_2 hm
    by_cases q11_3 : x2 = 3
    · have hm := ip q11_3 hm
      refine lv_tableIn (off := 75) (tgt := 86) hx hb dX9_way_11 (by rw [q11_3]; decide) (by rw [q11_3]; decide) (by rw [q11_3]; rfl) (by decide) ?_
      refine lv_aload_n hx hb dX9_way_86 rfl (lv_at hl 0 rfl) ?_
      refine va_get (D := D) (ci := 9) (v := .ref (a 1)) (C := RX9) (T := TX9) (N := 9) hx hb hts hiX9 hown hK.1 hP 0 rfl rfl 0 (by decide) (hts (.fieldLink RX9 10 "IslandBridges" "state" "LIslandBridges$State;") (List.mem_of_getElem? (i := 2) rfl)) (fun _ h9 => h9) rfl dX9_way_87 ?_
      refine va_get (D := D) (ci := 6) (v := .ref (a 4)) (C := RX6) (T := TX6) (N := 7) hx hb hts hiX6 hown hK.1 hP 1 rfl rfl 2 (by decide) (hts (.fieldLink RX9 159 "IslandBridges$State" "caps" "[I") (List.mem_of_getElem? (i := 4) rfl)) (fun _ h9 => h9) rfl dX9_way_90 ?_
      refine lv_iload_n hx hb dX9_way_93 rfl (lv_at hl 1 rfl) ?_
      obtain ⟨v5, ev5, hm⟩ := lt1_inv hm
      refine cSs ⟨hx, hb, hml, hown, hts⟩ (c_X9_valueAt l D cI cJ cS cB (a 4) 48 (Nat.le_of_ble_eq_true rfl) S_caps x1 v5 ev5) (va_cwS 2 hts gX9_way_X9_valueAt rfl rfl rfl hd_X9_valueAt ⟨(Nat.le_of_ble_eq_true rfl), (Nat.le_of_ble_eq_true rfl)⟩) hK hP hD hS hA [4] rfl rfl rfl hl.1 (Nat.le_of_ble_eq_true rfl) ⟨Nat.zero_le _, Nat.zero_le _⟩ rfl dX9_way_94 (fun H locs hP hD hS => ?_)
      cases hm
      exact rI () hx hb hr hlk hP hD hS dX9_way_97
    have hm := ine q11_3 hm
    by_cases q11_4 : x2 = 4
    · have hm := ip q11_4 hm
      refine lv_tableIn (off := 87) (tgt := 98) hx hb dX9_way_11 (by rw [q11_4]; decide) (by rw [q11_4]; decide) (by rw [q11_4]; rfl) (by decide) ?_
      refine lv_aload_n hx hb dX9_way_98 rfl (lv_at hl 0 rfl) ?_
      refine va_get (D := D) (ci := 9) (v := .ref (a 5)) (C := RX9) (T := TX9) (N := 9) hx hb hts hiX9 hown hK.1 hP 0 rfl rfl 1 (by decide) (hts (.fieldLink RX9 19 "IslandBridges" "layout" "LIslandBridges$Layout;") (List.mem_of_getElem? (i := 1) rfl)) (fun _ h9 => h9) rfl dX9_way_99 ?_
      refine lv_iload_n hx hb dX9_way_102 rfl (lv_at hl 1 rfl) ?_
      obtain ⟨v6, h_v6, hm⟩ := bd1_inv hm
      refine cVs ⟨hx, hb, hml, hown, hts⟩ (c_X2_cellsBetween l D cI cJ cS cB a Y_islands Y_ways Y_firstCellOf Y_secondCellOf Y_strideOf x1 v6 h_v6) (cwV 1 hts gX9_way_X2_cellsBetween rfl rfl rfl hd_X2_cellsBetween ⟨(Nat.le_of_ble_eq_true rfl), (Nat.le_of_ble_eq_true rfl)⟩) hK hP hD hS hA [5, 9, 10, 11] rfl rfl rfl hl.1 (Nat.le_of_ble_eq_true rfl) ⟨Nat.zero_le _, Nat.zero_le _⟩ 5 rfl rfl rfl rfl dX9_way_103 (fun H locs hP hD hS => ?_)
      cases hm
      exact rI () hx hb hr hlk hP hD hS dX9_way_106
    have hm := ine q11_4 hm
    by_cases q11_5 : x2 = 5
    · have hm := ip q11_5 hm
      refine lv_tableIn (off := 96) (tgt := 107) hx hb dX9_way_11 (by rw [q11_5]; decide) (by rw [q11_5]; decide) (by rw [q11_5]; rfl) (by decide) ?_
      refine lv_aload_n hx hb dX9_way_107 rfl (lv_at hl 0 rfl) ?_
      refine va_get (D := D) (ci := 9) (v := .ref (a 5)) (C := RX9) (T := TX9) (N := 9) hx hb hts hiX9 hown hK.1 hP 0 rfl rfl 1 (by decide) (hts (.fieldLink RX9 19 "IslandBridges" "layout" "LIslandBridges$Layout;") (List.mem_of_getElem? (i := 1) rfl)) (fun _ h9 => h9) rfl dX9_way_108 ?_
      refine lv_iload_n hx hb dX9_way_111 rfl (lv_at hl 1 rfl) ?_
      obtain ⟨v7, h_v7, hm⟩ := bd1_inv hm
      refine cVs ⟨hx, hb, hml, hown, hts⟩ (c_X2_crossingsOf l D cI cJ cS cB a Y_islands Y_ways Y_crossings x1 v7 h_v7) (cwV 1 hts gX9_way_X2_crossingsOf rfl rfl rfl hd_X2_crossingsOf ⟨(Nat.le_of_ble_eq_true rfl), (Nat.le_of_ble_eq_true rfl)⟩) hK hP hD hS hA [5, 12] rfl rfl rfl hl.1 (Nat.le_of_ble_eq_true rfl) ⟨Nat.zero_le _, Nat.zero_le _⟩ 5 rfl rfl rfl rfl dX9_way_112 (fun H locs hP hD hS => ?_)
      obtain ⟨v8, h_v8, hm⟩ := lt1_inv hm
      refine cSs ⟨hx, hb, hml, hown, hts⟩ (c_J13_bitCount_95d88 l D cI cJ cS cB a  v7 v8 h_v8) (va_cwS 1 hts gX9_way_J13_bitCount_95d88 rfl rfl rfl hd_J13_bitCount_95d88 ⟨(Nat.le_of_ble_eq_true rfl), (Nat.le_of_ble_eq_true rfl)⟩) hK hP hD hS hA [] rfl rfl rfl hl.1 (Nat.le_of_ble_eq_true rfl) ⟨Nat.zero_le _, Nat.zero_le _⟩ rfl dX9_way_115 (fun H locs hP hD hS => ?_)
      cases hm
      exact rI () hx hb hr hlk hP hD hS dX9_way_118
    have hm := ine q11_5 hm
    by_cases q11_6 : x2 = 6
    · have hm := ip q11_6 hm
      refine lv_tableIn (off := 108) (tgt := 119) hx hb dX9_way_11 (by rw [q11_6]; decide) (by rw [q11_6]; decide) (by rw [q11_6]; rfl) (by decide) ?_
      refine lv_aload_n hx hb dX9_way_119 rfl (lv_at hl 0 rfl) ?_
      refine va_get (D := D) (ci := 9) (v := .ref (a 5)) (C := RX9) (T := TX9) (N := 9) hx hb hts hiX9 hown hK.1 hP 0 rfl rfl 1 (by decide) (hts (.fieldLink RX9 19 "IslandBridges" "layout" "LIslandBridges$Layout;") (List.mem_of_getElem? (i := 1) rfl)) (fun _ h9 => h9) rfl dX9_way_120 ?_
      refine lv_iload_n hx hb dX9_way_123 rfl (lv_at hl 1 rfl) ?_
      obtain ⟨v9, h_v9, hm⟩ := bd1_inv hm
      refine cVs ⟨hx, hb, hml, hown, hts⟩ (c_X2_crossingsOf l D cI cJ cS cB a Y_islands Y_ways Y_crossings x1 v9 h_v9) (cwV 1 hts gX9_way_X2_crossingsOf rfl rfl rfl hd_X2_crossingsOf ⟨(Nat.le_of_ble_eq_true rfl), (Nat.le_of_ble_eq_true rfl)⟩) hK hP hD hS hA [5, 12] rfl rfl rfl hl.1 (Nat.le_of_ble_eq_true rfl) ⟨Nat.zero_le _, Nat.zero_le _⟩ 5 rfl rfl rfl rfl dX9_way_124 (fun H locs hP hD hS => ?_)
      refine lv_aload_n hx hb dX9_way_127 rfl (lv_at hl 0 rfl) ?_
      refine va_get (D := D) (ci := 9) (v := .ref (a 5)) (C := RX9) (T := TX9) (N := 9) hx hb hts hiX9 hown hK.1 hP 0 rfl rfl 1 (by decide) (hts (.fieldLink RX9 19 "IslandBridges" "layout" "LIslandBridges$Layout;") (List.mem_of_getElem? (i := 1) rfl)) (fun _ h9 => h9) rfl dX9_way_128 ?_
      refine lv_aload_n hx hb dX9_way_131 rfl (lv_at hl 0 rfl) ?_
      refine va_get (D := D) (ci := 9) (v := .ref (a 1)) (C := RX9) (T := TX9) (N := 9) hx hb hts hiX9 hown hK.1 hP 0 rfl rfl 0 (by decide) (hts (.fieldLink RX9 10 "IslandBridges" "state" "LIslandBridges$State;") (List.mem_of_getElem? (i := 2) rfl)) (fun _ h9 => h9) rfl dX9_way_132 ?_
      refine va_get (D := D) (ci := 6) (v := .ref (a 3)) (C := RX6) (T := TX6) (N := 7) hx hb hts hiX6 hown hK.1 hP 1 rfl rfl 1 (by decide) (hts (.fieldLink RX9 117 "IslandBridges$State" "bridges" "[I") (List.mem_of_getElem? (i := 3) rfl)) (fun _ h9 => h9) rfl dX9_way_135 ?_
      obtain ⟨v10, h_v10, hm⟩ := bd1_inv hm
      refine cVs ⟨hx, hb, hml, hown, hts⟩ (c_X2_waysWith l D cI cJ cS cB a (a 3) Y_islands Y_ways S_bridges N v10 h_v10) (cwV 1 hts gX9_way_X2_waysWith rfl rfl rfl hd_X2_waysWith ⟨(Nat.le_of_ble_eq_true rfl), (Nat.le_of_ble_eq_true rfl)⟩) hK hP hD hS hA [5, 3] rfl rfl rfl hl.1 (Nat.le_of_ble_eq_true rfl) ⟨Nat.zero_le _, Nat.zero_le _⟩ 5 rfl rfl rfl rfl dX9_way_138 (fun H locs hP hD hS => ?_)
      refine lv_land hx hb dX9_way_141 ?_
      obtain ⟨v11, h_v11, hm⟩ := lt1_inv hm
      refine cSs ⟨hx, hb, hml, hown, hts⟩ (c_J13_bitCount_95d88 l D cI cJ cS cB a  (v9 &&& v10) v11 h_v11) (va_cwS 1 hts gX9_way_J13_bitCount_95d88 rfl rfl rfl hd_J13_bitCount_95d88 ⟨(Nat.le_of_ble_eq_true rfl), (Nat.le_of_ble_eq_true rfl)⟩) hK hP hD hS hA [] rfl rfl rfl hl.1 (Nat.le_of_ble_eq_true rfl) ⟨Nat.zero_le _, Nat.zero_le _⟩ rfl dX9_way_142 (fun H locs hP hD hS => ?_)
      cases hm
      exact rI () hx hb hr hlk hP hD hS dX9_way_145
    have hm := ine q11_6 hm
    by_cases q11_7 : x2 = 7
    · have hm := ip q11_7 hm
      refine lv_tableIn (off := 135) (tgt := 146) hx hb dX9_way_11 (by rw [q11_7]; decide) (by rw [q11_7]; decide) (by rw [q11_7]; rfl) (by decide) ?_
      refine lv_aload_n hx hb dX9_way_146 rfl (lv_at hl 0 rfl) ?_
      refine lv_iload_n hx hb dX9_way_147 rfl (lv_at hl 1 rfl) ?_
      obtain ⟨v12, v13, v14, v15, v16, h_v12, hm⟩ := bd5_inv hm
      refine cVx ⟨hx, hb, hml, hown, hts⟩ (c_X9_reasonAgainst l D cI cJ cS cB a S_columns S_rows S_grade S_stepsMade S_numbers S_bridges S_caps Y_islands Y_ways Y_cellOf Y_firstOf Y_secondOf Y_crossings U_numbers U_bridges U_caps U_lacks x1 N v12 v13 v14 v15 v16 h_v12) (cwV 1 hts gX9_way_X9_reasonAgainst rfl rfl rfl hd_X9_reasonAgainst ⟨(Nat.le_of_ble_eq_true rfl), (Nat.le_of_ble_eq_true rfl)⟩) hK hP hD hS hA [0, 1, 2, 3, 4, 5, 6, 7, 8, 12, 13, 14, 15, 16, 17] rfl rfl [o_X a , o_S a S_columns S_rows S_grade S_stepsMade, ai (a 2) cI 144 S_numbers, ai (a 3) cI 48 S_bridges, ai (a 4) cI 48 S_caps, o_Y a Y_islands Y_ways, ai (a 6) cI 24 Y_cellOf, ai (a 8) cI 48 Y_firstOf, ai (a 9) cI 48 Y_secondOf, ai (a 10) cI 48 Y_firstCellOf, ai (a 11) cI 48 Y_secondCellOf, ai (a 12) cI 48 Y_strideOf, aj (a 14) cJ 48 Y_crossings, o_U a , ai (a 16) cI 24 v13, ai (a 17) cI 24 v14, ai (a 18) cI 24 v15, ai (a 19) cI 24 v16] [(true, 0), (true, 1), (true, 2), (true, 3), (true, 4), (true, 5), (true, 6), (true, 7), (true, 8), (false, 9), (false, 10), (false, 11), (true, 9), (true, 10), (true, 11), (true, 12), (true, 13), (true, 14)] rfl rfl rfl hl.1 (Nat.le_of_ble_eq_true rfl) ⟨Nat.zero_le _, Nat.zero_le _⟩ 0 rfl rfl rfl rfl dX9_way_148 (fun H locs hP hD hS => ?_)
      cases hm
      exact rI () hx hb hr hlk hP hD hS dX9_way_151
    have hm := ine q11_7 hm
    have w11_0 : x2.toInt ≠ 0 := fun h9 => q11_0 (Int32.toInt_inj.mp (h9.trans rfl))
    have w11_1 : x2.toInt ≠ 1 := fun h9 => q11_1 (Int32.toInt_inj.mp (h9.trans rfl))
    have w11_2 : x2.toInt ≠ 2 := fun h9 => q11_2 (Int32.toInt_inj.mp (h9.trans rfl))
    have w11_3 : x2.toInt ≠ 3 := fun h9 => q11_3 (Int32.toInt_inj.mp (h9.trans rfl))
    have w11_4 : x2.toInt ≠ 4 := fun h9 => q11_4 (Int32.toInt_inj.mp (h9.trans rfl))
    have w11_5 : x2.toInt ≠ 5 := fun h9 => q11_5 (Int32.toInt_inj.mp (h9.trans rfl))
    have w11_6 : x2.toInt ≠ 6 := fun h9 => q11_6 (Int32.toInt_inj.mp (h9.trans rfl))
    have w11_7 : x2.toInt ≠ 7 := fun h9 => q11_7 (Int32.toInt_inj.mp (h9.trans rfl))
    refine lv_tableOut (tgt := 152) hx hb dX9_way_11 (by omega) (by decide) ?_
    refine lv_iconst (v := (-1)) hx hb dX9_way_152 (by decide) ?_
    cases hm
    exact rI () hx hb hr hlk hP hD hS dX9_way_153
  · have hm := ip c5 hm
    refine lv_iconst (v := (-1)) hx hb dX9_way_8 (by decide) ?_
    cases hm
    exact rI () hx hb hr hlk hP hD hS dX9_way_9
theorem hd_X9_between : yX9_between.cls = RX9 ∧ yX9_between.cls ≠ "java/lang/invoke/MethodHandle" ∧ yX9_between.cls ≠ "java/lang/invoke/VarHandle" ∧ (parseMethodDescriptor yX9_between.desc).map (fun d => d.parameters.length) = some 2 := by decide +kernel
def m_X9_between_j76 (rec34 : Int32 → Option (Int32)) (y9 : Int32) : Option (Int32) :=
  lt1 (y9 + 1) (fun v10 => rec34 v10)
def m_X9_between_j73 (y12 : Int32) : Option (Int32) :=
  some y12
def m_X9_between_b34 (Y_ways : Int32) (Y_firstCellOf : Nat → Int32) (Y_secondCellOf : Nat → Int32) (y5 : Int32) (y6 : Int32) (rec34 : Int32 → Option (Int32)) (y7 : Int32) : Option (Int32) :=
  if Y_ways ≤ y7 then (some ((-4))) else (lt1 (m_X2_firstCell Y_firstCellOf y7) (fun v8 => if v8 = y5 then (lt1 (m_X2_secondCell Y_secondCellOf y7) (fun v11 => if v11 = y6 then (m_X9_between_j73 y7) else (m_X9_between_j76 rec34 y7))) else (m_X9_between_j76 rec34 y7)))
def m_X9_between (N : Nat) (S_columns : Int32) (S_rows : Int32) (Y_ways : Int32) (Y_firstCellOf : Nat → Int32) (Y_secondCellOf : Nat → Int32) (x1 : Int32) (x2 : Int32) : Option (Int32) :=
  lt1 (m_X9_isCell S_columns S_rows x1) (fun v1 => if v1 = 0 then (some ((-1))) else (lt1 (m_X9_isCell S_columns S_rows x2) (fun v2 => if v2 = 0 then (some ((-1))) else (lt1 (mnI x1 x2) (fun v3 => lt1 (mxI x1 x2) (fun v4 => zl1 (m_X9_between_b34 Y_ways Y_firstCellOf Y_secondCellOf v3 v4) N 0))))))
set_option maxHeartbeats 4000000 in
set_option maxRecDepth 100000 in
theorem c_X9_between (l : Launch) (D : va_G) (cI cJ cS cB : ClassId) (a : Nat → Nat) (S_columns : Int32) (S_rows : Int32) (S_grade : Int32) (S_stepsMade : Int32) (Y_islands : Int32) (Y_ways : Int32) (Y_firstCellOf : Nat → Int32) (Y_secondCellOf : Nat → Int32) (x1 : Int32) (x2 : Int32) (N : Nat) (r0 : Int32) (hm : m_X9_between N S_columns S_rows Y_ways Y_firstCellOf Y_secondCellOf x1 x2 = some r0) :
    mU l D (TYs cI cJ cS cB) yX9_between wsX9_between { frames := 2, cells := 0, slots := 0, locals := 42 } [.ref (a 0), .int x1, .int x2] [o_X a , o_S a S_columns S_rows S_grade S_stepsMade, o_Y a Y_islands Y_ways, ai (a 10) cI 48 Y_firstCellOf, ai (a 11) cI 48 Y_secondCellOf] [o_X a , o_S a S_columns S_rows S_grade S_stepsMade, o_Y a Y_islands Y_ways, ai (a 10) cI 48 Y_firstCellOf, ai (a 11) cI 48 Y_secondCellOf] (some (.int r0)) := by
  refine mG_of (cc := cX9_between) (maxL := 6) (ret := (some .int)) (by decide) rfl rfl (Nat.le_of_ble_eq_true rfl) ?_
  intro p e s m args below meth c A hx hb hr hml hlk hnm hts hown hK hP hD hA hS ls hl
  have hl : lv_has ls 6 [(0, .ref (a 0)), (1, .int x1), (2, .int x2)] := hl
  have hiX2 : ∀ w ∈ wsX20, w ∈ wsX9_between := fun w h => List.mem_cons_of_mem _ (List.mem_append_left _ (List.mem_append_right _ h))
  have hiX6 : ∀ w ∈ wsX60, w ∈ wsX9_between := fun w h => List.mem_cons_of_mem _ (List.mem_append_right _ h)
  have hiX9 : ∀ w ∈ wsX90, w ∈ wsX9_between := fun w h => List.mem_cons_of_mem _ (List.mem_append_left _ (List.mem_append_left _ (List.mem_append_right _ h)))
  unfold m_X9_between at hm
  have h73 : ∀ (y12 : Int32), m_X9_between_j73 y12 = some r0 → ∀ (H : Heap) (locs : List Loc), va_P D vwCl [o_X a , o_S a S_columns S_rows S_grade S_stepsMade, o_Y a Y_islands Y_ways, ai (a 10) cI 48 Y_firstCellOf, ai (a 11) cI 48 Y_secondCellOf] H → va_D A [o_X a , o_S a S_columns S_rows S_grade S_stepsMade, o_Y a Y_islands Y_ways, ai (a 10) cI 48 Y_firstCellOf, ai (a 11) cI 48 Y_secondCellOf] → va_S A s.heap H locs → ∀ ls : Array Slot, lv_has ls 6 [(5, .int y12)] → W p l e { frames := 2, cells := 0, slots := 0, locals := 42 } s m args below meth c H locs 0 0 (MQ below (eQ D (some (.int r0)) (fun _ : Unit => [o_X a , o_S a S_columns S_rows S_grade S_stepsMade, o_Y a Y_islands Y_ways, ai (a 10) cI 48 Y_firstCellOf, ai (a 11) cI 48 Y_secondCellOf]) A) args s 0 0 A) (F0 m 73 ls []) := by
    intro y12 hm H locs hP hD hS ls hl
    unfold m_X9_between_j73 at hm
    refine lv_iload hx hb dX9_between_73 (lv_at hl 0 rfl) ?_
    cases hm
    exact rI () hx hb hr hlk hP hD hS dX9_between_75
  have h34 : ∀ (y5 : Int32) (y6 : Int32), ∀ (n : Nat) (y7 : Int32), zl1 (m_X9_between_b34 Y_ways Y_firstCellOf Y_secondCellOf y5 y6) n y7 = some r0 → ∀ (H : Heap) (locs : List Loc), va_P D vwCl [o_X a , o_S a S_columns S_rows S_grade S_stepsMade, o_Y a Y_islands Y_ways, ai (a 10) cI 48 Y_firstCellOf, ai (a 11) cI 48 Y_secondCellOf] H → va_D A [o_X a , o_S a S_columns S_rows S_grade S_stepsMade, o_Y a Y_islands Y_ways, ai (a 10) cI 48 Y_firstCellOf, ai (a 11) cI 48 Y_secondCellOf] → va_S A s.heap H locs → ∀ ls : Array Slot, lv_has ls 6 [(0, .ref (a 0)), (3, .int y5), (4, .int y6), (5, .int y7)] → W p l e { frames := 2, cells := 0, slots := 0, locals := 42 } s m args below meth c H locs 0 0 (MQ below (eQ D (some (.int r0)) (fun _ : Unit => [o_X a , o_S a S_columns S_rows S_grade S_stepsMade, o_Y a Y_islands Y_ways, ai (a 10) cI 48 Y_firstCellOf, ai (a 11) cI 48 Y_secondCellOf]) A) args s 0 0 A) (F0 m 34 ls []) := by
    intro y5 y6
    refine zl1_ind (fun rec34 ih34 y7 hm => ?_)
    have h76 : ∀ (y9 : Int32), m_X9_between_j76 rec34 y9 = some r0 → ∀ (H : Heap) (locs : List Loc), va_P D vwCl [o_X a , o_S a S_columns S_rows S_grade S_stepsMade, o_Y a Y_islands Y_ways, ai (a 10) cI 48 Y_firstCellOf, ai (a 11) cI 48 Y_secondCellOf] H → va_D A [o_X a , o_S a S_columns S_rows S_grade S_stepsMade, o_Y a Y_islands Y_ways, ai (a 10) cI 48 Y_firstCellOf, ai (a 11) cI 48 Y_secondCellOf] → va_S A s.heap H locs → ∀ ls : Array Slot, lv_has ls 6 [(0, .ref (a 0)), (3, .int y5), (4, .int y6), (5, .int y9)] → W p l e { frames := 2, cells := 0, slots := 0, locals := 42 } s m args below meth c H locs 0 0 (MQ below (eQ D (some (.int r0)) (fun _ : Unit => [o_X a , o_S a S_columns S_rows S_grade S_stepsMade, o_Y a Y_islands Y_ways, ai (a 10) cI 48 Y_firstCellOf, ai (a 11) cI 48 Y_secondCellOf]) A) args s 0 0 A) (F0 m 76 ls []) := by
      intro y9 hm H locs hP hD hS ls hl
      unfold m_X9_between_j76 at hm
      obtain ⟨v10, ev10, hm⟩ := lt1_inv hm
      refine lv_iinc (v := v10) (lv' := [(5, .int v10), (0, .ref (a 0)), (3, .int y5), (4, .int y6)]) hx hb dX9_between_76 hl (k := 3) rfl ev10 (by decide) rfl (fun ls hl => ?_)
      refine lv_goto (tgt := 34) hx hb dX9_between_79 (by decide) ?_
      exact ih34 v10 hm _ _ hP hD hS ls (lv_sub hl [1, 2, 3, 0] rfl)
    intro H locs hP hD hS ls hl
    unfold m_X9_between_b34 at hm
    refine lv_iload hx hb dX9_between_34 (lv_at hl 3 rfl) ?_
    refine lv_aload_n hx hb dX9_between_36 rfl (lv_at hl 0 rfl) ?_
    refine va_get (D := D) (ci := 9) (v := .ref (a 5)) (C := RX9) (T := TX9) (N := 9) hx hb hts hiX9 hown hK.1 hP 0 rfl rfl 1 (by decide) (hts (.fieldLink RX9 19 "IslandBridges" "layout" "LIslandBridges$Layout;") (List.mem_of_getElem? (i := 8) rfl)) (fun _ h9 => h9) rfl dX9_between_37 ?_
    refine va_get (D := D) (ci := 2) (v := .int Y_ways) (C := RX2) (T := TX2) (N := 11) hx hb hts hiX2 hown hK.1 hP 2 rfl rfl 10 (by decide) (hts (.fieldLink RX9 114 "IslandBridges$Layout" "ways" "I") (List.mem_of_getElem? (i := 9) rfl)) (fun _ h9 => h9) rfl dX9_between_40 ?_
    refine lv_icmp_ge (tgt := 82) hx hb dX9_between_43 (by decide) (fun c43 => ?_) (fun c43 => ?_)
    · have hm := ip c43 hm
      refine lv_bipush (v := (-4)) hx hb dX9_between_82 (by decide) ?_
      cases hm
      exact rI () hx hb hr hlk hP hD hS dX9_between_84
    · have hm := ine c43 hm
      refine lv_aload_n hx hb dX9_between_46 rfl (lv_at hl 0 rfl) ?_
      refine va_get (D := D) (ci := 9) (v := .ref (a 5)) (C := RX9) (T := TX9) (N := 9) hx hb hts hiX9 hown hK.1 hP 0 rfl rfl 1 (by decide) (hts (.fieldLink RX9 19 "IslandBridges" "layout" "LIslandBridges$Layout;") (List.mem_of_getElem? (i := 8) rfl)) (fun _ h9 => h9) rfl dX9_between_47 ?_
      refine lv_iload hx hb dX9_between_50 (lv_at hl 3 rfl) ?_
      obtain ⟨v8, h_v8, hm⟩ := lt1_inv hm
      refine cVs ⟨hx, hb, hml, hown, hts⟩ (c_X2_firstCell l D cI cJ cS cB a Y_islands Y_ways Y_firstCellOf y7 v8 h_v8) (cwV 1 hts gX9_between_X2_firstCell rfl rfl rfl hd_X2_firstCell ⟨(Nat.le_of_ble_eq_true rfl), (Nat.le_of_ble_eq_true rfl)⟩) hK hP hD hS hA [2, 3] rfl rfl rfl hl.1 (Nat.le_of_ble_eq_true rfl) ⟨Nat.zero_le _, Nat.zero_le _⟩ 2 rfl rfl rfl rfl dX9_between_52 (fun H locs hP hD hS => ?_)
      refine lv_iload_n hx hb dX9_between_55 rfl (lv_at hl 1 rfl) ?_
      refine lv_icmp_ne (tgt := 76) hx hb dX9_between_56 (by decide) (fun c56 => ?_) (fun c56 => ?_)
      · have hm := ine c56 hm
        exact h76 y7 hm _ _ hP hD hS ls (lv_sub hl [0, 1, 2, 3] rfl)
      · have hm := ip c56 hm
        refine lv_aload_n hx hb dX9_between_59 rfl (lv_at hl 0 rfl) ?_
        refine va_get (D := D) (ci := 9) (v := .ref (a 5)) (C := RX9) (T := TX9) (N := 9) hx hb hts hiX9 hown hK.1 hP 0 rfl rfl 1 (by decide) (hts (.fieldLink RX9 19 "IslandBridges" "layout" "LIslandBridges$Layout;") (List.mem_of_getElem? (i := 8) rfl)) (fun _ h9 => h9) rfl dX9_between_60 ?_
        refine lv_iload hx hb dX9_between_63 (lv_at hl 3 rfl) ?_
        obtain ⟨v11, h_v11, hm⟩ := lt1_inv hm
        refine cVs ⟨hx, hb, hml, hown, hts⟩ (c_X2_secondCell l D cI cJ cS cB a Y_islands Y_ways Y_secondCellOf y7 v11 h_v11) (cwV 1 hts gX9_between_X2_secondCell rfl rfl rfl hd_X2_secondCell ⟨(Nat.le_of_ble_eq_true rfl), (Nat.le_of_ble_eq_true rfl)⟩) hK hP hD hS hA [2, 4] rfl rfl rfl hl.1 (Nat.le_of_ble_eq_true rfl) ⟨Nat.zero_le _, Nat.zero_le _⟩ 2 rfl rfl rfl rfl dX9_between_65 (fun H locs hP hD hS => ?_)
        refine lv_iload hx hb dX9_between_68 (lv_at hl 2 rfl) ?_
        refine lv_icmp_ne (tgt := 76) hx hb dX9_between_70 (by decide) (fun c70 => ?_) (fun c70 => ?_)
        · have hm := ine c70 hm
          exact h76 y7 hm _ _ hP hD hS ls (lv_sub hl [0, 1, 2, 3] rfl)
        · have hm := ip c70 hm
          exact h73 y7 hm _ _ hP hD hS ls (lv_sub hl [3] rfl)
  refine lv_aload_n hx hb dX9_between_0 rfl (lv_at hl 0 rfl) ?_
  refine lv_iload_n hx hb dX9_between_1 rfl (lv_at hl 1 rfl) ?_
  obtain ⟨v1, h_v1, hm⟩ := lt1_inv hm
  refine cVs ⟨hx, hb, hml, hown, hts⟩ (c_X9_isCell l D cI cJ cS cB a S_columns S_rows S_grade S_stepsMade x1 v1 h_v1) (cwV 1 hts gX9_between_X9_isCell rfl rfl rfl hd_X9_isCell ⟨(Nat.le_of_ble_eq_true rfl), (Nat.le_of_ble_eq_true rfl)⟩) hK hP hD hS hA [0, 1] rfl rfl rfl hl.1 (Nat.le_of_ble_eq_true rfl) ⟨Nat.zero_le _, Nat.zero_le _⟩ 0 rfl rfl rfl rfl dX9_between_2 (fun H locs hP hD hS => ?_)
  refine lv_if_eq (tgt := 16) hx hb dX9_between_5 (by decide) (fun c5 => ?_) (fun c5 => ?_)
  · have hm := ip c5 hm
    refine lv_iconst (v := (-1)) hx hb dX9_between_16 (by decide) ?_
    cases hm
    exact rI () hx hb hr hlk hP hD hS dX9_between_17
  · have hm := ine c5 hm
    refine lv_aload_n hx hb dX9_between_8 rfl (lv_at hl 0 rfl) ?_
    refine lv_iload_n hx hb dX9_between_9 rfl (lv_at hl 2 rfl) ?_
    obtain ⟨v2, h_v2, hm⟩ := lt1_inv hm
    refine cVs ⟨hx, hb, hml, hown, hts⟩ (c_X9_isCell l D cI cJ cS cB a S_columns S_rows S_grade S_stepsMade x2 v2 h_v2) (cwV 1 hts gX9_between_X9_isCell rfl rfl rfl hd_X9_isCell ⟨(Nat.le_of_ble_eq_true rfl), (Nat.le_of_ble_eq_true rfl)⟩) hK hP hD hS hA [0, 1] rfl rfl rfl hl.1 (Nat.le_of_ble_eq_true rfl) ⟨Nat.zero_le _, Nat.zero_le _⟩ 0 rfl rfl rfl rfl dX9_between_10 (fun H locs hP hD hS => ?_)
    refine lv_if_ne (tgt := 18) hx hb dX9_between_13 (by decide) (fun c13 => ?_) (fun c13 => ?_)
    · have hm := ine c13 hm
      refine lv_iload_n hx hb dX9_between_18 rfl (lv_at hl 1 rfl) ?_
      refine lv_iload_n hx hb dX9_between_19 rfl (lv_at hl 2 rfl) ?_
      obtain ⟨v3, ev3, hm⟩ := lt1_inv hm
      refine va_mmin hx hb (hml.trans hl.1.symm) hown (hts (.methodLink RX9 180 Lib.Math.min.name) (List.mem_of_getElem? (i := 1) rfl)) (hts (.static Lib.Math.min.name) (List.mem_of_getElem? (i := 2) rfl)) (hts (.initialized "java/lang/Math") (List.mem_of_getElem? (i := 3) rfl)) (hts (.code Lib.Math.min.name Lib.Math.min.code 2 (some .int)) (List.mem_of_getElem? (i := 4) rfl)) (Nat.le_of_ble_eq_true rfl) (Nat.le_of_ble_eq_true rfl) (Nat.zero_le _) (Nat.zero_le _) dX9_between_20 ?_
      refine ltop ev3 ?_
      refine lv_istore_n (lv' := [(3, .int v3), (0, .ref (a 0)), (1, .int x1), (2, .int x2)]) hx hb dX9_between_23 rfl hl (by decide) rfl (fun ls hl => ?_)
      refine lv_iload_n hx hb dX9_between_24 rfl (lv_at hl 2 rfl) ?_
      refine lv_iload_n hx hb dX9_between_25 rfl (lv_at hl 3 rfl) ?_
      obtain ⟨v4, ev4, hm⟩ := lt1_inv hm
      refine va_mmax hx hb (hml.trans hl.1.symm) hown (hts (.methodLink RX9 186 Lib.Math.max.name) (List.mem_of_getElem? (i := 5) rfl)) (hts (.static Lib.Math.max.name) (List.mem_of_getElem? (i := 6) rfl)) (hts (.initialized "java/lang/Math") (List.mem_of_getElem? (i := 3) rfl)) (hts (.code Lib.Math.max.name Lib.Math.max.code 2 (some .int)) (List.mem_of_getElem? (i := 7) rfl)) (Nat.le_of_ble_eq_true rfl) (Nat.le_of_ble_eq_true rfl) (Nat.zero_le _) (Nat.zero_le _) dX9_between_26 ?_
      refine ltop ev4 ?_
      refine lv_istore (lv' := [(4, .int v4), (3, .int v3), (0, .ref (a 0)), (1, .int x1), (2, .int x2)]) hx hb dX9_between_29 hl (by decide) rfl (fun ls hl => ?_)
      refine lv_iconst (v := 0) hx hb dX9_between_31 (by decide) ?_
      refine lv_istore (lv' := [(5, .int 0), (4, .int v4), (3, .int v3), (0, .ref (a 0)), (1, .int x1), (2, .int x2)]) hx hb dX9_between_32 hl (by decide) rfl (fun ls hl => ?_)
      exact h34 v3 v4 N 0 hm _ _ hP hD hS ls (lv_sub hl [3, 2, 1, 0] rfl)
    · have hm := ip c13 hm
      refine lv_iconst (v := (-1)) hx hb dX9_between_16 (by decide) ?_
      cases hm
      exact rI () hx hb hr hlk hP hD hS dX9_between_17
theorem hd_X9_allBridges : yX9_allBridges.cls = RX9 ∧ yX9_allBridges.cls ≠ "java/lang/invoke/MethodHandle" ∧ yX9_allBridges.cls ≠ "java/lang/invoke/VarHandle" ∧ (parseMethodDescriptor yX9_allBridges.desc).map (fun d => d.parameters.length) = some 0 := by decide +kernel
def m_X9_allBridges_b4 (S_bridges : Nat → Int32) (Y_ways : Int32) (rec4 : Int32 → Int32 → Option (Int32)) (y1 : Int32) (y2 : Int32) : Option (Int32) :=
  if Y_ways ≤ y2 then (some y1) else (lt1 (vAt 48 S_bridges y2) (fun v3 => lt1 (y1 + v3) (fun v4 => lt1 (y2 + 1) (fun v5 => rec4 v4 v5))))
def m_X9_allBridges (N : Nat) (S_bridges : Nat → Int32) (Y_ways : Int32) : Option (Int32) :=
  zl2 (m_X9_allBridges_b4 S_bridges Y_ways) N 0 0
set_option maxHeartbeats 4000000 in
set_option maxRecDepth 100000 in
theorem c_X9_allBridges (l : Launch) (D : va_G) (cI cJ cS cB : ClassId) (a : Nat → Nat) (S_columns : Int32) (S_rows : Int32) (S_grade : Int32) (S_stepsMade : Int32) (S_bridges : Nat → Int32) (Y_islands : Int32) (Y_ways : Int32)  (N : Nat) (r0 : Int32) (hm : m_X9_allBridges N S_bridges Y_ways = some r0) :
    mU l D (TYs cI cJ cS cB) yX9_allBridges wsX9_allBridges { frames := 1, cells := 0, slots := 0, locals := 21 } [.ref (a 0)] [o_X a , o_S a S_columns S_rows S_grade S_stepsMade, ai (a 3) cI 48 S_bridges, o_Y a Y_islands Y_ways] [o_X a , o_S a S_columns S_rows S_grade S_stepsMade, ai (a 3) cI 48 S_bridges, o_Y a Y_islands Y_ways] (some (.int r0)) := by
  refine mG_of (cc := cX9_allBridges) (maxL := 3) (ret := (some .int)) (by decide) rfl rfl (Nat.le_of_ble_eq_true rfl) ?_
  intro p e s m args below meth c A hx hb hr hml hlk hnm hts hown hK hP hD hA hS ls hl
  have hl : lv_has ls 3 [(0, .ref (a 0))] := hl
  have hiX2 : ∀ w ∈ wsX20, w ∈ wsX9_allBridges := fun w h => List.mem_cons_of_mem _ (List.mem_append_left _ (List.mem_append_right _ h))
  have hiX6 : ∀ w ∈ wsX60, w ∈ wsX9_allBridges := fun w h => List.mem_cons_of_mem _ (List.mem_append_right _ h)
  have hiX9 : ∀ w ∈ wsX90, w ∈ wsX9_allBridges := fun w h => List.mem_cons_of_mem _ (List.mem_append_left _ (List.mem_append_left _ (List.mem_append_right _ h)))
  unfold m_X9_allBridges at hm
  have h4 : ∀ (n : Nat) (y1 : Int32) (y2 : Int32), zl2 (m_X9_allBridges_b4 S_bridges Y_ways) n y1 y2 = some r0 → ∀ (H : Heap) (locs : List Loc), va_P D vwCl [o_X a , o_S a S_columns S_rows S_grade S_stepsMade, ai (a 3) cI 48 S_bridges, o_Y a Y_islands Y_ways] H → va_D A [o_X a , o_S a S_columns S_rows S_grade S_stepsMade, ai (a 3) cI 48 S_bridges, o_Y a Y_islands Y_ways] → va_S A s.heap H locs → ∀ ls : Array Slot, lv_has ls 3 [(0, .ref (a 0)), (1, .int y1), (2, .int y2)] → W p l e { frames := 1, cells := 0, slots := 0, locals := 21 } s m args below meth c H locs 0 0 (MQ below (eQ D (some (.int r0)) (fun _ : Unit => [o_X a , o_S a S_columns S_rows S_grade S_stepsMade, ai (a 3) cI 48 S_bridges, o_Y a Y_islands Y_ways]) A) args s 0 0 A) (F0 m 4 ls []) := by
    refine zl2_ind (fun rec4 ih4 y1 y2 hm => ?_)
    intro H locs hP hD hS ls hl
    unfold m_X9_allBridges_b4 at hm
    refine lv_iload_n hx hb dX9_allBridges_4 rfl (lv_at hl 2 rfl) ?_
    refine lv_aload_n hx hb dX9_allBridges_5 rfl (lv_at hl 0 rfl) ?_
    refine va_get (D := D) (ci := 9) (v := .ref (a 5)) (C := RX9) (T := TX9) (N := 9) hx hb hts hiX9 hown hK.1 hP 0 rfl rfl 1 (by decide) (hts (.fieldLink RX9 19 "IslandBridges" "layout" "LIslandBridges$Layout;") (List.mem_of_getElem? (i := 1) rfl)) (fun _ h9 => h9) rfl dX9_allBridges_6 ?_
    refine va_get (D := D) (ci := 2) (v := .int Y_ways) (C := RX2) (T := TX2) (N := 11) hx hb hts hiX2 hown hK.1 hP 3 rfl rfl 10 (by decide) (hts (.fieldLink RX9 114 "IslandBridges$Layout" "ways" "I") (List.mem_of_getElem? (i := 2) rfl)) (fun _ h9 => h9) rfl dX9_allBridges_9 ?_
    refine lv_icmp_ge (tgt := 35) hx hb dX9_allBridges_12 (by decide) (fun c12 => ?_) (fun c12 => ?_)
    · have hm := ip c12 hm
      refine lv_iload_n hx hb dX9_allBridges_35 rfl (lv_at hl 1 rfl) ?_
      cases hm
      exact rI () hx hb hr hlk hP hD hS dX9_allBridges_36
    · have hm := ine c12 hm
      refine lv_iload_n hx hb dX9_allBridges_15 rfl (lv_at hl 1 rfl) ?_
      refine lv_aload_n hx hb dX9_allBridges_16 rfl (lv_at hl 0 rfl) ?_
      refine va_get (D := D) (ci := 9) (v := .ref (a 1)) (C := RX9) (T := TX9) (N := 9) hx hb hts hiX9 hown hK.1 hP 0 rfl rfl 0 (by decide) (hts (.fieldLink RX9 10 "IslandBridges" "state" "LIslandBridges$State;") (List.mem_of_getElem? (i := 3) rfl)) (fun _ h9 => h9) rfl dX9_allBridges_17 ?_
      refine va_get (D := D) (ci := 6) (v := .ref (a 3)) (C := RX6) (T := TX6) (N := 7) hx hb hts hiX6 hown hK.1 hP 1 rfl rfl 1 (by decide) (hts (.fieldLink RX9 117 "IslandBridges$State" "bridges" "[I") (List.mem_of_getElem? (i := 4) rfl)) (fun _ h9 => h9) rfl dX9_allBridges_20 ?_
      refine lv_iload_n hx hb dX9_allBridges_23 rfl (lv_at hl 2 rfl) ?_
      obtain ⟨v3, ev3, hm⟩ := lt1_inv hm
      refine cSs ⟨hx, hb, hml, hown, hts⟩ (c_X9_valueAt l D cI cJ cS cB (a 3) 48 (Nat.le_of_ble_eq_true rfl) S_bridges y2 v3 ev3) (va_cwS 2 hts gX9_allBridges_X9_valueAt rfl rfl rfl hd_X9_valueAt ⟨(Nat.le_of_ble_eq_true rfl), (Nat.le_of_ble_eq_true rfl)⟩) hK hP hD hS hA [2] rfl rfl rfl hl.1 (Nat.le_of_ble_eq_true rfl) ⟨Nat.zero_le _, Nat.zero_le _⟩ rfl dX9_allBridges_24 (fun H locs hP hD hS => ?_)
      refine lv_iadd hx hb dX9_allBridges_27 ?_
      obtain ⟨v4, ev4, hm⟩ := lt1_inv hm
      refine ltop ev4 ?_
      refine lv_istore_n (lv' := [(1, .int v4), (0, .ref (a 0)), (2, .int y2)]) hx hb dX9_allBridges_28 rfl hl (by decide) rfl (fun ls hl => ?_)
      obtain ⟨v5, ev5, hm⟩ := lt1_inv hm
      refine lv_iinc (v := v5) (lv' := [(2, .int v5), (1, .int v4), (0, .ref (a 0))]) hx hb dX9_allBridges_29 hl (k := 2) rfl ev5 (by decide) rfl (fun ls hl => ?_)
      refine lv_goto (tgt := 4) hx hb dX9_allBridges_32 (by decide) ?_
      exact ih4 v4 v5 hm _ _ hP hD hS ls (lv_sub hl [2, 1, 0] rfl)
  refine lv_iconst (v := 0) hx hb dX9_allBridges_0 (by decide) ?_
  refine lv_istore_n (lv' := [(1, .int 0), (0, .ref (a 0))]) hx hb dX9_allBridges_1 rfl hl (by decide) rfl (fun ls hl => ?_)
  refine lv_iconst (v := 0) hx hb dX9_allBridges_2 (by decide) ?_
  refine lv_istore_n (lv' := [(2, .int 0), (1, .int 0), (0, .ref (a 0))]) hx hb dX9_allBridges_3 rfl hl (by decide) rfl (fun ls hl => ?_)
  exact h4  N 0 0 hm _ _ hP hD hS ls (lv_sub hl [2, 1, 0] rfl)
theorem hd_X9_completeIslands : yX9_completeIslands.cls = RX9 ∧ yX9_completeIslands.cls ≠ "java/lang/invoke/MethodHandle" ∧ yX9_completeIslands.cls ≠ "java/lang/invoke/VarHandle" ∧ (parseMethodDescriptor yX9_completeIslands.desc).map (fun d => d.parameters.length) = some 0 := by decide +kernel
def m_X9_completeIslands_j39 (rec11 : Int32 → Int32 → Option (Int32 × (Nat → Int32) × (Nat → Int32) × (Nat → Int32) × (Nat → Int32))) (y12 : Int32) (y13 : Int32) : Option (Int32 × (Nat → Int32) × (Nat → Int32) × (Nat → Int32) × (Nat → Int32)) :=
  lt1 (y13 + 1) (fun v14 => rec11 y12 v14)
def m_X9_completeIslands_b11 (Y_islands : Int32) (y7 : Nat → Int32) (y8 : Nat → Int32) (y9 : Nat → Int32) (y10 : Nat → Int32) (rec11 : Int32 → Int32 → Option (Int32 × (Nat → Int32) × (Nat → Int32) × (Nat → Int32) × (Nat → Int32))) (y5 : Int32) (y6 : Int32) : Option (Int32 × (Nat → Int32) × (Nat → Int32) × (Nat → Int32) × (Nat → Int32)) :=
  if Y_islands ≤ y6 then (some ((y5, y7, y8, y9, y10))) else (lt1 (vAt 24 y10 y6) (fun v11 => if v11 = 0 then (lt1 (y5 + 1) (fun v15 => m_X9_completeIslands_j39 rec11 v15 y6)) else (m_X9_completeIslands_j39 rec11 y5 y6)))
def m_X9_completeIslands (N : Nat) (S_numbers : Nat → Int32) (S_bridges : Nat → Int32) (S_caps : Nat → Int32) (Y_islands : Int32) (Y_ways : Int32) (Y_cellOf : Nat → Int32) (Y_firstOf : Nat → Int32) (Y_secondOf : Nat → Int32) (U_numbers : Nat → Int32) (U_bridges : Nat → Int32) (U_caps : Nat → Int32) (U_lacks : Nat → Int32) : Option (Int32 × (Nat → Int32) × (Nat → Int32) × (Nat → Int32) × (Nat → Int32)) :=
  bd4 (m_X7_read N S_numbers S_bridges S_caps Y_islands Y_ways Y_cellOf Y_firstOf Y_secondOf U_numbers U_bridges U_caps U_lacks) (fun v1 v2 v3 v4 => zl2 (m_X9_completeIslands_b11 Y_islands v1 v2 v3 v4) N 0 0)
set_option maxHeartbeats 4000000 in
set_option maxRecDepth 100000 in
theorem c_X9_completeIslands (l : Launch) (D : va_G) (cI cJ cS cB : ClassId) (a : Nat → Nat) (S_columns : Int32) (S_rows : Int32) (S_grade : Int32) (S_stepsMade : Int32) (S_numbers : Nat → Int32) (S_bridges : Nat → Int32) (S_caps : Nat → Int32) (Y_islands : Int32) (Y_ways : Int32) (Y_cellOf : Nat → Int32) (Y_firstOf : Nat → Int32) (Y_secondOf : Nat → Int32) (U_numbers : Nat → Int32) (U_bridges : Nat → Int32) (U_caps : Nat → Int32) (U_lacks : Nat → Int32)  (N : Nat) (r0 : Int32) (U_numbers' : Nat → Int32) (U_bridges' : Nat → Int32) (U_caps' : Nat → Int32) (U_lacks' : Nat → Int32) (hm : m_X9_completeIslands N S_numbers S_bridges S_caps Y_islands Y_ways Y_cellOf Y_firstOf Y_secondOf U_numbers U_bridges U_caps U_lacks = some (r0, U_numbers', U_bridges', U_caps', U_lacks')) :
    mU l D (TYs cI cJ cS cB) yX9_completeIslands wsX9_completeIslands { frames := 3, cells := 0, slots := 0, locals := 66 } [.ref (a 0)] [o_X a , o_S a S_columns S_rows S_grade S_stepsMade, ai (a 2) cI 144 S_numbers, ai (a 3) cI 48 S_bridges, ai (a 4) cI 48 S_caps, o_Y a Y_islands Y_ways, ai (a 6) cI 24 Y_cellOf, ai (a 8) cI 48 Y_firstOf, ai (a 9) cI 48 Y_secondOf, o_U a , ai (a 16) cI 24 U_numbers, ai (a 17) cI 24 U_bridges, ai (a 18) cI 24 U_caps, ai (a 19) cI 24 U_lacks] [o_X a , o_S a S_columns S_rows S_grade S_stepsMade, ai (a 2) cI 144 S_numbers, ai (a 3) cI 48 S_bridges, ai (a 4) cI 48 S_caps, o_Y a Y_islands Y_ways, ai (a 6) cI 24 Y_cellOf, ai (a 8) cI 48 Y_firstOf, ai (a 9) cI 48 Y_secondOf, o_U a , ai (a 16) cI 24 U_numbers', ai (a 17) cI 24 U_bridges', ai (a 18) cI 24 U_caps', ai (a 19) cI 24 U_lacks'] (some (.int r0)) := by
  refine mG_of (cc := cX9_completeIslands) (maxL := 3) (ret := (some .int)) (by decide) rfl rfl (Nat.le_of_ble_eq_true rfl) ?_
  intro p e s m args below meth c A hx hb hr hml hlk hnm hts hown hK hP hD hA hS ls hl
  have hl : lv_has ls 3 [(0, .ref (a 0))] := hl
  have hiX2 : ∀ w ∈ wsX20, w ∈ wsX9_completeIslands := fun w h => List.mem_cons_of_mem _ (List.mem_append_left _ (List.mem_append_left _ (List.mem_append_right _ h)))
  have hiX6 : ∀ w ∈ wsX60, w ∈ wsX9_completeIslands := fun w h => List.mem_cons_of_mem _ (List.mem_append_right _ h)
  have hiX7 : ∀ w ∈ wsX70, w ∈ wsX9_completeIslands := fun w h => List.mem_cons_of_mem _ (List.mem_append_left _ (List.mem_append_right _ h))
  have hiX9 : ∀ w ∈ wsX90, w ∈ wsX9_completeIslands := fun w h => List.mem_cons_of_mem _ (List.mem_append_left _ (List.mem_append_left _ (List.mem_append_left _ (List.mem_append_right _ h))))
  unfold m_X9_completeIslands at hm
  have h11 : ∀ (y7 : Nat → Int32) (y8 : Nat → Int32) (y9 : Nat → Int32) (y10 : Nat → Int32), ∀ (n : Nat) (y5 : Int32) (y6 : Int32), zl2 (m_X9_completeIslands_b11 Y_islands y7 y8 y9 y10) n y5 y6 = some (r0, U_numbers', U_bridges', U_caps', U_lacks') → ∀ (H : Heap) (locs : List Loc), va_P D vwCl [o_X a , o_S a S_columns S_rows S_grade S_stepsMade, ai (a 2) cI 144 S_numbers, ai (a 3) cI 48 S_bridges, ai (a 4) cI 48 S_caps, o_Y a Y_islands Y_ways, ai (a 6) cI 24 Y_cellOf, ai (a 8) cI 48 Y_firstOf, ai (a 9) cI 48 Y_secondOf, o_U a , ai (a 16) cI 24 y7, ai (a 17) cI 24 y8, ai (a 18) cI 24 y9, ai (a 19) cI 24 y10] H → va_D A [o_X a , o_S a S_columns S_rows S_grade S_stepsMade, ai (a 2) cI 144 S_numbers, ai (a 3) cI 48 S_bridges, ai (a 4) cI 48 S_caps, o_Y a Y_islands Y_ways, ai (a 6) cI 24 Y_cellOf, ai (a 8) cI 48 Y_firstOf, ai (a 9) cI 48 Y_secondOf, o_U a , ai (a 16) cI 24 y7, ai (a 17) cI 24 y8, ai (a 18) cI 24 y9, ai (a 19) cI 24 y10] → va_S A s.heap H locs → ∀ ls : Array Slot, lv_has ls 3 [(0, .ref (a 0)), (1, .int y5), (2, .int y6)] → W p l e { frames := 3, cells := 0, slots := 0, locals := 66 } s m args below meth c H locs 0 0 (MQ below (eQ D (some (.int r0)) (fun _ : Unit => [o_X a , o_S a S_columns S_rows S_grade S_stepsMade, ai (a 2) cI 144 S_numbers, ai (a 3) cI 48 S_bridges, ai (a 4) cI 48 S_caps, o_Y a Y_islands Y_ways, ai (a 6) cI 24 Y_cellOf, ai (a 8) cI 48 Y_firstOf, ai (a 9) cI 48 Y_secondOf, o_U a , ai (a 16) cI 24 U_numbers', ai (a 17) cI 24 U_bridges', ai (a 18) cI 24 U_caps', ai (a 19) cI 24 U_lacks']) A) args s 0 0 A) (F0 m 11 ls []) := by
    intro y7 y8 y9 y10
    refine zl2_ind (fun rec11 ih11 y5 y6 hm => ?_)
    have h39 : ∀ (y12 : Int32) (y13 : Int32), m_X9_completeIslands_j39 rec11 y12 y13 = some (r0, U_numbers', U_bridges', U_caps', U_lacks') → ∀ (H : Heap) (locs : List Loc), va_P D vwCl [o_X a , o_S a S_columns S_rows S_grade S_stepsMade, ai (a 2) cI 144 S_numbers, ai (a 3) cI 48 S_bridges, ai (a 4) cI 48 S_caps, o_Y a Y_islands Y_ways, ai (a 6) cI 24 Y_cellOf, ai (a 8) cI 48 Y_firstOf, ai (a 9) cI 48 Y_secondOf, o_U a , ai (a 16) cI 24 y7, ai (a 17) cI 24 y8, ai (a 18) cI 24 y9, ai (a 19) cI 24 y10] H → va_D A [o_X a , o_S a S_columns S_rows S_grade S_stepsMade, ai (a 2) cI 144 S_numbers, ai (a 3) cI 48 S_bridges, ai (a 4) cI 48 S_caps, o_Y a Y_islands Y_ways, ai (a 6) cI 24 Y_cellOf, ai (a 8) cI 48 Y_firstOf, ai (a 9) cI 48 Y_secondOf, o_U a , ai (a 16) cI 24 y7, ai (a 17) cI 24 y8, ai (a 18) cI 24 y9, ai (a 19) cI 24 y10] → va_S A s.heap H locs → ∀ ls : Array Slot, lv_has ls 3 [(0, .ref (a 0)), (1, .int y12), (2, .int y13)] → W p l e { frames := 3, cells := 0, slots := 0, locals := 66 } s m args below meth c H locs 0 0 (MQ below (eQ D (some (.int r0)) (fun _ : Unit => [o_X a , o_S a S_columns S_rows S_grade S_stepsMade, ai (a 2) cI 144 S_numbers, ai (a 3) cI 48 S_bridges, ai (a 4) cI 48 S_caps, o_Y a Y_islands Y_ways, ai (a 6) cI 24 Y_cellOf, ai (a 8) cI 48 Y_firstOf, ai (a 9) cI 48 Y_secondOf, o_U a , ai (a 16) cI 24 U_numbers', ai (a 17) cI 24 U_bridges', ai (a 18) cI 24 U_caps', ai (a 19) cI 24 U_lacks']) A) args s 0 0 A) (F0 m 39 ls []) := by
      intro y12 y13 hm H locs hP hD hS ls hl
      unfold m_X9_completeIslands_j39 at hm
      obtain ⟨v14, ev14, hm⟩ := lt1_inv hm
      refine lv_iinc (v := v14) (lv' := [(2, .int v14), (0, .ref (a 0)), (1, .int y12)]) hx hb dX9_completeIslands_39 hl (k := 2) rfl ev14 (by decide) rfl (fun ls hl => ?_)
      refine lv_goto (tgt := 11) hx hb dX9_completeIslands_42 (by decide) ?_
      exact ih11 y12 v14 hm _ _ hP hD hS ls (lv_sub hl [1, 2, 0] rfl)
    intro H locs hP hD hS ls hl
    unfold m_X9_completeIslands_b11 at hm
    refine lv_iload_n hx hb dX9_completeIslands_11 rfl (lv_at hl 2 rfl) ?_
    refine lv_aload_n hx hb dX9_completeIslands_12 rfl (lv_at hl 0 rfl) ?_
    refine va_get (D := D) (ci := 9) (v := .ref (a 5)) (C := RX9) (T := TX9) (N := 9) hx hb hts hiX9 hown hK.1 hP 0 rfl rfl 1 (by decide) (hts (.fieldLink RX9 19 "IslandBridges" "layout" "LIslandBridges$Layout;") (List.mem_of_getElem? (i := 2) rfl)) (fun _ h9 => h9) rfl dX9_completeIslands_13 ?_
    refine va_get (D := D) (ci := 2) (v := .int Y_islands) (C := RX2) (T := TX2) (N := 11) hx hb hts hiX2 hown hK.1 hP 5 rfl rfl 9 (by decide) (hts (.fieldLink RX9 84 "IslandBridges$Layout" "islands" "I") (List.mem_of_getElem? (i := 3) rfl)) (fun _ h9 => h9) rfl dX9_completeIslands_16 ?_
    refine lv_icmp_ge (tgt := 45) hx hb dX9_completeIslands_19 (by decide) (fun c19 => ?_) (fun c19 => ?_)
    · have hm := ip c19 hm
      refine lv_iload_n hx hb dX9_completeIslands_45 rfl (lv_at hl 1 rfl) ?_
      cases hm
      exact rI () hx hb hr hlk hP hD hS dX9_completeIslands_46
    · have hm := ine c19 hm
      refine lv_aload_n hx hb dX9_completeIslands_22 rfl (lv_at hl 0 rfl) ?_
      refine va_get (D := D) (ci := 9) (v := .ref (a 15)) (C := RX9) (T := TX9) (N := 9) hx hb hts hiX9 hown hK.1 hP 0 rfl rfl 2 (by decide) (hts (.fieldLink RX9 28 "IslandBridges" "sums" "LIslandBridges$Sums;") (List.mem_of_getElem? (i := 1) rfl)) (fun _ h9 => h9) rfl dX9_completeIslands_23 ?_
      refine va_get (D := D) (ci := 7) (v := .ref (a 19)) (C := RX7) (T := TX7) (N := 6) hx hb hts hiX7 hown hK.1 hP 9 rfl rfl 5 (by decide) (hts (.fieldLink RX9 135 "IslandBridges$Sums" "lacks" "[I") (List.mem_of_getElem? (i := 4) rfl)) (fun _ h9 => h9) rfl dX9_completeIslands_26 ?_
      refine lv_iload_n hx hb dX9_completeIslands_29 rfl (lv_at hl 2 rfl) ?_
      obtain ⟨v11, ev11, hm⟩ := lt1_inv hm
      refine cSs ⟨hx, hb, hml, hown, hts⟩ (c_X9_valueAt l D cI cJ cS cB (a 19) 24 (Nat.le_of_ble_eq_true rfl) y10 y6 v11 ev11) (va_cwS 2 hts gX9_completeIslands_X9_valueAt rfl rfl rfl hd_X9_valueAt ⟨(Nat.le_of_ble_eq_true rfl), (Nat.le_of_ble_eq_true rfl)⟩) hK hP hD hS hA [13] rfl rfl rfl hl.1 (Nat.le_of_ble_eq_true rfl) ⟨Nat.zero_le _, Nat.zero_le _⟩ rfl dX9_completeIslands_30 (fun H locs hP hD hS => ?_)
      refine lv_if_ne (tgt := 39) hx hb dX9_completeIslands_33 (by decide) (fun c33 => ?_) (fun c33 => ?_)
      · have hm := ine c33 hm
        exact h39 y5 y6 hm _ _ hP hD hS ls (lv_sub hl [0, 1, 2] rfl)
      · have hm := ip c33 hm
        obtain ⟨v15, ev15, hm⟩ := lt1_inv hm
        refine lv_iinc (v := v15) (lv' := [(1, .int v15), (0, .ref (a 0)), (2, .int y6)]) hx hb dX9_completeIslands_36 hl (k := 1) rfl ev15 (by decide) rfl (fun ls hl => ?_)
        exact h39 v15 y6 hm _ _ hP hD hS ls (lv_sub hl [1, 0, 2] rfl)
  refine lv_aload_n hx hb dX9_completeIslands_0 rfl (lv_at hl 0 rfl) ?_
  refine va_get (D := D) (ci := 9) (v := .ref (a 15)) (C := RX9) (T := TX9) (N := 9) hx hb hts hiX9 hown hK.1 hP 0 rfl rfl 2 (by decide) (hts (.fieldLink RX9 28 "IslandBridges" "sums" "LIslandBridges$Sums;") (List.mem_of_getElem? (i := 1) rfl)) (fun _ h9 => h9) rfl dX9_completeIslands_1 ?_
  obtain ⟨v1, v2, v3, v4, h_v1, hm⟩ := bd4_inv hm
  refine cVx ⟨hx, hb, hml, hown, hts⟩ (c_X7_read l D cI cJ cS cB a S_columns S_rows S_grade S_stepsMade S_numbers S_bridges S_caps Y_islands Y_ways Y_cellOf Y_firstOf Y_secondOf U_numbers U_bridges U_caps U_lacks N v1 v2 v3 v4 h_v1) (cwV 0 hts gX9_completeIslands_X7_read rfl rfl rfl hd_X7_read ⟨(Nat.le_of_ble_eq_true rfl), (Nat.le_of_ble_eq_true rfl)⟩) hK hP hD hS hA [1, 2, 3, 4, 5, 6, 7, 8, 9, 10, 11, 12, 13] rfl rfl [o_X a , o_S a S_columns S_rows S_grade S_stepsMade, ai (a 2) cI 144 S_numbers, ai (a 3) cI 48 S_bridges, ai (a 4) cI 48 S_caps, o_Y a Y_islands Y_ways, ai (a 6) cI 24 Y_cellOf, ai (a 8) cI 48 Y_firstOf, ai (a 9) cI 48 Y_secondOf, o_U a , ai (a 16) cI 24 v1, ai (a 17) cI 24 v2, ai (a 18) cI 24 v3, ai (a 19) cI 24 v4] [(false, 0), (true, 0), (true, 1), (true, 2), (true, 3), (true, 4), (true, 5), (true, 6), (true, 7), (true, 8), (true, 9), (true, 10), (true, 11), (true, 12)] rfl rfl rfl hl.1 (Nat.le_of_ble_eq_true rfl) ⟨Nat.zero_le _, Nat.zero_le _⟩ 9 rfl rfl rfl rfl dX9_completeIslands_4 (fun H locs hP hD hS => ?_)
  refine lv_iconst (v := 0) hx hb dX9_completeIslands_7 (by decide) ?_
  refine lv_istore_n (lv' := [(1, .int 0), (0, .ref (a 0))]) hx hb dX9_completeIslands_8 rfl hl (by decide) rfl (fun ls hl => ?_)
  refine lv_iconst (v := 0) hx hb dX9_completeIslands_9 (by decide) ?_
  refine lv_istore_n (lv' := [(2, .int 0), (1, .int 0), (0, .ref (a 0))]) hx hb dX9_completeIslands_10 rfl hl (by decide) rfl (fun ls hl => ?_)
  exact h11 v1 v2 v3 v4 N 0 0 hm _ _ hP hD hS ls (lv_sub hl [2, 1, 0] rfl)
theorem hd_X9_groupsInAll : yX9_groupsInAll.cls = RX9 ∧ yX9_groupsInAll.cls ≠ "java/lang/invoke/MethodHandle" ∧ yX9_groupsInAll.cls ≠ "java/lang/invoke/VarHandle" ∧ (parseMethodDescriptor yX9_groupsInAll.desc).map (fun d => d.parameters.length) = some 0 := by decide +kernel
def m_X9_groupsInAll (N : Nat) (S_bridges : Nat → Int32) (Y_islands : Int32) (Y_ways : Int32) (Y_firstOf : Nat → Int32) (Y_secondOf : Nat → Int32) (G_leaders : Nat → Int32) : Option (Int32 × (Nat → Int32)) :=
  bd1 (m_X0_read N Y_islands Y_ways Y_firstOf Y_secondOf G_leaders S_bridges) (fun v1 => bd1 (m_X0_total N Y_islands v1) (fun v2 => some ((v2, v1))))
set_option maxHeartbeats 4000000 in
set_option maxRecDepth 100000 in
theorem c_X9_groupsInAll (l : Launch) (D : va_G) (cI cJ cS cB : ClassId) (a : Nat → Nat) (S_columns : Int32) (S_rows : Int32) (S_grade : Int32) (S_stepsMade : Int32) (S_bridges : Nat → Int32) (Y_islands : Int32) (Y_ways : Int32) (Y_firstOf : Nat → Int32) (Y_secondOf : Nat → Int32) (G_leaders : Nat → Int32)  (N : Nat) (r0 : Int32) (G_leaders' : Nat → Int32) (hm : m_X9_groupsInAll N S_bridges Y_islands Y_ways Y_firstOf Y_secondOf G_leaders = some (r0, G_leaders')) :
    mU l D (TYs cI cJ cS cB) yX9_groupsInAll wsX9_groupsInAll { frames := 3, cells := 0, slots := 0, locals := 69 } [.ref (a 0)] [o_X a , o_S a S_columns S_rows S_grade S_stepsMade, ai (a 3) cI 48 S_bridges, o_Y a Y_islands Y_ways, ai (a 8) cI 48 Y_firstOf, ai (a 9) cI 48 Y_secondOf, o_G a , ai (a 21) cI 24 G_leaders] [o_X a , o_S a S_columns S_rows S_grade S_stepsMade, ai (a 3) cI 48 S_bridges, o_Y a Y_islands Y_ways, ai (a 8) cI 48 Y_firstOf, ai (a 9) cI 48 Y_secondOf, o_G a , ai (a 21) cI 24 G_leaders'] (some (.int r0)) := by
  refine mG_of (cc := cX9_groupsInAll) (maxL := 1) (ret := (some .int)) (by decide) rfl rfl (Nat.le_of_ble_eq_true rfl) ?_
  intro p e s m args below meth c A hx hb hr hml hlk hnm hts hown hK hP hD hA hS ls hl
  have hl : lv_has ls 1 [(0, .ref (a 0))] := hl
  have hiX0 : ∀ w ∈ wsX00, w ∈ wsX9_groupsInAll := fun w h => List.mem_cons_of_mem _ (List.mem_append_left _ (List.mem_append_right _ h))
  have hiX2 : ∀ w ∈ wsX20, w ∈ wsX9_groupsInAll := fun w h => List.mem_cons_of_mem _ (List.mem_append_right _ h)
  have hiX6 : ∀ w ∈ wsX60, w ∈ wsX9_groupsInAll := fun w h => List.mem_cons_of_mem _ (List.mem_append_left _ (List.mem_append_left _ (List.mem_append_right _ h)))
  have hiX9 : ∀ w ∈ wsX90, w ∈ wsX9_groupsInAll := fun w h => List.mem_cons_of_mem _ (List.mem_append_left _ (List.mem_append_left _ (List.mem_append_left _ (List.mem_append_right _ h))))
  unfold m_X9_groupsInAll at hm
  refine lv_aload_n hx hb dX9_groupsInAll_0 rfl (lv_at hl 0 rfl) ?_
  refine va_get (D := D) (ci := 9) (v := .ref (a 20)) (C := RX9) (T := TX9) (N := 9) hx hb hts hiX9 hown hK.1 hP 0 rfl rfl 3 (by decide) (hts (.fieldLink RX9 37 "IslandBridges" "groups" "LIslandBridges$Groups;") (List.mem_of_getElem? (i := 1) rfl)) (fun _ h9 => h9) rfl dX9_groupsInAll_1 ?_
  refine lv_aload_n hx hb dX9_groupsInAll_4 rfl (lv_at hl 0 rfl) ?_
  refine va_get (D := D) (ci := 9) (v := .ref (a 1)) (C := RX9) (T := TX9) (N := 9) hx hb hts hiX9 hown hK.1 hP 0 rfl rfl 0 (by decide) (hts (.fieldLink RX9 10 "IslandBridges" "state" "LIslandBridges$State;") (List.mem_of_getElem? (i := 2) rfl)) (fun _ h9 => h9) rfl dX9_groupsInAll_5 ?_
  refine va_get (D := D) (ci := 6) (v := .ref (a 3)) (C := RX6) (T := TX6) (N := 7) hx hb hts hiX6 hown hK.1 hP 1 rfl rfl 1 (by decide) (hts (.fieldLink RX9 117 "IslandBridges$State" "bridges" "[I") (List.mem_of_getElem? (i := 3) rfl)) (fun _ h9 => h9) rfl dX9_groupsInAll_8 ?_
  obtain ⟨v1, h_v1, hm⟩ := bd1_inv hm
  refine cVx ⟨hx, hb, hml, hown, hts⟩ (c_X0_read l D cI cJ cS cB a (a 3) Y_islands Y_ways Y_firstOf Y_secondOf G_leaders S_bridges N v1 h_v1) (cwV 1 hts gX9_groupsInAll_X0_read rfl rfl rfl hd_X0_read ⟨(Nat.le_of_ble_eq_true rfl), (Nat.le_of_ble_eq_true rfl)⟩) hK hP hD hS hA [3, 4, 5, 6, 7, 2] rfl rfl [o_X a , o_S a S_columns S_rows S_grade S_stepsMade, ai (a 3) cI 48 S_bridges, o_Y a Y_islands Y_ways, ai (a 8) cI 48 Y_firstOf, ai (a 9) cI 48 Y_secondOf, o_G a , ai (a 21) cI 24 v1] [(false, 0), (false, 1), (true, 5), (true, 0), (true, 1), (true, 2), (true, 3), (true, 4)] rfl rfl rfl hl.1 (Nat.le_of_ble_eq_true rfl) ⟨Nat.zero_le _, Nat.zero_le _⟩ 6 rfl rfl rfl rfl dX9_groupsInAll_11 (fun H locs hP hD hS => ?_)
  refine lv_aload_n hx hb dX9_groupsInAll_14 rfl (lv_at hl 0 rfl) ?_
  refine va_get (D := D) (ci := 9) (v := .ref (a 20)) (C := RX9) (T := TX9) (N := 9) hx hb hts hiX9 hown hK.1 hP 0 rfl rfl 3 (by decide) (hts (.fieldLink RX9 37 "IslandBridges" "groups" "LIslandBridges$Groups;") (List.mem_of_getElem? (i := 1) rfl)) (fun _ h9 => h9) rfl dX9_groupsInAll_15 ?_
  obtain ⟨v2, h_v2, hm⟩ := bd1_inv hm
  refine cVs ⟨hx, hb, hml, hown, hts⟩ (c_X0_total l D cI cJ cS cB a Y_islands Y_ways v1 N v2 h_v2) (cwV 0 hts gX9_groupsInAll_X0_total rfl rfl rfl hd_X0_total ⟨(Nat.le_of_ble_eq_true rfl), (Nat.le_of_ble_eq_true rfl)⟩) hK hP hD hS hA [3, 6, 7] rfl rfl rfl hl.1 (Nat.le_of_ble_eq_true rfl) ⟨Nat.zero_le _, Nat.zero_le _⟩ 6 rfl rfl rfl rfl dX9_groupsInAll_18 (fun H locs hP hD hS => ?_)
  cases hm
  exact rI () hx hb hr hlk hP hD hS dX9_groupsInAll_21
theorem hd_X9_isSolved : yX9_isSolved.cls = RX9 ∧ yX9_isSolved.cls ≠ "java/lang/invoke/MethodHandle" ∧ yX9_isSolved.cls ≠ "java/lang/invoke/VarHandle" ∧ (parseMethodDescriptor yX9_isSolved.desc).map (fun d => d.parameters.length) = some 0 := by decide +kernel
def m_X9_isSolved (N : Nat) (S_numbers : Nat → Int32) (S_bridges : Nat → Int32) (S_caps : Nat → Int32) (Y_islands : Int32) (Y_ways : Int32) (Y_cellOf : Nat → Int32) (Y_firstOf : Nat → Int32) (Y_secondOf : Nat → Int32) (U_numbers : Nat → Int32) (U_bridges : Nat → Int32) (U_caps : Nat → Int32) (U_lacks : Nat → Int32) (G_leaders : Nat → Int32) : Option (Int32 × (Nat → Int32) × (Nat → Int32) × (Nat → Int32) × (Nat → Int32) × (Nat → Int32)) :=
  if Y_islands ≤ 0 then (some ((0, U_numbers, U_bridges, U_caps, U_lacks, G_leaders))) else (bd5 (m_X9_completeIslands N S_numbers S_bridges S_caps Y_islands Y_ways Y_cellOf Y_firstOf Y_secondOf U_numbers U_bridges U_caps U_lacks) (fun v1 v2 v3 v4 v5 => if v1 = Y_islands then (bd2 (m_X9_groupsInAll N S_bridges Y_islands Y_ways Y_firstOf Y_secondOf G_leaders) (fun v6 v7 => if v6 = 1 then (some ((1, v2, v3, v4, v5, v7))) else (some ((0, v2, v3, v4, v5, v7))))) else (some ((0, v2, v3, v4, v5, G_leaders)))))
set_option maxHeartbeats 4000000 in
set_option maxRecDepth 100000 in
theorem c_X9_isSolved (l : Launch) (D : va_G) (cI cJ cS cB : ClassId) (a : Nat → Nat) (S_columns : Int32) (S_rows : Int32) (S_grade : Int32) (S_stepsMade : Int32) (S_numbers : Nat → Int32) (S_bridges : Nat → Int32) (S_caps : Nat → Int32) (Y_islands : Int32) (Y_ways : Int32) (Y_cellOf : Nat → Int32) (Y_firstOf : Nat → Int32) (Y_secondOf : Nat → Int32) (U_numbers : Nat → Int32) (U_bridges : Nat → Int32) (U_caps : Nat → Int32) (U_lacks : Nat → Int32) (G_leaders : Nat → Int32)  (N : Nat) (r0 : Int32) (U_numbers' : Nat → Int32) (U_bridges' : Nat → Int32) (U_caps' : Nat → Int32) (U_lacks' : Nat → Int32) (G_leaders' : Nat → Int32) (hm : m_X9_isSolved N S_numbers S_bridges S_caps Y_islands Y_ways Y_cellOf Y_firstOf Y_secondOf U_numbers U_bridges U_caps U_lacks G_leaders = some (r0, U_numbers', U_bridges', U_caps', U_lacks', G_leaders')) :
    mU l D (TYs cI cJ cS cB) yX9_isSolved wsX9_isSolved { frames := 4, cells := 0, slots := 0, locals := 89 } [.ref (a 0)] [o_X a , o_S a S_columns S_rows S_grade S_stepsMade, ai (a 2) cI 144 S_numbers, ai (a 3) cI 48 S_bridges, ai (a 4) cI 48 S_caps, o_Y a Y_islands Y_ways, ai (a 6) cI 24 Y_cellOf, ai (a 8) cI 48 Y_firstOf, ai (a 9) cI 48 Y_secondOf, o_U a , ai (a 16) cI 24 U_numbers, ai (a 17) cI 24 U_bridges, ai (a 18) cI 24 U_caps, ai (a 19) cI 24 U_lacks, o_G a , ai (a 21) cI 24 G_leaders] [o_X a , o_S a S_columns S_rows S_grade S_stepsMade, ai (a 2) cI 144 S_numbers, ai (a 3) cI 48 S_bridges, ai (a 4) cI 48 S_caps, o_Y a Y_islands Y_ways, ai (a 6) cI 24 Y_cellOf, ai (a 8) cI 48 Y_firstOf, ai (a 9) cI 48 Y_secondOf, o_U a , ai (a 16) cI 24 U_numbers', ai (a 17) cI 24 U_bridges', ai (a 18) cI 24 U_caps', ai (a 19) cI 24 U_lacks', o_G a , ai (a 21) cI 24 G_leaders'] (some (.int r0)) := by
  refine mG_of (cc := cX9_isSolved) (maxL := 1) (ret := (some .boolean)) (by decide) rfl rfl (Nat.le_of_ble_eq_true rfl) ?_
  intro p e s m args below meth c A hx hb hr hml hlk hnm hts hown hK hP hD hA hS ls hl
  have hl : lv_has ls 1 [(0, .ref (a 0))] := hl
  have hiX0 : ∀ w ∈ wsX00, w ∈ wsX9_isSolved := fun w h => List.mem_cons_of_mem _ (List.mem_append_right _ h)
  have hiX2 : ∀ w ∈ wsX20, w ∈ wsX9_isSolved := fun w h => List.mem_cons_of_mem _ (List.mem_append_left _ (List.mem_append_left _ (List.mem_append_left _ (List.mem_append_right _ h))))
  have hiX6 : ∀ w ∈ wsX60, w ∈ wsX9_isSolved := fun w h => List.mem_cons_of_mem _ (List.mem_append_left _ (List.mem_append_right _ h))
  have hiX7 : ∀ w ∈ wsX70, w ∈ wsX9_isSolved := fun w h => List.mem_cons_of_mem _ (List.mem_append_left _ (List.mem_append_left _ (List.mem_append_right _ h)))
  have hiX9 : ∀ w ∈ wsX90, w ∈ wsX9_isSolved := fun w h => List.mem_cons_of_mem _ (List.mem_append_left _ (List.mem_append_left _ (List.mem_append_left _ (List.mem_append_left _ (List.mem_append_right _ h)))))
  unfold m_X9_isSolved at hm
  refine lv_aload_n hx hb dX9_isSolved_0 rfl (lv_at hl 0 rfl) ?_
  refine va_get (D := D) (ci := 9) (v := .ref (a 5)) (C := RX9) (T := TX9) (N := 9) hx hb hts hiX9 hown hK.1 hP 0 rfl rfl 1 (by decide) (hts (.fieldLink RX9 19 "IslandBridges" "layout" "LIslandBridges$Layout;") (List.mem_of_getElem? (i := 1) rfl)) (fun _ h9 => h9) rfl dX9_isSolved_1 ?_
  refine va_get (D := D) (ci := 2) (v := .int Y_islands) (C := RX2) (T := TX2) (N := 11) hx hb hts hiX2 hown hK.1 hP 5 rfl rfl 9 (by decide) (hts (.fieldLink RX9 84 "IslandBridges$Layout" "islands" "I") (List.mem_of_getElem? (i := 2) rfl)) (fun _ h9 => h9) rfl dX9_isSolved_4 ?_
  refine lv_if_le (tgt := 36) hx hb dX9_isSolved_7 (by decide) (fun c7 => ?_) (fun c7 => ?_)
  · have hm := ip c7 hm
    refine lv_iconst (v := 0) hx hb dX9_isSolved_36 (by decide) ?_
    cases hm
    exact rZ () hx hb hr hlk (by decide) hP hD hS dX9_isSolved_37
  · have hm := ine c7 hm
    refine lv_aload_n hx hb dX9_isSolved_10 rfl (lv_at hl 0 rfl) ?_
    obtain ⟨v1, v2, v3, v4, v5, h_v1, hm⟩ := bd5_inv hm
    refine cVx ⟨hx, hb, hml, hown, hts⟩ (c_X9_completeIslands l D cI cJ cS cB a S_columns S_rows S_grade S_stepsMade S_numbers S_bridges S_caps Y_islands Y_ways Y_cellOf Y_firstOf Y_secondOf U_numbers U_bridges U_caps U_lacks N v1 v2 v3 v4 v5 h_v1) (cwV 0 hts gX9_isSolved_X9_completeIslands rfl rfl rfl hd_X9_completeIslands ⟨(Nat.le_of_ble_eq_true rfl), (Nat.le_of_ble_eq_true rfl)⟩) hK hP hD hS hA [0, 1, 2, 3, 4, 5, 6, 7, 8, 9, 10, 11, 12, 13] rfl rfl [o_X a , o_S a S_columns S_rows S_grade S_stepsMade, ai (a 2) cI 144 S_numbers, ai (a 3) cI 48 S_bridges, ai (a 4) cI 48 S_caps, o_Y a Y_islands Y_ways, ai (a 6) cI 24 Y_cellOf, ai (a 8) cI 48 Y_firstOf, ai (a 9) cI 48 Y_secondOf, o_U a , ai (a 16) cI 24 v2, ai (a 17) cI 24 v3, ai (a 18) cI 24 v4, ai (a 19) cI 24 v5, o_G a , ai (a 21) cI 24 G_leaders] [(true, 0), (true, 1), (true, 2), (true, 3), (true, 4), (true, 5), (true, 6), (true, 7), (true, 8), (true, 9), (true, 10), (true, 11), (true, 12), (true, 13), (false, 14), (false, 15)] rfl rfl rfl hl.1 (Nat.le_of_ble_eq_true rfl) ⟨Nat.zero_le _, Nat.zero_le _⟩ 0 rfl rfl rfl rfl dX9_isSolved_11 (fun H locs hP hD hS => ?_)
    refine lv_aload_n hx hb dX9_isSolved_14 rfl (lv_at hl 0 rfl) ?_
    refine va_get (D := D) (ci := 9) (v := .ref (a 5)) (C := RX9) (T := TX9) (N := 9) hx hb hts hiX9 hown hK.1 hP 0 rfl rfl 1 (by decide) (hts (.fieldLink RX9 19 "IslandBridges" "layout" "LIslandBridges$Layout;") (List.mem_of_getElem? (i := 1) rfl)) (fun _ h9 => h9) rfl dX9_isSolved_15 ?_
    refine va_get (D := D) (ci := 2) (v := .int Y_islands) (C := RX2) (T := TX2) (N := 11) hx hb hts hiX2 hown hK.1 hP 5 rfl rfl 9 (by decide) (hts (.fieldLink RX9 84 "IslandBridges$Layout" "islands" "I") (List.mem_of_getElem? (i := 2) rfl)) (fun _ h9 => h9) rfl dX9_isSolved_18 ?_
    refine lv_icmp_ne (tgt := 36) hx hb dX9_isSolved_21 (by decide) (fun c21 => ?_) (fun c21 => ?_)
    · have hm := ine c21 hm
      refine lv_iconst (v := 0) hx hb dX9_isSolved_36 (by decide) ?_
      cases hm
      exact rZ () hx hb hr hlk (by decide) hP hD hS dX9_isSolved_37
    · have hm := ip c21 hm
      refine lv_aload_n hx hb dX9_isSolved_24 rfl (lv_at hl 0 rfl) ?_
      obtain ⟨v6, v7, h_v6, hm⟩ := bd2_inv hm
      refine cVx ⟨hx, hb, hml, hown, hts⟩ (c_X9_groupsInAll l D cI cJ cS cB a S_columns S_rows S_grade S_stepsMade S_bridges Y_islands Y_ways Y_firstOf Y_secondOf G_leaders N v6 v7 h_v6) (cwV 0 hts gX9_isSolved_X9_groupsInAll rfl rfl rfl hd_X9_groupsInAll ⟨(Nat.le_of_ble_eq_true rfl), (Nat.le_of_ble_eq_true rfl)⟩) hK hP hD hS hA [0, 1, 3, 5, 7, 8, 14, 15] rfl rfl [o_X a , o_S a S_columns S_rows S_grade S_stepsMade, ai (a 2) cI 144 S_numbers, ai (a 3) cI 48 S_bridges, ai (a 4) cI 48 S_caps, o_Y a Y_islands Y_ways, ai (a 6) cI 24 Y_cellOf, ai (a 8) cI 48 Y_firstOf, ai (a 9) cI 48 Y_secondOf, o_U a , ai (a 16) cI 24 v2, ai (a 17) cI 24 v3, ai (a 18) cI 24 v4, ai (a 19) cI 24 v5, o_G a , ai (a 21) cI 24 v7] [(true, 0), (true, 1), (false, 2), (true, 2), (false, 4), (true, 3), (false, 6), (true, 4), (true, 5), (false, 9), (false, 10), (false, 11), (false, 12), (false, 13), (true, 6), (true, 7)] rfl rfl rfl hl.1 (Nat.le_of_ble_eq_true rfl) ⟨Nat.zero_le _, Nat.zero_le _⟩ 0 rfl rfl rfl rfl dX9_isSolved_25 (fun H locs hP hD hS => ?_)
      refine lv_iconst (v := 1) hx hb dX9_isSolved_28 (by decide) ?_
      refine lv_icmp_ne (tgt := 36) hx hb dX9_isSolved_29 (by decide) (fun c29 => ?_) (fun c29 => ?_)
      · have hm := ine c29 hm
        refine lv_iconst (v := 0) hx hb dX9_isSolved_36 (by decide) ?_
        cases hm
        exact rZ () hx hb hr hlk (by decide) hP hD hS dX9_isSolved_37
      · have hm := ip c29 hm
        refine lv_iconst (v := 1) hx hb dX9_isSolved_32 (by decide) ?_
        refine lv_goto (tgt := 37) hx hb dX9_isSolved_33 (by decide) ?_
        cases hm
        exact rZ () hx hb hr hlk (by decide) hP hD hS dX9_isSolved_37
theorem hd_X9_isBroken : yX9_isBroken.cls = RX9 ∧ yX9_isBroken.cls ≠ "java/lang/invoke/MethodHandle" ∧ yX9_isBroken.cls ≠ "java/lang/invoke/VarHandle" ∧ (parseMethodDescriptor yX9_isBroken.desc).map (fun d => d.parameters.length) = some 0 := by decide +kernel
def m_X9_isBroken (N : Nat) (S_numbers : Nat → Int32) (S_bridges : Nat → Int32) (S_caps : Nat → Int32) (Y_islands : Int32) (Y_ways : Int32) (Y_cellOf : Nat → Int32) (Y_firstOf : Nat → Int32) (Y_secondOf : Nat → Int32) (U_numbers : Nat → Int32) (U_bridges : Nat → Int32) (U_caps : Nat → Int32) (U_lacks : Nat → Int32) : Option (Int32 × (Nat → Int32) × (Nat → Int32) × (Nat → Int32) × (Nat → Int32)) :=
  bd4 (m_X7_read N S_numbers S_bridges S_caps Y_islands Y_ways Y_cellOf Y_firstOf Y_secondOf U_numbers U_bridges U_caps U_lacks) (fun v1 v2 v3 v4 => bd1 (m_X7_areBroken N Y_islands v1 v3 v4) (fun v5 => ckb v5 (some ((v5, v1, v2, v3, v4)))))
set_option maxHeartbeats 4000000 in
set_option maxRecDepth 100000 in
theorem c_X9_isBroken (l : Launch) (D : va_G) (cI cJ cS cB : ClassId) (a : Nat → Nat) (S_columns : Int32) (S_rows : Int32) (S_grade : Int32) (S_stepsMade : Int32) (S_numbers : Nat → Int32) (S_bridges : Nat → Int32) (S_caps : Nat → Int32) (Y_islands : Int32) (Y_ways : Int32) (Y_cellOf : Nat → Int32) (Y_firstOf : Nat → Int32) (Y_secondOf : Nat → Int32) (U_numbers : Nat → Int32) (U_bridges : Nat → Int32) (U_caps : Nat → Int32) (U_lacks : Nat → Int32)  (N : Nat) (r0 : Int32) (U_numbers' : Nat → Int32) (U_bridges' : Nat → Int32) (U_caps' : Nat → Int32) (U_lacks' : Nat → Int32) (hm : m_X9_isBroken N S_numbers S_bridges S_caps Y_islands Y_ways Y_cellOf Y_firstOf Y_secondOf U_numbers U_bridges U_caps U_lacks = some (r0, U_numbers', U_bridges', U_caps', U_lacks')) :
    mU l D (TYs cI cJ cS cB) yX9_isBroken wsX9_isBroken { frames := 3, cells := 0, slots := 0, locals := 66 } [.ref (a 0)] [o_X a , o_S a S_columns S_rows S_grade S_stepsMade, ai (a 2) cI 144 S_numbers, ai (a 3) cI 48 S_bridges, ai (a 4) cI 48 S_caps, o_Y a Y_islands Y_ways, ai (a 6) cI 24 Y_cellOf, ai (a 8) cI 48 Y_firstOf, ai (a 9) cI 48 Y_secondOf, o_U a , ai (a 16) cI 24 U_numbers, ai (a 17) cI 24 U_bridges, ai (a 18) cI 24 U_caps, ai (a 19) cI 24 U_lacks] [o_X a , o_S a S_columns S_rows S_grade S_stepsMade, ai (a 2) cI 144 S_numbers, ai (a 3) cI 48 S_bridges, ai (a 4) cI 48 S_caps, o_Y a Y_islands Y_ways, ai (a 6) cI 24 Y_cellOf, ai (a 8) cI 48 Y_firstOf, ai (a 9) cI 48 Y_secondOf, o_U a , ai (a 16) cI 24 U_numbers', ai (a 17) cI 24 U_bridges', ai (a 18) cI 24 U_caps', ai (a 19) cI 24 U_lacks'] (some (.int r0)) := by
  refine mG_of (cc := cX9_isBroken) (maxL := 1) (ret := (some .boolean)) (by decide) rfl rfl (Nat.le_of_ble_eq_true rfl) ?_
  intro p e s m args below meth c A hx hb hr hml hlk hnm hts hown hK hP hD hA hS ls hl
  have hl : lv_has ls 1 [(0, .ref (a 0))] := hl
  have hiX2 : ∀ w ∈ wsX20, w ∈ wsX9_isBroken := fun w h => List.mem_cons_of_mem _ (List.mem_append_left _ (List.mem_append_right _ h))
  have hiX6 : ∀ w ∈ wsX60, w ∈ wsX9_isBroken := fun w h => List.mem_cons_of_mem _ (List.mem_append_right _ h)
  have hiX7 : ∀ w ∈ wsX70, w ∈ wsX9_isBroken := fun w h => List.mem_cons_of_mem _ (List.mem_append_left _ (List.mem_append_left _ (List.mem_append_right _ h)))
  have hiX9 : ∀ w ∈ wsX90, w ∈ wsX9_isBroken := fun w h => List.mem_cons_of_mem _ (List.mem_append_left _ (List.mem_append_left _ (List.mem_append_left _ (List.mem_append_right _ h))))
  unfold m_X9_isBroken at hm
  refine lv_aload_n hx hb dX9_isBroken_0 rfl (lv_at hl 0 rfl) ?_
  refine va_get (D := D) (ci := 9) (v := .ref (a 15)) (C := RX9) (T := TX9) (N := 9) hx hb hts hiX9 hown hK.1 hP 0 rfl rfl 2 (by decide) (hts (.fieldLink RX9 28 "IslandBridges" "sums" "LIslandBridges$Sums;") (List.mem_of_getElem? (i := 1) rfl)) (fun _ h9 => h9) rfl dX9_isBroken_1 ?_
  obtain ⟨v1, v2, v3, v4, h_v1, hm⟩ := bd4_inv hm
  refine cVx ⟨hx, hb, hml, hown, hts⟩ (c_X7_read l D cI cJ cS cB a S_columns S_rows S_grade S_stepsMade S_numbers S_bridges S_caps Y_islands Y_ways Y_cellOf Y_firstOf Y_secondOf U_numbers U_bridges U_caps U_lacks N v1 v2 v3 v4 h_v1) (cwV 0 hts gX9_isBroken_X7_read rfl rfl rfl hd_X7_read ⟨(Nat.le_of_ble_eq_true rfl), (Nat.le_of_ble_eq_true rfl)⟩) hK hP hD hS hA [1, 2, 3, 4, 5, 6, 7, 8, 9, 10, 11, 12, 13] rfl rfl [o_X a , o_S a S_columns S_rows S_grade S_stepsMade, ai (a 2) cI 144 S_numbers, ai (a 3) cI 48 S_bridges, ai (a 4) cI 48 S_caps, o_Y a Y_islands Y_ways, ai (a 6) cI 24 Y_cellOf, ai (a 8) cI 48 Y_firstOf, ai (a 9) cI 48 Y_secondOf, o_U a , ai (a 16) cI 24 v1, ai (a 17) cI 24 v2, ai (a 18) cI 24 v3, ai (a 19) cI 24 v4] [(false, 0), (true, 0), (true, 1), (true, 2), (true, 3), (true, 4), (true, 5), (true, 6), (true, 7), (true, 8), (true, 9), (true, 10), (true, 11), (true, 12)] rfl rfl rfl hl.1 (Nat.le_of_ble_eq_true rfl) ⟨Nat.zero_le _, Nat.zero_le _⟩ 9 rfl rfl rfl rfl dX9_isBroken_4 (fun H locs hP hD hS => ?_)
  refine lv_aload_n hx hb dX9_isBroken_7 rfl (lv_at hl 0 rfl) ?_
  refine va_get (D := D) (ci := 9) (v := .ref (a 15)) (C := RX9) (T := TX9) (N := 9) hx hb hts hiX9 hown hK.1 hP 0 rfl rfl 2 (by decide) (hts (.fieldLink RX9 28 "IslandBridges" "sums" "LIslandBridges$Sums;") (List.mem_of_getElem? (i := 1) rfl)) (fun _ h9 => h9) rfl dX9_isBroken_8 ?_
  obtain ⟨v5, h_v5, hm⟩ := bd1_inv hm
  refine cVs ⟨hx, hb, hml, hown, hts⟩ (c_X7_areBroken l D cI cJ cS cB a Y_islands Y_ways v1 v3 v4 N v5 h_v5) (cwV 0 hts gX9_isBroken_X7_areBroken rfl rfl rfl hd_X7_areBroken ⟨(Nat.le_of_ble_eq_true rfl), (Nat.le_of_ble_eq_true rfl)⟩) hK hP hD hS hA [5, 9, 10, 12, 13] rfl rfl rfl hl.1 (Nat.le_of_ble_eq_true rfl) ⟨Nat.zero_le _, Nat.zero_le _⟩ 9 rfl rfl rfl rfl dX9_isBroken_11 (fun H locs hP hD hS => ?_)
  obtain ⟨hz14, hm⟩ := ckb_inv hm
  cases hm
  exact rZ () hx hb hr hlk hz14 hP hD hS dX9_isBroken_14
theorem hd_X9_allNumbers : yX9_allNumbers.cls = RX9 ∧ yX9_allNumbers.cls ≠ "java/lang/invoke/MethodHandle" ∧ yX9_allNumbers.cls ≠ "java/lang/invoke/VarHandle" ∧ (parseMethodDescriptor yX9_allNumbers.desc).map (fun d => d.parameters.length) = some 0 := by decide +kernel
def m_X9_allNumbers_b4 (S_numbers : Nat → Int32) (rec4 : Int32 → Int32 → Option (Int32)) (y1 : Int32) (y2 : Int32) : Option (Int32) :=
  if 144 ≤ y2 then (some y1) else (lt1 (vAt 144 S_numbers y2) (fun v3 => lt1 (y1 + v3) (fun v4 => lt1 (y2 + 1) (fun v5 => rec4 v4 v5))))
def m_X9_allNumbers (N : Nat) (S_numbers : Nat → Int32) : Option (Int32) :=
  zl2 (m_X9_allNumbers_b4 S_numbers) N 0 0
set_option maxHeartbeats 4000000 in
set_option maxRecDepth 100000 in
theorem c_X9_allNumbers (l : Launch) (D : va_G) (cI cJ cS cB : ClassId) (a : Nat → Nat) (S_columns : Int32) (S_rows : Int32) (S_grade : Int32) (S_stepsMade : Int32) (S_numbers : Nat → Int32)  (N : Nat) (r0 : Int32) (hm : m_X9_allNumbers N S_numbers = some r0) :
    mU l D (TYs cI cJ cS cB) yX9_allNumbers wsX9_allNumbers { frames := 1, cells := 0, slots := 0, locals := 21 } [.ref (a 0)] [o_X a , o_S a S_columns S_rows S_grade S_stepsMade, ai (a 2) cI 144 S_numbers] [o_X a , o_S a S_columns S_rows S_grade S_stepsMade, ai (a 2) cI 144 S_numbers] (some (.int r0)) := by
  refine mG_of (cc := cX9_allNumbers) (maxL := 3) (ret := (some .int)) (by decide) rfl rfl (Nat.le_of_ble_eq_true rfl) ?_
  intro p e s m args below meth c A hx hb hr hml hlk hnm hts hown hK hP hD hA hS ls hl
  have hl : lv_has ls 3 [(0, .ref (a 0))] := hl
  have hiX6 : ∀ w ∈ wsX60, w ∈ wsX9_allNumbers := fun w h => List.mem_cons_of_mem _ (List.mem_append_right _ h)
  have hiX9 : ∀ w ∈ wsX90, w ∈ wsX9_allNumbers := fun w h => List.mem_cons_of_mem _ (List.mem_append_left _ (List.mem_append_right _ h))
  unfold m_X9_allNumbers at hm
  have h4 : ∀ (n : Nat) (y1 : Int32) (y2 : Int32), zl2 (m_X9_allNumbers_b4 S_numbers) n y1 y2 = some r0 → ∀ (H : Heap) (locs : List Loc), va_P D vwCl [o_X a , o_S a S_columns S_rows S_grade S_stepsMade, ai (a 2) cI 144 S_numbers] H → va_D A [o_X a , o_S a S_columns S_rows S_grade S_stepsMade, ai (a 2) cI 144 S_numbers] → va_S A s.heap H locs → ∀ ls : Array Slot, lv_has ls 3 [(0, .ref (a 0)), (1, .int y1), (2, .int y2)] → W p l e { frames := 1, cells := 0, slots := 0, locals := 21 } s m args below meth c H locs 0 0 (MQ below (eQ D (some (.int r0)) (fun _ : Unit => [o_X a , o_S a S_columns S_rows S_grade S_stepsMade, ai (a 2) cI 144 S_numbers]) A) args s 0 0 A) (F0 m 4 ls []) := by
    refine zl2_ind (fun rec4 ih4 y1 y2 hm => ?_)
    intro H locs hP hD hS ls hl
    unfold m_X9_allNumbers_b4 at hm
    refine lv_iload_n hx hb dX9_allNumbers_4 rfl (lv_at hl 2 rfl) ?_
    refine lv_sipush (v := 144) hx hb dX9_allNumbers_5 (by decide) ?_
    refine lv_icmp_ge (tgt := 31) hx hb dX9_allNumbers_8 (by decide) (fun c8 => ?_) (fun c8 => ?_)
    · have hm := ip c8 hm
      refine lv_iload_n hx hb dX9_allNumbers_31 rfl (lv_at hl 1 rfl) ?_
      cases hm
      exact rI () hx hb hr hlk hP hD hS dX9_allNumbers_32
    · have hm := ine c8 hm
      refine lv_iload_n hx hb dX9_allNumbers_11 rfl (lv_at hl 1 rfl) ?_
      refine lv_aload_n hx hb dX9_allNumbers_12 rfl (lv_at hl 0 rfl) ?_
      refine va_get (D := D) (ci := 9) (v := .ref (a 1)) (C := RX9) (T := TX9) (N := 9) hx hb hts hiX9 hown hK.1 hP 0 rfl rfl 0 (by decide) (hts (.fieldLink RX9 10 "IslandBridges" "state" "LIslandBridges$State;") (List.mem_of_getElem? (i := 1) rfl)) (fun _ h9 => h9) rfl dX9_allNumbers_13 ?_
      refine va_get (D := D) (ci := 6) (v := .ref (a 2)) (C := RX6) (T := TX6) (N := 7) hx hb hts hiX6 hown hK.1 hP 1 rfl rfl 0 (by decide) (hts (.fieldLink RX9 102 "IslandBridges$State" "numbers" "[I") (List.mem_of_getElem? (i := 2) rfl)) (fun _ h9 => h9) rfl dX9_allNumbers_16 ?_
      refine lv_iload_n hx hb dX9_allNumbers_19 rfl (lv_at hl 2 rfl) ?_
      obtain ⟨v3, ev3, hm⟩ := lt1_inv hm
      refine cSs ⟨hx, hb, hml, hown, hts⟩ (c_X9_valueAt l D cI cJ cS cB (a 2) 144 (Nat.le_of_ble_eq_true rfl) S_numbers y2 v3 ev3) (va_cwS 2 hts gX9_allNumbers_X9_valueAt rfl rfl rfl hd_X9_valueAt ⟨(Nat.le_of_ble_eq_true rfl), (Nat.le_of_ble_eq_true rfl)⟩) hK hP hD hS hA [2] rfl rfl rfl hl.1 (Nat.le_of_ble_eq_true rfl) ⟨Nat.zero_le _, Nat.zero_le _⟩ rfl dX9_allNumbers_20 (fun H locs hP hD hS => ?_)
      refine lv_iadd hx hb dX9_allNumbers_23 ?_
      obtain ⟨v4, ev4, hm⟩ := lt1_inv hm
      refine ltop ev4 ?_
      refine lv_istore_n (lv' := [(1, .int v4), (0, .ref (a 0)), (2, .int y2)]) hx hb dX9_allNumbers_24 rfl hl (by decide) rfl (fun ls hl => ?_)
      obtain ⟨v5, ev5, hm⟩ := lt1_inv hm
      refine lv_iinc (v := v5) (lv' := [(2, .int v5), (1, .int v4), (0, .ref (a 0))]) hx hb dX9_allNumbers_25 hl (k := 2) rfl ev5 (by decide) rfl (fun ls hl => ?_)
      refine lv_goto (tgt := 4) hx hb dX9_allNumbers_28 (by decide) ?_
      exact ih4 v4 v5 hm _ _ hP hD hS ls (lv_sub hl [2, 1, 0] rfl)
  refine lv_iconst (v := 0) hx hb dX9_allNumbers_0 (by decide) ?_
  refine lv_istore_n (lv' := [(1, .int 0), (0, .ref (a 0))]) hx hb dX9_allNumbers_1 rfl hl (by decide) rfl (fun ls hl => ?_)
  refine lv_iconst (v := 0) hx hb dX9_allNumbers_2 (by decide) ?_
  refine lv_istore_n (lv' := [(2, .int 0), (1, .int 0), (0, .ref (a 0))]) hx hb dX9_allNumbers_3 rfl hl (by decide) rfl (fun ls hl => ?_)
  exact h4  N 0 0 hm _ _ hP hD hS ls (lv_sub hl [2, 1, 0] rfl)
theorem hd_X9_count : yX9_count.cls = RX9 ∧ yX9_count.cls ≠ "java/lang/invoke/MethodHandle" ∧ yX9_count.cls ≠ "java/lang/invoke/VarHandle" ∧ (parseMethodDescriptor yX9_count.desc).map (fun d => d.parameters.length) = some 1 := by decide +kernel
def m_X9_count (N : Nat) (S_columns : Int32) (S_rows : Int32) (S_grade : Int32) (S_stepsMade : Int32) (S_numbers : Nat → Int32) (S_bridges : Nat → Int32) (S_caps : Nat → Int32) (Y_islands : Int32) (Y_ways : Int32) (Y_cellOf : Nat → Int32) (Y_firstOf : Nat → Int32) (Y_secondOf : Nat → Int32) (U_numbers : Nat → Int32) (U_bridges : Nat → Int32) (U_caps : Nat → Int32) (U_lacks : Nat → Int32) (G_leaders : Nat → Int32) (H_size : Int32) (T_length : Int32) (x1 : Int32) : Option (Int32 × (Nat → Int32) × (Nat → Int32) × (Nat → Int32) × (Nat → Int32) × (Nat → Int32)) :=
  if x1 = 0 then (some ((S_columns, U_numbers, U_bridges, U_caps, U_lacks, G_leaders))) else (if x1 = 1 then (some ((S_rows, U_numbers, U_bridges, U_caps, U_lacks, G_leaders))) else (if x1 = 2 then (some ((Y_islands, U_numbers, U_bridges, U_caps, U_lacks, G_leaders))) else (if x1 = 3 then (some ((Y_ways, U_numbers, U_bridges, U_caps, U_lacks, G_leaders))) else (if x1 = 4 then (bd1 (m_X9_allBridges N S_bridges Y_ways) (fun v1 => some ((v1, U_numbers, U_bridges, U_caps, U_lacks, G_leaders)))) else (if x1 = 5 then (bd5 (m_X9_completeIslands N S_numbers S_bridges S_caps Y_islands Y_ways Y_cellOf Y_firstOf Y_secondOf U_numbers U_bridges U_caps U_lacks) (fun v2 v3 v4 v5 v6 => some ((v2, v3, v4, v5, v6, G_leaders)))) else (if x1 = 6 then (bd2 (m_X9_groupsInAll N S_bridges Y_islands Y_ways Y_firstOf Y_secondOf G_leaders) (fun v7 v8 => some ((v7, U_numbers, U_bridges, U_caps, U_lacks, v8)))) else (if x1 = 7 then (bd6 (m_X9_isSolved N S_numbers S_bridges S_caps Y_islands Y_ways Y_cellOf Y_firstOf Y_secondOf U_numbers U_bridges U_caps U_lacks G_leaders) (fun v9 v10 v11 v12 v13 v14 => if v9 = 0 then (some ((0, v10, v11, v12, v13, v14))) else (some ((1, v10, v11, v12, v13, v14))))) else (if x1 = 8 then (bd5 (m_X9_isBroken N S_numbers S_bridges S_caps Y_islands Y_ways Y_cellOf Y_firstOf Y_secondOf U_numbers U_bridges U_caps U_lacks) (fun v15 v16 v17 v18 v19 => if v15 = 0 then (some ((0, v16, v17, v18, v19, G_leaders))) else (some ((1, v16, v17, v18, v19, G_leaders))))) else (if x1 = 9 then (bd1 (m_X9_allNumbers N S_numbers) (fun v20 => some ((v20, U_numbers, U_bridges, U_caps, U_lacks, G_leaders)))) else (if x1 = 10 then (some ((S_grade, U_numbers, U_bridges, U_caps, U_lacks, G_leaders))) else (if x1 = 11 then (some ((S_stepsMade, U_numbers, U_bridges, U_caps, U_lacks, G_leaders))) else (if x1 = 12 then (some ((H_size, U_numbers, U_bridges, U_caps, U_lacks, G_leaders))) else (if x1 = 13 then (some ((T_length, U_numbers, U_bridges, U_caps, U_lacks, G_leaders))) else (some (((-1), U_numbers, U_bridges, U_caps, U_lacks, G_leaders))))))))))))))))
set_option maxHeartbeats 4000000 in
set_option maxRecDepth 100000 in
theorem c_X9_count (l : Launch) (D : va_G) (cI cJ cS cB : ClassId) (a : Nat → Nat) (S_columns : Int32) (S_rows : Int32) (S_grade : Int32) (S_stepsMade : Int32) (S_numbers : Nat → Int32) (S_bridges : Nat → Int32) (S_caps : Nat → Int32) (Y_islands : Int32) (Y_ways : Int32) (Y_cellOf : Nat → Int32) (Y_firstOf : Nat → Int32) (Y_secondOf : Nat → Int32) (U_numbers : Nat → Int32) (U_bridges : Nat → Int32) (U_caps : Nat → Int32) (U_lacks : Nat → Int32) (G_leaders : Nat → Int32) (H_size : Int32) (T_length : Int32) (T_columns : Int32) (T_rows : Int32) (T_inRow : Int32) (T_islands : Int32) (T_faultIndex : Int32) (T_faultReason : Int32) (x1 : Int32) (N : Nat) (r0 : Int32) (U_numbers' : Nat → Int32) (U_bridges' : Nat → Int32) (U_caps' : Nat → Int32) (U_lacks' : Nat → Int32) (G_leaders' : Nat → Int32) (hm : m_X9_count N S_columns S_rows S_grade S_stepsMade S_numbers S_bridges S_caps Y_islands Y_ways Y_cellOf Y_firstOf Y_secondOf U_numbers U_bridges U_caps U_lacks G_leaders H_size T_length x1 = some (r0, U_numbers', U_bridges', U_caps', U_lacks', G_leaders')) :
    mU l D (TYs cI cJ cS cB) yX9_count wsX9_count { frames := 5, cells := 0, slots := 0, locals := 109 } [.ref (a 0), .int x1] [o_X a , o_S a S_columns S_rows S_grade S_stepsMade, ai (a 2) cI 144 S_numbers, ai (a 3) cI 48 S_bridges, ai (a 4) cI 48 S_caps, o_Y a Y_islands Y_ways, ai (a 6) cI 24 Y_cellOf, ai (a 8) cI 48 Y_firstOf, ai (a 9) cI 48 Y_secondOf, o_U a , ai (a 16) cI 24 U_numbers, ai (a 17) cI 24 U_bridges, ai (a 18) cI 24 U_caps, ai (a 19) cI 24 U_lacks, o_G a , ai (a 21) cI 24 G_leaders, o_H a H_size, o_T a T_length T_columns T_rows T_inRow T_islands T_faultIndex T_faultReason] [o_X a , o_S a S_columns S_rows S_grade S_stepsMade, ai (a 2) cI 144 S_numbers, ai (a 3) cI 48 S_bridges, ai (a 4) cI 48 S_caps, o_Y a Y_islands Y_ways, ai (a 6) cI 24 Y_cellOf, ai (a 8) cI 48 Y_firstOf, ai (a 9) cI 48 Y_secondOf, o_U a , ai (a 16) cI 24 U_numbers', ai (a 17) cI 24 U_bridges', ai (a 18) cI 24 U_caps', ai (a 19) cI 24 U_lacks', o_G a , ai (a 21) cI 24 G_leaders', o_H a H_size, o_T a T_length T_columns T_rows T_inRow T_islands T_faultIndex T_faultReason] (some (.int r0)) := by
  refine mG_of (cc := cX9_count) (maxL := 2) (ret := (some .int)) (by decide) rfl rfl (Nat.le_of_ble_eq_true rfl) ?_
  intro p e s m args below meth c A hx hb hr hml hlk hnm hts hown hK hP hD hA hS ls hl
  have hl : lv_has ls 2 [(0, .ref (a 0)), (1, .int x1)] := hl
  have hiX0 : ∀ w ∈ wsX00, w ∈ wsX9_count := fun w h => List.mem_cons_of_mem _ (List.mem_append_right _ h)
  have hiX1 : ∀ w ∈ wsX10, w ∈ wsX9_count := fun w h => List.mem_cons_of_mem _ (List.mem_append_left _ (List.mem_append_left _ (List.mem_append_left _ (List.mem_append_right _ h))))
  have hiX2 : ∀ w ∈ wsX20, w ∈ wsX9_count := fun w h => List.mem_cons_of_mem _ (List.mem_append_left _ (List.mem_append_left _ (List.mem_append_left _ (List.mem_append_left _ (List.mem_append_right _ h)))))
  have hiX6 : ∀ w ∈ wsX60, w ∈ wsX9_count := fun w h => List.mem_cons_of_mem _ (List.mem_append_left _ (List.mem_append_left _ (List.mem_append_left _ (List.mem_append_left _ (List.mem_append_left _ (List.mem_append_right _ h))))))
  have hiX7 : ∀ w ∈ wsX70, w ∈ wsX9_count := fun w h => List.mem_cons_of_mem _ (List.mem_append_left _ (List.mem_append_right _ h))
  have hiX8 : ∀ w ∈ wsX80, w ∈ wsX9_count := fun w h => List.mem_cons_of_mem _ (List.mem_append_left _ (List.mem_append_left _ (List.mem_append_right _ h)))
  have hiX9 : ∀ w ∈ wsX90, w ∈ wsX9_count := fun w h => List.mem_cons_of_mem _ (List.mem_append_left _ (List.mem_append_left _ (List.mem_append_left _ (List.mem_append_left _ (List.mem_append_left _ (List.mem_append_left _ (List.mem_append_right _ h)))))))
  unfold m_X9_count at hm
  refine lv_iload_n hx hb dX9_count_0 rfl (lv_at hl 1 rfl) ?_
  by_cases q1_0 : x1 = 0
  · have hm := ip q1_0 hm
    refine lv_tableIn (off := 71) (tgt := 72) hx hb dX9_count_1 (by rw [q1_0]; decide) (by rw [q1_0]; decide) (by rw [q1_0]; rfl) (by decide) ?_
    refine lv_aload_n hx hb dX9_count_72 rfl (lv_at hl 0 rfl) ?_
    refine va_get (D := D) (ci := 9) (v := .ref (a 1)) (C := RX9) (T := TX9) (N := 9) hx hb hts hiX9 hown hK.1 hP 0 rfl rfl 0 (by decide) (hts (.fieldLink RX9 10 "IslandBridges" "state" "LIslandBridges$State;") (List.mem_of_getElem? (i := 1) rfl)) (fun _ h9 => h9) rfl dX9_count_73 ?_
    refine va_get (D := D) (ci := 6) (v := .int S_columns) (C := RX6) (T := TX6) (N := 7) hx hb hts hiX6 hown hK.1 hP 1 rfl rfl 3 (by decide) (hts (.fieldLink RX9 189 "IslandBridges$State" "columns" "I") (List.mem_of_getElem? (i := 2) rfl)) (fun _ h9 => h9) rfl dX9_count_76 ?_
    cases hm
    exact rI () hx hb hr hlk hP hD hS dX9_count_79
  have hm := ine q1_0 hm
  by_cases q1_1 : x1 = 1
  · have hm := ip q1_1 hm
    refine lv_tableIn (off := 79) (tgt := 80) hx hb dX9_count_1 (by rw [q1_1]; decide) (by rw [q1_1]; decide) (by rw [q1_1]; rfl) (by decide) ?_
    refine lv_aload_n hx hb dX9_count_80 rfl (lv_at hl 0 rfl) ?_
    refine va_get (D := D) (ci := 9) (v := .ref (a 1)) (C := RX9) (T := TX9) (N := 9) hx hb hts hiX9 hown hK.1 hP 0 rfl rfl 0 (by decide) (hts (.fieldLink RX9 10 "IslandBridges" "state" "LIslandBridges$State;") (List.mem_of_getElem? (i := 1) rfl)) (fun _ h9 => h9) rfl dX9_count_81 ?_
    refine va_get (D := D) (ci := 6) (v := .int S_rows) (C := RX6) (T := TX6) (N := 7) hx hb hts hiX6 hown hK.1 hP 1 rfl rfl 4 (by decide) (hts (.fieldLink RX9 192 "IslandBridges$State" "rows" "I") (List.mem_of_getElem? (i := 3) rfl)) (fun _ h9 => h9) rfl dX9_count_84 ?_
    cases hm
    exact rI () hx hb hr hlk hP hD hS dX9_count_87
  have hm := ine q1_1 hm
  by_cases q1_2 : x1 = 2
  · have hm := ip q1_2 hm
    refine lv_tableIn (off := 87) (tgt := 88) hx hb dX9_count_1 (by rw [q1_2]; decide) (by rw [q1_2]; decide) (by rw [q1_2]; rfl) (by decide) ?_
    refine lv_aload_n hx hb dX9_count_88 rfl (lv_at hl 0 rfl) ?_
    refine va_get (D := D) (ci := 9) (v := .ref (a 5)) (C := RX9) (T := TX9) (N := 9) hx hb hts hiX9 hown hK.1 hP 0 rfl rfl 1 (by decide) (hts (.fieldLink RX9 19 "IslandBridges" "layout" "LIslandBridges$Layout;") (List.mem_of_getElem? (i := 4) rfl)) (fun _ h9 => h9) rfl dX9_count_89 ?_
    refine va_get (D := D) (ci := 2) (v := .int Y_islands) (C := RX2) (T := TX2) (N := 11) hx hb hts hiX2 hown hK.1 hP 5 rfl rfl 9 (by decide) (hts (.fieldLink RX9 84 "IslandBridges$Layout" "islands" "I") (List.mem_of_getElem? (i := 5) rfl)) (fun _ h9 => h9) rfl dX9_count_92 ?_
    cases hm
    exact rI () hx hb hr hlk hP hD hS dX9_count_95
  have hm := ine q1_2 hm
  by_cases q1_3 : x1 = 3
  · have hm := ip q1_3 hm
    refine lv_tableIn (off := 95) (tgt := 96) hx hb dX9_count_1 (by rw [q1_3]; decide) (by rw [q1_3]; decide) (by rw [q1_3]; rfl) (by decide) ?_
    refine lv_aload_n hx hb dX9_count_96 rfl (lv_at hl 0 rfl) ?_
    refine va_get (D := D) (ci := 9) (v := .ref (a 5)) (C := RX9) (T := TX9) (N := 9) hx hb hts hiX9 hown hK.1 hP 0 rfl rfl 1 (by decide) (hts (.fieldLink RX9 19 "IslandBridges" "layout" "LIslandBridges$Layout;") (List.mem_of_getElem? (i := 4) rfl)) (fun _ h9 => h9) rfl dX9_count_97 ?_
    refine va_get (D := D) (ci := 2) (v := .int Y_ways) (C := RX2) (T := TX2) (N := 11) hx hb hts hiX2 hown hK.1 hP 5 rfl rfl 10 (by decide) (hts (.fieldLink RX9 114 "IslandBridges$Layout" "ways" "I") (List.mem_of_getElem? (i := 6) rfl)) (fun _ h9 => h9) rfl dX9_count_100 ?_
    cases hm
    exact rI () hx hb hr hlk hP hD hS dX9_count_103
  have hm := ine q1_3 hm
  by_cases q1_4 : x1 = 4
  · have hm := ip q1_4 hm
    refine lv_tableIn (off := 103) (tgt := 104) hx hb dX9_count_1 (by rw [q1_4]; decide) (by rw [q1_4]; decide) (by rw [q1_4]; rfl) (by decide) ?_
    refine lv_aload_n hx hb dX9_count_104 rfl (lv_at hl 0 rfl) ?_
    obtain ⟨v1, h_v1, hm⟩ := bd1_inv hm
    refine cVs ⟨hx, hb, hml, hown, hts⟩ (c_X9_allBridges l D cI cJ cS cB a S_columns S_rows S_grade S_stepsMade S_bridges Y_islands Y_ways N v1 h_v1) (cwV 0 hts gX9_count_X9_allBridges rfl rfl rfl hd_X9_allBridges ⟨(Nat.le_of_ble_eq_true rfl), (Nat.le_of_ble_eq_true rfl)⟩) hK hP hD hS hA [0, 1, 3, 5] rfl rfl rfl hl.1 (Nat.le_of_ble_eq_true rfl) ⟨Nat.zero_le _, Nat.zero_le _⟩ 0 rfl rfl rfl rfl dX9_count_105 (fun H locs hP hD hS => ?_)
    cases hm
    exact rI () hx hb hr hlk hP hD hS dX9_count_108
  have hm := ine q1_4 hm
  by_cases q1_5 : x1 = 5
  · have hm := ip q1_5 hm
    refine lv_tableIn (off := 108) (tgt := 109) hx hb dX9_count_1 (by rw [q1_5]; decide) (by rw [q1_5]; decide) (by rw [q1_5]; rfl) (by decide) ?_
    refine lv_aload_n hx hb dX9_count_109 rfl (lv_at hl 0 rfl) ?_
    obtain ⟨v2, v3, v4, v5, v6, h_v2, hm⟩ := bd5_inv hm
    refine cVx ⟨hx, hb, hml, hown, hts⟩ (c_X9_completeIslands l D cI cJ cS cB a S_columns S_rows S_grade S_stepsMade S_numbers S_bridges S_caps Y_islands Y_ways Y_cellOf Y_firstOf Y_secondOf U_numbers U_bridges U_caps U_lacks N v2 v3 v4 v5 v6 h_v2) (cwV 0 hts gX9_count_X9_completeIslands rfl rfl rfl hd_X9_completeIslands ⟨(Nat.le_of_ble_eq_true rfl), (Nat.le_of_ble_eq_true rfl)⟩) hK hP hD hS hA [0, 1, 2, 3, 4, 5, 6, 7, 8, 9, 10, 11, 12, 13] rfl rfl [o_X a , o_S a S_columns S_rows S_grade S_stepsMade, ai (a 2) cI 144 S_numbers, ai (a 3) cI 48 S_bridges, ai (a 4) cI 48 S_caps, o_Y a Y_islands Y_ways, ai (a 6) cI 24 Y_cellOf, ai (a 8) cI 48 Y_firstOf, ai (a 9) cI 48 Y_secondOf, o_U a , ai (a 16) cI 24 v3, ai (a 17) cI 24 v4, ai (a 18) cI 24 v5, ai (a 19) cI 24 v6, o_G a , ai (a 21) cI 24 G_leaders, o_H a H_size, o_T a T_length T_columns T_rows T_inRow T_islands T_faultIndex T_faultReason] [(true, 0), (true, 1), (true, 2), (true, 3), (true, 4), (true, 5), (true, 6), (true, 7), (true, 8), (true, 9), (true, 10), (true, 11), (true, 12), (true, 13), (false, 14), (false, 15), (false, 16), (false, 17)] rfl rfl rfl hl.1 (Nat.le_of_ble_eq_true rfl) ⟨Nat.zero_le _, Nat.zero_le _⟩ 0 rfl rfl rfl rfl dX9_count_110 (fun H locs hP hD hS => ?_)
    cases hm
    exact rI () hx hb hr hlk hP hD hS dX9_count_113
  have hm := ine q1_5 hm
  by_cases q1_6 : x1 = 6
  · have hm := ip q1_6 hm
    refine lv_tableIn (off := 113) (tgt := 114) hx hb dX9_count_1 (by rw [q1_6]; decide) (by rw [q1_6]; decide) (by rw [q1_6]; rfl) (by decide) ?_
    refine lv_aload_n hx hb dX9_count_114 rfl (lv_at hl 0 rfl) ?_
    obtain ⟨v7, v8, h_v7, hm⟩ := bd2_inv hm
    refine cVx ⟨hx, hb, hml, hown, hts⟩ (c_X9_groupsInAll l D cI cJ cS cB a S_columns S_rows S_grade S_stepsMade S_bridges Y_islands Y_ways Y_firstOf Y_secondOf G_leaders N v7 v8 h_v7) (cwV 0 hts gX9_count_X9_groupsInAll rfl rfl rfl hd_X9_groupsInAll ⟨(Nat.le_of_ble_eq_true rfl), (Nat.le_of_ble_eq_true rfl)⟩) hK hP hD hS hA [0, 1, 3, 5, 7, 8, 14, 15] rfl rfl [o_X a , o_S a S_columns S_rows S_grade S_stepsMade, ai (a 2) cI 144 S_numbers, ai (a 3) cI 48 S_bridges, ai (a 4) cI 48 S_caps, o_Y a Y_islands Y_ways, ai (a 6) cI 24 Y_cellOf, ai (a 8) cI 48 Y_firstOf, ai (a 9) cI 48 Y_secondOf, o_U a , ai (a 16) cI 24 U_numbers, ai (a 17) cI 24 U_bridges, ai (a 18) cI 24 U_caps, ai (a 19) cI 24 U_lacks, o_G a , ai (a 21) cI 24 v8, o_H a H_size, o_T a T_length T_columns T_rows T_inRow T_islands T_faultIndex T_faultReason] [(true, 0), (true, 1), (false, 2), (true, 2), (false, 4), (true, 3), (false, 6), (true, 4), (true, 5), (false, 9), (false, 10), (false, 11), (false, 12), (false, 13), (true, 6), (true, 7), (false, 16), (false, 17)] rfl rfl rfl hl.1 (Nat.le_of_ble_eq_true rfl) ⟨Nat.zero_le _, Nat.zero_le _⟩ 0 rfl rfl rfl rfl dX9_count_115 (fun H locs hP hD hS => ?_)
    cases hm
    exact rI () hx hb hr hlk hP hD hS dX9_count_118
  have hm := ine q1_6 hm
  by_cases q1_7 : x1 = 7
  · have hm := ip q1_7 hm
    refine lv_tableIn (off := 118) (tgt := 119) hx hb dX9_count_1 (by rw [q1_7]; decide) (by rw [q1_7]; decide) (by rw [q1_7]; rfl) (by decide) ?_
    refine lv_aload_n hx hb dX9_count_119 rfl (lv_at hl 0 rfl) ?_
    obtain ⟨v9, v10, v11, v12, v13, v14, h_v9, hm⟩ := bd6_inv hm
    refine cVx ⟨hx, hb, hml, hown, hts⟩ (c_X9_isSolved l D cI cJ cS cB a S_columns S_rows S_grade S_stepsMade S_numbers S_bridges S_caps Y_islands Y_ways Y_cellOf Y_firstOf Y_secondOf U_numbers U_bridges U_caps U_lacks G_leaders N v9 v10 v11 v12 v13 v14 h_v9) (cwV 0 hts gX9_count_X9_isSolved rfl rfl rfl hd_X9_isSolved ⟨(Nat.le_of_ble_eq_true rfl), (Nat.le_of_ble_eq_true rfl)⟩) hK hP hD hS hA [0, 1, 2, 3, 4, 5, 6, 7, 8, 9, 10, 11, 12, 13, 14, 15] rfl rfl [o_X a , o_S a S_columns S_rows S_grade S_stepsMade, ai (a 2) cI 144 S_numbers, ai (a 3) cI 48 S_bridges, ai (a 4) cI 48 S_caps, o_Y a Y_islands Y_ways, ai (a 6) cI 24 Y_cellOf, ai (a 8) cI 48 Y_firstOf, ai (a 9) cI 48 Y_secondOf, o_U a , ai (a 16) cI 24 v10, ai (a 17) cI 24 v11, ai (a 18) cI 24 v12, ai (a 19) cI 24 v13, o_G a , ai (a 21) cI 24 v14, o_H a H_size, o_T a T_length T_columns T_rows T_inRow T_islands T_faultIndex T_faultReason] [(true, 0), (true, 1), (true, 2), (true, 3), (true, 4), (true, 5), (true, 6), (true, 7), (true, 8), (true, 9), (true, 10), (true, 11), (true, 12), (true, 13), (true, 14), (true, 15), (false, 16), (false, 17)] rfl rfl rfl hl.1 (Nat.le_of_ble_eq_true rfl) ⟨Nat.zero_le _, Nat.zero_le _⟩ 0 rfl rfl rfl rfl dX9_count_120 (fun H locs hP hD hS => ?_)
    refine lv_if_eq (tgt := 130) hx hb dX9_count_123 (by decide) (fun c123 => ?_) (fun c123 => ?_)
    · have hm := ip c123 hm
      refine lv_iconst (v := 0) hx hb dX9_count_130 (by decide) ?_
      cases hm
      exact rI () hx hb hr hlk hP hD hS dX9_count_131
    · have hm := ine c123 hm
      refine lv_iconst (v := 1) hx hb dX9_count_126 (by decide) ?_
      refine lv_goto (tgt := 131) hx hb dX9_count_127 (by decide) ?_
      cases hm
      exact rI () hx hb hr hlk hP hD hS dX9_count_131
  have hm := ine q1_7 hm
  by_cases q1_8 : x1 = 8
  · have hm := ip q1_8 hm
    refine lv_tableIn (off := 131) (tgt := 132) hx hb dX9_count_1 (by rw [q1_8]; decide) (by rw [q1_8]; decide) (by rw [q1_8]; rfl) (by decide) ?_
    refine lv_aload_n hx hb dX9_count_132 rfl (lv_at hl 0 rfl) ?_
    obtain ⟨v15, v16, v17, v18, v19, h_v15, hm⟩ := bd5_inv hm
    refine cVx ⟨hx, hb, hml, hown, hts⟩ (c_X9_isBroken l D cI cJ cS cB a S_columns S_rows S_grade S_stepsMade S_numbers S_bridges S_caps Y_islands Y_ways Y_cellOf Y_firstOf Y_secondOf U_numbers U_bridges U_caps U_lacks N v15 v16 v17 v18 v19 h_v15) (cwV 0 hts gX9_count_X9_isBroken rfl rfl rfl hd_X9_isBroken ⟨(Nat.le_of_ble_eq_true rfl), (Nat.le_of_ble_eq_true rfl)⟩) hK hP hD hS hA [0, 1, 2, 3, 4, 5, 6, 7, 8, 9, 10, 11, 12, 13] rfl rfl [o_X a , o_S a S_columns S_rows S_grade S_stepsMade, ai (a 2) cI 144 S_numbers, ai (a 3) cI 48 S_bridges, ai (a 4) cI 48 S_caps, o_Y a Y_islands Y_ways, ai (a 6) cI 24 Y_cellOf, ai (a 8) cI 48 Y_firstOf, ai (a 9) cI 48 Y_secondOf, o_U a , ai (a 16) cI 24 v16, ai (a 17) cI 24 v17, ai (a 18) cI 24 v18, ai (a 19) cI 24 v19, o_G a , ai (a 21) cI 24 G_leaders, o_H a H_size, o_T a T_length T_columns T_rows T_inRow T_islands T_faultIndex T_faultReason] [(true, 0), (true, 1), (true, 2), (true, 3), (true, 4), (true, 5), (true, 6), (true, 7), (true, 8), (true, 9), (true, 10), (true, 11), (true, 12), (true, 13), (false, 14), (false, 15), (false, 16), (false, 17)] rfl rfl rfl hl.1 (Nat.le_of_ble_eq_true rfl) ⟨Nat.zero_le _, Nat.zero_le _⟩ 0 rfl rfl rfl rfl dX9_count_133 (fun H locs hP hD hS => ?_)
    refine lv_if_eq (tgt := 143) hx hb dX9_count_136 (by decide) (fun c136 => ?_) (fun c136 => ?_)
    · have hm := ip c136 hm
      refine lv_iconst (v := 0) hx hb dX9_count_143 (by decide) ?_
      cases hm
      exact rI () hx hb hr hlk hP hD hS dX9_count_144
    · have hm := ine c136 hm
      refine lv_iconst (v := 1) hx hb dX9_count_139 (by decide) ?_
      refine lv_goto (tgt := 144) hx hb dX9_count_140 (by decide) ?_
      cases hm
      exact rI () hx hb hr hlk hP hD hS dX9_count_144
  have hm := ine q1_8 hm
  by_cases q1_9 : x1 = 9
  · have hm := ip q1_9 hm
    refine lv_tableIn (off := 144) (tgt := 145) hx hb dX9_count_1 (by rw [q1_9]; decide) (by rw [q1_9]; decide) (by rw [q1_9]; rfl) (by decide) ?_
    refine lv_aload_n hx hb dX9_count_145 rfl (lv_at hl 0 rfl) ?_
    obtain ⟨v20, h_v20, hm⟩ := bd1_inv hm
    refine cVs ⟨hx, hb, hml, hown, hts⟩ (c_X9_allNumbers l D cI cJ cS cB a S_columns S_rows S_grade S_stepsMade S_numbers N v20 h_v20) (cwV 0 hts gX9_count_X9_allNumbers rfl rfl rfl hd_X9_allNumbers ⟨(Nat.le_of_ble_eq_true rfl), (Nat.le_of_ble_eq_true rfl)⟩) hK hP hD hS hA [0, 1, 2] rfl rfl rfl hl.1 (Nat.le_of_ble_eq_true rfl) ⟨Nat.zero_le _, Nat.zero_le _⟩ 0 rfl rfl rfl rfl dX9_count_146 (fun H locs hP hD hS => ?_)
    cases hm
    exact rI () hx hb hr hlk hP hD hS dX9_count_149
  have hm := ine q1_9 hm
  by_cases q1_10 : x1 = 10
  · have hm := ip q1_10 hm
    refine lv_tableIn (off := 149) (tgt := 150) hx hb dX9_count_1 (by rw [q1_10]; decide) (by rw [q1_10]; decide) (by rw [q1_10]; rfl) (by decide) ?_
    refine lv_aload_n hx hb dX9_count_150 rfl (lv_at hl 0 rfl) ?_
    refine va_get (D := D) (ci := 9) (v := .ref (a 1)) (C := RX9) (T := TX9) (N := 9) hx hb hts hiX9 hown hK.1 hP 0 rfl rfl 0 (by decide) (hts (.fieldLink RX9 10 "IslandBridges" "state" "LIslandBridges$State;") (List.mem_of_getElem? (i := 1) rfl)) (fun _ h9 => h9) rfl dX9_count_151 ?_
    refine va_get (D := D) (ci := 6) (v := .int S_grade) (C := RX6) (T := TX6) (N := 7) hx hb hts hiX6 hown hK.1 hP 1 rfl rfl 5 (by decide) (hts (.fieldLink RX9 215 "IslandBridges$State" "grade" "I") (List.mem_of_getElem? (i := 7) rfl)) (fun _ h9 => h9) rfl dX9_count_154 ?_
    cases hm
    exact rI () hx hb hr hlk hP hD hS dX9_count_157
  have hm := ine q1_10 hm
  by_cases q1_11 : x1 = 11
  · have hm := ip q1_11 hm
    refine lv_tableIn (off := 157) (tgt := 158) hx hb dX9_count_1 (by rw [q1_11]; decide) (by rw [q1_11]; decide) (by rw [q1_11]; rfl) (by decide) ?_
    refine lv_aload_n hx hb dX9_count_158 rfl (lv_at hl 0 rfl) ?_
    refine va_get (D := D) (ci := 9) (v := .ref (a 1)) (C := RX9) (T := TX9) (N := 9) hx hb hts hiX9 hown hK.1 hP 0 rfl rfl 0 (by decide) (hts (.fieldLink RX9 10 "IslandBridges" "state" "LIslandBridges$State;") (List.mem_of_getElem? (i := 1) rfl)) (fun _ h9 => h9) rfl dX9_count_159 ?_
    refine va_get (D := D) (ci := 6) (v := .int S_stepsMade) (C := RX6) (T := TX6) (N := 7) hx hb hts hiX6 hown hK.1 hP 1 rfl rfl 6 (by decide) (hts (.fieldLink RX9 218 "IslandBridges$State" "stepsMade" "I") (List.mem_of_getElem? (i := 8) rfl)) (fun _ h9 => h9) rfl dX9_count_162 ?_
    cases hm
    exact rI () hx hb hr hlk hP hD hS dX9_count_165
  have hm := ine q1_11 hm
  by_cases q1_12 : x1 = 12
  · have hm := ip q1_12 hm
    refine lv_tableIn (off := 165) (tgt := 166) hx hb dX9_count_1 (by rw [q1_12]; decide) (by rw [q1_12]; decide) (by rw [q1_12]; rfl) (by decide) ?_
    refine lv_aload_n hx hb dX9_count_166 rfl (lv_at hl 0 rfl) ?_
    refine va_get (D := D) (ci := 9) (v := .ref (a 31)) (C := RX9) (T := TX9) (N := 9) hx hb hts hiX9 hown hK.1 hP 0 rfl rfl 7 (by decide) (hts (.fieldLink RX9 69 "IslandBridges" "history" "LIslandBridges$History;") (List.mem_of_getElem? (i := 9) rfl)) (fun _ h9 => h9) rfl dX9_count_167 ?_
    refine va_get (D := D) (ci := 1) (v := .int H_size) (C := RX1) (T := TX1) (N := 2) hx hb hts hiX1 hown hK.1 hP 16 rfl rfl 1 (by decide) (hts (.fieldLink RX9 221 "IslandBridges$History" "size" "I") (List.mem_of_getElem? (i := 10) rfl)) (fun _ h9 => h9) rfl dX9_count_170 ?_
    cases hm
    exact rI () hx hb hr hlk hP hD hS dX9_count_173
  have hm := ine q1_12 hm
  by_cases q1_13 : x1 = 13
  · have hm := ip q1_13 hm
    refine lv_tableIn (off := 173) (tgt := 174) hx hb dX9_count_1 (by rw [q1_13]; decide) (by rw [q1_13]; decide) (by rw [q1_13]; rfl) (by decide) ?_
    refine lv_aload_n hx hb dX9_count_174 rfl (lv_at hl 0 rfl) ?_
    refine va_get (D := D) (ci := 9) (v := .ref (a 33)) (C := RX9) (T := TX9) (N := 9) hx hb hts hiX9 hown hK.1 hP 0 rfl rfl 8 (by decide) (hts (.fieldLink RX9 76 "IslandBridges" "text" "LIslandBridges$Text;") (List.mem_of_getElem? (i := 11) rfl)) (fun _ h9 => h9) rfl dX9_count_175 ?_
    refine va_get (D := D) (ci := 8) (v := .int T_length) (C := RX8) (T := TX8) (N := 8) hx hb hts hiX8 hown hK.1 hP 17 rfl rfl 1 (by decide) (hts (.fieldLink RX9 224 "IslandBridges$Text" "length" "I") (List.mem_of_getElem? (i := 12) rfl)) (fun _ h9 => h9) rfl dX9_count_178 ?_
    cases hm
    exact rI () hx hb hr hlk hP hD hS dX9_count_181
  have hm := ine q1_13 hm
  have w1_0 : x1.toInt ≠ 0 := fun h9 => q1_0 (Int32.toInt_inj.mp (h9.trans rfl))
  have w1_1 : x1.toInt ≠ 1 := fun h9 => q1_1 (Int32.toInt_inj.mp (h9.trans rfl))
  have w1_2 : x1.toInt ≠ 2 := fun h9 => q1_2 (Int32.toInt_inj.mp (h9.trans rfl))
  have w1_3 : x1.toInt ≠ 3 := fun h9 => q1_3 (Int32.toInt_inj.mp (h9.trans rfl))
  have w1_4 : x1.toInt ≠ 4 := fun h9 => q1_4 (Int32.toInt_inj.mp (h9.trans rfl))
  have w1_5 : x1.toInt ≠ 5 := fun h9 => q1_5 (Int32.toInt_inj.mp (h9.trans rfl))
  have w1_6 : x1.toInt ≠ 6 := fun h9 => q1_6 (Int32.toInt_inj.mp (h9.trans rfl))
  have w1_7 : x1.toInt ≠ 7 := fun h9 => q1_7 (Int32.toInt_inj.mp (h9.trans rfl))
  have w1_8 : x1.toInt ≠ 8 := fun h9 => q1_8 (Int32.toInt_inj.mp (h9.trans rfl))
  have w1_9 : x1.toInt ≠ 9 := fun h9 => q1_9 (Int32.toInt_inj.mp (h9.trans rfl))
  have w1_10 : x1.toInt ≠ 10 := fun h9 => q1_10 (Int32.toInt_inj.mp (h9.trans rfl))
  have w1_11 : x1.toInt ≠ 11 := fun h9 => q1_11 (Int32.toInt_inj.mp (h9.trans rfl))
  have w1_12 : x1.toInt ≠ 12 := fun h9 => q1_12 (Int32.toInt_inj.mp (h9.trans rfl))
  have w1_13 : x1.toInt ≠ 13 := fun h9 => q1_13 (Int32.toInt_inj.mp (h9.trans rfl))
  refine lv_tableOut (tgt := 182) hx hb dX9_count_1 (by omega) (by decide) ?_
  refine lv_iconst (v := (-1)) hx hb dX9_count_182 (by decide) ?_
  cases hm
  exact rI () hx hb hr hlk hP hD hS dX9_count_183
theorem hd_X9_build : yX9_build.cls = RX9 ∧ yX9_build.cls ≠ "java/lang/invoke/MethodHandle" ∧ yX9_build.cls ≠ "java/lang/invoke/VarHandle" ∧ (parseMethodDescriptor yX9_build.desc).map (fun d => d.parameters.length) = some 1 := by decide +kernel
def m_X9_build (N : Nat) (S_columns : Int32) (S_rows : Int32) (S_grade : Int32) (S_stepsMade : Int32) (S_numbers : Nat → Int32) (S_bridges : Nat → Int32) (S_caps : Nat → Int32) (Y_islands : Int32) (Y_ways : Int32) (Y_cellOf : Nat → Int32) (Y_firstOf : Nat → Int32) (Y_secondOf : Nat → Int32) (Y_crossings : Nat → Int64) (U_numbers : Nat → Int32) (U_bridges : Nat → Int32) (U_caps : Nat → Int32) (U_lacks : Nat → Int32) (H_size : Int32) (Hb : Nat → Nat) (HN : Nat → Nat → Int32) (HB : Nat → Nat → Int32) (HC : Nat → Nat → Int32) (Hc : Nat → Int32) (Hr : Nat → Int32) (Hg : Nat → Int32) (Hs : Nat → Int32) (x1 : Int32) : Option (Int32 × (Nat → Int32) × (Nat → Int32) × (Nat → Int32) × (Nat → Int32) × (Nat → Int32) × Int32 × (Nat → Nat) × (Nat → Nat → Int32) × (Nat → Nat → Int32) × (Nat → Nat → Int32) × (Nat → Int32) × (Nat → Int32) × (Nat → Int32) × (Nat → Int32)) :=
  lt1 (m_X9_isWay Y_ways x1) (fun v1 => if v1 = 0 then (some (((-1), S_bridges, U_numbers, U_bridges, U_caps, U_lacks, H_size, Hb, HN, HB, HC, Hc, Hr, Hg, Hs))) else (bd5 (m_X9_reasonAgainst N S_numbers S_bridges S_caps Y_islands Y_ways Y_cellOf Y_firstOf Y_secondOf Y_crossings U_numbers U_bridges U_caps U_lacks x1) (fun v2 v3 v4 v5 v6 => if v2 = 0 then (bd9 (m_X1_record S_columns S_rows S_grade S_stepsMade S_numbers S_bridges S_caps H_size Hb HN HB HC Hc Hr Hg Hs) (fun v7 v8 v9 v10 v11 v12 v13 v14 v15 => lt1 (vAt 48 S_bridges x1) (fun v16 => lt1 (v16 + 1) (fun v17 => lt1 (vPut 48 S_bridges x1 v17) (fun v18 => some ((v17, v18, v3, v4, v5, v6, v7, v8, v9, v10, v11, v12, v13, v14, v15))))))) else (some (((-2), S_bridges, v3, v4, v5, v6, H_size, Hb, HN, HB, HC, Hc, Hr, Hg, Hs))))))
set_option maxHeartbeats 4000000 in
set_option maxRecDepth 100000 in
theorem c_X9_build (l : Launch) (D : va_G) (cI cJ cS cB : ClassId) (a : Nat → Nat) (S_columns : Int32) (S_rows : Int32) (S_grade : Int32) (S_stepsMade : Int32) (S_numbers : Nat → Int32) (S_bridges : Nat → Int32) (S_caps : Nat → Int32) (Y_islands : Int32) (Y_ways : Int32) (Y_cellOf : Nat → Int32) (Y_firstOf : Nat → Int32) (Y_secondOf : Nat → Int32) (Y_crossings : Nat → Int64) (U_numbers : Nat → Int32) (U_bridges : Nat → Int32) (U_caps : Nat → Int32) (U_lacks : Nat → Int32) (H_size : Int32) (Hb : Nat → Nat) (HN : Nat → Nat → Int32) (HB : Nat → Nat → Int32) (HC : Nat → Nat → Int32) (Hc : Nat → Int32) (Hr : Nat → Int32) (Hg : Nat → Int32) (Hs : Nat → Int32) (x1 : Int32) (N : Nat) (r0 : Int32) (S_bridges' : Nat → Int32) (U_numbers' : Nat → Int32) (U_bridges' : Nat → Int32) (U_caps' : Nat → Int32) (U_lacks' : Nat → Int32) (H_size' : Int32) (Hb' : Nat → Nat) (HN' : Nat → Nat → Int32) (HB' : Nat → Nat → Int32) (HC' : Nat → Nat → Int32) (Hc' : Nat → Int32) (Hr' : Nat → Int32) (Hg' : Nat → Int32) (Hs' : Nat → Int32) (hm : m_X9_build N S_columns S_rows S_grade S_stepsMade S_numbers S_bridges S_caps Y_islands Y_ways Y_cellOf Y_firstOf Y_secondOf Y_crossings U_numbers U_bridges U_caps U_lacks H_size Hb HN HB HC Hc Hr Hg Hs x1 = some (r0, S_bridges', U_numbers', U_bridges', U_caps', U_lacks', H_size', Hb', HN', HB', HC', Hc', Hr', Hg', Hs')) :
    mU l D (TYs cI cJ cS cB) yX9_build wsX9_build { frames := 4, cells := 0, slots := 0, locals := 123 } [.ref (a 0), .int x1] [o_X a , o_S a S_columns S_rows S_grade S_stepsMade, ai (a 2) cI 144 S_numbers, ai (a 3) cI 48 S_bridges, ai (a 4) cI 48 S_caps, o_Y a Y_islands Y_ways, ai (a 6) cI 24 Y_cellOf, ai (a 8) cI 48 Y_firstOf, ai (a 9) cI 48 Y_secondOf, aj (a 14) cJ 48 Y_crossings, o_U a , ai (a 16) cI 24 U_numbers, ai (a 17) cI 24 U_bridges, ai (a 18) cI 24 U_caps, ai (a 19) cI 24 U_lacks, o_H a H_size, aq (a 32) cS 4 (hq Hb), o_h (Hb 0) (Hb 1) (Hb 2) (Hb 3) (Hc 0) (Hr 0) (Hg 0) (Hs 0), ai (Hb 1) cI 144 (HN 0), ai (Hb 2) cI 48 (HB 0), ai (Hb 3) cI 48 (HC 0), o_h (Hb 4) (Hb 5) (Hb 6) (Hb 7) (Hc 1) (Hr 1) (Hg 1) (Hs 1), ai (Hb 5) cI 144 (HN 1), ai (Hb 6) cI 48 (HB 1), ai (Hb 7) cI 48 (HC 1), o_h (Hb 8) (Hb 9) (Hb 10) (Hb 11) (Hc 2) (Hr 2) (Hg 2) (Hs 2), ai (Hb 9) cI 144 (HN 2), ai (Hb 10) cI 48 (HB 2), ai (Hb 11) cI 48 (HC 2), o_h (Hb 12) (Hb 13) (Hb 14) (Hb 15) (Hc 3) (Hr 3) (Hg 3) (Hs 3), ai (Hb 13) cI 144 (HN 3), ai (Hb 14) cI 48 (HB 3), ai (Hb 15) cI 48 (HC 3)] [o_X a , o_S a S_columns S_rows S_grade S_stepsMade, ai (a 2) cI 144 S_numbers, ai (a 3) cI 48 S_bridges', ai (a 4) cI 48 S_caps, o_Y a Y_islands Y_ways, ai (a 6) cI 24 Y_cellOf, ai (a 8) cI 48 Y_firstOf, ai (a 9) cI 48 Y_secondOf, aj (a 14) cJ 48 Y_crossings, o_U a , ai (a 16) cI 24 U_numbers', ai (a 17) cI 24 U_bridges', ai (a 18) cI 24 U_caps', ai (a 19) cI 24 U_lacks', o_H a H_size', aq (a 32) cS 4 (hq Hb'), o_h (Hb' 0) (Hb' 1) (Hb' 2) (Hb' 3) (Hc' 0) (Hr' 0) (Hg' 0) (Hs' 0), ai (Hb' 1) cI 144 (HN' 0), ai (Hb' 2) cI 48 (HB' 0), ai (Hb' 3) cI 48 (HC' 0), o_h (Hb' 4) (Hb' 5) (Hb' 6) (Hb' 7) (Hc' 1) (Hr' 1) (Hg' 1) (Hs' 1), ai (Hb' 5) cI 144 (HN' 1), ai (Hb' 6) cI 48 (HB' 1), ai (Hb' 7) cI 48 (HC' 1), o_h (Hb' 8) (Hb' 9) (Hb' 10) (Hb' 11) (Hc' 2) (Hr' 2) (Hg' 2) (Hs' 2), ai (Hb' 9) cI 144 (HN' 2), ai (Hb' 10) cI 48 (HB' 2), ai (Hb' 11) cI 48 (HC' 2), o_h (Hb' 12) (Hb' 13) (Hb' 14) (Hb' 15) (Hc' 3) (Hr' 3) (Hg' 3) (Hs' 3), ai (Hb' 13) cI 144 (HN' 3), ai (Hb' 14) cI 48 (HB' 3), ai (Hb' 15) cI 48 (HC' 3)] (some (.int r0)) := by
  refine mG_of (cc := cX9_build) (maxL := 3) (ret := (some .int)) (by decide) rfl rfl (Nat.le_of_ble_eq_true rfl) ?_
  intro p e s m args below meth c A hx hb hr hml hlk hnm hts hown hK hP hD hA hS ls hl
  have hl : lv_has ls 3 [(0, .ref (a 0)), (1, .int x1)] := hl
  have hiX1 : ∀ w ∈ wsX10, w ∈ wsX9_build := fun w h => List.mem_cons_of_mem _ (List.mem_append_right _ h)
  have hiX2 : ∀ w ∈ wsX20, w ∈ wsX9_build := fun w h => List.mem_cons_of_mem _ (List.mem_append_left _ (List.mem_append_left _ (List.mem_append_right _ h)))
  have hiX6 : ∀ w ∈ wsX60, w ∈ wsX9_build := fun w h => List.mem_cons_of_mem _ (List.mem_append_left _ (List.mem_append_left _ (List.mem_append_left _ (List.mem_append_right _ h))))
  have hiX7 : ∀ w ∈ wsX70, w ∈ wsX9_build := fun w h => List.mem_cons_of_mem _ (List.mem_append_left _ (List.mem_append_right _ h))
  have hiX9 : ∀ w ∈ wsX90, w ∈ wsX9_build := fun w h => List.mem_cons_of_mem _ (List.mem_append_left _ (List.mem_append_left _ (List.mem_append_left _ (List.mem_append_left _ (List.mem_append_right _ h)))))
  unfold m_X9_build at hm
  refine lv_aload_n hx hb dX9_build_0 rfl (lv_at hl 0 rfl) ?_
  refine lv_iload_n hx hb dX9_build_1 rfl (lv_at hl 1 rfl) ?_
  obtain ⟨v1, h_v1, hm⟩ := lt1_inv hm
  refine cVs ⟨hx, hb, hml, hown, hts⟩ (c_X9_isWay l D cI cJ cS cB a Y_islands Y_ways x1 v1 h_v1) (cwV 1 hts gX9_build_X9_isWay rfl rfl rfl hd_X9_isWay ⟨(Nat.le_of_ble_eq_true rfl), (Nat.le_of_ble_eq_true rfl)⟩) hK hP hD hS hA [0, 5] rfl rfl rfl hl.1 (Nat.le_of_ble_eq_true rfl) ⟨Nat.zero_le _, Nat.zero_le _⟩ 0 rfl rfl rfl rfl dX9_build_2 (fun H locs hP hD hS => ?_)
  refine lv_if_ne (tgt := 10) hx hb dX9_build_5 (by decide) (fun c5 => ?_) (fun c5 => ?_)
  · have hm := ine c5 hm
    refine lv_aload_n hx hb dX9_build_10 rfl (lv_at hl 0 rfl) ?_
    refine lv_iload_n hx hb dX9_build_11 rfl (lv_at hl 1 rfl) ?_
    obtain ⟨v2, v3, v4, v5, v6, h_v2, hm⟩ := bd5_inv hm
    refine cVx ⟨hx, hb, hml, hown, hts⟩ (c_X9_reasonAgainst l D cI cJ cS cB a S_columns S_rows S_grade S_stepsMade S_numbers S_bridges S_caps Y_islands Y_ways Y_cellOf Y_firstOf Y_secondOf Y_crossings U_numbers U_bridges U_caps U_lacks x1 N v2 v3 v4 v5 v6 h_v2) (cwV 1 hts gX9_build_X9_reasonAgainst rfl rfl rfl hd_X9_reasonAgainst ⟨(Nat.le_of_ble_eq_true rfl), (Nat.le_of_ble_eq_true rfl)⟩) hK hP hD hS hA [0, 1, 2, 3, 4, 5, 6, 7, 8, 9, 10, 11, 12, 13, 14] rfl rfl [o_X a , o_S a S_columns S_rows S_grade S_stepsMade, ai (a 2) cI 144 S_numbers, ai (a 3) cI 48 S_bridges, ai (a 4) cI 48 S_caps, o_Y a Y_islands Y_ways, ai (a 6) cI 24 Y_cellOf, ai (a 8) cI 48 Y_firstOf, ai (a 9) cI 48 Y_secondOf, aj (a 14) cJ 48 Y_crossings, o_U a , ai (a 16) cI 24 v3, ai (a 17) cI 24 v4, ai (a 18) cI 24 v5, ai (a 19) cI 24 v6, o_H a H_size, aq (a 32) cS 4 (hq Hb), o_h (Hb 0) (Hb 1) (Hb 2) (Hb 3) (Hc 0) (Hr 0) (Hg 0) (Hs 0), ai (Hb 1) cI 144 (HN 0), ai (Hb 2) cI 48 (HB 0), ai (Hb 3) cI 48 (HC 0), o_h (Hb 4) (Hb 5) (Hb 6) (Hb 7) (Hc 1) (Hr 1) (Hg 1) (Hs 1), ai (Hb 5) cI 144 (HN 1), ai (Hb 6) cI 48 (HB 1), ai (Hb 7) cI 48 (HC 1), o_h (Hb 8) (Hb 9) (Hb 10) (Hb 11) (Hc 2) (Hr 2) (Hg 2) (Hs 2), ai (Hb 9) cI 144 (HN 2), ai (Hb 10) cI 48 (HB 2), ai (Hb 11) cI 48 (HC 2), o_h (Hb 12) (Hb 13) (Hb 14) (Hb 15) (Hc 3) (Hr 3) (Hg 3) (Hs 3), ai (Hb 13) cI 144 (HN 3), ai (Hb 14) cI 48 (HB 3), ai (Hb 15) cI 48 (HC 3)] [(true, 0), (true, 1), (true, 2), (true, 3), (true, 4), (true, 5), (true, 6), (true, 7), (true, 8), (true, 9), (true, 10), (true, 11), (true, 12), (true, 13), (true, 14), (false, 15), (false, 16), (false, 17), (false, 18), (false, 19), (false, 20), (false, 21), (false, 22), (false, 23), (false, 24), (false, 25), (false, 26), (false, 27), (false, 28), (false, 29), (false, 30), (false, 31), (false, 32)] rfl rfl rfl hl.1 (Nat.le_of_ble_eq_true rfl) ⟨Nat.zero_le _, Nat.zero_le _⟩ 0 rfl rfl rfl rfl dX9_build_12 (fun H locs hP hD hS => ?_)
    refine lv_if_eq (tgt := 21) hx hb dX9_build_15 (by decide) (fun c15 => ?_) (fun c15 => ?_)
    · have hm := ip c15 hm
      refine lv_aload_n hx hb dX9_build_21 rfl (lv_at hl 0 rfl) ?_
      refine va_get (D := D) (ci := 9) (v := .ref (a 31)) (C := RX9) (T := TX9) (N := 9) hx hb hts hiX9 hown hK.1 hP 0 rfl rfl 7 (by decide) (hts (.fieldLink RX9 69 "IslandBridges" "history" "LIslandBridges$History;") (List.mem_of_getElem? (i := 1) rfl)) (fun _ h9 => h9) rfl dX9_build_22 ?_
      refine lv_aload_n hx hb dX9_build_25 rfl (lv_at hl 0 rfl) ?_
      refine va_get (D := D) (ci := 9) (v := .ref (a 1)) (C := RX9) (T := TX9) (N := 9) hx hb hts hiX9 hown hK.1 hP 0 rfl rfl 0 (by decide) (hts (.fieldLink RX9 10 "IslandBridges" "state" "LIslandBridges$State;") (List.mem_of_getElem? (i := 2) rfl)) (fun _ h9 => h9) rfl dX9_build_26 ?_
      obtain ⟨v7, v8, v9, v10, v11, v12, v13, v14, v15, h_v7, hm⟩ := bd9_inv hm
      refine cVx ⟨hx, hb, hml, hown, hts⟩ (c_X1_record l D cI cJ cS cB a S_columns S_rows S_grade S_stepsMade S_numbers S_bridges S_caps H_size Hb HN HB HC Hc Hr Hg Hs v7 v8 v9 v10 v11 v12 v13 v14 v15 h_v7) (cwV 1 hts gX9_build_X1_record rfl rfl rfl hd_X1_record ⟨(Nat.le_of_ble_eq_true rfl), (Nat.le_of_ble_eq_true rfl)⟩) hK hP hD hS hA [1, 2, 3, 4, 15, 16, 17, 18, 19, 20, 21, 22, 23, 24, 25, 26, 27, 28, 29, 30, 31, 32] rfl rfl [o_X a , o_S a S_columns S_rows S_grade S_stepsMade, ai (a 2) cI 144 S_numbers, ai (a 3) cI 48 S_bridges, ai (a 4) cI 48 S_caps, o_Y a Y_islands Y_ways, ai (a 6) cI 24 Y_cellOf, ai (a 8) cI 48 Y_firstOf, ai (a 9) cI 48 Y_secondOf, aj (a 14) cJ 48 Y_crossings, o_U a , ai (a 16) cI 24 v3, ai (a 17) cI 24 v4, ai (a 18) cI 24 v5, ai (a 19) cI 24 v6, o_H a v7, aq (a 32) cS 4 (hq v8), o_h (v8 0) (v8 1) (v8 2) (v8 3) (v12 0) (v13 0) (v14 0) (v15 0), ai (v8 1) cI 144 (v9 0), ai (v8 2) cI 48 (v10 0), ai (v8 3) cI 48 (v11 0), o_h (v8 4) (v8 5) (v8 6) (v8 7) (v12 1) (v13 1) (v14 1) (v15 1), ai (v8 5) cI 144 (v9 1), ai (v8 6) cI 48 (v10 1), ai (v8 7) cI 48 (v11 1), o_h (v8 8) (v8 9) (v8 10) (v8 11) (v12 2) (v13 2) (v14 2) (v15 2), ai (v8 9) cI 144 (v9 2), ai (v8 10) cI 48 (v10 2), ai (v8 11) cI 48 (v11 2), o_h (v8 12) (v8 13) (v8 14) (v8 15) (v12 3) (v13 3) (v14 3) (v15 3), ai (v8 13) cI 144 (v9 3), ai (v8 14) cI 48 (v10 3), ai (v8 15) cI 48 (v11 3)] [(false, 0), (true, 0), (true, 1), (true, 2), (true, 3), (false, 5), (false, 6), (false, 7), (false, 8), (false, 9), (false, 10), (false, 11), (false, 12), (false, 13), (false, 14), (true, 4), (true, 5), (true, 6), (true, 7), (true, 8), (true, 9), (true, 10), (true, 11), (true, 12), (true, 13), (true, 14), (true, 15), (true, 16), (true, 17), (true, 18), (true, 19), (true, 20), (true, 21)] rfl rfl rfl hl.1 (Nat.le_of_ble_eq_true rfl) ⟨Nat.zero_le _, Nat.zero_le _⟩ 15 rfl rfl rfl rfl dX9_build_29 (fun H locs hP hD hS => ?_)
      refine lv_aload_n hx hb dX9_build_32 rfl (lv_at hl 0 rfl) ?_
      refine va_get (D := D) (ci := 9) (v := .ref (a 1)) (C := RX9) (T := TX9) (N := 9) hx hb hts hiX9 hown hK.1 hP 0 rfl rfl 0 (by decide) (hts (.fieldLink RX9 10 "IslandBridges" "state" "LIslandBridges$State;") (List.mem_of_getElem? (i := 2) rfl)) (fun _ h9 => h9) rfl dX9_build_33 ?_
      refine va_get (D := D) (ci := 6) (v := .ref (a 3)) (C := RX6) (T := TX6) (N := 7) hx hb hts hiX6 hown hK.1 hP 1 rfl rfl 1 (by decide) (hts (.fieldLink RX9 117 "IslandBridges$State" "bridges" "[I") (List.mem_of_getElem? (i := 3) rfl)) (fun _ h9 => h9) rfl dX9_build_36 ?_
      refine lv_iload_n hx hb dX9_build_39 rfl (lv_at hl 1 rfl) ?_
      obtain ⟨v16, ev16, hm⟩ := lt1_inv hm
      refine cSs ⟨hx, hb, hml, hown, hts⟩ (c_X9_valueAt l D cI cJ cS cB (a 3) 48 (Nat.le_of_ble_eq_true rfl) S_bridges x1 v16 ev16) (va_cwS 2 hts gX9_build_X9_valueAt rfl rfl rfl hd_X9_valueAt ⟨(Nat.le_of_ble_eq_true rfl), (Nat.le_of_ble_eq_true rfl)⟩) hK hP hD hS hA [3] rfl rfl rfl hl.1 (Nat.le_of_ble_eq_true rfl) ⟨Nat.zero_le _, Nat.zero_le _⟩ rfl dX9_build_40 (fun H locs hP hD hS => ?_)
      refine lv_iconst (v := 1) hx hb dX9_build_43 (by decide) ?_
      refine lv_iadd hx hb dX9_build_44 ?_
      obtain ⟨v17, ev17, hm⟩ := lt1_inv hm
      refine ltop ev17 ?_
      refine lv_istore_n (lv' := [(2, .int v17), (0, .ref (a 0)), (1, .int x1)]) hx hb dX9_build_45 rfl hl (by decide) rfl (fun ls hl => ?_)
      refine lv_aload_n hx hb dX9_build_46 rfl (lv_at hl 1 rfl) ?_
      refine va_get (D := D) (ci := 9) (v := .ref (a 1)) (C := RX9) (T := TX9) (N := 9) hx hb hts hiX9 hown hK.1 hP 0 rfl rfl 0 (by decide) (hts (.fieldLink RX9 10 "IslandBridges" "state" "LIslandBridges$State;") (List.mem_of_getElem? (i := 2) rfl)) (fun _ h9 => h9) rfl dX9_build_47 ?_
      refine va_get (D := D) (ci := 6) (v := .ref (a 3)) (C := RX6) (T := TX6) (N := 7) hx hb hts hiX6 hown hK.1 hP 1 rfl rfl 1 (by decide) (hts (.fieldLink RX9 117 "IslandBridges$State" "bridges" "[I") (List.mem_of_getElem? (i := 3) rfl)) (fun _ h9 => h9) rfl dX9_build_50 ?_
      refine lv_iload_n hx hb dX9_build_53 rfl (lv_at hl 2 rfl) ?_
      refine lv_iload_n hx hb dX9_build_54 rfl (lv_at hl 0 rfl) ?_
      obtain ⟨v18, ev18, hm⟩ := lt1_inv hm
      refine cSx ⟨hx, hb, hml, hown, hts⟩ (c_X9_put l D cI cJ cS cB (a 3) 48 (Nat.le_of_ble_eq_true rfl) S_bridges x1 v17 v18 ev18) (va_cwS 3 hts gX9_build_X9_put rfl rfl rfl hd_X9_put ⟨(Nat.le_of_ble_eq_true rfl), (Nat.le_of_ble_eq_true rfl)⟩) hK hP hD hS hA [3] rfl rfl [o_X a , o_S a S_columns S_rows S_grade S_stepsMade, ai (a 2) cI 144 S_numbers, ai (a 3) cI 48 v18, ai (a 4) cI 48 S_caps, o_Y a Y_islands Y_ways, ai (a 6) cI 24 Y_cellOf, ai (a 8) cI 48 Y_firstOf, ai (a 9) cI 48 Y_secondOf, aj (a 14) cJ 48 Y_crossings, o_U a , ai (a 16) cI 24 v3, ai (a 17) cI 24 v4, ai (a 18) cI 24 v5, ai (a 19) cI 24 v6, o_H a v7, aq (a 32) cS 4 (hq v8), o_h (v8 0) (v8 1) (v8 2) (v8 3) (v12 0) (v13 0) (v14 0) (v15 0), ai (v8 1) cI 144 (v9 0), ai (v8 2) cI 48 (v10 0), ai (v8 3) cI 48 (v11 0), o_h (v8 4) (v8 5) (v8 6) (v8 7) (v12 1) (v13 1) (v14 1) (v15 1), ai (v8 5) cI 144 (v9 1), ai (v8 6) cI 48 (v10 1), ai (v8 7) cI 48 (v11 1), o_h (v8 8) (v8 9) (v8 10) (v8 11) (v12 2) (v13 2) (v14 2) (v15 2), ai (v8 9) cI 144 (v9 2), ai (v8 10) cI 48 (v10 2), ai (v8 11) cI 48 (v11 2), o_h (v8 12) (v8 13) (v8 14) (v8 15) (v12 3) (v13 3) (v14 3) (v15 3), ai (v8 13) cI 144 (v9 3), ai (v8 14) cI 48 (v10 3), ai (v8 15) cI 48 (v11 3)] [(false, 0), (false, 1), (false, 2), (true, 0), (false, 4), (false, 5), (false, 6), (false, 7), (false, 8), (false, 9), (false, 10), (false, 11), (false, 12), (false, 13), (false, 14), (false, 15), (false, 16), (false, 17), (false, 18), (false, 19), (false, 20), (false, 21), (false, 22), (false, 23), (false, 24), (false, 25), (false, 26), (false, 27), (false, 28), (false, 29), (false, 30), (false, 31), (false, 32)] rfl rfl rfl hl.1 (Nat.le_of_ble_eq_true rfl) ⟨Nat.zero_le _, Nat.zero_le _⟩ rfl dX9_build_55 (fun H locs hP hD hS => ?_)
      refine lv_iload_n hx hb dX9_build_58 rfl (lv_at hl 0 rfl) ?_
      cases hm
      exact rI () hx hb hr hlk hP hD hS dX9_build_59
    · have hm := ine c15 hm
      refine lv_bipush (v := (-2)) hx hb dX9_build_18 (by decide) ?_
      cases hm
      exact rI () hx hb hr hlk hP hD hS dX9_build_20
  · have hm := ip c5 hm
    refine lv_iconst (v := (-1)) hx hb dX9_build_8 (by decide) ?_
    cases hm
    exact rI () hx hb hr hlk hP hD hS dX9_build_9
theorem hd_X9_take : yX9_take.cls = RX9 ∧ yX9_take.cls ≠ "java/lang/invoke/MethodHandle" ∧ yX9_take.cls ≠ "java/lang/invoke/VarHandle" ∧ (parseMethodDescriptor yX9_take.desc).map (fun d => d.parameters.length) = some 1 := by decide +kernel
def m_X9_take (S_columns : Int32) (S_rows : Int32) (S_grade : Int32) (S_stepsMade : Int32) (S_numbers : Nat → Int32) (S_bridges : Nat → Int32) (S_caps : Nat → Int32) (Y_ways : Int32) (H_size : Int32) (Hb : Nat → Nat) (HN : Nat → Nat → Int32) (HB : Nat → Nat → Int32) (HC : Nat → Nat → Int32) (Hc : Nat → Int32) (Hr : Nat → Int32) (Hg : Nat → Int32) (Hs : Nat → Int32) (x1 : Int32) : Option (Int32 × (Nat → Int32) × Int32 × (Nat → Nat) × (Nat → Nat → Int32) × (Nat → Nat → Int32) × (Nat → Nat → Int32) × (Nat → Int32) × (Nat → Int32) × (Nat → Int32) × (Nat → Int32)) :=
  lt1 (m_X9_isWay Y_ways x1) (fun v1 => if v1 = 0 then (some (((-1), S_bridges, H_size, Hb, HN, HB, HC, Hc, Hr, Hg, Hs))) else (lt1 (vAt 48 S_bridges x1) (fun v2 => if v2 = 0 then (some (((-2), S_bridges, H_size, Hb, HN, HB, HC, Hc, Hr, Hg, Hs))) else (bd9 (m_X1_record S_columns S_rows S_grade S_stepsMade S_numbers S_bridges S_caps H_size Hb HN HB HC Hc Hr Hg Hs) (fun v3 v4 v5 v6 v7 v8 v9 v10 v11 => lt1 (vPut 48 S_bridges x1 (v2 - 1)) (fun v12 => some ((v2 - 1, v12, v3, v4, v5, v6, v7, v8, v9, v10, v11))))))))
set_option maxHeartbeats 4000000 in
set_option maxRecDepth 100000 in
theorem c_X9_take (l : Launch) (D : va_G) (cI cJ cS cB : ClassId) (a : Nat → Nat) (S_columns : Int32) (S_rows : Int32) (S_grade : Int32) (S_stepsMade : Int32) (S_numbers : Nat → Int32) (S_bridges : Nat → Int32) (S_caps : Nat → Int32) (Y_islands : Int32) (Y_ways : Int32) (H_size : Int32) (Hb : Nat → Nat) (HN : Nat → Nat → Int32) (HB : Nat → Nat → Int32) (HC : Nat → Nat → Int32) (Hc : Nat → Int32) (Hr : Nat → Int32) (Hg : Nat → Int32) (Hs : Nat → Int32) (x1 : Int32) (r0 : Int32) (S_bridges' : Nat → Int32) (H_size' : Int32) (Hb' : Nat → Nat) (HN' : Nat → Nat → Int32) (HB' : Nat → Nat → Int32) (HC' : Nat → Nat → Int32) (Hc' : Nat → Int32) (Hr' : Nat → Int32) (Hg' : Nat → Int32) (Hs' : Nat → Int32) (hm : m_X9_take S_columns S_rows S_grade S_stepsMade S_numbers S_bridges S_caps Y_ways H_size Hb HN HB HC Hc Hr Hg Hs x1 = some (r0, S_bridges', H_size', Hb', HN', HB', HC', Hc', Hr', Hg', Hs')) :
    mU l D (TYs cI cJ cS cB) yX9_take wsX9_take { frames := 3, cells := 0, slots := 0, locals := 123 } [.ref (a 0), .int x1] [o_X a , o_S a S_columns S_rows S_grade S_stepsMade, ai (a 2) cI 144 S_numbers, ai (a 3) cI 48 S_bridges, ai (a 4) cI 48 S_caps, o_Y a Y_islands Y_ways, o_H a H_size, aq (a 32) cS 4 (hq Hb), o_h (Hb 0) (Hb 1) (Hb 2) (Hb 3) (Hc 0) (Hr 0) (Hg 0) (Hs 0), ai (Hb 1) cI 144 (HN 0), ai (Hb 2) cI 48 (HB 0), ai (Hb 3) cI 48 (HC 0), o_h (Hb 4) (Hb 5) (Hb 6) (Hb 7) (Hc 1) (Hr 1) (Hg 1) (Hs 1), ai (Hb 5) cI 144 (HN 1), ai (Hb 6) cI 48 (HB 1), ai (Hb 7) cI 48 (HC 1), o_h (Hb 8) (Hb 9) (Hb 10) (Hb 11) (Hc 2) (Hr 2) (Hg 2) (Hs 2), ai (Hb 9) cI 144 (HN 2), ai (Hb 10) cI 48 (HB 2), ai (Hb 11) cI 48 (HC 2), o_h (Hb 12) (Hb 13) (Hb 14) (Hb 15) (Hc 3) (Hr 3) (Hg 3) (Hs 3), ai (Hb 13) cI 144 (HN 3), ai (Hb 14) cI 48 (HB 3), ai (Hb 15) cI 48 (HC 3)] [o_X a , o_S a S_columns S_rows S_grade S_stepsMade, ai (a 2) cI 144 S_numbers, ai (a 3) cI 48 S_bridges', ai (a 4) cI 48 S_caps, o_Y a Y_islands Y_ways, o_H a H_size', aq (a 32) cS 4 (hq Hb'), o_h (Hb' 0) (Hb' 1) (Hb' 2) (Hb' 3) (Hc' 0) (Hr' 0) (Hg' 0) (Hs' 0), ai (Hb' 1) cI 144 (HN' 0), ai (Hb' 2) cI 48 (HB' 0), ai (Hb' 3) cI 48 (HC' 0), o_h (Hb' 4) (Hb' 5) (Hb' 6) (Hb' 7) (Hc' 1) (Hr' 1) (Hg' 1) (Hs' 1), ai (Hb' 5) cI 144 (HN' 1), ai (Hb' 6) cI 48 (HB' 1), ai (Hb' 7) cI 48 (HC' 1), o_h (Hb' 8) (Hb' 9) (Hb' 10) (Hb' 11) (Hc' 2) (Hr' 2) (Hg' 2) (Hs' 2), ai (Hb' 9) cI 144 (HN' 2), ai (Hb' 10) cI 48 (HB' 2), ai (Hb' 11) cI 48 (HC' 2), o_h (Hb' 12) (Hb' 13) (Hb' 14) (Hb' 15) (Hc' 3) (Hr' 3) (Hg' 3) (Hs' 3), ai (Hb' 13) cI 144 (HN' 3), ai (Hb' 14) cI 48 (HB' 3), ai (Hb' 15) cI 48 (HC' 3)] (some (.int r0)) := by
  refine mG_of (cc := cX9_take) (maxL := 3) (ret := (some .int)) (by decide) rfl rfl (Nat.le_of_ble_eq_true rfl) ?_
  intro p e s m args below meth c A hx hb hr hml hlk hnm hts hown hK hP hD hA hS ls hl
  have hl : lv_has ls 3 [(0, .ref (a 0)), (1, .int x1)] := hl
  have hiX1 : ∀ w ∈ wsX10, w ∈ wsX9_take := fun w h => List.mem_cons_of_mem _ (List.mem_append_right _ h)
  have hiX2 : ∀ w ∈ wsX20, w ∈ wsX9_take := fun w h => List.mem_cons_of_mem _ (List.mem_append_left _ (List.mem_append_right _ h))
  have hiX6 : ∀ w ∈ wsX60, w ∈ wsX9_take := fun w h => List.mem_cons_of_mem _ (List.mem_append_left _ (List.mem_append_left _ (List.mem_append_right _ h)))
  have hiX9 : ∀ w ∈ wsX90, w ∈ wsX9_take := fun w h => List.mem_cons_of_mem _ (List.mem_append_left _ (List.mem_append_left _ (List.mem_append_left _ (List.mem_append_right _ h))))
  unfold m_X9_take at hm
  refine lv_aload_n hx hb dX9_take_0 rfl (lv_at hl 0 rfl) ?_
  refine lv_iload_n hx hb dX9_take_1 rfl (lv_at hl 1 rfl) ?_
  obtain ⟨v1, h_v1, hm⟩ := lt1_inv hm
  refine cVs ⟨hx, hb, hml, hown, hts⟩ (c_X9_isWay l D cI cJ cS cB a Y_islands Y_ways x1 v1 h_v1) (cwV 1 hts gX9_take_X9_isWay rfl rfl rfl hd_X9_isWay ⟨(Nat.le_of_ble_eq_true rfl), (Nat.le_of_ble_eq_true rfl)⟩) hK hP hD hS hA [0, 5] rfl rfl rfl hl.1 (Nat.le_of_ble_eq_true rfl) ⟨Nat.zero_le _, Nat.zero_le _⟩ 0 rfl rfl rfl rfl dX9_take_2 (fun H locs hP hD hS => ?_)
  refine lv_if_ne (tgt := 10) hx hb dX9_take_5 (by decide) (fun c5 => ?_) (fun c5 => ?_)
  · have hm := ine c5 hm
    refine lv_aload_n hx hb dX9_take_10 rfl (lv_at hl 0 rfl) ?_
    refine va_get (D := D) (ci := 9) (v := .ref (a 1)) (C := RX9) (T := TX9) (N := 9) hx hb hts hiX9 hown hK.1 hP 0 rfl rfl 0 (by decide) (hts (.fieldLink RX9 10 "IslandBridges" "state" "LIslandBridges$State;") (List.mem_of_getElem? (i := 1) rfl)) (fun _ h9 => h9) rfl dX9_take_11 ?_
    refine va_get (D := D) (ci := 6) (v := .ref (a 3)) (C := RX6) (T := TX6) (N := 7) hx hb hts hiX6 hown hK.1 hP 1 rfl rfl 1 (by decide) (hts (.fieldLink RX9 117 "IslandBridges$State" "bridges" "[I") (List.mem_of_getElem? (i := 2) rfl)) (fun _ h9 => h9) rfl dX9_take_14 ?_
    refine lv_iload_n hx hb dX9_take_17 rfl (lv_at hl 1 rfl) ?_
    obtain ⟨v2, ev2, hm⟩ := lt1_inv hm
    refine cSs ⟨hx, hb, hml, hown, hts⟩ (c_X9_valueAt l D cI cJ cS cB (a 3) 48 (Nat.le_of_ble_eq_true rfl) S_bridges x1 v2 ev2) (va_cwS 2 hts gX9_take_X9_valueAt rfl rfl rfl hd_X9_valueAt ⟨(Nat.le_of_ble_eq_true rfl), (Nat.le_of_ble_eq_true rfl)⟩) hK hP hD hS hA [3] rfl rfl rfl hl.1 (Nat.le_of_ble_eq_true rfl) ⟨Nat.zero_le _, Nat.zero_le _⟩ rfl dX9_take_18 (fun H locs hP hD hS => ?_)
    refine lv_istore_n (lv' := [(2, .int v2), (0, .ref (a 0)), (1, .int x1)]) hx hb dX9_take_21 rfl hl (by decide) rfl (fun ls hl => ?_)
    refine lv_iload_n hx hb dX9_take_22 rfl (lv_at hl 0 rfl) ?_
    refine lv_if_ne (tgt := 29) hx hb dX9_take_23 (by decide) (fun c23 => ?_) (fun c23 => ?_)
    · have hm := ine c23 hm
      refine lv_aload_n hx hb dX9_take_29 rfl (lv_at hl 1 rfl) ?_
      refine va_get (D := D) (ci := 9) (v := .ref (a 31)) (C := RX9) (T := TX9) (N := 9) hx hb hts hiX9 hown hK.1 hP 0 rfl rfl 7 (by decide) (hts (.fieldLink RX9 69 "IslandBridges" "history" "LIslandBridges$History;") (List.mem_of_getElem? (i := 3) rfl)) (fun _ h9 => h9) rfl dX9_take_30 ?_
      refine lv_aload_n hx hb dX9_take_33 rfl (lv_at hl 1 rfl) ?_
      refine va_get (D := D) (ci := 9) (v := .ref (a 1)) (C := RX9) (T := TX9) (N := 9) hx hb hts hiX9 hown hK.1 hP 0 rfl rfl 0 (by decide) (hts (.fieldLink RX9 10 "IslandBridges" "state" "LIslandBridges$State;") (List.mem_of_getElem? (i := 1) rfl)) (fun _ h9 => h9) rfl dX9_take_34 ?_
      obtain ⟨v3, v4, v5, v6, v7, v8, v9, v10, v11, h_v3, hm⟩ := bd9_inv hm
      refine cVx ⟨hx, hb, hml, hown, hts⟩ (c_X1_record l D cI cJ cS cB a S_columns S_rows S_grade S_stepsMade S_numbers S_bridges S_caps H_size Hb HN HB HC Hc Hr Hg Hs v3 v4 v5 v6 v7 v8 v9 v10 v11 h_v3) (cwV 1 hts gX9_take_X1_record rfl rfl rfl hd_X1_record ⟨(Nat.le_of_ble_eq_true rfl), (Nat.le_of_ble_eq_true rfl)⟩) hK hP hD hS hA [1, 2, 3, 4, 6, 7, 8, 9, 10, 11, 12, 13, 14, 15, 16, 17, 18, 19, 20, 21, 22, 23] rfl rfl [o_X a , o_S a S_columns S_rows S_grade S_stepsMade, ai (a 2) cI 144 S_numbers, ai (a 3) cI 48 S_bridges, ai (a 4) cI 48 S_caps, o_Y a Y_islands Y_ways, o_H a v3, aq (a 32) cS 4 (hq v4), o_h (v4 0) (v4 1) (v4 2) (v4 3) (v8 0) (v9 0) (v10 0) (v11 0), ai (v4 1) cI 144 (v5 0), ai (v4 2) cI 48 (v6 0), ai (v4 3) cI 48 (v7 0), o_h (v4 4) (v4 5) (v4 6) (v4 7) (v8 1) (v9 1) (v10 1) (v11 1), ai (v4 5) cI 144 (v5 1), ai (v4 6) cI 48 (v6 1), ai (v4 7) cI 48 (v7 1), o_h (v4 8) (v4 9) (v4 10) (v4 11) (v8 2) (v9 2) (v10 2) (v11 2), ai (v4 9) cI 144 (v5 2), ai (v4 10) cI 48 (v6 2), ai (v4 11) cI 48 (v7 2), o_h (v4 12) (v4 13) (v4 14) (v4 15) (v8 3) (v9 3) (v10 3) (v11 3), ai (v4 13) cI 144 (v5 3), ai (v4 14) cI 48 (v6 3), ai (v4 15) cI 48 (v7 3)] [(false, 0), (true, 0), (true, 1), (true, 2), (true, 3), (false, 5), (true, 4), (true, 5), (true, 6), (true, 7), (true, 8), (true, 9), (true, 10), (true, 11), (true, 12), (true, 13), (true, 14), (true, 15), (true, 16), (true, 17), (true, 18), (true, 19), (true, 20), (true, 21)] rfl rfl rfl hl.1 (Nat.le_of_ble_eq_true rfl) ⟨Nat.zero_le _, Nat.zero_le _⟩ 6 rfl rfl rfl rfl dX9_take_37 (fun H locs hP hD hS => ?_)
      refine lv_aload_n hx hb dX9_take_40 rfl (lv_at hl 1 rfl) ?_
      refine va_get (D := D) (ci := 9) (v := .ref (a 1)) (C := RX9) (T := TX9) (N := 9) hx hb hts hiX9 hown hK.1 hP 0 rfl rfl 0 (by decide) (hts (.fieldLink RX9 10 "IslandBridges" "state" "LIslandBridges$State;") (List.mem_of_getElem? (i := 1) rfl)) (fun _ h9 => h9) rfl dX9_take_41 ?_
      refine va_get (D := D) (ci := 6) (v := .ref (a 3)) (C := RX6) (T := TX6) (N := 7) hx hb hts hiX6 hown hK.1 hP 1 rfl rfl 1 (by decide) (hts (.fieldLink RX9 117 "IslandBridges$State" "bridges" "[I") (List.mem_of_getElem? (i := 2) rfl)) (fun _ h9 => h9) rfl dX9_take_44 ?_
      refine lv_iload_n hx hb dX9_take_47 rfl (lv_at hl 2 rfl) ?_
      refine lv_iload_n hx hb dX9_take_48 rfl (lv_at hl 0 rfl) ?_
      refine lv_iconst (v := 1) hx hb dX9_take_49 (by decide) ?_
      refine lv_isub hx hb dX9_take_50 ?_
      obtain ⟨v12, ev12, hm⟩ := lt1_inv hm
      refine cSx ⟨hx, hb, hml, hown, hts⟩ (c_X9_put l D cI cJ cS cB (a 3) 48 (Nat.le_of_ble_eq_true rfl) S_bridges x1 (v2 - 1) v12 ev12) (va_cwS 3 hts gX9_take_X9_put rfl rfl rfl hd_X9_put ⟨(Nat.le_of_ble_eq_true rfl), (Nat.le_of_ble_eq_true rfl)⟩) hK hP hD hS hA [3] rfl rfl [o_X a , o_S a S_columns S_rows S_grade S_stepsMade, ai (a 2) cI 144 S_numbers, ai (a 3) cI 48 v12, ai (a 4) cI 48 S_caps, o_Y a Y_islands Y_ways, o_H a v3, aq (a 32) cS 4 (hq v4), o_h (v4 0) (v4 1) (v4 2) (v4 3) (v8 0) (v9 0) (v10 0) (v11 0), ai (v4 1) cI 144 (v5 0), ai (v4 2) cI 48 (v6 0), ai (v4 3) cI 48 (v7 0), o_h (v4 4) (v4 5) (v4 6) (v4 7) (v8 1) (v9 1) (v10 1) (v11 1), ai (v4 5) cI 144 (v5 1), ai (v4 6) cI 48 (v6 1), ai (v4 7) cI 48 (v7 1), o_h (v4 8) (v4 9) (v4 10) (v4 11) (v8 2) (v9 2) (v10 2) (v11 2), ai (v4 9) cI 144 (v5 2), ai (v4 10) cI 48 (v6 2), ai (v4 11) cI 48 (v7 2), o_h (v4 12) (v4 13) (v4 14) (v4 15) (v8 3) (v9 3) (v10 3) (v11 3), ai (v4 13) cI 144 (v5 3), ai (v4 14) cI 48 (v6 3), ai (v4 15) cI 48 (v7 3)] [(false, 0), (false, 1), (false, 2), (true, 0), (false, 4), (false, 5), (false, 6), (false, 7), (false, 8), (false, 9), (false, 10), (false, 11), (false, 12), (false, 13), (false, 14), (false, 15), (false, 16), (false, 17), (false, 18), (false, 19), (false, 20), (false, 21), (false, 22), (false, 23)] rfl rfl rfl hl.1 (Nat.le_of_ble_eq_true rfl) ⟨Nat.zero_le _, Nat.zero_le _⟩ rfl dX9_take_51 (fun H locs hP hD hS => ?_)
      refine lv_iload_n hx hb dX9_take_54 rfl (lv_at hl 0 rfl) ?_
      refine lv_iconst (v := 1) hx hb dX9_take_55 (by decide) ?_
      refine lv_isub hx hb dX9_take_56 ?_
      cases hm
      exact rI () hx hb hr hlk hP hD hS dX9_take_57
    · have hm := ip c23 hm
      refine lv_bipush (v := (-2)) hx hb dX9_take_26 (by decide) ?_
      cases hm
      exact rI () hx hb hr hlk hP hD hS dX9_take_28
  · have hm := ip c5 hm
    refine lv_iconst (v := (-1)) hx hb dX9_take_8 (by decide) ?_
    cases hm
    exact rI () hx hb hr hlk hP hD hS dX9_take_9
theorem hd_X9_cap : yX9_cap.cls = RX9 ∧ yX9_cap.cls ≠ "java/lang/invoke/MethodHandle" ∧ yX9_cap.cls ≠ "java/lang/invoke/VarHandle" ∧ (parseMethodDescriptor yX9_cap.desc).map (fun d => d.parameters.length) = some 2 := by decide +kernel
def m_X9_cap (S_columns : Int32) (S_rows : Int32) (S_grade : Int32) (S_stepsMade : Int32) (S_numbers : Nat → Int32) (S_bridges : Nat → Int32) (S_caps : Nat → Int32) (Y_ways : Int32) (H_size : Int32) (Hb : Nat → Nat) (HN : Nat → Nat → Int32) (HB : Nat → Nat → Int32) (HC : Nat → Nat → Int32) (Hc : Nat → Int32) (Hr : Nat → Int32) (Hg : Nat → Int32) (Hs : Nat → Int32) (x1 : Int32) (x2 : Int32) : Option (Int32 × (Nat → Int32) × Int32 × (Nat → Nat) × (Nat → Nat → Int32) × (Nat → Nat → Int32) × (Nat → Nat → Int32) × (Nat → Int32) × (Nat → Int32) × (Nat → Int32) × (Nat → Int32)) :=
  lt1 (m_X9_isWay Y_ways x1) (fun v1 => if v1 = 0 then (some (((-1), S_caps, H_size, Hb, HN, HB, HC, Hc, Hr, Hg, Hs))) else (if x2 < 0 then (some (((-1), S_caps, H_size, Hb, HN, HB, HC, Hc, Hr, Hg, Hs))) else (if x2 ≤ 2 then (lt1 (vAt 48 S_bridges x1) (fun v2 => if v2 ≤ x2 then (bd9 (m_X1_record S_columns S_rows S_grade S_stepsMade S_numbers S_bridges S_caps H_size Hb HN HB HC Hc Hr Hg Hs) (fun v3 v4 v5 v6 v7 v8 v9 v10 v11 => lt1 (vAt 48 S_caps x1) (fun v12 => lt1 (vPut 48 S_caps x1 x2) (fun v13 => some ((v12, v13, v3, v4, v5, v6, v7, v8, v9, v10, v11)))))) else (some (((-2), S_caps, H_size, Hb, HN, HB, HC, Hc, Hr, Hg, Hs))))) else (some (((-1), S_caps, H_size, Hb, HN, HB, HC, Hc, Hr, Hg, Hs))))))
set_option maxHeartbeats 4000000 in
set_option maxRecDepth 100000 in
theorem c_X9_cap (l : Launch) (D : va_G) (cI cJ cS cB : ClassId) (a : Nat → Nat) (S_columns : Int32) (S_rows : Int32) (S_grade : Int32) (S_stepsMade : Int32) (S_numbers : Nat → Int32) (S_bridges : Nat → Int32) (S_caps : Nat → Int32) (Y_islands : Int32) (Y_ways : Int32) (H_size : Int32) (Hb : Nat → Nat) (HN : Nat → Nat → Int32) (HB : Nat → Nat → Int32) (HC : Nat → Nat → Int32) (Hc : Nat → Int32) (Hr : Nat → Int32) (Hg : Nat → Int32) (Hs : Nat → Int32) (x1 : Int32) (x2 : Int32) (r0 : Int32) (S_caps' : Nat → Int32) (H_size' : Int32) (Hb' : Nat → Nat) (HN' : Nat → Nat → Int32) (HB' : Nat → Nat → Int32) (HC' : Nat → Nat → Int32) (Hc' : Nat → Int32) (Hr' : Nat → Int32) (Hg' : Nat → Int32) (Hs' : Nat → Int32) (hm : m_X9_cap S_columns S_rows S_grade S_stepsMade S_numbers S_bridges S_caps Y_ways H_size Hb HN HB HC Hc Hr Hg Hs x1 x2 = some (r0, S_caps', H_size', Hb', HN', HB', HC', Hc', Hr', Hg', Hs')) :
    mU l D (TYs cI cJ cS cB) yX9_cap wsX9_cap { frames := 3, cells := 0, slots := 0, locals := 123 } [.ref (a 0), .int x1, .int x2] [o_X a , o_S a S_columns S_rows S_grade S_stepsMade, ai (a 2) cI 144 S_numbers, ai (a 3) cI 48 S_bridges, ai (a 4) cI 48 S_caps, o_Y a Y_islands Y_ways, o_H a H_size, aq (a 32) cS 4 (hq Hb), o_h (Hb 0) (Hb 1) (Hb 2) (Hb 3) (Hc 0) (Hr 0) (Hg 0) (Hs 0), ai (Hb 1) cI 144 (HN 0), ai (Hb 2) cI 48 (HB 0), ai (Hb 3) cI 48 (HC 0), o_h (Hb 4) (Hb 5) (Hb 6) (Hb 7) (Hc 1) (Hr 1) (Hg 1) (Hs 1), ai (Hb 5) cI 144 (HN 1), ai (Hb 6) cI 48 (HB 1), ai (Hb 7) cI 48 (HC 1), o_h (Hb 8) (Hb 9) (Hb 10) (Hb 11) (Hc 2) (Hr 2) (Hg 2) (Hs 2), ai (Hb 9) cI 144 (HN 2), ai (Hb 10) cI 48 (HB 2), ai (Hb 11) cI 48 (HC 2), o_h (Hb 12) (Hb 13) (Hb 14) (Hb 15) (Hc 3) (Hr 3) (Hg 3) (Hs 3), ai (Hb 13) cI 144 (HN 3), ai (Hb 14) cI 48 (HB 3), ai (Hb 15) cI 48 (HC 3)] [o_X a , o_S a S_columns S_rows S_grade S_stepsMade, ai (a 2) cI 144 S_numbers, ai (a 3) cI 48 S_bridges, ai (a 4) cI 48 S_caps', o_Y a Y_islands Y_ways, o_H a H_size', aq (a 32) cS 4 (hq Hb'), o_h (Hb' 0) (Hb' 1) (Hb' 2) (Hb' 3) (Hc' 0) (Hr' 0) (Hg' 0) (Hs' 0), ai (Hb' 1) cI 144 (HN' 0), ai (Hb' 2) cI 48 (HB' 0), ai (Hb' 3) cI 48 (HC' 0), o_h (Hb' 4) (Hb' 5) (Hb' 6) (Hb' 7) (Hc' 1) (Hr' 1) (Hg' 1) (Hs' 1), ai (Hb' 5) cI 144 (HN' 1), ai (Hb' 6) cI 48 (HB' 1), ai (Hb' 7) cI 48 (HC' 1), o_h (Hb' 8) (Hb' 9) (Hb' 10) (Hb' 11) (Hc' 2) (Hr' 2) (Hg' 2) (Hs' 2), ai (Hb' 9) cI 144 (HN' 2), ai (Hb' 10) cI 48 (HB' 2), ai (Hb' 11) cI 48 (HC' 2), o_h (Hb' 12) (Hb' 13) (Hb' 14) (Hb' 15) (Hc' 3) (Hr' 3) (Hg' 3) (Hs' 3), ai (Hb' 13) cI 144 (HN' 3), ai (Hb' 14) cI 48 (HB' 3), ai (Hb' 15) cI 48 (HC' 3)] (some (.int r0)) := by
  refine mG_of (cc := cX9_cap) (maxL := 4) (ret := (some .int)) (by decide) rfl rfl (Nat.le_of_ble_eq_true rfl) ?_
  intro p e s m args below meth c A hx hb hr hml hlk hnm hts hown hK hP hD hA hS ls hl
  have hl : lv_has ls 4 [(0, .ref (a 0)), (1, .int x1), (2, .int x2)] := hl
  have hiX1 : ∀ w ∈ wsX10, w ∈ wsX9_cap := fun w h => List.mem_cons_of_mem _ (List.mem_append_right _ h)
  have hiX2 : ∀ w ∈ wsX20, w ∈ wsX9_cap := fun w h => List.mem_cons_of_mem _ (List.mem_append_left _ (List.mem_append_right _ h))
  have hiX6 : ∀ w ∈ wsX60, w ∈ wsX9_cap := fun w h => List.mem_cons_of_mem _ (List.mem_append_left _ (List.mem_append_left _ (List.mem_append_right _ h)))
  have hiX9 : ∀ w ∈ wsX90, w ∈ wsX9_cap := fun w h => List.mem_cons_of_mem _ (List.mem_append_left _ (List.mem_append_left _ (List.mem_append_left _ (List.mem_append_right _ h))))
  unfold m_X9_cap at hm
  refine lv_aload_n hx hb dX9_cap_0 rfl (lv_at hl 0 rfl) ?_
  refine lv_iload_n hx hb dX9_cap_1 rfl (lv_at hl 1 rfl) ?_
  obtain ⟨v1, h_v1, hm⟩ := lt1_inv hm
  refine cVs ⟨hx, hb, hml, hown, hts⟩ (c_X9_isWay l D cI cJ cS cB a Y_islands Y_ways x1 v1 h_v1) (cwV 1 hts gX9_cap_X9_isWay rfl rfl rfl hd_X9_isWay ⟨(Nat.le_of_ble_eq_true rfl), (Nat.le_of_ble_eq_true rfl)⟩) hK hP hD hS hA [0, 5] rfl rfl rfl hl.1 (Nat.le_of_ble_eq_true rfl) ⟨Nat.zero_le _, Nat.zero_le _⟩ 0 rfl rfl rfl rfl dX9_cap_2 (fun H locs hP hD hS => ?_)
  refine lv_if_eq (tgt := 17) hx hb dX9_cap_5 (by decide) (fun c5 => ?_) (fun c5 => ?_)
  · have hm := ip c5 hm
    refine lv_iconst (v := (-1)) hx hb dX9_cap_17 (by decide) ?_
    cases hm
    exact rI () hx hb hr hlk hP hD hS dX9_cap_18
  · have hm := ine c5 hm
    refine lv_iload_n hx hb dX9_cap_8 rfl (lv_at hl 2 rfl) ?_
    refine lv_if_lt (tgt := 17) hx hb dX9_cap_9 (by decide) (fun c9 => ?_) (fun c9 => ?_)
    · have hm := ip c9 hm
      refine lv_iconst (v := (-1)) hx hb dX9_cap_17 (by decide) ?_
      cases hm
      exact rI () hx hb hr hlk hP hD hS dX9_cap_18
    · have hm := ine c9 hm
      refine lv_iload_n hx hb dX9_cap_12 rfl (lv_at hl 2 rfl) ?_
      refine lv_iconst (v := 2) hx hb dX9_cap_13 (by decide) ?_
      refine lv_icmp_le (tgt := 19) hx hb dX9_cap_14 (by decide) (fun c14 => ?_) (fun c14 => ?_)
      · have hm := ip c14 hm
        refine lv_aload_n hx hb dX9_cap_19 rfl (lv_at hl 0 rfl) ?_
        refine va_get (D := D) (ci := 9) (v := .ref (a 1)) (C := RX9) (T := TX9) (N := 9) hx hb hts hiX9 hown hK.1 hP 0 rfl rfl 0 (by decide) (hts (.fieldLink RX9 10 "IslandBridges" "state" "LIslandBridges$State;") (List.mem_of_getElem? (i := 1) rfl)) (fun _ h9 => h9) rfl dX9_cap_20 ?_
        refine va_get (D := D) (ci := 6) (v := .ref (a 3)) (C := RX6) (T := TX6) (N := 7) hx hb hts hiX6 hown hK.1 hP 1 rfl rfl 1 (by decide) (hts (.fieldLink RX9 117 "IslandBridges$State" "bridges" "[I") (List.mem_of_getElem? (i := 2) rfl)) (fun _ h9 => h9) rfl dX9_cap_23 ?_
        refine lv_iload_n hx hb dX9_cap_26 rfl (lv_at hl 1 rfl) ?_
        obtain ⟨v2, ev2, hm⟩ := lt1_inv hm
        refine cSs ⟨hx, hb, hml, hown, hts⟩ (c_X9_valueAt l D cI cJ cS cB (a 3) 48 (Nat.le_of_ble_eq_true rfl) S_bridges x1 v2 ev2) (va_cwS 2 hts gX9_cap_X9_valueAt rfl rfl rfl hd_X9_valueAt ⟨(Nat.le_of_ble_eq_true rfl), (Nat.le_of_ble_eq_true rfl)⟩) hK hP hD hS hA [3] rfl rfl rfl hl.1 (Nat.le_of_ble_eq_true rfl) ⟨Nat.zero_le _, Nat.zero_le _⟩ rfl dX9_cap_27 (fun H locs hP hD hS => ?_)
        refine lv_iload_n hx hb dX9_cap_30 rfl (lv_at hl 2 rfl) ?_
        refine lv_icmp_le (tgt := 37) hx hb dX9_cap_31 (by decide) (fun c31 => ?_) (fun c31 => ?_)
        · have hm := ip c31 hm
          refine lv_aload_n hx hb dX9_cap_37 rfl (lv_at hl 0 rfl) ?_
          refine va_get (D := D) (ci := 9) (v := .ref (a 31)) (C := RX9) (T := TX9) (N := 9) hx hb hts hiX9 hown hK.1 hP 0 rfl rfl 7 (by decide) (hts (.fieldLink RX9 69 "IslandBridges" "history" "LIslandBridges$History;") (List.mem_of_getElem? (i := 3) rfl)) (fun _ h9 => h9) rfl dX9_cap_38 ?_
          refine lv_aload_n hx hb dX9_cap_41 rfl (lv_at hl 0 rfl) ?_
          refine va_get (D := D) (ci := 9) (v := .ref (a 1)) (C := RX9) (T := TX9) (N := 9) hx hb hts hiX9 hown hK.1 hP 0 rfl rfl 0 (by decide) (hts (.fieldLink RX9 10 "IslandBridges" "state" "LIslandBridges$State;") (List.mem_of_getElem? (i := 1) rfl)) (fun _ h9 => h9) rfl dX9_cap_42 ?_
          obtain ⟨v3, v4, v5, v6, v7, v8, v9, v10, v11, h_v3, hm⟩ := bd9_inv hm
          refine cVx ⟨hx, hb, hml, hown, hts⟩ (c_X1_record l D cI cJ cS cB a S_columns S_rows S_grade S_stepsMade S_numbers S_bridges S_caps H_size Hb HN HB HC Hc Hr Hg Hs v3 v4 v5 v6 v7 v8 v9 v10 v11 h_v3) (cwV 1 hts gX9_cap_X1_record rfl rfl rfl hd_X1_record ⟨(Nat.le_of_ble_eq_true rfl), (Nat.le_of_ble_eq_true rfl)⟩) hK hP hD hS hA [1, 2, 3, 4, 6, 7, 8, 9, 10, 11, 12, 13, 14, 15, 16, 17, 18, 19, 20, 21, 22, 23] rfl rfl [o_X a , o_S a S_columns S_rows S_grade S_stepsMade, ai (a 2) cI 144 S_numbers, ai (a 3) cI 48 S_bridges, ai (a 4) cI 48 S_caps, o_Y a Y_islands Y_ways, o_H a v3, aq (a 32) cS 4 (hq v4), o_h (v4 0) (v4 1) (v4 2) (v4 3) (v8 0) (v9 0) (v10 0) (v11 0), ai (v4 1) cI 144 (v5 0), ai (v4 2) cI 48 (v6 0), ai (v4 3) cI 48 (v7 0), o_h (v4 4) (v4 5) (v4 6) (v4 7) (v8 1) (v9 1) (v10 1) (v11 1), ai (v4 5) cI 144 (v5 1), ai (v4 6) cI 48 (v6 1), ai (v4 7) cI 48 (v7 1), o_h (v4 8) (v4 9) (v4 10) (v4 11) (v8 2) (v9 2) (v10 2) (v11 2), ai (v4 9) cI 144 (v5 2), ai (v4 10) cI 48 (v6 2), ai (v4 11) cI 48 (v7 2), o_h (v4 12) (v4 13) (v4 14) (v4 15) (v8 3) (v9 3) (v10 3) (v11 3), ai (v4 13) cI 144 (v5 3), ai (v4 14) cI 48 (v6 3), ai (v4 15) cI 48 (v7 3)] [(false, 0), (true, 0), (true, 1), (true, 2), (true, 3), (false, 5), (true, 4), (true, 5), (true, 6), (true, 7), (true, 8), (true, 9), (true, 10), (true, 11), (true, 12), (true, 13), (true, 14), (true, 15), (true, 16), (true, 17), (true, 18), (true, 19), (true, 20), (true, 21)] rfl rfl rfl hl.1 (Nat.le_of_ble_eq_true rfl) ⟨Nat.zero_le _, Nat.zero_le _⟩ 6 rfl rfl rfl rfl dX9_cap_45 (fun H locs hP hD hS => ?_)
          refine lv_aload_n hx hb dX9_cap_48 rfl (lv_at hl 0 rfl) ?_
          refine va_get (D := D) (ci := 9) (v := .ref (a 1)) (C := RX9) (T := TX9) (N := 9) hx hb hts hiX9 hown hK.1 hP 0 rfl rfl 0 (by decide) (hts (.fieldLink RX9 10 "IslandBridges" "state" "LIslandBridges$State;") (List.mem_of_getElem? (i := 1) rfl)) (fun _ h9 => h9) rfl dX9_cap_49 ?_
          refine va_get (D := D) (ci := 6) (v := .ref (a 4)) (C := RX6) (T := TX6) (N := 7) hx hb hts hiX6 hown hK.1 hP 1 rfl rfl 2 (by decide) (hts (.fieldLink RX9 159 "IslandBridges$State" "caps" "[I") (List.mem_of_getElem? (i := 4) rfl)) (fun _ h9 => h9) rfl dX9_cap_52 ?_
          refine lv_iload_n hx hb dX9_cap_55 rfl (lv_at hl 1 rfl) ?_
          obtain ⟨v12, ev12, hm⟩ := lt1_inv hm
          refine cSs ⟨hx, hb, hml, hown, hts⟩ (c_X9_valueAt l D cI cJ cS cB (a 4) 48 (Nat.le_of_ble_eq_true rfl) S_caps x1 v12 ev12) (va_cwS 2 hts gX9_cap_X9_valueAt rfl rfl rfl hd_X9_valueAt ⟨(Nat.le_of_ble_eq_true rfl), (Nat.le_of_ble_eq_true rfl)⟩) hK hP hD hS hA [4] rfl rfl rfl hl.1 (Nat.le_of_ble_eq_true rfl) ⟨Nat.zero_le _, Nat.zero_le _⟩ rfl dX9_cap_56 (fun H locs hP hD hS => ?_)
          refine lv_istore_n (lv' := [(3, .int v12), (0, .ref (a 0)), (1, .int x1), (2, .int x2)]) hx hb dX9_cap_59 rfl hl (by decide) rfl (fun ls hl => ?_)
          refine lv_aload_n hx hb dX9_cap_60 rfl (lv_at hl 1 rfl) ?_
          refine va_get (D := D) (ci := 9) (v := .ref (a 1)) (C := RX9) (T := TX9) (N := 9) hx hb hts hiX9 hown hK.1 hP 0 rfl rfl 0 (by decide) (hts (.fieldLink RX9 10 "IslandBridges" "state" "LIslandBridges$State;") (List.mem_of_getElem? (i := 1) rfl)) (fun _ h9 => h9) rfl dX9_cap_61 ?_
          refine va_get (D := D) (ci := 6) (v := .ref (a 4)) (C := RX6) (T := TX6) (N := 7) hx hb hts hiX6 hown hK.1 hP 1 rfl rfl 2 (by decide) (hts (.fieldLink RX9 159 "IslandBridges$State" "caps" "[I") (List.mem_of_getElem? (i := 4) rfl)) (fun _ h9 => h9) rfl dX9_cap_64 ?_
          refine lv_iload_n hx hb dX9_cap_67 rfl (lv_at hl 2 rfl) ?_
          refine lv_iload_n hx hb dX9_cap_68 rfl (lv_at hl 3 rfl) ?_
          obtain ⟨v13, ev13, hm⟩ := lt1_inv hm
          refine cSx ⟨hx, hb, hml, hown, hts⟩ (c_X9_put l D cI cJ cS cB (a 4) 48 (Nat.le_of_ble_eq_true rfl) S_caps x1 x2 v13 ev13) (va_cwS 3 hts gX9_cap_X9_put rfl rfl rfl hd_X9_put ⟨(Nat.le_of_ble_eq_true rfl), (Nat.le_of_ble_eq_true rfl)⟩) hK hP hD hS hA [4] rfl rfl [o_X a , o_S a S_columns S_rows S_grade S_stepsMade, ai (a 2) cI 144 S_numbers, ai (a 3) cI 48 S_bridges, ai (a 4) cI 48 v13, o_Y a Y_islands Y_ways, o_H a v3, aq (a 32) cS 4 (hq v4), o_h (v4 0) (v4 1) (v4 2) (v4 3) (v8 0) (v9 0) (v10 0) (v11 0), ai (v4 1) cI 144 (v5 0), ai (v4 2) cI 48 (v6 0), ai (v4 3) cI 48 (v7 0), o_h (v4 4) (v4 5) (v4 6) (v4 7) (v8 1) (v9 1) (v10 1) (v11 1), ai (v4 5) cI 144 (v5 1), ai (v4 6) cI 48 (v6 1), ai (v4 7) cI 48 (v7 1), o_h (v4 8) (v4 9) (v4 10) (v4 11) (v8 2) (v9 2) (v10 2) (v11 2), ai (v4 9) cI 144 (v5 2), ai (v4 10) cI 48 (v6 2), ai (v4 11) cI 48 (v7 2), o_h (v4 12) (v4 13) (v4 14) (v4 15) (v8 3) (v9 3) (v10 3) (v11 3), ai (v4 13) cI 144 (v5 3), ai (v4 14) cI 48 (v6 3), ai (v4 15) cI 48 (v7 3)] [(false, 0), (false, 1), (false, 2), (false, 3), (true, 0), (false, 5), (false, 6), (false, 7), (false, 8), (false, 9), (false, 10), (false, 11), (false, 12), (false, 13), (false, 14), (false, 15), (false, 16), (false, 17), (false, 18), (false, 19), (false, 20), (false, 21), (false, 22), (false, 23)] rfl rfl rfl hl.1 (Nat.le_of_ble_eq_true rfl) ⟨Nat.zero_le _, Nat.zero_le _⟩ rfl dX9_cap_69 (fun H locs hP hD hS => ?_)
          refine lv_iload_n hx hb dX9_cap_72 rfl (lv_at hl 0 rfl) ?_
          cases hm
          exact rI () hx hb hr hlk hP hD hS dX9_cap_73
        · have hm := ine c31 hm
          refine lv_bipush (v := (-2)) hx hb dX9_cap_34 (by decide) ?_
          cases hm
          exact rI () hx hb hr hlk hP hD hS dX9_cap_36
      · have hm := ine c14 hm
        refine lv_iconst (v := (-1)) hx hb dX9_cap_17 (by decide) ?_
        cases hm
        exact rI () hx hb hr hlk hP hD hS dX9_cap_18
theorem hd_X9_clear : yX9_clear.cls = RX9 ∧ yX9_clear.cls ≠ "java/lang/invoke/MethodHandle" ∧ yX9_clear.cls ≠ "java/lang/invoke/VarHandle" ∧ (parseMethodDescriptor yX9_clear.desc).map (fun d => d.parameters.length) = some 0 := by decide +kernel
def m_X9_clear (N : Nat) (S_columns : Int32) (S_rows : Int32) (S_grade : Int32) (S_stepsMade : Int32) (S_numbers : Nat → Int32) (S_bridges : Nat → Int32) (S_caps : Nat → Int32) (Y_ways : Int32) (H_size : Int32) (Hb : Nat → Nat) (HN : Nat → Nat → Int32) (HB : Nat → Nat → Int32) (HC : Nat → Nat → Int32) (Hc : Nat → Int32) (Hr : Nat → Int32) (Hg : Nat → Int32) (Hs : Nat → Int32) : Option (Int32 × Int32 × Int32 × (Nat → Int32) × (Nat → Int32) × Int32 × (Nat → Nat) × (Nat → Nat → Int32) × (Nat → Nat → Int32) × (Nat → Nat → Int32) × (Nat → Int32) × (Nat → Int32) × (Nat → Int32) × (Nat → Int32)) :=
  bd1 (m_X9_allBridges N S_bridges Y_ways) (fun v1 => bd9 (m_X1_record S_columns S_rows S_grade S_stepsMade S_numbers S_bridges S_caps H_size Hb HN HB HC Hc Hr Hg Hs) (fun v2 v3 v4 v5 v6 v7 v8 v9 v10 => bd4 (m_X6_takeAllBridges N S_bridges S_caps) (fun v11 v12 v13 v14 => some ((v1, v11, v12, v13, v14, v2, v3, v4, v5, v6, v7, v8, v9, v10)))))
set_option maxHeartbeats 4000000 in
set_option maxRecDepth 100000 in
theorem c_X9_clear (l : Launch) (D : va_G) (cI cJ cS cB : ClassId) (a : Nat → Nat) (S_columns : Int32) (S_rows : Int32) (S_grade : Int32) (S_stepsMade : Int32) (S_numbers : Nat → Int32) (S_bridges : Nat → Int32) (S_caps : Nat → Int32) (Y_islands : Int32) (Y_ways : Int32) (H_size : Int32) (Hb : Nat → Nat) (HN : Nat → Nat → Int32) (HB : Nat → Nat → Int32) (HC : Nat → Nat → Int32) (Hc : Nat → Int32) (Hr : Nat → Int32) (Hg : Nat → Int32) (Hs : Nat → Int32)  (N : Nat) (r0 : Int32) (S_grade' : Int32) (S_stepsMade' : Int32) (S_bridges' : Nat → Int32) (S_caps' : Nat → Int32) (H_size' : Int32) (Hb' : Nat → Nat) (HN' : Nat → Nat → Int32) (HB' : Nat → Nat → Int32) (HC' : Nat → Nat → Int32) (Hc' : Nat → Int32) (Hr' : Nat → Int32) (Hg' : Nat → Int32) (Hs' : Nat → Int32) (hm : m_X9_clear N S_columns S_rows S_grade S_stepsMade S_numbers S_bridges S_caps Y_ways H_size Hb HN HB HC Hc Hr Hg Hs = some (r0, S_grade', S_stepsMade', S_bridges', S_caps', H_size', Hb', HN', HB', HC', Hc', Hr', Hg', Hs')) :
    mU l D (TYs cI cJ cS cB) yX9_clear wsX9_clear { frames := 3, cells := 0, slots := 0, locals := 123 } [.ref (a 0)] [o_X a , o_S a S_columns S_rows S_grade S_stepsMade, ai (a 2) cI 144 S_numbers, ai (a 3) cI 48 S_bridges, ai (a 4) cI 48 S_caps, o_Y a Y_islands Y_ways, o_H a H_size, aq (a 32) cS 4 (hq Hb), o_h (Hb 0) (Hb 1) (Hb 2) (Hb 3) (Hc 0) (Hr 0) (Hg 0) (Hs 0), ai (Hb 1) cI 144 (HN 0), ai (Hb 2) cI 48 (HB 0), ai (Hb 3) cI 48 (HC 0), o_h (Hb 4) (Hb 5) (Hb 6) (Hb 7) (Hc 1) (Hr 1) (Hg 1) (Hs 1), ai (Hb 5) cI 144 (HN 1), ai (Hb 6) cI 48 (HB 1), ai (Hb 7) cI 48 (HC 1), o_h (Hb 8) (Hb 9) (Hb 10) (Hb 11) (Hc 2) (Hr 2) (Hg 2) (Hs 2), ai (Hb 9) cI 144 (HN 2), ai (Hb 10) cI 48 (HB 2), ai (Hb 11) cI 48 (HC 2), o_h (Hb 12) (Hb 13) (Hb 14) (Hb 15) (Hc 3) (Hr 3) (Hg 3) (Hs 3), ai (Hb 13) cI 144 (HN 3), ai (Hb 14) cI 48 (HB 3), ai (Hb 15) cI 48 (HC 3)] [o_X a , o_S a S_columns S_rows S_grade' S_stepsMade', ai (a 2) cI 144 S_numbers, ai (a 3) cI 48 S_bridges', ai (a 4) cI 48 S_caps', o_Y a Y_islands Y_ways, o_H a H_size', aq (a 32) cS 4 (hq Hb'), o_h (Hb' 0) (Hb' 1) (Hb' 2) (Hb' 3) (Hc' 0) (Hr' 0) (Hg' 0) (Hs' 0), ai (Hb' 1) cI 144 (HN' 0), ai (Hb' 2) cI 48 (HB' 0), ai (Hb' 3) cI 48 (HC' 0), o_h (Hb' 4) (Hb' 5) (Hb' 6) (Hb' 7) (Hc' 1) (Hr' 1) (Hg' 1) (Hs' 1), ai (Hb' 5) cI 144 (HN' 1), ai (Hb' 6) cI 48 (HB' 1), ai (Hb' 7) cI 48 (HC' 1), o_h (Hb' 8) (Hb' 9) (Hb' 10) (Hb' 11) (Hc' 2) (Hr' 2) (Hg' 2) (Hs' 2), ai (Hb' 9) cI 144 (HN' 2), ai (Hb' 10) cI 48 (HB' 2), ai (Hb' 11) cI 48 (HC' 2), o_h (Hb' 12) (Hb' 13) (Hb' 14) (Hb' 15) (Hc' 3) (Hr' 3) (Hg' 3) (Hs' 3), ai (Hb' 13) cI 144 (HN' 3), ai (Hb' 14) cI 48 (HB' 3), ai (Hb' 15) cI 48 (HC' 3)] (some (.int r0)) := by
  refine mG_of (cc := cX9_clear) (maxL := 2) (ret := (some .int)) (by decide) rfl rfl (Nat.le_of_ble_eq_true rfl) ?_
  intro p e s m args below meth c A hx hb hr hml hlk hnm hts hown hK hP hD hA hS ls hl
  have hl : lv_has ls 2 [(0, .ref (a 0))] := hl
  have hiX1 : ∀ w ∈ wsX10, w ∈ wsX9_clear := fun w h => List.mem_cons_of_mem _ (List.mem_append_right _ h)
  have hiX2 : ∀ w ∈ wsX20, w ∈ wsX9_clear := fun w h => List.mem_cons_of_mem _ (List.mem_append_left _ (List.mem_append_left _ (List.mem_append_right _ h)))
  have hiX6 : ∀ w ∈ wsX60, w ∈ wsX9_clear := fun w h => List.mem_cons_of_mem _ (List.mem_append_left _ (List.mem_append_right _ h))
  have hiX9 : ∀ w ∈ wsX90, w ∈ wsX9_clear := fun w h => List.mem_cons_of_mem _ (List.mem_append_left _ (List.mem_append_left _ (List.mem_append_left _ (List.mem_append_right _ h))))
  unfold m_X9_clear at hm
  refine lv_aload_n hx hb dX9_clear_0 rfl (lv_at hl 0 rfl) ?_
  obtain ⟨v1, h_v1, hm⟩ := bd1_inv hm
  refine cVs ⟨hx, hb, hml, hown, hts⟩ (c_X9_allBridges l D cI cJ cS cB a S_columns S_rows S_grade S_stepsMade S_bridges Y_islands Y_ways N v1 h_v1) (cwV 0 hts gX9_clear_X9_allBridges rfl rfl rfl hd_X9_allBridges ⟨(Nat.le_of_ble_eq_true rfl), (Nat.le_of_ble_eq_true rfl)⟩) hK hP hD hS hA [0, 1, 3, 5] rfl rfl rfl hl.1 (Nat.le_of_ble_eq_true rfl) ⟨Nat.zero_le _, Nat.zero_le _⟩ 0 rfl rfl rfl rfl dX9_clear_1 (fun H locs hP hD hS => ?_)
  refine lv_istore_n (lv' := [(1, .int v1), (0, .ref (a 0))]) hx hb dX9_clear_4 rfl hl (by decide) rfl (fun ls hl => ?_)
  refine lv_aload_n hx hb dX9_clear_5 rfl (lv_at hl 1 rfl) ?_
  refine va_get (D := D) (ci := 9) (v := .ref (a 31)) (C := RX9) (T := TX9) (N := 9) hx hb hts hiX9 hown hK.1 hP 0 rfl rfl 7 (by decide) (hts (.fieldLink RX9 69 "IslandBridges" "history" "LIslandBridges$History;") (List.mem_of_getElem? (i := 1) rfl)) (fun _ h9 => h9) rfl dX9_clear_6 ?_
  refine lv_aload_n hx hb dX9_clear_9 rfl (lv_at hl 1 rfl) ?_
  refine va_get (D := D) (ci := 9) (v := .ref (a 1)) (C := RX9) (T := TX9) (N := 9) hx hb hts hiX9 hown hK.1 hP 0 rfl rfl 0 (by decide) (hts (.fieldLink RX9 10 "IslandBridges" "state" "LIslandBridges$State;") (List.mem_of_getElem? (i := 2) rfl)) (fun _ h9 => h9) rfl dX9_clear_10 ?_
  obtain ⟨v2, v3, v4, v5, v6, v7, v8, v9, v10, h_v2, hm⟩ := bd9_inv hm
  refine cVx ⟨hx, hb, hml, hown, hts⟩ (c_X1_record l D cI cJ cS cB a S_columns S_rows S_grade S_stepsMade S_numbers S_bridges S_caps H_size Hb HN HB HC Hc Hr Hg Hs v2 v3 v4 v5 v6 v7 v8 v9 v10 h_v2) (cwV 1 hts gX9_clear_X1_record rfl rfl rfl hd_X1_record ⟨(Nat.le_of_ble_eq_true rfl), (Nat.le_of_ble_eq_true rfl)⟩) hK hP hD hS hA [1, 2, 3, 4, 6, 7, 8, 9, 10, 11, 12, 13, 14, 15, 16, 17, 18, 19, 20, 21, 22, 23] rfl rfl [o_X a , o_S a S_columns S_rows S_grade S_stepsMade, ai (a 2) cI 144 S_numbers, ai (a 3) cI 48 S_bridges, ai (a 4) cI 48 S_caps, o_Y a Y_islands Y_ways, o_H a v2, aq (a 32) cS 4 (hq v3), o_h (v3 0) (v3 1) (v3 2) (v3 3) (v7 0) (v8 0) (v9 0) (v10 0), ai (v3 1) cI 144 (v4 0), ai (v3 2) cI 48 (v5 0), ai (v3 3) cI 48 (v6 0), o_h (v3 4) (v3 5) (v3 6) (v3 7) (v7 1) (v8 1) (v9 1) (v10 1), ai (v3 5) cI 144 (v4 1), ai (v3 6) cI 48 (v5 1), ai (v3 7) cI 48 (v6 1), o_h (v3 8) (v3 9) (v3 10) (v3 11) (v7 2) (v8 2) (v9 2) (v10 2), ai (v3 9) cI 144 (v4 2), ai (v3 10) cI 48 (v5 2), ai (v3 11) cI 48 (v6 2), o_h (v3 12) (v3 13) (v3 14) (v3 15) (v7 3) (v8 3) (v9 3) (v10 3), ai (v3 13) cI 144 (v4 3), ai (v3 14) cI 48 (v5 3), ai (v3 15) cI 48 (v6 3)] [(false, 0), (true, 0), (true, 1), (true, 2), (true, 3), (false, 5), (true, 4), (true, 5), (true, 6), (true, 7), (true, 8), (true, 9), (true, 10), (true, 11), (true, 12), (true, 13), (true, 14), (true, 15), (true, 16), (true, 17), (true, 18), (true, 19), (true, 20), (true, 21)] rfl rfl rfl hl.1 (Nat.le_of_ble_eq_true rfl) ⟨Nat.zero_le _, Nat.zero_le _⟩ 6 rfl rfl rfl rfl dX9_clear_13 (fun H locs hP hD hS => ?_)
  refine lv_aload_n hx hb dX9_clear_16 rfl (lv_at hl 1 rfl) ?_
  refine va_get (D := D) (ci := 9) (v := .ref (a 1)) (C := RX9) (T := TX9) (N := 9) hx hb hts hiX9 hown hK.1 hP 0 rfl rfl 0 (by decide) (hts (.fieldLink RX9 10 "IslandBridges" "state" "LIslandBridges$State;") (List.mem_of_getElem? (i := 2) rfl)) (fun _ h9 => h9) rfl dX9_clear_17 ?_
  obtain ⟨v11, v12, v13, v14, h_v11, hm⟩ := bd4_inv hm
  refine cVx ⟨hx, hb, hml, hown, hts⟩ (c_X6_takeAllBridges l D cI cJ cS cB a S_columns S_rows S_grade S_stepsMade S_bridges S_caps N v11 v12 v13 v14 h_v11) (cwV 0 hts gX9_clear_X6_takeAllBridges rfl rfl rfl hd_X6_takeAllBridges ⟨(Nat.le_of_ble_eq_true rfl), (Nat.le_of_ble_eq_true rfl)⟩) hK hP hD hS hA [1, 3, 4] rfl rfl [o_X a , o_S a S_columns S_rows v11 v12, ai (a 2) cI 144 S_numbers, ai (a 3) cI 48 v13, ai (a 4) cI 48 v14, o_Y a Y_islands Y_ways, o_H a v2, aq (a 32) cS 4 (hq v3), o_h (v3 0) (v3 1) (v3 2) (v3 3) (v7 0) (v8 0) (v9 0) (v10 0), ai (v3 1) cI 144 (v4 0), ai (v3 2) cI 48 (v5 0), ai (v3 3) cI 48 (v6 0), o_h (v3 4) (v3 5) (v3 6) (v3 7) (v7 1) (v8 1) (v9 1) (v10 1), ai (v3 5) cI 144 (v4 1), ai (v3 6) cI 48 (v5 1), ai (v3 7) cI 48 (v6 1), o_h (v3 8) (v3 9) (v3 10) (v3 11) (v7 2) (v8 2) (v9 2) (v10 2), ai (v3 9) cI 144 (v4 2), ai (v3 10) cI 48 (v5 2), ai (v3 11) cI 48 (v6 2), o_h (v3 12) (v3 13) (v3 14) (v3 15) (v7 3) (v8 3) (v9 3) (v10 3), ai (v3 13) cI 144 (v4 3), ai (v3 14) cI 48 (v5 3), ai (v3 15) cI 48 (v6 3)] [(false, 0), (true, 0), (false, 2), (true, 1), (true, 2), (false, 5), (false, 6), (false, 7), (false, 8), (false, 9), (false, 10), (false, 11), (false, 12), (false, 13), (false, 14), (false, 15), (false, 16), (false, 17), (false, 18), (false, 19), (false, 20), (false, 21), (false, 22), (false, 23)] rfl rfl rfl hl.1 (Nat.le_of_ble_eq_true rfl) ⟨Nat.zero_le _, Nat.zero_le _⟩ 1 rfl rfl rfl rfl dX9_clear_20 (fun H locs hP hD hS => ?_)
  refine lv_iload_n hx hb dX9_clear_23 rfl (lv_at hl 0 rfl) ?_
  cases hm
  exact rI () hx hb hr hlk hP hD hS dX9_clear_24
theorem hd_X9_step : yX9_step.cls = RX9 ∧ yX9_step.cls ≠ "java/lang/invoke/MethodHandle" ∧ yX9_step.cls ≠ "java/lang/invoke/VarHandle" ∧ (parseMethodDescriptor yX9_step.desc).map (fun d => d.parameters.length) = some 0 := by decide +kernel
def m_X9_step (N : Nat) (S_columns : Int32) (S_rows : Int32) (S_grade : Int32) (S_stepsMade : Int32) (S_numbers : Nat → Int32) (S_bridges : Nat → Int32) (S_caps : Nat → Int32) (Y_islands : Int32) (Y_ways : Int32) (Y_cellOf : Nat → Int32) (Y_firstOf : Nat → Int32) (Y_secondOf : Nat → Int32) (Y_crossings : Nat → Int64) (U_numbers : Nat → Int32) (U_bridges : Nat → Int32) (U_caps : Nat → Int32) (U_lacks : Nat → Int32) (G_leaders : Nat → Int32) (R_built : Int64) (H_size : Int32) (Hb : Nat → Nat) (HN : Nat → Nat → Int32) (HB : Nat → Nat → Int32) (HC : Nat → Nat → Int32) (Hc : Nat → Int32) (Hr : Nat → Int32) (Hg : Nat → Int32) (Hs : Nat → Int32) : Option (Int32 × Int32 × Int32 × (Nat → Int32) × (Nat → Int32) × (Nat → Int32) × (Nat → Int32) × (Nat → Int32) × (Nat → Int32) × (Nat → Int32) × Int64 × Int32 × (Nat → Nat) × (Nat → Nat → Int32) × (Nat → Nat → Int32) × (Nat → Nat → Int32) × (Nat → Int32) × (Nat → Int32) × (Nat → Int32) × (Nat → Int32)) :=
  bd7 (m_X4_find N S_numbers S_bridges S_caps Y_islands Y_ways Y_cellOf Y_firstOf Y_secondOf Y_crossings U_numbers U_bridges U_caps U_lacks G_leaders R_built) (fun v1 v2 v3 v4 v5 v6 v7 => if 0 ≤ v1 then (bd9 (m_X1_record S_columns S_rows S_grade S_stepsMade S_numbers S_bridges S_caps H_size Hb HN HB HC Hc Hr Hg Hs) (fun v8 v9 v10 v11 v12 v13 v14 v15 v16 => lt4 (m_X4_carryOut S_grade S_stepsMade S_bridges S_caps Y_firstOf Y_secondOf v2 v4 v5 v1) (fun v17 v18 v19 v20 => some ((v1, v17, v18, v19, v20, v2, v3, v4, v5, v6, v7, v8, v9, v10, v11, v12, v13, v14, v15, v16))))) else (some ((v1, S_grade, S_stepsMade, S_bridges, S_caps, v2, v3, v4, v5, v6, v7, H_size, Hb, HN, HB, HC, Hc, Hr, Hg, Hs))))
set_option maxHeartbeats 4000000 in
set_option maxRecDepth 100000 in
theorem c_X9_step (l : Launch) (D : va_G) (cI cJ cS cB : ClassId) (a : Nat → Nat) (S_columns : Int32) (S_rows : Int32) (S_grade : Int32) (S_stepsMade : Int32) (S_numbers : Nat → Int32) (S_bridges : Nat → Int32) (S_caps : Nat → Int32) (Y_islands : Int32) (Y_ways : Int32) (Y_cellOf : Nat → Int32) (Y_firstOf : Nat → Int32) (Y_secondOf : Nat → Int32) (Y_crossings : Nat → Int64) (U_numbers : Nat → Int32) (U_bridges : Nat → Int32) (U_caps : Nat → Int32) (U_lacks : Nat → Int32) (G_leaders : Nat → Int32) (R_built : Int64) (H_size : Int32) (Hb : Nat → Nat) (HN : Nat → Nat → Int32) (HB : Nat → Nat → Int32) (HC : Nat → Nat → Int32) (Hc : Nat → Int32) (Hr : Nat → Int32) (Hg : Nat → Int32) (Hs : Nat → Int32)  (N : Nat) (r0 : Int32) (S_grade' : Int32) (S_stepsMade' : Int32) (S_bridges' : Nat → Int32) (S_caps' : Nat → Int32) (U_numbers' : Nat → Int32) (U_bridges' : Nat → Int32) (U_caps' : Nat → Int32) (U_lacks' : Nat → Int32) (G_leaders' : Nat → Int32) (R_built' : Int64) (H_size' : Int32) (Hb' : Nat → Nat) (HN' : Nat → Nat → Int32) (HB' : Nat → Nat → Int32) (HC' : Nat → Nat → Int32) (Hc' : Nat → Int32) (Hr' : Nat → Int32) (Hg' : Nat → Int32) (Hs' : Nat → Int32) (hm : m_X9_step N S_columns S_rows S_grade S_stepsMade S_numbers S_bridges S_caps Y_islands Y_ways Y_cellOf Y_firstOf Y_secondOf Y_crossings U_numbers U_bridges U_caps U_lacks G_leaders R_built H_size Hb HN HB HC Hc Hr Hg Hs = some (r0, S_grade', S_stepsMade', S_bridges', S_caps', U_numbers', U_bridges', U_caps', U_lacks', G_leaders', R_built', H_size', Hb', HN', HB', HC', Hc', Hr', Hg', Hs')) :
    mU l D (TYs cI cJ cS cB) yX9_step wsX9_step { frames := 5, cells := 0, slots := 0, locals := 123 } [.ref (a 0)] [o_X a , o_S a S_columns S_rows S_grade S_stepsMade, ai (a 2) cI 144 S_numbers, ai (a 3) cI 48 S_bridges, ai (a 4) cI 48 S_caps, o_Y a Y_islands Y_ways, ai (a 6) cI 24 Y_cellOf, ai (a 8) cI 48 Y_firstOf, ai (a 9) cI 48 Y_secondOf, aj (a 14) cJ 48 Y_crossings, o_U a , ai (a 16) cI 24 U_numbers, ai (a 17) cI 24 U_bridges, ai (a 18) cI 24 U_caps, ai (a 19) cI 24 U_lacks, o_G a , ai (a 21) cI 24 G_leaders, o_R a R_built, o_H a H_size, aq (a 32) cS 4 (hq Hb), o_h (Hb 0) (Hb 1) (Hb 2) (Hb 3) (Hc 0) (Hr 0) (Hg 0) (Hs 0), ai (Hb 1) cI 144 (HN 0), ai (Hb 2) cI 48 (HB 0), ai (Hb 3) cI 48 (HC 0), o_h (Hb 4) (Hb 5) (Hb 6) (Hb 7) (Hc 1) (Hr 1) (Hg 1) (Hs 1), ai (Hb 5) cI 144 (HN 1), ai (Hb 6) cI 48 (HB 1), ai (Hb 7) cI 48 (HC 1), o_h (Hb 8) (Hb 9) (Hb 10) (Hb 11) (Hc 2) (Hr 2) (Hg 2) (Hs 2), ai (Hb 9) cI 144 (HN 2), ai (Hb 10) cI 48 (HB 2), ai (Hb 11) cI 48 (HC 2), o_h (Hb 12) (Hb 13) (Hb 14) (Hb 15) (Hc 3) (Hr 3) (Hg 3) (Hs 3), ai (Hb 13) cI 144 (HN 3), ai (Hb 14) cI 48 (HB 3), ai (Hb 15) cI 48 (HC 3)] [o_X a , o_S a S_columns S_rows S_grade' S_stepsMade', ai (a 2) cI 144 S_numbers, ai (a 3) cI 48 S_bridges', ai (a 4) cI 48 S_caps', o_Y a Y_islands Y_ways, ai (a 6) cI 24 Y_cellOf, ai (a 8) cI 48 Y_firstOf, ai (a 9) cI 48 Y_secondOf, aj (a 14) cJ 48 Y_crossings, o_U a , ai (a 16) cI 24 U_numbers', ai (a 17) cI 24 U_bridges', ai (a 18) cI 24 U_caps', ai (a 19) cI 24 U_lacks', o_G a , ai (a 21) cI 24 G_leaders', o_R a R_built', o_H a H_size', aq (a 32) cS 4 (hq Hb'), o_h (Hb' 0) (Hb' 1) (Hb' 2) (Hb' 3) (Hc' 0) (Hr' 0) (Hg' 0) (Hs' 0), ai (Hb' 1) cI 144 (HN' 0), ai (Hb' 2) cI 48 (HB' 0), ai (Hb' 3) cI 48 (HC' 0), o_h (Hb' 4) (Hb' 5) (Hb' 6) (Hb' 7) (Hc' 1) (Hr' 1) (Hg' 1) (Hs' 1), ai (Hb' 5) cI 144 (HN' 1), ai (Hb' 6) cI 48 (HB' 1), ai (Hb' 7) cI 48 (HC' 1), o_h (Hb' 8) (Hb' 9) (Hb' 10) (Hb' 11) (Hc' 2) (Hr' 2) (Hg' 2) (Hs' 2), ai (Hb' 9) cI 144 (HN' 2), ai (Hb' 10) cI 48 (HB' 2), ai (Hb' 11) cI 48 (HC' 2), o_h (Hb' 12) (Hb' 13) (Hb' 14) (Hb' 15) (Hc' 3) (Hr' 3) (Hg' 3) (Hs' 3), ai (Hb' 13) cI 144 (HN' 3), ai (Hb' 14) cI 48 (HB' 3), ai (Hb' 15) cI 48 (HC' 3)] (some (.int r0)) := by
  refine mG_of (cc := cX9_step) (maxL := 2) (ret := (some .int)) (by decide) rfl rfl (Nat.le_of_ble_eq_true rfl) ?_
  intro p e s m args below meth c A hx hb hr hml hlk hnm hts hown hK hP hD hA hS ls hl
  have hl : lv_has ls 2 [(0, .ref (a 0))] := hl
  have hiX0 : ∀ w ∈ wsX00, w ∈ wsX9_step := fun w h => List.mem_cons_of_mem _ (List.mem_append_left _ (List.mem_append_right _ h))
  have hiX1 : ∀ w ∈ wsX10, w ∈ wsX9_step := fun w h => List.mem_cons_of_mem _ (List.mem_append_right _ h)
  have hiX2 : ∀ w ∈ wsX20, w ∈ wsX9_step := fun w h => List.mem_cons_of_mem _ (List.mem_append_left _ (List.mem_append_left _ (List.mem_append_left _ (List.mem_append_right _ h))))
  have hiX4 : ∀ w ∈ wsX40, w ∈ wsX9_step := fun w h => List.mem_cons_of_mem _ (List.mem_append_left _ (List.mem_append_left _ (List.mem_append_left _ (List.mem_append_left _ (List.mem_append_left _ (List.mem_append_right _ h))))))
  have hiX6 : ∀ w ∈ wsX60, w ∈ wsX9_step := fun w h => List.mem_cons_of_mem _ (List.mem_append_left _ (List.mem_append_left _ (List.mem_append_left _ (List.mem_append_left _ (List.mem_append_right _ h)))))
  have hiX7 : ∀ w ∈ wsX70, w ∈ wsX9_step := fun w h => List.mem_cons_of_mem _ (List.mem_append_left _ (List.mem_append_left _ (List.mem_append_right _ h)))
  have hiX9 : ∀ w ∈ wsX90, w ∈ wsX9_step := fun w h => List.mem_cons_of_mem _ (List.mem_append_left _ (List.mem_append_left _ (List.mem_append_left _ (List.mem_append_left _ (List.mem_append_left _ (List.mem_append_left _ (List.mem_append_right _ h)))))))
  unfold m_X9_step at hm
  refine lv_aload_n hx hb dX9_step_0 rfl (lv_at hl 0 rfl) ?_
  refine va_get (D := D) (ci := 9) (v := .ref (a 22)) (C := RX9) (T := TX9) (N := 9) hx hb hts hiX9 hown hK.1 hP 0 rfl rfl 4 (by decide) (hts (.fieldLink RX9 46 "IslandBridges" "reasoner" "LIslandBridges$Reasoner;") (List.mem_of_getElem? (i := 1) rfl)) (fun _ h9 => h9) rfl dX9_step_1 ?_
  obtain ⟨v1, v2, v3, v4, v5, v6, v7, h_v1, hm⟩ := bd7_inv hm
  refine cVx ⟨hx, hb, hml, hown, hts⟩ (c_X4_find l D cI cJ cS cB a S_columns S_rows S_grade S_stepsMade S_numbers S_bridges S_caps Y_islands Y_ways Y_cellOf Y_firstOf Y_secondOf Y_crossings U_numbers U_bridges U_caps U_lacks G_leaders R_built N v1 v2 v3 v4 v5 v6 v7 h_v1) (cwV 0 hts gX9_step_X4_find rfl rfl rfl hd_X4_find ⟨(Nat.le_of_ble_eq_true rfl), (Nat.le_of_ble_eq_true rfl)⟩) hK hP hD hS hA [1, 2, 3, 4, 5, 6, 7, 8, 9, 10, 11, 12, 13, 14, 15, 16, 17] rfl rfl [o_X a , o_S a S_columns S_rows S_grade S_stepsMade, ai (a 2) cI 144 S_numbers, ai (a 3) cI 48 S_bridges, ai (a 4) cI 48 S_caps, o_Y a Y_islands Y_ways, ai (a 6) cI 24 Y_cellOf, ai (a 8) cI 48 Y_firstOf, ai (a 9) cI 48 Y_secondOf, aj (a 14) cJ 48 Y_crossings, o_U a , ai (a 16) cI 24 v2, ai (a 17) cI 24 v3, ai (a 18) cI 24 v4, ai (a 19) cI 24 v5, o_G a , ai (a 21) cI 24 v6, o_R a v7, o_H a H_size, aq (a 32) cS 4 (hq Hb), o_h (Hb 0) (Hb 1) (Hb 2) (Hb 3) (Hc 0) (Hr 0) (Hg 0) (Hs 0), ai (Hb 1) cI 144 (HN 0), ai (Hb 2) cI 48 (HB 0), ai (Hb 3) cI 48 (HC 0), o_h (Hb 4) (Hb 5) (Hb 6) (Hb 7) (Hc 1) (Hr 1) (Hg 1) (Hs 1), ai (Hb 5) cI 144 (HN 1), ai (Hb 6) cI 48 (HB 1), ai (Hb 7) cI 48 (HC 1), o_h (Hb 8) (Hb 9) (Hb 10) (Hb 11) (Hc 2) (Hr 2) (Hg 2) (Hs 2), ai (Hb 9) cI 144 (HN 2), ai (Hb 10) cI 48 (HB 2), ai (Hb 11) cI 48 (HC 2), o_h (Hb 12) (Hb 13) (Hb 14) (Hb 15) (Hc 3) (Hr 3) (Hg 3) (Hs 3), ai (Hb 13) cI 144 (HN 3), ai (Hb 14) cI 48 (HB 3), ai (Hb 15) cI 48 (HC 3)] [(false, 0), (true, 0), (true, 1), (true, 2), (true, 3), (true, 4), (true, 5), (true, 6), (true, 7), (true, 8), (true, 9), (true, 10), (true, 11), (true, 12), (true, 13), (true, 14), (true, 15), (true, 16), (false, 18), (false, 19), (false, 20), (false, 21), (false, 22), (false, 23), (false, 24), (false, 25), (false, 26), (false, 27), (false, 28), (false, 29), (false, 30), (false, 31), (false, 32), (false, 33), (false, 34), (false, 35)] rfl rfl rfl hl.1 (Nat.le_of_ble_eq_true rfl) ⟨Nat.zero_le _, Nat.zero_le _⟩ 17 rfl rfl rfl rfl dX9_step_4 (fun H locs hP hD hS => ?_)
  refine lv_istore_n (lv' := [(1, .int v1), (0, .ref (a 0))]) hx hb dX9_step_7 rfl hl (by decide) rfl (fun ls hl => ?_)
  refine lv_iload_n hx hb dX9_step_8 rfl (lv_at hl 0 rfl) ?_
  refine lv_if_ge (tgt := 14) hx hb dX9_step_9 (by decide) (fun c9 => ?_) (fun c9 => ?_)
  · have hm := ip c9 hm
    refine lv_aload_n hx hb dX9_step_14 rfl (lv_at hl 1 rfl) ?_
    refine va_get (D := D) (ci := 9) (v := .ref (a 31)) (C := RX9) (T := TX9) (N := 9) hx hb hts hiX9 hown hK.1 hP 0 rfl rfl 7 (by decide) (hts (.fieldLink RX9 69 "IslandBridges" "history" "LIslandBridges$History;") (List.mem_of_getElem? (i := 2) rfl)) (fun _ h9 => h9) rfl dX9_step_15 ?_
    refine lv_aload_n hx hb dX9_step_18 rfl (lv_at hl 1 rfl) ?_
    refine va_get (D := D) (ci := 9) (v := .ref (a 1)) (C := RX9) (T := TX9) (N := 9) hx hb hts hiX9 hown hK.1 hP 0 rfl rfl 0 (by decide) (hts (.fieldLink RX9 10 "IslandBridges" "state" "LIslandBridges$State;") (List.mem_of_getElem? (i := 3) rfl)) (fun _ h9 => h9) rfl dX9_step_19 ?_
    obtain ⟨v8, v9, v10, v11, v12, v13, v14, v15, v16, h_v8, hm⟩ := bd9_inv hm
    refine cVx ⟨hx, hb, hml, hown, hts⟩ (c_X1_record l D cI cJ cS cB a S_columns S_rows S_grade S_stepsMade S_numbers S_bridges S_caps H_size Hb HN HB HC Hc Hr Hg Hs v8 v9 v10 v11 v12 v13 v14 v15 v16 h_v8) (cwV 1 hts gX9_step_X1_record rfl rfl rfl hd_X1_record ⟨(Nat.le_of_ble_eq_true rfl), (Nat.le_of_ble_eq_true rfl)⟩) hK hP hD hS hA [1, 2, 3, 4, 18, 19, 20, 21, 22, 23, 24, 25, 26, 27, 28, 29, 30, 31, 32, 33, 34, 35] rfl rfl [o_X a , o_S a S_columns S_rows S_grade S_stepsMade, ai (a 2) cI 144 S_numbers, ai (a 3) cI 48 S_bridges, ai (a 4) cI 48 S_caps, o_Y a Y_islands Y_ways, ai (a 6) cI 24 Y_cellOf, ai (a 8) cI 48 Y_firstOf, ai (a 9) cI 48 Y_secondOf, aj (a 14) cJ 48 Y_crossings, o_U a , ai (a 16) cI 24 v2, ai (a 17) cI 24 v3, ai (a 18) cI 24 v4, ai (a 19) cI 24 v5, o_G a , ai (a 21) cI 24 v6, o_R a v7, o_H a v8, aq (a 32) cS 4 (hq v9), o_h (v9 0) (v9 1) (v9 2) (v9 3) (v13 0) (v14 0) (v15 0) (v16 0), ai (v9 1) cI 144 (v10 0), ai (v9 2) cI 48 (v11 0), ai (v9 3) cI 48 (v12 0), o_h (v9 4) (v9 5) (v9 6) (v9 7) (v13 1) (v14 1) (v15 1) (v16 1), ai (v9 5) cI 144 (v10 1), ai (v9 6) cI 48 (v11 1), ai (v9 7) cI 48 (v12 1), o_h (v9 8) (v9 9) (v9 10) (v9 11) (v13 2) (v14 2) (v15 2) (v16 2), ai (v9 9) cI 144 (v10 2), ai (v9 10) cI 48 (v11 2), ai (v9 11) cI 48 (v12 2), o_h (v9 12) (v9 13) (v9 14) (v9 15) (v13 3) (v14 3) (v15 3) (v16 3), ai (v9 13) cI 144 (v10 3), ai (v9 14) cI 48 (v11 3), ai (v9 15) cI 48 (v12 3)] [(false, 0), (true, 0), (true, 1), (true, 2), (true, 3), (false, 5), (false, 6), (false, 7), (false, 8), (false, 9), (false, 10), (false, 11), (false, 12), (false, 13), (false, 14), (false, 15), (false, 16), (false, 17), (true, 4), (true, 5), (true, 6), (true, 7), (true, 8), (true, 9), (true, 10), (true, 11), (true, 12), (true, 13), (true, 14), (true, 15), (true, 16), (true, 17), (true, 18), (true, 19), (true, 20), (true, 21)] rfl rfl rfl hl.1 (Nat.le_of_ble_eq_true rfl) ⟨Nat.zero_le _, Nat.zero_le _⟩ 18 rfl rfl rfl rfl dX9_step_22 (fun H locs hP hD hS => ?_)
    refine lv_aload_n hx hb dX9_step_25 rfl (lv_at hl 1 rfl) ?_
    refine va_get (D := D) (ci := 9) (v := .ref (a 22)) (C := RX9) (T := TX9) (N := 9) hx hb hts hiX9 hown hK.1 hP 0 rfl rfl 4 (by decide) (hts (.fieldLink RX9 46 "IslandBridges" "reasoner" "LIslandBridges$Reasoner;") (List.mem_of_getElem? (i := 1) rfl)) (fun _ h9 => h9) rfl dX9_step_26 ?_
    refine lv_iload_n hx hb dX9_step_29 rfl (lv_at hl 0 rfl) ?_
    obtain ⟨v17, v18, v19, v20, h_v17, hm⟩ := lt4_inv hm
    refine cVx ⟨hx, hb, hml, hown, hts⟩ (c_X4_carryOut l D cI cJ cS cB a S_columns S_rows S_grade S_stepsMade S_bridges S_caps Y_islands Y_ways Y_firstOf Y_secondOf v2 v4 v5 v7 v1 v17 v18 v19 v20 h_v17) (cwV 1 hts gX9_step_X4_carryOut rfl rfl rfl hd_X4_carryOut ⟨(Nat.le_of_ble_eq_true rfl), (Nat.le_of_ble_eq_true rfl)⟩) hK hP hD hS hA [1, 3, 4, 5, 7, 8, 10, 11, 13, 14, 17] rfl rfl [o_X a , o_S a S_columns S_rows v17 v18, ai (a 2) cI 144 S_numbers, ai (a 3) cI 48 v19, ai (a 4) cI 48 v20, o_Y a Y_islands Y_ways, ai (a 6) cI 24 Y_cellOf, ai (a 8) cI 48 Y_firstOf, ai (a 9) cI 48 Y_secondOf, aj (a 14) cJ 48 Y_crossings, o_U a , ai (a 16) cI 24 v2, ai (a 17) cI 24 v3, ai (a 18) cI 24 v4, ai (a 19) cI 24 v5, o_G a , ai (a 21) cI 24 v6, o_R a v7, o_H a v8, aq (a 32) cS 4 (hq v9), o_h (v9 0) (v9 1) (v9 2) (v9 3) (v13 0) (v14 0) (v15 0) (v16 0), ai (v9 1) cI 144 (v10 0), ai (v9 2) cI 48 (v11 0), ai (v9 3) cI 48 (v12 0), o_h (v9 4) (v9 5) (v9 6) (v9 7) (v13 1) (v14 1) (v15 1) (v16 1), ai (v9 5) cI 144 (v10 1), ai (v9 6) cI 48 (v11 1), ai (v9 7) cI 48 (v12 1), o_h (v9 8) (v9 9) (v9 10) (v9 11) (v13 2) (v14 2) (v15 2) (v16 2), ai (v9 9) cI 144 (v10 2), ai (v9 10) cI 48 (v11 2), ai (v9 11) cI 48 (v12 2), o_h (v9 12) (v9 13) (v9 14) (v9 15) (v13 3) (v14 3) (v15 3) (v16 3), ai (v9 13) cI 144 (v10 3), ai (v9 14) cI 48 (v11 3), ai (v9 15) cI 48 (v12 3)] [(false, 0), (true, 0), (false, 2), (true, 1), (true, 2), (true, 3), (false, 6), (true, 4), (true, 5), (false, 9), (true, 6), (true, 7), (false, 12), (true, 8), (true, 9), (false, 15), (false, 16), (true, 10), (false, 18), (false, 19), (false, 20), (false, 21), (false, 22), (false, 23), (false, 24), (false, 25), (false, 26), (false, 27), (false, 28), (false, 29), (false, 30), (false, 31), (false, 32), (false, 33), (false, 34), (false, 35)] rfl rfl rfl hl.1 (Nat.le_of_ble_eq_true rfl) ⟨Nat.zero_le _, Nat.zero_le _⟩ 17 rfl rfl rfl rfl dX9_step_30 (fun H locs hP hD hS => ?_)
    refine lv_iload_n hx hb dX9_step_33 rfl (lv_at hl 0 rfl) ?_
    cases hm
    exact rI () hx hb hr hlk hP hD hS dX9_step_34
  · have hm := ine c9 hm
    refine lv_iload_n hx hb dX9_step_12 rfl (lv_at hl 0 rfl) ?_
    cases hm
    exact rI () hx hb hr hlk hP hD hS dX9_step_13
theorem hd_X9_hint : yX9_hint.cls = RX9 ∧ yX9_hint.cls ≠ "java/lang/invoke/MethodHandle" ∧ yX9_hint.cls ≠ "java/lang/invoke/VarHandle" ∧ (parseMethodDescriptor yX9_hint.desc).map (fun d => d.parameters.length) = some 0 := by decide +kernel
def m_X9_hint (N : Nat) (S_numbers : Nat → Int32) (S_bridges : Nat → Int32) (S_caps : Nat → Int32) (Y_islands : Int32) (Y_ways : Int32) (Y_cellOf : Nat → Int32) (Y_firstOf : Nat → Int32) (Y_secondOf : Nat → Int32) (Y_crossings : Nat → Int64) (U_numbers : Nat → Int32) (U_bridges : Nat → Int32) (U_caps : Nat → Int32) (U_lacks : Nat → Int32) (G_leaders : Nat → Int32) (R_built : Int64) : Option (Int32 × (Nat → Int32) × (Nat → Int32) × (Nat → Int32) × (Nat → Int32) × (Nat → Int32) × Int64) :=
  bd7 (m_X4_find N S_numbers S_bridges S_caps Y_islands Y_ways Y_cellOf Y_firstOf Y_secondOf Y_crossings U_numbers U_bridges U_caps U_lacks G_leaders R_built) (fun v1 v2 v3 v4 v5 v6 v7 => some ((v1, v2, v3, v4, v5, v6, v7)))
set_option maxHeartbeats 4000000 in
set_option maxRecDepth 100000 in
theorem c_X9_hint (l : Launch) (D : va_G) (cI cJ cS cB : ClassId) (a : Nat → Nat) (S_columns : Int32) (S_rows : Int32) (S_grade : Int32) (S_stepsMade : Int32) (S_numbers : Nat → Int32) (S_bridges : Nat → Int32) (S_caps : Nat → Int32) (Y_islands : Int32) (Y_ways : Int32) (Y_cellOf : Nat → Int32) (Y_firstOf : Nat → Int32) (Y_secondOf : Nat → Int32) (Y_crossings : Nat → Int64) (U_numbers : Nat → Int32) (U_bridges : Nat → Int32) (U_caps : Nat → Int32) (U_lacks : Nat → Int32) (G_leaders : Nat → Int32) (R_built : Int64)  (N : Nat) (r0 : Int32) (U_numbers' : Nat → Int32) (U_bridges' : Nat → Int32) (U_caps' : Nat → Int32) (U_lacks' : Nat → Int32) (G_leaders' : Nat → Int32) (R_built' : Int64) (hm : m_X9_hint N S_numbers S_bridges S_caps Y_islands Y_ways Y_cellOf Y_firstOf Y_secondOf Y_crossings U_numbers U_bridges U_caps U_lacks G_leaders R_built = some (r0, U_numbers', U_bridges', U_caps', U_lacks', G_leaders', R_built')) :
    mU l D (TYs cI cJ cS cB) yX9_hint wsX9_hint { frames := 5, cells := 0, slots := 0, locals := 116 } [.ref (a 0)] [o_X a , o_S a S_columns S_rows S_grade S_stepsMade, ai (a 2) cI 144 S_numbers, ai (a 3) cI 48 S_bridges, ai (a 4) cI 48 S_caps, o_Y a Y_islands Y_ways, ai (a 6) cI 24 Y_cellOf, ai (a 8) cI 48 Y_firstOf, ai (a 9) cI 48 Y_secondOf, aj (a 14) cJ 48 Y_crossings, o_U a , ai (a 16) cI 24 U_numbers, ai (a 17) cI 24 U_bridges, ai (a 18) cI 24 U_caps, ai (a 19) cI 24 U_lacks, o_G a , ai (a 21) cI 24 G_leaders, o_R a R_built] [o_X a , o_S a S_columns S_rows S_grade S_stepsMade, ai (a 2) cI 144 S_numbers, ai (a 3) cI 48 S_bridges, ai (a 4) cI 48 S_caps, o_Y a Y_islands Y_ways, ai (a 6) cI 24 Y_cellOf, ai (a 8) cI 48 Y_firstOf, ai (a 9) cI 48 Y_secondOf, aj (a 14) cJ 48 Y_crossings, o_U a , ai (a 16) cI 24 U_numbers', ai (a 17) cI 24 U_bridges', ai (a 18) cI 24 U_caps', ai (a 19) cI 24 U_lacks', o_G a , ai (a 21) cI 24 G_leaders', o_R a R_built'] (some (.int r0)) := by
  refine mG_of (cc := cX9_hint) (maxL := 1) (ret := (some .int)) (by decide) rfl rfl (Nat.le_of_ble_eq_true rfl) ?_
  intro p e s m args below meth c A hx hb hr hml hlk hnm hts hown hK hP hD hA hS ls hl
  have hl : lv_has ls 1 [(0, .ref (a 0))] := hl
  have hiX0 : ∀ w ∈ wsX00, w ∈ wsX9_hint := fun w h => List.mem_cons_of_mem _ (List.mem_append_right _ h)
  have hiX2 : ∀ w ∈ wsX20, w ∈ wsX9_hint := fun w h => List.mem_cons_of_mem _ (List.mem_append_left _ (List.mem_append_left _ (List.mem_append_right _ h)))
  have hiX4 : ∀ w ∈ wsX40, w ∈ wsX9_hint := fun w h => List.mem_cons_of_mem _ (List.mem_append_left _ (List.mem_append_left _ (List.mem_append_left _ (List.mem_append_left _ (List.mem_append_right _ h)))))
  have hiX6 : ∀ w ∈ wsX60, w ∈ wsX9_hint := fun w h => List.mem_cons_of_mem _ (List.mem_append_left _ (List.mem_append_left _ (List.mem_append_left _ (List.mem_append_right _ h))))
  have hiX7 : ∀ w ∈ wsX70, w ∈ wsX9_hint := fun w h => List.mem_cons_of_mem _ (List.mem_append_left _ (List.mem_append_right _ h))
  have hiX9 : ∀ w ∈ wsX90, w ∈ wsX9_hint := fun w h => List.mem_cons_of_mem _ (List.mem_append_left _ (List.mem_append_left _ (List.mem_append_left _ (List.mem_append_left _ (List.mem_append_left _ (List.mem_append_right _ h))))))
  unfold m_X9_hint at hm
  refine lv_aload_n hx hb dX9_hint_0 rfl (lv_at hl 0 rfl) ?_
  refine va_get (D := D) (ci := 9) (v := .ref (a 22)) (C := RX9) (T := TX9) (N := 9) hx hb hts hiX9 hown hK.1 hP 0 rfl rfl 4 (by decide) (hts (.fieldLink RX9 46 "IslandBridges" "reasoner" "LIslandBridges$Reasoner;") (List.mem_of_getElem? (i := 1) rfl)) (fun _ h9 => h9) rfl dX9_hint_1 ?_
  obtain ⟨v1, v2, v3, v4, v5, v6, v7, h_v1, hm⟩ := bd7_inv hm
  refine cVx ⟨hx, hb, hml, hown, hts⟩ (c_X4_find l D cI cJ cS cB a S_columns S_rows S_grade S_stepsMade S_numbers S_bridges S_caps Y_islands Y_ways Y_cellOf Y_firstOf Y_secondOf Y_crossings U_numbers U_bridges U_caps U_lacks G_leaders R_built N v1 v2 v3 v4 v5 v6 v7 h_v1) (cwV 0 hts gX9_hint_X4_find rfl rfl rfl hd_X4_find ⟨(Nat.le_of_ble_eq_true rfl), (Nat.le_of_ble_eq_true rfl)⟩) hK hP hD hS hA [1, 2, 3, 4, 5, 6, 7, 8, 9, 10, 11, 12, 13, 14, 15, 16, 17] rfl rfl [o_X a , o_S a S_columns S_rows S_grade S_stepsMade, ai (a 2) cI 144 S_numbers, ai (a 3) cI 48 S_bridges, ai (a 4) cI 48 S_caps, o_Y a Y_islands Y_ways, ai (a 6) cI 24 Y_cellOf, ai (a 8) cI 48 Y_firstOf, ai (a 9) cI 48 Y_secondOf, aj (a 14) cJ 48 Y_crossings, o_U a , ai (a 16) cI 24 v2, ai (a 17) cI 24 v3, ai (a 18) cI 24 v4, ai (a 19) cI 24 v5, o_G a , ai (a 21) cI 24 v6, o_R a v7] [(false, 0), (true, 0), (true, 1), (true, 2), (true, 3), (true, 4), (true, 5), (true, 6), (true, 7), (true, 8), (true, 9), (true, 10), (true, 11), (true, 12), (true, 13), (true, 14), (true, 15), (true, 16)] rfl rfl rfl hl.1 (Nat.le_of_ble_eq_true rfl) ⟨Nat.zero_le _, Nat.zero_le _⟩ 17 rfl rfl rfl rfl dX9_hint_4 (fun H locs hP hD hS => ?_)
  cases hm
  exact rI () hx hb hr hlk hP hD hS dX9_hint_7
theorem hd_X9_steps : yX9_steps.cls = RX9 ∧ yX9_steps.cls ≠ "java/lang/invoke/MethodHandle" ∧ yX9_steps.cls ≠ "java/lang/invoke/VarHandle" ∧ (parseMethodDescriptor yX9_steps.desc).map (fun d => d.parameters.length) = some 1 := by decide +kernel
def m_X9_steps_b27 (N : Nat) (S_numbers : Nat → Int32) (Y_islands : Int32) (Y_ways : Int32) (Y_cellOf : Nat → Int32) (Y_firstOf : Nat → Int32) (Y_secondOf : Nat → Int32) (Y_crossings : Nat → Int64) (x1 : Int32) (y21 : Int32) (y22 : Nat → Nat) (y23 : Nat → Nat → Int32) (y24 : Nat → Nat → Int32) (y25 : Nat → Nat → Int32) (y26 : Nat → Int32) (y27 : Nat → Int32) (y28 : Nat → Int32) (y29 : Nat → Int32) (rec27 : Int32 → Int32 → Int32 → (Nat → Int32) → (Nat → Int32) → (Nat → Int32) → (Nat → Int32) → (Nat → Int32) → (Nat → Int32) → (Nat → Int32) → Int64 → Option (Int32 × Int32 × Int32 × (Nat → Int32) × (Nat → Int32) × (Nat → Int32) × (Nat → Int32) × (Nat → Int32) × (Nat → Int32) × (Nat → Int32) × Int64 × Int32 × (Nat → Nat) × (Nat → Nat → Int32) × (Nat → Nat → Int32) × (Nat → Nat → Int32) × (Nat → Int32) × (Nat → Int32) × (Nat → Int32) × (Nat → Int32))) (y10 : Int32) (y11 : Int32) (y12 : Int32) (y13 : Nat → Int32) (y14 : Nat → Int32) (y15 : Nat → Int32) (y16 : Nat → Int32) (y17 : Nat → Int32) (y18 : Nat → Int32) (y19 : Nat → Int32) (y20 : Int64) : Option (Int32 × Int32 × Int32 × (Nat → Int32) × (Nat → Int32) × (Nat → Int32) × (Nat → Int32) × (Nat → Int32) × (Nat → Int32) × (Nat → Int32) × Int64 × Int32 × (Nat → Nat) × (Nat → Nat → Int32) × (Nat → Nat → Int32) × (Nat → Nat → Int32) × (Nat → Int32) × (Nat → Int32) × (Nat → Int32) × (Nat → Int32)) :=
  if x1 ≤ y10 then (some ((x1, y11, y12, y13, y14, y15, y16, y17, y18, y19, y20, y21, y22, y23, y24, y25, y26, y27, y28, y29))) else (bd7 (m_X4_find N S_numbers y13 y14 Y_islands Y_ways Y_cellOf Y_firstOf Y_secondOf Y_crossings y15 y16 y17 y18 y19 y20) (fun v30 v31 v32 v33 v34 v35 v36 => if 0 ≤ v30 then (lt4 (m_X4_carryOut y11 y12 y13 y14 Y_firstOf Y_secondOf v31 v33 v34 v30) (fun v37 v38 v39 v40 => lt1 (y10 + 1) (fun v41 => rec27 v41 v37 v38 v39 v40 v31 v32 v33 v34 v35 v36))) else (some ((y10, y11, y12, y13, y14, v31, v32, v33, v34, v35, v36, y21, y22, y23, y24, y25, y26, y27, y28, y29)))))
def m_X9_steps (N : Nat) (S_columns : Int32) (S_rows : Int32) (S_grade : Int32) (S_stepsMade : Int32) (S_numbers : Nat → Int32) (S_bridges : Nat → Int32) (S_caps : Nat → Int32) (Y_islands : Int32) (Y_ways : Int32) (Y_cellOf : Nat → Int32) (Y_firstOf : Nat → Int32) (Y_secondOf : Nat → Int32) (Y_crossings : Nat → Int64) (U_numbers : Nat → Int32) (U_bridges : Nat → Int32) (U_caps : Nat → Int32) (U_lacks : Nat → Int32) (G_leaders : Nat → Int32) (R_built : Int64) (H_size : Int32) (Hb : Nat → Nat) (HN : Nat → Nat → Int32) (HB : Nat → Nat → Int32) (HC : Nat → Nat → Int32) (Hc : Nat → Int32) (Hr : Nat → Int32) (Hg : Nat → Int32) (Hs : Nat → Int32) (x1 : Int32) : Option (Int32 × Int32 × Int32 × (Nat → Int32) × (Nat → Int32) × (Nat → Int32) × (Nat → Int32) × (Nat → Int32) × (Nat → Int32) × (Nat → Int32) × Int64 × Int32 × (Nat → Nat) × (Nat → Nat → Int32) × (Nat → Nat → Int32) × (Nat → Nat → Int32) × (Nat → Int32) × (Nat → Int32) × (Nat → Int32) × (Nat → Int32)) :=
  if x1 < 1 then (some (((-1), S_grade, S_stepsMade, S_bridges, S_caps, U_numbers, U_bridges, U_caps, U_lacks, G_leaders, R_built, H_size, Hb, HN, HB, HC, Hc, Hr, Hg, Hs))) else (if x1 ≤ 200 then (bd9 (m_X1_record S_columns S_rows S_grade S_stepsMade S_numbers S_bridges S_caps H_size Hb HN HB HC Hc Hr Hg Hs) (fun v1 v2 v3 v4 v5 v6 v7 v8 v9 => zl11 (m_X9_steps_b27 N S_numbers Y_islands Y_ways Y_cellOf Y_firstOf Y_secondOf Y_crossings x1 v1 v2 v3 v4 v5 v6 v7 v8 v9) N 0 S_grade S_stepsMade S_bridges S_caps U_numbers U_bridges U_caps U_lacks G_leaders R_built)) else (some (((-1), S_grade, S_stepsMade, S_bridges, S_caps, U_numbers, U_bridges, U_caps, U_lacks, G_leaders, R_built, H_size, Hb, HN, HB, HC, Hc, Hr, Hg, Hs))))
set_option maxHeartbeats 4000000 in
set_option maxRecDepth 100000 in
theorem c_X9_steps (l : Launch) (D : va_G) (cI cJ cS cB : ClassId) (a : Nat → Nat) (S_columns : Int32) (S_rows : Int32) (S_grade : Int32) (S_stepsMade : Int32) (S_numbers : Nat → Int32) (S_bridges : Nat → Int32) (S_caps : Nat → Int32) (Y_islands : Int32) (Y_ways : Int32) (Y_cellOf : Nat → Int32) (Y_firstOf : Nat → Int32) (Y_secondOf : Nat → Int32) (Y_crossings : Nat → Int64) (U_numbers : Nat → Int32) (U_bridges : Nat → Int32) (U_caps : Nat → Int32) (U_lacks : Nat → Int32) (G_leaders : Nat → Int32) (R_built : Int64) (H_size : Int32) (Hb : Nat → Nat) (HN : Nat → Nat → Int32) (HB : Nat → Nat → Int32) (HC : Nat → Nat → Int32) (Hc : Nat → Int32) (Hr : Nat → Int32) (Hg : Nat → Int32) (Hs : Nat → Int32) (x1 : Int32) (N : Nat) (r0 : Int32) (S_grade' : Int32) (S_stepsMade' : Int32) (S_bridges' : Nat → Int32) (S_caps' : Nat → Int32) (U_numbers' : Nat → Int32) (U_bridges' : Nat → Int32) (U_caps' : Nat → Int32) (U_lacks' : Nat → Int32) (G_leaders' : Nat → Int32) (R_built' : Int64) (H_size' : Int32) (Hb' : Nat → Nat) (HN' : Nat → Nat → Int32) (HB' : Nat → Nat → Int32) (HC' : Nat → Nat → Int32) (Hc' : Nat → Int32) (Hr' : Nat → Int32) (Hg' : Nat → Int32) (Hs' : Nat → Int32) (hm : m_X9_steps N S_columns S_rows S_grade S_stepsMade S_numbers S_bridges S_caps Y_islands Y_ways Y_cellOf Y_firstOf Y_secondOf Y_crossings U_numbers U_bridges U_caps U_lacks G_leaders R_built H_size Hb HN HB HC Hc Hr Hg Hs x1 = some (r0, S_grade', S_stepsMade', S_bridges', S_caps', U_numbers', U_bridges', U_caps', U_lacks', G_leaders', R_built', H_size', Hb', HN', HB', HC', Hc', Hr', Hg', Hs')) :
    mU l D (TYs cI cJ cS cB) yX9_steps wsX9_steps { frames := 5, cells := 0, slots := 0, locals := 123 } [.ref (a 0), .int x1] [o_X a , o_S a S_columns S_rows S_grade S_stepsMade, ai (a 2) cI 144 S_numbers, ai (a 3) cI 48 S_bridges, ai (a 4) cI 48 S_caps, o_Y a Y_islands Y_ways, ai (a 6) cI 24 Y_cellOf, ai (a 8) cI 48 Y_firstOf, ai (a 9) cI 48 Y_secondOf, aj (a 14) cJ 48 Y_crossings, o_U a , ai (a 16) cI 24 U_numbers, ai (a 17) cI 24 U_bridges, ai (a 18) cI 24 U_caps, ai (a 19) cI 24 U_lacks, o_G a , ai (a 21) cI 24 G_leaders, o_R a R_built, o_H a H_size, aq (a 32) cS 4 (hq Hb), o_h (Hb 0) (Hb 1) (Hb 2) (Hb 3) (Hc 0) (Hr 0) (Hg 0) (Hs 0), ai (Hb 1) cI 144 (HN 0), ai (Hb 2) cI 48 (HB 0), ai (Hb 3) cI 48 (HC 0), o_h (Hb 4) (Hb 5) (Hb 6) (Hb 7) (Hc 1) (Hr 1) (Hg 1) (Hs 1), ai (Hb 5) cI 144 (HN 1), ai (Hb 6) cI 48 (HB 1), ai (Hb 7) cI 48 (HC 1), o_h (Hb 8) (Hb 9) (Hb 10) (Hb 11) (Hc 2) (Hr 2) (Hg 2) (Hs 2), ai (Hb 9) cI 144 (HN 2), ai (Hb 10) cI 48 (HB 2), ai (Hb 11) cI 48 (HC 2), o_h (Hb 12) (Hb 13) (Hb 14) (Hb 15) (Hc 3) (Hr 3) (Hg 3) (Hs 3), ai (Hb 13) cI 144 (HN 3), ai (Hb 14) cI 48 (HB 3), ai (Hb 15) cI 48 (HC 3)] [o_X a , o_S a S_columns S_rows S_grade' S_stepsMade', ai (a 2) cI 144 S_numbers, ai (a 3) cI 48 S_bridges', ai (a 4) cI 48 S_caps', o_Y a Y_islands Y_ways, ai (a 6) cI 24 Y_cellOf, ai (a 8) cI 48 Y_firstOf, ai (a 9) cI 48 Y_secondOf, aj (a 14) cJ 48 Y_crossings, o_U a , ai (a 16) cI 24 U_numbers', ai (a 17) cI 24 U_bridges', ai (a 18) cI 24 U_caps', ai (a 19) cI 24 U_lacks', o_G a , ai (a 21) cI 24 G_leaders', o_R a R_built', o_H a H_size', aq (a 32) cS 4 (hq Hb'), o_h (Hb' 0) (Hb' 1) (Hb' 2) (Hb' 3) (Hc' 0) (Hr' 0) (Hg' 0) (Hs' 0), ai (Hb' 1) cI 144 (HN' 0), ai (Hb' 2) cI 48 (HB' 0), ai (Hb' 3) cI 48 (HC' 0), o_h (Hb' 4) (Hb' 5) (Hb' 6) (Hb' 7) (Hc' 1) (Hr' 1) (Hg' 1) (Hs' 1), ai (Hb' 5) cI 144 (HN' 1), ai (Hb' 6) cI 48 (HB' 1), ai (Hb' 7) cI 48 (HC' 1), o_h (Hb' 8) (Hb' 9) (Hb' 10) (Hb' 11) (Hc' 2) (Hr' 2) (Hg' 2) (Hs' 2), ai (Hb' 9) cI 144 (HN' 2), ai (Hb' 10) cI 48 (HB' 2), ai (Hb' 11) cI 48 (HC' 2), o_h (Hb' 12) (Hb' 13) (Hb' 14) (Hb' 15) (Hc' 3) (Hr' 3) (Hg' 3) (Hs' 3), ai (Hb' 13) cI 144 (HN' 3), ai (Hb' 14) cI 48 (HB' 3), ai (Hb' 15) cI 48 (HC' 3)] (some (.int r0)) := by
  refine mG_of (cc := cX9_steps) (maxL := 4) (ret := (some .int)) (by decide) rfl rfl (Nat.le_of_ble_eq_true rfl) ?_
  intro p e s m args below meth c A hx hb hr hml hlk hnm hts hown hK hP hD hA hS ls hl
  have hl : lv_has ls 4 [(0, .ref (a 0)), (1, .int x1)] := hl
  have hiX0 : ∀ w ∈ wsX00, w ∈ wsX9_steps := fun w h => List.mem_cons_of_mem _ (List.mem_append_right _ h)
  have hiX1 : ∀ w ∈ wsX10, w ∈ wsX9_steps := fun w h => List.mem_cons_of_mem _ (List.mem_append_left _ (List.mem_append_left _ (List.mem_append_left _ (List.mem_append_left _ (List.mem_append_left _ (List.mem_append_right _ h))))))
  have hiX2 : ∀ w ∈ wsX20, w ∈ wsX9_steps := fun w h => List.mem_cons_of_mem _ (List.mem_append_left _ (List.mem_append_left _ (List.mem_append_right _ h)))
  have hiX4 : ∀ w ∈ wsX40, w ∈ wsX9_steps := fun w h => List.mem_cons_of_mem _ (List.mem_append_left _ (List.mem_append_left _ (List.mem_append_left _ (List.mem_append_right _ h))))
  have hiX6 : ∀ w ∈ wsX60, w ∈ wsX9_steps := fun w h => List.mem_cons_of_mem _ (List.mem_append_left _ (List.mem_append_left _ (List.mem_append_left _ (List.mem_append_left _ (List.mem_append_right _ h)))))
  have hiX7 : ∀ w ∈ wsX70, w ∈ wsX9_steps := fun w h => List.mem_cons_of_mem _ (List.mem_append_left _ (List.mem_append_right _ h))
  have hiX9 : ∀ w ∈ wsX90, w ∈ wsX9_steps := fun w h => List.mem_cons_of_mem _ (List.mem_append_left _ (List.mem_append_left _ (List.mem_append_left _ (List.mem_append_left _ (List.mem_append_left _ (List.mem_append_left _ (List.mem_append_right _ h)))))))
  unfold m_X9_steps at hm
  have h27 : ∀ (y21 : Int32) (y22 : Nat → Nat) (y23 : Nat → Nat → Int32) (y24 : Nat → Nat → Int32) (y25 : Nat → Nat → Int32) (y26 : Nat → Int32) (y27 : Nat → Int32) (y28 : Nat → Int32) (y29 : Nat → Int32), ∀ (n : Nat) (y10 : Int32) (y11 : Int32) (y12 : Int32) (y13 : Nat → Int32) (y14 : Nat → Int32) (y15 : Nat → Int32) (y16 : Nat → Int32) (y17 : Nat → Int32) (y18 : Nat → Int32) (y19 : Nat → Int32) (y20 : Int64), zl11 (m_X9_steps_b27 N S_numbers Y_islands Y_ways Y_cellOf Y_firstOf Y_secondOf Y_crossings x1 y21 y22 y23 y24 y25 y26 y27 y28 y29) n y10 y11 y12 y13 y14 y15 y16 y17 y18 y19 y20 = some (r0, S_grade', S_stepsMade', S_bridges', S_caps', U_numbers', U_bridges', U_caps', U_lacks', G_leaders', R_built', H_size', Hb', HN', HB', HC', Hc', Hr', Hg', Hs') → ∀ (H : Heap) (locs : List Loc), va_P D vwCl [o_X a , o_S a S_columns S_rows y11 y12, ai (a 2) cI 144 S_numbers, ai (a 3) cI 48 y13, ai (a 4) cI 48 y14, o_Y a Y_islands Y_ways, ai (a 6) cI 24 Y_cellOf, ai (a 8) cI 48 Y_firstOf, ai (a 9) cI 48 Y_secondOf, aj (a 14) cJ 48 Y_crossings, o_U a , ai (a 16) cI 24 y15, ai (a 17) cI 24 y16, ai (a 18) cI 24 y17, ai (a 19) cI 24 y18, o_G a , ai (a 21) cI 24 y19, o_R a y20, o_H a y21, aq (a 32) cS 4 (hq y22), o_h (y22 0) (y22 1) (y22 2) (y22 3) (y26 0) (y27 0) (y28 0) (y29 0), ai (y22 1) cI 144 (y23 0), ai (y22 2) cI 48 (y24 0), ai (y22 3) cI 48 (y25 0), o_h (y22 4) (y22 5) (y22 6) (y22 7) (y26 1) (y27 1) (y28 1) (y29 1), ai (y22 5) cI 144 (y23 1), ai (y22 6) cI 48 (y24 1), ai (y22 7) cI 48 (y25 1), o_h (y22 8) (y22 9) (y22 10) (y22 11) (y26 2) (y27 2) (y28 2) (y29 2), ai (y22 9) cI 144 (y23 2), ai (y22 10) cI 48 (y24 2), ai (y22 11) cI 48 (y25 2), o_h (y22 12) (y22 13) (y22 14) (y22 15) (y26 3) (y27 3) (y28 3) (y29 3), ai (y22 13) cI 144 (y23 3), ai (y22 14) cI 48 (y24 3), ai (y22 15) cI 48 (y25 3)] H → va_D A [o_X a , o_S a S_columns S_rows y11 y12, ai (a 2) cI 144 S_numbers, ai (a 3) cI 48 y13, ai (a 4) cI 48 y14, o_Y a Y_islands Y_ways, ai (a 6) cI 24 Y_cellOf, ai (a 8) cI 48 Y_firstOf, ai (a 9) cI 48 Y_secondOf, aj (a 14) cJ 48 Y_crossings, o_U a , ai (a 16) cI 24 y15, ai (a 17) cI 24 y16, ai (a 18) cI 24 y17, ai (a 19) cI 24 y18, o_G a , ai (a 21) cI 24 y19, o_R a y20, o_H a y21, aq (a 32) cS 4 (hq y22), o_h (y22 0) (y22 1) (y22 2) (y22 3) (y26 0) (y27 0) (y28 0) (y29 0), ai (y22 1) cI 144 (y23 0), ai (y22 2) cI 48 (y24 0), ai (y22 3) cI 48 (y25 0), o_h (y22 4) (y22 5) (y22 6) (y22 7) (y26 1) (y27 1) (y28 1) (y29 1), ai (y22 5) cI 144 (y23 1), ai (y22 6) cI 48 (y24 1), ai (y22 7) cI 48 (y25 1), o_h (y22 8) (y22 9) (y22 10) (y22 11) (y26 2) (y27 2) (y28 2) (y29 2), ai (y22 9) cI 144 (y23 2), ai (y22 10) cI 48 (y24 2), ai (y22 11) cI 48 (y25 2), o_h (y22 12) (y22 13) (y22 14) (y22 15) (y26 3) (y27 3) (y28 3) (y29 3), ai (y22 13) cI 144 (y23 3), ai (y22 14) cI 48 (y24 3), ai (y22 15) cI 48 (y25 3)] → va_S A s.heap H locs → ∀ ls : Array Slot, lv_has ls 4 [(0, .ref (a 0)), (1, .int x1), (2, .int y10)] → W p l e { frames := 5, cells := 0, slots := 0, locals := 123 } s m args below meth c H locs 0 0 (MQ below (eQ D (some (.int r0)) (fun _ : Unit => [o_X a , o_S a S_columns S_rows S_grade' S_stepsMade', ai (a 2) cI 144 S_numbers, ai (a 3) cI 48 S_bridges', ai (a 4) cI 48 S_caps', o_Y a Y_islands Y_ways, ai (a 6) cI 24 Y_cellOf, ai (a 8) cI 48 Y_firstOf, ai (a 9) cI 48 Y_secondOf, aj (a 14) cJ 48 Y_crossings, o_U a , ai (a 16) cI 24 U_numbers', ai (a 17) cI 24 U_bridges', ai (a 18) cI 24 U_caps', ai (a 19) cI 24 U_lacks', o_G a , ai (a 21) cI 24 G_leaders', o_R a R_built', o_H a H_size', aq (a 32) cS 4 (hq Hb'), o_h (Hb' 0) (Hb' 1) (Hb' 2) (Hb' 3) (Hc' 0) (Hr' 0) (Hg' 0) (Hs' 0), ai (Hb' 1) cI 144 (HN' 0), ai (Hb' 2) cI 48 (HB' 0), ai (Hb' 3) cI 48 (HC' 0), o_h (Hb' 4) (Hb' 5) (Hb' 6) (Hb' 7) (Hc' 1) (Hr' 1) (Hg' 1) (Hs' 1), ai (Hb' 5) cI 144 (HN' 1), ai (Hb' 6) cI 48 (HB' 1), ai (Hb' 7) cI 48 (HC' 1), o_h (Hb' 8) (Hb' 9) (Hb' 10) (Hb' 11) (Hc' 2) (Hr' 2) (Hg' 2) (Hs' 2), ai (Hb' 9) cI 144 (HN' 2), ai (Hb' 10) cI 48 (HB' 2), ai (Hb' 11) cI 48 (HC' 2), o_h (Hb' 12) (Hb' 13) (Hb' 14) (Hb' 15) (Hc' 3) (Hr' 3) (Hg' 3) (Hs' 3), ai (Hb' 13) cI 144 (HN' 3), ai (Hb' 14) cI 48 (HB' 3), ai (Hb' 15) cI 48 (HC' 3)]) A) args s 0 0 A) (F0 m 27 ls []) := by
    intro y21 y22 y23 y24 y25 y26 y27 y28 y29
    refine zl11_ind (fun rec27 ih27 y10 y11 y12 y13 y14 y15 y16 y17 y18 y19 y20 hm => ?_)
    intro H locs hP hD hS ls hl
    unfold m_X9_steps_b27 at hm
    refine lv_iload_n hx hb dX9_steps_27 rfl (lv_at hl 2 rfl) ?_
    refine lv_iload_n hx hb dX9_steps_28 rfl (lv_at hl 1 rfl) ?_
    refine lv_icmp_ge (tgt := 60) hx hb dX9_steps_29 (by decide) (fun c29 => ?_) (fun c29 => ?_)
    · have hm := ip c29 hm
      refine lv_iload_n hx hb dX9_steps_60 rfl (lv_at hl 1 rfl) ?_
      cases hm
      exact rI () hx hb hr hlk hP hD hS dX9_steps_61
    · have hm := ine c29 hm
      refine lv_aload_n hx hb dX9_steps_32 rfl (lv_at hl 0 rfl) ?_
      refine va_get (D := D) (ci := 9) (v := .ref (a 22)) (C := RX9) (T := TX9) (N := 9) hx hb hts hiX9 hown hK.1 hP 0 rfl rfl 4 (by decide) (hts (.fieldLink RX9 46 "IslandBridges" "reasoner" "LIslandBridges$Reasoner;") (List.mem_of_getElem? (i := 3) rfl)) (fun _ h9 => h9) rfl dX9_steps_33 ?_
      obtain ⟨v30, v31, v32, v33, v34, v35, v36, h_v30, hm⟩ := bd7_inv hm
      refine cVx ⟨hx, hb, hml, hown, hts⟩ (c_X4_find l D cI cJ cS cB a S_columns S_rows y11 y12 S_numbers y13 y14 Y_islands Y_ways Y_cellOf Y_firstOf Y_secondOf Y_crossings y15 y16 y17 y18 y19 y20 N v30 v31 v32 v33 v34 v35 v36 h_v30) (cwV 0 hts gX9_steps_X4_find rfl rfl rfl hd_X4_find ⟨(Nat.le_of_ble_eq_true rfl), (Nat.le_of_ble_eq_true rfl)⟩) hK hP hD hS hA [1, 2, 3, 4, 5, 6, 7, 8, 9, 10, 11, 12, 13, 14, 15, 16, 17] rfl rfl [o_X a , o_S a S_columns S_rows y11 y12, ai (a 2) cI 144 S_numbers, ai (a 3) cI 48 y13, ai (a 4) cI 48 y14, o_Y a Y_islands Y_ways, ai (a 6) cI 24 Y_cellOf, ai (a 8) cI 48 Y_firstOf, ai (a 9) cI 48 Y_secondOf, aj (a 14) cJ 48 Y_crossings, o_U a , ai (a 16) cI 24 v31, ai (a 17) cI 24 v32, ai (a 18) cI 24 v33, ai (a 19) cI 24 v34, o_G a , ai (a 21) cI 24 v35, o_R a v36, o_H a y21, aq (a 32) cS 4 (hq y22), o_h (y22 0) (y22 1) (y22 2) (y22 3) (y26 0) (y27 0) (y28 0) (y29 0), ai (y22 1) cI 144 (y23 0), ai (y22 2) cI 48 (y24 0), ai (y22 3) cI 48 (y25 0), o_h (y22 4) (y22 5) (y22 6) (y22 7) (y26 1) (y27 1) (y28 1) (y29 1), ai (y22 5) cI 144 (y23 1), ai (y22 6) cI 48 (y24 1), ai (y22 7) cI 48 (y25 1), o_h (y22 8) (y22 9) (y22 10) (y22 11) (y26 2) (y27 2) (y28 2) (y29 2), ai (y22 9) cI 144 (y23 2), ai (y22 10) cI 48 (y24 2), ai (y22 11) cI 48 (y25 2), o_h (y22 12) (y22 13) (y22 14) (y22 15) (y26 3) (y27 3) (y28 3) (y29 3), ai (y22 13) cI 144 (y23 3), ai (y22 14) cI 48 (y24 3), ai (y22 15) cI 48 (y25 3)] [(false, 0), (true, 0), (true, 1), (true, 2), (true, 3), (true, 4), (true, 5), (true, 6), (true, 7), (true, 8), (true, 9), (true, 10), (true, 11), (true, 12), (true, 13), (true, 14), (true, 15), (true, 16), (false, 18), (false, 19), (false, 20), (false, 21), (false, 22), (false, 23), (false, 24), (false, 25), (false, 26), (false, 27), (false, 28), (false, 29), (false, 30), (false, 31), (false, 32), (false, 33), (false, 34), (false, 35)] rfl rfl rfl hl.1 (Nat.le_of_ble_eq_true rfl) ⟨Nat.zero_le _, Nat.zero_le _⟩ 17 rfl rfl rfl rfl dX9_steps_36 (fun H locs hP hD hS => ?_)
      refine lv_istore_n (lv' := [(3, .int v30), (0, .ref (a 0)), (1, .int x1), (2, .int y10)]) hx hb dX9_steps_39 rfl hl (by decide) rfl (fun ls hl => ?_)
      refine lv_iload_n hx hb dX9_steps_40 rfl (lv_at hl 0 rfl) ?_
      refine lv_if_ge (tgt := 46) hx hb dX9_steps_41 (by decide) (fun c41 => ?_) (fun c41 => ?_)
      · have hm := ip c41 hm
        refine lv_aload_n hx hb dX9_steps_46 rfl (lv_at hl 1 rfl) ?_
        refine va_get (D := D) (ci := 9) (v := .ref (a 22)) (C := RX9) (T := TX9) (N := 9) hx hb hts hiX9 hown hK.1 hP 0 rfl rfl 4 (by decide) (hts (.fieldLink RX9 46 "IslandBridges" "reasoner" "LIslandBridges$Reasoner;") (List.mem_of_getElem? (i := 3) rfl)) (fun _ h9 => h9) rfl dX9_steps_47 ?_
        refine lv_iload_n hx hb dX9_steps_50 rfl (lv_at hl 0 rfl) ?_
        obtain ⟨v37, v38, v39, v40, h_v37, hm⟩ := lt4_inv hm
        refine cVx ⟨hx, hb, hml, hown, hts⟩ (c_X4_carryOut l D cI cJ cS cB a S_columns S_rows y11 y12 y13 y14 Y_islands Y_ways Y_firstOf Y_secondOf v31 v33 v34 v36 v30 v37 v38 v39 v40 h_v37) (cwV 1 hts gX9_steps_X4_carryOut rfl rfl rfl hd_X4_carryOut ⟨(Nat.le_of_ble_eq_true rfl), (Nat.le_of_ble_eq_true rfl)⟩) hK hP hD hS hA [1, 3, 4, 5, 7, 8, 10, 11, 13, 14, 17] rfl rfl [o_X a , o_S a S_columns S_rows v37 v38, ai (a 2) cI 144 S_numbers, ai (a 3) cI 48 v39, ai (a 4) cI 48 v40, o_Y a Y_islands Y_ways, ai (a 6) cI 24 Y_cellOf, ai (a 8) cI 48 Y_firstOf, ai (a 9) cI 48 Y_secondOf, aj (a 14) cJ 48 Y_crossings, o_U a , ai (a 16) cI 24 v31, ai (a 17) cI 24 v32, ai (a 18) cI 24 v33, ai (a 19) cI 24 v34, o_G a , ai (a 21) cI 24 v35, o_R a v36, o_H a y21, aq (a 32) cS 4 (hq y22), o_h (y22 0) (y22 1) (y22 2) (y22 3) (y26 0) (y27 0) (y28 0) (y29 0), ai (y22 1) cI 144 (y23 0), ai (y22 2) cI 48 (y24 0), ai (y22 3) cI 48 (y25 0), o_h (y22 4) (y22 5) (y22 6) (y22 7) (y26 1) (y27 1) (y28 1) (y29 1), ai (y22 5) cI 144 (y23 1), ai (y22 6) cI 48 (y24 1), ai (y22 7) cI 48 (y25 1), o_h (y22 8) (y22 9) (y22 10) (y22 11) (y26 2) (y27 2) (y28 2) (y29 2), ai (y22 9) cI 144 (y23 2), ai (y22 10) cI 48 (y24 2), ai (y22 11) cI 48 (y25 2), o_h (y22 12) (y22 13) (y22 14) (y22 15) (y26 3) (y27 3) (y28 3) (y29 3), ai (y22 13) cI 144 (y23 3), ai (y22 14) cI 48 (y24 3), ai (y22 15) cI 48 (y25 3)] [(false, 0), (true, 0), (false, 2), (true, 1), (true, 2), (true, 3), (false, 6), (true, 4), (true, 5), (false, 9), (true, 6), (true, 7), (false, 12), (true, 8), (true, 9), (false, 15), (false, 16), (true, 10), (false, 18), (false, 19), (false, 20), (false, 21), (false, 22), (false, 23), (false, 24), (false, 25), (false, 26), (false, 27), (false, 28), (false, 29), (false, 30), (false, 31), (false, 32), (false, 33), (false, 34), (false, 35)] rfl rfl rfl hl.1 (Nat.le_of_ble_eq_true rfl) ⟨Nat.zero_le _, Nat.zero_le _⟩ 17 rfl rfl rfl rfl dX9_steps_51 (fun H locs hP hD hS => ?_)
        obtain ⟨v41, ev41, hm⟩ := lt1_inv hm
        refine lv_iinc (v := v41) (lv' := [(2, .int v41), (3, .int v30), (0, .ref (a 0)), (1, .int x1)]) hx hb dX9_steps_54 hl (k := 3) rfl ev41 (by decide) rfl (fun ls hl => ?_)
        refine lv_goto (tgt := 27) hx hb dX9_steps_57 (by decide) ?_
        exact ih27 v41 v37 v38 v39 v40 v31 v32 v33 v34 v35 v36 hm _ _ hP hD hS ls (lv_sub hl [2, 3, 0] rfl)
      · have hm := ine c41 hm
        refine lv_iload_n hx hb dX9_steps_44 rfl (lv_at hl 3 rfl) ?_
        cases hm
        exact rI () hx hb hr hlk hP hD hS dX9_steps_45
  refine lv_iload_n hx hb dX9_steps_0 rfl (lv_at hl 1 rfl) ?_
  refine lv_iconst (v := 1) hx hb dX9_steps_1 (by decide) ?_
  refine lv_icmp_lt (tgt := 12) hx hb dX9_steps_2 (by decide) (fun c2 => ?_) (fun c2 => ?_)
  · have hm := ip c2 hm
    refine lv_iconst (v := (-1)) hx hb dX9_steps_12 (by decide) ?_
    cases hm
    exact rI () hx hb hr hlk hP hD hS dX9_steps_13
  · have hm := ine c2 hm
    refine lv_iload_n hx hb dX9_steps_5 rfl (lv_at hl 1 rfl) ?_
    refine lv_sipush (v := 200) hx hb dX9_steps_6 (by decide) ?_
    refine lv_icmp_le (tgt := 14) hx hb dX9_steps_9 (by decide) (fun c9 => ?_) (fun c9 => ?_)
    · have hm := ip c9 hm
      refine lv_aload_n hx hb dX9_steps_14 rfl (lv_at hl 0 rfl) ?_
      refine va_get (D := D) (ci := 9) (v := .ref (a 31)) (C := RX9) (T := TX9) (N := 9) hx hb hts hiX9 hown hK.1 hP 0 rfl rfl 7 (by decide) (hts (.fieldLink RX9 69 "IslandBridges" "history" "LIslandBridges$History;") (List.mem_of_getElem? (i := 1) rfl)) (fun _ h9 => h9) rfl dX9_steps_15 ?_
      refine lv_aload_n hx hb dX9_steps_18 rfl (lv_at hl 0 rfl) ?_
      refine va_get (D := D) (ci := 9) (v := .ref (a 1)) (C := RX9) (T := TX9) (N := 9) hx hb hts hiX9 hown hK.1 hP 0 rfl rfl 0 (by decide) (hts (.fieldLink RX9 10 "IslandBridges" "state" "LIslandBridges$State;") (List.mem_of_getElem? (i := 2) rfl)) (fun _ h9 => h9) rfl dX9_steps_19 ?_
      obtain ⟨v1, v2, v3, v4, v5, v6, v7, v8, v9, h_v1, hm⟩ := bd9_inv hm
      refine cVx ⟨hx, hb, hml, hown, hts⟩ (c_X1_record l D cI cJ cS cB a S_columns S_rows S_grade S_stepsMade S_numbers S_bridges S_caps H_size Hb HN HB HC Hc Hr Hg Hs v1 v2 v3 v4 v5 v6 v7 v8 v9 h_v1) (cwV 1 hts gX9_steps_X1_record rfl rfl rfl hd_X1_record ⟨(Nat.le_of_ble_eq_true rfl), (Nat.le_of_ble_eq_true rfl)⟩) hK hP hD hS hA [1, 2, 3, 4, 18, 19, 20, 21, 22, 23, 24, 25, 26, 27, 28, 29, 30, 31, 32, 33, 34, 35] rfl rfl [o_X a , o_S a S_columns S_rows S_grade S_stepsMade, ai (a 2) cI 144 S_numbers, ai (a 3) cI 48 S_bridges, ai (a 4) cI 48 S_caps, o_Y a Y_islands Y_ways, ai (a 6) cI 24 Y_cellOf, ai (a 8) cI 48 Y_firstOf, ai (a 9) cI 48 Y_secondOf, aj (a 14) cJ 48 Y_crossings, o_U a , ai (a 16) cI 24 U_numbers, ai (a 17) cI 24 U_bridges, ai (a 18) cI 24 U_caps, ai (a 19) cI 24 U_lacks, o_G a , ai (a 21) cI 24 G_leaders, o_R a R_built, o_H a v1, aq (a 32) cS 4 (hq v2), o_h (v2 0) (v2 1) (v2 2) (v2 3) (v6 0) (v7 0) (v8 0) (v9 0), ai (v2 1) cI 144 (v3 0), ai (v2 2) cI 48 (v4 0), ai (v2 3) cI 48 (v5 0), o_h (v2 4) (v2 5) (v2 6) (v2 7) (v6 1) (v7 1) (v8 1) (v9 1), ai (v2 5) cI 144 (v3 1), ai (v2 6) cI 48 (v4 1), ai (v2 7) cI 48 (v5 1), o_h (v2 8) (v2 9) (v2 10) (v2 11) (v6 2) (v7 2) (v8 2) (v9 2), ai (v2 9) cI 144 (v3 2), ai (v2 10) cI 48 (v4 2), ai (v2 11) cI 48 (v5 2), o_h (v2 12) (v2 13) (v2 14) (v2 15) (v6 3) (v7 3) (v8 3) (v9 3), ai (v2 13) cI 144 (v3 3), ai (v2 14) cI 48 (v4 3), ai (v2 15) cI 48 (v5 3)] [(false, 0), (true, 0), (true, 1), (true, 2), (true, 3), (false, 5), (false, 6), (false, 7), (false, 8), (false, 9), (false, 10), (false, 11), (false, 12), (false, 13), (false, 14), (false, 15), (false, 16), (false, 17), (true, 4), (true, 5), (true, 6), (true, 7), (true, 8), (true, 9), (true, 10), (true, 11), (true, 12), (true, 13), (true, 14), (true, 15), (true, 16), (true, 17), (true, 18), (true, 19), (true, 20), (true, 21)] rfl rfl rfl hl.1 (Nat.le_of_ble_eq_true rfl) ⟨Nat.zero_le _, Nat.zero_le _⟩ 18 rfl rfl rfl rfl dX9_steps_22 (fun H locs hP hD hS => ?_)
      refine lv_iconst (v := 0) hx hb dX9_steps_25 (by decide) ?_
      refine lv_istore_n (lv' := [(2, .int 0), (0, .ref (a 0)), (1, .int x1)]) hx hb dX9_steps_26 rfl hl (by decide) rfl (fun ls hl => ?_)
      exact h27 v1 v2 v3 v4 v5 v6 v7 v8 v9 N 0 S_grade S_stepsMade S_bridges S_caps U_numbers U_bridges U_caps U_lacks G_leaders R_built hm _ _ hP hD hS ls (lv_sub hl [1, 2, 0] rfl)
    · have hm := ine c9 hm
      refine lv_iconst (v := (-1)) hx hb dX9_steps_12 (by decide) ?_
      cases hm
      exact rI () hx hb hr hlk hP hD hS dX9_steps_13
theorem hd_X9_make : yX9_make.cls = RX9 ∧ yX9_make.cls ≠ "java/lang/invoke/MethodHandle" ∧ yX9_make.cls ≠ "java/lang/invoke/VarHandle" ∧ (parseMethodDescriptor yX9_make.desc).map (fun d => d.parameters.length) = some 2 := by decide +kernel
def m_X9_make (N : Nat) (S_columns : Int32) (S_rows : Int32) (S_grade : Int32) (S_stepsMade : Int32) (S_numbers : Nat → Int32) (S_bridges : Nat → Int32) (S_caps : Nat → Int32) (Y_islands : Int32) (Y_ways : Int32) (Y_cellOf : Nat → Int32) (Y_islandAfter : Nat → Int32) (Y_firstOf : Nat → Int32) (Y_secondOf : Nat → Int32) (Y_firstCellOf : Nat → Int32) (Y_secondCellOf : Nat → Int32) (Y_strideOf : Nat → Int32) (Y_waysOf : Nat → Int32) (Y_crossings : Nat → Int64) (K_columns : Int32) (K_rows : Int32) (K_islands : Int32) (K_z : Int32) (K_taken : Nat → Int32) (K_numbers : Nat → Int32) (K_cellOf : Nat → Int32) (H_size : Int32) (Hb : Nat → Nat) (HN : Nat → Nat → Int32) (HB : Nat → Nat → Int32) (HC : Nat → Nat → Int32) (Hc : Nat → Int32) (Hr : Nat → Int32) (Hg : Nat → Int32) (Hs : Nat → Int32) (x1 : Int32) (x2 : Int32) : Option (Int32 × Int32 × Int32 × (Nat → Int32) × (Nat → Int32) × (Nat → Int32) × Int32 × Int32 × (Nat → Int32) × (Nat → Int32) × (Nat → Int32) × (Nat → Int32) × (Nat → Int32) × (Nat → Int32) × (Nat → Int32) × (Nat → Int32) × (Nat → Int64) × Int32 × Int32 × Int32 × Int32 × (Nat → Int32) × (Nat → Int32) × (Nat → Int32) × Int32 × (Nat → Nat) × (Nat → Nat → Int32) × (Nat → Nat → Int32) × (Nat → Nat → Int32) × (Nat → Int32) × (Nat → Int32) × (Nat → Int32) × (Nat → Int32)) :=
  if x1 < 0 then (some (((-1), S_grade, S_stepsMade, S_numbers, S_bridges, S_caps, Y_islands, Y_ways, Y_cellOf, Y_islandAfter, Y_firstOf, Y_secondOf, Y_firstCellOf, Y_secondCellOf, Y_strideOf, Y_waysOf, Y_crossings, K_columns, K_rows, K_islands, K_z, K_taken, K_numbers, K_cellOf, H_size, Hb, HN, HB, HC, Hc, Hr, Hg, Hs))) else (if 65535 < x1 then (some (((-1), S_grade, S_stepsMade, S_numbers, S_bridges, S_caps, Y_islands, Y_ways, Y_cellOf, Y_islandAfter, Y_firstOf, Y_secondOf, Y_firstCellOf, Y_secondCellOf, Y_strideOf, Y_waysOf, Y_crossings, K_columns, K_rows, K_islands, K_z, K_taken, K_numbers, K_cellOf, H_size, Hb, HN, HB, HC, Hc, Hr, Hg, Hs))) else (if x2 < 2 then (some (((-1), S_grade, S_stepsMade, S_numbers, S_bridges, S_caps, Y_islands, Y_ways, Y_cellOf, Y_islandAfter, Y_firstOf, Y_secondOf, Y_firstCellOf, Y_secondCellOf, Y_strideOf, Y_waysOf, Y_crossings, K_columns, K_rows, K_islands, K_z, K_taken, K_numbers, K_cellOf, H_size, Hb, HN, HB, HC, Hc, Hr, Hg, Hs))) else (if x2 ≤ 24 then (bd9 (m_X1_record S_columns S_rows S_grade S_stepsMade S_numbers S_bridges S_caps H_size Hb HN HB HC Hc Hr Hg Hs) (fun v1 v2 v3 v4 v5 v6 v7 v8 v9 => bd7 (m_X3_run N K_taken K_numbers K_cellOf S_columns S_rows x1 x2) (fun v10 v11 v12 v13 v14 v15 v16 => bd1 (m_X3_giveNumbersTo N S_numbers v12 v15 v16) (fun v17 => bd15 (m_X9_renewWays N S_columns S_rows v17 S_bridges S_caps Y_cellOf Y_islandAfter Y_firstOf Y_secondOf Y_firstCellOf Y_secondCellOf Y_strideOf Y_waysOf Y_crossings) (fun v18 v19 v20 v21 v22 v23 v24 v25 v26 v27 v28 v29 v30 v31 v32 => some ((v22, v18, v19, v17, v20, v21, v22, v23, v24, v25, v26, v27, v28, v29, v30, v31, v32, v10, v11, v12, v13, v14, v15, v16, v1, v2, v3, v4, v5, v6, v7, v8, v9))))))) else (some (((-1), S_grade, S_stepsMade, S_numbers, S_bridges, S_caps, Y_islands, Y_ways, Y_cellOf, Y_islandAfter, Y_firstOf, Y_secondOf, Y_firstCellOf, Y_secondCellOf, Y_strideOf, Y_waysOf, Y_crossings, K_columns, K_rows, K_islands, K_z, K_taken, K_numbers, K_cellOf, H_size, Hb, HN, HB, HC, Hc, Hr, Hg, Hs))))))
set_option maxHeartbeats 4000000 in
set_option maxRecDepth 100000 in
theorem c_X9_make (l : Launch) (D : va_G) (cI cJ cS cB : ClassId) (a : Nat → Nat) (S_columns : Int32) (S_rows : Int32) (S_grade : Int32) (S_stepsMade : Int32) (S_numbers : Nat → Int32) (S_bridges : Nat → Int32) (S_caps : Nat → Int32) (Y_islands : Int32) (Y_ways : Int32) (Y_cellOf : Nat → Int32) (Y_islandAfter : Nat → Int32) (Y_firstOf : Nat → Int32) (Y_secondOf : Nat → Int32) (Y_firstCellOf : Nat → Int32) (Y_secondCellOf : Nat → Int32) (Y_strideOf : Nat → Int32) (Y_waysOf : Nat → Int32) (Y_crossings : Nat → Int64) (K_columns : Int32) (K_rows : Int32) (K_islands : Int32) (K_z : Int32) (K_taken : Nat → Int32) (K_numbers : Nat → Int32) (K_cellOf : Nat → Int32) (H_size : Int32) (Hb : Nat → Nat) (HN : Nat → Nat → Int32) (HB : Nat → Nat → Int32) (HC : Nat → Nat → Int32) (Hc : Nat → Int32) (Hr : Nat → Int32) (Hg : Nat → Int32) (Hs : Nat → Int32) (x1 : Int32) (x2 : Int32) (N : Nat) (r0 : Int32) (S_grade' : Int32) (S_stepsMade' : Int32) (S_numbers' : Nat → Int32) (S_bridges' : Nat → Int32) (S_caps' : Nat → Int32) (Y_islands' : Int32) (Y_ways' : Int32) (Y_cellOf' : Nat → Int32) (Y_islandAfter' : Nat → Int32) (Y_firstOf' : Nat → Int32) (Y_secondOf' : Nat → Int32) (Y_firstCellOf' : Nat → Int32) (Y_secondCellOf' : Nat → Int32) (Y_strideOf' : Nat → Int32) (Y_waysOf' : Nat → Int32) (Y_crossings' : Nat → Int64) (K_columns' : Int32) (K_rows' : Int32) (K_islands' : Int32) (K_z' : Int32) (K_taken' : Nat → Int32) (K_numbers' : Nat → Int32) (K_cellOf' : Nat → Int32) (H_size' : Int32) (Hb' : Nat → Nat) (HN' : Nat → Nat → Int32) (HB' : Nat → Nat → Int32) (HC' : Nat → Nat → Int32) (Hc' : Nat → Int32) (Hr' : Nat → Int32) (Hg' : Nat → Int32) (Hs' : Nat → Int32) (hm : m_X9_make N S_columns S_rows S_grade S_stepsMade S_numbers S_bridges S_caps Y_islands Y_ways Y_cellOf Y_islandAfter Y_firstOf Y_secondOf Y_firstCellOf Y_secondCellOf Y_strideOf Y_waysOf Y_crossings K_columns K_rows K_islands K_z K_taken K_numbers K_cellOf H_size Hb HN HB HC Hc Hr Hg Hs x1 x2 = some (r0, S_grade', S_stepsMade', S_numbers', S_bridges', S_caps', Y_islands', Y_ways', Y_cellOf', Y_islandAfter', Y_firstOf', Y_secondOf', Y_firstCellOf', Y_secondCellOf', Y_strideOf', Y_waysOf', Y_crossings', K_columns', K_rows', K_islands', K_z', K_taken', K_numbers', K_cellOf', H_size', Hb', HN', HB', HC', Hc', Hr', Hg', Hs')) :
    mU l D (TYs cI cJ cS cB) yX9_make wsX9_make { frames := 6, cells := 0, slots := 0, locals := 138 } [.ref (a 0), .int x1, .int x2] [o_X a , o_S a S_columns S_rows S_grade S_stepsMade, ai (a 2) cI 144 S_numbers, ai (a 3) cI 48 S_bridges, ai (a 4) cI 48 S_caps, o_Y a Y_islands Y_ways, ai (a 6) cI 24 Y_cellOf, ai (a 7) cI 144 Y_islandAfter, ai (a 8) cI 48 Y_firstOf, ai (a 9) cI 48 Y_secondOf, ai (a 10) cI 48 Y_firstCellOf, ai (a 11) cI 48 Y_secondCellOf, ai (a 12) cI 48 Y_strideOf, ai (a 13) cI 24 Y_waysOf, aj (a 14) cJ 48 Y_crossings, o_K a K_columns K_rows K_islands K_z, ai (a 28) cI 144 K_taken, ai (a 29) cI 144 K_numbers, ai (a 30) cI 24 K_cellOf, o_H a H_size, aq (a 32) cS 4 (hq Hb), o_h (Hb 0) (Hb 1) (Hb 2) (Hb 3) (Hc 0) (Hr 0) (Hg 0) (Hs 0), ai (Hb 1) cI 144 (HN 0), ai (Hb 2) cI 48 (HB 0), ai (Hb 3) cI 48 (HC 0), o_h (Hb 4) (Hb 5) (Hb 6) (Hb 7) (Hc 1) (Hr 1) (Hg 1) (Hs 1), ai (Hb 5) cI 144 (HN 1), ai (Hb 6) cI 48 (HB 1), ai (Hb 7) cI 48 (HC 1), o_h (Hb 8) (Hb 9) (Hb 10) (Hb 11) (Hc 2) (Hr 2) (Hg 2) (Hs 2), ai (Hb 9) cI 144 (HN 2), ai (Hb 10) cI 48 (HB 2), ai (Hb 11) cI 48 (HC 2), o_h (Hb 12) (Hb 13) (Hb 14) (Hb 15) (Hc 3) (Hr 3) (Hg 3) (Hs 3), ai (Hb 13) cI 144 (HN 3), ai (Hb 14) cI 48 (HB 3), ai (Hb 15) cI 48 (HC 3)] [o_X a , o_S a S_columns S_rows S_grade' S_stepsMade', ai (a 2) cI 144 S_numbers', ai (a 3) cI 48 S_bridges', ai (a 4) cI 48 S_caps', o_Y a Y_islands' Y_ways', ai (a 6) cI 24 Y_cellOf', ai (a 7) cI 144 Y_islandAfter', ai (a 8) cI 48 Y_firstOf', ai (a 9) cI 48 Y_secondOf', ai (a 10) cI 48 Y_firstCellOf', ai (a 11) cI 48 Y_secondCellOf', ai (a 12) cI 48 Y_strideOf', ai (a 13) cI 24 Y_waysOf', aj (a 14) cJ 48 Y_crossings', o_K a K_columns' K_rows' K_islands' K_z', ai (a 28) cI 144 K_taken', ai (a 29) cI 144 K_numbers', ai (a 30) cI 24 K_cellOf', o_H a H_size', aq (a 32) cS 4 (hq Hb'), o_h (Hb' 0) (Hb' 1) (Hb' 2) (Hb' 3) (Hc' 0) (Hr' 0) (Hg' 0) (Hs' 0), ai (Hb' 1) cI 144 (HN' 0), ai (Hb' 2) cI 48 (HB' 0), ai (Hb' 3) cI 48 (HC' 0), o_h (Hb' 4) (Hb' 5) (Hb' 6) (Hb' 7) (Hc' 1) (Hr' 1) (Hg' 1) (Hs' 1), ai (Hb' 5) cI 144 (HN' 1), ai (Hb' 6) cI 48 (HB' 1), ai (Hb' 7) cI 48 (HC' 1), o_h (Hb' 8) (Hb' 9) (Hb' 10) (Hb' 11) (Hc' 2) (Hr' 2) (Hg' 2) (Hs' 2), ai (Hb' 9) cI 144 (HN' 2), ai (Hb' 10) cI 48 (HB' 2), ai (Hb' 11) cI 48 (HC' 2), o_h (Hb' 12) (Hb' 13) (Hb' 14) (Hb' 15) (Hc' 3) (Hr' 3) (Hg' 3) (Hs' 3), ai (Hb' 13) cI 144 (HN' 3), ai (Hb' 14) cI 48 (HB' 3), ai (Hb' 15) cI 48 (HC' 3)] (some (.int r0)) := by
  refine mG_of (cc := cX9_make) (maxL := 3) (ret := (some .int)) (by decide) rfl rfl (Nat.le_of_ble_eq_true rfl) ?_
  intro p e s m args below meth c A hx hb hr hml hlk hnm hts hown hK hP hD hA hS ls hl
  have hl : lv_has ls 3 [(0, .ref (a 0)), (1, .int x1), (2, .int x2)] := hl
  have hiX1 : ∀ w ∈ wsX10, w ∈ wsX9_make := fun w h => List.mem_cons_of_mem _ (List.mem_append_left _ (List.mem_append_right _ h))
  have hiX2 : ∀ w ∈ wsX20, w ∈ wsX9_make := fun w h => List.mem_cons_of_mem _ (List.mem_append_left _ (List.mem_append_left _ (List.mem_append_right _ h)))
  have hiX3 : ∀ w ∈ wsX30, w ∈ wsX9_make := fun w h => List.mem_cons_of_mem _ (List.mem_append_right _ h)
  have hiX6 : ∀ w ∈ wsX60, w ∈ wsX9_make := fun w h => List.mem_cons_of_mem _ (List.mem_append_left _ (List.mem_append_left _ (List.mem_append_left _ (List.mem_append_right _ h))))
  have hiX9 : ∀ w ∈ wsX90, w ∈ wsX9_make := fun w h => List.mem_cons_of_mem _ (List.mem_append_left _ (List.mem_append_left _ (List.mem_append_left _ (List.mem_append_left _ (List.mem_append_right _ h)))))
  unfold m_X9_make at hm
  refine lv_iload_n hx hb dX9_make_0 rfl (lv_at hl 1 rfl) ?_
  refine lv_if_lt (tgt := 21) hx hb dX9_make_1 (by decide) (fun c1 => ?_) (fun c1 => ?_)
  · have hm := ip c1 hm
    refine lv_iconst (v := (-1)) hx hb dX9_make_21 (by decide) ?_
    cases hm
    exact rI () hx hb hr hlk hP hD hS dX9_make_22
  · have hm := ine c1 hm
    refine lv_iload_n hx hb dX9_make_4 rfl (lv_at hl 1 rfl) ?_
    refine lv_ldc (v := 65535) hx hb hown (hts (.constant RX9 251 (65535)) (List.mem_of_getElem? (i := 1) rfl)) dX9_make_5 ?_
    refine lv_icmp_gt (tgt := 21) hx hb dX9_make_7 (by decide) (fun c7 => ?_) (fun c7 => ?_)
    · have hm := ip c7 hm
      refine lv_iconst (v := (-1)) hx hb dX9_make_21 (by decide) ?_
      cases hm
      exact rI () hx hb hr hlk hP hD hS dX9_make_22
    · have hm := ine c7 hm
      refine lv_iload_n hx hb dX9_make_10 rfl (lv_at hl 2 rfl) ?_
      refine lv_iconst (v := 2) hx hb dX9_make_11 (by decide) ?_
      refine lv_icmp_lt (tgt := 21) hx hb dX9_make_12 (by decide) (fun c12 => ?_) (fun c12 => ?_)
      · have hm := ip c12 hm
        refine lv_iconst (v := (-1)) hx hb dX9_make_21 (by decide) ?_
        cases hm
        exact rI () hx hb hr hlk hP hD hS dX9_make_22
      · have hm := ine c12 hm
        refine lv_iload_n hx hb dX9_make_15 rfl (lv_at hl 2 rfl) ?_
        refine lv_bipush (v := 24) hx hb dX9_make_16 (by decide) ?_
        refine lv_icmp_le (tgt := 23) hx hb dX9_make_18 (by decide) (fun c18 => ?_) (fun c18 => ?_)
        · have hm := ip c18 hm
          refine lv_aload_n hx hb dX9_make_23 rfl (lv_at hl 0 rfl) ?_
          refine va_get (D := D) (ci := 9) (v := .ref (a 31)) (C := RX9) (T := TX9) (N := 9) hx hb hts hiX9 hown hK.1 hP 0 rfl rfl 7 (by decide) (hts (.fieldLink RX9 69 "IslandBridges" "history" "LIslandBridges$History;") (List.mem_of_getElem? (i := 2) rfl)) (fun _ h9 => h9) rfl dX9_make_24 ?_
          refine lv_aload_n hx hb dX9_make_27 rfl (lv_at hl 0 rfl) ?_
          refine va_get (D := D) (ci := 9) (v := .ref (a 1)) (C := RX9) (T := TX9) (N := 9) hx hb hts hiX9 hown hK.1 hP 0 rfl rfl 0 (by decide) (hts (.fieldLink RX9 10 "IslandBridges" "state" "LIslandBridges$State;") (List.mem_of_getElem? (i := 3) rfl)) (fun _ h9 => h9) rfl dX9_make_28 ?_
          obtain ⟨v1, v2, v3, v4, v5, v6, v7, v8, v9, h_v1, hm⟩ := bd9_inv hm
          refine cVx ⟨hx, hb, hml, hown, hts⟩ (c_X1_record l D cI cJ cS cB a S_columns S_rows S_grade S_stepsMade S_numbers S_bridges S_caps H_size Hb HN HB HC Hc Hr Hg Hs v1 v2 v3 v4 v5 v6 v7 v8 v9 h_v1) (cwV 1 hts gX9_make_X1_record rfl rfl rfl hd_X1_record ⟨(Nat.le_of_ble_eq_true rfl), (Nat.le_of_ble_eq_true rfl)⟩) hK hP hD hS hA [1, 2, 3, 4, 19, 20, 21, 22, 23, 24, 25, 26, 27, 28, 29, 30, 31, 32, 33, 34, 35, 36] rfl rfl [o_X a , o_S a S_columns S_rows S_grade S_stepsMade, ai (a 2) cI 144 S_numbers, ai (a 3) cI 48 S_bridges, ai (a 4) cI 48 S_caps, o_Y a Y_islands Y_ways, ai (a 6) cI 24 Y_cellOf, ai (a 7) cI 144 Y_islandAfter, ai (a 8) cI 48 Y_firstOf, ai (a 9) cI 48 Y_secondOf, ai (a 10) cI 48 Y_firstCellOf, ai (a 11) cI 48 Y_secondCellOf, ai (a 12) cI 48 Y_strideOf, ai (a 13) cI 24 Y_waysOf, aj (a 14) cJ 48 Y_crossings, o_K a K_columns K_rows K_islands K_z, ai (a 28) cI 144 K_taken, ai (a 29) cI 144 K_numbers, ai (a 30) cI 24 K_cellOf, o_H a v1, aq (a 32) cS 4 (hq v2), o_h (v2 0) (v2 1) (v2 2) (v2 3) (v6 0) (v7 0) (v8 0) (v9 0), ai (v2 1) cI 144 (v3 0), ai (v2 2) cI 48 (v4 0), ai (v2 3) cI 48 (v5 0), o_h (v2 4) (v2 5) (v2 6) (v2 7) (v6 1) (v7 1) (v8 1) (v9 1), ai (v2 5) cI 144 (v3 1), ai (v2 6) cI 48 (v4 1), ai (v2 7) cI 48 (v5 1), o_h (v2 8) (v2 9) (v2 10) (v2 11) (v6 2) (v7 2) (v8 2) (v9 2), ai (v2 9) cI 144 (v3 2), ai (v2 10) cI 48 (v4 2), ai (v2 11) cI 48 (v5 2), o_h (v2 12) (v2 13) (v2 14) (v2 15) (v6 3) (v7 3) (v8 3) (v9 3), ai (v2 13) cI 144 (v3 3), ai (v2 14) cI 48 (v4 3), ai (v2 15) cI 48 (v5 3)] [(false, 0), (true, 0), (true, 1), (true, 2), (true, 3), (false, 5), (false, 6), (false, 7), (false, 8), (false, 9), (false, 10), (false, 11), (false, 12), (false, 13), (false, 14), (false, 15), (false, 16), (false, 17), (false, 18), (true, 4), (true, 5), (true, 6), (true, 7), (true, 8), (true, 9), (true, 10), (true, 11), (true, 12), (true, 13), (true, 14), (true, 15), (true, 16), (true, 17), (true, 18), (true, 19), (true, 20), (true, 21)] rfl rfl rfl hl.1 (Nat.le_of_ble_eq_true rfl) ⟨Nat.zero_le _, Nat.zero_le _⟩ 19 rfl rfl rfl rfl dX9_make_31 (fun H locs hP hD hS => ?_)
          refine lv_aload_n hx hb dX9_make_34 rfl (lv_at hl 0 rfl) ?_
          refine va_get (D := D) (ci := 9) (v := .ref (a 27)) (C := RX9) (T := TX9) (N := 9) hx hb hts hiX9 hown hK.1 hP 0 rfl rfl 6 (by decide) (hts (.fieldLink RX9 62 "IslandBridges" "maker" "LIslandBridges$Maker;") (List.mem_of_getElem? (i := 4) rfl)) (fun _ h9 => h9) rfl dX9_make_35 ?_
          refine lv_aload_n hx hb dX9_make_38 rfl (lv_at hl 0 rfl) ?_
          refine va_get (D := D) (ci := 9) (v := .ref (a 1)) (C := RX9) (T := TX9) (N := 9) hx hb hts hiX9 hown hK.1 hP 0 rfl rfl 0 (by decide) (hts (.fieldLink RX9 10 "IslandBridges" "state" "LIslandBridges$State;") (List.mem_of_getElem? (i := 3) rfl)) (fun _ h9 => h9) rfl dX9_make_39 ?_
          refine va_get (D := D) (ci := 6) (v := .int S_columns) (C := RX6) (T := TX6) (N := 7) hx hb hts hiX6 hown hK.1 hP 1 rfl rfl 3 (by decide) (hts (.fieldLink RX9 189 "IslandBridges$State" "columns" "I") (List.mem_of_getElem? (i := 5) rfl)) (fun _ h9 => h9) rfl dX9_make_42 ?_
          refine lv_aload_n hx hb dX9_make_45 rfl (lv_at hl 0 rfl) ?_
          refine va_get (D := D) (ci := 9) (v := .ref (a 1)) (C := RX9) (T := TX9) (N := 9) hx hb hts hiX9 hown hK.1 hP 0 rfl rfl 0 (by decide) (hts (.fieldLink RX9 10 "IslandBridges" "state" "LIslandBridges$State;") (List.mem_of_getElem? (i := 3) rfl)) (fun _ h9 => h9) rfl dX9_make_46 ?_
          refine va_get (D := D) (ci := 6) (v := .int S_rows) (C := RX6) (T := TX6) (N := 7) hx hb hts hiX6 hown hK.1 hP 1 rfl rfl 4 (by decide) (hts (.fieldLink RX9 192 "IslandBridges$State" "rows" "I") (List.mem_of_getElem? (i := 6) rfl)) (fun _ h9 => h9) rfl dX9_make_49 ?_
          refine lv_iload_n hx hb dX9_make_52 rfl (lv_at hl 1 rfl) ?_
          refine lv_iload_n hx hb dX9_make_53 rfl (lv_at hl 2 rfl) ?_
          obtain ⟨v10, v11, v12, v13, v14, v15, v16, h_v10, hm⟩ := bd7_inv hm
          refine cVx ⟨hx, hb, hml, hown, hts⟩ (c_X3_run l D cI cJ cS cB a K_columns K_rows K_islands K_z K_taken K_numbers K_cellOf S_columns S_rows x1 x2 N v10 v11 v12 v13 v14 v15 v16 h_v10) (cwV 4 hts gX9_make_X3_run rfl rfl rfl hd_X3_run ⟨(Nat.le_of_ble_eq_true rfl), (Nat.le_of_ble_eq_true rfl)⟩) hK hP hD hS hA [15, 16, 17, 18] rfl rfl [o_X a , o_S a S_columns S_rows S_grade S_stepsMade, ai (a 2) cI 144 S_numbers, ai (a 3) cI 48 S_bridges, ai (a 4) cI 48 S_caps, o_Y a Y_islands Y_ways, ai (a 6) cI 24 Y_cellOf, ai (a 7) cI 144 Y_islandAfter, ai (a 8) cI 48 Y_firstOf, ai (a 9) cI 48 Y_secondOf, ai (a 10) cI 48 Y_firstCellOf, ai (a 11) cI 48 Y_secondCellOf, ai (a 12) cI 48 Y_strideOf, ai (a 13) cI 24 Y_waysOf, aj (a 14) cJ 48 Y_crossings, o_K a v10 v11 v12 v13, ai (a 28) cI 144 v14, ai (a 29) cI 144 v15, ai (a 30) cI 24 v16, o_H a v1, aq (a 32) cS 4 (hq v2), o_h (v2 0) (v2 1) (v2 2) (v2 3) (v6 0) (v7 0) (v8 0) (v9 0), ai (v2 1) cI 144 (v3 0), ai (v2 2) cI 48 (v4 0), ai (v2 3) cI 48 (v5 0), o_h (v2 4) (v2 5) (v2 6) (v2 7) (v6 1) (v7 1) (v8 1) (v9 1), ai (v2 5) cI 144 (v3 1), ai (v2 6) cI 48 (v4 1), ai (v2 7) cI 48 (v5 1), o_h (v2 8) (v2 9) (v2 10) (v2 11) (v6 2) (v7 2) (v8 2) (v9 2), ai (v2 9) cI 144 (v3 2), ai (v2 10) cI 48 (v4 2), ai (v2 11) cI 48 (v5 2), o_h (v2 12) (v2 13) (v2 14) (v2 15) (v6 3) (v7 3) (v8 3) (v9 3), ai (v2 13) cI 144 (v3 3), ai (v2 14) cI 48 (v4 3), ai (v2 15) cI 48 (v5 3)] [(false, 0), (false, 1), (false, 2), (false, 3), (false, 4), (false, 5), (false, 6), (false, 7), (false, 8), (false, 9), (false, 10), (false, 11), (false, 12), (false, 13), (false, 14), (true, 0), (true, 1), (true, 2), (true, 3), (false, 19), (false, 20), (false, 21), (false, 22), (false, 23), (false, 24), (false, 25), (false, 26), (false, 27), (false, 28), (false, 29), (false, 30), (false, 31), (false, 32), (false, 33), (false, 34), (false, 35), (false, 36)] rfl rfl rfl hl.1 (Nat.le_of_ble_eq_true rfl) ⟨Nat.zero_le _, Nat.zero_le _⟩ 15 rfl rfl rfl rfl dX9_make_54 (fun H locs hP hD hS => ?_)
          refine lv_aload_n hx hb dX9_make_57 rfl (lv_at hl 0 rfl) ?_
          refine va_get (D := D) (ci := 9) (v := .ref (a 27)) (C := RX9) (T := TX9) (N := 9) hx hb hts hiX9 hown hK.1 hP 0 rfl rfl 6 (by decide) (hts (.fieldLink RX9 62 "IslandBridges" "maker" "LIslandBridges$Maker;") (List.mem_of_getElem? (i := 4) rfl)) (fun _ h9 => h9) rfl dX9_make_58 ?_
          refine lv_aload_n hx hb dX9_make_61 rfl (lv_at hl 0 rfl) ?_
          refine va_get (D := D) (ci := 9) (v := .ref (a 1)) (C := RX9) (T := TX9) (N := 9) hx hb hts hiX9 hown hK.1 hP 0 rfl rfl 0 (by decide) (hts (.fieldLink RX9 10 "IslandBridges" "state" "LIslandBridges$State;") (List.mem_of_getElem? (i := 3) rfl)) (fun _ h9 => h9) rfl dX9_make_62 ?_
          obtain ⟨v17, h_v17, hm⟩ := bd1_inv hm
          refine cVx ⟨hx, hb, hml, hown, hts⟩ (c_X3_giveNumbersTo l D cI cJ cS cB a S_columns S_rows S_grade S_stepsMade S_numbers v10 v11 v12 v13 v15 v16 N v17 h_v17) (cwV 1 hts gX9_make_X3_giveNumbersTo rfl rfl rfl hd_X3_giveNumbersTo ⟨(Nat.le_of_ble_eq_true rfl), (Nat.le_of_ble_eq_true rfl)⟩) hK hP hD hS hA [1, 2, 15, 17, 18] rfl rfl [o_X a , o_S a S_columns S_rows S_grade S_stepsMade, ai (a 2) cI 144 v17, ai (a 3) cI 48 S_bridges, ai (a 4) cI 48 S_caps, o_Y a Y_islands Y_ways, ai (a 6) cI 24 Y_cellOf, ai (a 7) cI 144 Y_islandAfter, ai (a 8) cI 48 Y_firstOf, ai (a 9) cI 48 Y_secondOf, ai (a 10) cI 48 Y_firstCellOf, ai (a 11) cI 48 Y_secondCellOf, ai (a 12) cI 48 Y_strideOf, ai (a 13) cI 24 Y_waysOf, aj (a 14) cJ 48 Y_crossings, o_K a v10 v11 v12 v13, ai (a 28) cI 144 v14, ai (a 29) cI 144 v15, ai (a 30) cI 24 v16, o_H a v1, aq (a 32) cS 4 (hq v2), o_h (v2 0) (v2 1) (v2 2) (v2 3) (v6 0) (v7 0) (v8 0) (v9 0), ai (v2 1) cI 144 (v3 0), ai (v2 2) cI 48 (v4 0), ai (v2 3) cI 48 (v5 0), o_h (v2 4) (v2 5) (v2 6) (v2 7) (v6 1) (v7 1) (v8 1) (v9 1), ai (v2 5) cI 144 (v3 1), ai (v2 6) cI 48 (v4 1), ai (v2 7) cI 48 (v5 1), o_h (v2 8) (v2 9) (v2 10) (v2 11) (v6 2) (v7 2) (v8 2) (v9 2), ai (v2 9) cI 144 (v3 2), ai (v2 10) cI 48 (v4 2), ai (v2 11) cI 48 (v5 2), o_h (v2 12) (v2 13) (v2 14) (v2 15) (v6 3) (v7 3) (v8 3) (v9 3), ai (v2 13) cI 144 (v3 3), ai (v2 14) cI 48 (v4 3), ai (v2 15) cI 48 (v5 3)] [(false, 0), (true, 0), (true, 1), (false, 3), (false, 4), (false, 5), (false, 6), (false, 7), (false, 8), (false, 9), (false, 10), (false, 11), (false, 12), (false, 13), (false, 14), (true, 2), (false, 16), (true, 3), (true, 4), (false, 19), (false, 20), (false, 21), (false, 22), (false, 23), (false, 24), (false, 25), (false, 26), (false, 27), (false, 28), (false, 29), (false, 30), (false, 31), (false, 32), (false, 33), (false, 34), (false, 35), (false, 36)] rfl rfl rfl hl.1 (Nat.le_of_ble_eq_true rfl) ⟨Nat.zero_le _, Nat.zero_le _⟩ 15 rfl rfl rfl rfl dX9_make_65 (fun H locs hP hD hS => ?_)
          refine lv_aload_n hx hb dX9_make_68 rfl (lv_at hl 0 rfl) ?_
          obtain ⟨v18, v19, v20, v21, v22, v23, v24, v25, v26, v27, v28, v29, v30, v31, v32, h_v18, hm⟩ := bd15_inv hm
          refine cVx ⟨hx, hb, hml, hown, hts⟩ (c_X9_renewWays l D cI cJ cS cB a S_columns S_rows S_grade S_stepsMade v17 S_bridges S_caps Y_islands Y_ways Y_cellOf Y_islandAfter Y_firstOf Y_secondOf Y_firstCellOf Y_secondCellOf Y_strideOf Y_waysOf Y_crossings N v18 v19 v20 v21 v22 v23 v24 v25 v26 v27 v28 v29 v30 v31 v32 h_v18) (cwV 0 hts gX9_make_X9_renewWays rfl rfl rfl hd_X9_renewWays ⟨(Nat.le_of_ble_eq_true rfl), (Nat.le_of_ble_eq_true rfl)⟩) hK hP hD hS hA [0, 1, 2, 3, 4, 5, 6, 7, 8, 9, 10, 11, 12, 13, 14] rfl rfl [o_X a , o_S a S_columns S_rows v18 v19, ai (a 2) cI 144 v17, ai (a 3) cI 48 v20, ai (a 4) cI 48 v21, o_Y a v22 v23, ai (a 6) cI 24 v24, ai (a 7) cI 144 v25, ai (a 8) cI 48 v26, ai (a 9) cI 48 v27, ai (a 10) cI 48 v28, ai (a 11) cI 48 v29, ai (a 12) cI 48 v30, ai (a 13) cI 24 v31, aj (a 14) cJ 48 v32, o_K a v10 v11 v12 v13, ai (a 28) cI 144 v14, ai (a 29) cI 144 v15, ai (a 30) cI 24 v16, o_H a v1, aq (a 32) cS 4 (hq v2), o_h (v2 0) (v2 1) (v2 2) (v2 3) (v6 0) (v7 0) (v8 0) (v9 0), ai (v2 1) cI 144 (v3 0), ai (v2 2) cI 48 (v4 0), ai (v2 3) cI 48 (v5 0), o_h (v2 4) (v2 5) (v2 6) (v2 7) (v6 1) (v7 1) (v8 1) (v9 1), ai (v2 5) cI 144 (v3 1), ai (v2 6) cI 48 (v4 1), ai (v2 7) cI 48 (v5 1), o_h (v2 8) (v2 9) (v2 10) (v2 11) (v6 2) (v7 2) (v8 2) (v9 2), ai (v2 9) cI 144 (v3 2), ai (v2 10) cI 48 (v4 2), ai (v2 11) cI 48 (v5 2), o_h (v2 12) (v2 13) (v2 14) (v2 15) (v6 3) (v7 3) (v8 3) (v9 3), ai (v2 13) cI 144 (v3 3), ai (v2 14) cI 48 (v4 3), ai (v2 15) cI 48 (v5 3)] [(true, 0), (true, 1), (true, 2), (true, 3), (true, 4), (true, 5), (true, 6), (true, 7), (true, 8), (true, 9), (true, 10), (true, 11), (true, 12), (true, 13), (true, 14), (false, 15), (false, 16), (false, 17), (false, 18), (false, 19), (false, 20), (false, 21), (false, 22), (false, 23), (false, 24), (false, 25), (false, 26), (false, 27), (false, 28), (false, 29), (false, 30), (false, 31), (false, 32), (false, 33), (false, 34), (false, 35), (false, 36)] rfl rfl rfl hl.1 (Nat.le_of_ble_eq_true rfl) ⟨Nat.zero_le _, Nat.zero_le _⟩ 0 rfl rfl rfl rfl dX9_make_69 (fun H locs hP hD hS => ?_)
          refine lv_aload_n hx hb dX9_make_72 rfl (lv_at hl 0 rfl) ?_
          refine va_get (D := D) (ci := 9) (v := .ref (a 5)) (C := RX9) (T := TX9) (N := 9) hx hb hts hiX9 hown hK.1 hP 0 rfl rfl 1 (by decide) (hts (.fieldLink RX9 19 "IslandBridges" "layout" "LIslandBridges$Layout;") (List.mem_of_getElem? (i := 7) rfl)) (fun _ h9 => h9) rfl dX9_make_73 ?_
          refine va_get (D := D) (ci := 2) (v := .int v22) (C := RX2) (T := TX2) (N := 11) hx hb hts hiX2 hown hK.1 hP 5 rfl rfl 9 (by decide) (hts (.fieldLink RX9 84 "IslandBridges$Layout" "islands" "I") (List.mem_of_getElem? (i := 8) rfl)) (fun _ h9 => h9) rfl dX9_make_76 ?_
          cases hm
          exact rI () hx hb hr hlk hP hD hS dX9_make_79
        · have hm := ine c18 hm
          refine lv_iconst (v := (-1)) hx hb dX9_make_21 (by decide) ?_
          cases hm
          exact rI () hx hb hr hlk hP hD hS dX9_make_22
theorem hd_X9_undo : yX9_undo.cls = RX9 ∧ yX9_undo.cls ≠ "java/lang/invoke/MethodHandle" ∧ yX9_undo.cls ≠ "java/lang/invoke/VarHandle" ∧ (parseMethodDescriptor yX9_undo.desc).map (fun d => d.parameters.length) = some 0 := by decide +kernel
def m_X9_undo (N : Nat) (S_columns : Int32) (S_rows : Int32) (S_grade : Int32) (S_stepsMade : Int32) (S_numbers : Nat → Int32) (S_bridges : Nat → Int32) (S_caps : Nat → Int32) (Y_islands : Int32) (Y_ways : Int32) (Y_cellOf : Nat → Int32) (Y_islandAfter : Nat → Int32) (Y_firstOf : Nat → Int32) (Y_secondOf : Nat → Int32) (Y_firstCellOf : Nat → Int32) (Y_secondCellOf : Nat → Int32) (Y_strideOf : Nat → Int32) (Y_waysOf : Nat → Int32) (Y_crossings : Nat → Int64) (H_size : Int32) (HN : Nat → Nat → Int32) (HB : Nat → Nat → Int32) (HC : Nat → Nat → Int32) (Hc : Nat → Int32) (Hr : Nat → Int32) (Hg : Nat → Int32) (Hs : Nat → Int32) : Option (Int32 × Int32 × Int32 × Int32 × Int32 × (Nat → Int32) × (Nat → Int32) × (Nat → Int32) × Int32 × Int32 × (Nat → Int32) × (Nat → Int32) × (Nat → Int32) × (Nat → Int32) × (Nat → Int32) × (Nat → Int32) × (Nat → Int32) × (Nat → Int32) × (Nat → Int64) × Int32) :=
  if H_size = 0 then (some (((-2), S_columns, S_rows, S_grade, S_stepsMade, S_numbers, S_bridges, S_caps, Y_islands, Y_ways, Y_cellOf, Y_islandAfter, Y_firstOf, Y_secondOf, Y_firstCellOf, Y_secondCellOf, Y_strideOf, Y_waysOf, Y_crossings, H_size))) else (bd8 (m_X1_restore S_numbers S_bridges S_caps H_size HN HB HC Hc Hr Hg Hs) (fun v1 v2 v3 v4 v5 v6 v7 v8 => bd11 (m_X2_read N v1 v2 v5 Y_cellOf Y_islandAfter Y_firstOf Y_secondOf Y_firstCellOf Y_secondCellOf Y_strideOf Y_waysOf Y_crossings) (fun v9 v10 v11 v12 v13 v14 v15 v16 v17 v18 v19 => some ((v8, v1, v2, v3, v4, v5, v6, v7, v9, v10, v11, v12, v13, v14, v15, v16, v17, v18, v19, v8)))))
set_option maxHeartbeats 4000000 in
set_option maxRecDepth 100000 in
theorem c_X9_undo (l : Launch) (D : va_G) (cI cJ cS cB : ClassId) (a : Nat → Nat) (S_columns : Int32) (S_rows : Int32) (S_grade : Int32) (S_stepsMade : Int32) (S_numbers : Nat → Int32) (S_bridges : Nat → Int32) (S_caps : Nat → Int32) (Y_islands : Int32) (Y_ways : Int32) (Y_cellOf : Nat → Int32) (Y_islandAfter : Nat → Int32) (Y_firstOf : Nat → Int32) (Y_secondOf : Nat → Int32) (Y_firstCellOf : Nat → Int32) (Y_secondCellOf : Nat → Int32) (Y_strideOf : Nat → Int32) (Y_waysOf : Nat → Int32) (Y_crossings : Nat → Int64) (H_size : Int32) (Hb : Nat → Nat) (HN : Nat → Nat → Int32) (HB : Nat → Nat → Int32) (HC : Nat → Nat → Int32) (Hc : Nat → Int32) (Hr : Nat → Int32) (Hg : Nat → Int32) (Hs : Nat → Int32)  (N : Nat) (r0 : Int32) (S_columns' : Int32) (S_rows' : Int32) (S_grade' : Int32) (S_stepsMade' : Int32) (S_numbers' : Nat → Int32) (S_bridges' : Nat → Int32) (S_caps' : Nat → Int32) (Y_islands' : Int32) (Y_ways' : Int32) (Y_cellOf' : Nat → Int32) (Y_islandAfter' : Nat → Int32) (Y_firstOf' : Nat → Int32) (Y_secondOf' : Nat → Int32) (Y_firstCellOf' : Nat → Int32) (Y_secondCellOf' : Nat → Int32) (Y_strideOf' : Nat → Int32) (Y_waysOf' : Nat → Int32) (Y_crossings' : Nat → Int64) (H_size' : Int32) (hm : m_X9_undo N S_columns S_rows S_grade S_stepsMade S_numbers S_bridges S_caps Y_islands Y_ways Y_cellOf Y_islandAfter Y_firstOf Y_secondOf Y_firstCellOf Y_secondCellOf Y_strideOf Y_waysOf Y_crossings H_size HN HB HC Hc Hr Hg Hs = some (r0, S_columns', S_rows', S_grade', S_stepsMade', S_numbers', S_bridges', S_caps', Y_islands', Y_ways', Y_cellOf', Y_islandAfter', Y_firstOf', Y_secondOf', Y_firstCellOf', Y_secondCellOf', Y_strideOf', Y_waysOf', Y_crossings', H_size')) :
    mU l D (TYs cI cJ cS cB) yX9_undo wsX9_undo { frames := 5, cells := 0, slots := 0, locals := 123 } [.ref (a 0)] [o_X a , o_S a S_columns S_rows S_grade S_stepsMade, ai (a 2) cI 144 S_numbers, ai (a 3) cI 48 S_bridges, ai (a 4) cI 48 S_caps, o_Y a Y_islands Y_ways, ai (a 6) cI 24 Y_cellOf, ai (a 7) cI 144 Y_islandAfter, ai (a 8) cI 48 Y_firstOf, ai (a 9) cI 48 Y_secondOf, ai (a 10) cI 48 Y_firstCellOf, ai (a 11) cI 48 Y_secondCellOf, ai (a 12) cI 48 Y_strideOf, ai (a 13) cI 24 Y_waysOf, aj (a 14) cJ 48 Y_crossings, o_H a H_size, aq (a 32) cS 4 (hq Hb), o_h (Hb 0) (Hb 1) (Hb 2) (Hb 3) (Hc 0) (Hr 0) (Hg 0) (Hs 0), ai (Hb 1) cI 144 (HN 0), ai (Hb 2) cI 48 (HB 0), ai (Hb 3) cI 48 (HC 0), o_h (Hb 4) (Hb 5) (Hb 6) (Hb 7) (Hc 1) (Hr 1) (Hg 1) (Hs 1), ai (Hb 5) cI 144 (HN 1), ai (Hb 6) cI 48 (HB 1), ai (Hb 7) cI 48 (HC 1), o_h (Hb 8) (Hb 9) (Hb 10) (Hb 11) (Hc 2) (Hr 2) (Hg 2) (Hs 2), ai (Hb 9) cI 144 (HN 2), ai (Hb 10) cI 48 (HB 2), ai (Hb 11) cI 48 (HC 2), o_h (Hb 12) (Hb 13) (Hb 14) (Hb 15) (Hc 3) (Hr 3) (Hg 3) (Hs 3), ai (Hb 13) cI 144 (HN 3), ai (Hb 14) cI 48 (HB 3), ai (Hb 15) cI 48 (HC 3)] [o_X a , o_S a S_columns' S_rows' S_grade' S_stepsMade', ai (a 2) cI 144 S_numbers', ai (a 3) cI 48 S_bridges', ai (a 4) cI 48 S_caps', o_Y a Y_islands' Y_ways', ai (a 6) cI 24 Y_cellOf', ai (a 7) cI 144 Y_islandAfter', ai (a 8) cI 48 Y_firstOf', ai (a 9) cI 48 Y_secondOf', ai (a 10) cI 48 Y_firstCellOf', ai (a 11) cI 48 Y_secondCellOf', ai (a 12) cI 48 Y_strideOf', ai (a 13) cI 24 Y_waysOf', aj (a 14) cJ 48 Y_crossings', o_H a H_size', aq (a 32) cS 4 (hq Hb), o_h (Hb 0) (Hb 1) (Hb 2) (Hb 3) (Hc 0) (Hr 0) (Hg 0) (Hs 0), ai (Hb 1) cI 144 (HN 0), ai (Hb 2) cI 48 (HB 0), ai (Hb 3) cI 48 (HC 0), o_h (Hb 4) (Hb 5) (Hb 6) (Hb 7) (Hc 1) (Hr 1) (Hg 1) (Hs 1), ai (Hb 5) cI 144 (HN 1), ai (Hb 6) cI 48 (HB 1), ai (Hb 7) cI 48 (HC 1), o_h (Hb 8) (Hb 9) (Hb 10) (Hb 11) (Hc 2) (Hr 2) (Hg 2) (Hs 2), ai (Hb 9) cI 144 (HN 2), ai (Hb 10) cI 48 (HB 2), ai (Hb 11) cI 48 (HC 2), o_h (Hb 12) (Hb 13) (Hb 14) (Hb 15) (Hc 3) (Hr 3) (Hg 3) (Hs 3), ai (Hb 13) cI 144 (HN 3), ai (Hb 14) cI 48 (HB 3), ai (Hb 15) cI 48 (HC 3)] (some (.int r0)) := by
  refine mG_of (cc := cX9_undo) (maxL := 1) (ret := (some .int)) (by decide) rfl rfl (Nat.le_of_ble_eq_true rfl) ?_
  intro p e s m args below meth c A hx hb hr hml hlk hnm hts hown hK hP hD hA hS ls hl
  have hl : lv_has ls 1 [(0, .ref (a 0))] := hl
  have hiX1 : ∀ w ∈ wsX10, w ∈ wsX9_undo := fun w h => List.mem_cons_of_mem _ (List.mem_append_left _ (List.mem_append_left _ (List.mem_append_right _ h)))
  have hiX2 : ∀ w ∈ wsX20, w ∈ wsX9_undo := fun w h => List.mem_cons_of_mem _ (List.mem_append_right _ h)
  have hiX6 : ∀ w ∈ wsX60, w ∈ wsX9_undo := fun w h => List.mem_cons_of_mem _ (List.mem_append_left _ (List.mem_append_right _ h))
  have hiX9 : ∀ w ∈ wsX90, w ∈ wsX9_undo := fun w h => List.mem_cons_of_mem _ (List.mem_append_left _ (List.mem_append_left _ (List.mem_append_left _ (List.mem_append_right _ h))))
  unfold m_X9_undo at hm
  refine lv_aload_n hx hb dX9_undo_0 rfl (lv_at hl 0 rfl) ?_
  refine va_get (D := D) (ci := 9) (v := .ref (a 31)) (C := RX9) (T := TX9) (N := 9) hx hb hts hiX9 hown hK.1 hP 0 rfl rfl 7 (by decide) (hts (.fieldLink RX9 69 "IslandBridges" "history" "LIslandBridges$History;") (List.mem_of_getElem? (i := 1) rfl)) (fun _ h9 => h9) rfl dX9_undo_1 ?_
  refine va_get (D := D) (ci := 1) (v := .int H_size) (C := RX1) (T := TX1) (N := 2) hx hb hts hiX1 hown hK.1 hP 15 rfl rfl 1 (by decide) (hts (.fieldLink RX9 221 "IslandBridges$History" "size" "I") (List.mem_of_getElem? (i := 2) rfl)) (fun _ h9 => h9) rfl dX9_undo_4 ?_
  refine lv_if_ne (tgt := 13) hx hb dX9_undo_7 (by decide) (fun c7 => ?_) (fun c7 => ?_)
  · have hm := ine c7 hm
    refine lv_aload_n hx hb dX9_undo_13 rfl (lv_at hl 0 rfl) ?_
    refine va_get (D := D) (ci := 9) (v := .ref (a 31)) (C := RX9) (T := TX9) (N := 9) hx hb hts hiX9 hown hK.1 hP 0 rfl rfl 7 (by decide) (hts (.fieldLink RX9 69 "IslandBridges" "history" "LIslandBridges$History;") (List.mem_of_getElem? (i := 1) rfl)) (fun _ h9 => h9) rfl dX9_undo_14 ?_
    refine lv_aload_n hx hb dX9_undo_17 rfl (lv_at hl 0 rfl) ?_
    refine va_get (D := D) (ci := 9) (v := .ref (a 1)) (C := RX9) (T := TX9) (N := 9) hx hb hts hiX9 hown hK.1 hP 0 rfl rfl 0 (by decide) (hts (.fieldLink RX9 10 "IslandBridges" "state" "LIslandBridges$State;") (List.mem_of_getElem? (i := 3) rfl)) (fun _ h9 => h9) rfl dX9_undo_18 ?_
    obtain ⟨v1, v2, v3, v4, v5, v6, v7, v8, h_v1, hm⟩ := bd8_inv hm
    refine cVx ⟨hx, hb, hml, hown, hts⟩ (c_X1_restore l D cI cJ cS cB a S_columns S_rows S_grade S_stepsMade S_numbers S_bridges S_caps H_size Hb HN HB HC Hc Hr Hg Hs v1 v2 v3 v4 v5 v6 v7 v8 h_v1) (cwV 1 hts gX9_undo_X1_restore rfl rfl rfl hd_X1_restore ⟨(Nat.le_of_ble_eq_true rfl), (Nat.le_of_ble_eq_true rfl)⟩) hK hP hD hS hA [1, 2, 3, 4, 15, 16, 17, 18, 19, 20, 21, 22, 23, 24, 25, 26, 27, 28, 29, 30, 31, 32] rfl rfl [o_X a , o_S a v1 v2 v3 v4, ai (a 2) cI 144 v5, ai (a 3) cI 48 v6, ai (a 4) cI 48 v7, o_Y a Y_islands Y_ways, ai (a 6) cI 24 Y_cellOf, ai (a 7) cI 144 Y_islandAfter, ai (a 8) cI 48 Y_firstOf, ai (a 9) cI 48 Y_secondOf, ai (a 10) cI 48 Y_firstCellOf, ai (a 11) cI 48 Y_secondCellOf, ai (a 12) cI 48 Y_strideOf, ai (a 13) cI 24 Y_waysOf, aj (a 14) cJ 48 Y_crossings, o_H a v8, aq (a 32) cS 4 (hq Hb), o_h (Hb 0) (Hb 1) (Hb 2) (Hb 3) (Hc 0) (Hr 0) (Hg 0) (Hs 0), ai (Hb 1) cI 144 (HN 0), ai (Hb 2) cI 48 (HB 0), ai (Hb 3) cI 48 (HC 0), o_h (Hb 4) (Hb 5) (Hb 6) (Hb 7) (Hc 1) (Hr 1) (Hg 1) (Hs 1), ai (Hb 5) cI 144 (HN 1), ai (Hb 6) cI 48 (HB 1), ai (Hb 7) cI 48 (HC 1), o_h (Hb 8) (Hb 9) (Hb 10) (Hb 11) (Hc 2) (Hr 2) (Hg 2) (Hs 2), ai (Hb 9) cI 144 (HN 2), ai (Hb 10) cI 48 (HB 2), ai (Hb 11) cI 48 (HC 2), o_h (Hb 12) (Hb 13) (Hb 14) (Hb 15) (Hc 3) (Hr 3) (Hg 3) (Hs 3), ai (Hb 13) cI 144 (HN 3), ai (Hb 14) cI 48 (HB 3), ai (Hb 15) cI 48 (HC 3)] [(false, 0), (true, 0), (true, 1), (true, 2), (true, 3), (false, 5), (false, 6), (false, 7), (false, 8), (false, 9), (false, 10), (false, 11), (false, 12), (false, 13), (false, 14), (true, 4), (true, 5), (true, 6), (true, 7), (true, 8), (true, 9), (true, 10), (true, 11), (true, 12), (true, 13), (true, 14), (true, 15), (true, 16), (true, 17), (true, 18), (true, 19), (true, 20), (true, 21)] rfl rfl rfl hl.1 (Nat.le_of_ble_eq_true rfl) ⟨Nat.zero_le _, Nat.zero_le _⟩ 15 rfl rfl rfl rfl dX9_undo_21 (fun H locs hP hD hS => ?_)
    refine lv_aload_n hx hb dX9_undo_24 rfl (lv_at hl 0 rfl) ?_
    refine va_get (D := D) (ci := 9) (v := .ref (a 5)) (C := RX9) (T := TX9) (N := 9) hx hb hts hiX9 hown hK.1 hP 0 rfl rfl 1 (by decide) (hts (.fieldLink RX9 19 "IslandBridges" "layout" "LIslandBridges$Layout;") (List.mem_of_getElem? (i := 4) rfl)) (fun _ h9 => h9) rfl dX9_undo_25 ?_
    refine lv_aload_n hx hb dX9_undo_28 rfl (lv_at hl 0 rfl) ?_
    refine va_get (D := D) (ci := 9) (v := .ref (a 1)) (C := RX9) (T := TX9) (N := 9) hx hb hts hiX9 hown hK.1 hP 0 rfl rfl 0 (by decide) (hts (.fieldLink RX9 10 "IslandBridges" "state" "LIslandBridges$State;") (List.mem_of_getElem? (i := 3) rfl)) (fun _ h9 => h9) rfl dX9_undo_29 ?_
    obtain ⟨v9, v10, v11, v12, v13, v14, v15, v16, v17, v18, v19, h_v9, hm⟩ := bd11_inv hm
    refine cVx ⟨hx, hb, hml, hown, hts⟩ (c_X2_read l D cI cJ cS cB a v1 v2 v3 v4 v5 Y_islands Y_ways Y_cellOf Y_islandAfter Y_firstOf Y_secondOf Y_firstCellOf Y_secondCellOf Y_strideOf Y_waysOf Y_crossings N v9 v10 v11 v12 v13 v14 v15 v16 v17 v18 v19 h_v9) (cwV 1 hts gX9_undo_X2_read rfl rfl rfl hd_X2_read ⟨(Nat.le_of_ble_eq_true rfl), (Nat.le_of_ble_eq_true rfl)⟩) hK hP hD hS hA [1, 2, 5, 6, 7, 8, 9, 10, 11, 12, 13, 14] rfl rfl [o_X a , o_S a v1 v2 v3 v4, ai (a 2) cI 144 v5, ai (a 3) cI 48 v6, ai (a 4) cI 48 v7, o_Y a v9 v10, ai (a 6) cI 24 v11, ai (a 7) cI 144 v12, ai (a 8) cI 48 v13, ai (a 9) cI 48 v14, ai (a 10) cI 48 v15, ai (a 11) cI 48 v16, ai (a 12) cI 48 v17, ai (a 13) cI 24 v18, aj (a 14) cJ 48 v19, o_H a v8, aq (a 32) cS 4 (hq Hb), o_h (Hb 0) (Hb 1) (Hb 2) (Hb 3) (Hc 0) (Hr 0) (Hg 0) (Hs 0), ai (Hb 1) cI 144 (HN 0), ai (Hb 2) cI 48 (HB 0), ai (Hb 3) cI 48 (HC 0), o_h (Hb 4) (Hb 5) (Hb 6) (Hb 7) (Hc 1) (Hr 1) (Hg 1) (Hs 1), ai (Hb 5) cI 144 (HN 1), ai (Hb 6) cI 48 (HB 1), ai (Hb 7) cI 48 (HC 1), o_h (Hb 8) (Hb 9) (Hb 10) (Hb 11) (Hc 2) (Hr 2) (Hg 2) (Hs 2), ai (Hb 9) cI 144 (HN 2), ai (Hb 10) cI 48 (HB 2), ai (Hb 11) cI 48 (HC 2), o_h (Hb 12) (Hb 13) (Hb 14) (Hb 15) (Hc 3) (Hr 3) (Hg 3) (Hs 3), ai (Hb 13) cI 144 (HN 3), ai (Hb 14) cI 48 (HB 3), ai (Hb 15) cI 48 (HC 3)] [(false, 0), (true, 0), (true, 1), (false, 3), (false, 4), (true, 2), (true, 3), (true, 4), (true, 5), (true, 6), (true, 7), (true, 8), (true, 9), (true, 10), (true, 11), (false, 15), (false, 16), (false, 17), (false, 18), (false, 19), (false, 20), (false, 21), (false, 22), (false, 23), (false, 24), (false, 25), (false, 26), (false, 27), (false, 28), (false, 29), (false, 30), (false, 31), (false, 32)] rfl rfl rfl hl.1 (Nat.le_of_ble_eq_true rfl) ⟨Nat.zero_le _, Nat.zero_le _⟩ 5 rfl rfl rfl rfl dX9_undo_32 (fun H locs hP hD hS => ?_)
    refine lv_aload_n hx hb dX9_undo_35 rfl (lv_at hl 0 rfl) ?_
    refine va_get (D := D) (ci := 9) (v := .ref (a 31)) (C := RX9) (T := TX9) (N := 9) hx hb hts hiX9 hown hK.1 hP 0 rfl rfl 7 (by decide) (hts (.fieldLink RX9 69 "IslandBridges" "history" "LIslandBridges$History;") (List.mem_of_getElem? (i := 1) rfl)) (fun _ h9 => h9) rfl dX9_undo_36 ?_
    refine va_get (D := D) (ci := 1) (v := .int v8) (C := RX1) (T := TX1) (N := 2) hx hb hts hiX1 hown hK.1 hP 15 rfl rfl 1 (by decide) (hts (.fieldLink RX9 221 "IslandBridges$History" "size" "I") (List.mem_of_getElem? (i := 2) rfl)) (fun _ h9 => h9) rfl dX9_undo_39 ?_
    cases hm
    exact rI () hx hb hr hlk hP hD hS dX9_undo_42
  · have hm := ip c7 hm
    refine lv_bipush (v := (-2)) hx hb dX9_undo_10 (by decide) ?_
    cases hm
    exact rI () hx hb hr hlk hP hD hS dX9_undo_12
