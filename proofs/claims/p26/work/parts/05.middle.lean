theorem hd_X3_draw : yX3_draw.cls = RX3 ∧ yX3_draw.cls ≠ "java/lang/invoke/MethodHandle" ∧ yX3_draw.cls ≠ "java/lang/invoke/VarHandle" ∧ (parseMethodDescriptor yX3_draw.desc).map (fun d => d.parameters.length) = some 1 := by decide +kernel
def m_X3_draw (K_z : Int32) (x1 : Int32) : Option (Int32 × Int32) :=
  lt1 (((75 * K_z) + 74) - ((75 * K_z) + 74) / 65537 * 65537) (fun v1 => if x1 ≤ 0 then (some ((0, v1))) else (rmd v1 x1 (fun v2 => some ((v2, v1)))))
set_option maxHeartbeats 4000000 in
set_option maxRecDepth 100000 in
theorem c_X3_draw (l : Launch) (D : va_G) (cI cJ cS cB : ClassId) (a : Nat → Nat) (K_columns : Int32) (K_rows : Int32) (K_islands : Int32) (K_z : Int32) (x1 : Int32) (r0 : Int32) (K_z' : Int32) (hm : m_X3_draw K_z x1 = some (r0, K_z')) :
    mU l D (TYs cI cJ cS cB) yX3_draw wsX3_draw { frames := 0, cells := 0, slots := 0, locals := 0 } [.ref (a 27), .int x1] [o_K a K_columns K_rows K_islands K_z] [o_K a K_columns K_rows K_islands K_z'] (some (.int r0)) := by
  refine mG_of (cc := cX3_draw) (maxL := 2) (ret := (some .int)) (by decide) rfl rfl (Nat.le_of_ble_eq_true rfl) ?_
  intro p e s m args below meth c A hx hb hr hml hlk hnm hts hown hK hP hD hA hS ls hl
  have hl : lv_has ls 2 [(0, .ref (a 27)), (1, .int x1)] := hl
  have hiX3 : ∀ w ∈ wsX30, w ∈ wsX3_draw := fun w h => List.mem_cons_of_mem _ (List.mem_append_right _ h)
  unfold m_X3_draw at hm
  refine lv_aload_n hx hb dX3_draw_0 rfl (lv_at hl 0 rfl) ?_
  refine lv_bipush (v := 75) hx hb dX3_draw_1 (by decide) ?_
  refine lv_aload_n hx hb dX3_draw_3 rfl (lv_at hl 0 rfl) ?_
  refine va_get (D := D) (ci := 3) (v := .int K_z) (C := RX3) (T := TX3) (N := 7) hx hb hts hiX3 hown hK.1 hP 0 rfl rfl 6 (by decide) (hts (.fieldLink RX3 31 "IslandBridges$Maker" "z" "I") (List.mem_of_getElem? (i := 1) rfl)) (fun _ h9 => h9) rfl dX3_draw_4 ?_
  refine lv_imul hx hb dX3_draw_7 ?_
  refine lv_bipush (v := 74) hx hb dX3_draw_8 (by decide) ?_
  refine lv_iadd hx hb dX3_draw_10 ?_
  refine lv_ldc (v := 65537) hx hb hown (hts (.constant RX3 56 (65537)) (List.mem_of_getElem? (i := 2) rfl)) dX3_draw_11 ?_
  refine lv_irem hx hb dX3_draw_13 (by decide) ?_
  obtain ⟨v1, ev1, hm⟩ := lt1_inv hm
  refine ltop ev1 ?_
  refine va_put (D := D) (ci := 3) (v := .int v1) (ty := .int) (C := RX3) (T := TX3) (N := 7) hx hb hts hiX3 tyX3 tyX3_ok nmX3 hown hK.1 hP hD hS 0 rfl rfl 6 (by decide) (hts (.fieldLink RX3 31 "IslandBridges$Maker" "z" "I") (List.mem_of_getElem? (i := 1) rfl)) (fun _ h9 => h9) rfl (by decide +kernel) rfl rfl (Nat.le_of_ble_eq_true rfl) dX3_draw_14 (fun H locs hP hD hS => ?_)
  have hP : va_P D vwCl [o_K a K_columns K_rows K_islands v1] H := hP
  have hD : va_D A [o_K a K_columns K_rows K_islands v1] := hD
  refine lv_iload_n hx hb dX3_draw_17 rfl (lv_at hl 1 rfl) ?_
  refine lv_if_le (tgt := 30) hx hb dX3_draw_18 (by decide) (fun c18 => ?_) (fun c18 => ?_)
  · have hm := ip c18 hm
    refine lv_iconst (v := 0) hx hb dX3_draw_30 (by decide) ?_
    cases hm
    exact rI () hx hb hr hlk hP hD hS dX3_draw_31
  · have hm := ine c18 hm
    refine lv_aload_n hx hb dX3_draw_21 rfl (lv_at hl 0 rfl) ?_
    refine va_get (D := D) (ci := 3) (v := .int v1) (C := RX3) (T := TX3) (N := 7) hx hb hts hiX3 hown hK.1 hP 0 rfl rfl 6 (by decide) (hts (.fieldLink RX3 31 "IslandBridges$Maker" "z" "I") (List.mem_of_getElem? (i := 1) rfl)) (fun _ h9 => h9) rfl dX3_draw_22 ?_
    refine lv_iload_n hx hb dX3_draw_25 rfl (lv_at hl 1 rfl) ?_
    obtain ⟨v2, nv2, ev2, hm⟩ := rmd_inv hm
    refine lv_irem hx hb dX3_draw_26 nv2 ?_
    refine ltop ev2 ?_
    refine lv_goto (tgt := 31) hx hb dX3_draw_27 (by decide) ?_
    cases hm
    exact rI () hx hb hr hlk hP hD hS dX3_draw_31
theorem hd_X3_addIsland : yX3_addIsland.cls = RX3 ∧ yX3_addIsland.cls ≠ "java/lang/invoke/MethodHandle" ∧ yX3_addIsland.cls ≠ "java/lang/invoke/VarHandle" ∧ (parseMethodDescriptor yX3_addIsland.desc).map (fun d => d.parameters.length) = some 1 := by decide +kernel
def m_X3_addIsland_j66 (x1 : Int32) (y6 : Int32) (y7 : Int32) (y8 : Nat → Int32) (y9 : Nat → Int32) : Option (Int32 × (Nat → Int32) × (Nat → Int32)) :=
  lt1 (vPut 24 y9 y6 x1) (fun v10 => lt1 (vPut 144 y8 x1 1) (fun v11 => lt1 (y7 + 1) (fun v12 => some ((v12, v11, v10)))))
def m_X3_addIsland_b20 (x1 : Int32) (y3 : Int32) (y4 : Nat → Int32) (rec20 : Int32 → Int32 → (Nat → Int32) → Option (Int32 × (Nat → Int32) × (Nat → Int32))) (y1 : Int32) (y2 : Int32) (y5 : Nat → Int32) : Option (Int32 × (Nat → Int32) × (Nat → Int32)) :=
  if y2 ≤ 0 then (m_X3_addIsland_j66 x1 y1 y3 y4 y5) else (lt1 (vAt 24 y5 (y2 - 1)) (fun v13 => if v13 ≤ x1 then (m_X3_addIsland_j66 x1 y1 y3 y4 y5) else (lt1 (vAt 24 y5 (y2 - 1)) (fun v14 => lt1 (vPut 24 y5 y2 v14) (fun v15 => lt1 (y2 - 1) (fun v16 => lt1 (y2 + (-1)) (fun v17 => rec20 v16 v17 v15)))))))
def m_X3_addIsland (N : Nat) (K_islands : Int32) (K_taken : Nat → Int32) (K_cellOf : Nat → Int32) (x1 : Int32) : Option (Int32 × (Nat → Int32) × (Nat → Int32)) :=
  if K_islands < 24 then (zl3 (m_X3_addIsland_b20 x1 K_islands K_taken) N K_islands K_islands K_cellOf) else (some ((K_islands, K_taken, K_cellOf)))
set_option maxHeartbeats 4000000 in
set_option maxRecDepth 100000 in
theorem c_X3_addIsland (l : Launch) (D : va_G) (cI cJ cS cB : ClassId) (a : Nat → Nat) (K_columns : Int32) (K_rows : Int32) (K_islands : Int32) (K_z : Int32) (K_taken : Nat → Int32) (K_cellOf : Nat → Int32) (x1 : Int32) (N : Nat) (K_islands' : Int32) (K_taken' : Nat → Int32) (K_cellOf' : Nat → Int32) (hm : m_X3_addIsland N K_islands K_taken K_cellOf x1 = some (K_islands', K_taken', K_cellOf')) :
    mU l D (TYs cI cJ cS cB) yX3_addIsland wsX3_addIsland { frames := 1, cells := 0, slots := 0, locals := 22 } [.ref (a 27), .int x1] [o_K a K_columns K_rows K_islands K_z, ai (a 28) cI 144 K_taken, ai (a 30) cI 24 K_cellOf] [o_K a K_columns K_rows K_islands' K_z, ai (a 28) cI 144 K_taken', ai (a 30) cI 24 K_cellOf'] none := by
  refine mG_of (cc := cX3_addIsland) (maxL := 4) (ret := none) (by decide) rfl rfl (Nat.le_of_ble_eq_true rfl) ?_
  intro p e s m args below meth c A hx hb hr hml hlk hnm hts hown hK hP hD hA hS ls hl
  have hl : lv_has ls 4 [(0, .ref (a 27)), (1, .int x1)] := hl
  have hiX3 : ∀ w ∈ wsX30, w ∈ wsX3_addIsland := fun w h => List.mem_cons_of_mem _ (List.mem_append_right _ h)
  unfold m_X3_addIsland at hm
  have h66 : ∀ (y6 : Int32) (y7 : Int32) (y8 : Nat → Int32) (y9 : Nat → Int32), m_X3_addIsland_j66 x1 y6 y7 y8 y9 = some (K_islands', K_taken', K_cellOf') → ∀ (H : Heap) (locs : List Loc), va_P D vwCl [o_K a K_columns K_rows y7 K_z, ai (a 28) cI 144 y8, ai (a 30) cI 24 y9] H → va_D A [o_K a K_columns K_rows y7 K_z, ai (a 28) cI 144 y8, ai (a 30) cI 24 y9] → va_S A s.heap H locs → ∀ ls : Array Slot, lv_has ls 4 [(0, .ref (a 27)), (1, .int x1), (2, .int y6)] → W p l e { frames := 1, cells := 0, slots := 0, locals := 22 } s m args below meth c H locs 0 0 (MQ below (eQ D none (fun _ : Unit => [o_K a K_columns K_rows K_islands' K_z, ai (a 28) cI 144 K_taken', ai (a 30) cI 24 K_cellOf']) A) args s 0 0 A) (F0 m 66 ls []) := by
    intro y6 y7 y8 y9 hm H locs hP hD hS ls hl
    unfold m_X3_addIsland_j66 at hm
    refine lv_aload_n hx hb dX3_addIsland_66 rfl (lv_at hl 0 rfl) ?_
    refine va_get (D := D) (ci := 3) (v := .ref (a 30)) (C := RX3) (T := TX3) (N := 7) hx hb hts hiX3 hown hK.1 hP 0 rfl rfl 2 (by decide) (hts (.fieldLink RX3 18 "IslandBridges$Maker" "cellOf" "[I") (List.mem_of_getElem? (i := 2) rfl)) (fun _ h9 => h9) rfl dX3_addIsland_67 ?_
    refine lv_iload_n hx hb dX3_addIsland_70 rfl (lv_at hl 2 rfl) ?_
    refine lv_iload_n hx hb dX3_addIsland_71 rfl (lv_at hl 1 rfl) ?_
    obtain ⟨v10, ev10, hm⟩ := lt1_inv hm
    refine cNx ⟨hx, hb, hml, hown, hts⟩ (c_X9_put l D cI cJ cS cB (a 30) 24 (Nat.le_of_ble_eq_true rfl) y9 y6 x1 v10 ev10) ⟨va_cnB 3 hts gX3_addIsland_X9_put_n34 rfl rfl rfl (kn_15 hK) (hts (.initialized RX9) (List.mem_of_getElem? (i := 5) rfl)) hd_X9_put ⟨(Nat.le_of_ble_eq_true rfl), (Nat.le_of_ble_eq_true rfl)⟩, (hts (.static yX9_put) (List.mem_of_getElem? (i := 7) rfl)), trivial⟩ hK hP hD hS hA [2] rfl rfl [o_K a K_columns K_rows y7 K_z, ai (a 28) cI 144 y8, ai (a 30) cI 24 v10] [(false, 0), (false, 1), (true, 0)] rfl rfl rfl hl.1 (Nat.le_of_ble_eq_true rfl) ⟨Nat.zero_le _, Nat.zero_le _⟩ rfl dX3_addIsland_72 (fun H locs hP hD hS => ?_)
    refine lv_aload_n hx hb dX3_addIsland_75 rfl (lv_at hl 0 rfl) ?_
    refine va_get (D := D) (ci := 3) (v := .ref (a 28)) (C := RX3) (T := TX3) (N := 7) hx hb hts hiX3 hown hK.1 hP 0 rfl rfl 0 (by decide) (hts (.fieldLink RX3 9 "IslandBridges$Maker" "taken" "[I") (List.mem_of_getElem? (i := 3) rfl)) (fun _ h9 => h9) rfl dX3_addIsland_76 ?_
    refine lv_iload_n hx hb dX3_addIsland_79 rfl (lv_at hl 1 rfl) ?_
    refine lv_iconst (v := 1) hx hb dX3_addIsland_80 (by decide) ?_
    obtain ⟨v11, ev11, hm⟩ := lt1_inv hm
    refine cNx ⟨hx, hb, hml, hown, hts⟩ (c_X9_put l D cI cJ cS cB (a 28) 144 (Nat.le_of_ble_eq_true rfl) y8 x1 1 v11 ev11) ⟨va_cnB 3 hts gX3_addIsland_X9_put_n34 rfl rfl rfl (kn_15 hK) (hts (.initialized RX9) (List.mem_of_getElem? (i := 5) rfl)) hd_X9_put ⟨(Nat.le_of_ble_eq_true rfl), (Nat.le_of_ble_eq_true rfl)⟩, (hts (.static yX9_put) (List.mem_of_getElem? (i := 7) rfl)), trivial⟩ hK hP hD hS hA [1] rfl rfl [o_K a K_columns K_rows y7 K_z, ai (a 28) cI 144 v11, ai (a 30) cI 24 v10] [(false, 0), (true, 0), (false, 2)] rfl rfl rfl hl.1 (Nat.le_of_ble_eq_true rfl) ⟨Nat.zero_le _, Nat.zero_le _⟩ rfl dX3_addIsland_81 (fun H locs hP hD hS => ?_)
    refine lv_aload_n hx hb dX3_addIsland_84 rfl (lv_at hl 0 rfl) ?_
    refine lv_dup hx hb dX3_addIsland_85 rfl ?_
    refine va_get (D := D) (ci := 3) (v := .int y7) (C := RX3) (T := TX3) (N := 7) hx hb hts hiX3 hown hK.1 hP 0 rfl rfl 5 (by decide) (hts (.fieldLink RX3 28 "IslandBridges$Maker" "islands" "I") (List.mem_of_getElem? (i := 1) rfl)) (fun _ h9 => h9) rfl dX3_addIsland_86 ?_
    refine lv_iconst (v := 1) hx hb dX3_addIsland_89 (by decide) ?_
    refine lv_iadd hx hb dX3_addIsland_90 ?_
    obtain ⟨v12, ev12, hm⟩ := lt1_inv hm
    refine ltop ev12 ?_
    refine va_put (D := D) (ci := 3) (v := .int v12) (ty := .int) (C := RX3) (T := TX3) (N := 7) hx hb hts hiX3 tyX3 tyX3_ok nmX3 hown hK.1 hP hD hS 0 rfl rfl 5 (by decide) (hts (.fieldLink RX3 28 "IslandBridges$Maker" "islands" "I") (List.mem_of_getElem? (i := 1) rfl)) (fun _ h9 => h9) rfl (by decide +kernel) rfl rfl (Nat.le_of_ble_eq_true rfl) dX3_addIsland_91 (fun H locs hP hD hS => ?_)
    have hP : va_P D vwCl [o_K a K_columns K_rows v12 K_z, ai (a 28) cI 144 v11, ai (a 30) cI 24 v10] H := hP
    have hD : va_D A [o_K a K_columns K_rows v12 K_z, ai (a 28) cI 144 v11, ai (a 30) cI 24 v10] := hD
    cases hm
    exact rV () hx hb hr hlk hP hD hS dX3_addIsland_94
  have h20 : ∀ (y3 : Int32) (y4 : Nat → Int32), ∀ (n : Nat) (y1 : Int32) (y2 : Int32) (y5 : Nat → Int32), zl3 (m_X3_addIsland_b20 x1 y3 y4) n y1 y2 y5 = some (K_islands', K_taken', K_cellOf') → ∀ (H : Heap) (locs : List Loc), va_P D vwCl [o_K a K_columns K_rows y3 K_z, ai (a 28) cI 144 y4, ai (a 30) cI 24 y5] H → va_D A [o_K a K_columns K_rows y3 K_z, ai (a 28) cI 144 y4, ai (a 30) cI 24 y5] → va_S A s.heap H locs → ∀ ls : Array Slot, lv_has ls 4 [(0, .ref (a 27)), (1, .int x1), (2, .int y1), (3, .int y2)] → W p l e { frames := 1, cells := 0, slots := 0, locals := 22 } s m args below meth c H locs 0 0 (MQ below (eQ D none (fun _ : Unit => [o_K a K_columns K_rows K_islands' K_z, ai (a 28) cI 144 K_taken', ai (a 30) cI 24 K_cellOf']) A) args s 0 0 A) (F0 m 20 ls []) := by
    intro y3 y4
    refine zl3_ind (fun rec20 ih20 y1 y2 y5 hm => ?_)
    intro H locs hP hD hS ls hl
    unfold m_X3_addIsland_b20 at hm
    refine lv_iload_n hx hb dX3_addIsland_20 rfl (lv_at hl 3 rfl) ?_
    refine lv_if_le (tgt := 66) hx hb dX3_addIsland_21 (by decide) (fun c21 => ?_) (fun c21 => ?_)
    · have hm := ip c21 hm
      exact h66 y1 y3 y4 y5 hm _ _ hP hD hS ls (lv_sub hl [0, 1, 2] rfl)
    · have hm := ine c21 hm
      refine lv_aload_n hx hb dX3_addIsland_24 rfl (lv_at hl 0 rfl) ?_
      refine va_get (D := D) (ci := 3) (v := .ref (a 30)) (C := RX3) (T := TX3) (N := 7) hx hb hts hiX3 hown hK.1 hP 0 rfl rfl 2 (by decide) (hts (.fieldLink RX3 18 "IslandBridges$Maker" "cellOf" "[I") (List.mem_of_getElem? (i := 2) rfl)) (fun _ h9 => h9) rfl dX3_addIsland_25 ?_
      refine lv_iload_n hx hb dX3_addIsland_28 rfl (lv_at hl 3 rfl) ?_
      refine lv_iconst (v := 1) hx hb dX3_addIsland_29 (by decide) ?_
      refine lv_isub hx hb dX3_addIsland_30 ?_
      obtain ⟨v13, ev13, hm⟩ := lt1_inv hm
      refine cNs ⟨hx, hb, hml, hown, hts⟩ (c_X9_valueAt l D cI cJ cS cB (a 30) 24 (Nat.le_of_ble_eq_true rfl) y5 (y2 - 1) v13 ev13) ⟨va_cnB 2 hts gX3_addIsland_X9_valueAt_n52 rfl rfl rfl (kn_16 hK) (hts (.initialized RX9) (List.mem_of_getElem? (i := 5) rfl)) hd_X9_valueAt ⟨(Nat.le_of_ble_eq_true rfl), (Nat.le_of_ble_eq_true rfl)⟩, (hts (.static yX9_valueAt) (List.mem_of_getElem? (i := 4) rfl)), trivial⟩ hK hP hD hS hA [2] rfl rfl rfl hl.1 (Nat.le_of_ble_eq_true rfl) ⟨Nat.zero_le _, Nat.zero_le _⟩ rfl dX3_addIsland_31 (fun H locs hP hD hS => ?_)
      refine lv_iload_n hx hb dX3_addIsland_34 rfl (lv_at hl 1 rfl) ?_
      refine lv_icmp_le (tgt := 66) hx hb dX3_addIsland_35 (by decide) (fun c35 => ?_) (fun c35 => ?_)
      · have hm := ip c35 hm
        exact h66 y1 y3 y4 y5 hm _ _ hP hD hS ls (lv_sub hl [0, 1, 2] rfl)
      · have hm := ine c35 hm
        refine lv_aload_n hx hb dX3_addIsland_38 rfl (lv_at hl 0 rfl) ?_
        refine va_get (D := D) (ci := 3) (v := .ref (a 30)) (C := RX3) (T := TX3) (N := 7) hx hb hts hiX3 hown hK.1 hP 0 rfl rfl 2 (by decide) (hts (.fieldLink RX3 18 "IslandBridges$Maker" "cellOf" "[I") (List.mem_of_getElem? (i := 2) rfl)) (fun _ h9 => h9) rfl dX3_addIsland_39 ?_
        refine lv_iload_n hx hb dX3_addIsland_42 rfl (lv_at hl 3 rfl) ?_
        refine lv_aload_n hx hb dX3_addIsland_43 rfl (lv_at hl 0 rfl) ?_
        refine va_get (D := D) (ci := 3) (v := .ref (a 30)) (C := RX3) (T := TX3) (N := 7) hx hb hts hiX3 hown hK.1 hP 0 rfl rfl 2 (by decide) (hts (.fieldLink RX3 18 "IslandBridges$Maker" "cellOf" "[I") (List.mem_of_getElem? (i := 2) rfl)) (fun _ h9 => h9) rfl dX3_addIsland_44 ?_
        refine lv_iload_n hx hb dX3_addIsland_47 rfl (lv_at hl 3 rfl) ?_
        refine lv_iconst (v := 1) hx hb dX3_addIsland_48 (by decide) ?_
        refine lv_isub hx hb dX3_addIsland_49 ?_
        obtain ⟨v14, ev14, hm⟩ := lt1_inv hm
        refine cNs ⟨hx, hb, hml, hown, hts⟩ (c_X9_valueAt l D cI cJ cS cB (a 30) 24 (Nat.le_of_ble_eq_true rfl) y5 (y2 - 1) v14 ev14) ⟨va_cnB 2 hts gX3_addIsland_X9_valueAt_n52 rfl rfl rfl (kn_16 hK) (hts (.initialized RX9) (List.mem_of_getElem? (i := 5) rfl)) hd_X9_valueAt ⟨(Nat.le_of_ble_eq_true rfl), (Nat.le_of_ble_eq_true rfl)⟩, (hts (.static yX9_valueAt) (List.mem_of_getElem? (i := 4) rfl)), trivial⟩ hK hP hD hS hA [2] rfl rfl rfl hl.1 (Nat.le_of_ble_eq_true rfl) ⟨Nat.zero_le _, Nat.zero_le _⟩ rfl dX3_addIsland_50 (fun H locs hP hD hS => ?_)
        obtain ⟨v15, ev15, hm⟩ := lt1_inv hm
        refine cNx ⟨hx, hb, hml, hown, hts⟩ (c_X9_put l D cI cJ cS cB (a 30) 24 (Nat.le_of_ble_eq_true rfl) y5 y2 v14 v15 ev15) ⟨va_cnB 3 hts gX3_addIsland_X9_put_n34 rfl rfl rfl (kn_15 hK) (hts (.initialized RX9) (List.mem_of_getElem? (i := 5) rfl)) hd_X9_put ⟨(Nat.le_of_ble_eq_true rfl), (Nat.le_of_ble_eq_true rfl)⟩, (hts (.static yX9_put) (List.mem_of_getElem? (i := 7) rfl)), trivial⟩ hK hP hD hS hA [2] rfl rfl [o_K a K_columns K_rows y3 K_z, ai (a 28) cI 144 y4, ai (a 30) cI 24 v15] [(false, 0), (false, 1), (true, 0)] rfl rfl rfl hl.1 (Nat.le_of_ble_eq_true rfl) ⟨Nat.zero_le _, Nat.zero_le _⟩ rfl dX3_addIsland_53 (fun H locs hP hD hS => ?_)
        refine lv_iload_n hx hb dX3_addIsland_56 rfl (lv_at hl 3 rfl) ?_
        refine lv_iconst (v := 1) hx hb dX3_addIsland_57 (by decide) ?_
        refine lv_isub hx hb dX3_addIsland_58 ?_
        obtain ⟨v16, ev16, hm⟩ := lt1_inv hm
        refine ltop ev16 ?_
        refine lv_istore_n (lv' := [(2, .int v16), (0, .ref (a 27)), (1, .int x1), (3, .int y2)]) hx hb dX3_addIsland_59 rfl hl (by decide) rfl (fun ls hl => ?_)
        obtain ⟨v17, ev17, hm⟩ := lt1_inv hm
        refine lv_iinc (v := v17) (lv' := [(3, .int v17), (2, .int v16), (0, .ref (a 27)), (1, .int x1)]) hx hb dX3_addIsland_60 hl (k := 3) rfl ev17 (by decide) rfl (fun ls hl => ?_)
        refine lv_goto (tgt := 20) hx hb dX3_addIsland_63 (by decide) ?_
        exact ih20 v16 v17 v15 hm _ _ hP hD hS ls (lv_sub hl [2, 3, 1, 0] rfl)
  refine lv_aload_n hx hb dX3_addIsland_0 rfl (lv_at hl 0 rfl) ?_
  refine va_get (D := D) (ci := 3) (v := .int K_islands) (C := RX3) (T := TX3) (N := 7) hx hb hts hiX3 hown hK.1 hP 0 rfl rfl 5 (by decide) (hts (.fieldLink RX3 28 "IslandBridges$Maker" "islands" "I") (List.mem_of_getElem? (i := 1) rfl)) (fun _ h9 => h9) rfl dX3_addIsland_1 ?_
  refine lv_bipush (v := 24) hx hb dX3_addIsland_4 (by decide) ?_
  refine lv_icmp_lt (tgt := 10) hx hb dX3_addIsland_6 (by decide) (fun c6 => ?_) (fun c6 => ?_)
  · have hm := ip c6 hm
    refine lv_aload_n hx hb dX3_addIsland_10 rfl (lv_at hl 0 rfl) ?_
    refine va_get (D := D) (ci := 3) (v := .int K_islands) (C := RX3) (T := TX3) (N := 7) hx hb hts hiX3 hown hK.1 hP 0 rfl rfl 5 (by decide) (hts (.fieldLink RX3 28 "IslandBridges$Maker" "islands" "I") (List.mem_of_getElem? (i := 1) rfl)) (fun _ h9 => h9) rfl dX3_addIsland_11 ?_
    refine lv_istore_n (lv' := [(2, .int K_islands), (0, .ref (a 27)), (1, .int x1)]) hx hb dX3_addIsland_14 rfl hl (by decide) rfl (fun ls hl => ?_)
    refine lv_aload_n hx hb dX3_addIsland_15 rfl (lv_at hl 1 rfl) ?_
    refine va_get (D := D) (ci := 3) (v := .int K_islands) (C := RX3) (T := TX3) (N := 7) hx hb hts hiX3 hown hK.1 hP 0 rfl rfl 5 (by decide) (hts (.fieldLink RX3 28 "IslandBridges$Maker" "islands" "I") (List.mem_of_getElem? (i := 1) rfl)) (fun _ h9 => h9) rfl dX3_addIsland_16 ?_
    refine lv_istore_n (lv' := [(3, .int K_islands), (2, .int K_islands), (0, .ref (a 27)), (1, .int x1)]) hx hb dX3_addIsland_19 rfl hl (by decide) rfl (fun ls hl => ?_)
    exact h20 K_islands K_taken N K_islands K_islands K_cellOf hm _ _ hP hD hS ls (lv_sub hl [2, 3, 1, 0] rfl)
  · have hm := ine c6 hm
    cases hm
    exact rV () hx hb hr hlk hP hD hS dX3_addIsland_9
theorem hd_X3_isOnBoard : yX3_isOnBoard.cls = RX3 ∧ yX3_isOnBoard.cls ≠ "java/lang/invoke/MethodHandle" ∧ yX3_isOnBoard.cls ≠ "java/lang/invoke/VarHandle" ∧ (parseMethodDescriptor yX3_isOnBoard.desc).map (fun d => d.parameters.length) = some 3 := by decide +kernel
def m_X3_isOnBoard_j54 (y4 : Int32) (y5 : Int32) : Option (Int32) :=
  if y5 ≤ y4 then (some 0) else (some 1)
def m_X3_isOnBoard_j28 (K_columns : Int32) (K_rows : Int32) (x2 : Int32) (x3 : Int32) (y2 : Int32) : Option (Int32) :=
  lt1 (y2 + x3) (fun v3 => if v3 < 0 then (some 0) else (if x2 = 0 then (m_X3_isOnBoard_j54 v3 K_rows) else (m_X3_isOnBoard_j54 v3 K_columns)))
def m_X3_isOnBoard (K_columns : Int32) (K_rows : Int32) (x1 : Int32) (x2 : Int32) (x3 : Int32) : Option (Int32) :=
  if K_columns = 0 then (some 0) else (if x2 = 0 then (dvd x1 K_columns (fun v1 => m_X3_isOnBoard_j28 K_columns K_rows x2 x3 v1)) else (rmd x1 K_columns (fun v6 => m_X3_isOnBoard_j28 K_columns K_rows x2 x3 v6)))
set_option maxHeartbeats 4000000 in
set_option maxRecDepth 100000 in
theorem c_X3_isOnBoard (l : Launch) (D : va_G) (cI cJ cS cB : ClassId) (a : Nat → Nat) (K_columns : Int32) (K_rows : Int32) (K_islands : Int32) (K_z : Int32) (x1 : Int32) (x2 : Int32) (x3 : Int32) (r0 : Int32) (hm : m_X3_isOnBoard K_columns K_rows x1 x2 x3 = some r0) :
    mU l D (TYs cI cJ cS cB) yX3_isOnBoard wsX3_isOnBoard { frames := 0, cells := 0, slots := 0, locals := 0 } [.ref (a 27), .int x1, .int x2, .int x3] [o_K a K_columns K_rows K_islands K_z] [o_K a K_columns K_rows K_islands K_z] (some (.int r0)) := by
  refine mG_of (cc := cX3_isOnBoard) (maxL := 5) (ret := (some .boolean)) (by decide) rfl rfl (Nat.le_of_ble_eq_true rfl) ?_
  intro p e s m args below meth c A hx hb hr hml hlk hnm hts hown hK hP hD hA hS ls hl
  have hl : lv_has ls 5 [(0, .ref (a 27)), (1, .int x1), (2, .int x2), (3, .int x3)] := hl
  have hiX3 : ∀ w ∈ wsX30, w ∈ wsX3_isOnBoard := fun w h => List.mem_cons_of_mem _ (List.mem_append_right _ h)
  unfold m_X3_isOnBoard at hm
  have h54 : ∀ (y4 : Int32) (y5 : Int32), m_X3_isOnBoard_j54 y4 y5 = some r0 → ∀ (H : Heap) (locs : List Loc), va_P D vwCl [o_K a K_columns K_rows K_islands K_z] H → va_D A [o_K a K_columns K_rows K_islands K_z] → va_S A s.heap H locs → ∀ ls : Array Slot, lv_has ls 5 [] → W p l e { frames := 0, cells := 0, slots := 0, locals := 0 } s m args below meth c H locs 0 0 (MQ below (eQ D (some (.int r0)) (fun _ : Unit => [o_K a K_columns K_rows K_islands K_z]) A) args s 0 0 A) (F0 m 54 ls [.int y5, .int y4]) := by
    intro y4 y5 hm H locs hP hD hS ls hl
    unfold m_X3_isOnBoard_j54 at hm
    refine lv_icmp_ge (tgt := 61) hx hb dX3_isOnBoard_54 (by decide) (fun c54 => ?_) (fun c54 => ?_)
    · have hm := ip c54 hm
      refine lv_iconst (v := 0) hx hb dX3_isOnBoard_61 (by decide) ?_
      cases hm
      exact rZ () hx hb hr hlk (by decide) hP hD hS dX3_isOnBoard_62
    · have hm := ine c54 hm
      refine lv_iconst (v := 1) hx hb dX3_isOnBoard_57 (by decide) ?_
      refine lv_goto (tgt := 62) hx hb dX3_isOnBoard_58 (by decide) ?_
      cases hm
      exact rZ () hx hb hr hlk (by decide) hP hD hS dX3_isOnBoard_62
  have h28 : ∀ (y2 : Int32), m_X3_isOnBoard_j28 K_columns K_rows x2 x3 y2 = some r0 → ∀ (H : Heap) (locs : List Loc), va_P D vwCl [o_K a K_columns K_rows K_islands K_z] H → va_D A [o_K a K_columns K_rows K_islands K_z] → va_S A s.heap H locs → ∀ ls : Array Slot, lv_has ls 5 [(0, .ref (a 27)), (2, .int x2), (3, .int x3)] → W p l e { frames := 0, cells := 0, slots := 0, locals := 0 } s m args below meth c H locs 0 0 (MQ below (eQ D (some (.int r0)) (fun _ : Unit => [o_K a K_columns K_rows K_islands K_z]) A) args s 0 0 A) (F0 m 28 ls [.int y2]) := by
    intro y2 hm H locs hP hD hS ls hl
    unfold m_X3_isOnBoard_j28 at hm
    refine lv_iload_n hx hb dX3_isOnBoard_28 rfl (lv_at hl 2 rfl) ?_
    refine lv_iadd hx hb dX3_isOnBoard_29 ?_
    obtain ⟨v3, ev3, hm⟩ := lt1_inv hm
    refine ltop ev3 ?_
    refine lv_istore (lv' := [(4, .int v3), (0, .ref (a 27)), (2, .int x2), (3, .int x3)]) hx hb dX3_isOnBoard_30 hl (by decide) rfl (fun ls hl => ?_)
    refine lv_iload hx hb dX3_isOnBoard_32 (lv_at hl 0 rfl) ?_
    refine lv_if_lt (tgt := 61) hx hb dX3_isOnBoard_34 (by decide) (fun c34 => ?_) (fun c34 => ?_)
    · have hm := ip c34 hm
      refine lv_iconst (v := 0) hx hb dX3_isOnBoard_61 (by decide) ?_
      cases hm
      exact rZ () hx hb hr hlk (by decide) hP hD hS dX3_isOnBoard_62
    · have hm := ine c34 hm
      refine lv_iload hx hb dX3_isOnBoard_37 (lv_at hl 0 rfl) ?_
      refine lv_iload_n hx hb dX3_isOnBoard_39 rfl (lv_at hl 2 rfl) ?_
      refine lv_if_eq (tgt := 50) hx hb dX3_isOnBoard_40 (by decide) (fun c40 => ?_) (fun c40 => ?_)
      · have hm := ip c40 hm
        refine lv_aload_n hx hb dX3_isOnBoard_50 rfl (lv_at hl 1 rfl) ?_
        refine va_get (D := D) (ci := 3) (v := .int K_rows) (C := RX3) (T := TX3) (N := 7) hx hb hts hiX3 hown hK.1 hP 0 rfl rfl 4 (by decide) (hts (.fieldLink RX3 25 "IslandBridges$Maker" "rows" "I") (List.mem_of_getElem? (i := 2) rfl)) (fun _ h9 => h9) rfl dX3_isOnBoard_51 ?_
        exact h54 v3 K_rows hm _ _ hP hD hS ls (lv_sub hl [] rfl)
      · have hm := ine c40 hm
        refine lv_aload_n hx hb dX3_isOnBoard_43 rfl (lv_at hl 1 rfl) ?_
        refine va_get (D := D) (ci := 3) (v := .int K_columns) (C := RX3) (T := TX3) (N := 7) hx hb hts hiX3 hown hK.1 hP 0 rfl rfl 3 (by decide) (hts (.fieldLink RX3 21 "IslandBridges$Maker" "columns" "I") (List.mem_of_getElem? (i := 1) rfl)) (fun _ h9 => h9) rfl dX3_isOnBoard_44 ?_
        refine lv_goto (tgt := 54) hx hb dX3_isOnBoard_47 (by decide) ?_
        exact h54 v3 K_columns hm _ _ hP hD hS ls (lv_sub hl [] rfl)
  refine lv_aload_n hx hb dX3_isOnBoard_0 rfl (lv_at hl 0 rfl) ?_
  refine va_get (D := D) (ci := 3) (v := .int K_columns) (C := RX3) (T := TX3) (N := 7) hx hb hts hiX3 hown hK.1 hP 0 rfl rfl 3 (by decide) (hts (.fieldLink RX3 21 "IslandBridges$Maker" "columns" "I") (List.mem_of_getElem? (i := 1) rfl)) (fun _ h9 => h9) rfl dX3_isOnBoard_1 ?_
  refine lv_if_ne (tgt := 9) hx hb dX3_isOnBoard_4 (by decide) (fun c4 => ?_) (fun c4 => ?_)
  · have hm := ine c4 hm
    refine lv_iload_n hx hb dX3_isOnBoard_9 rfl (lv_at hl 2 rfl) ?_
    refine lv_if_eq (tgt := 22) hx hb dX3_isOnBoard_10 (by decide) (fun c10 => ?_) (fun c10 => ?_)
    · have hm := ip c10 hm
      refine lv_iload_n hx hb dX3_isOnBoard_22 rfl (lv_at hl 1 rfl) ?_
      refine lv_aload_n hx hb dX3_isOnBoard_23 rfl (lv_at hl 0 rfl) ?_
      refine va_get (D := D) (ci := 3) (v := .int K_columns) (C := RX3) (T := TX3) (N := 7) hx hb hts hiX3 hown hK.1 hP 0 rfl rfl 3 (by decide) (hts (.fieldLink RX3 21 "IslandBridges$Maker" "columns" "I") (List.mem_of_getElem? (i := 1) rfl)) (fun _ h9 => h9) rfl dX3_isOnBoard_24 ?_
      obtain ⟨v1, nv1, ev1, hm⟩ := dvd_inv hm
      refine lv_idiv hx hb dX3_isOnBoard_27 nv1 ?_
      refine ltop ev1 ?_
      exact h28 v1 hm _ _ hP hD hS ls (lv_sub hl [0, 2, 3] rfl)
    · have hm := ine c10 hm
      refine lv_iload_n hx hb dX3_isOnBoard_13 rfl (lv_at hl 1 rfl) ?_
      refine lv_aload_n hx hb dX3_isOnBoard_14 rfl (lv_at hl 0 rfl) ?_
      refine va_get (D := D) (ci := 3) (v := .int K_columns) (C := RX3) (T := TX3) (N := 7) hx hb hts hiX3 hown hK.1 hP 0 rfl rfl 3 (by decide) (hts (.fieldLink RX3 21 "IslandBridges$Maker" "columns" "I") (List.mem_of_getElem? (i := 1) rfl)) (fun _ h9 => h9) rfl dX3_isOnBoard_15 ?_
      obtain ⟨v6, nv6, ev6, hm⟩ := rmd_inv hm
      refine lv_irem hx hb dX3_isOnBoard_18 nv6 ?_
      refine ltop ev6 ?_
      refine lv_goto (tgt := 28) hx hb dX3_isOnBoard_19 (by decide) ?_
      exact h28 v6 hm _ _ hP hD hS ls (lv_sub hl [0, 2, 3] rfl)
  · have hm := ip c4 hm
    refine lv_iconst (v := 0) hx hb dX3_isOnBoard_7 (by decide) ?_
    cases hm
    exact rZ () hx hb hr hlk (by decide) hP hD hS dX3_isOnBoard_8
theorem hd_X3_tryIsland : yX3_tryIsland.cls = RX3 ∧ yX3_tryIsland.cls ≠ "java/lang/invoke/MethodHandle" ∧ yX3_tryIsland.cls ≠ "java/lang/invoke/VarHandle" ∧ (parseMethodDescriptor yX3_tryIsland.desc).map (fun d => d.parameters.length) = some 0 := by decide +kernel
def m_X3_tryIsland_j160 (N : Nat) (y74 : Int32) (y75 : Int32) (y76 : Int32) (y77 : Int32) (y78 : Int32) (y79 : Int32) (y80 : Nat → Int32) (y81 : Nat → Int32) (y82 : Nat → Int32) : Option (Int32 × Int32 × (Nat → Int32) × (Nat → Int32) × (Nat → Int32)) :=
  lt1 (y74 + (y75 * y77)) (fun v83 => bd3 (m_X3_addIsland N y78 y80 y82 v83) (fun v84 v85 v86 => lt1 (vAdd 144 y81 y74 y76) (fun v87 => lt1 (vAdd 144 v87 v83 y76) (fun v88 => some ((v84, y79, v85, v88, v86))))))
def m_X3_tryIsland_b133 (N : Nat) (y64 : Int32) (y65 : Int32) (y66 : Int32) (y67 : Int32) (y69 : Int32) (y70 : Int32) (y72 : Nat → Int32) (y73 : Nat → Int32) (rec133 : Int32 → (Nat → Int32) → Option (Int32 × Int32 × (Nat → Int32) × (Nat → Int32) × (Nat → Int32))) (y68 : Int32) (y71 : Nat → Int32) : Option (Int32 × Int32 × (Nat → Int32) × (Nat → Int32) × (Nat → Int32)) :=
  if y65 ≤ y68 then (m_X3_tryIsland_j160 N y64 y65 y66 y67 y69 y70 y71 y72 y73) else (lt1 (vPut 144 y71 (y64 + (y68 * y67)) 1) (fun v89 => lt1 (y68 + 1) (fun v90 => rec133 v90 v89)))
def m_X3_tryIsland_j130 (N : Nat) (y55 : Int32) (y56 : Int32) (y57 : Int32) (y58 : Int32) (y59 : Int32) (y60 : Int32) (y61 : Nat → Int32) (y62 : Nat → Int32) (y63 : Nat → Int32) : Option (Int32 × Int32 × (Nat → Int32) × (Nat → Int32) × (Nat → Int32)) :=
  zl2 (m_X3_tryIsland_b133 N y55 y56 y57 y58 y59 y60 y62 y63) N 1 y61
def m_X3_tryIsland_b100 (N : Nat) (y45 : Int32) (y46 : Int32) (y47 : Int32) (y48 : Int32) (y50 : Int32) (y51 : Int32) (y52 : Nat → Int32) (y53 : Nat → Int32) (y54 : Nat → Int32) (rec100 : Int32 → Option (Int32 × Int32 × (Nat → Int32) × (Nat → Int32) × (Nat → Int32))) (y49 : Int32) : Option (Int32 × Int32 × (Nat → Int32) × (Nat → Int32) × (Nat → Int32)) :=
  if y46 < y49 then (m_X3_tryIsland_j130 N y45 y46 y47 y48 y50 y51 y52 y53 y54) else (lt1 (vAt 144 y52 (y45 + (y49 * y48))) (fun v91 => if v91 = 0 then (lt1 (y49 + 1) (fun v92 => rec100 v92)) else (some ((y50, y51, y52, y53, y54)))))
def m_X3_tryIsland_j94 (N : Nat) (y34 : Int32) (y35 : Int32) (y36 : Int32) (y37 : Int32) (y38 : Int32) (y39 : Nat → Int32) (y40 : Nat → Int32) (y41 : Nat → Int32) (y42 : Int32) (y43 : Int32) : Option (Int32 × Int32 × (Nat → Int32) × (Nat → Int32) × (Nat → Int32)) :=
  lt1 (y42 * y43) (fun v44 => zl1 (m_X3_tryIsland_b100 N y34 y35 y36 v44 y37 y38 y39 y40 y41) N 1)
def m_X3_tryIsland_j62 (N : Nat) (K_columns : Int32) (K_rows : Int32) (y23 : Int32) (y24 : Int32) (y25 : Int32) (y26 : Int32) (y27 : Int32) (y28 : Int32) (y29 : Nat → Int32) (y30 : Nat → Int32) (y31 : Nat → Int32) (y32 : Int32) : Option (Int32 × Int32 × (Nat → Int32) × (Nat → Int32) × (Nat → Int32)) :=
  bd1 (m_X3_isOnBoard K_columns K_rows y23 y32 (y26 * y24)) (fun v33 => if v33 = 0 then (some ((y27, y28, y29, y30, y31))) else (if y32 = 0 then (m_X3_tryIsland_j94 N y23 y24 y25 y27 y28 y29 y30 y31 y26 K_columns) else (m_X3_tryIsland_j94 N y23 y24 y25 y27 y28 y29 y30 y31 y26 1)))
def m_X3_tryIsland_j49 (N : Nat) (K_columns : Int32) (K_rows : Int32) (y12 : Int32) (y13 : Int32) (y14 : Int32) (y15 : Int32) (y16 : Int32) (y17 : Int32) (y18 : Nat → Int32) (y19 : Nat → Int32) (y20 : Nat → Int32) (y21 : Int32) : Option (Int32 × Int32 × (Nat → Int32) × (Nat → Int32) × (Nat → Int32)) :=
  lt1 (y13 - y13 / 2 * 2) (fun v22 => if v22 = 0 then (m_X3_tryIsland_j62 N K_columns K_rows y12 y14 y15 y21 y16 y17 y18 y19 y20 1) else (m_X3_tryIsland_j62 N K_columns K_rows y12 y14 y15 y21 y16 y17 y18 y19 y20 0))
def m_X3_tryIsland (N : Nat) (K_columns : Int32) (K_rows : Int32) (K_islands : Int32) (K_z : Int32) (K_taken : Nat → Int32) (K_numbers : Nat → Int32) (K_cellOf : Nat → Int32) : Option (Int32 × Int32 × (Nat → Int32) × (Nat → Int32) × (Nat → Int32)) :=
  bd2 (m_X3_draw K_z K_islands) (fun v1 v2 => lt1 (vAt 24 K_cellOf v1) (fun v3 => bd2 (m_X3_draw v2 4) (fun v4 v5 => bd2 (m_X3_draw v5 4) (fun v6 v7 => lt1 (v6 + 2) (fun v8 => bd2 (m_X3_draw v7 2) (fun v9 v10 => lt1 (v9 + 1) (fun v11 => if 2 ≤ v4 then (m_X3_tryIsland_j49 N K_columns K_rows v3 v4 v8 v11 K_islands v10 K_taken K_numbers K_cellOf ((-1))) else (m_X3_tryIsland_j49 N K_columns K_rows v3 v4 v8 v11 K_islands v10 K_taken K_numbers K_cellOf 1))))))))
set_option maxHeartbeats 4000000 in
set_option maxRecDepth 100000 in
theorem c_X3_tryIsland (l : Launch) (D : va_G) (cI cJ cS cB : ClassId) (a : Nat → Nat) (K_columns : Int32) (K_rows : Int32) (K_islands : Int32) (K_z : Int32) (K_taken : Nat → Int32) (K_numbers : Nat → Int32) (K_cellOf : Nat → Int32)  (N : Nat) (K_islands' : Int32) (K_z' : Int32) (K_taken' : Nat → Int32) (K_numbers' : Nat → Int32) (K_cellOf' : Nat → Int32) (hm : m_X3_tryIsland N K_columns K_rows K_islands K_z K_taken K_numbers K_cellOf = some (K_islands', K_z', K_taken', K_numbers', K_cellOf')) :
    mU l D (TYs cI cJ cS cB) yX3_tryIsland wsX3_tryIsland { frames := 2, cells := 0, slots := 0, locals := 45 } [.ref (a 27)] [o_K a K_columns K_rows K_islands K_z, ai (a 28) cI 144 K_taken, ai (a 29) cI 144 K_numbers, ai (a 30) cI 24 K_cellOf] [o_K a K_columns K_rows K_islands' K_z', ai (a 28) cI 144 K_taken', ai (a 29) cI 144 K_numbers', ai (a 30) cI 24 K_cellOf'] none := by
  refine mG_of (cc := cX3_tryIsland) (maxL := 9) (ret := none) (by decide) rfl rfl (Nat.le_of_ble_eq_true rfl) ?_
  intro p e s m args below meth c A hx hb hr hml hlk hnm hts hown hK hP hD hA hS ls hl
  have hl : lv_has ls 9 [(0, .ref (a 27))] := hl
  have hiX3 : ∀ w ∈ wsX30, w ∈ wsX3_tryIsland := fun w h => List.mem_cons_of_mem _ (List.mem_append_right _ h)
  unfold m_X3_tryIsland at hm
  have h160 : ∀ (y74 : Int32) (y75 : Int32) (y76 : Int32) (y77 : Int32) (y78 : Int32) (y79 : Int32) (y80 : Nat → Int32) (y81 : Nat → Int32) (y82 : Nat → Int32), m_X3_tryIsland_j160 N y74 y75 y76 y77 y78 y79 y80 y81 y82 = some (K_islands', K_z', K_taken', K_numbers', K_cellOf') → ∀ (H : Heap) (locs : List Loc), va_P D vwCl [o_K a K_columns K_rows y78 y79, ai (a 28) cI 144 y80, ai (a 29) cI 144 y81, ai (a 30) cI 24 y82] H → va_D A [o_K a K_columns K_rows y78 y79, ai (a 28) cI 144 y80, ai (a 29) cI 144 y81, ai (a 30) cI 24 y82] → va_S A s.heap H locs → ∀ ls : Array Slot, lv_has ls 9 [(0, .ref (a 27)), (1, .int y74), (3, .int y75), (4, .int y76), (7, .int y77)] → W p l e { frames := 2, cells := 0, slots := 0, locals := 45 } s m args below meth c H locs 0 0 (MQ below (eQ D none (fun _ : Unit => [o_K a K_columns K_rows K_islands' K_z', ai (a 28) cI 144 K_taken', ai (a 29) cI 144 K_numbers', ai (a 30) cI 24 K_cellOf']) A) args s 0 0 A) (F0 m 160 ls []) := by
    intro y74 y75 y76 y77 y78 y79 y80 y81 y82 hm H locs hP hD hS ls hl
    unfold m_X3_tryIsland_j160 at hm
    refine lv_iload_n hx hb dX3_tryIsland_160 rfl (lv_at hl 1 rfl) ?_
    refine lv_iload_n hx hb dX3_tryIsland_161 rfl (lv_at hl 2 rfl) ?_
    refine lv_iload hx hb dX3_tryIsland_162 (lv_at hl 4 rfl) ?_
    refine lv_imul hx hb dX3_tryIsland_164 ?_
    refine lv_iadd hx hb dX3_tryIsland_165 ?_
    obtain ⟨v83, ev83, hm⟩ := lt1_inv hm
    refine ltop ev83 ?_
    refine lv_istore (lv' := [(8, .int v83), (0, .ref (a 27)), (1, .int y74), (3, .int y75), (4, .int y76), (7, .int y77)]) hx hb dX3_tryIsland_166 hl (by decide) rfl (fun ls hl => ?_)
    refine lv_aload_n hx hb dX3_tryIsland_168 rfl (lv_at hl 1 rfl) ?_
    refine lv_iload hx hb dX3_tryIsland_169 (lv_at hl 0 rfl) ?_
    obtain ⟨v84, v85, v86, h_v84, hm⟩ := bd3_inv hm
    refine cVx ⟨hx, hb, hml, hown, hts⟩ (c_X3_addIsland l D cI cJ cS cB a K_columns K_rows y78 y79 y80 y82 v83 N v84 v85 v86 h_v84) (cwV 1 hts gX3_tryIsland_X3_addIsland rfl rfl rfl hd_X3_addIsland ⟨(Nat.le_of_ble_eq_true rfl), (Nat.le_of_ble_eq_true rfl)⟩) hK hP hD hS hA [0, 1, 3] rfl rfl [o_K a K_columns K_rows v84 y79, ai (a 28) cI 144 v85, ai (a 29) cI 144 y81, ai (a 30) cI 24 v86] [(true, 0), (true, 1), (false, 2), (true, 2)] rfl rfl rfl hl.1 (Nat.le_of_ble_eq_true rfl) ⟨Nat.zero_le _, Nat.zero_le _⟩ 0 rfl rfl rfl rfl dX3_tryIsland_171 (fun H locs hP hD hS => ?_)
    refine lv_aload_n hx hb dX3_tryIsland_174 rfl (lv_at hl 1 rfl) ?_
    refine va_get (D := D) (ci := 3) (v := .ref (a 29)) (C := RX3) (T := TX3) (N := 7) hx hb hts hiX3 hown hK.1 hP 0 rfl rfl 1 (by decide) (hts (.fieldLink RX3 15 "IslandBridges$Maker" "numbers" "[I") (List.mem_of_getElem? (i := 5) rfl)) (fun _ h9 => h9) rfl dX3_tryIsland_175 ?_
    refine lv_iload_n hx hb dX3_tryIsland_178 rfl (lv_at hl 2 rfl) ?_
    refine lv_iload hx hb dX3_tryIsland_179 (lv_at hl 4 rfl) ?_
    obtain ⟨v87, ev87, hm⟩ := lt1_inv hm
    refine cNx ⟨hx, hb, hml, hown, hts⟩ (c_X9_add l D cI cJ cS cB (a 29) 144 (Nat.le_of_ble_eq_true rfl) y81 y74 y76 v87 ev87) ⟨va_cnB 3 hts gX3_tryIsland_X9_add_n61 rfl rfl rfl (kn_17 hK) (hts (.initialized RX9) (List.mem_of_getElem? (i := 14) rfl)) hd_X9_add ⟨(Nat.le_of_ble_eq_true rfl), (Nat.le_of_ble_eq_true rfl)⟩, (hts (.static yX9_add) (List.mem_of_getElem? (i := 27) rfl)), trivial⟩ hK hP hD hS hA [2] rfl rfl [o_K a K_columns K_rows v84 y79, ai (a 28) cI 144 v85, ai (a 29) cI 144 v87, ai (a 30) cI 24 v86] [(false, 0), (false, 1), (true, 0), (false, 3)] rfl rfl rfl hl.1 (Nat.le_of_ble_eq_true rfl) ⟨Nat.zero_le _, Nat.zero_le _⟩ rfl dX3_tryIsland_181 (fun H locs hP hD hS => ?_)
    refine lv_aload_n hx hb dX3_tryIsland_184 rfl (lv_at hl 1 rfl) ?_
    refine va_get (D := D) (ci := 3) (v := .ref (a 29)) (C := RX3) (T := TX3) (N := 7) hx hb hts hiX3 hown hK.1 hP 0 rfl rfl 1 (by decide) (hts (.fieldLink RX3 15 "IslandBridges$Maker" "numbers" "[I") (List.mem_of_getElem? (i := 5) rfl)) (fun _ h9 => h9) rfl dX3_tryIsland_185 ?_
    refine lv_iload hx hb dX3_tryIsland_188 (lv_at hl 0 rfl) ?_
    refine lv_iload hx hb dX3_tryIsland_190 (lv_at hl 4 rfl) ?_
    obtain ⟨v88, ev88, hm⟩ := lt1_inv hm
    refine cNx ⟨hx, hb, hml, hown, hts⟩ (c_X9_add l D cI cJ cS cB (a 29) 144 (Nat.le_of_ble_eq_true rfl) v87 v83 y76 v88 ev88) ⟨va_cnB 3 hts gX3_tryIsland_X9_add_n61 rfl rfl rfl (kn_17 hK) (hts (.initialized RX9) (List.mem_of_getElem? (i := 14) rfl)) hd_X9_add ⟨(Nat.le_of_ble_eq_true rfl), (Nat.le_of_ble_eq_true rfl)⟩, (hts (.static yX9_add) (List.mem_of_getElem? (i := 27) rfl)), trivial⟩ hK hP hD hS hA [2] rfl rfl [o_K a K_columns K_rows v84 y79, ai (a 28) cI 144 v85, ai (a 29) cI 144 v88, ai (a 30) cI 24 v86] [(false, 0), (false, 1), (true, 0), (false, 3)] rfl rfl rfl hl.1 (Nat.le_of_ble_eq_true rfl) ⟨Nat.zero_le _, Nat.zero_le _⟩ rfl dX3_tryIsland_192 (fun H locs hP hD hS => ?_)
    cases hm
    exact rV () hx hb hr hlk hP hD hS dX3_tryIsland_195
  have h133 : ∀ (y64 : Int32) (y65 : Int32) (y66 : Int32) (y67 : Int32) (y69 : Int32) (y70 : Int32) (y72 : Nat → Int32) (y73 : Nat → Int32), ∀ (n : Nat) (y68 : Int32) (y71 : Nat → Int32), zl2 (m_X3_tryIsland_b133 N y64 y65 y66 y67 y69 y70 y72 y73) n y68 y71 = some (K_islands', K_z', K_taken', K_numbers', K_cellOf') → ∀ (H : Heap) (locs : List Loc), va_P D vwCl [o_K a K_columns K_rows y69 y70, ai (a 28) cI 144 y71, ai (a 29) cI 144 y72, ai (a 30) cI 24 y73] H → va_D A [o_K a K_columns K_rows y69 y70, ai (a 28) cI 144 y71, ai (a 29) cI 144 y72, ai (a 30) cI 24 y73] → va_S A s.heap H locs → ∀ ls : Array Slot, lv_has ls 9 [(0, .ref (a 27)), (1, .int y64), (3, .int y65), (4, .int y66), (7, .int y67), (8, .int y68)] → W p l e { frames := 2, cells := 0, slots := 0, locals := 45 } s m args below meth c H locs 0 0 (MQ below (eQ D none (fun _ : Unit => [o_K a K_columns K_rows K_islands' K_z', ai (a 28) cI 144 K_taken', ai (a 29) cI 144 K_numbers', ai (a 30) cI 24 K_cellOf']) A) args s 0 0 A) (F0 m 133 ls []) := by
    intro y64 y65 y66 y67 y69 y70 y72 y73
    refine zl2_ind (fun rec133 ih133 y68 y71 hm => ?_)
    intro H locs hP hD hS ls hl
    unfold m_X3_tryIsland_b133 at hm
    refine lv_iload hx hb dX3_tryIsland_133 (lv_at hl 5 rfl) ?_
    refine lv_iload_n hx hb dX3_tryIsland_135 rfl (lv_at hl 2 rfl) ?_
    refine lv_icmp_ge (tgt := 160) hx hb dX3_tryIsland_136 (by decide) (fun c136 => ?_) (fun c136 => ?_)
    · have hm := ip c136 hm
      exact h160 y64 y65 y66 y67 y69 y70 y71 y72 y73 hm _ _ hP hD hS ls (lv_sub hl [0, 1, 2, 3, 4] rfl)
    · have hm := ine c136 hm
      refine lv_aload_n hx hb dX3_tryIsland_139 rfl (lv_at hl 0 rfl) ?_
      refine va_get (D := D) (ci := 3) (v := .ref (a 28)) (C := RX3) (T := TX3) (N := 7) hx hb hts hiX3 hown hK.1 hP 0 rfl rfl 0 (by decide) (hts (.fieldLink RX3 9 "IslandBridges$Maker" "taken" "[I") (List.mem_of_getElem? (i := 4) rfl)) (fun _ h9 => h9) rfl dX3_tryIsland_140 ?_
      refine lv_iload_n hx hb dX3_tryIsland_143 rfl (lv_at hl 1 rfl) ?_
      refine lv_iload hx hb dX3_tryIsland_144 (lv_at hl 5 rfl) ?_
      refine lv_iload hx hb dX3_tryIsland_146 (lv_at hl 4 rfl) ?_
      refine lv_imul hx hb dX3_tryIsland_148 ?_
      refine lv_iadd hx hb dX3_tryIsland_149 ?_
      refine lv_iconst (v := 1) hx hb dX3_tryIsland_150 (by decide) ?_
      obtain ⟨v89, ev89, hm⟩ := lt1_inv hm
      refine cNx ⟨hx, hb, hml, hown, hts⟩ (c_X9_put l D cI cJ cS cB (a 28) 144 (Nat.le_of_ble_eq_true rfl) y71 (y64 + (y68 * y67)) 1 v89 ev89) ⟨va_cnB 3 hts gX3_tryIsland_X9_put_n34 rfl rfl rfl (kn_15 hK) (hts (.initialized RX9) (List.mem_of_getElem? (i := 14) rfl)) hd_X9_put ⟨(Nat.le_of_ble_eq_true rfl), (Nat.le_of_ble_eq_true rfl)⟩, (hts (.static yX9_put) (List.mem_of_getElem? (i := 21) rfl)), trivial⟩ hK hP hD hS hA [1] rfl rfl [o_K a K_columns K_rows y69 y70, ai (a 28) cI 144 v89, ai (a 29) cI 144 y72, ai (a 30) cI 24 y73] [(false, 0), (true, 0), (false, 2), (false, 3)] rfl rfl rfl hl.1 (Nat.le_of_ble_eq_true rfl) ⟨Nat.zero_le _, Nat.zero_le _⟩ rfl dX3_tryIsland_151 (fun H locs hP hD hS => ?_)
      obtain ⟨v90, ev90, hm⟩ := lt1_inv hm
      refine lv_iinc (v := v90) (lv' := [(8, .int v90), (0, .ref (a 27)), (1, .int y64), (3, .int y65), (4, .int y66), (7, .int y67)]) hx hb dX3_tryIsland_154 hl (k := 5) rfl ev90 (by decide) rfl (fun ls hl => ?_)
      refine lv_goto (tgt := 133) hx hb dX3_tryIsland_157 (by decide) ?_
      exact ih133 v90 v89 hm _ _ hP hD hS ls (lv_sub hl [1, 2, 3, 4, 5, 0] rfl)
  have h130 : ∀ (y55 : Int32) (y56 : Int32) (y57 : Int32) (y58 : Int32) (y59 : Int32) (y60 : Int32) (y61 : Nat → Int32) (y62 : Nat → Int32) (y63 : Nat → Int32), m_X3_tryIsland_j130 N y55 y56 y57 y58 y59 y60 y61 y62 y63 = some (K_islands', K_z', K_taken', K_numbers', K_cellOf') → ∀ (H : Heap) (locs : List Loc), va_P D vwCl [o_K a K_columns K_rows y59 y60, ai (a 28) cI 144 y61, ai (a 29) cI 144 y62, ai (a 30) cI 24 y63] H → va_D A [o_K a K_columns K_rows y59 y60, ai (a 28) cI 144 y61, ai (a 29) cI 144 y62, ai (a 30) cI 24 y63] → va_S A s.heap H locs → ∀ ls : Array Slot, lv_has ls 9 [(0, .ref (a 27)), (1, .int y55), (3, .int y56), (4, .int y57), (7, .int y58)] → W p l e { frames := 2, cells := 0, slots := 0, locals := 45 } s m args below meth c H locs 0 0 (MQ below (eQ D none (fun _ : Unit => [o_K a K_columns K_rows K_islands' K_z', ai (a 28) cI 144 K_taken', ai (a 29) cI 144 K_numbers', ai (a 30) cI 24 K_cellOf']) A) args s 0 0 A) (F0 m 130 ls []) := by
    intro y55 y56 y57 y58 y59 y60 y61 y62 y63 hm H locs hP hD hS ls hl
    unfold m_X3_tryIsland_j130 at hm
    refine lv_iconst (v := 1) hx hb dX3_tryIsland_130 (by decide) ?_
    refine lv_istore (lv' := [(8, .int 1), (0, .ref (a 27)), (1, .int y55), (3, .int y56), (4, .int y57), (7, .int y58)]) hx hb dX3_tryIsland_131 hl (by decide) rfl (fun ls hl => ?_)
    exact h133 y55 y56 y57 y58 y59 y60 y62 y63 N 1 y61 hm _ _ hP hD hS ls (lv_sub hl [1, 2, 3, 4, 5, 0] rfl)
  have h100 : ∀ (y45 : Int32) (y46 : Int32) (y47 : Int32) (y48 : Int32) (y50 : Int32) (y51 : Int32) (y52 : Nat → Int32) (y53 : Nat → Int32) (y54 : Nat → Int32), ∀ (n : Nat) (y49 : Int32), zl1 (m_X3_tryIsland_b100 N y45 y46 y47 y48 y50 y51 y52 y53 y54) n y49 = some (K_islands', K_z', K_taken', K_numbers', K_cellOf') → ∀ (H : Heap) (locs : List Loc), va_P D vwCl [o_K a K_columns K_rows y50 y51, ai (a 28) cI 144 y52, ai (a 29) cI 144 y53, ai (a 30) cI 24 y54] H → va_D A [o_K a K_columns K_rows y50 y51, ai (a 28) cI 144 y52, ai (a 29) cI 144 y53, ai (a 30) cI 24 y54] → va_S A s.heap H locs → ∀ ls : Array Slot, lv_has ls 9 [(0, .ref (a 27)), (1, .int y45), (3, .int y46), (4, .int y47), (7, .int y48), (8, .int y49)] → W p l e { frames := 2, cells := 0, slots := 0, locals := 45 } s m args below meth c H locs 0 0 (MQ below (eQ D none (fun _ : Unit => [o_K a K_columns K_rows K_islands' K_z', ai (a 28) cI 144 K_taken', ai (a 29) cI 144 K_numbers', ai (a 30) cI 24 K_cellOf']) A) args s 0 0 A) (F0 m 100 ls []) := by
    intro y45 y46 y47 y48 y50 y51 y52 y53 y54
    refine zl1_ind (fun rec100 ih100 y49 hm => ?_)
    intro H locs hP hD hS ls hl
    unfold m_X3_tryIsland_b100 at hm
    refine lv_iload hx hb dX3_tryIsland_100 (lv_at hl 5 rfl) ?_
    refine lv_iload_n hx hb dX3_tryIsland_102 rfl (lv_at hl 2 rfl) ?_
    refine lv_icmp_gt (tgt := 130) hx hb dX3_tryIsland_103 (by decide) (fun c103 => ?_) (fun c103 => ?_)
    · have hm := ip c103 hm
      exact h130 y45 y46 y47 y48 y50 y51 y52 y53 y54 hm _ _ hP hD hS ls (lv_sub hl [0, 1, 2, 3, 4] rfl)
    · have hm := ine c103 hm
      refine lv_aload_n hx hb dX3_tryIsland_106 rfl (lv_at hl 0 rfl) ?_
      refine va_get (D := D) (ci := 3) (v := .ref (a 28)) (C := RX3) (T := TX3) (N := 7) hx hb hts hiX3 hown hK.1 hP 0 rfl rfl 0 (by decide) (hts (.fieldLink RX3 9 "IslandBridges$Maker" "taken" "[I") (List.mem_of_getElem? (i := 4) rfl)) (fun _ h9 => h9) rfl dX3_tryIsland_107 ?_
      refine lv_iload_n hx hb dX3_tryIsland_110 rfl (lv_at hl 1 rfl) ?_
      refine lv_iload hx hb dX3_tryIsland_111 (lv_at hl 5 rfl) ?_
      refine lv_iload hx hb dX3_tryIsland_113 (lv_at hl 4 rfl) ?_
      refine lv_imul hx hb dX3_tryIsland_115 ?_
      refine lv_iadd hx hb dX3_tryIsland_116 ?_
      obtain ⟨v91, ev91, hm⟩ := lt1_inv hm
      refine cNs ⟨hx, hb, hml, hown, hts⟩ (c_X9_valueAt l D cI cJ cS cB (a 28) 144 (Nat.le_of_ble_eq_true rfl) y52 (y45 + (y49 * y48)) v91 ev91) ⟨va_cnB 2 hts gX3_tryIsland_X9_valueAt_n52 rfl rfl rfl (kn_16 hK) (hts (.initialized RX9) (List.mem_of_getElem? (i := 14) rfl)) hd_X9_valueAt ⟨(Nat.le_of_ble_eq_true rfl), (Nat.le_of_ble_eq_true rfl)⟩, (hts (.static yX9_valueAt) (List.mem_of_getElem? (i := 13) rfl)), trivial⟩ hK hP hD hS hA [1] rfl rfl rfl hl.1 (Nat.le_of_ble_eq_true rfl) ⟨Nat.zero_le _, Nat.zero_le _⟩ rfl dX3_tryIsland_117 (fun H locs hP hD hS => ?_)
      refine lv_if_eq (tgt := 124) hx hb dX3_tryIsland_120 (by decide) (fun c120 => ?_) (fun c120 => ?_)
      · have hm := ip c120 hm
        obtain ⟨v92, ev92, hm⟩ := lt1_inv hm
        refine lv_iinc (v := v92) (lv' := [(8, .int v92), (0, .ref (a 27)), (1, .int y45), (3, .int y46), (4, .int y47), (7, .int y48)]) hx hb dX3_tryIsland_124 hl (k := 5) rfl ev92 (by decide) rfl (fun ls hl => ?_)
        refine lv_goto (tgt := 100) hx hb dX3_tryIsland_127 (by decide) ?_
        exact ih100 v92 hm _ _ hP hD hS ls (lv_sub hl [1, 2, 3, 4, 5, 0] rfl)
      · have hm := ine c120 hm
        cases hm
        exact rV () hx hb hr hlk hP hD hS dX3_tryIsland_123
  have h94 : ∀ (y34 : Int32) (y35 : Int32) (y36 : Int32) (y37 : Int32) (y38 : Int32) (y39 : Nat → Int32) (y40 : Nat → Int32) (y41 : Nat → Int32) (y42 : Int32) (y43 : Int32), m_X3_tryIsland_j94 N y34 y35 y36 y37 y38 y39 y40 y41 y42 y43 = some (K_islands', K_z', K_taken', K_numbers', K_cellOf') → ∀ (H : Heap) (locs : List Loc), va_P D vwCl [o_K a K_columns K_rows y37 y38, ai (a 28) cI 144 y39, ai (a 29) cI 144 y40, ai (a 30) cI 24 y41] H → va_D A [o_K a K_columns K_rows y37 y38, ai (a 28) cI 144 y39, ai (a 29) cI 144 y40, ai (a 30) cI 24 y41] → va_S A s.heap H locs → ∀ ls : Array Slot, lv_has ls 9 [(0, .ref (a 27)), (1, .int y34), (3, .int y35), (4, .int y36)] → W p l e { frames := 2, cells := 0, slots := 0, locals := 45 } s m args below meth c H locs 0 0 (MQ below (eQ D none (fun _ : Unit => [o_K a K_columns K_rows K_islands' K_z', ai (a 28) cI 144 K_taken', ai (a 29) cI 144 K_numbers', ai (a 30) cI 24 K_cellOf']) A) args s 0 0 A) (F0 m 94 ls [.int y43, .int y42]) := by
    intro y34 y35 y36 y37 y38 y39 y40 y41 y42 y43 hm H locs hP hD hS ls hl
    unfold m_X3_tryIsland_j94 at hm
    refine lv_imul hx hb dX3_tryIsland_94 ?_
    obtain ⟨v44, ev44, hm⟩ := lt1_inv hm
    refine ltop ev44 ?_
    refine lv_istore (lv' := [(7, .int v44), (0, .ref (a 27)), (1, .int y34), (3, .int y35), (4, .int y36)]) hx hb dX3_tryIsland_95 hl (by decide) rfl (fun ls hl => ?_)
    refine lv_iconst (v := 1) hx hb dX3_tryIsland_97 (by decide) ?_
    refine lv_istore (lv' := [(8, .int 1), (7, .int v44), (0, .ref (a 27)), (1, .int y34), (3, .int y35), (4, .int y36)]) hx hb dX3_tryIsland_98 hl (by decide) rfl (fun ls hl => ?_)
    exact h100 y34 y35 y36 v44 y37 y38 y39 y40 y41 N 1 hm _ _ hP hD hS ls (lv_sub hl [2, 3, 4, 5, 1, 0] rfl)
  have h62 : ∀ (y23 : Int32) (y24 : Int32) (y25 : Int32) (y26 : Int32) (y27 : Int32) (y28 : Int32) (y29 : Nat → Int32) (y30 : Nat → Int32) (y31 : Nat → Int32) (y32 : Int32), m_X3_tryIsland_j62 N K_columns K_rows y23 y24 y25 y26 y27 y28 y29 y30 y31 y32 = some (K_islands', K_z', K_taken', K_numbers', K_cellOf') → ∀ (H : Heap) (locs : List Loc), va_P D vwCl [o_K a K_columns K_rows y27 y28, ai (a 28) cI 144 y29, ai (a 29) cI 144 y30, ai (a 30) cI 24 y31] H → va_D A [o_K a K_columns K_rows y27 y28, ai (a 28) cI 144 y29, ai (a 29) cI 144 y30, ai (a 30) cI 24 y31] → va_S A s.heap H locs → ∀ ls : Array Slot, lv_has ls 9 [(0, .ref (a 27)), (1, .int y23), (3, .int y24), (4, .int y25), (5, .int y26)] → W p l e { frames := 2, cells := 0, slots := 0, locals := 45 } s m args below meth c H locs 0 0 (MQ below (eQ D none (fun _ : Unit => [o_K a K_columns K_rows K_islands' K_z', ai (a 28) cI 144 K_taken', ai (a 29) cI 144 K_numbers', ai (a 30) cI 24 K_cellOf']) A) args s 0 0 A) (F0 m 62 ls [.int y32]) := by
    intro y23 y24 y25 y26 y27 y28 y29 y30 y31 y32 hm H locs hP hD hS ls hl
    unfold m_X3_tryIsland_j62 at hm
    refine lv_istore (lv' := [(6, .int y32), (0, .ref (a 27)), (1, .int y23), (3, .int y24), (4, .int y25), (5, .int y26)]) hx hb dX3_tryIsland_62 hl (by decide) rfl (fun ls hl => ?_)
    refine lv_aload_n hx hb dX3_tryIsland_64 rfl (lv_at hl 1 rfl) ?_
    refine lv_iload_n hx hb dX3_tryIsland_65 rfl (lv_at hl 2 rfl) ?_
    refine lv_iload hx hb dX3_tryIsland_66 (lv_at hl 0 rfl) ?_
    refine lv_iload hx hb dX3_tryIsland_68 (lv_at hl 5 rfl) ?_
    refine lv_iload_n hx hb dX3_tryIsland_70 rfl (lv_at hl 3 rfl) ?_
    refine lv_imul hx hb dX3_tryIsland_71 ?_
    obtain ⟨v33, h_v33, hm⟩ := bd1_inv hm
    refine cVs ⟨hx, hb, hml, hown, hts⟩ (c_X3_isOnBoard l D cI cJ cS cB a K_columns K_rows y27 y28 y23 y32 (y26 * y24) v33 h_v33) (cwV 3 hts gX3_tryIsland_X3_isOnBoard rfl rfl rfl hd_X3_isOnBoard ⟨(Nat.le_of_ble_eq_true rfl), (Nat.le_of_ble_eq_true rfl)⟩) hK hP hD hS hA [0] rfl rfl rfl hl.1 (Nat.le_of_ble_eq_true rfl) ⟨Nat.zero_le _, Nat.zero_le _⟩ 0 rfl rfl rfl rfl dX3_tryIsland_72 (fun H locs hP hD hS => ?_)
    refine lv_if_ne (tgt := 79) hx hb dX3_tryIsland_75 (by decide) (fun c75 => ?_) (fun c75 => ?_)
    · have hm := ine c75 hm
      refine lv_iload hx hb dX3_tryIsland_79 (lv_at hl 5 rfl) ?_
      refine lv_iload hx hb dX3_tryIsland_81 (lv_at hl 0 rfl) ?_
      refine lv_if_eq (tgt := 90) hx hb dX3_tryIsland_83 (by decide) (fun c83 => ?_) (fun c83 => ?_)
      · have hm := ip c83 hm
        refine lv_aload_n hx hb dX3_tryIsland_90 rfl (lv_at hl 1 rfl) ?_
        refine va_get (D := D) (ci := 3) (v := .int K_columns) (C := RX3) (T := TX3) (N := 7) hx hb hts hiX3 hown hK.1 hP 0 rfl rfl 3 (by decide) (hts (.fieldLink RX3 21 "IslandBridges$Maker" "columns" "I") (List.mem_of_getElem? (i := 3) rfl)) (fun _ h9 => h9) rfl dX3_tryIsland_91 ?_
        exact h94 y23 y24 y25 y27 y28 y29 y30 y31 y26 K_columns hm _ _ hP hD hS ls (lv_sub hl [1, 2, 3, 4] rfl)
      · have hm := ine c83 hm
        refine lv_iconst (v := 1) hx hb dX3_tryIsland_86 (by decide) ?_
        refine lv_goto (tgt := 94) hx hb dX3_tryIsland_87 (by decide) ?_
        exact h94 y23 y24 y25 y27 y28 y29 y30 y31 y26 1 hm _ _ hP hD hS ls (lv_sub hl [1, 2, 3, 4] rfl)
    · have hm := ip c75 hm
      cases hm
      exact rV () hx hb hr hlk hP hD hS dX3_tryIsland_78
  have h49 : ∀ (y12 : Int32) (y13 : Int32) (y14 : Int32) (y15 : Int32) (y16 : Int32) (y17 : Int32) (y18 : Nat → Int32) (y19 : Nat → Int32) (y20 : Nat → Int32) (y21 : Int32), m_X3_tryIsland_j49 N K_columns K_rows y12 y13 y14 y15 y16 y17 y18 y19 y20 y21 = some (K_islands', K_z', K_taken', K_numbers', K_cellOf') → ∀ (H : Heap) (locs : List Loc), va_P D vwCl [o_K a K_columns K_rows y16 y17, ai (a 28) cI 144 y18, ai (a 29) cI 144 y19, ai (a 30) cI 24 y20] H → va_D A [o_K a K_columns K_rows y16 y17, ai (a 28) cI 144 y18, ai (a 29) cI 144 y19, ai (a 30) cI 24 y20] → va_S A s.heap H locs → ∀ ls : Array Slot, lv_has ls 9 [(0, .ref (a 27)), (1, .int y12), (2, .int y13), (3, .int y14), (4, .int y15)] → W p l e { frames := 2, cells := 0, slots := 0, locals := 45 } s m args below meth c H locs 0 0 (MQ below (eQ D none (fun _ : Unit => [o_K a K_columns K_rows K_islands' K_z', ai (a 28) cI 144 K_taken', ai (a 29) cI 144 K_numbers', ai (a 30) cI 24 K_cellOf']) A) args s 0 0 A) (F0 m 49 ls [.int y21]) := by
    intro y12 y13 y14 y15 y16 y17 y18 y19 y20 y21 hm H locs hP hD hS ls hl
    unfold m_X3_tryIsland_j49 at hm
    refine lv_istore (lv' := [(5, .int y21), (0, .ref (a 27)), (1, .int y12), (2, .int y13), (3, .int y14), (4, .int y15)]) hx hb dX3_tryIsland_49 hl (by decide) rfl (fun ls hl => ?_)
    refine lv_iload_n hx hb dX3_tryIsland_51 rfl (lv_at hl 3 rfl) ?_
    refine lv_iconst (v := 2) hx hb dX3_tryIsland_52 (by decide) ?_
    refine lv_irem hx hb dX3_tryIsland_53 (by decide) ?_
    obtain ⟨v22, ev22, hm⟩ := lt1_inv hm
    refine ltop ev22 ?_
    refine lv_if_ne (tgt := 61) hx hb dX3_tryIsland_54 (by decide) (fun c54 => ?_) (fun c54 => ?_)
    · have hm := ine c54 hm
      refine lv_iconst (v := 0) hx hb dX3_tryIsland_61 (by decide) ?_
      exact h62 y12 y14 y15 y21 y16 y17 y18 y19 y20 0 hm _ _ hP hD hS ls (lv_sub hl [1, 2, 4, 5, 0] rfl)
    · have hm := ip c54 hm
      refine lv_iconst (v := 1) hx hb dX3_tryIsland_57 (by decide) ?_
      refine lv_goto (tgt := 62) hx hb dX3_tryIsland_58 (by decide) ?_
      exact h62 y12 y14 y15 y21 y16 y17 y18 y19 y20 1 hm _ _ hP hD hS ls (lv_sub hl [1, 2, 4, 5, 0] rfl)
  refine lv_aload_n hx hb dX3_tryIsland_0 rfl (lv_at hl 0 rfl) ?_
  refine va_get (D := D) (ci := 3) (v := .ref (a 30)) (C := RX3) (T := TX3) (N := 7) hx hb hts hiX3 hown hK.1 hP 0 rfl rfl 2 (by decide) (hts (.fieldLink RX3 18 "IslandBridges$Maker" "cellOf" "[I") (List.mem_of_getElem? (i := 1) rfl)) (fun _ h9 => h9) rfl dX3_tryIsland_1 ?_
  refine lv_aload_n hx hb dX3_tryIsland_4 rfl (lv_at hl 0 rfl) ?_
  refine lv_aload_n hx hb dX3_tryIsland_5 rfl (lv_at hl 0 rfl) ?_
  refine va_get (D := D) (ci := 3) (v := .int K_islands) (C := RX3) (T := TX3) (N := 7) hx hb hts hiX3 hown hK.1 hP 0 rfl rfl 5 (by decide) (hts (.fieldLink RX3 28 "IslandBridges$Maker" "islands" "I") (List.mem_of_getElem? (i := 2) rfl)) (fun _ h9 => h9) rfl dX3_tryIsland_6 ?_
  obtain ⟨v1, v2, h_v1, hm⟩ := bd2_inv hm
  refine cVx ⟨hx, hb, hml, hown, hts⟩ (c_X3_draw l D cI cJ cS cB a K_columns K_rows K_islands K_z K_islands v1 v2 h_v1) (cwV 1 hts gX3_tryIsland_X3_draw rfl rfl rfl hd_X3_draw ⟨(Nat.le_of_ble_eq_true rfl), (Nat.le_of_ble_eq_true rfl)⟩) hK hP hD hS hA [0] rfl rfl [o_K a K_columns K_rows K_islands v2, ai (a 28) cI 144 K_taken, ai (a 29) cI 144 K_numbers, ai (a 30) cI 24 K_cellOf] [(true, 0), (false, 1), (false, 2), (false, 3)] rfl rfl rfl hl.1 (Nat.le_of_ble_eq_true rfl) ⟨Nat.zero_le _, Nat.zero_le _⟩ 0 rfl rfl rfl rfl dX3_tryIsland_9 (fun H locs hP hD hS => ?_)
  obtain ⟨v3, ev3, hm⟩ := lt1_inv hm
  refine cNs ⟨hx, hb, hml, hown, hts⟩ (c_X9_valueAt l D cI cJ cS cB (a 30) 24 (Nat.le_of_ble_eq_true rfl) K_cellOf v1 v3 ev3) ⟨va_cnB 2 hts gX3_tryIsland_X9_valueAt_n52 rfl rfl rfl (kn_16 hK) (hts (.initialized RX9) (List.mem_of_getElem? (i := 14) rfl)) hd_X9_valueAt ⟨(Nat.le_of_ble_eq_true rfl), (Nat.le_of_ble_eq_true rfl)⟩, (hts (.static yX9_valueAt) (List.mem_of_getElem? (i := 13) rfl)), trivial⟩ hK hP hD hS hA [3] rfl rfl rfl hl.1 (Nat.le_of_ble_eq_true rfl) ⟨Nat.zero_le _, Nat.zero_le _⟩ rfl dX3_tryIsland_12 (fun H locs hP hD hS => ?_)
  refine lv_istore_n (lv' := [(1, .int v3), (0, .ref (a 27))]) hx hb dX3_tryIsland_15 rfl hl (by decide) rfl (fun ls hl => ?_)
  refine lv_aload_n hx hb dX3_tryIsland_16 rfl (lv_at hl 1 rfl) ?_
  refine lv_iconst (v := 4) hx hb dX3_tryIsland_17 (by decide) ?_
  obtain ⟨v4, v5, h_v4, hm⟩ := bd2_inv hm
  refine cVx ⟨hx, hb, hml, hown, hts⟩ (c_X3_draw l D cI cJ cS cB a K_columns K_rows K_islands v2 4 v4 v5 h_v4) (cwV 1 hts gX3_tryIsland_X3_draw rfl rfl rfl hd_X3_draw ⟨(Nat.le_of_ble_eq_true rfl), (Nat.le_of_ble_eq_true rfl)⟩) hK hP hD hS hA [0] rfl rfl [o_K a K_columns K_rows K_islands v5, ai (a 28) cI 144 K_taken, ai (a 29) cI 144 K_numbers, ai (a 30) cI 24 K_cellOf] [(true, 0), (false, 1), (false, 2), (false, 3)] rfl rfl rfl hl.1 (Nat.le_of_ble_eq_true rfl) ⟨Nat.zero_le _, Nat.zero_le _⟩ 0 rfl rfl rfl rfl dX3_tryIsland_18 (fun H locs hP hD hS => ?_)
  refine lv_istore_n (lv' := [(2, .int v4), (1, .int v3), (0, .ref (a 27))]) hx hb dX3_tryIsland_21 rfl hl (by decide) rfl (fun ls hl => ?_)
  refine lv_aload_n hx hb dX3_tryIsland_22 rfl (lv_at hl 2 rfl) ?_
  refine lv_iconst (v := 4) hx hb dX3_tryIsland_23 (by decide) ?_
  obtain ⟨v6, v7, h_v6, hm⟩ := bd2_inv hm
  refine cVx ⟨hx, hb, hml, hown, hts⟩ (c_X3_draw l D cI cJ cS cB a K_columns K_rows K_islands v5 4 v6 v7 h_v6) (cwV 1 hts gX3_tryIsland_X3_draw rfl rfl rfl hd_X3_draw ⟨(Nat.le_of_ble_eq_true rfl), (Nat.le_of_ble_eq_true rfl)⟩) hK hP hD hS hA [0] rfl rfl [o_K a K_columns K_rows K_islands v7, ai (a 28) cI 144 K_taken, ai (a 29) cI 144 K_numbers, ai (a 30) cI 24 K_cellOf] [(true, 0), (false, 1), (false, 2), (false, 3)] rfl rfl rfl hl.1 (Nat.le_of_ble_eq_true rfl) ⟨Nat.zero_le _, Nat.zero_le _⟩ 0 rfl rfl rfl rfl dX3_tryIsland_24 (fun H locs hP hD hS => ?_)
  refine lv_iconst (v := 2) hx hb dX3_tryIsland_27 (by decide) ?_
  refine lv_iadd hx hb dX3_tryIsland_28 ?_
  obtain ⟨v8, ev8, hm⟩ := lt1_inv hm
  refine ltop ev8 ?_
  refine lv_istore_n (lv' := [(3, .int v8), (2, .int v4), (1, .int v3), (0, .ref (a 27))]) hx hb dX3_tryIsland_29 rfl hl (by decide) rfl (fun ls hl => ?_)
  refine lv_aload_n hx hb dX3_tryIsland_30 rfl (lv_at hl 3 rfl) ?_
  refine lv_iconst (v := 2) hx hb dX3_tryIsland_31 (by decide) ?_
  obtain ⟨v9, v10, h_v9, hm⟩ := bd2_inv hm
  refine cVx ⟨hx, hb, hml, hown, hts⟩ (c_X3_draw l D cI cJ cS cB a K_columns K_rows K_islands v7 2 v9 v10 h_v9) (cwV 1 hts gX3_tryIsland_X3_draw rfl rfl rfl hd_X3_draw ⟨(Nat.le_of_ble_eq_true rfl), (Nat.le_of_ble_eq_true rfl)⟩) hK hP hD hS hA [0] rfl rfl [o_K a K_columns K_rows K_islands v10, ai (a 28) cI 144 K_taken, ai (a 29) cI 144 K_numbers, ai (a 30) cI 24 K_cellOf] [(true, 0), (false, 1), (false, 2), (false, 3)] rfl rfl rfl hl.1 (Nat.le_of_ble_eq_true rfl) ⟨Nat.zero_le _, Nat.zero_le _⟩ 0 rfl rfl rfl rfl dX3_tryIsland_32 (fun H locs hP hD hS => ?_)
  refine lv_iconst (v := 1) hx hb dX3_tryIsland_35 (by decide) ?_
  refine lv_iadd hx hb dX3_tryIsland_36 ?_
  obtain ⟨v11, ev11, hm⟩ := lt1_inv hm
  refine ltop ev11 ?_
  refine lv_istore (lv' := [(4, .int v11), (3, .int v8), (2, .int v4), (1, .int v3), (0, .ref (a 27))]) hx hb dX3_tryIsland_37 hl (by decide) rfl (fun ls hl => ?_)
  refine lv_iload_n hx hb dX3_tryIsland_39 rfl (lv_at hl 2 rfl) ?_
  refine lv_iconst (v := 2) hx hb dX3_tryIsland_40 (by decide) ?_
  refine lv_icmp_ge (tgt := 48) hx hb dX3_tryIsland_41 (by decide) (fun c41 => ?_) (fun c41 => ?_)
  · have hm := ip c41 hm
    refine lv_iconst (v := (-1)) hx hb dX3_tryIsland_48 (by decide) ?_
    exact h49 v3 v4 v8 v11 K_islands v10 K_taken K_numbers K_cellOf ((-1)) hm _ _ hP hD hS ls (lv_sub hl [4, 3, 2, 1, 0] rfl)
  · have hm := ine c41 hm
    refine lv_iconst (v := 1) hx hb dX3_tryIsland_44 (by decide) ?_
    refine lv_goto (tgt := 49) hx hb dX3_tryIsland_45 (by decide) ?_
    exact h49 v3 v4 v8 v11 K_islands v10 K_taken K_numbers K_cellOf 1 hm _ _ hP hD hS ls (lv_sub hl [4, 3, 2, 1, 0] rfl)
theorem hd_X3_run : yX3_run.cls = RX3 ∧ yX3_run.cls ≠ "java/lang/invoke/MethodHandle" ∧ yX3_run.cls ≠ "java/lang/invoke/VarHandle" ∧ (parseMethodDescriptor yX3_run.desc).map (fun d => d.parameters.length) = some 4 := by decide +kernel
def m_X3_run_b77 (N : Nat) (x4 : Int32) (y22 : Int32) (y23 : Int32) (rec77 : Int32 → Int32 → Int32 → (Nat → Int32) → (Nat → Int32) → (Nat → Int32) → Option (Int32 × Int32 × Int32 × Int32 × (Nat → Int32) × (Nat → Int32) × (Nat → Int32))) (y21 : Int32) (y24 : Int32) (y25 : Int32) (y26 : Nat → Int32) (y27 : Nat → Int32) (y28 : Nat → Int32) : Option (Int32 × Int32 × Int32 × Int32 × (Nat → Int32) × (Nat → Int32) × (Nat → Int32)) :=
  if 200 ≤ y21 then (some ((y22, y23, y24, y25, y26, y27, y28))) else (if x4 ≤ y24 then (some ((y22, y23, y24, y25, y26, y27, y28))) else (bd5 (m_X3_tryIsland N y22 y23 y24 y25 y26 y27 y28) (fun v29 v30 v31 v32 v33 => lt1 (y21 + 1) (fun v34 => rec77 v34 v29 v30 v31 v32 v33))))
def m_X3_run_j57 (N : Nat) (x4 : Int32) (y9 : Int32) (y10 : Int32) (y11 : Int32) (y12 : Int32) (y13 : Nat → Int32) (y14 : Nat → Int32) (y15 : Nat → Int32) : Option (Int32 × Int32 × Int32 × Int32 × (Nat → Int32) × (Nat → Int32) × (Nat → Int32)) :=
  bd2 (m_X3_draw y12 (y9 * y10)) (fun v16 v17 => bd3 (m_X3_addIsland N y11 y13 y15 v16) (fun v18 v19 v20 => zl6 (m_X3_run_b77 N x4 y9 y10) N 0 v18 v17 v19 y14 v20))
def m_X3_run_b23 (N : Nat) (x4 : Int32) (y2 : Int32) (y3 : Int32) (y4 : Int32) (y5 : Int32) (y8 : Nat → Int32) (rec23 : Int32 → (Nat → Int32) → (Nat → Int32) → Option (Int32 × Int32 × Int32 × Int32 × (Nat → Int32) × (Nat → Int32) × (Nat → Int32))) (y1 : Int32) (y6 : Nat → Int32) (y7 : Nat → Int32) : Option (Int32 × Int32 × Int32 × Int32 × (Nat → Int32) × (Nat → Int32) × (Nat → Int32)) :=
  if 144 ≤ y1 then (m_X3_run_j57 N x4 y2 y3 y4 y5 y6 y7 y8) else (lt1 (vPut 144 y6 y1 0) (fun v35 => lt1 (vPut 144 y7 y1 0) (fun v36 => lt1 (y1 + 1) (fun v37 => rec23 v37 v35 v36))))
def m_X3_run (N : Nat) (K_taken : Nat → Int32) (K_numbers : Nat → Int32) (K_cellOf : Nat → Int32) (x1 : Int32) (x2 : Int32) (x3 : Int32) (x4 : Int32) : Option (Int32 × Int32 × Int32 × Int32 × (Nat → Int32) × (Nat → Int32) × (Nat → Int32)) :=
  zl3 (m_X3_run_b23 N x4 x1 x2 0 x3 K_cellOf) N 0 K_taken K_numbers
set_option maxHeartbeats 4000000 in
set_option maxRecDepth 100000 in
theorem c_X3_run (l : Launch) (D : va_G) (cI cJ cS cB : ClassId) (a : Nat → Nat) (K_columns : Int32) (K_rows : Int32) (K_islands : Int32) (K_z : Int32) (K_taken : Nat → Int32) (K_numbers : Nat → Int32) (K_cellOf : Nat → Int32) (x1 : Int32) (x2 : Int32) (x3 : Int32) (x4 : Int32) (N : Nat) (K_columns' : Int32) (K_rows' : Int32) (K_islands' : Int32) (K_z' : Int32) (K_taken' : Nat → Int32) (K_numbers' : Nat → Int32) (K_cellOf' : Nat → Int32) (hm : m_X3_run N K_taken K_numbers K_cellOf x1 x2 x3 x4 = some (K_columns', K_rows', K_islands', K_z', K_taken', K_numbers', K_cellOf')) :
    mU l D (TYs cI cJ cS cB) yX3_run wsX3_run { frames := 3, cells := 0, slots := 0, locals := 73 } [.ref (a 27), .int x1, .int x2, .int x3, .int x4] [o_K a K_columns K_rows K_islands K_z, ai (a 28) cI 144 K_taken, ai (a 29) cI 144 K_numbers, ai (a 30) cI 24 K_cellOf] [o_K a K_columns' K_rows' K_islands' K_z', ai (a 28) cI 144 K_taken', ai (a 29) cI 144 K_numbers', ai (a 30) cI 24 K_cellOf'] none := by
  refine mG_of (cc := cX3_run) (maxL := 6) (ret := none) (by decide) rfl rfl (Nat.le_of_ble_eq_true rfl) ?_
  intro p e s m args below meth c A hx hb hr hml hlk hnm hts hown hK hP hD hA hS ls hl
  have hl : lv_has ls 6 [(0, .ref (a 27)), (1, .int x1), (2, .int x2), (3, .int x3), (4, .int x4)] := hl
  have hiX3 : ∀ w ∈ wsX30, w ∈ wsX3_run := fun w h => List.mem_cons_of_mem _ (List.mem_append_right _ h)
  unfold m_X3_run at hm
  have h77 : ∀ (y22 : Int32) (y23 : Int32), ∀ (n : Nat) (y21 : Int32) (y24 : Int32) (y25 : Int32) (y26 : Nat → Int32) (y27 : Nat → Int32) (y28 : Nat → Int32), zl6 (m_X3_run_b77 N x4 y22 y23) n y21 y24 y25 y26 y27 y28 = some (K_columns', K_rows', K_islands', K_z', K_taken', K_numbers', K_cellOf') → ∀ (H : Heap) (locs : List Loc), va_P D vwCl [o_K a y22 y23 y24 y25, ai (a 28) cI 144 y26, ai (a 29) cI 144 y27, ai (a 30) cI 24 y28] H → va_D A [o_K a y22 y23 y24 y25, ai (a 28) cI 144 y26, ai (a 29) cI 144 y27, ai (a 30) cI 24 y28] → va_S A s.heap H locs → ∀ ls : Array Slot, lv_has ls 6 [(0, .ref (a 27)), (4, .int x4), (5, .int y21)] → W p l e { frames := 3, cells := 0, slots := 0, locals := 73 } s m args below meth c H locs 0 0 (MQ below (eQ D none (fun _ : Unit => [o_K a K_columns' K_rows' K_islands' K_z', ai (a 28) cI 144 K_taken', ai (a 29) cI 144 K_numbers', ai (a 30) cI 24 K_cellOf']) A) args s 0 0 A) (F0 m 77 ls []) := by
    intro y22 y23
    refine zl6_ind (fun rec77 ih77 y21 y24 y25 y26 y27 y28 hm => ?_)
    intro H locs hP hD hS ls hl
    unfold m_X3_run_b77 at hm
    refine lv_iload hx hb dX3_run_77 (lv_at hl 2 rfl) ?_
    refine lv_sipush (v := 200) hx hb dX3_run_79 (by decide) ?_
    refine lv_icmp_ge (tgt := 104) hx hb dX3_run_82 (by decide) (fun c82 => ?_) (fun c82 => ?_)
    · have hm := ip c82 hm
      cases hm
      exact rV () hx hb hr hlk hP hD hS dX3_run_104
    · have hm := ine c82 hm
      refine lv_aload_n hx hb dX3_run_85 rfl (lv_at hl 0 rfl) ?_
      refine va_get (D := D) (ci := 3) (v := .int y24) (C := RX3) (T := TX3) (N := 7) hx hb hts hiX3 hown hK.1 hP 0 rfl rfl 5 (by decide) (hts (.fieldLink RX3 28 "IslandBridges$Maker" "islands" "I") (List.mem_of_getElem? (i := 3) rfl)) (fun _ h9 => h9) rfl dX3_run_86 ?_
      refine lv_iload hx hb dX3_run_89 (lv_at hl 1 rfl) ?_
      refine lv_icmp_ge (tgt := 104) hx hb dX3_run_91 (by decide) (fun c91 => ?_) (fun c91 => ?_)
      · have hm := ip c91 hm
        cases hm
        exact rV () hx hb hr hlk hP hD hS dX3_run_104
      · have hm := ine c91 hm
        refine lv_aload_n hx hb dX3_run_94 rfl (lv_at hl 0 rfl) ?_
        obtain ⟨v29, v30, v31, v32, v33, h_v29, hm⟩ := bd5_inv hm
        refine cVx ⟨hx, hb, hml, hown, hts⟩ (c_X3_tryIsland l D cI cJ cS cB a y22 y23 y24 y25 y26 y27 y28 N v29 v30 v31 v32 v33 h_v29) (cwV 0 hts gX3_run_X3_tryIsland rfl rfl rfl hd_X3_tryIsland ⟨(Nat.le_of_ble_eq_true rfl), (Nat.le_of_ble_eq_true rfl)⟩) hK hP hD hS hA [0, 1, 2, 3] rfl rfl [o_K a y22 y23 v29 v30, ai (a 28) cI 144 v31, ai (a 29) cI 144 v32, ai (a 30) cI 24 v33] [(true, 0), (true, 1), (true, 2), (true, 3)] rfl rfl rfl hl.1 (Nat.le_of_ble_eq_true rfl) ⟨Nat.zero_le _, Nat.zero_le _⟩ 0 rfl rfl rfl rfl dX3_run_95 (fun H locs hP hD hS => ?_)
        obtain ⟨v34, ev34, hm⟩ := lt1_inv hm
        refine lv_iinc (v := v34) (lv' := [(5, .int v34), (0, .ref (a 27)), (4, .int x4)]) hx hb dX3_run_98 hl (k := 2) rfl ev34 (by decide) rfl (fun ls hl => ?_)
        refine lv_goto (tgt := 77) hx hb dX3_run_101 (by decide) ?_
        exact ih77 v34 v29 v30 v31 v32 v33 hm _ _ hP hD hS ls (lv_sub hl [1, 2, 0] rfl)
  have h57 : ∀ (y9 : Int32) (y10 : Int32) (y11 : Int32) (y12 : Int32) (y13 : Nat → Int32) (y14 : Nat → Int32) (y15 : Nat → Int32), m_X3_run_j57 N x4 y9 y10 y11 y12 y13 y14 y15 = some (K_columns', K_rows', K_islands', K_z', K_taken', K_numbers', K_cellOf') → ∀ (H : Heap) (locs : List Loc), va_P D vwCl [o_K a y9 y10 y11 y12, ai (a 28) cI 144 y13, ai (a 29) cI 144 y14, ai (a 30) cI 24 y15] H → va_D A [o_K a y9 y10 y11 y12, ai (a 28) cI 144 y13, ai (a 29) cI 144 y14, ai (a 30) cI 24 y15] → va_S A s.heap H locs → ∀ ls : Array Slot, lv_has ls 6 [(0, .ref (a 27)), (4, .int x4)] → W p l e { frames := 3, cells := 0, slots := 0, locals := 73 } s m args below meth c H locs 0 0 (MQ below (eQ D none (fun _ : Unit => [o_K a K_columns' K_rows' K_islands' K_z', ai (a 28) cI 144 K_taken', ai (a 29) cI 144 K_numbers', ai (a 30) cI 24 K_cellOf']) A) args s 0 0 A) (F0 m 57 ls []) := by
    intro y9 y10 y11 y12 y13 y14 y15 hm H locs hP hD hS ls hl
    unfold m_X3_run_j57 at hm
    refine lv_aload_n hx hb dX3_run_57 rfl (lv_at hl 0 rfl) ?_
    refine lv_aload_n hx hb dX3_run_58 rfl (lv_at hl 0 rfl) ?_
    refine lv_aload_n hx hb dX3_run_59 rfl (lv_at hl 0 rfl) ?_
    refine va_get (D := D) (ci := 3) (v := .int y9) (C := RX3) (T := TX3) (N := 7) hx hb hts hiX3 hown hK.1 hP 0 rfl rfl 3 (by decide) (hts (.fieldLink RX3 21 "IslandBridges$Maker" "columns" "I") (List.mem_of_getElem? (i := 1) rfl)) (fun _ h9 => h9) rfl dX3_run_60 ?_
    refine lv_aload_n hx hb dX3_run_63 rfl (lv_at hl 0 rfl) ?_
    refine va_get (D := D) (ci := 3) (v := .int y10) (C := RX3) (T := TX3) (N := 7) hx hb hts hiX3 hown hK.1 hP 0 rfl rfl 4 (by decide) (hts (.fieldLink RX3 25 "IslandBridges$Maker" "rows" "I") (List.mem_of_getElem? (i := 2) rfl)) (fun _ h9 => h9) rfl dX3_run_64 ?_
    refine lv_imul hx hb dX3_run_67 ?_
    obtain ⟨v16, v17, h_v16, hm⟩ := bd2_inv hm
    refine cVx ⟨hx, hb, hml, hown, hts⟩ (c_X3_draw l D cI cJ cS cB a y9 y10 y11 y12 (y9 * y10) v16 v17 h_v16) (cwV 1 hts gX3_run_X3_draw rfl rfl rfl hd_X3_draw ⟨(Nat.le_of_ble_eq_true rfl), (Nat.le_of_ble_eq_true rfl)⟩) hK hP hD hS hA [0] rfl rfl [o_K a y9 y10 y11 v17, ai (a 28) cI 144 y13, ai (a 29) cI 144 y14, ai (a 30) cI 24 y15] [(true, 0), (false, 1), (false, 2), (false, 3)] rfl rfl rfl hl.1 (Nat.le_of_ble_eq_true rfl) ⟨Nat.zero_le _, Nat.zero_le _⟩ 0 rfl rfl rfl rfl dX3_run_68 (fun H locs hP hD hS => ?_)
    obtain ⟨v18, v19, v20, h_v18, hm⟩ := bd3_inv hm
    refine cVx ⟨hx, hb, hml, hown, hts⟩ (c_X3_addIsland l D cI cJ cS cB a y9 y10 y11 v17 y13 y15 v16 N v18 v19 v20 h_v18) (cwV 1 hts gX3_run_X3_addIsland rfl rfl rfl hd_X3_addIsland ⟨(Nat.le_of_ble_eq_true rfl), (Nat.le_of_ble_eq_true rfl)⟩) hK hP hD hS hA [0, 1, 3] rfl rfl [o_K a y9 y10 v18 v17, ai (a 28) cI 144 v19, ai (a 29) cI 144 y14, ai (a 30) cI 24 v20] [(true, 0), (true, 1), (false, 2), (true, 2)] rfl rfl rfl hl.1 (Nat.le_of_ble_eq_true rfl) ⟨Nat.zero_le _, Nat.zero_le _⟩ 0 rfl rfl rfl rfl dX3_run_71 (fun H locs hP hD hS => ?_)
    refine lv_iconst (v := 0) hx hb dX3_run_74 (by decide) ?_
    refine lv_istore (lv' := [(5, .int 0), (0, .ref (a 27)), (4, .int x4)]) hx hb dX3_run_75 hl (by decide) rfl (fun ls hl => ?_)
    exact h77 y9 y10 N 0 v18 v17 v19 y14 v20 hm _ _ hP hD hS ls (lv_sub hl [1, 2, 0] rfl)
  have h23 : ∀ (y2 : Int32) (y3 : Int32) (y4 : Int32) (y5 : Int32) (y8 : Nat → Int32), ∀ (n : Nat) (y1 : Int32) (y6 : Nat → Int32) (y7 : Nat → Int32), zl3 (m_X3_run_b23 N x4 y2 y3 y4 y5 y8) n y1 y6 y7 = some (K_columns', K_rows', K_islands', K_z', K_taken', K_numbers', K_cellOf') → ∀ (H : Heap) (locs : List Loc), va_P D vwCl [o_K a y2 y3 y4 y5, ai (a 28) cI 144 y6, ai (a 29) cI 144 y7, ai (a 30) cI 24 y8] H → va_D A [o_K a y2 y3 y4 y5, ai (a 28) cI 144 y6, ai (a 29) cI 144 y7, ai (a 30) cI 24 y8] → va_S A s.heap H locs → ∀ ls : Array Slot, lv_has ls 6 [(0, .ref (a 27)), (4, .int x4), (5, .int y1)] → W p l e { frames := 3, cells := 0, slots := 0, locals := 73 } s m args below meth c H locs 0 0 (MQ below (eQ D none (fun _ : Unit => [o_K a K_columns' K_rows' K_islands' K_z', ai (a 28) cI 144 K_taken', ai (a 29) cI 144 K_numbers', ai (a 30) cI 24 K_cellOf']) A) args s 0 0 A) (F0 m 23 ls []) := by
    intro y2 y3 y4 y5 y8
    refine zl3_ind (fun rec23 ih23 y1 y6 y7 hm => ?_)
    intro H locs hP hD hS ls hl
    unfold m_X3_run_b23 at hm
    refine lv_iload hx hb dX3_run_23 (lv_at hl 2 rfl) ?_
    refine lv_sipush (v := 144) hx hb dX3_run_25 (by decide) ?_
    refine lv_icmp_ge (tgt := 57) hx hb dX3_run_28 (by decide) (fun c28 => ?_) (fun c28 => ?_)
    · have hm := ip c28 hm
      exact h57 y2 y3 y4 y5 y6 y7 y8 hm _ _ hP hD hS ls (lv_sub hl [0, 1] rfl)
    · have hm := ine c28 hm
      refine lv_aload_n hx hb dX3_run_31 rfl (lv_at hl 0 rfl) ?_
      refine va_get (D := D) (ci := 3) (v := .ref (a 28)) (C := RX3) (T := TX3) (N := 7) hx hb hts hiX3 hown hK.1 hP 0 rfl rfl 0 (by decide) (hts (.fieldLink RX3 9 "IslandBridges$Maker" "taken" "[I") (List.mem_of_getElem? (i := 5) rfl)) (fun _ h9 => h9) rfl dX3_run_32 ?_
      refine lv_iload hx hb dX3_run_35 (lv_at hl 2 rfl) ?_
      refine lv_iconst (v := 0) hx hb dX3_run_37 (by decide) ?_
      obtain ⟨v35, ev35, hm⟩ := lt1_inv hm
      refine cNx ⟨hx, hb, hml, hown, hts⟩ (c_X9_put l D cI cJ cS cB (a 28) 144 (Nat.le_of_ble_eq_true rfl) y6 y1 0 v35 ev35) ⟨va_cnB 3 hts gX3_run_X9_put_n34 rfl rfl rfl (kn_15 hK) (hts (.initialized RX9) (List.mem_of_getElem? (i := 8) rfl)) hd_X9_put ⟨(Nat.le_of_ble_eq_true rfl), (Nat.le_of_ble_eq_true rfl)⟩, (hts (.static yX9_put) (List.mem_of_getElem? (i := 7) rfl)), trivial⟩ hK hP hD hS hA [1] rfl rfl [o_K a y2 y3 y4 y5, ai (a 28) cI 144 v35, ai (a 29) cI 144 y7, ai (a 30) cI 24 y8] [(false, 0), (true, 0), (false, 2), (false, 3)] rfl rfl rfl hl.1 (Nat.le_of_ble_eq_true rfl) ⟨Nat.zero_le _, Nat.zero_le _⟩ rfl dX3_run_38 (fun H locs hP hD hS => ?_)
      refine lv_aload_n hx hb dX3_run_41 rfl (lv_at hl 0 rfl) ?_
      refine va_get (D := D) (ci := 3) (v := .ref (a 29)) (C := RX3) (T := TX3) (N := 7) hx hb hts hiX3 hown hK.1 hP 0 rfl rfl 1 (by decide) (hts (.fieldLink RX3 15 "IslandBridges$Maker" "numbers" "[I") (List.mem_of_getElem? (i := 6) rfl)) (fun _ h9 => h9) rfl dX3_run_42 ?_
      refine lv_iload hx hb dX3_run_45 (lv_at hl 2 rfl) ?_
      refine lv_iconst (v := 0) hx hb dX3_run_47 (by decide) ?_
      obtain ⟨v36, ev36, hm⟩ := lt1_inv hm
      refine cNx ⟨hx, hb, hml, hown, hts⟩ (c_X9_put l D cI cJ cS cB (a 29) 144 (Nat.le_of_ble_eq_true rfl) y7 y1 0 v36 ev36) ⟨va_cnB 3 hts gX3_run_X9_put_n34 rfl rfl rfl (kn_15 hK) (hts (.initialized RX9) (List.mem_of_getElem? (i := 8) rfl)) hd_X9_put ⟨(Nat.le_of_ble_eq_true rfl), (Nat.le_of_ble_eq_true rfl)⟩, (hts (.static yX9_put) (List.mem_of_getElem? (i := 7) rfl)), trivial⟩ hK hP hD hS hA [2] rfl rfl [o_K a y2 y3 y4 y5, ai (a 28) cI 144 v35, ai (a 29) cI 144 v36, ai (a 30) cI 24 y8] [(false, 0), (false, 1), (true, 0), (false, 3)] rfl rfl rfl hl.1 (Nat.le_of_ble_eq_true rfl) ⟨Nat.zero_le _, Nat.zero_le _⟩ rfl dX3_run_48 (fun H locs hP hD hS => ?_)
      obtain ⟨v37, ev37, hm⟩ := lt1_inv hm
      refine lv_iinc (v := v37) (lv' := [(5, .int v37), (0, .ref (a 27)), (4, .int x4)]) hx hb dX3_run_51 hl (k := 2) rfl ev37 (by decide) rfl (fun ls hl => ?_)
      refine lv_goto (tgt := 23) hx hb dX3_run_54 (by decide) ?_
      exact ih23 v37 v35 v36 hm _ _ hP hD hS ls (lv_sub hl [1, 2, 0] rfl)
  refine lv_aload_n hx hb dX3_run_0 rfl (lv_at hl 0 rfl) ?_
  refine lv_iload_n hx hb dX3_run_1 rfl (lv_at hl 1 rfl) ?_
  refine va_put (D := D) (ci := 3) (v := .int x1) (ty := .int) (C := RX3) (T := TX3) (N := 7) hx hb hts hiX3 tyX3 tyX3_ok nmX3 hown hK.1 hP hD hS 0 rfl rfl 3 (by decide) (hts (.fieldLink RX3 21 "IslandBridges$Maker" "columns" "I") (List.mem_of_getElem? (i := 1) rfl)) (fun _ h9 => h9) rfl (by decide +kernel) rfl rfl (Nat.le_of_ble_eq_true rfl) dX3_run_2 (fun H locs hP hD hS => ?_)
  have hP : va_P D vwCl [o_K a x1 K_rows K_islands K_z, ai (a 28) cI 144 K_taken, ai (a 29) cI 144 K_numbers, ai (a 30) cI 24 K_cellOf] H := hP
  have hD : va_D A [o_K a x1 K_rows K_islands K_z, ai (a 28) cI 144 K_taken, ai (a 29) cI 144 K_numbers, ai (a 30) cI 24 K_cellOf] := hD
  refine lv_aload_n hx hb dX3_run_5 rfl (lv_at hl 0 rfl) ?_
  refine lv_iload_n hx hb dX3_run_6 rfl (lv_at hl 2 rfl) ?_
  refine va_put (D := D) (ci := 3) (v := .int x2) (ty := .int) (C := RX3) (T := TX3) (N := 7) hx hb hts hiX3 tyX3 tyX3_ok nmX3 hown hK.1 hP hD hS 0 rfl rfl 4 (by decide) (hts (.fieldLink RX3 25 "IslandBridges$Maker" "rows" "I") (List.mem_of_getElem? (i := 2) rfl)) (fun _ h9 => h9) rfl (by decide +kernel) rfl rfl (Nat.le_of_ble_eq_true rfl) dX3_run_7 (fun H locs hP hD hS => ?_)
  have hP : va_P D vwCl [o_K a x1 x2 K_islands K_z, ai (a 28) cI 144 K_taken, ai (a 29) cI 144 K_numbers, ai (a 30) cI 24 K_cellOf] H := hP
  have hD : va_D A [o_K a x1 x2 K_islands K_z, ai (a 28) cI 144 K_taken, ai (a 29) cI 144 K_numbers, ai (a 30) cI 24 K_cellOf] := hD
  refine lv_aload_n hx hb dX3_run_10 rfl (lv_at hl 0 rfl) ?_
  refine lv_iconst (v := 0) hx hb dX3_run_11 (by decide) ?_
  refine va_put (D := D) (ci := 3) (v := .int 0) (ty := .int) (C := RX3) (T := TX3) (N := 7) hx hb hts hiX3 tyX3 tyX3_ok nmX3 hown hK.1 hP hD hS 0 rfl rfl 5 (by decide) (hts (.fieldLink RX3 28 "IslandBridges$Maker" "islands" "I") (List.mem_of_getElem? (i := 3) rfl)) (fun _ h9 => h9) rfl (by decide +kernel) rfl rfl (Nat.le_of_ble_eq_true rfl) dX3_run_12 (fun H locs hP hD hS => ?_)
  have hP : va_P D vwCl [o_K a x1 x2 0 K_z, ai (a 28) cI 144 K_taken, ai (a 29) cI 144 K_numbers, ai (a 30) cI 24 K_cellOf] H := hP
  have hD : va_D A [o_K a x1 x2 0 K_z, ai (a 28) cI 144 K_taken, ai (a 29) cI 144 K_numbers, ai (a 30) cI 24 K_cellOf] := hD
  refine lv_aload_n hx hb dX3_run_15 rfl (lv_at hl 0 rfl) ?_
  refine lv_iload_n hx hb dX3_run_16 rfl (lv_at hl 3 rfl) ?_
  refine va_put (D := D) (ci := 3) (v := .int x3) (ty := .int) (C := RX3) (T := TX3) (N := 7) hx hb hts hiX3 tyX3 tyX3_ok nmX3 hown hK.1 hP hD hS 0 rfl rfl 6 (by decide) (hts (.fieldLink RX3 31 "IslandBridges$Maker" "z" "I") (List.mem_of_getElem? (i := 4) rfl)) (fun _ h9 => h9) rfl (by decide +kernel) rfl rfl (Nat.le_of_ble_eq_true rfl) dX3_run_17 (fun H locs hP hD hS => ?_)
  have hP : va_P D vwCl [o_K a x1 x2 0 x3, ai (a 28) cI 144 K_taken, ai (a 29) cI 144 K_numbers, ai (a 30) cI 24 K_cellOf] H := hP
  have hD : va_D A [o_K a x1 x2 0 x3, ai (a 28) cI 144 K_taken, ai (a 29) cI 144 K_numbers, ai (a 30) cI 24 K_cellOf] := hD
  refine lv_iconst (v := 0) hx hb dX3_run_20 (by decide) ?_
  refine lv_istore (lv' := [(5, .int 0), (0, .ref (a 27)), (1, .int x1), (2, .int x2), (3, .int x3), (4, .int x4)]) hx hb dX3_run_21 hl (by decide) rfl (fun ls hl => ?_)
  exact h23 x1 x2 0 x3 K_cellOf N 0 K_taken K_numbers hm _ _ hP hD hS ls (lv_sub hl [1, 5, 0] rfl)
theorem hd_X3_giveNumbersTo : yX3_giveNumbersTo.cls = RX3 ∧ yX3_giveNumbersTo.cls ≠ "java/lang/invoke/MethodHandle" ∧ yX3_giveNumbersTo.cls ≠ "java/lang/invoke/VarHandle" ∧ (parseMethodDescriptor yX3_giveNumbersTo.desc).map (fun d => d.parameters.length) = some 1 := by decide +kernel
def m_X3_giveNumbersTo_j31 (K_islands : Int32) (K_cellOf : Nat → Int32) (y3 : Nat → Int32) : Option ((Nat → Int32)) :=
  if K_islands = 1 then (lt1 (vAt 24 K_cellOf 0) (fun v4 => lt1 (vPut 144 y3 v4 1) (fun v5 => some v5))) else (some y3)
def m_X3_giveNumbersTo_b2 (K_islands : Int32) (K_numbers : Nat → Int32) (K_cellOf : Nat → Int32) (rec2 : Int32 → (Nat → Int32) → Option ((Nat → Int32))) (y1 : Int32) (y2 : Nat → Int32) : Option ((Nat → Int32)) :=
  if 144 ≤ y1 then (m_X3_giveNumbersTo_j31 K_islands K_cellOf y2) else (lt1 (vAt 144 K_numbers y1) (fun v6 => lt1 (vPut 144 y2 y1 v6) (fun v7 => lt1 (y1 + 1) (fun v8 => rec2 v8 v7))))
def m_X3_giveNumbersTo (N : Nat) (S_numbers : Nat → Int32) (K_islands : Int32) (K_numbers : Nat → Int32) (K_cellOf : Nat → Int32) : Option ((Nat → Int32)) :=
  zl2 (m_X3_giveNumbersTo_b2 K_islands K_numbers K_cellOf) N 0 S_numbers
set_option maxHeartbeats 4000000 in
set_option maxRecDepth 100000 in
theorem c_X3_giveNumbersTo (l : Launch) (D : va_G) (cI cJ cS cB : ClassId) (a : Nat → Nat) (S_columns : Int32) (S_rows : Int32) (S_grade : Int32) (S_stepsMade : Int32) (S_numbers : Nat → Int32) (K_columns : Int32) (K_rows : Int32) (K_islands : Int32) (K_z : Int32) (K_numbers : Nat → Int32) (K_cellOf : Nat → Int32)  (N : Nat) (S_numbers' : Nat → Int32) (hm : m_X3_giveNumbersTo N S_numbers K_islands K_numbers K_cellOf = some S_numbers') :
    mU l D (TYs cI cJ cS cB) yX3_giveNumbersTo wsX3_giveNumbersTo { frames := 1, cells := 0, slots := 0, locals := 22 } [.ref (a 27), .ref (a 1)] [o_S a S_columns S_rows S_grade S_stepsMade, ai (a 2) cI 144 S_numbers, o_K a K_columns K_rows K_islands K_z, ai (a 29) cI 144 K_numbers, ai (a 30) cI 24 K_cellOf] [o_S a S_columns S_rows S_grade S_stepsMade, ai (a 2) cI 144 S_numbers', o_K a K_columns K_rows K_islands K_z, ai (a 29) cI 144 K_numbers, ai (a 30) cI 24 K_cellOf] none := by
  refine mG_of (cc := cX3_giveNumbersTo) (maxL := 3) (ret := none) (by decide) rfl rfl (Nat.le_of_ble_eq_true rfl) ?_
  intro p e s m args below meth c A hx hb hr hml hlk hnm hts hown hK hP hD hA hS ls hl
  have hl : lv_has ls 3 [(0, .ref (a 27)), (1, .ref (a 1))] := hl
  have hiX3 : ∀ w ∈ wsX30, w ∈ wsX3_giveNumbersTo := fun w h => List.mem_cons_of_mem _ (List.mem_append_right _ h)
  have hiX6 : ∀ w ∈ wsX60, w ∈ wsX3_giveNumbersTo := fun w h => List.mem_cons_of_mem _ (List.mem_append_left _ (List.mem_append_right _ h))
  unfold m_X3_giveNumbersTo at hm
  have h31 : ∀ (y3 : Nat → Int32), m_X3_giveNumbersTo_j31 K_islands K_cellOf y3 = some S_numbers' → ∀ (H : Heap) (locs : List Loc), va_P D vwCl [o_S a S_columns S_rows S_grade S_stepsMade, ai (a 2) cI 144 y3, o_K a K_columns K_rows K_islands K_z, ai (a 29) cI 144 K_numbers, ai (a 30) cI 24 K_cellOf] H → va_D A [o_S a S_columns S_rows S_grade S_stepsMade, ai (a 2) cI 144 y3, o_K a K_columns K_rows K_islands K_z, ai (a 29) cI 144 K_numbers, ai (a 30) cI 24 K_cellOf] → va_S A s.heap H locs → ∀ ls : Array Slot, lv_has ls 3 [(0, .ref (a 27)), (1, .ref (a 1))] → W p l e { frames := 1, cells := 0, slots := 0, locals := 22 } s m args below meth c H locs 0 0 (MQ below (eQ D none (fun _ : Unit => [o_S a S_columns S_rows S_grade S_stepsMade, ai (a 2) cI 144 S_numbers', o_K a K_columns K_rows K_islands K_z, ai (a 29) cI 144 K_numbers, ai (a 30) cI 24 K_cellOf]) A) args s 0 0 A) (F0 m 31 ls []) := by
    intro y3 hm H locs hP hD hS ls hl
    unfold m_X3_giveNumbersTo_j31 at hm
    refine lv_aload_n hx hb dX3_giveNumbersTo_31 rfl (lv_at hl 0 rfl) ?_
    refine va_get (D := D) (ci := 3) (v := .int K_islands) (C := RX3) (T := TX3) (N := 7) hx hb hts hiX3 hown hK.1 hP 2 rfl rfl 5 (by decide) (hts (.fieldLink RX3 28 "IslandBridges$Maker" "islands" "I") (List.mem_of_getElem? (i := 3) rfl)) (fun _ h9 => h9) rfl dX3_giveNumbersTo_32 ?_
    refine lv_iconst (v := 1) hx hb dX3_giveNumbersTo_35 (by decide) ?_
    refine lv_icmp_ne (tgt := 55) hx hb dX3_giveNumbersTo_36 (by decide) (fun c36 => ?_) (fun c36 => ?_)
    · have hm := ine c36 hm
      cases hm
      exact rV () hx hb hr hlk hP hD hS dX3_giveNumbersTo_55
    · have hm := ip c36 hm
      refine lv_aload_n hx hb dX3_giveNumbersTo_39 rfl (lv_at hl 1 rfl) ?_
      refine va_get (D := D) (ci := 6) (v := .ref (a 2)) (C := RX6) (T := TX6) (N := 7) hx hb hts hiX6 hown hK.1 hP 0 rfl rfl 0 (by decide) (hts (.fieldLink RX3 49 "IslandBridges$State" "numbers" "[I") (List.mem_of_getElem? (i := 1) rfl)) (fun _ h9 => h9) rfl dX3_giveNumbersTo_40 ?_
      refine lv_aload_n hx hb dX3_giveNumbersTo_43 rfl (lv_at hl 0 rfl) ?_
      refine va_get (D := D) (ci := 3) (v := .ref (a 30)) (C := RX3) (T := TX3) (N := 7) hx hb hts hiX3 hown hK.1 hP 2 rfl rfl 2 (by decide) (hts (.fieldLink RX3 18 "IslandBridges$Maker" "cellOf" "[I") (List.mem_of_getElem? (i := 4) rfl)) (fun _ h9 => h9) rfl dX3_giveNumbersTo_44 ?_
      refine lv_iconst (v := 0) hx hb dX3_giveNumbersTo_47 (by decide) ?_
      obtain ⟨v4, ev4, hm⟩ := lt1_inv hm
      refine cNs ⟨hx, hb, hml, hown, hts⟩ (c_X9_valueAt l D cI cJ cS cB (a 30) 24 (Nat.le_of_ble_eq_true rfl) K_cellOf 0 v4 ev4) ⟨va_cnB 2 hts gX3_giveNumbersTo_X9_valueAt_n52 rfl rfl rfl (kn_16 hK) (hts (.initialized RX9) (List.mem_of_getElem? (i := 6) rfl)) hd_X9_valueAt ⟨(Nat.le_of_ble_eq_true rfl), (Nat.le_of_ble_eq_true rfl)⟩, (hts (.static yX9_valueAt) (List.mem_of_getElem? (i := 5) rfl)), trivial⟩ hK hP hD hS hA [4] rfl rfl rfl hl.1 (Nat.le_of_ble_eq_true rfl) ⟨Nat.zero_le _, Nat.zero_le _⟩ rfl dX3_giveNumbersTo_48 (fun H locs hP hD hS => ?_)
      refine lv_iconst (v := 1) hx hb dX3_giveNumbersTo_51 (by decide) ?_
      obtain ⟨v5, ev5, hm⟩ := lt1_inv hm
      refine cNx ⟨hx, hb, hml, hown, hts⟩ (c_X9_put l D cI cJ cS cB (a 2) 144 (Nat.le_of_ble_eq_true rfl) y3 v4 1 v5 ev5) ⟨va_cnB 3 hts gX3_giveNumbersTo_X9_put_n34 rfl rfl rfl (kn_15 hK) (hts (.initialized RX9) (List.mem_of_getElem? (i := 6) rfl)) hd_X9_put ⟨(Nat.le_of_ble_eq_true rfl), (Nat.le_of_ble_eq_true rfl)⟩, (hts (.static yX9_put) (List.mem_of_getElem? (i := 8) rfl)), trivial⟩ hK hP hD hS hA [1] rfl rfl [o_S a S_columns S_rows S_grade S_stepsMade, ai (a 2) cI 144 v5, o_K a K_columns K_rows K_islands K_z, ai (a 29) cI 144 K_numbers, ai (a 30) cI 24 K_cellOf] [(false, 0), (true, 0), (false, 2), (false, 3), (false, 4)] rfl rfl rfl hl.1 (Nat.le_of_ble_eq_true rfl) ⟨Nat.zero_le _, Nat.zero_le _⟩ rfl dX3_giveNumbersTo_52 (fun H locs hP hD hS => ?_)
      cases hm
      exact rV () hx hb hr hlk hP hD hS dX3_giveNumbersTo_55
  have h2 : ∀ (n : Nat) (y1 : Int32) (y2 : Nat → Int32), zl2 (m_X3_giveNumbersTo_b2 K_islands K_numbers K_cellOf) n y1 y2 = some S_numbers' → ∀ (H : Heap) (locs : List Loc), va_P D vwCl [o_S a S_columns S_rows S_grade S_stepsMade, ai (a 2) cI 144 y2, o_K a K_columns K_rows K_islands K_z, ai (a 29) cI 144 K_numbers, ai (a 30) cI 24 K_cellOf] H → va_D A [o_S a S_columns S_rows S_grade S_stepsMade, ai (a 2) cI 144 y2, o_K a K_columns K_rows K_islands K_z, ai (a 29) cI 144 K_numbers, ai (a 30) cI 24 K_cellOf] → va_S A s.heap H locs → ∀ ls : Array Slot, lv_has ls 3 [(0, .ref (a 27)), (1, .ref (a 1)), (2, .int y1)] → W p l e { frames := 1, cells := 0, slots := 0, locals := 22 } s m args below meth c H locs 0 0 (MQ below (eQ D none (fun _ : Unit => [o_S a S_columns S_rows S_grade S_stepsMade, ai (a 2) cI 144 S_numbers', o_K a K_columns K_rows K_islands K_z, ai (a 29) cI 144 K_numbers, ai (a 30) cI 24 K_cellOf]) A) args s 0 0 A) (F0 m 2 ls []) := by
    refine zl2_ind (fun rec2 ih2 y1 y2 hm => ?_)
    intro H locs hP hD hS ls hl
    unfold m_X3_giveNumbersTo_b2 at hm
    refine lv_iload_n hx hb dX3_giveNumbersTo_2 rfl (lv_at hl 2 rfl) ?_
    refine lv_sipush (v := 144) hx hb dX3_giveNumbersTo_3 (by decide) ?_
    refine lv_icmp_ge (tgt := 31) hx hb dX3_giveNumbersTo_6 (by decide) (fun c6 => ?_) (fun c6 => ?_)
    · have hm := ip c6 hm
      exact h31 y2 hm _ _ hP hD hS ls (lv_sub hl [0, 1] rfl)
    · have hm := ine c6 hm
      refine lv_aload_n hx hb dX3_giveNumbersTo_9 rfl (lv_at hl 1 rfl) ?_
      refine va_get (D := D) (ci := 6) (v := .ref (a 2)) (C := RX6) (T := TX6) (N := 7) hx hb hts hiX6 hown hK.1 hP 0 rfl rfl 0 (by decide) (hts (.fieldLink RX3 49 "IslandBridges$State" "numbers" "[I") (List.mem_of_getElem? (i := 1) rfl)) (fun _ h9 => h9) rfl dX3_giveNumbersTo_10 ?_
      refine lv_iload_n hx hb dX3_giveNumbersTo_13 rfl (lv_at hl 2 rfl) ?_
      refine lv_aload_n hx hb dX3_giveNumbersTo_14 rfl (lv_at hl 0 rfl) ?_
      refine va_get (D := D) (ci := 3) (v := .ref (a 29)) (C := RX3) (T := TX3) (N := 7) hx hb hts hiX3 hown hK.1 hP 2 rfl rfl 1 (by decide) (hts (.fieldLink RX3 15 "IslandBridges$Maker" "numbers" "[I") (List.mem_of_getElem? (i := 2) rfl)) (fun _ h9 => h9) rfl dX3_giveNumbersTo_15 ?_
      refine lv_iload_n hx hb dX3_giveNumbersTo_18 rfl (lv_at hl 2 rfl) ?_
      obtain ⟨v6, ev6, hm⟩ := lt1_inv hm
      refine cNs ⟨hx, hb, hml, hown, hts⟩ (c_X9_valueAt l D cI cJ cS cB (a 29) 144 (Nat.le_of_ble_eq_true rfl) K_numbers y1 v6 ev6) ⟨va_cnB 2 hts gX3_giveNumbersTo_X9_valueAt_n52 rfl rfl rfl (kn_16 hK) (hts (.initialized RX9) (List.mem_of_getElem? (i := 6) rfl)) hd_X9_valueAt ⟨(Nat.le_of_ble_eq_true rfl), (Nat.le_of_ble_eq_true rfl)⟩, (hts (.static yX9_valueAt) (List.mem_of_getElem? (i := 5) rfl)), trivial⟩ hK hP hD hS hA [3] rfl rfl rfl hl.1 (Nat.le_of_ble_eq_true rfl) ⟨Nat.zero_le _, Nat.zero_le _⟩ rfl dX3_giveNumbersTo_19 (fun H locs hP hD hS => ?_)
      obtain ⟨v7, ev7, hm⟩ := lt1_inv hm
      refine cNx ⟨hx, hb, hml, hown, hts⟩ (c_X9_put l D cI cJ cS cB (a 2) 144 (Nat.le_of_ble_eq_true rfl) y2 y1 v6 v7 ev7) ⟨va_cnB 3 hts gX3_giveNumbersTo_X9_put_n34 rfl rfl rfl (kn_15 hK) (hts (.initialized RX9) (List.mem_of_getElem? (i := 6) rfl)) hd_X9_put ⟨(Nat.le_of_ble_eq_true rfl), (Nat.le_of_ble_eq_true rfl)⟩, (hts (.static yX9_put) (List.mem_of_getElem? (i := 8) rfl)), trivial⟩ hK hP hD hS hA [1] rfl rfl [o_S a S_columns S_rows S_grade S_stepsMade, ai (a 2) cI 144 v7, o_K a K_columns K_rows K_islands K_z, ai (a 29) cI 144 K_numbers, ai (a 30) cI 24 K_cellOf] [(false, 0), (true, 0), (false, 2), (false, 3), (false, 4)] rfl rfl rfl hl.1 (Nat.le_of_ble_eq_true rfl) ⟨Nat.zero_le _, Nat.zero_le _⟩ rfl dX3_giveNumbersTo_22 (fun H locs hP hD hS => ?_)
      obtain ⟨v8, ev8, hm⟩ := lt1_inv hm
      refine lv_iinc (v := v8) (lv' := [(2, .int v8), (0, .ref (a 27)), (1, .ref (a 1))]) hx hb dX3_giveNumbersTo_25 hl (k := 2) rfl ev8 (by decide) rfl (fun ls hl => ?_)
      refine lv_goto (tgt := 2) hx hb dX3_giveNumbersTo_28 (by decide) ?_
      exact ih2 v8 v7 hm _ _ hP hD hS ls (lv_sub hl [1, 2, 0] rfl)
  refine lv_iconst (v := 0) hx hb dX3_giveNumbersTo_0 (by decide) ?_
  refine lv_istore_n (lv' := [(2, .int 0), (0, .ref (a 27)), (1, .ref (a 1))]) hx hb dX3_giveNumbersTo_1 rfl hl (by decide) rfl (fun ls hl => ?_)
  exact h2  N 0 S_numbers hm _ _ hP hD hS ls (lv_sub hl [1, 2, 0] rfl)
theorem hd_X4_wouldCutOff : yX4_wouldCutOff.cls = RX4 ∧ yX4_wouldCutOff.cls ≠ "java/lang/invoke/MethodHandle" ∧ yX4_wouldCutOff.cls ≠ "java/lang/invoke/VarHandle" ∧ (parseMethodDescriptor yX4_wouldCutOff.desc).map (fun d => d.parameters.length) = some 2 := by decide +kernel
def m_X4_wouldCutOff_j126 (y7 : Int32) : Option (Int32) :=
  ckb y7 (some y7)
def m_X4_wouldCutOff_j120 (rec25 : Int32 → Int32 → Option (Int32)) (y21 : Int32) (y22 : Int32) : Option (Int32) :=
  lt1 (y22 + 1) (fun v23 => rec25 y21 v23)
def m_X4_wouldCutOff_j101 (U_lacks : Nat → Int32) (rec25 : Int32 → Int32 → Option (Int32)) (y17 : Int32) (y18 : Int32) (y19 : Int32) : Option (Int32) :=
  lt1 (vAt 24 U_lacks y18) (fun v20 => if v20 = y19 then (m_X4_wouldCutOff_j120 rec25 y17 y18) else (some 0))
def m_X4_wouldCutOff_j66 (U_lacks : Nat → Int32) (G_leaders : Nat → Int32) (y3 : Int32) (y4 : Int32) (rec25 : Int32 → Int32 → Option (Int32)) (y12 : Int32) (y13 : Int32) (y14 : Int32) (y15 : Int32) : Option (Int32) :=
  lt1 (m_X0_leader G_leaders y3) (fun v16 => if y14 = v16 then (m_X4_wouldCutOff_j101 U_lacks rec25 y12 y13 y15) else (lt1 (m_X0_leader G_leaders y4) (fun v24 => if y14 = v24 then (m_X4_wouldCutOff_j101 U_lacks rec25 y12 y13 y15) else (m_X4_wouldCutOff_j120 rec25 1 y13))))
def m_X4_wouldCutOff_j61 (U_lacks : Nat → Int32) (G_leaders : Nat → Int32) (x2 : Int32) (y3 : Int32) (y4 : Int32) (rec25 : Int32 → Int32 → Option (Int32)) (y9 : Int32) (y10 : Int32) (y11 : Int32) : Option (Int32) :=
  m_X4_wouldCutOff_j66 U_lacks G_leaders y3 y4 rec25 y9 y10 y11 x2
def m_X4_wouldCutOff_b25 (Y_islands : Int32) (U_lacks : Nat → Int32) (G_leaders : Nat → Int32) (x2 : Int32) (y3 : Int32) (y4 : Int32) (rec25 : Int32 → Int32 → Option (Int32)) (y5 : Int32) (y6 : Int32) : Option (Int32) :=
  if Y_islands ≤ y6 then (m_X4_wouldCutOff_j126 y5) else (lt1 (m_X0_leader G_leaders y6) (fun v8 => if y6 = y3 then (m_X4_wouldCutOff_j61 U_lacks G_leaders x2 y3 y4 rec25 y5 y6 v8) else (if y6 = y4 then (m_X4_wouldCutOff_j61 U_lacks G_leaders x2 y3 y4 rec25 y5 y6 v8) else (m_X4_wouldCutOff_j66 U_lacks G_leaders y3 y4 rec25 y5 y6 v8 0))))
def m_X4_wouldCutOff (N : Nat) (Y_islands : Int32) (Y_firstOf : Nat → Int32) (Y_secondOf : Nat → Int32) (U_lacks : Nat → Int32) (G_leaders : Nat → Int32) (x1 : Int32) (x2 : Int32) : Option (Int32) :=
  lt1 (m_X2_first Y_firstOf x1) (fun v1 => lt1 (m_X2_second Y_secondOf x1) (fun v2 => zl2 (m_X4_wouldCutOff_b25 Y_islands U_lacks G_leaders x2 v1 v2) N 0 0))
set_option maxHeartbeats 4000000 in
set_option maxRecDepth 100000 in
theorem c_X4_wouldCutOff (l : Launch) (D : va_G) (cI cJ cS cB : ClassId) (a : Nat → Nat) (Y_islands : Int32) (Y_ways : Int32) (Y_firstOf : Nat → Int32) (Y_secondOf : Nat → Int32) (U_lacks : Nat → Int32) (G_leaders : Nat → Int32) (R_built : Int64) (x1 : Int32) (x2 : Int32) (N : Nat) (r0 : Int32) (hm : m_X4_wouldCutOff N Y_islands Y_firstOf Y_secondOf U_lacks G_leaders x1 x2 = some r0) :
    mU l D (TYs cI cJ cS cB) yX4_wouldCutOff wsX4_wouldCutOff { frames := 2, cells := 0, slots := 0, locals := 42 } [.ref (a 22), .int x1, .int x2] [o_Y a Y_islands Y_ways, ai (a 8) cI 48 Y_firstOf, ai (a 9) cI 48 Y_secondOf, o_U a , ai (a 19) cI 24 U_lacks, o_G a , ai (a 21) cI 24 G_leaders, o_R a R_built] [o_Y a Y_islands Y_ways, ai (a 8) cI 48 Y_firstOf, ai (a 9) cI 48 Y_secondOf, o_U a , ai (a 19) cI 24 U_lacks, o_G a , ai (a 21) cI 24 G_leaders, o_R a R_built] (some (.int r0)) := by
  refine mG_of (cc := cX4_wouldCutOff) (maxL := 9) (ret := (some .boolean)) (by decide) rfl rfl (Nat.le_of_ble_eq_true rfl) ?_
  intro p e s m args below meth c A hx hb hr hml hlk hnm hts hown hK hP hD hA hS ls hl
  have hl : lv_has ls 9 [(0, .ref (a 22)), (1, .int x1), (2, .int x2)] := hl
  have hiX0 : ∀ w ∈ wsX00, w ∈ wsX4_wouldCutOff := fun w h => List.mem_cons_of_mem _ (List.mem_append_right _ h)
  have hiX2 : ∀ w ∈ wsX20, w ∈ wsX4_wouldCutOff := fun w h => List.mem_cons_of_mem _ (List.mem_append_left _ (List.mem_append_left _ (List.mem_append_right _ h)))
  have hiX4 : ∀ w ∈ wsX40, w ∈ wsX4_wouldCutOff := fun w h => List.mem_cons_of_mem _ (List.mem_append_left _ (List.mem_append_left _ (List.mem_append_left _ (List.mem_append_right _ h))))
  have hiX7 : ∀ w ∈ wsX70, w ∈ wsX4_wouldCutOff := fun w h => List.mem_cons_of_mem _ (List.mem_append_left _ (List.mem_append_right _ h))
  unfold m_X4_wouldCutOff at hm
  have h126 : ∀ (y7 : Int32), m_X4_wouldCutOff_j126 y7 = some r0 → ∀ (H : Heap) (locs : List Loc), va_P D vwCl [o_Y a Y_islands Y_ways, ai (a 8) cI 48 Y_firstOf, ai (a 9) cI 48 Y_secondOf, o_U a , ai (a 19) cI 24 U_lacks, o_G a , ai (a 21) cI 24 G_leaders, o_R a R_built] H → va_D A [o_Y a Y_islands Y_ways, ai (a 8) cI 48 Y_firstOf, ai (a 9) cI 48 Y_secondOf, o_U a , ai (a 19) cI 24 U_lacks, o_G a , ai (a 21) cI 24 G_leaders, o_R a R_built] → va_S A s.heap H locs → ∀ ls : Array Slot, lv_has ls 9 [(5, .int y7)] → W p l e { frames := 2, cells := 0, slots := 0, locals := 42 } s m args below meth c H locs 0 0 (MQ below (eQ D (some (.int r0)) (fun _ : Unit => [o_Y a Y_islands Y_ways, ai (a 8) cI 48 Y_firstOf, ai (a 9) cI 48 Y_secondOf, o_U a , ai (a 19) cI 24 U_lacks, o_G a , ai (a 21) cI 24 G_leaders, o_R a R_built]) A) args s 0 0 A) (F0 m 126 ls []) := by
    intro y7 hm H locs hP hD hS ls hl
    unfold m_X4_wouldCutOff_j126 at hm
    refine lv_iload hx hb dX4_wouldCutOff_126 (lv_at hl 0 rfl) ?_
    obtain ⟨hz128, hm⟩ := ckb_inv hm
    cases hm
    exact rZ () hx hb hr hlk hz128 hP hD hS dX4_wouldCutOff_128
  have h25 : ∀ (y3 : Int32) (y4 : Int32), ∀ (n : Nat) (y5 : Int32) (y6 : Int32), zl2 (m_X4_wouldCutOff_b25 Y_islands U_lacks G_leaders x2 y3 y4) n y5 y6 = some r0 → ∀ (H : Heap) (locs : List Loc), va_P D vwCl [o_Y a Y_islands Y_ways, ai (a 8) cI 48 Y_firstOf, ai (a 9) cI 48 Y_secondOf, o_U a , ai (a 19) cI 24 U_lacks, o_G a , ai (a 21) cI 24 G_leaders, o_R a R_built] H → va_D A [o_Y a Y_islands Y_ways, ai (a 8) cI 48 Y_firstOf, ai (a 9) cI 48 Y_secondOf, o_U a , ai (a 19) cI 24 U_lacks, o_G a , ai (a 21) cI 24 G_leaders, o_R a R_built] → va_S A s.heap H locs → ∀ ls : Array Slot, lv_has ls 9 [(0, .ref (a 22)), (2, .int x2), (3, .int y3), (4, .int y4), (5, .int y5), (6, .int y6)] → W p l e { frames := 2, cells := 0, slots := 0, locals := 42 } s m args below meth c H locs 0 0 (MQ below (eQ D (some (.int r0)) (fun _ : Unit => [o_Y a Y_islands Y_ways, ai (a 8) cI 48 Y_firstOf, ai (a 9) cI 48 Y_secondOf, o_U a , ai (a 19) cI 24 U_lacks, o_G a , ai (a 21) cI 24 G_leaders, o_R a R_built]) A) args s 0 0 A) (F0 m 25 ls []) := by
    intro y3 y4
    refine zl2_ind (fun rec25 ih25 y5 y6 hm => ?_)
    have h120 : ∀ (y21 : Int32) (y22 : Int32), m_X4_wouldCutOff_j120 rec25 y21 y22 = some r0 → ∀ (H : Heap) (locs : List Loc), va_P D vwCl [o_Y a Y_islands Y_ways, ai (a 8) cI 48 Y_firstOf, ai (a 9) cI 48 Y_secondOf, o_U a , ai (a 19) cI 24 U_lacks, o_G a , ai (a 21) cI 24 G_leaders, o_R a R_built] H → va_D A [o_Y a Y_islands Y_ways, ai (a 8) cI 48 Y_firstOf, ai (a 9) cI 48 Y_secondOf, o_U a , ai (a 19) cI 24 U_lacks, o_G a , ai (a 21) cI 24 G_leaders, o_R a R_built] → va_S A s.heap H locs → ∀ ls : Array Slot, lv_has ls 9 [(0, .ref (a 22)), (2, .int x2), (3, .int y3), (4, .int y4), (5, .int y21), (6, .int y22)] → W p l e { frames := 2, cells := 0, slots := 0, locals := 42 } s m args below meth c H locs 0 0 (MQ below (eQ D (some (.int r0)) (fun _ : Unit => [o_Y a Y_islands Y_ways, ai (a 8) cI 48 Y_firstOf, ai (a 9) cI 48 Y_secondOf, o_U a , ai (a 19) cI 24 U_lacks, o_G a , ai (a 21) cI 24 G_leaders, o_R a R_built]) A) args s 0 0 A) (F0 m 120 ls []) := by
      intro y21 y22 hm H locs hP hD hS ls hl
      unfold m_X4_wouldCutOff_j120 at hm
      obtain ⟨v23, ev23, hm⟩ := lt1_inv hm
      refine lv_iinc (v := v23) (lv' := [(6, .int v23), (0, .ref (a 22)), (2, .int x2), (3, .int y3), (4, .int y4), (5, .int y21)]) hx hb dX4_wouldCutOff_120 hl (k := 5) rfl ev23 (by decide) rfl (fun ls hl => ?_)
      refine lv_goto (tgt := 25) hx hb dX4_wouldCutOff_123 (by decide) ?_
      exact ih25 y21 v23 hm _ _ hP hD hS ls (lv_sub hl [1, 2, 3, 4, 5, 0] rfl)
    have h101 : ∀ (y17 : Int32) (y18 : Int32) (y19 : Int32), m_X4_wouldCutOff_j101 U_lacks rec25 y17 y18 y19 = some r0 → ∀ (H : Heap) (locs : List Loc), va_P D vwCl [o_Y a Y_islands Y_ways, ai (a 8) cI 48 Y_firstOf, ai (a 9) cI 48 Y_secondOf, o_U a , ai (a 19) cI 24 U_lacks, o_G a , ai (a 21) cI 24 G_leaders, o_R a R_built] H → va_D A [o_Y a Y_islands Y_ways, ai (a 8) cI 48 Y_firstOf, ai (a 9) cI 48 Y_secondOf, o_U a , ai (a 19) cI 24 U_lacks, o_G a , ai (a 21) cI 24 G_leaders, o_R a R_built] → va_S A s.heap H locs → ∀ ls : Array Slot, lv_has ls 9 [(0, .ref (a 22)), (2, .int x2), (3, .int y3), (4, .int y4), (5, .int y17), (6, .int y18), (8, .int y19)] → W p l e { frames := 2, cells := 0, slots := 0, locals := 42 } s m args below meth c H locs 0 0 (MQ below (eQ D (some (.int r0)) (fun _ : Unit => [o_Y a Y_islands Y_ways, ai (a 8) cI 48 Y_firstOf, ai (a 9) cI 48 Y_secondOf, o_U a , ai (a 19) cI 24 U_lacks, o_G a , ai (a 21) cI 24 G_leaders, o_R a R_built]) A) args s 0 0 A) (F0 m 101 ls []) := by
      intro y17 y18 y19 hm H locs hP hD hS ls hl
      unfold m_X4_wouldCutOff_j101 at hm
      refine lv_aload_n hx hb dX4_wouldCutOff_101 rfl (lv_at hl 0 rfl) ?_
      refine va_get (D := D) (ci := 4) (v := .ref (a 15)) (C := RX4) (T := TX4) (N := 5) hx hb hts hiX4 hown hK.1 hP 7 rfl rfl 2 (by decide) (hts (.fieldLink RX4 19 "IslandBridges$Reasoner" "sums" "LIslandBridges$Sums;") (List.mem_of_getElem? (i := 4) rfl)) (fun _ h9 => h9) rfl dX4_wouldCutOff_102 ?_
      refine va_get (D := D) (ci := 7) (v := .ref (a 19)) (C := RX7) (T := TX7) (N := 6) hx hb hts hiX7 hown hK.1 hP 3 rfl rfl 5 (by decide) (hts (.fieldLink RX4 117 "IslandBridges$Sums" "lacks" "[I") (List.mem_of_getElem? (i := 5) rfl)) (fun _ h9 => h9) rfl dX4_wouldCutOff_105 ?_
      refine lv_iload hx hb dX4_wouldCutOff_108 (lv_at hl 5 rfl) ?_
      obtain ⟨v20, ev20, hm⟩ := lt1_inv hm
      refine cNs ⟨hx, hb, hml, hown, hts⟩ (c_X9_valueAt l D cI cJ cS cB (a 19) 24 (Nat.le_of_ble_eq_true rfl) U_lacks y18 v20 ev20) ⟨va_cnB 2 hts gX4_wouldCutOff_X9_valueAt_n72 rfl rfl rfl (kn_12 hK) (hts (.initialized RX9) (List.mem_of_getElem? (i := 13) rfl)) hd_X9_valueAt ⟨(Nat.le_of_ble_eq_true rfl), (Nat.le_of_ble_eq_true rfl)⟩, (hts (.static yX9_valueAt) (List.mem_of_getElem? (i := 12) rfl)), trivial⟩ hK hP hD hS hA [4] rfl rfl rfl hl.1 (Nat.le_of_ble_eq_true rfl) ⟨Nat.zero_le _, Nat.zero_le _⟩ rfl dX4_wouldCutOff_110 (fun H locs hP hD hS => ?_)
      refine lv_iload hx hb dX4_wouldCutOff_113 (lv_at hl 6 rfl) ?_
      refine lv_icmp_eq (tgt := 120) hx hb dX4_wouldCutOff_115 (by decide) (fun c115 => ?_) (fun c115 => ?_)
      · have hm := ip c115 hm
        exact h120 y17 y18 hm _ _ hP hD hS ls (lv_sub hl [0, 1, 2, 3, 4, 5] rfl)
      · have hm := ine c115 hm
        refine lv_iconst (v := 0) hx hb dX4_wouldCutOff_118 (by decide) ?_
        cases hm
        exact rZ () hx hb hr hlk (by decide) hP hD hS dX4_wouldCutOff_119
    have h66 : ∀ (y12 : Int32) (y13 : Int32) (y14 : Int32) (y15 : Int32), m_X4_wouldCutOff_j66 U_lacks G_leaders y3 y4 rec25 y12 y13 y14 y15 = some r0 → ∀ (H : Heap) (locs : List Loc), va_P D vwCl [o_Y a Y_islands Y_ways, ai (a 8) cI 48 Y_firstOf, ai (a 9) cI 48 Y_secondOf, o_U a , ai (a 19) cI 24 U_lacks, o_G a , ai (a 21) cI 24 G_leaders, o_R a R_built] H → va_D A [o_Y a Y_islands Y_ways, ai (a 8) cI 48 Y_firstOf, ai (a 9) cI 48 Y_secondOf, o_U a , ai (a 19) cI 24 U_lacks, o_G a , ai (a 21) cI 24 G_leaders, o_R a R_built] → va_S A s.heap H locs → ∀ ls : Array Slot, lv_has ls 9 [(0, .ref (a 22)), (2, .int x2), (3, .int y3), (4, .int y4), (5, .int y12), (6, .int y13), (7, .int y14)] → W p l e { frames := 2, cells := 0, slots := 0, locals := 42 } s m args below meth c H locs 0 0 (MQ below (eQ D (some (.int r0)) (fun _ : Unit => [o_Y a Y_islands Y_ways, ai (a 8) cI 48 Y_firstOf, ai (a 9) cI 48 Y_secondOf, o_U a , ai (a 19) cI 24 U_lacks, o_G a , ai (a 21) cI 24 G_leaders, o_R a R_built]) A) args s 0 0 A) (F0 m 66 ls [.int y15]) := by
      intro y12 y13 y14 y15 hm H locs hP hD hS ls hl
      unfold m_X4_wouldCutOff_j66 at hm
      refine lv_istore (lv' := [(8, .int y15), (0, .ref (a 22)), (2, .int x2), (3, .int y3), (4, .int y4), (5, .int y12), (6, .int y13), (7, .int y14)]) hx hb dX4_wouldCutOff_66 hl (by decide) rfl (fun ls hl => ?_)
      refine lv_iload hx hb dX4_wouldCutOff_68 (lv_at hl 7 rfl) ?_
      refine lv_aload_n hx hb dX4_wouldCutOff_70 rfl (lv_at hl 1 rfl) ?_
      refine va_get (D := D) (ci := 4) (v := .ref (a 20)) (C := RX4) (T := TX4) (N := 5) hx hb hts hiX4 hown hK.1 hP 7 rfl rfl 3 (by decide) (hts (.fieldLink RX4 23 "IslandBridges$Reasoner" "groups" "LIslandBridges$Groups;") (List.mem_of_getElem? (i := 3) rfl)) (fun _ h9 => h9) rfl dX4_wouldCutOff_71 ?_
      refine lv_iload_n hx hb dX4_wouldCutOff_74 rfl (lv_at hl 3 rfl) ?_
      obtain ⟨v16, h_v16, hm⟩ := lt1_inv hm
      refine cVs ⟨hx, hb, hml, hown, hts⟩ (c_X0_leader l D cI cJ cS cB a G_leaders y3 v16 h_v16) (cwV 1 hts gX4_wouldCutOff_X0_leader rfl rfl rfl hd_X0_leader ⟨(Nat.le_of_ble_eq_true rfl), (Nat.le_of_ble_eq_true rfl)⟩) hK hP hD hS hA [5, 6] rfl rfl rfl hl.1 (Nat.le_of_ble_eq_true rfl) ⟨Nat.zero_le _, Nat.zero_le _⟩ 5 rfl rfl rfl rfl dX4_wouldCutOff_75 (fun H locs hP hD hS => ?_)
      refine lv_icmp_eq (tgt := 101) hx hb dX4_wouldCutOff_78 (by decide) (fun c78 => ?_) (fun c78 => ?_)
      · have hm := ip c78 hm
        exact h101 y12 y13 y15 hm _ _ hP hD hS ls (lv_sub hl [1, 2, 3, 4, 5, 6, 0] rfl)
      · have hm := ine c78 hm
        refine lv_iload hx hb dX4_wouldCutOff_81 (lv_at hl 7 rfl) ?_
        refine lv_aload_n hx hb dX4_wouldCutOff_83 rfl (lv_at hl 1 rfl) ?_
        refine va_get (D := D) (ci := 4) (v := .ref (a 20)) (C := RX4) (T := TX4) (N := 5) hx hb hts hiX4 hown hK.1 hP 7 rfl rfl 3 (by decide) (hts (.fieldLink RX4 23 "IslandBridges$Reasoner" "groups" "LIslandBridges$Groups;") (List.mem_of_getElem? (i := 3) rfl)) (fun _ h9 => h9) rfl dX4_wouldCutOff_84 ?_
        refine lv_iload hx hb dX4_wouldCutOff_87 (lv_at hl 4 rfl) ?_
        obtain ⟨v24, h_v24, hm⟩ := lt1_inv hm
        refine cVs ⟨hx, hb, hml, hown, hts⟩ (c_X0_leader l D cI cJ cS cB a G_leaders y4 v24 h_v24) (cwV 1 hts gX4_wouldCutOff_X0_leader rfl rfl rfl hd_X0_leader ⟨(Nat.le_of_ble_eq_true rfl), (Nat.le_of_ble_eq_true rfl)⟩) hK hP hD hS hA [5, 6] rfl rfl rfl hl.1 (Nat.le_of_ble_eq_true rfl) ⟨Nat.zero_le _, Nat.zero_le _⟩ 5 rfl rfl rfl rfl dX4_wouldCutOff_89 (fun H locs hP hD hS => ?_)
        refine lv_icmp_eq (tgt := 101) hx hb dX4_wouldCutOff_92 (by decide) (fun c92 => ?_) (fun c92 => ?_)
        · have hm := ip c92 hm
          exact h101 y12 y13 y15 hm _ _ hP hD hS ls (lv_sub hl [1, 2, 3, 4, 5, 6, 0] rfl)
        · have hm := ine c92 hm
          refine lv_iconst (v := 1) hx hb dX4_wouldCutOff_95 (by decide) ?_
          refine lv_istore (lv' := [(5, .int 1), (8, .int y15), (0, .ref (a 22)), (2, .int x2), (3, .int y3), (4, .int y4), (6, .int y13), (7, .int y14)]) hx hb dX4_wouldCutOff_96 hl (by decide) rfl (fun ls hl => ?_)
          refine lv_goto (tgt := 120) hx hb dX4_wouldCutOff_98 (by decide) ?_
          exact h120 1 y13 hm _ _ hP hD hS ls (lv_sub hl [2, 3, 4, 5, 0, 6] rfl)
    have h61 : ∀ (y9 : Int32) (y10 : Int32) (y11 : Int32), m_X4_wouldCutOff_j61 U_lacks G_leaders x2 y3 y4 rec25 y9 y10 y11 = some r0 → ∀ (H : Heap) (locs : List Loc), va_P D vwCl [o_Y a Y_islands Y_ways, ai (a 8) cI 48 Y_firstOf, ai (a 9) cI 48 Y_secondOf, o_U a , ai (a 19) cI 24 U_lacks, o_G a , ai (a 21) cI 24 G_leaders, o_R a R_built] H → va_D A [o_Y a Y_islands Y_ways, ai (a 8) cI 48 Y_firstOf, ai (a 9) cI 48 Y_secondOf, o_U a , ai (a 19) cI 24 U_lacks, o_G a , ai (a 21) cI 24 G_leaders, o_R a R_built] → va_S A s.heap H locs → ∀ ls : Array Slot, lv_has ls 9 [(0, .ref (a 22)), (2, .int x2), (3, .int y3), (4, .int y4), (5, .int y9), (6, .int y10), (7, .int y11)] → W p l e { frames := 2, cells := 0, slots := 0, locals := 42 } s m args below meth c H locs 0 0 (MQ below (eQ D (some (.int r0)) (fun _ : Unit => [o_Y a Y_islands Y_ways, ai (a 8) cI 48 Y_firstOf, ai (a 9) cI 48 Y_secondOf, o_U a , ai (a 19) cI 24 U_lacks, o_G a , ai (a 21) cI 24 G_leaders, o_R a R_built]) A) args s 0 0 A) (F0 m 61 ls []) := by
      intro y9 y10 y11 hm H locs hP hD hS ls hl
      unfold m_X4_wouldCutOff_j61 at hm
      refine lv_iload_n hx hb dX4_wouldCutOff_61 rfl (lv_at hl 1 rfl) ?_
      refine lv_goto (tgt := 66) hx hb dX4_wouldCutOff_62 (by decide) ?_
      exact h66 y9 y10 y11 x2 hm _ _ hP hD hS ls (lv_sub hl [0, 1, 2, 3, 4, 5, 6] rfl)
    intro H locs hP hD hS ls hl
    unfold m_X4_wouldCutOff_b25 at hm
    refine lv_iload hx hb dX4_wouldCutOff_25 (lv_at hl 5 rfl) ?_
    refine lv_aload_n hx hb dX4_wouldCutOff_27 rfl (lv_at hl 0 rfl) ?_
    refine va_get (D := D) (ci := 4) (v := .ref (a 5)) (C := RX4) (T := TX4) (N := 5) hx hb hts hiX4 hown hK.1 hP 7 rfl rfl 1 (by decide) (hts (.fieldLink RX4 15 "IslandBridges$Reasoner" "layout" "LIslandBridges$Layout;") (List.mem_of_getElem? (i := 1) rfl)) (fun _ h9 => h9) rfl dX4_wouldCutOff_28 ?_
    refine va_get (D := D) (ci := 2) (v := .int Y_islands) (C := RX2) (T := TX2) (N := 11) hx hb hts hiX2 hown hK.1 hP 0 rfl rfl 9 (by decide) (hts (.fieldLink RX4 111 "IslandBridges$Layout" "islands" "I") (List.mem_of_getElem? (i := 2) rfl)) (fun _ h9 => h9) rfl dX4_wouldCutOff_31 ?_
    refine lv_icmp_ge (tgt := 126) hx hb dX4_wouldCutOff_34 (by decide) (fun c34 => ?_) (fun c34 => ?_)
    · have hm := ip c34 hm
      exact h126 y5 hm _ _ hP hD hS ls (lv_sub hl [4] rfl)
    · have hm := ine c34 hm
      refine lv_aload_n hx hb dX4_wouldCutOff_37 rfl (lv_at hl 0 rfl) ?_
      refine va_get (D := D) (ci := 4) (v := .ref (a 20)) (C := RX4) (T := TX4) (N := 5) hx hb hts hiX4 hown hK.1 hP 7 rfl rfl 3 (by decide) (hts (.fieldLink RX4 23 "IslandBridges$Reasoner" "groups" "LIslandBridges$Groups;") (List.mem_of_getElem? (i := 3) rfl)) (fun _ h9 => h9) rfl dX4_wouldCutOff_38 ?_
      refine lv_iload hx hb dX4_wouldCutOff_41 (lv_at hl 5 rfl) ?_
      obtain ⟨v8, h_v8, hm⟩ := lt1_inv hm
      refine cVs ⟨hx, hb, hml, hown, hts⟩ (c_X0_leader l D cI cJ cS cB a G_leaders y6 v8 h_v8) (cwV 1 hts gX4_wouldCutOff_X0_leader rfl rfl rfl hd_X0_leader ⟨(Nat.le_of_ble_eq_true rfl), (Nat.le_of_ble_eq_true rfl)⟩) hK hP hD hS hA [5, 6] rfl rfl rfl hl.1 (Nat.le_of_ble_eq_true rfl) ⟨Nat.zero_le _, Nat.zero_le _⟩ 5 rfl rfl rfl rfl dX4_wouldCutOff_43 (fun H locs hP hD hS => ?_)
      refine lv_istore (lv' := [(7, .int v8), (0, .ref (a 22)), (2, .int x2), (3, .int y3), (4, .int y4), (5, .int y5), (6, .int y6)]) hx hb dX4_wouldCutOff_46 hl (by decide) rfl (fun ls hl => ?_)
      refine lv_iload hx hb dX4_wouldCutOff_48 (lv_at hl 6 rfl) ?_
      refine lv_iload_n hx hb dX4_wouldCutOff_50 rfl (lv_at hl 3 rfl) ?_
      refine lv_icmp_eq (tgt := 61) hx hb dX4_wouldCutOff_51 (by decide) (fun c51 => ?_) (fun c51 => ?_)
      · have hm := ip c51 hm
        exact h61 y5 y6 v8 hm _ _ hP hD hS ls (lv_sub hl [1, 2, 3, 4, 5, 6, 0] rfl)
      · have hm := ine c51 hm
        refine lv_iload hx hb dX4_wouldCutOff_54 (lv_at hl 6 rfl) ?_
        refine lv_iload hx hb dX4_wouldCutOff_56 (lv_at hl 4 rfl) ?_
        refine lv_icmp_ne (tgt := 65) hx hb dX4_wouldCutOff_58 (by decide) (fun c58 => ?_) (fun c58 => ?_)
        · have hm := ine c58 hm
          refine lv_iconst (v := 0) hx hb dX4_wouldCutOff_65 (by decide) ?_
          exact h66 y5 y6 v8 0 hm _ _ hP hD hS ls (lv_sub hl [1, 2, 3, 4, 5, 6, 0] rfl)
        · have hm := ip c58 hm
          exact h61 y5 y6 v8 hm _ _ hP hD hS ls (lv_sub hl [1, 2, 3, 4, 5, 6, 0] rfl)
  refine lv_aload_n hx hb dX4_wouldCutOff_0 rfl (lv_at hl 0 rfl) ?_
  refine va_get (D := D) (ci := 4) (v := .ref (a 5)) (C := RX4) (T := TX4) (N := 5) hx hb hts hiX4 hown hK.1 hP 7 rfl rfl 1 (by decide) (hts (.fieldLink RX4 15 "IslandBridges$Reasoner" "layout" "LIslandBridges$Layout;") (List.mem_of_getElem? (i := 1) rfl)) (fun _ h9 => h9) rfl dX4_wouldCutOff_1 ?_
  refine lv_iload_n hx hb dX4_wouldCutOff_4 rfl (lv_at hl 1 rfl) ?_
  obtain ⟨v1, h_v1, hm⟩ := lt1_inv hm
  refine cVs ⟨hx, hb, hml, hown, hts⟩ (c_X2_first l D cI cJ cS cB a Y_islands Y_ways Y_firstOf x1 v1 h_v1) (cwV 1 hts gX4_wouldCutOff_X2_first rfl rfl rfl hd_X2_first ⟨(Nat.le_of_ble_eq_true rfl), (Nat.le_of_ble_eq_true rfl)⟩) hK hP hD hS hA [0, 1] rfl rfl rfl hl.1 (Nat.le_of_ble_eq_true rfl) ⟨Nat.zero_le _, Nat.zero_le _⟩ 0 rfl rfl rfl rfl dX4_wouldCutOff_5 (fun H locs hP hD hS => ?_)
  refine lv_istore_n (lv' := [(3, .int v1), (0, .ref (a 22)), (1, .int x1), (2, .int x2)]) hx hb dX4_wouldCutOff_8 rfl hl (by decide) rfl (fun ls hl => ?_)
  refine lv_aload_n hx hb dX4_wouldCutOff_9 rfl (lv_at hl 1 rfl) ?_
  refine va_get (D := D) (ci := 4) (v := .ref (a 5)) (C := RX4) (T := TX4) (N := 5) hx hb hts hiX4 hown hK.1 hP 7 rfl rfl 1 (by decide) (hts (.fieldLink RX4 15 "IslandBridges$Reasoner" "layout" "LIslandBridges$Layout;") (List.mem_of_getElem? (i := 1) rfl)) (fun _ h9 => h9) rfl dX4_wouldCutOff_10 ?_
  refine lv_iload_n hx hb dX4_wouldCutOff_13 rfl (lv_at hl 2 rfl) ?_
  obtain ⟨v2, h_v2, hm⟩ := lt1_inv hm
  refine cVs ⟨hx, hb, hml, hown, hts⟩ (c_X2_second l D cI cJ cS cB a Y_islands Y_ways Y_secondOf x1 v2 h_v2) (cwV 1 hts gX4_wouldCutOff_X2_second rfl rfl rfl hd_X2_second ⟨(Nat.le_of_ble_eq_true rfl), (Nat.le_of_ble_eq_true rfl)⟩) hK hP hD hS hA [0, 2] rfl rfl rfl hl.1 (Nat.le_of_ble_eq_true rfl) ⟨Nat.zero_le _, Nat.zero_le _⟩ 0 rfl rfl rfl rfl dX4_wouldCutOff_14 (fun H locs hP hD hS => ?_)
  refine lv_istore (lv' := [(4, .int v2), (3, .int v1), (0, .ref (a 22)), (1, .int x1), (2, .int x2)]) hx hb dX4_wouldCutOff_17 hl (by decide) rfl (fun ls hl => ?_)
  refine lv_iconst (v := 0) hx hb dX4_wouldCutOff_19 (by decide) ?_
  refine lv_istore (lv' := [(5, .int 0), (4, .int v2), (3, .int v1), (0, .ref (a 22)), (1, .int x1), (2, .int x2)]) hx hb dX4_wouldCutOff_20 hl (by decide) rfl (fun ls hl => ?_)
  refine lv_iconst (v := 0) hx hb dX4_wouldCutOff_22 (by decide) ?_
  refine lv_istore (lv' := [(6, .int 0), (5, .int 0), (4, .int v2), (3, .int v1), (0, .ref (a 22)), (1, .int x1), (2, .int x2)]) hx hb dX4_wouldCutOff_23 hl (by decide) rfl (fun ls hl => ?_)
  exact h25 v1 v2 N 0 0 hm _ _ hP hD hS ls (lv_sub hl [4, 6, 3, 2, 1, 0] rfl)
theorem hd_X4_isPossible : yX4_isPossible.cls = RX4 ∧ yX4_isPossible.cls ≠ "java/lang/invoke/MethodHandle" ∧ yX4_isPossible.cls ≠ "java/lang/invoke/VarHandle" ∧ (parseMethodDescriptor yX4_isPossible.desc).map (fun d => d.parameters.length) = some 2 := by decide +kernel
def m_X4_isPossible (N : Nat) (S_bridges : Nat → Int32) (S_caps : Nat → Int32) (Y_islands : Int32) (Y_firstOf : Nat → Int32) (Y_secondOf : Nat → Int32) (Y_crossings : Nat → Int64) (U_numbers : Nat → Int32) (U_caps : Nat → Int32) (U_lacks : Nat → Int32) (G_leaders : Nat → Int32) (R_built : Int64) (x1 : Int32) (x2 : Int32) : Option (Int32) :=
  lt1 (vAt 48 S_bridges x2) (fun v1 => lt1 (vAt 48 S_caps x2) (fun v2 => if x1 = 1 then (if v1 = 0 then (if v2 ≤ 0 then (some 0) else (bd1 (m_X2_crossingsOf Y_crossings x2) (fun v3 => if (lg_cmp (v3 &&& R_built) ((0 : Int64))) = 0 then (some 0) else (some 1)))) else (some 0)) else (if x1 = 2 then (lt1 (m_X7_lesserLack Y_firstOf Y_secondOf U_lacks x2) (fun v4 => if v2 ≤ (v1 + v4) then (some 0) else (some 1))) else (if x1 = 3 then (lt1 (m_X7_leastBridges S_caps Y_firstOf Y_secondOf U_numbers U_caps x2) (fun v5 => if v5 ≤ v1 then (some 0) else (some 1))) else (if v2 ≤ v1 then (some 0) else (bd1 (m_X4_wouldCutOff N Y_islands Y_firstOf Y_secondOf U_lacks G_leaders x2 (v2 - v1)) (fun v6 => if v6 = 0 then (some 0) else (some 1))))))))
set_option maxHeartbeats 4000000 in
set_option maxRecDepth 100000 in
theorem c_X4_isPossible (l : Launch) (D : va_G) (cI cJ cS cB : ClassId) (a : Nat → Nat) (S_columns : Int32) (S_rows : Int32) (S_grade : Int32) (S_stepsMade : Int32) (S_bridges : Nat → Int32) (S_caps : Nat → Int32) (Y_islands : Int32) (Y_ways : Int32) (Y_firstOf : Nat → Int32) (Y_secondOf : Nat → Int32) (Y_crossings : Nat → Int64) (U_numbers : Nat → Int32) (U_caps : Nat → Int32) (U_lacks : Nat → Int32) (G_leaders : Nat → Int32) (R_built : Int64) (x1 : Int32) (x2 : Int32) (N : Nat) (r0 : Int32) (hm : m_X4_isPossible N S_bridges S_caps Y_islands Y_firstOf Y_secondOf Y_crossings U_numbers U_caps U_lacks G_leaders R_built x1 x2 = some r0) :
    mU l D (TYs cI cJ cS cB) yX4_isPossible wsX4_isPossible { frames := 3, cells := 0, slots := 0, locals := 70 } [.ref (a 22), .int x1, .int x2] [o_S a S_columns S_rows S_grade S_stepsMade, ai (a 3) cI 48 S_bridges, ai (a 4) cI 48 S_caps, o_Y a Y_islands Y_ways, ai (a 8) cI 48 Y_firstOf, ai (a 9) cI 48 Y_secondOf, aj (a 14) cJ 48 Y_crossings, o_U a , ai (a 16) cI 24 U_numbers, ai (a 18) cI 24 U_caps, ai (a 19) cI 24 U_lacks, o_G a , ai (a 21) cI 24 G_leaders, o_R a R_built] [o_S a S_columns S_rows S_grade S_stepsMade, ai (a 3) cI 48 S_bridges, ai (a 4) cI 48 S_caps, o_Y a Y_islands Y_ways, ai (a 8) cI 48 Y_firstOf, ai (a 9) cI 48 Y_secondOf, aj (a 14) cJ 48 Y_crossings, o_U a , ai (a 16) cI 24 U_numbers, ai (a 18) cI 24 U_caps, ai (a 19) cI 24 U_lacks, o_G a , ai (a 21) cI 24 G_leaders, o_R a R_built] (some (.int r0)) := by
  refine mG_of (cc := cX4_isPossible) (maxL := 5) (ret := (some .boolean)) (by decide) rfl rfl (Nat.le_of_ble_eq_true rfl) ?_
  intro p e s m args below meth c A hx hb hr hml hlk hnm hts hown hK hP hD hA hS ls hl
  have hl : lv_has ls 5 [(0, .ref (a 22)), (1, .int x1), (2, .int x2)] := hl
  have hiX0 : ∀ w ∈ wsX00, w ∈ wsX4_isPossible := fun w h => List.mem_cons_of_mem _ (List.mem_append_right _ h)
  have hiX2 : ∀ w ∈ wsX20, w ∈ wsX4_isPossible := fun w h => List.mem_cons_of_mem _ (List.mem_append_left _ (List.mem_append_left _ (List.mem_append_right _ h)))
  have hiX4 : ∀ w ∈ wsX40, w ∈ wsX4_isPossible := fun w h => List.mem_cons_of_mem _ (List.mem_append_left _ (List.mem_append_left _ (List.mem_append_left _ (List.mem_append_left _ (List.mem_append_right _ h)))))
  have hiX6 : ∀ w ∈ wsX60, w ∈ wsX4_isPossible := fun w h => List.mem_cons_of_mem _ (List.mem_append_left _ (List.mem_append_left _ (List.mem_append_left _ (List.mem_append_right _ h))))
  have hiX7 : ∀ w ∈ wsX70, w ∈ wsX4_isPossible := fun w h => List.mem_cons_of_mem _ (List.mem_append_left _ (List.mem_append_right _ h))
  unfold m_X4_isPossible at hm
  refine lv_aload_n hx hb dX4_isPossible_0 rfl (lv_at hl 0 rfl) ?_
  refine va_get (D := D) (ci := 4) (v := .ref (a 1)) (C := RX4) (T := TX4) (N := 5) hx hb hts hiX4 hown hK.1 hP 13 rfl rfl 0 (by decide) (hts (.fieldLink RX4 9 "IslandBridges$Reasoner" "state" "LIslandBridges$State;") (List.mem_of_getElem? (i := 1) rfl)) (fun _ h9 => h9) rfl dX4_isPossible_1 ?_
  refine va_get (D := D) (ci := 6) (v := .ref (a 3)) (C := RX6) (T := TX6) (N := 7) hx hb hts hiX6 hown hK.1 hP 0 rfl rfl 1 (by decide) (hts (.fieldLink RX4 36 "IslandBridges$State" "bridges" "[I") (List.mem_of_getElem? (i := 2) rfl)) (fun _ h9 => h9) rfl dX4_isPossible_4 ?_
  refine lv_iload_n hx hb dX4_isPossible_7 rfl (lv_at hl 2 rfl) ?_
  obtain ⟨v1, ev1, hm⟩ := lt1_inv hm
  refine cNs ⟨hx, hb, hml, hown, hts⟩ (c_X9_valueAt l D cI cJ cS cB (a 3) 48 (Nat.le_of_ble_eq_true rfl) S_bridges x2 v1 ev1) ⟨va_cnB 2 hts gX4_isPossible_X9_valueAt_n72 rfl rfl rfl (kn_12 hK) (hts (.initialized RX9) (List.mem_of_getElem? (i := 8) rfl)) hd_X9_valueAt ⟨(Nat.le_of_ble_eq_true rfl), (Nat.le_of_ble_eq_true rfl)⟩, (hts (.static yX9_valueAt) (List.mem_of_getElem? (i := 7) rfl)), trivial⟩ hK hP hD hS hA [1] rfl rfl rfl hl.1 (Nat.le_of_ble_eq_true rfl) ⟨Nat.zero_le _, Nat.zero_le _⟩ rfl dX4_isPossible_8 (fun H locs hP hD hS => ?_)
  refine lv_istore_n (lv' := [(3, .int v1), (0, .ref (a 22)), (1, .int x1), (2, .int x2)]) hx hb dX4_isPossible_11 rfl hl (by decide) rfl (fun ls hl => ?_)
  refine lv_aload_n hx hb dX4_isPossible_12 rfl (lv_at hl 1 rfl) ?_
  refine va_get (D := D) (ci := 4) (v := .ref (a 1)) (C := RX4) (T := TX4) (N := 5) hx hb hts hiX4 hown hK.1 hP 13 rfl rfl 0 (by decide) (hts (.fieldLink RX4 9 "IslandBridges$Reasoner" "state" "LIslandBridges$State;") (List.mem_of_getElem? (i := 1) rfl)) (fun _ h9 => h9) rfl dX4_isPossible_13 ?_
  refine va_get (D := D) (ci := 6) (v := .ref (a 4)) (C := RX6) (T := TX6) (N := 7) hx hb hts hiX6 hown hK.1 hP 0 rfl rfl 2 (by decide) (hts (.fieldLink RX4 65 "IslandBridges$State" "caps" "[I") (List.mem_of_getElem? (i := 3) rfl)) (fun _ h9 => h9) rfl dX4_isPossible_16 ?_
  refine lv_iload_n hx hb dX4_isPossible_19 rfl (lv_at hl 3 rfl) ?_
  obtain ⟨v2, ev2, hm⟩ := lt1_inv hm
  refine cNs ⟨hx, hb, hml, hown, hts⟩ (c_X9_valueAt l D cI cJ cS cB (a 4) 48 (Nat.le_of_ble_eq_true rfl) S_caps x2 v2 ev2) ⟨va_cnB 2 hts gX4_isPossible_X9_valueAt_n72 rfl rfl rfl (kn_12 hK) (hts (.initialized RX9) (List.mem_of_getElem? (i := 8) rfl)) hd_X9_valueAt ⟨(Nat.le_of_ble_eq_true rfl), (Nat.le_of_ble_eq_true rfl)⟩, (hts (.static yX9_valueAt) (List.mem_of_getElem? (i := 7) rfl)), trivial⟩ hK hP hD hS hA [2] rfl rfl rfl hl.1 (Nat.le_of_ble_eq_true rfl) ⟨Nat.zero_le _, Nat.zero_le _⟩ rfl dX4_isPossible_20 (fun H locs hP hD hS => ?_)
  refine lv_istore (lv' := [(4, .int v2), (3, .int v1), (0, .ref (a 22)), (1, .int x1), (2, .int x2)]) hx hb dX4_isPossible_23 hl (by decide) rfl (fun ls hl => ?_)
  refine lv_iload_n hx hb dX4_isPossible_25 rfl (lv_at hl 3 rfl) ?_
  by_cases q26_1 : x1 = 1
  · have hm := ip q26_1 hm
    refine lv_tableIn (off := 26) (tgt := 52) hx hb dX4_isPossible_26 (by rw [q26_1]; decide) (by rw [q26_1]; decide) (by rw [q26_1]; rfl) (by decide) ?_
    refine lv_iload_n hx hb dX4_isPossible_52 rfl (lv_at hl 1 rfl) ?_
    refine lv_if_ne (tgt := 83) hx hb dX4_isPossible_53 (by decide) (fun c53 => ?_) (fun c53 => ?_)
    · have hm := ine c53 hm
      refine lv_iconst (v := 0) hx hb dX4_isPossible_83 (by decide) ?_
      cases hm
      exact rZ () hx hb hr hlk (by decide) hP hD hS dX4_isPossible_84
    · have hm := ip c53 hm
      refine lv_iload hx hb dX4_isPossible_56 (lv_at hl 0 rfl) ?_
      refine lv_if_le (tgt := 83) hx hb dX4_isPossible_58 (by decide) (fun c58 => ?_) (fun c58 => ?_)
      · have hm := ip c58 hm
        refine lv_iconst (v := 0) hx hb dX4_isPossible_83 (by decide) ?_
        cases hm
        exact rZ () hx hb hr hlk (by decide) hP hD hS dX4_isPossible_84
      · have hm := ine c58 hm
        refine lv_aload_n hx hb dX4_isPossible_61 rfl (lv_at hl 2 rfl) ?_
        refine va_get (D := D) (ci := 4) (v := .ref (a 5)) (C := RX4) (T := TX4) (N := 5) hx hb hts hiX4 hown hK.1 hP 13 rfl rfl 1 (by decide) (hts (.fieldLink RX4 15 "IslandBridges$Reasoner" "layout" "LIslandBridges$Layout;") (List.mem_of_getElem? (i := 4) rfl)) (fun _ h9 => h9) rfl dX4_isPossible_62 ?_
        refine lv_iload_n hx hb dX4_isPossible_65 rfl (lv_at hl 4 rfl) ?_
        obtain ⟨v3, h_v3, hm⟩ := bd1_inv hm
        refine cVs ⟨hx, hb, hml, hown, hts⟩ (c_X2_crossingsOf l D cI cJ cS cB a Y_islands Y_ways Y_crossings x2 v3 h_v3) (cwV 1 hts gX4_isPossible_X2_crossingsOf rfl rfl rfl hd_X2_crossingsOf ⟨(Nat.le_of_ble_eq_true rfl), (Nat.le_of_ble_eq_true rfl)⟩) hK hP hD hS hA [3, 6] rfl rfl rfl hl.1 (Nat.le_of_ble_eq_true rfl) ⟨Nat.zero_le _, Nat.zero_le _⟩ 3 rfl rfl rfl rfl dX4_isPossible_66 (fun H locs hP hD hS => ?_)
        refine lv_aload_n hx hb dX4_isPossible_69 rfl (lv_at hl 2 rfl) ?_
        refine va_get (D := D) (ci := 4) (v := .long R_built) (C := RX4) (T := TX4) (N := 5) hx hb hts hiX4 hown hK.1 hP 13 rfl rfl 4 (by decide) (hts (.fieldLink RX4 53 "IslandBridges$Reasoner" "built" "J") (List.mem_of_getElem? (i := 5) rfl)) (fun _ h9 => h9) rfl dX4_isPossible_70 ?_
        refine lv_land hx hb dX4_isPossible_73 ?_
        refine lv_lconst (v := 0) hx hb dX4_isPossible_74 (by decide) ?_
        refine W.lcmp hx hb dX4_isPossible_75 ?_
        refine lv_if_eq (tgt := 83) hx hb dX4_isPossible_76 (by decide) (fun c76 => ?_) (fun c76 => ?_)
        · have hm := ip c76 hm
          refine lv_iconst (v := 0) hx hb dX4_isPossible_83 (by decide) ?_
          cases hm
          exact rZ () hx hb hr hlk (by decide) hP hD hS dX4_isPossible_84
        · have hm := ine c76 hm
          refine lv_iconst (v := 1) hx hb dX4_isPossible_79 (by decide) ?_
          refine lv_goto (tgt := 84) hx hb dX4_isPossible_80 (by decide) ?_
          cases hm
          exact rZ () hx hb hr hlk (by decide) hP hD hS dX4_isPossible_84
  have hm := ine q26_1 hm
  by_cases q26_2 : x1 = 2
  · have hm := ip q26_2 hm
    refine lv_tableIn (off := 59) (tgt := 85) hx hb dX4_isPossible_26 (by rw [q26_2]; decide) (by rw [q26_2]; decide) (by rw [q26_2]; rfl) (by decide) ?_
    refine lv_iload hx hb dX4_isPossible_85 (lv_at hl 0 rfl) ?_
    refine lv_iload_n hx hb dX4_isPossible_87 rfl (lv_at hl 1 rfl) ?_
    refine lv_aload_n hx hb dX4_isPossible_88 rfl (lv_at hl 2 rfl) ?_
    refine va_get (D := D) (ci := 4) (v := .ref (a 15)) (C := RX4) (T := TX4) (N := 5) hx hb hts hiX4 hown hK.1 hP 13 rfl rfl 2 (by decide) (hts (.fieldLink RX4 19 "IslandBridges$Reasoner" "sums" "LIslandBridges$Sums;") (List.mem_of_getElem? (i := 6) rfl)) (fun _ h9 => h9) rfl dX4_isPossible_89 ?_
    refine lv_iload_n hx hb dX4_isPossible_92 rfl (lv_at hl 4 rfl) ?_
    obtain ⟨v4, h_v4, hm⟩ := lt1_inv hm
    refine cVs ⟨hx, hb, hml, hown, hts⟩ (c_X7_lesserLack l D cI cJ cS cB a Y_islands Y_ways Y_firstOf Y_secondOf U_lacks x2 v4 h_v4) (cwV 1 hts gX4_isPossible_X7_lesserLack rfl rfl rfl hd_X7_lesserLack ⟨(Nat.le_of_ble_eq_true rfl), (Nat.le_of_ble_eq_true rfl)⟩) hK hP hD hS hA [3, 4, 5, 7, 10] rfl rfl rfl hl.1 (Nat.le_of_ble_eq_true rfl) ⟨Nat.zero_le _, Nat.zero_le _⟩ 7 rfl rfl rfl rfl dX4_isPossible_93 (fun H locs hP hD hS => ?_)
    refine lv_iadd hx hb dX4_isPossible_96 ?_
    refine lv_icmp_le (tgt := 104) hx hb dX4_isPossible_97 (by decide) (fun c97 => ?_) (fun c97 => ?_)
    · have hm := ip c97 hm
      refine lv_iconst (v := 0) hx hb dX4_isPossible_104 (by decide) ?_
      cases hm
      exact rZ () hx hb hr hlk (by decide) hP hD hS dX4_isPossible_105
    · have hm := ine c97 hm
      refine lv_iconst (v := 1) hx hb dX4_isPossible_100 (by decide) ?_
      refine lv_goto (tgt := 105) hx hb dX4_isPossible_101 (by decide) ?_
      cases hm
      exact rZ () hx hb hr hlk (by decide) hP hD hS dX4_isPossible_105
  have hm := ine q26_2 hm
  by_cases q26_3 : x1 = 3
  · have hm := ip q26_3 hm
    refine lv_tableIn (off := 80) (tgt := 106) hx hb dX4_isPossible_26 (by rw [q26_3]; decide) (by rw [q26_3]; decide) (by rw [q26_3]; rfl) (by decide) ?_
    refine lv_iload_n hx hb dX4_isPossible_106 rfl (lv_at hl 1 rfl) ?_
    refine lv_aload_n hx hb dX4_isPossible_107 rfl (lv_at hl 2 rfl) ?_
    refine va_get (D := D) (ci := 4) (v := .ref (a 15)) (C := RX4) (T := TX4) (N := 5) hx hb hts hiX4 hown hK.1 hP 13 rfl rfl 2 (by decide) (hts (.fieldLink RX4 19 "IslandBridges$Reasoner" "sums" "LIslandBridges$Sums;") (List.mem_of_getElem? (i := 6) rfl)) (fun _ h9 => h9) rfl dX4_isPossible_108 ?_
    refine lv_iload_n hx hb dX4_isPossible_111 rfl (lv_at hl 4 rfl) ?_
    obtain ⟨v5, h_v5, hm⟩ := lt1_inv hm
    refine cVs ⟨hx, hb, hml, hown, hts⟩ (c_X7_leastBridges l D cI cJ cS cB a S_columns S_rows S_grade S_stepsMade S_caps Y_islands Y_ways Y_firstOf Y_secondOf U_numbers U_caps x2 v5 h_v5) (cwV 1 hts gX4_isPossible_X7_leastBridges rfl rfl rfl hd_X7_leastBridges ⟨(Nat.le_of_ble_eq_true rfl), (Nat.le_of_ble_eq_true rfl)⟩) hK hP hD hS hA [0, 2, 3, 4, 5, 7, 8, 9] rfl rfl rfl hl.1 (Nat.le_of_ble_eq_true rfl) ⟨Nat.zero_le _, Nat.zero_le _⟩ 7 rfl rfl rfl rfl dX4_isPossible_112 (fun H locs hP hD hS => ?_)
    refine lv_icmp_ge (tgt := 122) hx hb dX4_isPossible_115 (by decide) (fun c115 => ?_) (fun c115 => ?_)
    · have hm := ip c115 hm
      refine lv_iconst (v := 0) hx hb dX4_isPossible_122 (by decide) ?_
      cases hm
      exact rZ () hx hb hr hlk (by decide) hP hD hS dX4_isPossible_123
    · have hm := ine c115 hm
      refine lv_iconst (v := 1) hx hb dX4_isPossible_118 (by decide) ?_
      refine lv_goto (tgt := 123) hx hb dX4_isPossible_119 (by decide) ?_
      cases hm
      exact rZ () hx hb hr hlk (by decide) hP hD hS dX4_isPossible_123
  have hm := ine q26_3 hm
  have w26_1 : x1.toInt ≠ 1 := fun h9 => q26_1 (Int32.toInt_inj.mp (h9.trans rfl))
  have w26_2 : x1.toInt ≠ 2 := fun h9 => q26_2 (Int32.toInt_inj.mp (h9.trans rfl))
  have w26_3 : x1.toInt ≠ 3 := fun h9 => q26_3 (Int32.toInt_inj.mp (h9.trans rfl))
  refine lv_tableOut (tgt := 124) hx hb dX4_isPossible_26 (by omega) (by decide) ?_
  refine lv_iload hx hb dX4_isPossible_124 (lv_at hl 0 rfl) ?_
  refine lv_iload_n hx hb dX4_isPossible_126 rfl (lv_at hl 1 rfl) ?_
  refine lv_icmp_le (tgt := 146) hx hb dX4_isPossible_127 (by decide) (fun c127 => ?_) (fun c127 => ?_)
  · have hm := ip c127 hm
    refine lv_iconst (v := 0) hx hb dX4_isPossible_146 (by decide) ?_
    cases hm
    exact rZ () hx hb hr hlk (by decide) hP hD hS dX4_isPossible_147
  · have hm := ine c127 hm
    refine lv_aload_n hx hb dX4_isPossible_130 rfl (lv_at hl 2 rfl) ?_
    refine lv_iload_n hx hb dX4_isPossible_131 rfl (lv_at hl 4 rfl) ?_
    refine lv_iload hx hb dX4_isPossible_132 (lv_at hl 0 rfl) ?_
    refine lv_iload_n hx hb dX4_isPossible_134 rfl (lv_at hl 1 rfl) ?_
    refine lv_isub hx hb dX4_isPossible_135 ?_
    obtain ⟨v6, h_v6, hm⟩ := bd1_inv hm
    refine cVs ⟨hx, hb, hml, hown, hts⟩ (c_X4_wouldCutOff l D cI cJ cS cB a Y_islands Y_ways Y_firstOf Y_secondOf U_lacks G_leaders R_built x2 (v2 - v1) N v6 h_v6) (cwV 2 hts gX4_isPossible_X4_wouldCutOff rfl rfl rfl hd_X4_wouldCutOff ⟨(Nat.le_of_ble_eq_true rfl), (Nat.le_of_ble_eq_true rfl)⟩) hK hP hD hS hA [3, 4, 5, 7, 10, 11, 12, 13] rfl rfl rfl hl.1 (Nat.le_of_ble_eq_true rfl) ⟨Nat.zero_le _, Nat.zero_le _⟩ 13 rfl rfl rfl rfl dX4_isPossible_136 (fun H locs hP hD hS => ?_)
    refine lv_if_eq (tgt := 146) hx hb dX4_isPossible_139 (by decide) (fun c139 => ?_) (fun c139 => ?_)
    · have hm := ip c139 hm
      refine lv_iconst (v := 0) hx hb dX4_isPossible_146 (by decide) ?_
      cases hm
      exact rZ () hx hb hr hlk (by decide) hP hD hS dX4_isPossible_147
    · have hm := ine c139 hm
      refine lv_iconst (v := 1) hx hb dX4_isPossible_142 (by decide) ?_
      refine lv_goto (tgt := 147) hx hb dX4_isPossible_143 (by decide) ?_
      cases hm
      exact rZ () hx hb hr hlk (by decide) hP hD hS dX4_isPossible_147
theorem hd_X4_find : yX4_find.cls = RX4 ∧ yX4_find.cls ≠ "java/lang/invoke/MethodHandle" ∧ yX4_find.cls ≠ "java/lang/invoke/VarHandle" ∧ (parseMethodDescriptor yX4_find.desc).map (fun d => d.parameters.length) = some 0 := by decide +kernel
def m_X4_find_j94 (rec54 : Int32 → Option (Int32 × (Nat → Int32) × (Nat → Int32) × (Nat → Int32) × (Nat → Int32) × (Nat → Int32) × Int64)) (y17 : Int32) : Option (Int32 × (Nat → Int32) × (Nat → Int32) × (Nat → Int32) × (Nat → Int32) × (Nat → Int32) × Int64) :=
  lt1 (y17 + 1) (fun v18 => rec54 v18)
def m_X4_find_j81 (y21 : Int32) (y22 : Int32) (y23 : Nat → Int32) (y24 : Nat → Int32) (y25 : Nat → Int32) (y26 : Nat → Int32) (y27 : Nat → Int32) (y28 : Int64) : Option (Int32 × (Nat → Int32) × (Nat → Int32) × (Nat → Int32) × (Nat → Int32) × (Nat → Int32) × Int64) :=
  some (((100 * y21) + y22, y23, y24, y25, y26, y27, y28))
def m_X4_find_b61 (N : Nat) (S_bridges : Nat → Int32) (S_caps : Nat → Int32) (Y_islands : Int32) (Y_ways : Int32) (Y_firstOf : Nat → Int32) (Y_secondOf : Nat → Int32) (Y_crossings : Nat → Int64) (y9 : Nat → Int32) (y10 : Nat → Int32) (y11 : Nat → Int32) (y12 : Nat → Int32) (y13 : Nat → Int32) (y14 : Int64) (rec54 : Int32 → Option (Int32 × (Nat → Int32) × (Nat → Int32) × (Nat → Int32) × (Nat → Int32) × (Nat → Int32) × Int64)) (y15 : Int32) (rec61 : Int32 → Option (Int32 × (Nat → Int32) × (Nat → Int32) × (Nat → Int32) × (Nat → Int32) × (Nat → Int32) × Int64)) (y16 : Int32) : Option (Int32 × (Nat → Int32) × (Nat → Int32) × (Nat → Int32) × (Nat → Int32) × (Nat → Int32) × Int64) :=
  if Y_ways ≤ y16 then (m_X4_find_j94 rec54 y15) else (bd1 (m_X4_isPossible N S_bridges S_caps Y_islands Y_firstOf Y_secondOf Y_crossings y9 y11 y12 y13 y14 y15 y16) (fun v19 => if v19 = 0 then (lt1 (y16 + 1) (fun v20 => rec61 v20)) else (m_X4_find_j81 y15 y16 y9 y10 y11 y12 y13 y14)))
def m_X4_find_b54 (N : Nat) (S_bridges : Nat → Int32) (S_caps : Nat → Int32) (Y_islands : Int32) (Y_ways : Int32) (Y_firstOf : Nat → Int32) (Y_secondOf : Nat → Int32) (Y_crossings : Nat → Int64) (y9 : Nat → Int32) (y10 : Nat → Int32) (y11 : Nat → Int32) (y12 : Nat → Int32) (y13 : Nat → Int32) (y14 : Int64) (rec54 : Int32 → Option (Int32 × (Nat → Int32) × (Nat → Int32) × (Nat → Int32) × (Nat → Int32) × (Nat → Int32) × Int64)) (y8 : Int32) : Option (Int32 × (Nat → Int32) × (Nat → Int32) × (Nat → Int32) × (Nat → Int32) × (Nat → Int32) × Int64) :=
  if 4 < y8 then (some (((-4), y9, y10, y11, y12, y13, y14))) else (zl1 (m_X4_find_b61 N S_bridges S_caps Y_islands Y_ways Y_firstOf Y_secondOf Y_crossings y9 y10 y11 y12 y13 y14 rec54 y8) N 0)
def m_X4_find (N : Nat) (S_numbers : Nat → Int32) (S_bridges : Nat → Int32) (S_caps : Nat → Int32) (Y_islands : Int32) (Y_ways : Int32) (Y_cellOf : Nat → Int32) (Y_firstOf : Nat → Int32) (Y_secondOf : Nat → Int32) (Y_crossings : Nat → Int64) (U_numbers : Nat → Int32) (U_bridges : Nat → Int32) (U_caps : Nat → Int32) (U_lacks : Nat → Int32) (G_leaders : Nat → Int32) (R_built : Int64) : Option (Int32 × (Nat → Int32) × (Nat → Int32) × (Nat → Int32) × (Nat → Int32) × (Nat → Int32) × Int64) :=
  bd4 (m_X7_read N S_numbers S_bridges S_caps Y_islands Y_ways Y_cellOf Y_firstOf Y_secondOf U_numbers U_bridges U_caps U_lacks) (fun v1 v2 v3 v4 => bd1 (m_X7_areBroken N Y_islands v1 v3 v4) (fun v5 => if v5 = 0 then (bd1 (m_X0_read N Y_islands Y_ways Y_firstOf Y_secondOf G_leaders S_bridges) (fun v6 => bd1 (m_X2_waysWith N Y_ways S_bridges) (fun v7 => zl1 (m_X4_find_b54 N S_bridges S_caps Y_islands Y_ways Y_firstOf Y_secondOf Y_crossings v1 v2 v3 v4 v6 v7) N 1))) else (some (((-2), v1, v2, v3, v4, G_leaders, R_built)))))
set_option maxHeartbeats 4000000 in
set_option maxRecDepth 100000 in
theorem c_X4_find (l : Launch) (D : va_G) (cI cJ cS cB : ClassId) (a : Nat → Nat) (S_columns : Int32) (S_rows : Int32) (S_grade : Int32) (S_stepsMade : Int32) (S_numbers : Nat → Int32) (S_bridges : Nat → Int32) (S_caps : Nat → Int32) (Y_islands : Int32) (Y_ways : Int32) (Y_cellOf : Nat → Int32) (Y_firstOf : Nat → Int32) (Y_secondOf : Nat → Int32) (Y_crossings : Nat → Int64) (U_numbers : Nat → Int32) (U_bridges : Nat → Int32) (U_caps : Nat → Int32) (U_lacks : Nat → Int32) (G_leaders : Nat → Int32) (R_built : Int64)  (N : Nat) (r0 : Int32) (U_numbers' : Nat → Int32) (U_bridges' : Nat → Int32) (U_caps' : Nat → Int32) (U_lacks' : Nat → Int32) (G_leaders' : Nat → Int32) (R_built' : Int64) (hm : m_X4_find N S_numbers S_bridges S_caps Y_islands Y_ways Y_cellOf Y_firstOf Y_secondOf Y_crossings U_numbers U_bridges U_caps U_lacks G_leaders R_built = some (r0, U_numbers', U_bridges', U_caps', U_lacks', G_leaders', R_built')) :
    mU l D (TYs cI cJ cS cB) yX4_find wsX4_find { frames := 4, cells := 0, slots := 0, locals := 94 } [.ref (a 22)] [o_S a S_columns S_rows S_grade S_stepsMade, ai (a 2) cI 144 S_numbers, ai (a 3) cI 48 S_bridges, ai (a 4) cI 48 S_caps, o_Y a Y_islands Y_ways, ai (a 6) cI 24 Y_cellOf, ai (a 8) cI 48 Y_firstOf, ai (a 9) cI 48 Y_secondOf, aj (a 14) cJ 48 Y_crossings, o_U a , ai (a 16) cI 24 U_numbers, ai (a 17) cI 24 U_bridges, ai (a 18) cI 24 U_caps, ai (a 19) cI 24 U_lacks, o_G a , ai (a 21) cI 24 G_leaders, o_R a R_built] [o_S a S_columns S_rows S_grade S_stepsMade, ai (a 2) cI 144 S_numbers, ai (a 3) cI 48 S_bridges, ai (a 4) cI 48 S_caps, o_Y a Y_islands Y_ways, ai (a 6) cI 24 Y_cellOf, ai (a 8) cI 48 Y_firstOf, ai (a 9) cI 48 Y_secondOf, aj (a 14) cJ 48 Y_crossings, o_U a , ai (a 16) cI 24 U_numbers', ai (a 17) cI 24 U_bridges', ai (a 18) cI 24 U_caps', ai (a 19) cI 24 U_lacks', o_G a , ai (a 21) cI 24 G_leaders', o_R a R_built'] (some (.int r0)) := by
  refine mG_of (cc := cX4_find) (maxL := 3) (ret := (some .int)) (by decide) rfl rfl (Nat.le_of_ble_eq_true rfl) ?_
  intro p e s m args below meth c A hx hb hr hml hlk hnm hts hown hK hP hD hA hS ls hl
  have hl : lv_has ls 3 [(0, .ref (a 22))] := hl
  have hiX0 : ∀ w ∈ wsX00, w ∈ wsX4_find := fun w h => List.mem_cons_of_mem _ (List.mem_append_right _ h)
  have hiX2 : ∀ w ∈ wsX20, w ∈ wsX4_find := fun w h => List.mem_cons_of_mem _ (List.mem_append_left _ (List.mem_append_left _ (List.mem_append_right _ h)))
  have hiX4 : ∀ w ∈ wsX40, w ∈ wsX4_find := fun w h => List.mem_cons_of_mem _ (List.mem_append_left _ (List.mem_append_left _ (List.mem_append_left _ (List.mem_append_left _ (List.mem_append_right _ h)))))
  have hiX6 : ∀ w ∈ wsX60, w ∈ wsX4_find := fun w h => List.mem_cons_of_mem _ (List.mem_append_left _ (List.mem_append_left _ (List.mem_append_left _ (List.mem_append_right _ h))))
  have hiX7 : ∀ w ∈ wsX70, w ∈ wsX4_find := fun w h => List.mem_cons_of_mem _ (List.mem_append_left _ (List.mem_append_right _ h))
  unfold m_X4_find at hm
  have h81 : ∀ (y21 : Int32) (y22 : Int32) (y23 : Nat → Int32) (y24 : Nat → Int32) (y25 : Nat → Int32) (y26 : Nat → Int32) (y27 : Nat → Int32) (y28 : Int64), m_X4_find_j81 y21 y22 y23 y24 y25 y26 y27 y28 = some (r0, U_numbers', U_bridges', U_caps', U_lacks', G_leaders', R_built') → ∀ (H : Heap) (locs : List Loc), va_P D vwCl [o_S a S_columns S_rows S_grade S_stepsMade, ai (a 2) cI 144 S_numbers, ai (a 3) cI 48 S_bridges, ai (a 4) cI 48 S_caps, o_Y a Y_islands Y_ways, ai (a 6) cI 24 Y_cellOf, ai (a 8) cI 48 Y_firstOf, ai (a 9) cI 48 Y_secondOf, aj (a 14) cJ 48 Y_crossings, o_U a , ai (a 16) cI 24 y23, ai (a 17) cI 24 y24, ai (a 18) cI 24 y25, ai (a 19) cI 24 y26, o_G a , ai (a 21) cI 24 y27, o_R a y28] H → va_D A [o_S a S_columns S_rows S_grade S_stepsMade, ai (a 2) cI 144 S_numbers, ai (a 3) cI 48 S_bridges, ai (a 4) cI 48 S_caps, o_Y a Y_islands Y_ways, ai (a 6) cI 24 Y_cellOf, ai (a 8) cI 48 Y_firstOf, ai (a 9) cI 48 Y_secondOf, aj (a 14) cJ 48 Y_crossings, o_U a , ai (a 16) cI 24 y23, ai (a 17) cI 24 y24, ai (a 18) cI 24 y25, ai (a 19) cI 24 y26, o_G a , ai (a 21) cI 24 y27, o_R a y28] → va_S A s.heap H locs → ∀ ls : Array Slot, lv_has ls 3 [(1, .int y21), (2, .int y22)] → W p l e { frames := 4, cells := 0, slots := 0, locals := 94 } s m args below meth c H locs 0 0 (MQ below (eQ D (some (.int r0)) (fun _ : Unit => [o_S a S_columns S_rows S_grade S_stepsMade, ai (a 2) cI 144 S_numbers, ai (a 3) cI 48 S_bridges, ai (a 4) cI 48 S_caps, o_Y a Y_islands Y_ways, ai (a 6) cI 24 Y_cellOf, ai (a 8) cI 48 Y_firstOf, ai (a 9) cI 48 Y_secondOf, aj (a 14) cJ 48 Y_crossings, o_U a , ai (a 16) cI 24 U_numbers', ai (a 17) cI 24 U_bridges', ai (a 18) cI 24 U_caps', ai (a 19) cI 24 U_lacks', o_G a , ai (a 21) cI 24 G_leaders', o_R a R_built']) A) args s 0 0 A) (F0 m 81 ls []) := by
    intro y21 y22 y23 y24 y25 y26 y27 y28 hm H locs hP hD hS ls hl
    unfold m_X4_find_j81 at hm
    refine lv_bipush (v := 100) hx hb dX4_find_81 (by decide) ?_
    refine lv_iload_n hx hb dX4_find_83 rfl (lv_at hl 0 rfl) ?_
    refine lv_imul hx hb dX4_find_84 ?_
    refine lv_iload_n hx hb dX4_find_85 rfl (lv_at hl 1 rfl) ?_
    refine lv_iadd hx hb dX4_find_86 ?_
    cases hm
    exact rI () hx hb hr hlk hP hD hS dX4_find_87
  have h54 : ∀ (y9 : Nat → Int32) (y10 : Nat → Int32) (y11 : Nat → Int32) (y12 : Nat → Int32) (y13 : Nat → Int32) (y14 : Int64), ∀ (n : Nat) (y8 : Int32), zl1 (m_X4_find_b54 N S_bridges S_caps Y_islands Y_ways Y_firstOf Y_secondOf Y_crossings y9 y10 y11 y12 y13 y14) n y8 = some (r0, U_numbers', U_bridges', U_caps', U_lacks', G_leaders', R_built') → ∀ (H : Heap) (locs : List Loc), va_P D vwCl [o_S a S_columns S_rows S_grade S_stepsMade, ai (a 2) cI 144 S_numbers, ai (a 3) cI 48 S_bridges, ai (a 4) cI 48 S_caps, o_Y a Y_islands Y_ways, ai (a 6) cI 24 Y_cellOf, ai (a 8) cI 48 Y_firstOf, ai (a 9) cI 48 Y_secondOf, aj (a 14) cJ 48 Y_crossings, o_U a , ai (a 16) cI 24 y9, ai (a 17) cI 24 y10, ai (a 18) cI 24 y11, ai (a 19) cI 24 y12, o_G a , ai (a 21) cI 24 y13, o_R a y14] H → va_D A [o_S a S_columns S_rows S_grade S_stepsMade, ai (a 2) cI 144 S_numbers, ai (a 3) cI 48 S_bridges, ai (a 4) cI 48 S_caps, o_Y a Y_islands Y_ways, ai (a 6) cI 24 Y_cellOf, ai (a 8) cI 48 Y_firstOf, ai (a 9) cI 48 Y_secondOf, aj (a 14) cJ 48 Y_crossings, o_U a , ai (a 16) cI 24 y9, ai (a 17) cI 24 y10, ai (a 18) cI 24 y11, ai (a 19) cI 24 y12, o_G a , ai (a 21) cI 24 y13, o_R a y14] → va_S A s.heap H locs → ∀ ls : Array Slot, lv_has ls 3 [(0, .ref (a 22)), (1, .int y8)] → W p l e { frames := 4, cells := 0, slots := 0, locals := 94 } s m args below meth c H locs 0 0 (MQ below (eQ D (some (.int r0)) (fun _ : Unit => [o_S a S_columns S_rows S_grade S_stepsMade, ai (a 2) cI 144 S_numbers, ai (a 3) cI 48 S_bridges, ai (a 4) cI 48 S_caps, o_Y a Y_islands Y_ways, ai (a 6) cI 24 Y_cellOf, ai (a 8) cI 48 Y_firstOf, ai (a 9) cI 48 Y_secondOf, aj (a 14) cJ 48 Y_crossings, o_U a , ai (a 16) cI 24 U_numbers', ai (a 17) cI 24 U_bridges', ai (a 18) cI 24 U_caps', ai (a 19) cI 24 U_lacks', o_G a , ai (a 21) cI 24 G_leaders', o_R a R_built']) A) args s 0 0 A) (F0 m 54 ls []) := by
    intro y9 y10 y11 y12 y13 y14
    refine zl1_ind (fun rec54 ih54 y8 hm => ?_)
    have h94 : ∀ (y17 : Int32), m_X4_find_j94 rec54 y17 = some (r0, U_numbers', U_bridges', U_caps', U_lacks', G_leaders', R_built') → ∀ (H : Heap) (locs : List Loc), va_P D vwCl [o_S a S_columns S_rows S_grade S_stepsMade, ai (a 2) cI 144 S_numbers, ai (a 3) cI 48 S_bridges, ai (a 4) cI 48 S_caps, o_Y a Y_islands Y_ways, ai (a 6) cI 24 Y_cellOf, ai (a 8) cI 48 Y_firstOf, ai (a 9) cI 48 Y_secondOf, aj (a 14) cJ 48 Y_crossings, o_U a , ai (a 16) cI 24 y9, ai (a 17) cI 24 y10, ai (a 18) cI 24 y11, ai (a 19) cI 24 y12, o_G a , ai (a 21) cI 24 y13, o_R a y14] H → va_D A [o_S a S_columns S_rows S_grade S_stepsMade, ai (a 2) cI 144 S_numbers, ai (a 3) cI 48 S_bridges, ai (a 4) cI 48 S_caps, o_Y a Y_islands Y_ways, ai (a 6) cI 24 Y_cellOf, ai (a 8) cI 48 Y_firstOf, ai (a 9) cI 48 Y_secondOf, aj (a 14) cJ 48 Y_crossings, o_U a , ai (a 16) cI 24 y9, ai (a 17) cI 24 y10, ai (a 18) cI 24 y11, ai (a 19) cI 24 y12, o_G a , ai (a 21) cI 24 y13, o_R a y14] → va_S A s.heap H locs → ∀ ls : Array Slot, lv_has ls 3 [(0, .ref (a 22)), (1, .int y17)] → W p l e { frames := 4, cells := 0, slots := 0, locals := 94 } s m args below meth c H locs 0 0 (MQ below (eQ D (some (.int r0)) (fun _ : Unit => [o_S a S_columns S_rows S_grade S_stepsMade, ai (a 2) cI 144 S_numbers, ai (a 3) cI 48 S_bridges, ai (a 4) cI 48 S_caps, o_Y a Y_islands Y_ways, ai (a 6) cI 24 Y_cellOf, ai (a 8) cI 48 Y_firstOf, ai (a 9) cI 48 Y_secondOf, aj (a 14) cJ 48 Y_crossings, o_U a , ai (a 16) cI 24 U_numbers', ai (a 17) cI 24 U_bridges', ai (a 18) cI 24 U_caps', ai (a 19) cI 24 U_lacks', o_G a , ai (a 21) cI 24 G_leaders', o_R a R_built']) A) args s 0 0 A) (F0 m 94 ls []) := by
      intro y17 hm H locs hP hD hS ls hl
      unfold m_X4_find_j94 at hm
      obtain ⟨v18, ev18, hm⟩ := lt1_inv hm
      refine lv_iinc (v := v18) (lv' := [(1, .int v18), (0, .ref (a 22))]) hx hb dX4_find_94 hl (k := 1) rfl ev18 (by decide) rfl (fun ls hl => ?_)
      refine lv_goto (tgt := 54) hx hb dX4_find_97 (by decide) ?_
      exact ih54 v18 hm _ _ hP hD hS ls (lv_sub hl [1, 0] rfl)
    have h61 : ∀ (y15 : Int32), ∀ (n : Nat) (y16 : Int32), zl1 (m_X4_find_b61 N S_bridges S_caps Y_islands Y_ways Y_firstOf Y_secondOf Y_crossings y9 y10 y11 y12 y13 y14 rec54 y15) n y16 = some (r0, U_numbers', U_bridges', U_caps', U_lacks', G_leaders', R_built') → ∀ (H : Heap) (locs : List Loc), va_P D vwCl [o_S a S_columns S_rows S_grade S_stepsMade, ai (a 2) cI 144 S_numbers, ai (a 3) cI 48 S_bridges, ai (a 4) cI 48 S_caps, o_Y a Y_islands Y_ways, ai (a 6) cI 24 Y_cellOf, ai (a 8) cI 48 Y_firstOf, ai (a 9) cI 48 Y_secondOf, aj (a 14) cJ 48 Y_crossings, o_U a , ai (a 16) cI 24 y9, ai (a 17) cI 24 y10, ai (a 18) cI 24 y11, ai (a 19) cI 24 y12, o_G a , ai (a 21) cI 24 y13, o_R a y14] H → va_D A [o_S a S_columns S_rows S_grade S_stepsMade, ai (a 2) cI 144 S_numbers, ai (a 3) cI 48 S_bridges, ai (a 4) cI 48 S_caps, o_Y a Y_islands Y_ways, ai (a 6) cI 24 Y_cellOf, ai (a 8) cI 48 Y_firstOf, ai (a 9) cI 48 Y_secondOf, aj (a 14) cJ 48 Y_crossings, o_U a , ai (a 16) cI 24 y9, ai (a 17) cI 24 y10, ai (a 18) cI 24 y11, ai (a 19) cI 24 y12, o_G a , ai (a 21) cI 24 y13, o_R a y14] → va_S A s.heap H locs → ∀ ls : Array Slot, lv_has ls 3 [(0, .ref (a 22)), (1, .int y15), (2, .int y16)] → W p l e { frames := 4, cells := 0, slots := 0, locals := 94 } s m args below meth c H locs 0 0 (MQ below (eQ D (some (.int r0)) (fun _ : Unit => [o_S a S_columns S_rows S_grade S_stepsMade, ai (a 2) cI 144 S_numbers, ai (a 3) cI 48 S_bridges, ai (a 4) cI 48 S_caps, o_Y a Y_islands Y_ways, ai (a 6) cI 24 Y_cellOf, ai (a 8) cI 48 Y_firstOf, ai (a 9) cI 48 Y_secondOf, aj (a 14) cJ 48 Y_crossings, o_U a , ai (a 16) cI 24 U_numbers', ai (a 17) cI 24 U_bridges', ai (a 18) cI 24 U_caps', ai (a 19) cI 24 U_lacks', o_G a , ai (a 21) cI 24 G_leaders', o_R a R_built']) A) args s 0 0 A) (F0 m 61 ls []) := by
      intro y15
      refine zl1_ind (fun rec61 ih61 y16 hm => ?_)
      intro H locs hP hD hS ls hl
      unfold m_X4_find_b61 at hm
      refine lv_iload_n hx hb dX4_find_61 rfl (lv_at hl 2 rfl) ?_
      refine lv_aload_n hx hb dX4_find_62 rfl (lv_at hl 0 rfl) ?_
      refine va_get (D := D) (ci := 4) (v := .ref (a 5)) (C := RX4) (T := TX4) (N := 5) hx hb hts hiX4 hown hK.1 hP 16 rfl rfl 1 (by decide) (hts (.fieldLink RX4 15 "IslandBridges$Reasoner" "layout" "LIslandBridges$Layout;") (List.mem_of_getElem? (i := 5) rfl)) (fun _ h9 => h9) rfl dX4_find_63 ?_
      refine va_get (D := D) (ci := 2) (v := .int Y_ways) (C := RX2) (T := TX2) (N := 11) hx hb hts hiX2 hown hK.1 hP 4 rfl rfl 10 (by decide) (hts (.fieldLink RX4 57 "IslandBridges$Layout" "ways" "I") (List.mem_of_getElem? (i := 7) rfl)) (fun _ h9 => h9) rfl dX4_find_66 ?_
      refine lv_icmp_ge (tgt := 94) hx hb dX4_find_69 (by decide) (fun c69 => ?_) (fun c69 => ?_)
      · have hm := ip c69 hm
        exact h94 y15 hm _ _ hP hD hS ls (lv_sub hl [0, 1] rfl)
      · have hm := ine c69 hm
        refine lv_aload_n hx hb dX4_find_72 rfl (lv_at hl 0 rfl) ?_
        refine lv_iload_n hx hb dX4_find_73 rfl (lv_at hl 1 rfl) ?_
        refine lv_iload_n hx hb dX4_find_74 rfl (lv_at hl 2 rfl) ?_
        obtain ⟨v19, h_v19, hm⟩ := bd1_inv hm
        refine cVs ⟨hx, hb, hml, hown, hts⟩ (c_X4_isPossible l D cI cJ cS cB a S_columns S_rows S_grade S_stepsMade S_bridges S_caps Y_islands Y_ways Y_firstOf Y_secondOf Y_crossings y9 y11 y12 y13 y14 y15 y16 N v19 h_v19) (cwV 2 hts gX4_find_X4_isPossible rfl rfl rfl hd_X4_isPossible ⟨(Nat.le_of_ble_eq_true rfl), (Nat.le_of_ble_eq_true rfl)⟩) hK hP hD hS hA [0, 2, 3, 4, 6, 7, 8, 9, 10, 12, 13, 14, 15, 16] rfl rfl rfl hl.1 (Nat.le_of_ble_eq_true rfl) ⟨Nat.zero_le _, Nat.zero_le _⟩ 16 rfl rfl rfl rfl dX4_find_75 (fun H locs hP hD hS => ?_)
        refine lv_if_eq (tgt := 88) hx hb dX4_find_78 (by decide) (fun c78 => ?_) (fun c78 => ?_)
        · have hm := ip c78 hm
          obtain ⟨v20, ev20, hm⟩ := lt1_inv hm
          refine lv_iinc (v := v20) (lv' := [(2, .int v20), (0, .ref (a 22)), (1, .int y15)]) hx hb dX4_find_88 hl (k := 2) rfl ev20 (by decide) rfl (fun ls hl => ?_)
          refine lv_goto (tgt := 61) hx hb dX4_find_91 (by decide) ?_
          exact ih61 v20 hm _ _ hP hD hS ls (lv_sub hl [1, 2, 0] rfl)
        · have hm := ine c78 hm
          exact h81 y15 y16 y9 y10 y11 y12 y13 y14 hm _ _ hP hD hS ls (lv_sub hl [1, 2] rfl)
    intro H locs hP hD hS ls hl
    unfold m_X4_find_b54 at hm
    refine lv_iload_n hx hb dX4_find_54 rfl (lv_at hl 1 rfl) ?_
    refine lv_iconst (v := 4) hx hb dX4_find_55 (by decide) ?_
    refine lv_icmp_gt (tgt := 100) hx hb dX4_find_56 (by decide) (fun c56 => ?_) (fun c56 => ?_)
    · have hm := ip c56 hm
      refine lv_bipush (v := (-4)) hx hb dX4_find_100 (by decide) ?_
      cases hm
      exact rI () hx hb hr hlk hP hD hS dX4_find_102
    · have hm := ine c56 hm
      refine lv_iconst (v := 0) hx hb dX4_find_59 (by decide) ?_
      refine lv_istore_n (lv' := [(2, .int 0), (0, .ref (a 22)), (1, .int y8)]) hx hb dX4_find_60 rfl hl (by decide) rfl (fun ls hl => ?_)
      exact h61 y8 N 0 hm _ _ hP hD hS ls (lv_sub hl [1, 2, 0] rfl)
  refine lv_aload_n hx hb dX4_find_0 rfl (lv_at hl 0 rfl) ?_
  refine va_get (D := D) (ci := 4) (v := .ref (a 15)) (C := RX4) (T := TX4) (N := 5) hx hb hts hiX4 hown hK.1 hP 16 rfl rfl 2 (by decide) (hts (.fieldLink RX4 19 "IslandBridges$Reasoner" "sums" "LIslandBridges$Sums;") (List.mem_of_getElem? (i := 1) rfl)) (fun _ h9 => h9) rfl dX4_find_1 ?_
  obtain ⟨v1, v2, v3, v4, h_v1, hm⟩ := bd4_inv hm
  refine cVx ⟨hx, hb, hml, hown, hts⟩ (c_X7_read l D cI cJ cS cB a S_columns S_rows S_grade S_stepsMade S_numbers S_bridges S_caps Y_islands Y_ways Y_cellOf Y_firstOf Y_secondOf U_numbers U_bridges U_caps U_lacks N v1 v2 v3 v4 h_v1) (cwV 0 hts gX4_find_X7_read rfl rfl rfl hd_X7_read ⟨(Nat.le_of_ble_eq_true rfl), (Nat.le_of_ble_eq_true rfl)⟩) hK hP hD hS hA [0, 1, 2, 3, 4, 5, 6, 7, 9, 10, 11, 12, 13] rfl rfl [o_S a S_columns S_rows S_grade S_stepsMade, ai (a 2) cI 144 S_numbers, ai (a 3) cI 48 S_bridges, ai (a 4) cI 48 S_caps, o_Y a Y_islands Y_ways, ai (a 6) cI 24 Y_cellOf, ai (a 8) cI 48 Y_firstOf, ai (a 9) cI 48 Y_secondOf, aj (a 14) cJ 48 Y_crossings, o_U a , ai (a 16) cI 24 v1, ai (a 17) cI 24 v2, ai (a 18) cI 24 v3, ai (a 19) cI 24 v4, o_G a , ai (a 21) cI 24 G_leaders, o_R a R_built] [(true, 0), (true, 1), (true, 2), (true, 3), (true, 4), (true, 5), (true, 6), (true, 7), (false, 8), (true, 8), (true, 9), (true, 10), (true, 11), (true, 12), (false, 14), (false, 15), (false, 16)] rfl rfl rfl hl.1 (Nat.le_of_ble_eq_true rfl) ⟨Nat.zero_le _, Nat.zero_le _⟩ 9 rfl rfl rfl rfl dX4_find_4 (fun H locs hP hD hS => ?_)
  refine lv_aload_n hx hb dX4_find_7 rfl (lv_at hl 0 rfl) ?_
  refine va_get (D := D) (ci := 4) (v := .ref (a 15)) (C := RX4) (T := TX4) (N := 5) hx hb hts hiX4 hown hK.1 hP 16 rfl rfl 2 (by decide) (hts (.fieldLink RX4 19 "IslandBridges$Reasoner" "sums" "LIslandBridges$Sums;") (List.mem_of_getElem? (i := 1) rfl)) (fun _ h9 => h9) rfl dX4_find_8 ?_
  obtain ⟨v5, h_v5, hm⟩ := bd1_inv hm
  refine cVs ⟨hx, hb, hml, hown, hts⟩ (c_X7_areBroken l D cI cJ cS cB a Y_islands Y_ways v1 v3 v4 N v5 h_v5) (cwV 0 hts gX4_find_X7_areBroken rfl rfl rfl hd_X7_areBroken ⟨(Nat.le_of_ble_eq_true rfl), (Nat.le_of_ble_eq_true rfl)⟩) hK hP hD hS hA [4, 9, 10, 12, 13] rfl rfl rfl hl.1 (Nat.le_of_ble_eq_true rfl) ⟨Nat.zero_le _, Nat.zero_le _⟩ 9 rfl rfl rfl rfl dX4_find_11 (fun H locs hP hD hS => ?_)
  refine lv_if_eq (tgt := 20) hx hb dX4_find_14 (by decide) (fun c14 => ?_) (fun c14 => ?_)
  · have hm := ip c14 hm
    refine lv_aload_n hx hb dX4_find_20 rfl (lv_at hl 0 rfl) ?_
    refine va_get (D := D) (ci := 4) (v := .ref (a 20)) (C := RX4) (T := TX4) (N := 5) hx hb hts hiX4 hown hK.1 hP 16 rfl rfl 3 (by decide) (hts (.fieldLink RX4 23 "IslandBridges$Reasoner" "groups" "LIslandBridges$Groups;") (List.mem_of_getElem? (i := 2) rfl)) (fun _ h9 => h9) rfl dX4_find_21 ?_
    refine lv_aload_n hx hb dX4_find_24 rfl (lv_at hl 0 rfl) ?_
    refine va_get (D := D) (ci := 4) (v := .ref (a 1)) (C := RX4) (T := TX4) (N := 5) hx hb hts hiX4 hown hK.1 hP 16 rfl rfl 0 (by decide) (hts (.fieldLink RX4 9 "IslandBridges$Reasoner" "state" "LIslandBridges$State;") (List.mem_of_getElem? (i := 3) rfl)) (fun _ h9 => h9) rfl dX4_find_25 ?_
    refine va_get (D := D) (ci := 6) (v := .ref (a 3)) (C := RX6) (T := TX6) (N := 7) hx hb hts hiX6 hown hK.1 hP 0 rfl rfl 1 (by decide) (hts (.fieldLink RX4 36 "IslandBridges$State" "bridges" "[I") (List.mem_of_getElem? (i := 4) rfl)) (fun _ h9 => h9) rfl dX4_find_28 ?_
    obtain ⟨v6, h_v6, hm⟩ := bd1_inv hm
    refine cVx ⟨hx, hb, hml, hown, hts⟩ (c_X0_read l D cI cJ cS cB a (a 3) Y_islands Y_ways Y_firstOf Y_secondOf G_leaders S_bridges N v6 h_v6) (cwV 1 hts gX4_find_X0_read rfl rfl rfl hd_X0_read ⟨(Nat.le_of_ble_eq_true rfl), (Nat.le_of_ble_eq_true rfl)⟩) hK hP hD hS hA [4, 6, 7, 14, 15, 2] rfl rfl [o_S a S_columns S_rows S_grade S_stepsMade, ai (a 2) cI 144 S_numbers, ai (a 3) cI 48 S_bridges, ai (a 4) cI 48 S_caps, o_Y a Y_islands Y_ways, ai (a 6) cI 24 Y_cellOf, ai (a 8) cI 48 Y_firstOf, ai (a 9) cI 48 Y_secondOf, aj (a 14) cJ 48 Y_crossings, o_U a , ai (a 16) cI 24 v1, ai (a 17) cI 24 v2, ai (a 18) cI 24 v3, ai (a 19) cI 24 v4, o_G a , ai (a 21) cI 24 v6, o_R a R_built] [(false, 0), (false, 1), (true, 5), (false, 3), (true, 0), (false, 5), (true, 1), (true, 2), (false, 8), (false, 9), (false, 10), (false, 11), (false, 12), (false, 13), (true, 3), (true, 4), (false, 16)] rfl rfl rfl hl.1 (Nat.le_of_ble_eq_true rfl) ⟨Nat.zero_le _, Nat.zero_le _⟩ 14 rfl rfl rfl rfl dX4_find_31 (fun H locs hP hD hS => ?_)
    refine lv_aload_n hx hb dX4_find_34 rfl (lv_at hl 0 rfl) ?_
    refine lv_aload_n hx hb dX4_find_35 rfl (lv_at hl 0 rfl) ?_
    refine va_get (D := D) (ci := 4) (v := .ref (a 5)) (C := RX4) (T := TX4) (N := 5) hx hb hts hiX4 hown hK.1 hP 16 rfl rfl 1 (by decide) (hts (.fieldLink RX4 15 "IslandBridges$Reasoner" "layout" "LIslandBridges$Layout;") (List.mem_of_getElem? (i := 5) rfl)) (fun _ h9 => h9) rfl dX4_find_36 ?_
    refine lv_aload_n hx hb dX4_find_39 rfl (lv_at hl 0 rfl) ?_
    refine va_get (D := D) (ci := 4) (v := .ref (a 1)) (C := RX4) (T := TX4) (N := 5) hx hb hts hiX4 hown hK.1 hP 16 rfl rfl 0 (by decide) (hts (.fieldLink RX4 9 "IslandBridges$Reasoner" "state" "LIslandBridges$State;") (List.mem_of_getElem? (i := 3) rfl)) (fun _ h9 => h9) rfl dX4_find_40 ?_
    refine va_get (D := D) (ci := 6) (v := .ref (a 3)) (C := RX6) (T := TX6) (N := 7) hx hb hts hiX6 hown hK.1 hP 0 rfl rfl 1 (by decide) (hts (.fieldLink RX4 36 "IslandBridges$State" "bridges" "[I") (List.mem_of_getElem? (i := 4) rfl)) (fun _ h9 => h9) rfl dX4_find_43 ?_
    obtain ⟨v7, h_v7, hm⟩ := bd1_inv hm
    refine cVs ⟨hx, hb, hml, hown, hts⟩ (c_X2_waysWith l D cI cJ cS cB a (a 3) Y_islands Y_ways S_bridges N v7 h_v7) (cwV 1 hts gX4_find_X2_waysWith rfl rfl rfl hd_X2_waysWith ⟨(Nat.le_of_ble_eq_true rfl), (Nat.le_of_ble_eq_true rfl)⟩) hK hP hD hS hA [4, 2] rfl rfl rfl hl.1 (Nat.le_of_ble_eq_true rfl) ⟨Nat.zero_le _, Nat.zero_le _⟩ 4 rfl rfl rfl rfl dX4_find_46 (fun H locs hP hD hS => ?_)
    refine va_put (D := D) (ci := 4) (v := .long v7) (ty := .long) (C := RX4) (T := TX4) (N := 5) hx hb hts hiX4 tyX4 tyX4_ok nmX4 hown hK.1 hP hD hS 16 rfl rfl 4 (by decide) (hts (.fieldLink RX4 53 "IslandBridges$Reasoner" "built" "J") (List.mem_of_getElem? (i := 6) rfl)) (fun _ h9 => h9) rfl (by decide +kernel) rfl rfl (Nat.le_of_ble_eq_true rfl) dX4_find_49 (fun H locs hP hD hS => ?_)
    have hP : va_P D vwCl [o_S a S_columns S_rows S_grade S_stepsMade, ai (a 2) cI 144 S_numbers, ai (a 3) cI 48 S_bridges, ai (a 4) cI 48 S_caps, o_Y a Y_islands Y_ways, ai (a 6) cI 24 Y_cellOf, ai (a 8) cI 48 Y_firstOf, ai (a 9) cI 48 Y_secondOf, aj (a 14) cJ 48 Y_crossings, o_U a , ai (a 16) cI 24 v1, ai (a 17) cI 24 v2, ai (a 18) cI 24 v3, ai (a 19) cI 24 v4, o_G a , ai (a 21) cI 24 v6, o_R a v7] H := hP
    have hD : va_D A [o_S a S_columns S_rows S_grade S_stepsMade, ai (a 2) cI 144 S_numbers, ai (a 3) cI 48 S_bridges, ai (a 4) cI 48 S_caps, o_Y a Y_islands Y_ways, ai (a 6) cI 24 Y_cellOf, ai (a 8) cI 48 Y_firstOf, ai (a 9) cI 48 Y_secondOf, aj (a 14) cJ 48 Y_crossings, o_U a , ai (a 16) cI 24 v1, ai (a 17) cI 24 v2, ai (a 18) cI 24 v3, ai (a 19) cI 24 v4, o_G a , ai (a 21) cI 24 v6, o_R a v7] := hD
    refine lv_iconst (v := 1) hx hb dX4_find_52 (by decide) ?_
    refine lv_istore_n (lv' := [(1, .int 1), (0, .ref (a 22))]) hx hb dX4_find_53 rfl hl (by decide) rfl (fun ls hl => ?_)
    exact h54 v1 v2 v3 v4 v6 v7 N 1 hm _ _ hP hD hS ls (lv_sub hl [1, 0] rfl)
  · have hm := ine c14 hm
    refine lv_bipush (v := (-2)) hx hb dX4_find_17 (by decide) ?_
    cases hm
    exact rI () hx hb hr hlk hP hD hS dX4_find_19
theorem hd_X4_carryOut : yX4_carryOut.cls = RX4 ∧ yX4_carryOut.cls ≠ "java/lang/invoke/MethodHandle" ∧ yX4_carryOut.cls ≠ "java/lang/invoke/VarHandle" ∧ (parseMethodDescriptor yX4_carryOut.desc).map (fun d => d.parameters.length) = some 1 := by decide +kernel
def m_X4_carryOut_j119 (y4 : Int32) (y5 : Int32) (y6 : Int32) (y7 : Nat → Int32) (y8 : Nat → Int32) : Int32 × Int32 × (Nat → Int32) × (Nat → Int32) :=
  lt1 (mxI y5 y4) (fun v9 => lt1 (y6 + 1) (fun v10 => (v9, v10, y7, y8)))
def m_X4_carryOut (S_grade : Int32) (S_stepsMade : Int32) (S_bridges : Nat → Int32) (S_caps : Nat → Int32) (Y_firstOf : Nat → Int32) (Y_secondOf : Nat → Int32) (U_numbers : Nat → Int32) (U_caps : Nat → Int32) (U_lacks : Nat → Int32) (x1 : Int32) : Int32 × Int32 × (Nat → Int32) × (Nat → Int32) :=
  lt1 (x1 / 100) (fun v1 => lt1 (x1 - x1 / 100 * 100) (fun v2 => if v1 = 1 then (lt1 (vPut 48 S_caps v2 0) (fun v3 => m_X4_carryOut_j119 v1 S_grade S_stepsMade S_bridges v3)) else (if v1 = 2 then (lt1 (vAt 48 S_bridges v2) (fun v11 => lt1 (m_X7_lesserLack Y_firstOf Y_secondOf U_lacks v2) (fun v12 => lt1 (vPut 48 S_caps v2 (v11 + v12)) (fun v13 => m_X4_carryOut_j119 v1 S_grade S_stepsMade S_bridges v13)))) else (if v1 = 3 then (lt1 (m_X7_leastBridges S_caps Y_firstOf Y_secondOf U_numbers U_caps v2) (fun v14 => lt1 (vPut 48 S_bridges v2 v14) (fun v15 => m_X4_carryOut_j119 v1 S_grade S_stepsMade v15 S_caps))) else (lt1 (vAdd 48 S_caps v2 ((-1))) (fun v16 => m_X4_carryOut_j119 v1 S_grade S_stepsMade S_bridges v16))))))
set_option maxHeartbeats 4000000 in
set_option maxRecDepth 100000 in
theorem c_X4_carryOut (l : Launch) (D : va_G) (cI cJ cS cB : ClassId) (a : Nat → Nat) (S_columns : Int32) (S_rows : Int32) (S_grade : Int32) (S_stepsMade : Int32) (S_bridges : Nat → Int32) (S_caps : Nat → Int32) (Y_islands : Int32) (Y_ways : Int32) (Y_firstOf : Nat → Int32) (Y_secondOf : Nat → Int32) (U_numbers : Nat → Int32) (U_caps : Nat → Int32) (U_lacks : Nat → Int32) (R_built : Int64) (x1 : Int32) (S_grade' : Int32) (S_stepsMade' : Int32) (S_bridges' : Nat → Int32) (S_caps' : Nat → Int32) (hm : m_X4_carryOut S_grade S_stepsMade S_bridges S_caps Y_firstOf Y_secondOf U_numbers U_caps U_lacks x1 = (S_grade', S_stepsMade', S_bridges', S_caps')) :
    mU l D (TYs cI cJ cS cB) yX4_carryOut wsX4_carryOut { frames := 3, cells := 0, slots := 0, locals := 64 } [.ref (a 22), .int x1] [o_S a S_columns S_rows S_grade S_stepsMade, ai (a 3) cI 48 S_bridges, ai (a 4) cI 48 S_caps, o_Y a Y_islands Y_ways, ai (a 8) cI 48 Y_firstOf, ai (a 9) cI 48 Y_secondOf, o_U a , ai (a 16) cI 24 U_numbers, ai (a 18) cI 24 U_caps, ai (a 19) cI 24 U_lacks, o_R a R_built] [o_S a S_columns S_rows S_grade' S_stepsMade', ai (a 3) cI 48 S_bridges', ai (a 4) cI 48 S_caps', o_Y a Y_islands Y_ways, ai (a 8) cI 48 Y_firstOf, ai (a 9) cI 48 Y_secondOf, o_U a , ai (a 16) cI 24 U_numbers, ai (a 18) cI 24 U_caps, ai (a 19) cI 24 U_lacks, o_R a R_built] none := by
  refine mG_of (cc := cX4_carryOut) (maxL := 4) (ret := none) (by decide) rfl rfl (Nat.le_of_ble_eq_true rfl) ?_
  intro p e s m args below meth c A hx hb hr hml hlk hnm hts hown hK hP hD hA hS ls hl
  have hl : lv_has ls 4 [(0, .ref (a 22)), (1, .int x1)] := hl
  have hiX2 : ∀ w ∈ wsX20, w ∈ wsX4_carryOut := fun w h => List.mem_cons_of_mem _ (List.mem_append_right _ h)
  have hiX4 : ∀ w ∈ wsX40, w ∈ wsX4_carryOut := fun w h => List.mem_cons_of_mem _ (List.mem_append_left _ (List.mem_append_left _ (List.mem_append_left _ (List.mem_append_right _ h))))
  have hiX6 : ∀ w ∈ wsX60, w ∈ wsX4_carryOut := fun w h => List.mem_cons_of_mem _ (List.mem_append_left _ (List.mem_append_left _ (List.mem_append_right _ h)))
  have hiX7 : ∀ w ∈ wsX70, w ∈ wsX4_carryOut := fun w h => List.mem_cons_of_mem _ (List.mem_append_left _ (List.mem_append_right _ h))
  unfold m_X4_carryOut at hm
  have h119 : ∀ (y4 : Int32) (y5 : Int32) (y6 : Int32) (y7 : Nat → Int32) (y8 : Nat → Int32), m_X4_carryOut_j119 y4 y5 y6 y7 y8 = (S_grade', S_stepsMade', S_bridges', S_caps') → ∀ (H : Heap) (locs : List Loc), va_P D vwCl [o_S a S_columns S_rows y5 y6, ai (a 3) cI 48 y7, ai (a 4) cI 48 y8, o_Y a Y_islands Y_ways, ai (a 8) cI 48 Y_firstOf, ai (a 9) cI 48 Y_secondOf, o_U a , ai (a 16) cI 24 U_numbers, ai (a 18) cI 24 U_caps, ai (a 19) cI 24 U_lacks, o_R a R_built] H → va_D A [o_S a S_columns S_rows y5 y6, ai (a 3) cI 48 y7, ai (a 4) cI 48 y8, o_Y a Y_islands Y_ways, ai (a 8) cI 48 Y_firstOf, ai (a 9) cI 48 Y_secondOf, o_U a , ai (a 16) cI 24 U_numbers, ai (a 18) cI 24 U_caps, ai (a 19) cI 24 U_lacks, o_R a R_built] → va_S A s.heap H locs → ∀ ls : Array Slot, lv_has ls 4 [(0, .ref (a 22)), (2, .int y4)] → W p l e { frames := 3, cells := 0, slots := 0, locals := 64 } s m args below meth c H locs 0 0 (MQ below (eQ D none (fun _ : Unit => [o_S a S_columns S_rows S_grade' S_stepsMade', ai (a 3) cI 48 S_bridges', ai (a 4) cI 48 S_caps', o_Y a Y_islands Y_ways, ai (a 8) cI 48 Y_firstOf, ai (a 9) cI 48 Y_secondOf, o_U a , ai (a 16) cI 24 U_numbers, ai (a 18) cI 24 U_caps, ai (a 19) cI 24 U_lacks, o_R a R_built]) A) args s 0 0 A) (F0 m 119 ls []) := by
    intro y4 y5 y6 y7 y8 hm H locs hP hD hS ls hl
    unfold m_X4_carryOut_j119 at hm
    refine lv_aload_n hx hb dX4_carryOut_119 rfl (lv_at hl 0 rfl) ?_
    refine va_get (D := D) (ci := 4) (v := .ref (a 1)) (C := RX4) (T := TX4) (N := 5) hx hb hts hiX4 hown hK.1 hP 10 rfl rfl 0 (by decide) (hts (.fieldLink RX4 9 "IslandBridges$Reasoner" "state" "LIslandBridges$State;") (List.mem_of_getElem? (i := 1) rfl)) (fun _ h9 => h9) rfl dX4_carryOut_120 ?_
    refine lv_aload_n hx hb dX4_carryOut_123 rfl (lv_at hl 0 rfl) ?_
    refine va_get (D := D) (ci := 4) (v := .ref (a 1)) (C := RX4) (T := TX4) (N := 5) hx hb hts hiX4 hown hK.1 hP 10 rfl rfl 0 (by decide) (hts (.fieldLink RX4 9 "IslandBridges$Reasoner" "state" "LIslandBridges$State;") (List.mem_of_getElem? (i := 1) rfl)) (fun _ h9 => h9) rfl dX4_carryOut_124 ?_
    refine va_get (D := D) (ci := 6) (v := .int y5) (C := RX6) (T := TX6) (N := 7) hx hb hts hiX6 hown hK.1 hP 0 rfl rfl 5 (by decide) (hts (.fieldLink RX4 86 "IslandBridges$State" "grade" "I") (List.mem_of_getElem? (i := 5) rfl)) (fun _ h9 => h9) rfl dX4_carryOut_127 ?_
    refine lv_iload_n hx hb dX4_carryOut_130 rfl (lv_at hl 1 rfl) ?_
    obtain ⟨v9, ev9, hm⟩ := lt1_inv hm
    refine va_mmax hx hb (hml.trans hl.1.symm) hown (hts (.methodLink RX4 89 Lib.Math.max.name) (List.mem_of_getElem? (i := 6) rfl)) (hts (.static Lib.Math.max.name) (List.mem_of_getElem? (i := 7) rfl)) (hts (.initialized "java/lang/Math") (List.mem_of_getElem? (i := 8) rfl)) (hts (.code Lib.Math.max.name Lib.Math.max.code 2 (some .int)) (List.mem_of_getElem? (i := 9) rfl)) (Nat.le_of_ble_eq_true rfl) (Nat.le_of_ble_eq_true rfl) (Nat.zero_le _) (Nat.zero_le _) dX4_carryOut_131 ?_
    refine ltop ev9 ?_
    refine va_put (D := D) (ci := 6) (v := .int v9) (ty := .int) (C := RX6) (T := TX6) (N := 7) hx hb hts hiX6 tyX6 tyX6_ok nmX6 hown hK.1 hP hD hS 0 rfl rfl 5 (by decide) (hts (.fieldLink RX4 86 "IslandBridges$State" "grade" "I") (List.mem_of_getElem? (i := 5) rfl)) (fun _ h9 => h9) rfl (by decide +kernel) rfl rfl (Nat.le_of_ble_eq_true rfl) dX4_carryOut_134 (fun H locs hP hD hS => ?_)
    have hP : va_P D vwCl [o_S a S_columns S_rows v9 y6, ai (a 3) cI 48 y7, ai (a 4) cI 48 y8, o_Y a Y_islands Y_ways, ai (a 8) cI 48 Y_firstOf, ai (a 9) cI 48 Y_secondOf, o_U a , ai (a 16) cI 24 U_numbers, ai (a 18) cI 24 U_caps, ai (a 19) cI 24 U_lacks, o_R a R_built] H := hP
    have hD : va_D A [o_S a S_columns S_rows v9 y6, ai (a 3) cI 48 y7, ai (a 4) cI 48 y8, o_Y a Y_islands Y_ways, ai (a 8) cI 48 Y_firstOf, ai (a 9) cI 48 Y_secondOf, o_U a , ai (a 16) cI 24 U_numbers, ai (a 18) cI 24 U_caps, ai (a 19) cI 24 U_lacks, o_R a R_built] := hD
    refine lv_aload_n hx hb dX4_carryOut_137 rfl (lv_at hl 0 rfl) ?_
    refine va_get (D := D) (ci := 4) (v := .ref (a 1)) (C := RX4) (T := TX4) (N := 5) hx hb hts hiX4 hown hK.1 hP 10 rfl rfl 0 (by decide) (hts (.fieldLink RX4 9 "IslandBridges$Reasoner" "state" "LIslandBridges$State;") (List.mem_of_getElem? (i := 1) rfl)) (fun _ h9 => h9) rfl dX4_carryOut_138 ?_
    refine lv_dup hx hb dX4_carryOut_141 rfl ?_
    refine va_get (D := D) (ci := 6) (v := .int y6) (C := RX6) (T := TX6) (N := 7) hx hb hts hiX6 hown hK.1 hP 0 rfl rfl 6 (by decide) (hts (.fieldLink RX4 95 "IslandBridges$State" "stepsMade" "I") (List.mem_of_getElem? (i := 10) rfl)) (fun _ h9 => h9) rfl dX4_carryOut_142 ?_
    refine lv_iconst (v := 1) hx hb dX4_carryOut_145 (by decide) ?_
    refine lv_iadd hx hb dX4_carryOut_146 ?_
    obtain ⟨v10, ev10, hm⟩ := lt1_inv hm
    refine ltop ev10 ?_
    refine va_put (D := D) (ci := 6) (v := .int v10) (ty := .int) (C := RX6) (T := TX6) (N := 7) hx hb hts hiX6 tyX6 tyX6_ok nmX6 hown hK.1 hP hD hS 0 rfl rfl 6 (by decide) (hts (.fieldLink RX4 95 "IslandBridges$State" "stepsMade" "I") (List.mem_of_getElem? (i := 10) rfl)) (fun _ h9 => h9) rfl (by decide +kernel) rfl rfl (Nat.le_of_ble_eq_true rfl) dX4_carryOut_147 (fun H locs hP hD hS => ?_)
    have hP : va_P D vwCl [o_S a S_columns S_rows v9 v10, ai (a 3) cI 48 y7, ai (a 4) cI 48 y8, o_Y a Y_islands Y_ways, ai (a 8) cI 48 Y_firstOf, ai (a 9) cI 48 Y_secondOf, o_U a , ai (a 16) cI 24 U_numbers, ai (a 18) cI 24 U_caps, ai (a 19) cI 24 U_lacks, o_R a R_built] H := hP
    have hD : va_D A [o_S a S_columns S_rows v9 v10, ai (a 3) cI 48 y7, ai (a 4) cI 48 y8, o_Y a Y_islands Y_ways, ai (a 8) cI 48 Y_firstOf, ai (a 9) cI 48 Y_secondOf, o_U a , ai (a 16) cI 24 U_numbers, ai (a 18) cI 24 U_caps, ai (a 19) cI 24 U_lacks, o_R a R_built] := hD
    cases hm
    exact rV () hx hb hr hlk hP hD hS dX4_carryOut_150
  refine lv_iload_n hx hb dX4_carryOut_0 rfl (lv_at hl 1 rfl) ?_
  refine lv_bipush (v := 100) hx hb dX4_carryOut_1 (by decide) ?_
  refine lv_idiv hx hb dX4_carryOut_3 (by decide) ?_
  obtain ⟨v1, ev1, hm⟩ := lt1_inv hm
  refine ltop ev1 ?_
  refine lv_istore_n (lv' := [(2, .int v1), (0, .ref (a 22)), (1, .int x1)]) hx hb dX4_carryOut_4 rfl hl (by decide) rfl (fun ls hl => ?_)
  refine lv_iload_n hx hb dX4_carryOut_5 rfl (lv_at hl 2 rfl) ?_
  refine lv_bipush (v := 100) hx hb dX4_carryOut_6 (by decide) ?_
  refine lv_irem hx hb dX4_carryOut_8 (by decide) ?_
  obtain ⟨v2, ev2, hm⟩ := lt1_inv hm
  refine ltop ev2 ?_
  refine lv_istore_n (lv' := [(3, .int v2), (2, .int v1), (0, .ref (a 22)), (1, .int x1)]) hx hb dX4_carryOut_9 rfl hl (by decide) rfl (fun ls hl => ?_)
  refine lv_iload_n hx hb dX4_carryOut_10 rfl (lv_at hl 1 rfl) ?_
  by_cases q11_1 : v1 = 1
  · have hm := ip q11_1 hm
    refine lv_tableIn (off := 25) (tgt := 36) hx hb dX4_carryOut_11 (by rw [q11_1]; decide) (by rw [q11_1]; decide) (by rw [q11_1]; rfl) (by decide) ?_
    refine lv_aload_n hx hb dX4_carryOut_36 rfl (lv_at hl 2 rfl) ?_
    refine va_get (D := D) (ci := 4) (v := .ref (a 1)) (C := RX4) (T := TX4) (N := 5) hx hb hts hiX4 hown hK.1 hP 10 rfl rfl 0 (by decide) (hts (.fieldLink RX4 9 "IslandBridges$Reasoner" "state" "LIslandBridges$State;") (List.mem_of_getElem? (i := 1) rfl)) (fun _ h9 => h9) rfl dX4_carryOut_37 ?_
    refine va_get (D := D) (ci := 6) (v := .ref (a 4)) (C := RX6) (T := TX6) (N := 7) hx hb hts hiX6 hown hK.1 hP 0 rfl rfl 2 (by decide) (hts (.fieldLink RX4 65 "IslandBridges$State" "caps" "[I") (List.mem_of_getElem? (i := 2) rfl)) (fun _ h9 => h9) rfl dX4_carryOut_40 ?_
    refine lv_iload_n hx hb dX4_carryOut_43 rfl (lv_at hl 0 rfl) ?_
    refine lv_iconst (v := 0) hx hb dX4_carryOut_44 (by decide) ?_
    obtain ⟨v3, ev3, hm⟩ := lt1_inv hm
    refine cNx ⟨hx, hb, hml, hown, hts⟩ (c_X9_put l D cI cJ cS cB (a 4) 48 (Nat.le_of_ble_eq_true rfl) S_caps v2 0 v3 ev3) ⟨va_cnB 3 hts gX4_carryOut_X9_put_n68 rfl rfl rfl (kn_13 hK) (hts (.initialized RX9) (List.mem_of_getElem? (i := 12) rfl)) hd_X9_put ⟨(Nat.le_of_ble_eq_true rfl), (Nat.le_of_ble_eq_true rfl)⟩, (hts (.static yX9_put) (List.mem_of_getElem? (i := 11) rfl)), trivial⟩ hK hP hD hS hA [2] rfl rfl [o_S a S_columns S_rows S_grade S_stepsMade, ai (a 3) cI 48 S_bridges, ai (a 4) cI 48 v3, o_Y a Y_islands Y_ways, ai (a 8) cI 48 Y_firstOf, ai (a 9) cI 48 Y_secondOf, o_U a , ai (a 16) cI 24 U_numbers, ai (a 18) cI 24 U_caps, ai (a 19) cI 24 U_lacks, o_R a R_built] [(false, 0), (false, 1), (true, 0), (false, 3), (false, 4), (false, 5), (false, 6), (false, 7), (false, 8), (false, 9), (false, 10)] rfl rfl rfl hl.1 (Nat.le_of_ble_eq_true rfl) ⟨Nat.zero_le _, Nat.zero_le _⟩ rfl dX4_carryOut_45 (fun H locs hP hD hS => ?_)
    refine lv_goto (tgt := 119) hx hb dX4_carryOut_48 (by decide) ?_
    exact h119 v1 S_grade S_stepsMade S_bridges v3 hm _ _ hP hD hS ls (lv_sub hl [2, 1] rfl)
  have hm := ine q11_1 hm
  by_cases q11_2 : v1 = 2
  · have hm := ip q11_2 hm
    refine lv_tableIn (off := 40) (tgt := 51) hx hb dX4_carryOut_11 (by rw [q11_2]; decide) (by rw [q11_2]; decide) (by rw [q11_2]; rfl) (by decide) ?_
    refine lv_aload_n hx hb dX4_carryOut_51 rfl (lv_at hl 2 rfl) ?_
    refine va_get (D := D) (ci := 4) (v := .ref (a 1)) (C := RX4) (T := TX4) (N := 5) hx hb hts hiX4 hown hK.1 hP 10 rfl rfl 0 (by decide) (hts (.fieldLink RX4 9 "IslandBridges$Reasoner" "state" "LIslandBridges$State;") (List.mem_of_getElem? (i := 1) rfl)) (fun _ h9 => h9) rfl dX4_carryOut_52 ?_
    refine va_get (D := D) (ci := 6) (v := .ref (a 4)) (C := RX6) (T := TX6) (N := 7) hx hb hts hiX6 hown hK.1 hP 0 rfl rfl 2 (by decide) (hts (.fieldLink RX4 65 "IslandBridges$State" "caps" "[I") (List.mem_of_getElem? (i := 2) rfl)) (fun _ h9 => h9) rfl dX4_carryOut_55 ?_
    refine lv_iload_n hx hb dX4_carryOut_58 rfl (lv_at hl 0 rfl) ?_
    refine lv_aload_n hx hb dX4_carryOut_59 rfl (lv_at hl 2 rfl) ?_
    refine va_get (D := D) (ci := 4) (v := .ref (a 1)) (C := RX4) (T := TX4) (N := 5) hx hb hts hiX4 hown hK.1 hP 10 rfl rfl 0 (by decide) (hts (.fieldLink RX4 9 "IslandBridges$Reasoner" "state" "LIslandBridges$State;") (List.mem_of_getElem? (i := 1) rfl)) (fun _ h9 => h9) rfl dX4_carryOut_60 ?_
    refine va_get (D := D) (ci := 6) (v := .ref (a 3)) (C := RX6) (T := TX6) (N := 7) hx hb hts hiX6 hown hK.1 hP 0 rfl rfl 1 (by decide) (hts (.fieldLink RX4 36 "IslandBridges$State" "bridges" "[I") (List.mem_of_getElem? (i := 3) rfl)) (fun _ h9 => h9) rfl dX4_carryOut_63 ?_
    refine lv_iload_n hx hb dX4_carryOut_66 rfl (lv_at hl 0 rfl) ?_
    obtain ⟨v11, ev11, hm⟩ := lt1_inv hm
    refine cNs ⟨hx, hb, hml, hown, hts⟩ (c_X9_valueAt l D cI cJ cS cB (a 3) 48 (Nat.le_of_ble_eq_true rfl) S_bridges v2 v11 ev11) ⟨va_cnB 2 hts gX4_carryOut_X9_valueAt_n72 rfl rfl rfl (kn_12 hK) (hts (.initialized RX9) (List.mem_of_getElem? (i := 12) rfl)) hd_X9_valueAt ⟨(Nat.le_of_ble_eq_true rfl), (Nat.le_of_ble_eq_true rfl)⟩, (hts (.static yX9_valueAt) (List.mem_of_getElem? (i := 14) rfl)), trivial⟩ hK hP hD hS hA [1] rfl rfl rfl hl.1 (Nat.le_of_ble_eq_true rfl) ⟨Nat.zero_le _, Nat.zero_le _⟩ rfl dX4_carryOut_67 (fun H locs hP hD hS => ?_)
    refine lv_aload_n hx hb dX4_carryOut_70 rfl (lv_at hl 2 rfl) ?_
    refine va_get (D := D) (ci := 4) (v := .ref (a 15)) (C := RX4) (T := TX4) (N := 5) hx hb hts hiX4 hown hK.1 hP 10 rfl rfl 2 (by decide) (hts (.fieldLink RX4 19 "IslandBridges$Reasoner" "sums" "LIslandBridges$Sums;") (List.mem_of_getElem? (i := 4) rfl)) (fun _ h9 => h9) rfl dX4_carryOut_71 ?_
    refine lv_iload_n hx hb dX4_carryOut_74 rfl (lv_at hl 0 rfl) ?_
    obtain ⟨v12, h_v12, hm⟩ := lt1_inv hm
    refine cVs ⟨hx, hb, hml, hown, hts⟩ (c_X7_lesserLack l D cI cJ cS cB a Y_islands Y_ways Y_firstOf Y_secondOf U_lacks v2 v12 h_v12) (cwV 1 hts gX4_carryOut_X7_lesserLack rfl rfl rfl hd_X7_lesserLack ⟨(Nat.le_of_ble_eq_true rfl), (Nat.le_of_ble_eq_true rfl)⟩) hK hP hD hS hA [3, 4, 5, 6, 9] rfl rfl rfl hl.1 (Nat.le_of_ble_eq_true rfl) ⟨Nat.zero_le _, Nat.zero_le _⟩ 6 rfl rfl rfl rfl dX4_carryOut_75 (fun H locs hP hD hS => ?_)
    refine lv_iadd hx hb dX4_carryOut_78 ?_
    obtain ⟨v13, ev13, hm⟩ := lt1_inv hm
    refine cNx ⟨hx, hb, hml, hown, hts⟩ (c_X9_put l D cI cJ cS cB (a 4) 48 (Nat.le_of_ble_eq_true rfl) S_caps v2 (v11 + v12) v13 ev13) ⟨va_cnB 3 hts gX4_carryOut_X9_put_n68 rfl rfl rfl (kn_13 hK) (hts (.initialized RX9) (List.mem_of_getElem? (i := 12) rfl)) hd_X9_put ⟨(Nat.le_of_ble_eq_true rfl), (Nat.le_of_ble_eq_true rfl)⟩, (hts (.static yX9_put) (List.mem_of_getElem? (i := 11) rfl)), trivial⟩ hK hP hD hS hA [2] rfl rfl [o_S a S_columns S_rows S_grade S_stepsMade, ai (a 3) cI 48 S_bridges, ai (a 4) cI 48 v13, o_Y a Y_islands Y_ways, ai (a 8) cI 48 Y_firstOf, ai (a 9) cI 48 Y_secondOf, o_U a , ai (a 16) cI 24 U_numbers, ai (a 18) cI 24 U_caps, ai (a 19) cI 24 U_lacks, o_R a R_built] [(false, 0), (false, 1), (true, 0), (false, 3), (false, 4), (false, 5), (false, 6), (false, 7), (false, 8), (false, 9), (false, 10)] rfl rfl rfl hl.1 (Nat.le_of_ble_eq_true rfl) ⟨Nat.zero_le _, Nat.zero_le _⟩ rfl dX4_carryOut_79 (fun H locs hP hD hS => ?_)
    refine lv_goto (tgt := 119) hx hb dX4_carryOut_82 (by decide) ?_
    exact h119 v1 S_grade S_stepsMade S_bridges v13 hm _ _ hP hD hS ls (lv_sub hl [2, 1] rfl)
  have hm := ine q11_2 hm
  by_cases q11_3 : v1 = 3
  · have hm := ip q11_3 hm
    refine lv_tableIn (off := 74) (tgt := 85) hx hb dX4_carryOut_11 (by rw [q11_3]; decide) (by rw [q11_3]; decide) (by rw [q11_3]; rfl) (by decide) ?_
    refine lv_aload_n hx hb dX4_carryOut_85 rfl (lv_at hl 2 rfl) ?_
    refine va_get (D := D) (ci := 4) (v := .ref (a 1)) (C := RX4) (T := TX4) (N := 5) hx hb hts hiX4 hown hK.1 hP 10 rfl rfl 0 (by decide) (hts (.fieldLink RX4 9 "IslandBridges$Reasoner" "state" "LIslandBridges$State;") (List.mem_of_getElem? (i := 1) rfl)) (fun _ h9 => h9) rfl dX4_carryOut_86 ?_
    refine va_get (D := D) (ci := 6) (v := .ref (a 3)) (C := RX6) (T := TX6) (N := 7) hx hb hts hiX6 hown hK.1 hP 0 rfl rfl 1 (by decide) (hts (.fieldLink RX4 36 "IslandBridges$State" "bridges" "[I") (List.mem_of_getElem? (i := 3) rfl)) (fun _ h9 => h9) rfl dX4_carryOut_89 ?_
    refine lv_iload_n hx hb dX4_carryOut_92 rfl (lv_at hl 0 rfl) ?_
    refine lv_aload_n hx hb dX4_carryOut_93 rfl (lv_at hl 2 rfl) ?_
    refine va_get (D := D) (ci := 4) (v := .ref (a 15)) (C := RX4) (T := TX4) (N := 5) hx hb hts hiX4 hown hK.1 hP 10 rfl rfl 2 (by decide) (hts (.fieldLink RX4 19 "IslandBridges$Reasoner" "sums" "LIslandBridges$Sums;") (List.mem_of_getElem? (i := 4) rfl)) (fun _ h9 => h9) rfl dX4_carryOut_94 ?_
    refine lv_iload_n hx hb dX4_carryOut_97 rfl (lv_at hl 0 rfl) ?_
    obtain ⟨v14, h_v14, hm⟩ := lt1_inv hm
    refine cVs ⟨hx, hb, hml, hown, hts⟩ (c_X7_leastBridges l D cI cJ cS cB a S_columns S_rows S_grade S_stepsMade S_caps Y_islands Y_ways Y_firstOf Y_secondOf U_numbers U_caps v2 v14 h_v14) (cwV 1 hts gX4_carryOut_X7_leastBridges rfl rfl rfl hd_X7_leastBridges ⟨(Nat.le_of_ble_eq_true rfl), (Nat.le_of_ble_eq_true rfl)⟩) hK hP hD hS hA [0, 2, 3, 4, 5, 6, 7, 8] rfl rfl rfl hl.1 (Nat.le_of_ble_eq_true rfl) ⟨Nat.zero_le _, Nat.zero_le _⟩ 6 rfl rfl rfl rfl dX4_carryOut_98 (fun H locs hP hD hS => ?_)
    obtain ⟨v15, ev15, hm⟩ := lt1_inv hm
    refine cNx ⟨hx, hb, hml, hown, hts⟩ (c_X9_put l D cI cJ cS cB (a 3) 48 (Nat.le_of_ble_eq_true rfl) S_bridges v2 v14 v15 ev15) ⟨va_cnB 3 hts gX4_carryOut_X9_put_n68 rfl rfl rfl (kn_13 hK) (hts (.initialized RX9) (List.mem_of_getElem? (i := 12) rfl)) hd_X9_put ⟨(Nat.le_of_ble_eq_true rfl), (Nat.le_of_ble_eq_true rfl)⟩, (hts (.static yX9_put) (List.mem_of_getElem? (i := 11) rfl)), trivial⟩ hK hP hD hS hA [1] rfl rfl [o_S a S_columns S_rows S_grade S_stepsMade, ai (a 3) cI 48 v15, ai (a 4) cI 48 S_caps, o_Y a Y_islands Y_ways, ai (a 8) cI 48 Y_firstOf, ai (a 9) cI 48 Y_secondOf, o_U a , ai (a 16) cI 24 U_numbers, ai (a 18) cI 24 U_caps, ai (a 19) cI 24 U_lacks, o_R a R_built] [(false, 0), (true, 0), (false, 2), (false, 3), (false, 4), (false, 5), (false, 6), (false, 7), (false, 8), (false, 9), (false, 10)] rfl rfl rfl hl.1 (Nat.le_of_ble_eq_true rfl) ⟨Nat.zero_le _, Nat.zero_le _⟩ rfl dX4_carryOut_101 (fun H locs hP hD hS => ?_)
    refine lv_goto (tgt := 119) hx hb dX4_carryOut_104 (by decide) ?_
    exact h119 v1 S_grade S_stepsMade v15 S_caps hm _ _ hP hD hS ls (lv_sub hl [2, 1] rfl)
  have hm := ine q11_3 hm
  have w11_1 : v1.toInt ≠ 1 := fun h9 => q11_1 (Int32.toInt_inj.mp (h9.trans rfl))
  have w11_2 : v1.toInt ≠ 2 := fun h9 => q11_2 (Int32.toInt_inj.mp (h9.trans rfl))
  have w11_3 : v1.toInt ≠ 3 := fun h9 => q11_3 (Int32.toInt_inj.mp (h9.trans rfl))
  refine lv_tableOut (tgt := 107) hx hb dX4_carryOut_11 (by omega) (by decide) ?_
  refine lv_aload_n hx hb dX4_carryOut_107 rfl (lv_at hl 2 rfl) ?_
  refine va_get (D := D) (ci := 4) (v := .ref (a 1)) (C := RX4) (T := TX4) (N := 5) hx hb hts hiX4 hown hK.1 hP 10 rfl rfl 0 (by decide) (hts (.fieldLink RX4 9 "IslandBridges$Reasoner" "state" "LIslandBridges$State;") (List.mem_of_getElem? (i := 1) rfl)) (fun _ h9 => h9) rfl dX4_carryOut_108 ?_
  refine va_get (D := D) (ci := 6) (v := .ref (a 4)) (C := RX6) (T := TX6) (N := 7) hx hb hts hiX6 hown hK.1 hP 0 rfl rfl 2 (by decide) (hts (.fieldLink RX4 65 "IslandBridges$State" "caps" "[I") (List.mem_of_getElem? (i := 2) rfl)) (fun _ h9 => h9) rfl dX4_carryOut_111 ?_
  refine lv_iload_n hx hb dX4_carryOut_114 rfl (lv_at hl 0 rfl) ?_
  refine lv_iconst (v := (-1)) hx hb dX4_carryOut_115 (by decide) ?_
  obtain ⟨v16, ev16, hm⟩ := lt1_inv hm
  refine cNx ⟨hx, hb, hml, hown, hts⟩ (c_X9_add l D cI cJ cS cB (a 4) 48 (Nat.le_of_ble_eq_true rfl) S_caps v2 ((-1)) v16 ev16) ⟨va_cnB 3 hts gX4_carryOut_X9_add_n83 rfl rfl rfl (kn_14 hK) (hts (.initialized RX9) (List.mem_of_getElem? (i := 12) rfl)) hd_X9_add ⟨(Nat.le_of_ble_eq_true rfl), (Nat.le_of_ble_eq_true rfl)⟩, (hts (.static yX9_add) (List.mem_of_getElem? (i := 50) rfl)), trivial⟩ hK hP hD hS hA [2] rfl rfl [o_S a S_columns S_rows S_grade S_stepsMade, ai (a 3) cI 48 S_bridges, ai (a 4) cI 48 v16, o_Y a Y_islands Y_ways, ai (a 8) cI 48 Y_firstOf, ai (a 9) cI 48 Y_secondOf, o_U a , ai (a 16) cI 24 U_numbers, ai (a 18) cI 24 U_caps, ai (a 19) cI 24 U_lacks, o_R a R_built] [(false, 0), (false, 1), (true, 0), (false, 3), (false, 4), (false, 5), (false, 6), (false, 7), (false, 8), (false, 9), (false, 10)] rfl rfl rfl hl.1 (Nat.le_of_ble_eq_true rfl) ⟨Nat.zero_le _, Nat.zero_le _⟩ rfl dX4_carryOut_116 (fun H locs hP hD hS => ?_)
  exact h119 v1 S_grade S_stepsMade S_bridges v16 hm _ _ hP hD hS ls (lv_sub hl [2, 1] rfl)
