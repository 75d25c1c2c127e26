theorem hd_X10_in : yX10_in.cls ≠ "java/lang/invoke/MethodHandle" ∧ yX10_in.cls ≠ "java/lang/invoke/VarHandle" ∧ (parseMethodDescriptor yX10_in.desc).map (fun d => d.parameters.length) = some 3 := by decide +kernel
def m_X10_in (x0 : Int32) (x1 : Int32) (x2 : Int32) : Int32 :=
  if x0 < x1 then (0) else (if x2 < x0 then (0) else (1))
set_option maxHeartbeats 4000000 in
set_option maxRecDepth 100000 in
theorem c_X10_in (l : Launch) (D : va_G) (cI cJ cS cB : ClassId) (a : Nat → Nat)  (x0 : Int32) (x1 : Int32) (x2 : Int32) (r0 : Int32) (hm : m_X10_in x0 x1 x2 = r0) :
    mU l D (TYs cI cJ cS cB) yX10_in wsX10_in { frames := 0, cells := 0, slots := 0, locals := 0 } [.int x0, .int x1, .int x2] [] [] (some (.int r0)) := by
  refine mG_of (cc := cX10_in) (maxL := 3) (ret := (some .boolean)) (by decide) rfl rfl (Nat.le_of_ble_eq_true rfl) ?_
  intro p e s m args below meth c A hx hb hr hml hlk hnm hts hown hK hP hD hA hS ls hl
  have hl : lv_has ls 3 [(0, .int x0), (1, .int x1), (2, .int x2)] := hl
  unfold m_X10_in at hm
  refine lv_iload_n hx hb dX10_in_0 rfl (lv_at hl 0 rfl) ?_
  refine lv_iload_n hx hb dX10_in_1 rfl (lv_at hl 1 rfl) ?_
  refine lv_icmp_lt (tgt := 14) hx hb dX10_in_2 (by decide) (fun c2 => ?_) (fun c2 => ?_)
  · have hm := ip c2 hm
    refine lv_iconst (v := 0) hx hb dX10_in_14 (by decide) ?_
    cases hm
    exact rZ () hx hb hr hlk (by decide) hP hD hS dX10_in_15
  · have hm := ine c2 hm
    refine lv_iload_n hx hb dX10_in_5 rfl (lv_at hl 0 rfl) ?_
    refine lv_iload_n hx hb dX10_in_6 rfl (lv_at hl 2 rfl) ?_
    refine lv_icmp_gt (tgt := 14) hx hb dX10_in_7 (by decide) (fun c7 => ?_) (fun c7 => ?_)
    · have hm := ip c7 hm
      refine lv_iconst (v := 0) hx hb dX10_in_14 (by decide) ?_
      cases hm
      exact rZ () hx hb hr hlk (by decide) hP hD hS dX10_in_15
    · have hm := ine c7 hm
      refine lv_iconst (v := 1) hx hb dX10_in_10 (by decide) ?_
      refine lv_goto (tgt := 15) hx hb dX10_in_11 (by decide) ?_
      cases hm
      exact rZ () hx hb hr hlk (by decide) hP hD hS dX10_in_15
theorem hd_X10_lesser : yX10_lesser.cls ≠ "java/lang/invoke/MethodHandle" ∧ yX10_lesser.cls ≠ "java/lang/invoke/VarHandle" ∧ (parseMethodDescriptor yX10_lesser.desc).map (fun d => d.parameters.length) = some 2 := by decide +kernel
def m_X10_lesser (x0 : Int32) (x1 : Int32) : Int32 :=
  if x1 ≤ x0 then (x1) else (x0)
set_option maxHeartbeats 4000000 in
set_option maxRecDepth 100000 in
theorem c_X10_lesser (l : Launch) (D : va_G) (cI cJ cS cB : ClassId) (a : Nat → Nat)  (x0 : Int32) (x1 : Int32) (r0 : Int32) (hm : m_X10_lesser x0 x1 = r0) :
    mU l D (TYs cI cJ cS cB) yX10_lesser wsX10_lesser { frames := 0, cells := 0, slots := 0, locals := 0 } [.int x0, .int x1] [] [] (some (.int r0)) := by
  refine mG_of (cc := cX10_lesser) (maxL := 2) (ret := (some .int)) (by decide) rfl rfl (Nat.le_of_ble_eq_true rfl) ?_
  intro p e s m args below meth c A hx hb hr hml hlk hnm hts hown hK hP hD hA hS ls hl
  have hl : lv_has ls 2 [(0, .int x0), (1, .int x1)] := hl
  unfold m_X10_lesser at hm
  refine lv_iload_n hx hb dX10_lesser_0 rfl (lv_at hl 0 rfl) ?_
  refine lv_iload_n hx hb dX10_lesser_1 rfl (lv_at hl 1 rfl) ?_
  refine lv_icmp_ge (tgt := 9) hx hb dX10_lesser_2 (by decide) (fun c2 => ?_) (fun c2 => ?_)
  · have hm := ip c2 hm
    refine lv_iload_n hx hb dX10_lesser_9 rfl (lv_at hl 1 rfl) ?_
    cases hm
    exact rI () hx hb hr hlk hP hD hS dX10_lesser_10
  · have hm := ine c2 hm
    refine lv_iload_n hx hb dX10_lesser_5 rfl (lv_at hl 0 rfl) ?_
    refine lv_goto (tgt := 10) hx hb dX10_lesser_6 (by decide) ?_
    cases hm
    exact rI () hx hb hr hlk hP hD hS dX10_lesser_10
theorem hd_X10_greater : yX10_greater.cls ≠ "java/lang/invoke/MethodHandle" ∧ yX10_greater.cls ≠ "java/lang/invoke/VarHandle" ∧ (parseMethodDescriptor yX10_greater.desc).map (fun d => d.parameters.length) = some 2 := by decide +kernel
def m_X10_greater (x0 : Int32) (x1 : Int32) : Int32 :=
  if x0 ≤ x1 then (x1) else (x0)
set_option maxHeartbeats 4000000 in
set_option maxRecDepth 100000 in
theorem c_X10_greater (l : Launch) (D : va_G) (cI cJ cS cB : ClassId) (a : Nat → Nat)  (x0 : Int32) (x1 : Int32) (r0 : Int32) (hm : m_X10_greater x0 x1 = r0) :
    mU l D (TYs cI cJ cS cB) yX10_greater wsX10_greater { frames := 0, cells := 0, slots := 0, locals := 0 } [.int x0, .int x1] [] [] (some (.int r0)) := by
  refine mG_of (cc := cX10_greater) (maxL := 2) (ret := (some .int)) (by decide) rfl rfl (Nat.le_of_ble_eq_true rfl) ?_
  intro p e s m args below meth c A hx hb hr hml hlk hnm hts hown hK hP hD hA hS ls hl
  have hl : lv_has ls 2 [(0, .int x0), (1, .int x1)] := hl
  unfold m_X10_greater at hm
  refine lv_iload_n hx hb dX10_greater_0 rfl (lv_at hl 0 rfl) ?_
  refine lv_iload_n hx hb dX10_greater_1 rfl (lv_at hl 1 rfl) ?_
  refine lv_icmp_le (tgt := 9) hx hb dX10_greater_2 (by decide) (fun c2 => ?_) (fun c2 => ?_)
  · have hm := ip c2 hm
    refine lv_iload_n hx hb dX10_greater_9 rfl (lv_at hl 1 rfl) ?_
    cases hm
    exact rI () hx hb hr hlk hP hD hS dX10_greater_10
  · have hm := ine c2 hm
    refine lv_iload_n hx hb dX10_greater_5 rfl (lv_at hl 0 rfl) ?_
    refine lv_goto (tgt := 10) hx hb dX10_greater_6 (by decide) ?_
    cases hm
    exact rI () hx hb hr hlk hP hD hS dX10_greater_10
theorem hd_X10_notes : yX10_notes.cls = RX10 ∧ yX10_notes.cls ≠ "java/lang/invoke/MethodHandle" ∧ yX10_notes.cls ≠ "java/lang/invoke/VarHandle" ∧ (parseMethodDescriptor yX10_notes.desc).map (fun d => d.parameters.length) = some 0 := by decide +kernel
def m_X10_notes_j85 (y6 : Int32) (y7 : Nat → Int32) : Option (Int32 × (Nat → Int32)) :=
  lt1 (y6 + 1) (fun v8 => some ((v8, y7)))
def m_X10_notes_b51 (M_s : Nat → Int32) (y4 : Int32) (rec51 : Int32 → (Nat → Int32) → Option (Int32 × (Nat → Int32))) (y3 : Int32) (y5 : Nat → Int32) : Option (Int32 × (Nat → Int32)) :=
  if 244 ≤ y3 then (m_X10_notes_j85 y4 y5) else (rd 244 M_s y3 (fun v9 => wr 976 y5 ((244 * y4) + y3) v9 (fun v10 => lt1 (y3 + 1) (fun v11 => rec51 v11 v10))))
def m_X10_notes_j49 (N : Nat) (M_s : Nat → Int32) (y1 : Int32) (y2 : Nat → Int32) : Option (Int32 × (Nat → Int32)) :=
  zl2 (m_X10_notes_b51 M_s y1) N 0 y2
def m_X10_notes_j39 (N : Nat) (M_s : Nat → Int32) (y15 : Int32) (y16 : Nat → Int32) : Option (Int32 × (Nat → Int32)) :=
  lt1 (y15 - 1) (fun v17 => m_X10_notes_j49 N M_s v17 y16)
def m_X10_notes_b10 (N : Nat) (M_s : Nat → Int32) (y13 : Int32) (rec10 : Int32 → (Nat → Int32) → Option (Int32 × (Nat → Int32))) (y12 : Int32) (y14 : Nat → Int32) : Option (Int32 × (Nat → Int32)) :=
  if 732 ≤ y12 then (m_X10_notes_j39 N M_s y13 y14) else (rd 976 y14 (y12 + 244) (fun v18 => wr 976 y14 y12 v18 (fun v19 => lt1 (y12 + 1) (fun v20 => rec10 v20 v19))))
def m_X10_notes (N : Nat) (M_pasts : Int32) (M_s : Nat → Int32) (M_past : Nat → Int32) : Option (Int32 × (Nat → Int32)) :=
  if M_pasts = 4 then (zl2 (m_X10_notes_b10 N M_s M_pasts) N 0 M_past) else (m_X10_notes_j49 N M_s M_pasts M_past)
set_option maxHeartbeats 4000000 in
set_option maxRecDepth 100000 in
theorem c_X10_notes (l : Launch) (D : va_G) (cI cJ cS cB : ClassId) (a : Nat → Nat) (M_pasts : Int32) (M_typed : Int32) (M_ways : Int32) (M_z : Int32) (M_why : Int32) (M_rows : Int32) (M_wide : Int32) (M_column : Int32) (M_found : Int32) (M_s : Nat → Int32) (M_past : Nat → Int32)  (N : Nat) (M_pasts' : Int32) (M_past' : Nat → Int32) (hm : m_X10_notes N M_pasts M_s M_past = some (M_pasts', M_past')) :
    mU l D (TYs cI cJ cS cB) yX10_notes wsX10_notes { frames := 0, cells := 0, slots := 0, locals := 0 } [.ref (a 35)] [o_M a M_pasts M_typed M_ways M_z M_why M_rows M_wide M_column M_found, ai (a 36) cI 244 M_s, ai (a 37) cI 976 M_past] [o_M a M_pasts' M_typed M_ways M_z M_why M_rows M_wide M_column M_found, ai (a 36) cI 244 M_s, ai (a 37) cI 976 M_past'] none := by
  refine mG_of (cc := cX10_notes) (maxL := 2) (ret := none) (by decide) rfl rfl (Nat.le_of_ble_eq_true rfl) ?_
  intro p e s m args below meth c A hx hb hr hml hlk hnm hts hown hK hP hD hA hS ls hl
  have hl : lv_has ls 2 [(0, .ref (a 35))] := hl
  have hiX10 : ∀ w ∈ wsX100, w ∈ wsX10_notes := fun w h => List.mem_cons_of_mem _ (List.mem_append_right _ h)
  unfold m_X10_notes at hm
  have h85 : ∀ (y6 : Int32) (y7 : Nat → Int32), m_X10_notes_j85 y6 y7 = some (M_pasts', M_past') → ∀ (H : Heap) (locs : List Loc), va_P D vwCl [o_M a y6 M_typed M_ways M_z M_why M_rows M_wide M_column M_found, ai (a 36) cI 244 M_s, ai (a 37) cI 976 y7] H → va_D A [o_M a y6 M_typed M_ways M_z M_why M_rows M_wide M_column M_found, ai (a 36) cI 244 M_s, ai (a 37) cI 976 y7] → va_S A s.heap H locs → ∀ ls : Array Slot, lv_has ls 2 [(0, .ref (a 35))] → W p l e { frames := 0, cells := 0, slots := 0, locals := 0 } s m args below meth c H locs 0 0 (MQ below (eQ D none (fun _ : Unit => [o_M a M_pasts' M_typed M_ways M_z M_why M_rows M_wide M_column M_found, ai (a 36) cI 244 M_s, ai (a 37) cI 976 M_past']) A) args s 0 0 A) (F0 m 85 ls []) := by
    intro y6 y7 hm H locs hP hD hS ls hl
    unfold m_X10_notes_j85 at hm
    refine lv_aload_n hx hb dX10_notes_85 rfl (lv_at hl 0 rfl) ?_
    refine lv_dup hx hb dX10_notes_86 rfl ?_
    refine va_get (D := D) (ci := 10) (v := .int y6) (C := RX10) (T := TX10) (N := 17) hx hb hts hiX10 hown hK.1 hP 0 rfl rfl 2 (by decide) (hts (.fieldLink RX10 35 "IslandBridgesModel" "pasts" "I") (List.mem_of_getElem? (i := 1) rfl)) (fun _ h9 => h9) rfl dX10_notes_87 ?_
    refine lv_iconst (v := 1) hx hb dX10_notes_90 (by decide) ?_
    refine lv_iadd hx hb dX10_notes_91 ?_
    obtain ⟨v8, ev8, hm⟩ := lt1_inv hm
    refine ltop ev8 ?_
    refine va_put (D := D) (ci := 10) (v := .int v8) (ty := .int) (C := RX10) (T := TX10) (N := 17) hx hb hts hiX10 tyX10 tyX10_ok nmX10 hown hK.1 hP hD hS 0 rfl rfl 2 (by decide) (hts (.fieldLink RX10 35 "IslandBridgesModel" "pasts" "I") (List.mem_of_getElem? (i := 1) rfl)) (fun _ h9 => h9) rfl (by decide +kernel) rfl rfl (Nat.le_of_ble_eq_true rfl) dX10_notes_92 (fun H locs hP hD hS => ?_)
    have hP : va_P D vwCl [o_M a v8 M_typed M_ways M_z M_why M_rows M_wide M_column M_found, ai (a 36) cI 244 M_s, ai (a 37) cI 976 y7] H := hP
    have hD : va_D A [o_M a v8 M_typed M_ways M_z M_why M_rows M_wide M_column M_found, ai (a 36) cI 244 M_s, ai (a 37) cI 976 y7] := hD
    cases hm
    exact rV () hx hb hr hlk hP hD hS dX10_notes_95
  have h51 : ∀ (y4 : Int32), ∀ (n : Nat) (y3 : Int32) (y5 : Nat → Int32), zl2 (m_X10_notes_b51 M_s y4) n y3 y5 = some (M_pasts', M_past') → ∀ (H : Heap) (locs : List Loc), va_P D vwCl [o_M a y4 M_typed M_ways M_z M_why M_rows M_wide M_column M_found, ai (a 36) cI 244 M_s, ai (a 37) cI 976 y5] H → va_D A [o_M a y4 M_typed M_ways M_z M_why M_rows M_wide M_column M_found, ai (a 36) cI 244 M_s, ai (a 37) cI 976 y5] → va_S A s.heap H locs → ∀ ls : Array Slot, lv_has ls 2 [(0, .ref (a 35)), (1, .int y3)] → W p l e { frames := 0, cells := 0, slots := 0, locals := 0 } s m args below meth c H locs 0 0 (MQ below (eQ D none (fun _ : Unit => [o_M a M_pasts' M_typed M_ways M_z M_why M_rows M_wide M_column M_found, ai (a 36) cI 244 M_s, ai (a 37) cI 976 M_past']) A) args s 0 0 A) (F0 m 51 ls []) := by
    intro y4
    refine zl2_ind (fun rec51 ih51 y3 y5 hm => ?_)
    intro H locs hP hD hS ls hl
    unfold m_X10_notes_b51 at hm
    refine lv_iload_n hx hb dX10_notes_51 rfl (lv_at hl 1 rfl) ?_
    refine lv_sipush (v := 244) hx hb dX10_notes_52 (by decide) ?_
    refine lv_icmp_ge (tgt := 85) hx hb dX10_notes_55 (by decide) (fun c55 => ?_) (fun c55 => ?_)
    · have hm := ip c55 hm
      exact h85 y4 y5 hm _ _ hP hD hS ls (lv_sub hl [0] rfl)
    · have hm := ine c55 hm
      refine lv_aload_n hx hb dX10_notes_58 rfl (lv_at hl 0 rfl) ?_
      refine va_get (D := D) (ci := 10) (v := .ref (a 37)) (C := RX10) (T := TX10) (N := 17) hx hb hts hiX10 hown hK.1 hP 0 rfl rfl 1 (by decide) (hts (.fieldLink RX10 13 "IslandBridgesModel" "past" "[I") (List.mem_of_getElem? (i := 2) rfl)) (fun _ h9 => h9) rfl dX10_notes_59 ?_
      refine lv_sipush (v := 244) hx hb dX10_notes_62 (by decide) ?_
      refine lv_aload_n hx hb dX10_notes_65 rfl (lv_at hl 0 rfl) ?_
      refine va_get (D := D) (ci := 10) (v := .int y4) (C := RX10) (T := TX10) (N := 17) hx hb hts hiX10 hown hK.1 hP 0 rfl rfl 2 (by decide) (hts (.fieldLink RX10 35 "IslandBridgesModel" "pasts" "I") (List.mem_of_getElem? (i := 1) rfl)) (fun _ h9 => h9) rfl dX10_notes_66 ?_
      refine lv_imul hx hb dX10_notes_69 ?_
      refine lv_iload_n hx hb dX10_notes_70 rfl (lv_at hl 1 rfl) ?_
      refine lv_iadd hx hb dX10_notes_71 ?_
      refine lv_aload_n hx hb dX10_notes_72 rfl (lv_at hl 0 rfl) ?_
      refine va_get (D := D) (ci := 10) (v := .ref (a 36)) (C := RX10) (T := TX10) (N := 17) hx hb hts hiX10 hown hK.1 hP 0 rfl rfl 0 (by decide) (hts (.fieldLink RX10 7 "IslandBridgesModel" "s" "[I") (List.mem_of_getElem? (i := 3) rfl)) (fun _ h9 => h9) rfl dX10_notes_73 ?_
      refine lv_iload_n hx hb dX10_notes_76 rfl (lv_at hl 1 rfl) ?_
      obtain ⟨v9, nv9, ev9, hm⟩ := rd_inv hm
      refine va_iald hx hb hK.1 hP 1 0 rfl rfl nv9 dX10_notes_77 ?_
      refine ltop ev9 ?_
      obtain ⟨v10, nv10, ev10, hm⟩ := wr_inv hm
      refine va_iast hx hb hK.1 hP hD hS 2 0 rfl rfl nv10 dX10_notes_78 (fun H locs hP hD hS => ?_)
      have hP : va_P D vwCl [o_M a y4 M_typed M_ways M_z M_why M_rows M_wide M_column M_found, ai (a 36) cI 244 M_s, ai (a 37) cI 976 v10] H := by rw [← ev10]; exact hP
      have hD : va_D A [o_M a y4 M_typed M_ways M_z M_why M_rows M_wide M_column M_found, ai (a 36) cI 244 M_s, ai (a 37) cI 976 v10] := by rw [← ev10]; exact hD
      obtain ⟨v11, ev11, hm⟩ := lt1_inv hm
      refine lv_iinc (v := v11) (lv' := [(1, .int v11), (0, .ref (a 35))]) hx hb dX10_notes_79 hl (k := 1) rfl ev11 (by decide) rfl (fun ls hl => ?_)
      refine lv_goto (tgt := 51) hx hb dX10_notes_82 (by decide) ?_
      exact ih51 v11 v10 hm _ _ hP hD hS ls (lv_sub hl [1, 0] rfl)
  have h49 : ∀ (y1 : Int32) (y2 : Nat → Int32), m_X10_notes_j49 N M_s y1 y2 = some (M_pasts', M_past') → ∀ (H : Heap) (locs : List Loc), va_P D vwCl [o_M a y1 M_typed M_ways M_z M_why M_rows M_wide M_column M_found, ai (a 36) cI 244 M_s, ai (a 37) cI 976 y2] H → va_D A [o_M a y1 M_typed M_ways M_z M_why M_rows M_wide M_column M_found, ai (a 36) cI 244 M_s, ai (a 37) cI 976 y2] → va_S A s.heap H locs → ∀ ls : Array Slot, lv_has ls 2 [(0, .ref (a 35))] → W p l e { frames := 0, cells := 0, slots := 0, locals := 0 } s m args below meth c H locs 0 0 (MQ below (eQ D none (fun _ : Unit => [o_M a M_pasts' M_typed M_ways M_z M_why M_rows M_wide M_column M_found, ai (a 36) cI 244 M_s, ai (a 37) cI 976 M_past']) A) args s 0 0 A) (F0 m 49 ls []) := by
    intro y1 y2 hm H locs hP hD hS ls hl
    unfold m_X10_notes_j49 at hm
    refine lv_iconst (v := 0) hx hb dX10_notes_49 (by decide) ?_
    refine lv_istore_n (lv' := [(1, .int 0), (0, .ref (a 35))]) hx hb dX10_notes_50 rfl hl (by decide) rfl (fun ls hl => ?_)
    exact h51 y1 N 0 y2 hm _ _ hP hD hS ls (lv_sub hl [1, 0] rfl)
  have h39 : ∀ (y15 : Int32) (y16 : Nat → Int32), m_X10_notes_j39 N M_s y15 y16 = some (M_pasts', M_past') → ∀ (H : Heap) (locs : List Loc), va_P D vwCl [o_M a y15 M_typed M_ways M_z M_why M_rows M_wide M_column M_found, ai (a 36) cI 244 M_s, ai (a 37) cI 976 y16] H → va_D A [o_M a y15 M_typed M_ways M_z M_why M_rows M_wide M_column M_found, ai (a 36) cI 244 M_s, ai (a 37) cI 976 y16] → va_S A s.heap H locs → ∀ ls : Array Slot, lv_has ls 2 [(0, .ref (a 35))] → W p l e { frames := 0, cells := 0, slots := 0, locals := 0 } s m args below meth c H locs 0 0 (MQ below (eQ D none (fun _ : Unit => [o_M a M_pasts' M_typed M_ways M_z M_why M_rows M_wide M_column M_found, ai (a 36) cI 244 M_s, ai (a 37) cI 976 M_past']) A) args s 0 0 A) (F0 m 39 ls []) := by
    intro y15 y16 hm H locs hP hD hS ls hl
    unfold m_X10_notes_j39 at hm
    refine lv_aload_n hx hb dX10_notes_39 rfl (lv_at hl 0 rfl) ?_
    refine lv_dup hx hb dX10_notes_40 rfl ?_
    refine va_get (D := D) (ci := 10) (v := .int y15) (C := RX10) (T := TX10) (N := 17) hx hb hts hiX10 hown hK.1 hP 0 rfl rfl 2 (by decide) (hts (.fieldLink RX10 35 "IslandBridgesModel" "pasts" "I") (List.mem_of_getElem? (i := 1) rfl)) (fun _ h9 => h9) rfl dX10_notes_41 ?_
    refine lv_iconst (v := 1) hx hb dX10_notes_44 (by decide) ?_
    refine lv_isub hx hb dX10_notes_45 ?_
    obtain ⟨v17, ev17, hm⟩ := lt1_inv hm
    refine ltop ev17 ?_
    refine va_put (D := D) (ci := 10) (v := .int v17) (ty := .int) (C := RX10) (T := TX10) (N := 17) hx hb hts hiX10 tyX10 tyX10_ok nmX10 hown hK.1 hP hD hS 0 rfl rfl 2 (by decide) (hts (.fieldLink RX10 35 "IslandBridgesModel" "pasts" "I") (List.mem_of_getElem? (i := 1) rfl)) (fun _ h9 => h9) rfl (by decide +kernel) rfl rfl (Nat.le_of_ble_eq_true rfl) dX10_notes_46 (fun H locs hP hD hS => ?_)
    have hP : va_P D vwCl [o_M a v17 M_typed M_ways M_z M_why M_rows M_wide M_column M_found, ai (a 36) cI 244 M_s, ai (a 37) cI 976 y16] H := hP
    have hD : va_D A [o_M a v17 M_typed M_ways M_z M_why M_rows M_wide M_column M_found, ai (a 36) cI 244 M_s, ai (a 37) cI 976 y16] := hD
    exact h49 v17 y16 hm _ _ hP hD hS ls (lv_sub hl [0] rfl)
  have h10 : ∀ (y13 : Int32), ∀ (n : Nat) (y12 : Int32) (y14 : Nat → Int32), zl2 (m_X10_notes_b10 N M_s y13) n y12 y14 = some (M_pasts', M_past') → ∀ (H : Heap) (locs : List Loc), va_P D vwCl [o_M a y13 M_typed M_ways M_z M_why M_rows M_wide M_column M_found, ai (a 36) cI 244 M_s, ai (a 37) cI 976 y14] H → va_D A [o_M a y13 M_typed M_ways M_z M_why M_rows M_wide M_column M_found, ai (a 36) cI 244 M_s, ai (a 37) cI 976 y14] → va_S A s.heap H locs → ∀ ls : Array Slot, lv_has ls 2 [(0, .ref (a 35)), (1, .int y12)] → W p l e { frames := 0, cells := 0, slots := 0, locals := 0 } s m args below meth c H locs 0 0 (MQ below (eQ D none (fun _ : Unit => [o_M a M_pasts' M_typed M_ways M_z M_why M_rows M_wide M_column M_found, ai (a 36) cI 244 M_s, ai (a 37) cI 976 M_past']) A) args s 0 0 A) (F0 m 10 ls []) := by
    intro y13
    refine zl2_ind (fun rec10 ih10 y12 y14 hm => ?_)
    intro H locs hP hD hS ls hl
    unfold m_X10_notes_b10 at hm
    refine lv_iload_n hx hb dX10_notes_10 rfl (lv_at hl 1 rfl) ?_
    refine lv_sipush (v := 732) hx hb dX10_notes_11 (by decide) ?_
    refine lv_icmp_ge (tgt := 39) hx hb dX10_notes_14 (by decide) (fun c14 => ?_) (fun c14 => ?_)
    · have hm := ip c14 hm
      exact h39 y13 y14 hm _ _ hP hD hS ls (lv_sub hl [0] rfl)
    · have hm := ine c14 hm
      refine lv_aload_n hx hb dX10_notes_17 rfl (lv_at hl 0 rfl) ?_
      refine va_get (D := D) (ci := 10) (v := .ref (a 37)) (C := RX10) (T := TX10) (N := 17) hx hb hts hiX10 hown hK.1 hP 0 rfl rfl 1 (by decide) (hts (.fieldLink RX10 13 "IslandBridgesModel" "past" "[I") (List.mem_of_getElem? (i := 2) rfl)) (fun _ h9 => h9) rfl dX10_notes_18 ?_
      refine lv_iload_n hx hb dX10_notes_21 rfl (lv_at hl 1 rfl) ?_
      refine lv_aload_n hx hb dX10_notes_22 rfl (lv_at hl 0 rfl) ?_
      refine va_get (D := D) (ci := 10) (v := .ref (a 37)) (C := RX10) (T := TX10) (N := 17) hx hb hts hiX10 hown hK.1 hP 0 rfl rfl 1 (by decide) (hts (.fieldLink RX10 13 "IslandBridgesModel" "past" "[I") (List.mem_of_getElem? (i := 2) rfl)) (fun _ h9 => h9) rfl dX10_notes_23 ?_
      refine lv_iload_n hx hb dX10_notes_26 rfl (lv_at hl 1 rfl) ?_
      refine lv_sipush (v := 244) hx hb dX10_notes_27 (by decide) ?_
      refine lv_iadd hx hb dX10_notes_30 ?_
      obtain ⟨v18, nv18, ev18, hm⟩ := rd_inv hm
      refine va_iald hx hb hK.1 hP 2 0 rfl rfl nv18 dX10_notes_31 ?_
      refine ltop ev18 ?_
      obtain ⟨v19, nv19, ev19, hm⟩ := wr_inv hm
      refine va_iast hx hb hK.1 hP hD hS 2 0 rfl rfl nv19 dX10_notes_32 (fun H locs hP hD hS => ?_)
      have hP : va_P D vwCl [o_M a y13 M_typed M_ways M_z M_why M_rows M_wide M_column M_found, ai (a 36) cI 244 M_s, ai (a 37) cI 976 v19] H := by rw [← ev19]; exact hP
      have hD : va_D A [o_M a y13 M_typed M_ways M_z M_why M_rows M_wide M_column M_found, ai (a 36) cI 244 M_s, ai (a 37) cI 976 v19] := by rw [← ev19]; exact hD
      obtain ⟨v20, ev20, hm⟩ := lt1_inv hm
      refine lv_iinc (v := v20) (lv' := [(1, .int v20), (0, .ref (a 35))]) hx hb dX10_notes_33 hl (k := 1) rfl ev20 (by decide) rfl (fun ls hl => ?_)
      refine lv_goto (tgt := 10) hx hb dX10_notes_36 (by decide) ?_
      exact ih10 v20 v19 hm _ _ hP hD hS ls (lv_sub hl [1, 0] rfl)
  refine lv_aload_n hx hb dX10_notes_0 rfl (lv_at hl 0 rfl) ?_
  refine va_get (D := D) (ci := 10) (v := .int M_pasts) (C := RX10) (T := TX10) (N := 17) hx hb hts hiX10 hown hK.1 hP 0 rfl rfl 2 (by decide) (hts (.fieldLink RX10 35 "IslandBridgesModel" "pasts" "I") (List.mem_of_getElem? (i := 1) rfl)) (fun _ h9 => h9) rfl dX10_notes_1 ?_
  refine lv_iconst (v := 4) hx hb dX10_notes_4 (by decide) ?_
  refine lv_icmp_ne (tgt := 49) hx hb dX10_notes_5 (by decide) (fun c5 => ?_) (fun c5 => ?_)
  · have hm := ine c5 hm
    exact h49 M_pasts M_past hm _ _ hP hD hS ls (lv_sub hl [0] rfl)
  · have hm := ip c5 hm
    refine lv_iconst (v := 0) hx hb dX10_notes_8 (by decide) ?_
    refine lv_istore_n (lv' := [(1, .int 0), (0, .ref (a 35))]) hx hb dX10_notes_9 rfl hl (by decide) rfl (fun ls hl => ?_)
    exact h10 M_pasts N 0 M_past hm _ _ hP hD hS ls (lv_sub hl [1, 0] rfl)
theorem hd_X10_cells : yX10_cells.cls = RX10 ∧ yX10_cells.cls ≠ "java/lang/invoke/MethodHandle" ∧ yX10_cells.cls ≠ "java/lang/invoke/VarHandle" ∧ (parseMethodDescriptor yX10_cells.desc).map (fun d => d.parameters.length) = some 0 := by decide +kernel
def m_X10_cells (M_s : Nat → Int32) : Option (Int32) :=
  rd 244 M_s 0 (fun v1 => rd 244 M_s 1 (fun v2 => some (v1 * v2)))
set_option maxHeartbeats 4000000 in
set_option maxRecDepth 100000 in
theorem c_X10_cells (l : Launch) (D : va_G) (cI cJ cS cB : ClassId) (a : Nat → Nat) (M_pasts : Int32) (M_typed : Int32) (M_ways : Int32) (M_z : Int32) (M_why : Int32) (M_rows : Int32) (M_wide : Int32) (M_column : Int32) (M_found : Int32) (M_s : Nat → Int32)  (r0 : Int32) (hm : m_X10_cells M_s = some r0) :
    mU l D (TYs cI cJ cS cB) yX10_cells wsX10_cells { frames := 0, cells := 0, slots := 0, locals := 0 } [.ref (a 35)] [o_M a M_pasts M_typed M_ways M_z M_why M_rows M_wide M_column M_found, ai (a 36) cI 244 M_s] [o_M a M_pasts M_typed M_ways M_z M_why M_rows M_wide M_column M_found, ai (a 36) cI 244 M_s] (some (.int r0)) := by
  refine mG_of (cc := cX10_cells) (maxL := 1) (ret := (some .int)) (by decide) rfl rfl (Nat.le_of_ble_eq_true rfl) ?_
  intro p e s m args below meth c A hx hb hr hml hlk hnm hts hown hK hP hD hA hS ls hl
  have hl : lv_has ls 1 [(0, .ref (a 35))] := hl
  have hiX10 : ∀ w ∈ wsX100, w ∈ wsX10_cells := fun w h => List.mem_cons_of_mem _ (List.mem_append_right _ h)
  unfold m_X10_cells at hm
  refine lv_aload_n hx hb dX10_cells_0 rfl (lv_at hl 0 rfl) ?_
  refine va_get (D := D) (ci := 10) (v := .ref (a 36)) (C := RX10) (T := TX10) (N := 17) hx hb hts hiX10 hown hK.1 hP 0 rfl rfl 0 (by decide) (hts (.fieldLink RX10 7 "IslandBridgesModel" "s" "[I") (List.mem_of_getElem? (i := 1) rfl)) (fun _ h9 => h9) rfl dX10_cells_1 ?_
  refine lv_iconst (v := 0) hx hb dX10_cells_4 (by decide) ?_
  obtain ⟨v1, nv1, ev1, hm⟩ := rd_inv hm
  refine va_iald hx hb hK.1 hP 1 0 rfl rfl nv1 dX10_cells_5 ?_
  refine ltop ev1 ?_
  refine lv_aload_n hx hb dX10_cells_6 rfl (lv_at hl 0 rfl) ?_
  refine va_get (D := D) (ci := 10) (v := .ref (a 36)) (C := RX10) (T := TX10) (N := 17) hx hb hts hiX10 hown hK.1 hP 0 rfl rfl 0 (by decide) (hts (.fieldLink RX10 7 "IslandBridgesModel" "s" "[I") (List.mem_of_getElem? (i := 1) rfl)) (fun _ h9 => h9) rfl dX10_cells_7 ?_
  refine lv_iconst (v := 1) hx hb dX10_cells_10 (by decide) ?_
  obtain ⟨v2, nv2, ev2, hm⟩ := rd_inv hm
  refine va_iald hx hb hK.1 hP 1 0 rfl rfl nv2 dX10_cells_11 ?_
  refine ltop ev2 ?_
  refine lv_imul hx hb dX10_cells_12 ?_
  cases hm
  exact rI () hx hb hr hlk hP hD hS dX10_cells_13
theorem hd_X10_number : yX10_number.cls = RX10 ∧ yX10_number.cls ≠ "java/lang/invoke/MethodHandle" ∧ yX10_number.cls ≠ "java/lang/invoke/VarHandle" ∧ (parseMethodDescriptor yX10_number.desc).map (fun d => d.parameters.length) = some 1 := by decide +kernel
def m_X10_number (M_s : Nat → Int32) (x1 : Int32) : Option (Int32) :=
  rd 244 M_s (4 + x1) (fun v1 => some v1)
set_option maxHeartbeats 4000000 in
set_option maxRecDepth 100000 in
theorem c_X10_number (l : Launch) (D : va_G) (cI cJ cS cB : ClassId) (a : Nat → Nat) (M_pasts : Int32) (M_typed : Int32) (M_ways : Int32) (M_z : Int32) (M_why : Int32) (M_rows : Int32) (M_wide : Int32) (M_column : Int32) (M_found : Int32) (M_s : Nat → Int32) (x1 : Int32) (r0 : Int32) (hm : m_X10_number M_s x1 = some r0) :
    mU l D (TYs cI cJ cS cB) yX10_number wsX10_number { frames := 0, cells := 0, slots := 0, locals := 0 } [.ref (a 35), .int x1] [o_M a M_pasts M_typed M_ways M_z M_why M_rows M_wide M_column M_found, ai (a 36) cI 244 M_s] [o_M a M_pasts M_typed M_ways M_z M_why M_rows M_wide M_column M_found, ai (a 36) cI 244 M_s] (some (.int r0)) := by
  refine mG_of (cc := cX10_number) (maxL := 2) (ret := (some .int)) (by decide) rfl rfl (Nat.le_of_ble_eq_true rfl) ?_
  intro p e s m args below meth c A hx hb hr hml hlk hnm hts hown hK hP hD hA hS ls hl
  have hl : lv_has ls 2 [(0, .ref (a 35)), (1, .int x1)] := hl
  have hiX10 : ∀ w ∈ wsX100, w ∈ wsX10_number := fun w h => List.mem_cons_of_mem _ (List.mem_append_right _ h)
  unfold m_X10_number at hm
  refine lv_aload_n hx hb dX10_number_0 rfl (lv_at hl 0 rfl) ?_
  refine va_get (D := D) (ci := 10) (v := .ref (a 36)) (C := RX10) (T := TX10) (N := 17) hx hb hts hiX10 hown hK.1 hP 0 rfl rfl 0 (by decide) (hts (.fieldLink RX10 7 "IslandBridgesModel" "s" "[I") (List.mem_of_getElem? (i := 1) rfl)) (fun _ h9 => h9) rfl dX10_number_1 ?_
  refine lv_iconst (v := 4) hx hb dX10_number_4 (by decide) ?_
  refine lv_iload_n hx hb dX10_number_5 rfl (lv_at hl 1 rfl) ?_
  refine lv_iadd hx hb dX10_number_6 ?_
  obtain ⟨v1, nv1, ev1, hm⟩ := rd_inv hm
  refine va_iald hx hb hK.1 hP 1 0 rfl rfl nv1 dX10_number_7 ?_
  refine ltop ev1 ?_
  cases hm
  exact rI () hx hb hr hlk hP hD hS dX10_number_8
theorem hd_X10_joins : yX10_joins.cls = RX10 ∧ yX10_joins.cls ≠ "java/lang/invoke/MethodHandle" ∧ yX10_joins.cls ≠ "java/lang/invoke/VarHandle" ∧ (parseMethodDescriptor yX10_joins.desc).map (fun d => d.parameters.length) = some 2 := by decide +kernel
def m_X10_joins (M_ways : Int32) (M_one : Nat → Int32) (M_other : Nat → Int32) (x1 : Int32) (x2 : Int32) : Option (Int32 × (Nat → Int32) × (Nat → Int32)) :=
  wr 48 M_one M_ways x1 (fun v1 => wr 48 M_other M_ways x2 (fun v2 => lt1 (M_ways + 1) (fun v3 => some ((v3, v1, v2)))))
set_option maxHeartbeats 4000000 in
set_option maxRecDepth 100000 in
theorem c_X10_joins (l : Launch) (D : va_G) (cI cJ cS cB : ClassId) (a : Nat → Nat) (M_pasts : Int32) (M_typed : Int32) (M_ways : Int32) (M_z : Int32) (M_why : Int32) (M_rows : Int32) (M_wide : Int32) (M_column : Int32) (M_found : Int32) (M_one : Nat → Int32) (M_other : Nat → Int32) (x1 : Int32) (x2 : Int32) (M_ways' : Int32) (M_one' : Nat → Int32) (M_other' : Nat → Int32) (hm : m_X10_joins M_ways M_one M_other x1 x2 = some (M_ways', M_one', M_other')) :
    mU l D (TYs cI cJ cS cB) yX10_joins wsX10_joins { frames := 0, cells := 0, slots := 0, locals := 0 } [.ref (a 35), .int x1, .int x2] [o_M a M_pasts M_typed M_ways M_z M_why M_rows M_wide M_column M_found, ai (a 39) cI 48 M_one, ai (a 40) cI 48 M_other] [o_M a M_pasts M_typed M_ways' M_z M_why M_rows M_wide M_column M_found, ai (a 39) cI 48 M_one', ai (a 40) cI 48 M_other'] none := by
  refine mG_of (cc := cX10_joins) (maxL := 3) (ret := none) (by decide) rfl rfl (Nat.le_of_ble_eq_true rfl) ?_
  intro p e s m args below meth c A hx hb hr hml hlk hnm hts hown hK hP hD hA hS ls hl
  have hl : lv_has ls 3 [(0, .ref (a 35)), (1, .int x1), (2, .int x2)] := hl
  have hiX10 : ∀ w ∈ wsX100, w ∈ wsX10_joins := fun w h => List.mem_cons_of_mem _ (List.mem_append_right _ h)
  unfold m_X10_joins at hm
  refine lv_aload_n hx hb dX10_joins_0 rfl (lv_at hl 0 rfl) ?_
  refine va_get (D := D) (ci := 10) (v := .ref (a 39)) (C := RX10) (T := TX10) (N := 17) hx hb hts hiX10 hown hK.1 hP 0 rfl rfl 6 (by decide) (hts (.fieldLink RX10 20 "IslandBridgesModel" "one" "[I") (List.mem_of_getElem? (i := 1) rfl)) (fun _ h9 => h9) rfl dX10_joins_1 ?_
  refine lv_aload_n hx hb dX10_joins_4 rfl (lv_at hl 0 rfl) ?_
  refine va_get (D := D) (ci := 10) (v := .int M_ways) (C := RX10) (T := TX10) (N := 17) hx hb hts hiX10 hown hK.1 hP 0 rfl rfl 5 (by decide) (hts (.fieldLink RX10 54 "IslandBridgesModel" "ways" "I") (List.mem_of_getElem? (i := 2) rfl)) (fun _ h9 => h9) rfl dX10_joins_5 ?_
  refine lv_iload_n hx hb dX10_joins_8 rfl (lv_at hl 1 rfl) ?_
  obtain ⟨v1, nv1, ev1, hm⟩ := wr_inv hm
  refine va_iast hx hb hK.1 hP hD hS 1 0 rfl rfl nv1 dX10_joins_9 (fun H locs hP hD hS => ?_)
  have hP : va_P D vwCl [o_M a M_pasts M_typed M_ways M_z M_why M_rows M_wide M_column M_found, ai (a 39) cI 48 v1, ai (a 40) cI 48 M_other] H := by rw [← ev1]; exact hP
  have hD : va_D A [o_M a M_pasts M_typed M_ways M_z M_why M_rows M_wide M_column M_found, ai (a 39) cI 48 v1, ai (a 40) cI 48 M_other] := by rw [← ev1]; exact hD
  refine lv_aload_n hx hb dX10_joins_10 rfl (lv_at hl 0 rfl) ?_
  refine va_get (D := D) (ci := 10) (v := .ref (a 40)) (C := RX10) (T := TX10) (N := 17) hx hb hts hiX10 hown hK.1 hP 0 rfl rfl 7 (by decide) (hts (.fieldLink RX10 23 "IslandBridgesModel" "other" "[I") (List.mem_of_getElem? (i := 3) rfl)) (fun _ h9 => h9) rfl dX10_joins_11 ?_
  refine lv_aload_n hx hb dX10_joins_14 rfl (lv_at hl 0 rfl) ?_
  refine va_get (D := D) (ci := 10) (v := .int M_ways) (C := RX10) (T := TX10) (N := 17) hx hb hts hiX10 hown hK.1 hP 0 rfl rfl 5 (by decide) (hts (.fieldLink RX10 54 "IslandBridgesModel" "ways" "I") (List.mem_of_getElem? (i := 2) rfl)) (fun _ h9 => h9) rfl dX10_joins_15 ?_
  refine lv_iload_n hx hb dX10_joins_18 rfl (lv_at hl 2 rfl) ?_
  obtain ⟨v2, nv2, ev2, hm⟩ := wr_inv hm
  refine va_iast hx hb hK.1 hP hD hS 2 0 rfl rfl nv2 dX10_joins_19 (fun H locs hP hD hS => ?_)
  have hP : va_P D vwCl [o_M a M_pasts M_typed M_ways M_z M_why M_rows M_wide M_column M_found, ai (a 39) cI 48 v1, ai (a 40) cI 48 v2] H := by rw [← ev2]; exact hP
  have hD : va_D A [o_M a M_pasts M_typed M_ways M_z M_why M_rows M_wide M_column M_found, ai (a 39) cI 48 v1, ai (a 40) cI 48 v2] := by rw [← ev2]; exact hD
  refine lv_aload_n hx hb dX10_joins_20 rfl (lv_at hl 0 rfl) ?_
  refine lv_dup hx hb dX10_joins_21 rfl ?_
  refine va_get (D := D) (ci := 10) (v := .int M_ways) (C := RX10) (T := TX10) (N := 17) hx hb hts hiX10 hown hK.1 hP 0 rfl rfl 5 (by decide) (hts (.fieldLink RX10 54 "IslandBridgesModel" "ways" "I") (List.mem_of_getElem? (i := 2) rfl)) (fun _ h9 => h9) rfl dX10_joins_22 ?_
  refine lv_iconst (v := 1) hx hb dX10_joins_25 (by decide) ?_
  refine lv_iadd hx hb dX10_joins_26 ?_
  obtain ⟨v3, ev3, hm⟩ := lt1_inv hm
  refine ltop ev3 ?_
  refine va_put (D := D) (ci := 10) (v := .int v3) (ty := .int) (C := RX10) (T := TX10) (N := 17) hx hb hts hiX10 tyX10 tyX10_ok nmX10 hown hK.1 hP hD hS 0 rfl rfl 5 (by decide) (hts (.fieldLink RX10 54 "IslandBridgesModel" "ways" "I") (List.mem_of_getElem? (i := 2) rfl)) (fun _ h9 => h9) rfl (by decide +kernel) rfl rfl (Nat.le_of_ble_eq_true rfl) dX10_joins_27 (fun H locs hP hD hS => ?_)
  have hP : va_P D vwCl [o_M a M_pasts M_typed v3 M_z M_why M_rows M_wide M_column M_found, ai (a 39) cI 48 v1, ai (a 40) cI 48 v2] H := hP
  have hD : va_D A [o_M a M_pasts M_typed v3 M_z M_why M_rows M_wide M_column M_found, ai (a 39) cI 48 v1, ai (a 40) cI 48 v2] := hD
  cases hm
  exact rV () hx hb hr hlk hP hD hS dX10_joins_30
theorem hd_X10_findWays : yX10_findWays.cls = RX10 ∧ yX10_findWays.cls ≠ "java/lang/invoke/MethodHandle" ∧ yX10_findWays.cls ≠ "java/lang/invoke/VarHandle" ∧ (parseMethodDescriptor yX10_findWays.desc).map (fun d => d.parameters.length) = some 0 := by decide +kernel
def m_X10_findWays_j120 (rec7 : Int32 → Int32 → (Nat → Int32) → (Nat → Int32) → Option (Int32 × (Nat → Int32) × (Nat → Int32))) (y7 : Int32) (y8 : Int32) (y9 : Nat → Int32) (y10 : Nat → Int32) : Option (Int32 × (Nat → Int32) × (Nat → Int32)) :=
  lt1 (y7 + 1) (fun v11 => rec7 v11 y8 y9 y10)
def m_X10_findWays_j106 (M_s : Nat → Int32) (rec7 : Int32 → Int32 → (Nat → Int32) → (Nat → Int32) → Option (Int32 × (Nat → Int32) × (Nat → Int32))) (y39 : Int32) (y40 : Int32) (y41 : Int32) (y42 : Nat → Int32) (y43 : Nat → Int32) : Option (Int32 × (Nat → Int32) × (Nat → Int32)) :=
  bd1 (m_X10_cells M_s) (fun v44 => if v44 ≤ y40 then (m_X10_findWays_j120 rec7 y39 y41 y42 y43) else (bd3 (m_X10_joins y41 y42 y43 y39 y40) (fun v45 v46 v47 => m_X10_findWays_j120 rec7 y39 v45 v46 v47)))
def m_X10_findWays_b78 (M_s : Nat → Int32) (rec7 : Int32 → Int32 → (Nat → Int32) → (Nat → Int32) → Option (Int32 × (Nat → Int32) × (Nat → Int32))) (y33 : Int32) (y35 : Int32) (y36 : Nat → Int32) (y37 : Nat → Int32) (rec78 : Int32 → Option (Int32 × (Nat → Int32) × (Nat → Int32))) (y34 : Int32) : Option (Int32 × (Nat → Int32) × (Nat → Int32)) :=
  bd1 (m_X10_cells M_s) (fun v38 => if v38 ≤ y34 then (m_X10_findWays_j106 M_s rec7 y33 y34 y35 y36 y37) else (bd1 (m_X10_number M_s y34) (fun v48 => if v48 = 0 then (rd 244 M_s 0 (fun v49 => lt1 (y34 + v49) (fun v50 => rec78 v50))) else (m_X10_findWays_j106 M_s rec7 y33 y34 y35 y36 y37))))
def m_X10_findWays_j69 (N : Nat) (M_s : Nat → Int32) (rec7 : Int32 → Int32 → (Nat → Int32) → (Nat → Int32) → Option (Int32 × (Nat → Int32) × (Nat → Int32))) (y27 : Int32) (y28 : Int32) (y29 : Nat → Int32) (y30 : Nat → Int32) : Option (Int32 × (Nat → Int32) × (Nat → Int32)) :=
  rd 244 M_s 0 (fun v31 => lt1 (y27 + v31) (fun v32 => zl1 (m_X10_findWays_b78 M_s rec7 y27 y28 y29 y30) N v32))
def m_X10_findWays_j52 (N : Nat) (M_s : Nat → Int32) (rec7 : Int32 → Int32 → (Nat → Int32) → (Nat → Int32) → Option (Int32 × (Nat → Int32) × (Nat → Int32))) (y20 : Int32) (y21 : Int32) (y22 : Int32) (y23 : Nat → Int32) (y24 : Nat → Int32) : Option (Int32 × (Nat → Int32) × (Nat → Int32)) :=
  rd 244 M_s 0 (fun v25 => rmd y21 v25 (fun v26 => if v26 = 0 then (m_X10_findWays_j69 N M_s rec7 y20 y22 y23 y24) else (bd3 (m_X10_joins y22 y23 y24 y20 y21) (fun v51 v52 v53 => m_X10_findWays_j69 N M_s rec7 y20 v51 v52 v53))))
def m_X10_findWays_b27 (N : Nat) (M_s : Nat → Int32) (rec7 : Int32 → Int32 → (Nat → Int32) → (Nat → Int32) → Option (Int32 × (Nat → Int32) × (Nat → Int32))) (y13 : Int32) (y15 : Int32) (y16 : Nat → Int32) (y17 : Nat → Int32) (rec27 : Int32 → Option (Int32 × (Nat → Int32) × (Nat → Int32))) (y14 : Int32) : Option (Int32 × (Nat → Int32) × (Nat → Int32)) :=
  rd 244 M_s 0 (fun v18 => rmd y14 v18 (fun v19 => if v19 = 0 then (m_X10_findWays_j52 N M_s rec7 y13 y14 y15 y16 y17) else (bd1 (m_X10_number M_s y14) (fun v54 => if v54 = 0 then (lt1 (y14 + 1) (fun v55 => rec27 v55)) else (m_X10_findWays_j52 N M_s rec7 y13 y14 y15 y16 y17)))))
def m_X10_findWays_b7 (N : Nat) (M_s : Nat → Int32) (rec7 : Int32 → Int32 → (Nat → Int32) → (Nat → Int32) → Option (Int32 × (Nat → Int32) × (Nat → Int32))) (y1 : Int32) (y2 : Int32) (y3 : Nat → Int32) (y4 : Nat → Int32) : Option (Int32 × (Nat → Int32) × (Nat → Int32)) :=
  bd1 (m_X10_cells M_s) (fun v5 => if v5 ≤ y1 then (some ((y2, y3, y4))) else (bd1 (m_X10_number M_s y1) (fun v6 => if v6 ≤ 0 then (m_X10_findWays_j120 rec7 y1 y2 y3 y4) else (lt1 (y1 + 1) (fun v12 => zl1 (m_X10_findWays_b27 N M_s rec7 y1 y2 y3 y4) N v12)))))
def m_X10_findWays (N : Nat) (M_s : Nat → Int32) (M_one : Nat → Int32) (M_other : Nat → Int32) : Option (Int32 × (Nat → Int32) × (Nat → Int32)) :=
  zl4 (m_X10_findWays_b7 N M_s) N 0 0 M_one M_other
set_option maxHeartbeats 4000000 in
set_option maxRecDepth 100000 in
theorem c_X10_findWays (l : Launch) (D : va_G) (cI cJ cS cB : ClassId) (a : Nat → Nat) (M_pasts : Int32) (M_typed : Int32) (M_ways : Int32) (M_z : Int32) (M_why : Int32) (M_rows : Int32) (M_wide : Int32) (M_column : Int32) (M_found : Int32) (M_s : Nat → Int32) (M_one : Nat → Int32) (M_other : Nat → Int32)  (N : Nat) (M_ways' : Int32) (M_one' : Nat → Int32) (M_other' : Nat → Int32) (hm : m_X10_findWays N M_s M_one M_other = some (M_ways', M_one', M_other')) :
    mU l D (TYs cI cJ cS cB) yX10_findWays wsX10_findWays { frames := 1, cells := 0, slots := 0, locals := 22 } [.ref (a 35)] [o_M a M_pasts M_typed M_ways M_z M_why M_rows M_wide M_column M_found, ai (a 36) cI 244 M_s, ai (a 39) cI 48 M_one, ai (a 40) cI 48 M_other] [o_M a M_pasts M_typed M_ways' M_z M_why M_rows M_wide M_column M_found, ai (a 36) cI 244 M_s, ai (a 39) cI 48 M_one', ai (a 40) cI 48 M_other'] none := by
  refine mG_of (cc := cX10_findWays) (maxL := 4) (ret := none) (by decide) rfl rfl (Nat.le_of_ble_eq_true rfl) ?_
  intro p e s m args below meth c A hx hb hr hml hlk hnm hts hown hK hP hD hA hS ls hl
  have hl : lv_has ls 4 [(0, .ref (a 35))] := hl
  have hiX10 : ∀ w ∈ wsX100, w ∈ wsX10_findWays := fun w h => List.mem_cons_of_mem _ (List.mem_append_right _ h)
  unfold m_X10_findWays at hm
  have h7 : ∀ (n : Nat) (y1 : Int32) (y2 : Int32) (y3 : Nat → Int32) (y4 : Nat → Int32), zl4 (m_X10_findWays_b7 N M_s) n y1 y2 y3 y4 = some (M_ways', M_one', M_other') → ∀ (H : Heap) (locs : List Loc), va_P D vwCl [o_M a M_pasts M_typed y2 M_z M_why M_rows M_wide M_column M_found, ai (a 36) cI 244 M_s, ai (a 39) cI 48 y3, ai (a 40) cI 48 y4] H → va_D A [o_M a M_pasts M_typed y2 M_z M_why M_rows M_wide M_column M_found, ai (a 36) cI 244 M_s, ai (a 39) cI 48 y3, ai (a 40) cI 48 y4] → va_S A s.heap H locs → ∀ ls : Array Slot, lv_has ls 4 [(0, .ref (a 35)), (1, .int y1)] → W p l e { frames := 1, cells := 0, slots := 0, locals := 22 } s m args below meth c H locs 0 0 (MQ below (eQ D none (fun _ : Unit => [o_M a M_pasts M_typed M_ways' M_z M_why M_rows M_wide M_column M_found, ai (a 36) cI 244 M_s, ai (a 39) cI 48 M_one', ai (a 40) cI 48 M_other']) A) args s 0 0 A) (F0 m 7 ls []) := by
    refine zl4_ind (fun rec7 ih7 y1 y2 y3 y4 hm => ?_)
    have h120 : ∀ (y7 : Int32) (y8 : Int32) (y9 : Nat → Int32) (y10 : Nat → Int32), m_X10_findWays_j120 rec7 y7 y8 y9 y10 = some (M_ways', M_one', M_other') → ∀ (H : Heap) (locs : List Loc), va_P D vwCl [o_M a M_pasts M_typed y8 M_z M_why M_rows M_wide M_column M_found, ai (a 36) cI 244 M_s, ai (a 39) cI 48 y9, ai (a 40) cI 48 y10] H → va_D A [o_M a M_pasts M_typed y8 M_z M_why M_rows M_wide M_column M_found, ai (a 36) cI 244 M_s, ai (a 39) cI 48 y9, ai (a 40) cI 48 y10] → va_S A s.heap H locs → ∀ ls : Array Slot, lv_has ls 4 [(0, .ref (a 35)), (1, .int y7)] → W p l e { frames := 1, cells := 0, slots := 0, locals := 22 } s m args below meth c H locs 0 0 (MQ below (eQ D none (fun _ : Unit => [o_M a M_pasts M_typed M_ways' M_z M_why M_rows M_wide M_column M_found, ai (a 36) cI 244 M_s, ai (a 39) cI 48 M_one', ai (a 40) cI 48 M_other']) A) args s 0 0 A) (F0 m 120 ls []) := by
      intro y7 y8 y9 y10 hm H locs hP hD hS ls hl
      unfold m_X10_findWays_j120 at hm
      obtain ⟨v11, ev11, hm⟩ := lt1_inv hm
      refine lv_iinc (v := v11) (lv' := [(1, .int v11), (0, .ref (a 35))]) hx hb dX10_findWays_120 hl (k := 1) rfl ev11 (by decide) rfl (fun ls hl => ?_)
      refine lv_goto (tgt := 7) hx hb dX10_findWays_123 (by decide) ?_
      exact ih7 v11 y8 y9 y10 hm _ _ hP hD hS ls (lv_sub hl [1, 0] rfl)
    have h106 : ∀ (y39 : Int32) (y40 : Int32) (y41 : Int32) (y42 : Nat → Int32) (y43 : Nat → Int32), m_X10_findWays_j106 M_s rec7 y39 y40 y41 y42 y43 = some (M_ways', M_one', M_other') → ∀ (H : Heap) (locs : List Loc), va_P D vwCl [o_M a M_pasts M_typed y41 M_z M_why M_rows M_wide M_column M_found, ai (a 36) cI 244 M_s, ai (a 39) cI 48 y42, ai (a 40) cI 48 y43] H → va_D A [o_M a M_pasts M_typed y41 M_z M_why M_rows M_wide M_column M_found, ai (a 36) cI 244 M_s, ai (a 39) cI 48 y42, ai (a 40) cI 48 y43] → va_S A s.heap H locs → ∀ ls : Array Slot, lv_has ls 4 [(0, .ref (a 35)), (1, .int y39), (3, .int y40)] → W p l e { frames := 1, cells := 0, slots := 0, locals := 22 } s m args below meth c H locs 0 0 (MQ below (eQ D none (fun _ : Unit => [o_M a M_pasts M_typed M_ways' M_z M_why M_rows M_wide M_column M_found, ai (a 36) cI 244 M_s, ai (a 39) cI 48 M_one', ai (a 40) cI 48 M_other']) A) args s 0 0 A) (F0 m 106 ls []) := by
      intro y39 y40 y41 y42 y43 hm H locs hP hD hS ls hl
      unfold m_X10_findWays_j106 at hm
      refine lv_iload_n hx hb dX10_findWays_106 rfl (lv_at hl 2 rfl) ?_
      refine lv_aload_n hx hb dX10_findWays_107 rfl (lv_at hl 0 rfl) ?_
      obtain ⟨v44, h_v44, hm⟩ := bd1_inv hm
      refine cVs ⟨hx, hb, hml, hown, hts⟩ (c_X10_cells l D cI cJ cS cB a M_pasts M_typed y41 M_z M_why M_rows M_wide M_column M_found M_s v44 h_v44) (cwV 0 hts gX10_findWays_X10_cells rfl rfl rfl hd_X10_cells ⟨(Nat.le_of_ble_eq_true rfl), (Nat.le_of_ble_eq_true rfl)⟩) hK hP hD hS hA [0, 1] rfl rfl rfl hl.1 (Nat.le_of_ble_eq_true rfl) ⟨Nat.zero_le _, Nat.zero_le _⟩ 0 rfl rfl rfl rfl dX10_findWays_108 (fun H locs hP hD hS => ?_)
      refine lv_icmp_ge (tgt := 120) hx hb dX10_findWays_111 (by decide) (fun c111 => ?_) (fun c111 => ?_)
      · have hm := ip c111 hm
        exact h120 y39 y41 y42 y43 hm _ _ hP hD hS ls (lv_sub hl [0, 1] rfl)
      · have hm := ine c111 hm
        refine lv_aload_n hx hb dX10_findWays_114 rfl (lv_at hl 0 rfl) ?_
        refine lv_iload_n hx hb dX10_findWays_115 rfl (lv_at hl 1 rfl) ?_
        refine lv_iload_n hx hb dX10_findWays_116 rfl (lv_at hl 2 rfl) ?_
        obtain ⟨v45, v46, v47, h_v45, hm⟩ := bd3_inv hm
        refine cVx ⟨hx, hb, hml, hown, hts⟩ (c_X10_joins l D cI cJ cS cB a M_pasts M_typed y41 M_z M_why M_rows M_wide M_column M_found y42 y43 y39 y40 v45 v46 v47 h_v45) (cwV 2 hts gX10_findWays_X10_joins rfl rfl rfl hd_X10_joins ⟨(Nat.le_of_ble_eq_true rfl), (Nat.le_of_ble_eq_true rfl)⟩) hK hP hD hS hA [0, 2, 3] rfl rfl [o_M a M_pasts M_typed v45 M_z M_why M_rows M_wide M_column M_found, ai (a 36) cI 244 M_s, ai (a 39) cI 48 v46, ai (a 40) cI 48 v47] [(true, 0), (false, 1), (true, 1), (true, 2)] rfl rfl rfl hl.1 (Nat.le_of_ble_eq_true rfl) ⟨Nat.zero_le _, Nat.zero_le _⟩ 0 rfl rfl rfl rfl dX10_findWays_117 (fun H locs hP hD hS => ?_)
        exact h120 y39 v45 v46 v47 hm _ _ hP hD hS ls (lv_sub hl [0, 1] rfl)
    have h78 : ∀ (y33 : Int32) (y35 : Int32) (y36 : Nat → Int32) (y37 : Nat → Int32), ∀ (n : Nat) (y34 : Int32), zl1 (m_X10_findWays_b78 M_s rec7 y33 y35 y36 y37) n y34 = some (M_ways', M_one', M_other') → ∀ (H : Heap) (locs : List Loc), va_P D vwCl [o_M a M_pasts M_typed y35 M_z M_why M_rows M_wide M_column M_found, ai (a 36) cI 244 M_s, ai (a 39) cI 48 y36, ai (a 40) cI 48 y37] H → va_D A [o_M a M_pasts M_typed y35 M_z M_why M_rows M_wide M_column M_found, ai (a 36) cI 244 M_s, ai (a 39) cI 48 y36, ai (a 40) cI 48 y37] → va_S A s.heap H locs → ∀ ls : Array Slot, lv_has ls 4 [(0, .ref (a 35)), (1, .int y33), (3, .int y34)] → W p l e { frames := 1, cells := 0, slots := 0, locals := 22 } s m args below meth c H locs 0 0 (MQ below (eQ D none (fun _ : Unit => [o_M a M_pasts M_typed M_ways' M_z M_why M_rows M_wide M_column M_found, ai (a 36) cI 244 M_s, ai (a 39) cI 48 M_one', ai (a 40) cI 48 M_other']) A) args s 0 0 A) (F0 m 78 ls []) := by
      intro y33 y35 y36 y37
      refine zl1_ind (fun rec78 ih78 y34 hm => ?_)
      intro H locs hP hD hS ls hl
      unfold m_X10_findWays_b78 at hm
      refine lv_iload_n hx hb dX10_findWays_78 rfl (lv_at hl 2 rfl) ?_
      refine lv_aload_n hx hb dX10_findWays_79 rfl (lv_at hl 0 rfl) ?_
      obtain ⟨v38, h_v38, hm⟩ := bd1_inv hm
      refine cVs ⟨hx, hb, hml, hown, hts⟩ (c_X10_cells l D cI cJ cS cB a M_pasts M_typed y35 M_z M_why M_rows M_wide M_column M_found M_s v38 h_v38) (cwV 0 hts gX10_findWays_X10_cells rfl rfl rfl hd_X10_cells ⟨(Nat.le_of_ble_eq_true rfl), (Nat.le_of_ble_eq_true rfl)⟩) hK hP hD hS hA [0, 1] rfl rfl rfl hl.1 (Nat.le_of_ble_eq_true rfl) ⟨Nat.zero_le _, Nat.zero_le _⟩ 0 rfl rfl rfl rfl dX10_findWays_80 (fun H locs hP hD hS => ?_)
      refine lv_icmp_ge (tgt := 106) hx hb dX10_findWays_83 (by decide) (fun c83 => ?_) (fun c83 => ?_)
      · have hm := ip c83 hm
        exact h106 y33 y34 y35 y36 y37 hm _ _ hP hD hS ls (lv_sub hl [0, 1, 2] rfl)
      · have hm := ine c83 hm
        refine lv_aload_n hx hb dX10_findWays_86 rfl (lv_at hl 0 rfl) ?_
        refine lv_iload_n hx hb dX10_findWays_87 rfl (lv_at hl 2 rfl) ?_
        obtain ⟨v48, h_v48, hm⟩ := bd1_inv hm
        refine cVs ⟨hx, hb, hml, hown, hts⟩ (c_X10_number l D cI cJ cS cB a M_pasts M_typed y35 M_z M_why M_rows M_wide M_column M_found M_s y34 v48 h_v48) (cwV 1 hts gX10_findWays_X10_number rfl rfl rfl hd_X10_number ⟨(Nat.le_of_ble_eq_true rfl), (Nat.le_of_ble_eq_true rfl)⟩) hK hP hD hS hA [0, 1] rfl rfl rfl hl.1 (Nat.le_of_ble_eq_true rfl) ⟨Nat.zero_le _, Nat.zero_le _⟩ 0 rfl rfl rfl rfl dX10_findWays_88 (fun H locs hP hD hS => ?_)
        refine lv_if_ne (tgt := 106) hx hb dX10_findWays_91 (by decide) (fun c91 => ?_) (fun c91 => ?_)
        · have hm := ine c91 hm
          exact h106 y33 y34 y35 y36 y37 hm _ _ hP hD hS ls (lv_sub hl [0, 1, 2] rfl)
        · have hm := ip c91 hm
          refine lv_iload_n hx hb dX10_findWays_94 rfl (lv_at hl 2 rfl) ?_
          refine lv_aload_n hx hb dX10_findWays_95 rfl (lv_at hl 0 rfl) ?_
          refine va_get (D := D) (ci := 10) (v := .ref (a 36)) (C := RX10) (T := TX10) (N := 17) hx hb hts hiX10 hown hK.1 hP 0 rfl rfl 0 (by decide) (hts (.fieldLink RX10 7 "IslandBridgesModel" "s" "[I") (List.mem_of_getElem? (i := 2) rfl)) (fun _ h9 => h9) rfl dX10_findWays_96 ?_
          refine lv_iconst (v := 0) hx hb dX10_findWays_99 (by decide) ?_
          obtain ⟨v49, nv49, ev49, hm⟩ := rd_inv hm
          refine va_iald hx hb hK.1 hP 1 0 rfl rfl nv49 dX10_findWays_100 ?_
          refine ltop ev49 ?_
          refine lv_iadd hx hb dX10_findWays_101 ?_
          obtain ⟨v50, ev50, hm⟩ := lt1_inv hm
          refine ltop ev50 ?_
          refine lv_istore_n (lv' := [(3, .int v50), (0, .ref (a 35)), (1, .int y33)]) hx hb dX10_findWays_102 rfl hl (by decide) rfl (fun ls hl => ?_)
          refine lv_goto (tgt := 78) hx hb dX10_findWays_103 (by decide) ?_
          exact ih78 v50 hm _ _ hP hD hS ls (lv_sub hl [1, 2, 0] rfl)
    have h69 : ∀ (y27 : Int32) (y28 : Int32) (y29 : Nat → Int32) (y30 : Nat → Int32), m_X10_findWays_j69 N M_s rec7 y27 y28 y29 y30 = some (M_ways', M_one', M_other') → ∀ (H : Heap) (locs : List Loc), va_P D vwCl [o_M a M_pasts M_typed y28 M_z M_why M_rows M_wide M_column M_found, ai (a 36) cI 244 M_s, ai (a 39) cI 48 y29, ai (a 40) cI 48 y30] H → va_D A [o_M a M_pasts M_typed y28 M_z M_why M_rows M_wide M_column M_found, ai (a 36) cI 244 M_s, ai (a 39) cI 48 y29, ai (a 40) cI 48 y30] → va_S A s.heap H locs → ∀ ls : Array Slot, lv_has ls 4 [(0, .ref (a 35)), (1, .int y27)] → W p l e { frames := 1, cells := 0, slots := 0, locals := 22 } s m args below meth c H locs 0 0 (MQ below (eQ D none (fun _ : Unit => [o_M a M_pasts M_typed M_ways' M_z M_why M_rows M_wide M_column M_found, ai (a 36) cI 244 M_s, ai (a 39) cI 48 M_one', ai (a 40) cI 48 M_other']) A) args s 0 0 A) (F0 m 69 ls []) := by
      intro y27 y28 y29 y30 hm H locs hP hD hS ls hl
      unfold m_X10_findWays_j69 at hm
      refine lv_iload_n hx hb dX10_findWays_69 rfl (lv_at hl 1 rfl) ?_
      refine lv_aload_n hx hb dX10_findWays_70 rfl (lv_at hl 0 rfl) ?_
      refine va_get (D := D) (ci := 10) (v := .ref (a 36)) (C := RX10) (T := TX10) (N := 17) hx hb hts hiX10 hown hK.1 hP 0 rfl rfl 0 (by decide) (hts (.fieldLink RX10 7 "IslandBridgesModel" "s" "[I") (List.mem_of_getElem? (i := 2) rfl)) (fun _ h9 => h9) rfl dX10_findWays_71 ?_
      refine lv_iconst (v := 0) hx hb dX10_findWays_74 (by decide) ?_
      obtain ⟨v31, nv31, ev31, hm⟩ := rd_inv hm
      refine va_iald hx hb hK.1 hP 1 0 rfl rfl nv31 dX10_findWays_75 ?_
      refine ltop ev31 ?_
      refine lv_iadd hx hb dX10_findWays_76 ?_
      obtain ⟨v32, ev32, hm⟩ := lt1_inv hm
      refine ltop ev32 ?_
      refine lv_istore_n (lv' := [(3, .int v32), (0, .ref (a 35)), (1, .int y27)]) hx hb dX10_findWays_77 rfl hl (by decide) rfl (fun ls hl => ?_)
      exact h78 y27 y28 y29 y30 N v32 hm _ _ hP hD hS ls (lv_sub hl [1, 2, 0] rfl)
    have h52 : ∀ (y20 : Int32) (y21 : Int32) (y22 : Int32) (y23 : Nat → Int32) (y24 : Nat → Int32), m_X10_findWays_j52 N M_s rec7 y20 y21 y22 y23 y24 = some (M_ways', M_one', M_other') → ∀ (H : Heap) (locs : List Loc), va_P D vwCl [o_M a M_pasts M_typed y22 M_z M_why M_rows M_wide M_column M_found, ai (a 36) cI 244 M_s, ai (a 39) cI 48 y23, ai (a 40) cI 48 y24] H → va_D A [o_M a M_pasts M_typed y22 M_z M_why M_rows M_wide M_column M_found, ai (a 36) cI 244 M_s, ai (a 39) cI 48 y23, ai (a 40) cI 48 y24] → va_S A s.heap H locs → ∀ ls : Array Slot, lv_has ls 4 [(0, .ref (a 35)), (1, .int y20), (2, .int y21)] → W p l e { frames := 1, cells := 0, slots := 0, locals := 22 } s m args below meth c H locs 0 0 (MQ below (eQ D none (fun _ : Unit => [o_M a M_pasts M_typed M_ways' M_z M_why M_rows M_wide M_column M_found, ai (a 36) cI 244 M_s, ai (a 39) cI 48 M_one', ai (a 40) cI 48 M_other']) A) args s 0 0 A) (F0 m 52 ls []) := by
      intro y20 y21 y22 y23 y24 hm H locs hP hD hS ls hl
      unfold m_X10_findWays_j52 at hm
      refine lv_iload_n hx hb dX10_findWays_52 rfl (lv_at hl 2 rfl) ?_
      refine lv_aload_n hx hb dX10_findWays_53 rfl (lv_at hl 0 rfl) ?_
      refine va_get (D := D) (ci := 10) (v := .ref (a 36)) (C := RX10) (T := TX10) (N := 17) hx hb hts hiX10 hown hK.1 hP 0 rfl rfl 0 (by decide) (hts (.fieldLink RX10 7 "IslandBridgesModel" "s" "[I") (List.mem_of_getElem? (i := 2) rfl)) (fun _ h9 => h9) rfl dX10_findWays_54 ?_
      refine lv_iconst (v := 0) hx hb dX10_findWays_57 (by decide) ?_
      obtain ⟨v25, nv25, ev25, hm⟩ := rd_inv hm
      refine va_iald hx hb hK.1 hP 1 0 rfl rfl nv25 dX10_findWays_58 ?_
      refine ltop ev25 ?_
      obtain ⟨v26, nv26, ev26, hm⟩ := rmd_inv hm
      refine lv_irem hx hb dX10_findWays_59 nv26 ?_
      refine ltop ev26 ?_
      refine lv_if_eq (tgt := 69) hx hb dX10_findWays_60 (by decide) (fun c60 => ?_) (fun c60 => ?_)
      · have hm := ip c60 hm
        exact h69 y20 y22 y23 y24 hm _ _ hP hD hS ls (lv_sub hl [0, 1] rfl)
      · have hm := ine c60 hm
        refine lv_aload_n hx hb dX10_findWays_63 rfl (lv_at hl 0 rfl) ?_
        refine lv_iload_n hx hb dX10_findWays_64 rfl (lv_at hl 1 rfl) ?_
        refine lv_iload_n hx hb dX10_findWays_65 rfl (lv_at hl 2 rfl) ?_
        obtain ⟨v51, v52, v53, h_v51, hm⟩ := bd3_inv hm
        refine cVx ⟨hx, hb, hml, hown, hts⟩ (c_X10_joins l D cI cJ cS cB a M_pasts M_typed y22 M_z M_why M_rows M_wide M_column M_found y23 y24 y20 y21 v51 v52 v53 h_v51) (cwV 2 hts gX10_findWays_X10_joins rfl rfl rfl hd_X10_joins ⟨(Nat.le_of_ble_eq_true rfl), (Nat.le_of_ble_eq_true rfl)⟩) hK hP hD hS hA [0, 2, 3] rfl rfl [o_M a M_pasts M_typed v51 M_z M_why M_rows M_wide M_column M_found, ai (a 36) cI 244 M_s, ai (a 39) cI 48 v52, ai (a 40) cI 48 v53] [(true, 0), (false, 1), (true, 1), (true, 2)] rfl rfl rfl hl.1 (Nat.le_of_ble_eq_true rfl) ⟨Nat.zero_le _, Nat.zero_le _⟩ 0 rfl rfl rfl rfl dX10_findWays_66 (fun H locs hP hD hS => ?_)
        exact h69 y20 v51 v52 v53 hm _ _ hP hD hS ls (lv_sub hl [0, 1] rfl)
    have h27 : ∀ (y13 : Int32) (y15 : Int32) (y16 : Nat → Int32) (y17 : Nat → Int32), ∀ (n : Nat) (y14 : Int32), zl1 (m_X10_findWays_b27 N M_s rec7 y13 y15 y16 y17) n y14 = some (M_ways', M_one', M_other') → ∀ (H : Heap) (locs : List Loc), va_P D vwCl [o_M a M_pasts M_typed y15 M_z M_why M_rows M_wide M_column M_found, ai (a 36) cI 244 M_s, ai (a 39) cI 48 y16, ai (a 40) cI 48 y17] H → va_D A [o_M a M_pasts M_typed y15 M_z M_why M_rows M_wide M_column M_found, ai (a 36) cI 244 M_s, ai (a 39) cI 48 y16, ai (a 40) cI 48 y17] → va_S A s.heap H locs → ∀ ls : Array Slot, lv_has ls 4 [(0, .ref (a 35)), (1, .int y13), (2, .int y14)] → W p l e { frames := 1, cells := 0, slots := 0, locals := 22 } s m args below meth c H locs 0 0 (MQ below (eQ D none (fun _ : Unit => [o_M a M_pasts M_typed M_ways' M_z M_why M_rows M_wide M_column M_found, ai (a 36) cI 244 M_s, ai (a 39) cI 48 M_one', ai (a 40) cI 48 M_other']) A) args s 0 0 A) (F0 m 27 ls []) := by
      intro y13 y15 y16 y17
      refine zl1_ind (fun rec27 ih27 y14 hm => ?_)
      intro H locs hP hD hS ls hl
      unfold m_X10_findWays_b27 at hm
      refine lv_iload_n hx hb dX10_findWays_27 rfl (lv_at hl 2 rfl) ?_
      refine lv_aload_n hx hb dX10_findWays_28 rfl (lv_at hl 0 rfl) ?_
      refine va_get (D := D) (ci := 10) (v := .ref (a 36)) (C := RX10) (T := TX10) (N := 17) hx hb hts hiX10 hown hK.1 hP 0 rfl rfl 0 (by decide) (hts (.fieldLink RX10 7 "IslandBridgesModel" "s" "[I") (List.mem_of_getElem? (i := 2) rfl)) (fun _ h9 => h9) rfl dX10_findWays_29 ?_
      refine lv_iconst (v := 0) hx hb dX10_findWays_32 (by decide) ?_
      obtain ⟨v18, nv18, ev18, hm⟩ := rd_inv hm
      refine va_iald hx hb hK.1 hP 1 0 rfl rfl nv18 dX10_findWays_33 ?_
      refine ltop ev18 ?_
      obtain ⟨v19, nv19, ev19, hm⟩ := rmd_inv hm
      refine lv_irem hx hb dX10_findWays_34 nv19 ?_
      refine ltop ev19 ?_
      refine lv_if_eq (tgt := 52) hx hb dX10_findWays_35 (by decide) (fun c35 => ?_) (fun c35 => ?_)
      · have hm := ip c35 hm
        exact h52 y13 y14 y15 y16 y17 hm _ _ hP hD hS ls (lv_sub hl [0, 1, 2] rfl)
      · have hm := ine c35 hm
        refine lv_aload_n hx hb dX10_findWays_38 rfl (lv_at hl 0 rfl) ?_
        refine lv_iload_n hx hb dX10_findWays_39 rfl (lv_at hl 2 rfl) ?_
        obtain ⟨v54, h_v54, hm⟩ := bd1_inv hm
        refine cVs ⟨hx, hb, hml, hown, hts⟩ (c_X10_number l D cI cJ cS cB a M_pasts M_typed y15 M_z M_why M_rows M_wide M_column M_found M_s y14 v54 h_v54) (cwV 1 hts gX10_findWays_X10_number rfl rfl rfl hd_X10_number ⟨(Nat.le_of_ble_eq_true rfl), (Nat.le_of_ble_eq_true rfl)⟩) hK hP hD hS hA [0, 1] rfl rfl rfl hl.1 (Nat.le_of_ble_eq_true rfl) ⟨Nat.zero_le _, Nat.zero_le _⟩ 0 rfl rfl rfl rfl dX10_findWays_40 (fun H locs hP hD hS => ?_)
        refine lv_if_ne (tgt := 52) hx hb dX10_findWays_43 (by decide) (fun c43 => ?_) (fun c43 => ?_)
        · have hm := ine c43 hm
          exact h52 y13 y14 y15 y16 y17 hm _ _ hP hD hS ls (lv_sub hl [0, 1, 2] rfl)
        · have hm := ip c43 hm
          obtain ⟨v55, ev55, hm⟩ := lt1_inv hm
          refine lv_iinc (v := v55) (lv' := [(2, .int v55), (0, .ref (a 35)), (1, .int y13)]) hx hb dX10_findWays_46 hl (k := 2) rfl ev55 (by decide) rfl (fun ls hl => ?_)
          refine lv_goto (tgt := 27) hx hb dX10_findWays_49 (by decide) ?_
          exact ih27 v55 hm _ _ hP hD hS ls (lv_sub hl [1, 2, 0] rfl)
    intro H locs hP hD hS ls hl
    unfold m_X10_findWays_b7 at hm
    refine lv_iload_n hx hb dX10_findWays_7 rfl (lv_at hl 1 rfl) ?_
    refine lv_aload_n hx hb dX10_findWays_8 rfl (lv_at hl 0 rfl) ?_
    obtain ⟨v5, h_v5, hm⟩ := bd1_inv hm
    refine cVs ⟨hx, hb, hml, hown, hts⟩ (c_X10_cells l D cI cJ cS cB a M_pasts M_typed y2 M_z M_why M_rows M_wide M_column M_found M_s v5 h_v5) (cwV 0 hts gX10_findWays_X10_cells rfl rfl rfl hd_X10_cells ⟨(Nat.le_of_ble_eq_true rfl), (Nat.le_of_ble_eq_true rfl)⟩) hK hP hD hS hA [0, 1] rfl rfl rfl hl.1 (Nat.le_of_ble_eq_true rfl) ⟨Nat.zero_le _, Nat.zero_le _⟩ 0 rfl rfl rfl rfl dX10_findWays_9 (fun H locs hP hD hS => ?_)
    refine lv_icmp_ge (tgt := 126) hx hb dX10_findWays_12 (by decide) (fun c12 => ?_) (fun c12 => ?_)
    · have hm := ip c12 hm
      cases hm
      exact rV () hx hb hr hlk hP hD hS dX10_findWays_126
    · have hm := ine c12 hm
      refine lv_aload_n hx hb dX10_findWays_15 rfl (lv_at hl 0 rfl) ?_
      refine lv_iload_n hx hb dX10_findWays_16 rfl (lv_at hl 1 rfl) ?_
      obtain ⟨v6, h_v6, hm⟩ := bd1_inv hm
      refine cVs ⟨hx, hb, hml, hown, hts⟩ (c_X10_number l D cI cJ cS cB a M_pasts M_typed y2 M_z M_why M_rows M_wide M_column M_found M_s y1 v6 h_v6) (cwV 1 hts gX10_findWays_X10_number rfl rfl rfl hd_X10_number ⟨(Nat.le_of_ble_eq_true rfl), (Nat.le_of_ble_eq_true rfl)⟩) hK hP hD hS hA [0, 1] rfl rfl rfl hl.1 (Nat.le_of_ble_eq_true rfl) ⟨Nat.zero_le _, Nat.zero_le _⟩ 0 rfl rfl rfl rfl dX10_findWays_17 (fun H locs hP hD hS => ?_)
      refine lv_if_le (tgt := 120) hx hb dX10_findWays_20 (by decide) (fun c20 => ?_) (fun c20 => ?_)
      · have hm := ip c20 hm
        exact h120 y1 y2 y3 y4 hm _ _ hP hD hS ls (lv_sub hl [0, 1] rfl)
      · have hm := ine c20 hm
        refine lv_iload_n hx hb dX10_findWays_23 rfl (lv_at hl 1 rfl) ?_
        refine lv_iconst (v := 1) hx hb dX10_findWays_24 (by decide) ?_
        refine lv_iadd hx hb dX10_findWays_25 ?_
        obtain ⟨v12, ev12, hm⟩ := lt1_inv hm
        refine ltop ev12 ?_
        refine lv_istore_n (lv' := [(2, .int v12), (0, .ref (a 35)), (1, .int y1)]) hx hb dX10_findWays_26 rfl hl (by decide) rfl (fun ls hl => ?_)
        exact h27 y1 y2 y3 y4 N v12 hm _ _ hP hD hS ls (lv_sub hl [1, 2, 0] rfl)
  refine lv_aload_n hx hb dX10_findWays_0 rfl (lv_at hl 0 rfl) ?_
  refine lv_iconst (v := 0) hx hb dX10_findWays_1 (by decide) ?_
  refine va_put (D := D) (ci := 10) (v := .int 0) (ty := .int) (C := RX10) (T := TX10) (N := 17) hx hb hts hiX10 tyX10 tyX10_ok nmX10 hown hK.1 hP hD hS 0 rfl rfl 5 (by decide) (hts (.fieldLink RX10 54 "IslandBridgesModel" "ways" "I") (List.mem_of_getElem? (i := 1) rfl)) (fun _ h9 => h9) rfl (by decide +kernel) rfl rfl (Nat.le_of_ble_eq_true rfl) dX10_findWays_2 (fun H locs hP hD hS => ?_)
  have hP : va_P D vwCl [o_M a M_pasts M_typed 0 M_z M_why M_rows M_wide M_column M_found, ai (a 36) cI 244 M_s, ai (a 39) cI 48 M_one, ai (a 40) cI 48 M_other] H := hP
  have hD : va_D A [o_M a M_pasts M_typed 0 M_z M_why M_rows M_wide M_column M_found, ai (a 36) cI 244 M_s, ai (a 39) cI 48 M_one, ai (a 40) cI 48 M_other] := hD
  refine lv_iconst (v := 0) hx hb dX10_findWays_5 (by decide) ?_
  refine lv_istore_n (lv' := [(1, .int 0), (0, .ref (a 35))]) hx hb dX10_findWays_6 rfl hl (by decide) rfl (fun ls hl => ?_)
  exact h7  N 0 0 M_one M_other hm _ _ hP hD hS ls (lv_sub hl [1, 0] rfl)
theorem hd_X10_undo : yX10_undo.cls = RX10 ∧ yX10_undo.cls ≠ "java/lang/invoke/MethodHandle" ∧ yX10_undo.cls ≠ "java/lang/invoke/VarHandle" ∧ (parseMethodDescriptor yX10_undo.desc).map (fun d => d.parameters.length) = some 0 := by decide +kernel
def m_X10_undo_j56 (N : Nat) (y8 : Int32) (y10 : Nat → Int32) (y11 : Nat → Int32) (y12 : Nat → Int32) : Option (Int32 × Int32 × Int32 × (Nat → Int32) × (Nat → Int32) × (Nat → Int32)) :=
  bd3 (m_X10_findWays N y10 y11 y12) (fun v13 v14 v15 => some ((y8, y8, v13, y10, v14, v15)))
def m_X10_undo_b22 (N : Nat) (M_past : Nat → Int32) (y3 : Int32) (y6 : Nat → Int32) (y7 : Nat → Int32) (rec22 : Int32 → (Nat → Int32) → Option (Int32 × Int32 × Int32 × (Nat → Int32) × (Nat → Int32) × (Nat → Int32))) (y2 : Int32) (y5 : Nat → Int32) : Option (Int32 × Int32 × Int32 × (Nat → Int32) × (Nat → Int32) × (Nat → Int32)) :=
  if 244 ≤ y2 then (m_X10_undo_j56 N y3 y5 y6 y7) else (rd 976 M_past ((244 * y3) + y2) (fun v16 => wr 244 y5 y2 v16 (fun v17 => lt1 (y2 + 1) (fun v18 => rec22 v18 v17))))
def m_X10_undo (N : Nat) (M_pasts : Int32) (M_ways : Int32) (M_s : Nat → Int32) (M_past : Nat → Int32) (M_one : Nat → Int32) (M_other : Nat → Int32) : Option (Int32 × Int32 × Int32 × (Nat → Int32) × (Nat → Int32) × (Nat → Int32)) :=
  if M_pasts = 0 then (some (((-2), M_pasts, M_ways, M_s, M_one, M_other))) else (lt1 (M_pasts - 1) (fun v1 => zl2 (m_X10_undo_b22 N M_past v1 M_one M_other) N 0 M_s))
set_option maxHeartbeats 4000000 in
set_option maxRecDepth 100000 in
theorem c_X10_undo (l : Launch) (D : va_G) (cI cJ cS cB : ClassId) (a : Nat → Nat) (M_pasts : Int32) (M_typed : Int32) (M_ways : Int32) (M_z : Int32) (M_why : Int32) (M_rows : Int32) (M_wide : Int32) (M_column : Int32) (M_found : Int32) (M_s : Nat → Int32) (M_past : Nat → Int32) (M_one : Nat → Int32) (M_other : Nat → Int32)  (N : Nat) (r0 : Int32) (M_pasts' : Int32) (M_ways' : Int32) (M_s' : Nat → Int32) (M_one' : Nat → Int32) (M_other' : Nat → Int32) (hm : m_X10_undo N M_pasts M_ways M_s M_past M_one M_other = some (r0, M_pasts', M_ways', M_s', M_one', M_other')) :
    mU l D (TYs cI cJ cS cB) yX10_undo wsX10_undo { frames := 2, cells := 0, slots := 0, locals := 45 } [.ref (a 35)] [o_M a M_pasts M_typed M_ways M_z M_why M_rows M_wide M_column M_found, ai (a 36) cI 244 M_s, ai (a 37) cI 976 M_past, ai (a 39) cI 48 M_one, ai (a 40) cI 48 M_other] [o_M a M_pasts' M_typed M_ways' M_z M_why M_rows M_wide M_column M_found, ai (a 36) cI 244 M_s', ai (a 37) cI 976 M_past, ai (a 39) cI 48 M_one', ai (a 40) cI 48 M_other'] (some (.int r0)) := by
  refine mG_of (cc := cX10_undo) (maxL := 2) (ret := (some .int)) (by decide) rfl rfl (Nat.le_of_ble_eq_true rfl) ?_
  intro p e s m args below meth c A hx hb hr hml hlk hnm hts hown hK hP hD hA hS ls hl
  have hl : lv_has ls 2 [(0, .ref (a 35))] := hl
  have hiX10 : ∀ w ∈ wsX100, w ∈ wsX10_undo := fun w h => List.mem_cons_of_mem _ (List.mem_append_right _ h)
  unfold m_X10_undo at hm
  have h56 : ∀ (y8 : Int32) (y9 : Int32) (y10 : Nat → Int32) (y11 : Nat → Int32) (y12 : Nat → Int32), m_X10_undo_j56 N y8 y10 y11 y12 = some (r0, M_pasts', M_ways', M_s', M_one', M_other') → ∀ (H : Heap) (locs : List Loc), va_P D vwCl [o_M a y8 M_typed y9 M_z M_why M_rows M_wide M_column M_found, ai (a 36) cI 244 y10, ai (a 37) cI 976 M_past, ai (a 39) cI 48 y11, ai (a 40) cI 48 y12] H → va_D A [o_M a y8 M_typed y9 M_z M_why M_rows M_wide M_column M_found, ai (a 36) cI 244 y10, ai (a 37) cI 976 M_past, ai (a 39) cI 48 y11, ai (a 40) cI 48 y12] → va_S A s.heap H locs → ∀ ls : Array Slot, lv_has ls 2 [(0, .ref (a 35))] → W p l e { frames := 2, cells := 0, slots := 0, locals := 45 } s m args below meth c H locs 0 0 (MQ below (eQ D (some (.int r0)) (fun _ : Unit => [o_M a M_pasts' M_typed M_ways' M_z M_why M_rows M_wide M_column M_found, ai (a 36) cI 244 M_s', ai (a 37) cI 976 M_past, ai (a 39) cI 48 M_one', ai (a 40) cI 48 M_other']) A) args s 0 0 A) (F0 m 56 ls []) := by
    intro y8 y9 y10 y11 y12 hm H locs hP hD hS ls hl
    unfold m_X10_undo_j56 at hm
    refine lv_aload_n hx hb dX10_undo_56 rfl (lv_at hl 0 rfl) ?_
    obtain ⟨v13, v14, v15, h_v13, hm⟩ := bd3_inv hm
    refine cVx ⟨hx, hb, hml, hown, hts⟩ (c_X10_findWays l D cI cJ cS cB a y8 M_typed y9 M_z M_why M_rows M_wide M_column M_found y10 y11 y12 N v13 v14 v15 h_v13) (cwV 0 hts gX10_undo_X10_findWays rfl rfl rfl hd_X10_findWays ⟨(Nat.le_of_ble_eq_true rfl), (Nat.le_of_ble_eq_true rfl)⟩) hK hP hD hS hA [0, 1, 3, 4] rfl rfl [o_M a y8 M_typed v13 M_z M_why M_rows M_wide M_column M_found, ai (a 36) cI 244 y10, ai (a 37) cI 976 M_past, ai (a 39) cI 48 v14, ai (a 40) cI 48 v15] [(true, 0), (true, 1), (false, 2), (true, 2), (true, 3)] rfl rfl rfl hl.1 (Nat.le_of_ble_eq_true rfl) ⟨Nat.zero_le _, Nat.zero_le _⟩ 0 rfl rfl rfl rfl dX10_undo_57 (fun H locs hP hD hS => ?_)
    refine lv_aload_n hx hb dX10_undo_60 rfl (lv_at hl 0 rfl) ?_
    refine va_get (D := D) (ci := 10) (v := .int y8) (C := RX10) (T := TX10) (N := 17) hx hb hts hiX10 hown hK.1 hP 0 rfl rfl 2 (by decide) (hts (.fieldLink RX10 35 "IslandBridgesModel" "pasts" "I") (List.mem_of_getElem? (i := 1) rfl)) (fun _ h9 => h9) rfl dX10_undo_61 ?_
    cases hm
    exact rI () hx hb hr hlk hP hD hS dX10_undo_64
  have h22 : ∀ (y3 : Int32) (y4 : Int32) (y6 : Nat → Int32) (y7 : Nat → Int32), ∀ (n : Nat) (y2 : Int32) (y5 : Nat → Int32), zl2 (m_X10_undo_b22 N M_past y3 y6 y7) n y2 y5 = some (r0, M_pasts', M_ways', M_s', M_one', M_other') → ∀ (H : Heap) (locs : List Loc), va_P D vwCl [o_M a y3 M_typed y4 M_z M_why M_rows M_wide M_column M_found, ai (a 36) cI 244 y5, ai (a 37) cI 976 M_past, ai (a 39) cI 48 y6, ai (a 40) cI 48 y7] H → va_D A [o_M a y3 M_typed y4 M_z M_why M_rows M_wide M_column M_found, ai (a 36) cI 244 y5, ai (a 37) cI 976 M_past, ai (a 39) cI 48 y6, ai (a 40) cI 48 y7] → va_S A s.heap H locs → ∀ ls : Array Slot, lv_has ls 2 [(0, .ref (a 35)), (1, .int y2)] → W p l e { frames := 2, cells := 0, slots := 0, locals := 45 } s m args below meth c H locs 0 0 (MQ below (eQ D (some (.int r0)) (fun _ : Unit => [o_M a M_pasts' M_typed M_ways' M_z M_why M_rows M_wide M_column M_found, ai (a 36) cI 244 M_s', ai (a 37) cI 976 M_past, ai (a 39) cI 48 M_one', ai (a 40) cI 48 M_other']) A) args s 0 0 A) (F0 m 22 ls []) := by
    intro y3 y4 y6 y7
    refine zl2_ind (fun rec22 ih22 y2 y5 hm => ?_)
    intro H locs hP hD hS ls hl
    unfold m_X10_undo_b22 at hm
    refine lv_iload_n hx hb dX10_undo_22 rfl (lv_at hl 1 rfl) ?_
    refine lv_sipush (v := 244) hx hb dX10_undo_23 (by decide) ?_
    refine lv_icmp_ge (tgt := 56) hx hb dX10_undo_26 (by decide) (fun c26 => ?_) (fun c26 => ?_)
    · have hm := ip c26 hm
      exact h56 y3 y4 y5 y6 y7 hm _ _ hP hD hS ls (lv_sub hl [0] rfl)
    · have hm := ine c26 hm
      refine lv_aload_n hx hb dX10_undo_29 rfl (lv_at hl 0 rfl) ?_
      refine va_get (D := D) (ci := 10) (v := .ref (a 36)) (C := RX10) (T := TX10) (N := 17) hx hb hts hiX10 hown hK.1 hP 0 rfl rfl 0 (by decide) (hts (.fieldLink RX10 7 "IslandBridgesModel" "s" "[I") (List.mem_of_getElem? (i := 2) rfl)) (fun _ h9 => h9) rfl dX10_undo_30 ?_
      refine lv_iload_n hx hb dX10_undo_33 rfl (lv_at hl 1 rfl) ?_
      refine lv_aload_n hx hb dX10_undo_34 rfl (lv_at hl 0 rfl) ?_
      refine va_get (D := D) (ci := 10) (v := .ref (a 37)) (C := RX10) (T := TX10) (N := 17) hx hb hts hiX10 hown hK.1 hP 0 rfl rfl 1 (by decide) (hts (.fieldLink RX10 13 "IslandBridgesModel" "past" "[I") (List.mem_of_getElem? (i := 3) rfl)) (fun _ h9 => h9) rfl dX10_undo_35 ?_
      refine lv_sipush (v := 244) hx hb dX10_undo_38 (by decide) ?_
      refine lv_aload_n hx hb dX10_undo_41 rfl (lv_at hl 0 rfl) ?_
      refine va_get (D := D) (ci := 10) (v := .int y3) (C := RX10) (T := TX10) (N := 17) hx hb hts hiX10 hown hK.1 hP 0 rfl rfl 2 (by decide) (hts (.fieldLink RX10 35 "IslandBridgesModel" "pasts" "I") (List.mem_of_getElem? (i := 1) rfl)) (fun _ h9 => h9) rfl dX10_undo_42 ?_
      refine lv_imul hx hb dX10_undo_45 ?_
      refine lv_iload_n hx hb dX10_undo_46 rfl (lv_at hl 1 rfl) ?_
      refine lv_iadd hx hb dX10_undo_47 ?_
      obtain ⟨v16, nv16, ev16, hm⟩ := rd_inv hm
      refine va_iald hx hb hK.1 hP 2 0 rfl rfl nv16 dX10_undo_48 ?_
      refine ltop ev16 ?_
      obtain ⟨v17, nv17, ev17, hm⟩ := wr_inv hm
      refine va_iast hx hb hK.1 hP hD hS 1 0 rfl rfl nv17 dX10_undo_49 (fun H locs hP hD hS => ?_)
      have hP : va_P D vwCl [o_M a y3 M_typed y4 M_z M_why M_rows M_wide M_column M_found, ai (a 36) cI 244 v17, ai (a 37) cI 976 M_past, ai (a 39) cI 48 y6, ai (a 40) cI 48 y7] H := by rw [← ev17]; exact hP
      have hD : va_D A [o_M a y3 M_typed y4 M_z M_why M_rows M_wide M_column M_found, ai (a 36) cI 244 v17, ai (a 37) cI 976 M_past, ai (a 39) cI 48 y6, ai (a 40) cI 48 y7] := by rw [← ev17]; exact hD
      obtain ⟨v18, ev18, hm⟩ := lt1_inv hm
      refine lv_iinc (v := v18) (lv' := [(1, .int v18), (0, .ref (a 35))]) hx hb dX10_undo_50 hl (k := 1) rfl ev18 (by decide) rfl (fun ls hl => ?_)
      refine lv_goto (tgt := 22) hx hb dX10_undo_53 (by decide) ?_
      exact ih22 v18 v17 hm _ _ hP hD hS ls (lv_sub hl [1, 0] rfl)
  refine lv_aload_n hx hb dX10_undo_0 rfl (lv_at hl 0 rfl) ?_
  refine va_get (D := D) (ci := 10) (v := .int M_pasts) (C := RX10) (T := TX10) (N := 17) hx hb hts hiX10 hown hK.1 hP 0 rfl rfl 2 (by decide) (hts (.fieldLink RX10 35 "IslandBridgesModel" "pasts" "I") (List.mem_of_getElem? (i := 1) rfl)) (fun _ h9 => h9) rfl dX10_undo_1 ?_
  refine lv_if_ne (tgt := 10) hx hb dX10_undo_4 (by decide) (fun c4 => ?_) (fun c4 => ?_)
  · have hm := ine c4 hm
    refine lv_aload_n hx hb dX10_undo_10 rfl (lv_at hl 0 rfl) ?_
    refine lv_dup hx hb dX10_undo_11 rfl ?_
    refine va_get (D := D) (ci := 10) (v := .int M_pasts) (C := RX10) (T := TX10) (N := 17) hx hb hts hiX10 hown hK.1 hP 0 rfl rfl 2 (by decide) (hts (.fieldLink RX10 35 "IslandBridgesModel" "pasts" "I") (List.mem_of_getElem? (i := 1) rfl)) (fun _ h9 => h9) rfl dX10_undo_12 ?_
    refine lv_iconst (v := 1) hx hb dX10_undo_15 (by decide) ?_
    refine lv_isub hx hb dX10_undo_16 ?_
    obtain ⟨v1, ev1, hm⟩ := lt1_inv hm
    refine ltop ev1 ?_
    refine va_put (D := D) (ci := 10) (v := .int v1) (ty := .int) (C := RX10) (T := TX10) (N := 17) hx hb hts hiX10 tyX10 tyX10_ok nmX10 hown hK.1 hP hD hS 0 rfl rfl 2 (by decide) (hts (.fieldLink RX10 35 "IslandBridgesModel" "pasts" "I") (List.mem_of_getElem? (i := 1) rfl)) (fun _ h9 => h9) rfl (by decide +kernel) rfl rfl (Nat.le_of_ble_eq_true rfl) dX10_undo_17 (fun H locs hP hD hS => ?_)
    have hP : va_P D vwCl [o_M a v1 M_typed M_ways M_z M_why M_rows M_wide M_column M_found, ai (a 36) cI 244 M_s, ai (a 37) cI 976 M_past, ai (a 39) cI 48 M_one, ai (a 40) cI 48 M_other] H := hP
    have hD : va_D A [o_M a v1 M_typed M_ways M_z M_why M_rows M_wide M_column M_found, ai (a 36) cI 244 M_s, ai (a 37) cI 976 M_past, ai (a 39) cI 48 M_one, ai (a 40) cI 48 M_other] := hD
    refine lv_iconst (v := 0) hx hb dX10_undo_20 (by decide) ?_
    refine lv_istore_n (lv' := [(1, .int 0), (0, .ref (a 35))]) hx hb dX10_undo_21 rfl hl (by decide) rfl (fun ls hl => ?_)
    exact h22 v1 M_ways M_one M_other N 0 M_s hm _ _ hP hD hS ls (lv_sub hl [1, 0] rfl)
  · have hm := ip c4 hm
    refine lv_bipush (v := (-2)) hx hb dX10_undo_7 (by decide) ?_
    cases hm
    exact rI () hx hb hr hlk hP hD hS dX10_undo_9
theorem hd_X10_isCell : yX10_isCell.cls = RX10 ∧ yX10_isCell.cls ≠ "java/lang/invoke/MethodHandle" ∧ yX10_isCell.cls ≠ "java/lang/invoke/VarHandle" ∧ (parseMethodDescriptor yX10_isCell.desc).map (fun d => d.parameters.length) = some 1 := by decide +kernel
def m_X10_isCell (M_s : Nat → Int32) (x1 : Int32) : Option (Int32) :=
  bd1 (m_X10_cells M_s) (fun v1 => lt1 (m_X10_in x1 0 (v1 - 1)) (fun v2 => ckb v2 (some v2)))
set_option maxHeartbeats 4000000 in
set_option maxRecDepth 100000 in
theorem c_X10_isCell (l : Launch) (D : va_G) (cI cJ cS cB : ClassId) (a : Nat → Nat) (M_pasts : Int32) (M_typed : Int32) (M_ways : Int32) (M_z : Int32) (M_why : Int32) (M_rows : Int32) (M_wide : Int32) (M_column : Int32) (M_found : Int32) (M_s : Nat → Int32) (x1 : Int32) (r0 : Int32) (hm : m_X10_isCell M_s x1 = some r0) :
    mU l D (TYs cI cJ cS cB) yX10_isCell wsX10_isCell { frames := 1, cells := 0, slots := 0, locals := 22 } [.ref (a 35), .int x1] [o_M a M_pasts M_typed M_ways M_z M_why M_rows M_wide M_column M_found, ai (a 36) cI 244 M_s] [o_M a M_pasts M_typed M_ways M_z M_why M_rows M_wide M_column M_found, ai (a 36) cI 244 M_s] (some (.int r0)) := by
  refine mG_of (cc := cX10_isCell) (maxL := 2) (ret := (some .boolean)) (by decide) rfl rfl (Nat.le_of_ble_eq_true rfl) ?_
  intro p e s m args below meth c A hx hb hr hml hlk hnm hts hown hK hP hD hA hS ls hl
  have hl : lv_has ls 2 [(0, .ref (a 35)), (1, .int x1)] := hl
  have hiX10 : ∀ w ∈ wsX100, w ∈ wsX10_isCell := fun w h => List.mem_cons_of_mem _ (List.mem_append_right _ h)
  unfold m_X10_isCell at hm
  refine lv_iload_n hx hb dX10_isCell_0 rfl (lv_at hl 1 rfl) ?_
  refine lv_iconst (v := 0) hx hb dX10_isCell_1 (by decide) ?_
  refine lv_aload_n hx hb dX10_isCell_2 rfl (lv_at hl 0 rfl) ?_
  obtain ⟨v1, h_v1, hm⟩ := bd1_inv hm
  refine cVs ⟨hx, hb, hml, hown, hts⟩ (c_X10_cells l D cI cJ cS cB a M_pasts M_typed M_ways M_z M_why M_rows M_wide M_column M_found M_s v1 h_v1) (cwV 0 hts gX10_isCell_X10_cells rfl rfl rfl hd_X10_cells ⟨(Nat.le_of_ble_eq_true rfl), (Nat.le_of_ble_eq_true rfl)⟩) hK hP hD hS hA [0, 1] rfl rfl rfl hl.1 (Nat.le_of_ble_eq_true rfl) ⟨Nat.zero_le _, Nat.zero_le _⟩ 0 rfl rfl rfl rfl dX10_isCell_3 (fun H locs hP hD hS => ?_)
  refine lv_iconst (v := 1) hx hb dX10_isCell_6 (by decide) ?_
  refine lv_isub hx hb dX10_isCell_7 ?_
  obtain ⟨v2, h_v2, hm⟩ := lt1_inv hm
  refine cSs ⟨hx, hb, hml, hown, hts⟩ (c_X10_in l D cI cJ cS cB a  x1 0 (v1 - 1) v2 h_v2) (va_cwS 3 hts gX10_isCell_X10_in rfl rfl rfl hd_X10_in ⟨(Nat.le_of_ble_eq_true rfl), (Nat.le_of_ble_eq_true rfl)⟩) hK hP hD hS hA [] rfl rfl rfl hl.1 (Nat.le_of_ble_eq_true rfl) ⟨Nat.zero_le _, Nat.zero_le _⟩ rfl dX10_isCell_8 (fun H locs hP hD hS => ?_)
  obtain ⟨hz11, hm⟩ := ckb_inv hm
  cases hm
  exact rZ () hx hb hr hlk hz11 hP hD hS dX10_isCell_11
theorem hd_X10_islands : yX10_islands.cls = RX10 ∧ yX10_islands.cls ≠ "java/lang/invoke/MethodHandle" ∧ yX10_islands.cls ≠ "java/lang/invoke/VarHandle" ∧ (parseMethodDescriptor yX10_islands.desc).map (fun d => d.parameters.length) = some 0 := by decide +kernel
def m_X10_islands_j26 (rec4 : Int32 → Int32 → Option (Int32)) (y5 : Int32) (y6 : Int32) (y7 : Int32) : Option (Int32) :=
  lt1 (y6 + y7) (fun v8 => lt1 (y5 + 1) (fun v9 => rec4 v8 v9))
def m_X10_islands_b4 (M_s : Nat → Int32) (rec4 : Int32 → Int32 → Option (Int32)) (y1 : Int32) (y2 : Int32) : Option (Int32) :=
  bd1 (m_X10_cells M_s) (fun v3 => if v3 ≤ y2 then (some y1) else (bd1 (m_X10_number M_s y2) (fun v4 => if v4 ≤ 0 then (m_X10_islands_j26 rec4 y2 y1 0) else (m_X10_islands_j26 rec4 y2 y1 1))))
def m_X10_islands (N : Nat) (M_s : Nat → Int32) : Option (Int32) :=
  zl2 (m_X10_islands_b4 M_s) N 0 0
set_option maxHeartbeats 4000000 in
set_option maxRecDepth 100000 in
theorem c_X10_islands (l : Launch) (D : va_G) (cI cJ cS cB : ClassId) (a : Nat → Nat) (M_pasts : Int32) (M_typed : Int32) (M_ways : Int32) (M_z : Int32) (M_why : Int32) (M_rows : Int32) (M_wide : Int32) (M_column : Int32) (M_found : Int32) (M_s : Nat → Int32)  (N : Nat) (r0 : Int32) (hm : m_X10_islands N M_s = some r0) :
    mU l D (TYs cI cJ cS cB) yX10_islands wsX10_islands { frames := 1, cells := 0, slots := 0, locals := 21 } [.ref (a 35)] [o_M a M_pasts M_typed M_ways M_z M_why M_rows M_wide M_column M_found, ai (a 36) cI 244 M_s] [o_M a M_pasts M_typed M_ways M_z M_why M_rows M_wide M_column M_found, ai (a 36) cI 244 M_s] (some (.int r0)) := by
  refine mG_of (cc := cX10_islands) (maxL := 3) (ret := (some .int)) (by decide) rfl rfl (Nat.le_of_ble_eq_true rfl) ?_
  intro p e s m args below meth c A hx hb hr hml hlk hnm hts hown hK hP hD hA hS ls hl
  have hl : lv_has ls 3 [(0, .ref (a 35))] := hl
  have hiX10 : ∀ w ∈ wsX100, w ∈ wsX10_islands := fun w h => List.mem_cons_of_mem _ (List.mem_append_right _ h)
  unfold m_X10_islands at hm
  have h4 : ∀ (n : Nat) (y1 : Int32) (y2 : Int32), zl2 (m_X10_islands_b4 M_s) n y1 y2 = some r0 → ∀ (H : Heap) (locs : List Loc), va_P D vwCl [o_M a M_pasts M_typed M_ways M_z M_why M_rows M_wide M_column M_found, ai (a 36) cI 244 M_s] H → va_D A [o_M a M_pasts M_typed M_ways M_z M_why M_rows M_wide M_column M_found, ai (a 36) cI 244 M_s] → va_S A s.heap H locs → ∀ ls : Array Slot, lv_has ls 3 [(0, .ref (a 35)), (1, .int y1), (2, .int y2)] → W p l e { frames := 1, cells := 0, slots := 0, locals := 21 } s m args below meth c H locs 0 0 (MQ below (eQ D (some (.int r0)) (fun _ : Unit => [o_M a M_pasts M_typed M_ways M_z M_why M_rows M_wide M_column M_found, ai (a 36) cI 244 M_s]) A) args s 0 0 A) (F0 m 4 ls []) := by
    refine zl2_ind (fun rec4 ih4 y1 y2 hm => ?_)
    have h26 : ∀ (y5 : Int32) (y6 : Int32) (y7 : Int32), m_X10_islands_j26 rec4 y5 y6 y7 = some r0 → ∀ (H : Heap) (locs : List Loc), va_P D vwCl [o_M a M_pasts M_typed M_ways M_z M_why M_rows M_wide M_column M_found, ai (a 36) cI 244 M_s] H → va_D A [o_M a M_pasts M_typed M_ways M_z M_why M_rows M_wide M_column M_found, ai (a 36) cI 244 M_s] → va_S A s.heap H locs → ∀ ls : Array Slot, lv_has ls 3 [(0, .ref (a 35)), (2, .int y5)] → W p l e { frames := 1, cells := 0, slots := 0, locals := 21 } s m args below meth c H locs 0 0 (MQ below (eQ D (some (.int r0)) (fun _ : Unit => [o_M a M_pasts M_typed M_ways M_z M_why M_rows M_wide M_column M_found, ai (a 36) cI 244 M_s]) A) args s 0 0 A) (F0 m 26 ls [.int y7, .int y6]) := by
      intro y5 y6 y7 hm H locs hP hD hS ls hl
      unfold m_X10_islands_j26 at hm
      refine lv_iadd hx hb dX10_islands_26 ?_
      obtain ⟨v8, ev8, hm⟩ := lt1_inv hm
      refine ltop ev8 ?_
      refine lv_istore_n (lv' := [(1, .int v8), (0, .ref (a 35)), (2, .int y5)]) hx hb dX10_islands_27 rfl hl (by decide) rfl (fun ls hl => ?_)
      obtain ⟨v9, ev9, hm⟩ := lt1_inv hm
      refine lv_iinc (v := v9) (lv' := [(2, .int v9), (1, .int v8), (0, .ref (a 35))]) hx hb dX10_islands_28 hl (k := 2) rfl ev9 (by decide) rfl (fun ls hl => ?_)
      refine lv_goto (tgt := 4) hx hb dX10_islands_31 (by decide) ?_
      exact ih4 v8 v9 hm _ _ hP hD hS ls (lv_sub hl [2, 1, 0] rfl)
    intro H locs hP hD hS ls hl
    unfold m_X10_islands_b4 at hm
    refine lv_iload_n hx hb dX10_islands_4 rfl (lv_at hl 2 rfl) ?_
    refine lv_aload_n hx hb dX10_islands_5 rfl (lv_at hl 0 rfl) ?_
    obtain ⟨v3, h_v3, hm⟩ := bd1_inv hm
    refine cVs ⟨hx, hb, hml, hown, hts⟩ (c_X10_cells l D cI cJ cS cB a M_pasts M_typed M_ways M_z M_why M_rows M_wide M_column M_found M_s v3 h_v3) (cwV 0 hts gX10_islands_X10_cells rfl rfl rfl hd_X10_cells ⟨(Nat.le_of_ble_eq_true rfl), (Nat.le_of_ble_eq_true rfl)⟩) hK hP hD hS hA [0, 1] rfl rfl rfl hl.1 (Nat.le_of_ble_eq_true rfl) ⟨Nat.zero_le _, Nat.zero_le _⟩ 0 rfl rfl rfl rfl dX10_islands_6 (fun H locs hP hD hS => ?_)
    refine lv_icmp_ge (tgt := 34) hx hb dX10_islands_9 (by decide) (fun c9 => ?_) (fun c9 => ?_)
    · have hm := ip c9 hm
      refine lv_iload_n hx hb dX10_islands_34 rfl (lv_at hl 1 rfl) ?_
      cases hm
      exact rI () hx hb hr hlk hP hD hS dX10_islands_35
    · have hm := ine c9 hm
      refine lv_iload_n hx hb dX10_islands_12 rfl (lv_at hl 1 rfl) ?_
      refine lv_aload_n hx hb dX10_islands_13 rfl (lv_at hl 0 rfl) ?_
      refine lv_iload_n hx hb dX10_islands_14 rfl (lv_at hl 2 rfl) ?_
      obtain ⟨v4, h_v4, hm⟩ := bd1_inv hm
      refine cVs ⟨hx, hb, hml, hown, hts⟩ (c_X10_number l D cI cJ cS cB a M_pasts M_typed M_ways M_z M_why M_rows M_wide M_column M_found M_s y2 v4 h_v4) (cwV 1 hts gX10_islands_X10_number rfl rfl rfl hd_X10_number ⟨(Nat.le_of_ble_eq_true rfl), (Nat.le_of_ble_eq_true rfl)⟩) hK hP hD hS hA [0, 1] rfl rfl rfl hl.1 (Nat.le_of_ble_eq_true rfl) ⟨Nat.zero_le _, Nat.zero_le _⟩ 0 rfl rfl rfl rfl dX10_islands_15 (fun H locs hP hD hS => ?_)
      refine lv_if_le (tgt := 25) hx hb dX10_islands_18 (by decide) (fun c18 => ?_) (fun c18 => ?_)
      · have hm := ip c18 hm
        refine lv_iconst (v := 0) hx hb dX10_islands_25 (by decide) ?_
        exact h26 y2 y1 0 hm _ _ hP hD hS ls (lv_sub hl [0, 2] rfl)
      · have hm := ine c18 hm
        refine lv_iconst (v := 1) hx hb dX10_islands_21 (by decide) ?_
        refine lv_goto (tgt := 26) hx hb dX10_islands_22 (by decide) ?_
        exact h26 y2 y1 1 hm _ _ hP hD hS ls (lv_sub hl [0, 2] rfl)
  refine lv_iconst (v := 0) hx hb dX10_islands_0 (by decide) ?_
  refine lv_istore_n (lv' := [(1, .int 0), (0, .ref (a 35))]) hx hb dX10_islands_1 rfl hl (by decide) rfl (fun ls hl => ?_)
  refine lv_iconst (v := 0) hx hb dX10_islands_2 (by decide) ?_
  refine lv_istore_n (lv' := [(2, .int 0), (1, .int 0), (0, .ref (a 35))]) hx hb dX10_islands_3 rfl hl (by decide) rfl (fun ls hl => ?_)
  exact h4  N 0 0 hm _ _ hP hD hS ls (lv_sub hl [2, 1, 0] rfl)
theorem hd_X10_clears : yX10_clears.cls = RX10 ∧ yX10_clears.cls ≠ "java/lang/invoke/MethodHandle" ∧ yX10_clears.cls ≠ "java/lang/invoke/VarHandle" ∧ (parseMethodDescriptor yX10_clears.desc).map (fun d => d.parameters.length) = some 0 := by decide +kernel
def m_X10_clears_j36 (y3 : Nat → Int32) : Option ((Nat → Int32)) :=
  wr 244 y3 2 0 (fun v4 => wr 244 v4 3 0 (fun v5 => some v5))
def m_X10_clears_b2  (rec2 : Int32 → (Nat → Int32) → Option ((Nat → Int32))) (y1 : Int32) (y2 : Nat → Int32) : Option ((Nat → Int32)) :=
  if 48 ≤ y1 then (m_X10_clears_j36 y2) else (wr 244 y2 (148 + y1) 0 (fun v6 => wr 244 v6 (196 + y1) 2 (fun v7 => lt1 (y1 + 1) (fun v8 => rec2 v8 v7))))
def m_X10_clears (N : Nat) (M_s : Nat → Int32) : Option ((Nat → Int32)) :=
  zl2 (m_X10_clears_b2) N 0 M_s
set_option maxHeartbeats 4000000 in
set_option maxRecDepth 100000 in
theorem c_X10_clears (l : Launch) (D : va_G) (cI cJ cS cB : ClassId) (a : Nat → Nat) (M_pasts : Int32) (M_typed : Int32) (M_ways : Int32) (M_z : Int32) (M_why : Int32) (M_rows : Int32) (M_wide : Int32) (M_column : Int32) (M_found : Int32) (M_s : Nat → Int32)  (N : Nat) (M_s' : Nat → Int32) (hm : m_X10_clears N M_s = some M_s') :
    mU l D (TYs cI cJ cS cB) yX10_clears wsX10_clears { frames := 0, cells := 0, slots := 0, locals := 0 } [.ref (a 35)] [o_M a M_pasts M_typed M_ways M_z M_why M_rows M_wide M_column M_found, ai (a 36) cI 244 M_s] [o_M a M_pasts M_typed M_ways M_z M_why M_rows M_wide M_column M_found, ai (a 36) cI 244 M_s'] none := by
  refine mG_of (cc := cX10_clears) (maxL := 2) (ret := none) (by decide) rfl rfl (Nat.le_of_ble_eq_true rfl) ?_
  intro p e s m args below meth c A hx hb hr hml hlk hnm hts hown hK hP hD hA hS ls hl
  have hl : lv_has ls 2 [(0, .ref (a 35))] := hl
  have hiX10 : ∀ w ∈ wsX100, w ∈ wsX10_clears := fun w h => List.mem_cons_of_mem _ (List.mem_append_right _ h)
  unfold m_X10_clears at hm
  have h36 : ∀ (y3 : Nat → Int32), m_X10_clears_j36 y3 = some M_s' → ∀ (H : Heap) (locs : List Loc), va_P D vwCl [o_M a M_pasts M_typed M_ways M_z M_why M_rows M_wide M_column M_found, ai (a 36) cI 244 y3] H → va_D A [o_M a M_pasts M_typed M_ways M_z M_why M_rows M_wide M_column M_found, ai (a 36) cI 244 y3] → va_S A s.heap H locs → ∀ ls : Array Slot, lv_has ls 2 [(0, .ref (a 35))] → W p l e { frames := 0, cells := 0, slots := 0, locals := 0 } s m args below meth c H locs 0 0 (MQ below (eQ D none (fun _ : Unit => [o_M a M_pasts M_typed M_ways M_z M_why M_rows M_wide M_column M_found, ai (a 36) cI 244 M_s']) A) args s 0 0 A) (F0 m 36 ls []) := by
    intro y3 hm H locs hP hD hS ls hl
    unfold m_X10_clears_j36 at hm
    refine lv_aload_n hx hb dX10_clears_36 rfl (lv_at hl 0 rfl) ?_
    refine va_get (D := D) (ci := 10) (v := .ref (a 36)) (C := RX10) (T := TX10) (N := 17) hx hb hts hiX10 hown hK.1 hP 0 rfl rfl 0 (by decide) (hts (.fieldLink RX10 7 "IslandBridgesModel" "s" "[I") (List.mem_of_getElem? (i := 1) rfl)) (fun _ h9 => h9) rfl dX10_clears_37 ?_
    refine lv_iconst (v := 2) hx hb dX10_clears_40 (by decide) ?_
    refine lv_iconst (v := 0) hx hb dX10_clears_41 (by decide) ?_
    obtain ⟨v4, nv4, ev4, hm⟩ := wr_inv hm
    refine va_iast hx hb hK.1 hP hD hS 1 0 rfl rfl nv4 dX10_clears_42 (fun H locs hP hD hS => ?_)
    have hP : va_P D vwCl [o_M a M_pasts M_typed M_ways M_z M_why M_rows M_wide M_column M_found, ai (a 36) cI 244 v4] H := by rw [← ev4]; exact hP
    have hD : va_D A [o_M a M_pasts M_typed M_ways M_z M_why M_rows M_wide M_column M_found, ai (a 36) cI 244 v4] := by rw [← ev4]; exact hD
    refine lv_aload_n hx hb dX10_clears_43 rfl (lv_at hl 0 rfl) ?_
    refine va_get (D := D) (ci := 10) (v := .ref (a 36)) (C := RX10) (T := TX10) (N := 17) hx hb hts hiX10 hown hK.1 hP 0 rfl rfl 0 (by decide) (hts (.fieldLink RX10 7 "IslandBridgesModel" "s" "[I") (List.mem_of_getElem? (i := 1) rfl)) (fun _ h9 => h9) rfl dX10_clears_44 ?_
    refine lv_iconst (v := 3) hx hb dX10_clears_47 (by decide) ?_
    refine lv_iconst (v := 0) hx hb dX10_clears_48 (by decide) ?_
    obtain ⟨v5, nv5, ev5, hm⟩ := wr_inv hm
    refine va_iast hx hb hK.1 hP hD hS 1 0 rfl rfl nv5 dX10_clears_49 (fun H locs hP hD hS => ?_)
    have hP : va_P D vwCl [o_M a M_pasts M_typed M_ways M_z M_why M_rows M_wide M_column M_found, ai (a 36) cI 244 v5] H := by rw [← ev5]; exact hP
    have hD : va_D A [o_M a M_pasts M_typed M_ways M_z M_why M_rows M_wide M_column M_found, ai (a 36) cI 244 v5] := by rw [← ev5]; exact hD
    cases hm
    exact rV () hx hb hr hlk hP hD hS dX10_clears_50
  have h2 : ∀ (n : Nat) (y1 : Int32) (y2 : Nat → Int32), zl2 (m_X10_clears_b2) n y1 y2 = some M_s' → ∀ (H : Heap) (locs : List Loc), va_P D vwCl [o_M a M_pasts M_typed M_ways M_z M_why M_rows M_wide M_column M_found, ai (a 36) cI 244 y2] H → va_D A [o_M a M_pasts M_typed M_ways M_z M_why M_rows M_wide M_column M_found, ai (a 36) cI 244 y2] → va_S A s.heap H locs → ∀ ls : Array Slot, lv_has ls 2 [(0, .ref (a 35)), (1, .int y1)] → W p l e { frames := 0, cells := 0, slots := 0, locals := 0 } s m args below meth c H locs 0 0 (MQ below (eQ D none (fun _ : Unit => [o_M a M_pasts M_typed M_ways M_z M_why M_rows M_wide M_column M_found, ai (a 36) cI 244 M_s']) A) args s 0 0 A) (F0 m 2 ls []) := by
    refine zl2_ind (fun rec2 ih2 y1 y2 hm => ?_)
    intro H locs hP hD hS ls hl
    unfold m_X10_clears_b2 at hm
    refine lv_iload_n hx hb dX10_clears_2 rfl (lv_at hl 1 rfl) ?_
    refine lv_bipush (v := 48) hx hb dX10_clears_3 (by decide) ?_
    refine lv_icmp_ge (tgt := 36) hx hb dX10_clears_5 (by decide) (fun c5 => ?_) (fun c5 => ?_)
    · have hm := ip c5 hm
      exact h36 y2 hm _ _ hP hD hS ls (lv_sub hl [0] rfl)
    · have hm := ine c5 hm
      refine lv_aload_n hx hb dX10_clears_8 rfl (lv_at hl 0 rfl) ?_
      refine va_get (D := D) (ci := 10) (v := .ref (a 36)) (C := RX10) (T := TX10) (N := 17) hx hb hts hiX10 hown hK.1 hP 0 rfl rfl 0 (by decide) (hts (.fieldLink RX10 7 "IslandBridgesModel" "s" "[I") (List.mem_of_getElem? (i := 1) rfl)) (fun _ h9 => h9) rfl dX10_clears_9 ?_
      refine lv_sipush (v := 148) hx hb dX10_clears_12 (by decide) ?_
      refine lv_iload_n hx hb dX10_clears_15 rfl (lv_at hl 1 rfl) ?_
      refine lv_iadd hx hb dX10_clears_16 ?_
      refine lv_iconst (v := 0) hx hb dX10_clears_17 (by decide) ?_
      obtain ⟨v6, nv6, ev6, hm⟩ := wr_inv hm
      refine va_iast hx hb hK.1 hP hD hS 1 0 rfl rfl nv6 dX10_clears_18 (fun H locs hP hD hS => ?_)
      have hP : va_P D vwCl [o_M a M_pasts M_typed M_ways M_z M_why M_rows M_wide M_column M_found, ai (a 36) cI 244 v6] H := by rw [← ev6]; exact hP
      have hD : va_D A [o_M a M_pasts M_typed M_ways M_z M_why M_rows M_wide M_column M_found, ai (a 36) cI 244 v6] := by rw [← ev6]; exact hD
      refine lv_aload_n hx hb dX10_clears_19 rfl (lv_at hl 0 rfl) ?_
      refine va_get (D := D) (ci := 10) (v := .ref (a 36)) (C := RX10) (T := TX10) (N := 17) hx hb hts hiX10 hown hK.1 hP 0 rfl rfl 0 (by decide) (hts (.fieldLink RX10 7 "IslandBridgesModel" "s" "[I") (List.mem_of_getElem? (i := 1) rfl)) (fun _ h9 => h9) rfl dX10_clears_20 ?_
      refine lv_sipush (v := 196) hx hb dX10_clears_23 (by decide) ?_
      refine lv_iload_n hx hb dX10_clears_26 rfl (lv_at hl 1 rfl) ?_
      refine lv_iadd hx hb dX10_clears_27 ?_
      refine lv_iconst (v := 2) hx hb dX10_clears_28 (by decide) ?_
      obtain ⟨v7, nv7, ev7, hm⟩ := wr_inv hm
      refine va_iast hx hb hK.1 hP hD hS 1 0 rfl rfl nv7 dX10_clears_29 (fun H locs hP hD hS => ?_)
      have hP : va_P D vwCl [o_M a M_pasts M_typed M_ways M_z M_why M_rows M_wide M_column M_found, ai (a 36) cI 244 v7] H := by rw [← ev7]; exact hP
      have hD : va_D A [o_M a M_pasts M_typed M_ways M_z M_why M_rows M_wide M_column M_found, ai (a 36) cI 244 v7] := by rw [← ev7]; exact hD
      obtain ⟨v8, ev8, hm⟩ := lt1_inv hm
      refine lv_iinc (v := v8) (lv' := [(1, .int v8), (0, .ref (a 35))]) hx hb dX10_clears_30 hl (k := 1) rfl ev8 (by decide) rfl (fun ls hl => ?_)
      refine lv_goto (tgt := 2) hx hb dX10_clears_33 (by decide) ?_
      exact ih2 v8 v7 hm _ _ hP hD hS ls (lv_sub hl [1, 0] rfl)
  refine lv_iconst (v := 0) hx hb dX10_clears_0 (by decide) ?_
  refine lv_istore_n (lv' := [(1, .int 0), (0, .ref (a 35))]) hx hb dX10_clears_1 rfl hl (by decide) rfl (fun ls hl => ?_)
  exact h2  N 0 M_s hm _ _ hP hD hS ls (lv_sub hl [1, 0] rfl)
theorem hd_X10_anew : yX10_anew.cls = RX10 ∧ yX10_anew.cls ≠ "java/lang/invoke/MethodHandle" ∧ yX10_anew.cls ≠ "java/lang/invoke/VarHandle" ∧ (parseMethodDescriptor yX10_anew.desc).map (fun d => d.parameters.length) = some 0 := by decide +kernel
def m_X10_anew (N : Nat) (M_s : Nat → Int32) (M_one : Nat → Int32) (M_other : Nat → Int32) : Option (Int32 × (Nat → Int32) × (Nat → Int32) × (Nat → Int32)) :=
  bd3 (m_X10_findWays N M_s M_one M_other) (fun v1 v2 v3 => bd1 (m_X10_clears N M_s) (fun v4 => some ((v1, v4, v2, v3))))
set_option maxHeartbeats 4000000 in
set_option maxRecDepth 100000 in
theorem c_X10_anew (l : Launch) (D : va_G) (cI cJ cS cB : ClassId) (a : Nat → Nat) (M_pasts : Int32) (M_typed : Int32) (M_ways : Int32) (M_z : Int32) (M_why : Int32) (M_rows : Int32) (M_wide : Int32) (M_column : Int32) (M_found : Int32) (M_s : Nat → Int32) (M_one : Nat → Int32) (M_other : Nat → Int32)  (N : Nat) (M_ways' : Int32) (M_s' : Nat → Int32) (M_one' : Nat → Int32) (M_other' : Nat → Int32) (hm : m_X10_anew N M_s M_one M_other = some (M_ways', M_s', M_one', M_other')) :
    mU l D (TYs cI cJ cS cB) yX10_anew wsX10_anew { frames := 2, cells := 0, slots := 0, locals := 45 } [.ref (a 35)] [o_M a M_pasts M_typed M_ways M_z M_why M_rows M_wide M_column M_found, ai (a 36) cI 244 M_s, ai (a 39) cI 48 M_one, ai (a 40) cI 48 M_other] [o_M a M_pasts M_typed M_ways' M_z M_why M_rows M_wide M_column M_found, ai (a 36) cI 244 M_s', ai (a 39) cI 48 M_one', ai (a 40) cI 48 M_other'] none := by
  refine mG_of (cc := cX10_anew) (maxL := 1) (ret := none) (by decide) rfl rfl (Nat.le_of_ble_eq_true rfl) ?_
  intro p e s m args below meth c A hx hb hr hml hlk hnm hts hown hK hP hD hA hS ls hl
  have hl : lv_has ls 1 [(0, .ref (a 35))] := hl
  have hiX10 : ∀ w ∈ wsX100, w ∈ wsX10_anew := fun w h => List.mem_cons_of_mem _ (List.mem_append_right _ h)
  unfold m_X10_anew at hm
  refine lv_aload_n hx hb dX10_anew_0 rfl (lv_at hl 0 rfl) ?_
  obtain ⟨v1, v2, v3, h_v1, hm⟩ := bd3_inv hm
  refine cVx ⟨hx, hb, hml, hown, hts⟩ (c_X10_findWays l D cI cJ cS cB a M_pasts M_typed M_ways M_z M_why M_rows M_wide M_column M_found M_s M_one M_other N v1 v2 v3 h_v1) (cwV 0 hts gX10_anew_X10_findWays rfl rfl rfl hd_X10_findWays ⟨(Nat.le_of_ble_eq_true rfl), (Nat.le_of_ble_eq_true rfl)⟩) hK hP hD hS hA [0, 1, 2, 3] rfl rfl [o_M a M_pasts M_typed v1 M_z M_why M_rows M_wide M_column M_found, ai (a 36) cI 244 M_s, ai (a 39) cI 48 v2, ai (a 40) cI 48 v3] [(true, 0), (true, 1), (true, 2), (true, 3)] rfl rfl rfl hl.1 (Nat.le_of_ble_eq_true rfl) ⟨Nat.zero_le _, Nat.zero_le _⟩ 0 rfl rfl rfl rfl dX10_anew_1 (fun H locs hP hD hS => ?_)
  refine lv_aload_n hx hb dX10_anew_4 rfl (lv_at hl 0 rfl) ?_
  obtain ⟨v4, h_v4, hm⟩ := bd1_inv hm
  refine cVx ⟨hx, hb, hml, hown, hts⟩ (c_X10_clears l D cI cJ cS cB a M_pasts M_typed v1 M_z M_why M_rows M_wide M_column M_found M_s N v4 h_v4) (cwV 0 hts gX10_anew_X10_clears rfl rfl rfl hd_X10_clears ⟨(Nat.le_of_ble_eq_true rfl), (Nat.le_of_ble_eq_true rfl)⟩) hK hP hD hS hA [0, 1] rfl rfl [o_M a M_pasts M_typed v1 M_z M_why M_rows M_wide M_column M_found, ai (a 36) cI 244 v4, ai (a 39) cI 48 v2, ai (a 40) cI 48 v3] [(true, 0), (true, 1), (false, 2), (false, 3)] rfl rfl rfl hl.1 (Nat.le_of_ble_eq_true rfl) ⟨Nat.zero_le _, Nat.zero_le _⟩ 0 rfl rfl rfl rfl dX10_anew_5 (fun H locs hP hD hS => ?_)
  cases hm
  exact rV () hx hb hr hlk hP hD hS dX10_anew_8
theorem hd_X10_empties : yX10_empties.cls = RX10 ∧ yX10_empties.cls ≠ "java/lang/invoke/MethodHandle" ∧ yX10_empties.cls ≠ "java/lang/invoke/VarHandle" ∧ (parseMethodDescriptor yX10_empties.desc).map (fun d => d.parameters.length) = some 0 := by decide +kernel
def m_X10_empties_b2  (rec2 : Int32 → (Nat → Int32) → Option ((Nat → Int32))) (y1 : Int32) (y2 : Nat → Int32) : Option ((Nat → Int32)) :=
  if 144 ≤ y1 then (some y2) else (wr 244 y2 (4 + y1) 0 (fun v3 => lt1 (y1 + 1) (fun v4 => rec2 v4 v3)))
def m_X10_empties (N : Nat) (M_s : Nat → Int32) : Option ((Nat → Int32)) :=
  zl2 (m_X10_empties_b2) N 0 M_s
set_option maxHeartbeats 4000000 in
set_option maxRecDepth 100000 in
theorem c_X10_empties (l : Launch) (D : va_G) (cI cJ cS cB : ClassId) (a : Nat → Nat) (M_pasts : Int32) (M_typed : Int32) (M_ways : Int32) (M_z : Int32) (M_why : Int32) (M_rows : Int32) (M_wide : Int32) (M_column : Int32) (M_found : Int32) (M_s : Nat → Int32)  (N : Nat) (M_s' : Nat → Int32) (hm : m_X10_empties N M_s = some M_s') :
    mU l D (TYs cI cJ cS cB) yX10_empties wsX10_empties { frames := 0, cells := 0, slots := 0, locals := 0 } [.ref (a 35)] [o_M a M_pasts M_typed M_ways M_z M_why M_rows M_wide M_column M_found, ai (a 36) cI 244 M_s] [o_M a M_pasts M_typed M_ways M_z M_why M_rows M_wide M_column M_found, ai (a 36) cI 244 M_s'] none := by
  refine mG_of (cc := cX10_empties) (maxL := 2) (ret := none) (by decide) rfl rfl (Nat.le_of_ble_eq_true rfl) ?_
  intro p e s m args below meth c A hx hb hr hml hlk hnm hts hown hK hP hD hA hS ls hl
  have hl : lv_has ls 2 [(0, .ref (a 35))] := hl
  have hiX10 : ∀ w ∈ wsX100, w ∈ wsX10_empties := fun w h => List.mem_cons_of_mem _ (List.mem_append_right _ h)
  unfold m_X10_empties at hm
  have h2 : ∀ (n : Nat) (y1 : Int32) (y2 : Nat → Int32), zl2 (m_X10_empties_b2) n y1 y2 = some M_s' → ∀ (H : Heap) (locs : List Loc), va_P D vwCl [o_M a M_pasts M_typed M_ways M_z M_why M_rows M_wide M_column M_found, ai (a 36) cI 244 y2] H → va_D A [o_M a M_pasts M_typed M_ways M_z M_why M_rows M_wide M_column M_found, ai (a 36) cI 244 y2] → va_S A s.heap H locs → ∀ ls : Array Slot, lv_has ls 2 [(0, .ref (a 35)), (1, .int y1)] → W p l e { frames := 0, cells := 0, slots := 0, locals := 0 } s m args below meth c H locs 0 0 (MQ below (eQ D none (fun _ : Unit => [o_M a M_pasts M_typed M_ways M_z M_why M_rows M_wide M_column M_found, ai (a 36) cI 244 M_s']) A) args s 0 0 A) (F0 m 2 ls []) := by
    refine zl2_ind (fun rec2 ih2 y1 y2 hm => ?_)
    intro H locs hP hD hS ls hl
    unfold m_X10_empties_b2 at hm
    refine lv_iload_n hx hb dX10_empties_2 rfl (lv_at hl 1 rfl) ?_
    refine lv_sipush (v := 144) hx hb dX10_empties_3 (by decide) ?_
    refine lv_icmp_ge (tgt := 24) hx hb dX10_empties_6 (by decide) (fun c6 => ?_) (fun c6 => ?_)
    · have hm := ip c6 hm
      cases hm
      exact rV () hx hb hr hlk hP hD hS dX10_empties_24
    · have hm := ine c6 hm
      refine lv_aload_n hx hb dX10_empties_9 rfl (lv_at hl 0 rfl) ?_
      refine va_get (D := D) (ci := 10) (v := .ref (a 36)) (C := RX10) (T := TX10) (N := 17) hx hb hts hiX10 hown hK.1 hP 0 rfl rfl 0 (by decide) (hts (.fieldLink RX10 7 "IslandBridgesModel" "s" "[I") (List.mem_of_getElem? (i := 1) rfl)) (fun _ h9 => h9) rfl dX10_empties_10 ?_
      refine lv_iconst (v := 4) hx hb dX10_empties_13 (by decide) ?_
      refine lv_iload_n hx hb dX10_empties_14 rfl (lv_at hl 1 rfl) ?_
      refine lv_iadd hx hb dX10_empties_15 ?_
      refine lv_iconst (v := 0) hx hb dX10_empties_16 (by decide) ?_
      obtain ⟨v3, nv3, ev3, hm⟩ := wr_inv hm
      refine va_iast hx hb hK.1 hP hD hS 1 0 rfl rfl nv3 dX10_empties_17 (fun H locs hP hD hS => ?_)
      have hP : va_P D vwCl [o_M a M_pasts M_typed M_ways M_z M_why M_rows M_wide M_column M_found, ai (a 36) cI 244 v3] H := by rw [← ev3]; exact hP
      have hD : va_D A [o_M a M_pasts M_typed M_ways M_z M_why M_rows M_wide M_column M_found, ai (a 36) cI 244 v3] := by rw [← ev3]; exact hD
      obtain ⟨v4, ev4, hm⟩ := lt1_inv hm
      refine lv_iinc (v := v4) (lv' := [(1, .int v4), (0, .ref (a 35))]) hx hb dX10_empties_18 hl (k := 1) rfl ev4 (by decide) rfl (fun ls hl => ?_)
      refine lv_goto (tgt := 2) hx hb dX10_empties_21 (by decide) ?_
      exact ih2 v4 v3 hm _ _ hP hD hS ls (lv_sub hl [1, 0] rfl)
  refine lv_iconst (v := 0) hx hb dX10_empties_0 (by decide) ?_
  refine lv_istore_n (lv' := [(1, .int 0), (0, .ref (a 35))]) hx hb dX10_empties_1 rfl hl (by decide) rfl (fun ls hl => ?_)
  exact h2  N 0 M_s hm _ _ hP hD hS ls (lv_sub hl [1, 0] rfl)
theorem hd_X10_begin : yX10_begin.cls = RX10 ∧ yX10_begin.cls ≠ "java/lang/invoke/MethodHandle" ∧ yX10_begin.cls ≠ "java/lang/invoke/VarHandle" ∧ (parseMethodDescriptor yX10_begin.desc).map (fun d => d.parameters.length) = some 2 := by decide +kernel
def m_X10_begin (N : Nat) (M_pasts : Int32) (M_ways : Int32) (M_s : Nat → Int32) (M_past : Nat → Int32) (M_one : Nat → Int32) (M_other : Nat → Int32) (x1 : Int32) (x2 : Int32) : Option (Int32 × Int32 × Int32 × (Nat → Int32) × (Nat → Int32) × (Nat → Int32) × (Nat → Int32)) :=
  lt1 (m_X10_in x1 3 12) (fun v1 => if v1 = 0 then (some (((-1), M_pasts, M_ways, M_s, M_past, M_one, M_other))) else (lt1 (m_X10_in x2 3 12) (fun v2 => if v2 = 0 then (some (((-1), M_pasts, M_ways, M_s, M_past, M_one, M_other))) else (bd2 (m_X10_notes N M_pasts M_s M_past) (fun v3 v4 => bd1 (m_X10_islands N M_s) (fun v5 => wr 244 M_s 0 x1 (fun v6 => wr 244 v6 1 x2 (fun v7 => bd1 (m_X10_empties N v7) (fun v8 => bd4 (m_X10_anew N v8 M_one M_other) (fun v9 v10 v11 v12 => some ((v5, v3, v9, v10, v4, v11, v12))))))))))))
set_option maxHeartbeats 4000000 in
set_option maxRecDepth 100000 in
theorem c_X10_begin (l : Launch) (D : va_G) (cI cJ cS cB : ClassId) (a : Nat → Nat) (M_pasts : Int32) (M_typed : Int32) (M_ways : Int32) (M_z : Int32) (M_why : Int32) (M_rows : Int32) (M_wide : Int32) (M_column : Int32) (M_found : Int32) (M_s : Nat → Int32) (M_past : Nat → Int32) (M_one : Nat → Int32) (M_other : Nat → Int32) (x1 : Int32) (x2 : Int32) (N : Nat) (r0 : Int32) (M_pasts' : Int32) (M_ways' : Int32) (M_s' : Nat → Int32) (M_past' : Nat → Int32) (M_one' : Nat → Int32) (M_other' : Nat → Int32) (hm : m_X10_begin N M_pasts M_ways M_s M_past M_one M_other x1 x2 = some (r0, M_pasts', M_ways', M_s', M_past', M_one', M_other')) :
    mU l D (TYs cI cJ cS cB) yX10_begin wsX10_begin { frames := 3, cells := 0, slots := 0, locals := 65 } [.ref (a 35), .int x1, .int x2] [o_M a M_pasts M_typed M_ways M_z M_why M_rows M_wide M_column M_found, ai (a 36) cI 244 M_s, ai (a 37) cI 976 M_past, ai (a 39) cI 48 M_one, ai (a 40) cI 48 M_other] [o_M a M_pasts' M_typed M_ways' M_z M_why M_rows M_wide M_column M_found, ai (a 36) cI 244 M_s', ai (a 37) cI 976 M_past', ai (a 39) cI 48 M_one', ai (a 40) cI 48 M_other'] (some (.int r0)) := by
  refine mG_of (cc := cX10_begin) (maxL := 4) (ret := (some .int)) (by decide) rfl rfl (Nat.le_of_ble_eq_true rfl) ?_
  intro p e s m args below meth c A hx hb hr hml hlk hnm hts hown hK hP hD hA hS ls hl
  have hl : lv_has ls 4 [(0, .ref (a 35)), (1, .int x1), (2, .int x2)] := hl
  have hiX10 : ∀ w ∈ wsX100, w ∈ wsX10_begin := fun w h => List.mem_cons_of_mem _ (List.mem_append_right _ h)
  unfold m_X10_begin at hm
  refine lv_iload_n hx hb dX10_begin_0 rfl (lv_at hl 1 rfl) ?_
  refine lv_iconst (v := 3) hx hb dX10_begin_1 (by decide) ?_
  refine lv_bipush (v := 12) hx hb dX10_begin_2 (by decide) ?_
  obtain ⟨v1, h_v1, hm⟩ := lt1_inv hm
  refine cSs ⟨hx, hb, hml, hown, hts⟩ (c_X10_in l D cI cJ cS cB a  x1 3 12 v1 h_v1) (va_cwS 3 hts gX10_begin_X10_in rfl rfl rfl hd_X10_in ⟨(Nat.le_of_ble_eq_true rfl), (Nat.le_of_ble_eq_true rfl)⟩) hK hP hD hS hA [] rfl rfl rfl hl.1 (Nat.le_of_ble_eq_true rfl) ⟨Nat.zero_le _, Nat.zero_le _⟩ rfl dX10_begin_4 (fun H locs hP hD hS => ?_)
  refine lv_if_eq (tgt := 20) hx hb dX10_begin_7 (by decide) (fun c7 => ?_) (fun c7 => ?_)
  · have hm := ip c7 hm
    refine lv_iconst (v := (-1)) hx hb dX10_begin_20 (by decide) ?_
    cases hm
    exact rI () hx hb hr hlk hP hD hS dX10_begin_21
  · have hm := ine c7 hm
    refine lv_iload_n hx hb dX10_begin_10 rfl (lv_at hl 2 rfl) ?_
    refine lv_iconst (v := 3) hx hb dX10_begin_11 (by decide) ?_
    refine lv_bipush (v := 12) hx hb dX10_begin_12 (by decide) ?_
    obtain ⟨v2, h_v2, hm⟩ := lt1_inv hm
    refine cSs ⟨hx, hb, hml, hown, hts⟩ (c_X10_in l D cI cJ cS cB a  x2 3 12 v2 h_v2) (va_cwS 3 hts gX10_begin_X10_in rfl rfl rfl hd_X10_in ⟨(Nat.le_of_ble_eq_true rfl), (Nat.le_of_ble_eq_true rfl)⟩) hK hP hD hS hA [] rfl rfl rfl hl.1 (Nat.le_of_ble_eq_true rfl) ⟨Nat.zero_le _, Nat.zero_le _⟩ rfl dX10_begin_14 (fun H locs hP hD hS => ?_)
    refine lv_if_ne (tgt := 22) hx hb dX10_begin_17 (by decide) (fun c17 => ?_) (fun c17 => ?_)
    · have hm := ine c17 hm
      refine lv_aload_n hx hb dX10_begin_22 rfl (lv_at hl 0 rfl) ?_
      obtain ⟨v3, v4, h_v3, hm⟩ := bd2_inv hm
      refine cVx ⟨hx, hb, hml, hown, hts⟩ (c_X10_notes l D cI cJ cS cB a M_pasts M_typed M_ways M_z M_why M_rows M_wide M_column M_found M_s M_past N v3 v4 h_v3) (cwV 0 hts gX10_begin_X10_notes rfl rfl rfl hd_X10_notes ⟨(Nat.le_of_ble_eq_true rfl), (Nat.le_of_ble_eq_true rfl)⟩) hK hP hD hS hA [0, 1, 2] rfl rfl [o_M a v3 M_typed M_ways M_z M_why M_rows M_wide M_column M_found, ai (a 36) cI 244 M_s, ai (a 37) cI 976 v4, ai (a 39) cI 48 M_one, ai (a 40) cI 48 M_other] [(true, 0), (true, 1), (true, 2), (false, 3), (false, 4)] rfl rfl rfl hl.1 (Nat.le_of_ble_eq_true rfl) ⟨Nat.zero_le _, Nat.zero_le _⟩ 0 rfl rfl rfl rfl dX10_begin_23 (fun H locs hP hD hS => ?_)
      refine lv_aload_n hx hb dX10_begin_26 rfl (lv_at hl 0 rfl) ?_
      obtain ⟨v5, h_v5, hm⟩ := bd1_inv hm
      refine cVs ⟨hx, hb, hml, hown, hts⟩ (c_X10_islands l D cI cJ cS cB a v3 M_typed M_ways M_z M_why M_rows M_wide M_column M_found M_s N v5 h_v5) (cwV 0 hts gX10_begin_X10_islands rfl rfl rfl hd_X10_islands ⟨(Nat.le_of_ble_eq_true rfl), (Nat.le_of_ble_eq_true rfl)⟩) hK hP hD hS hA [0, 1] rfl rfl rfl hl.1 (Nat.le_of_ble_eq_true rfl) ⟨Nat.zero_le _, Nat.zero_le _⟩ 0 rfl rfl rfl rfl dX10_begin_27 (fun H locs hP hD hS => ?_)
      refine lv_istore_n (lv' := [(3, .int v5), (0, .ref (a 35)), (1, .int x1), (2, .int x2)]) hx hb dX10_begin_30 rfl hl (by decide) rfl (fun ls hl => ?_)
      refine lv_aload_n hx hb dX10_begin_31 rfl (lv_at hl 1 rfl) ?_
      refine va_get (D := D) (ci := 10) (v := .ref (a 36)) (C := RX10) (T := TX10) (N := 17) hx hb hts hiX10 hown hK.1 hP 0 rfl rfl 0 (by decide) (hts (.fieldLink RX10 7 "IslandBridgesModel" "s" "[I") (List.mem_of_getElem? (i := 1) rfl)) (fun _ h9 => h9) rfl dX10_begin_32 ?_
      refine lv_iconst (v := 0) hx hb dX10_begin_35 (by decide) ?_
      refine lv_iload_n hx hb dX10_begin_36 rfl (lv_at hl 2 rfl) ?_
      obtain ⟨v6, nv6, ev6, hm⟩ := wr_inv hm
      refine va_iast hx hb hK.1 hP hD hS 1 0 rfl rfl nv6 dX10_begin_37 (fun H locs hP hD hS => ?_)
      have hP : va_P D vwCl [o_M a v3 M_typed M_ways M_z M_why M_rows M_wide M_column M_found, ai (a 36) cI 244 v6, ai (a 37) cI 976 v4, ai (a 39) cI 48 M_one, ai (a 40) cI 48 M_other] H := by rw [← ev6]; exact hP
      have hD : va_D A [o_M a v3 M_typed M_ways M_z M_why M_rows M_wide M_column M_found, ai (a 36) cI 244 v6, ai (a 37) cI 976 v4, ai (a 39) cI 48 M_one, ai (a 40) cI 48 M_other] := by rw [← ev6]; exact hD
      refine lv_aload_n hx hb dX10_begin_38 rfl (lv_at hl 1 rfl) ?_
      refine va_get (D := D) (ci := 10) (v := .ref (a 36)) (C := RX10) (T := TX10) (N := 17) hx hb hts hiX10 hown hK.1 hP 0 rfl rfl 0 (by decide) (hts (.fieldLink RX10 7 "IslandBridgesModel" "s" "[I") (List.mem_of_getElem? (i := 1) rfl)) (fun _ h9 => h9) rfl dX10_begin_39 ?_
      refine lv_iconst (v := 1) hx hb dX10_begin_42 (by decide) ?_
      refine lv_iload_n hx hb dX10_begin_43 rfl (lv_at hl 3 rfl) ?_
      obtain ⟨v7, nv7, ev7, hm⟩ := wr_inv hm
      refine va_iast hx hb hK.1 hP hD hS 1 0 rfl rfl nv7 dX10_begin_44 (fun H locs hP hD hS => ?_)
      have hP : va_P D vwCl [o_M a v3 M_typed M_ways M_z M_why M_rows M_wide M_column M_found, ai (a 36) cI 244 v7, ai (a 37) cI 976 v4, ai (a 39) cI 48 M_one, ai (a 40) cI 48 M_other] H := by rw [← ev7]; exact hP
      have hD : va_D A [o_M a v3 M_typed M_ways M_z M_why M_rows M_wide M_column M_found, ai (a 36) cI 244 v7, ai (a 37) cI 976 v4, ai (a 39) cI 48 M_one, ai (a 40) cI 48 M_other] := by rw [← ev7]; exact hD
      refine lv_aload_n hx hb dX10_begin_45 rfl (lv_at hl 1 rfl) ?_
      obtain ⟨v8, h_v8, hm⟩ := bd1_inv hm
      refine cVx ⟨hx, hb, hml, hown, hts⟩ (c_X10_empties l D cI cJ cS cB a v3 M_typed M_ways M_z M_why M_rows M_wide M_column M_found v7 N v8 h_v8) (cwV 0 hts gX10_begin_X10_empties rfl rfl rfl hd_X10_empties ⟨(Nat.le_of_ble_eq_true rfl), (Nat.le_of_ble_eq_true rfl)⟩) hK hP hD hS hA [0, 1] rfl rfl [o_M a v3 M_typed M_ways M_z M_why M_rows M_wide M_column M_found, ai (a 36) cI 244 v8, ai (a 37) cI 976 v4, ai (a 39) cI 48 M_one, ai (a 40) cI 48 M_other] [(true, 0), (true, 1), (false, 2), (false, 3), (false, 4)] rfl rfl rfl hl.1 (Nat.le_of_ble_eq_true rfl) ⟨Nat.zero_le _, Nat.zero_le _⟩ 0 rfl rfl rfl rfl dX10_begin_46 (fun H locs hP hD hS => ?_)
      refine lv_aload_n hx hb dX10_begin_49 rfl (lv_at hl 1 rfl) ?_
      obtain ⟨v9, v10, v11, v12, h_v9, hm⟩ := bd4_inv hm
      refine cVx ⟨hx, hb, hml, hown, hts⟩ (c_X10_anew l D cI cJ cS cB a v3 M_typed M_ways M_z M_why M_rows M_wide M_column M_found v8 M_one M_other N v9 v10 v11 v12 h_v9) (cwV 0 hts gX10_begin_X10_anew rfl rfl rfl hd_X10_anew ⟨(Nat.le_of_ble_eq_true rfl), (Nat.le_of_ble_eq_true rfl)⟩) hK hP hD hS hA [0, 1, 3, 4] rfl rfl [o_M a v3 M_typed v9 M_z M_why M_rows M_wide M_column M_found, ai (a 36) cI 244 v10, ai (a 37) cI 976 v4, ai (a 39) cI 48 v11, ai (a 40) cI 48 v12] [(true, 0), (true, 1), (false, 2), (true, 2), (true, 3)] rfl rfl rfl hl.1 (Nat.le_of_ble_eq_true rfl) ⟨Nat.zero_le _, Nat.zero_le _⟩ 0 rfl rfl rfl rfl dX10_begin_50 (fun H locs hP hD hS => ?_)
      refine lv_iload_n hx hb dX10_begin_53 rfl (lv_at hl 0 rfl) ?_
      cases hm
      exact rI () hx hb hr hlk hP hD hS dX10_begin_54
    · have hm := ip c17 hm
      refine lv_iconst (v := (-1)) hx hb dX10_begin_20 (by decide) ?_
      cases hm
      exact rI () hx hb hr hlk hP hD hS dX10_begin_21
theorem hd_X10_island : yX10_island.cls = RX10 ∧ yX10_island.cls ≠ "java/lang/invoke/MethodHandle" ∧ yX10_island.cls ≠ "java/lang/invoke/VarHandle" ∧ (parseMethodDescriptor yX10_island.desc).map (fun d => d.parameters.length) = some 2 := by decide +kernel
def m_X10_island_j40 (N : Nat) (x1 : Int32) (x2 : Int32) (y4 : Int32) (y6 : Nat → Int32) (y7 : Nat → Int32) (y8 : Nat → Int32) (y9 : Nat → Int32) : Option (Int32 × Int32 × Int32 × (Nat → Int32) × (Nat → Int32) × (Nat → Int32) × (Nat → Int32)) :=
  bd2 (m_X10_notes N y4 y6 y7) (fun v10 v11 => wr 244 y6 (4 + x1) x2 (fun v12 => bd4 (m_X10_anew N v12 y8 y9) (fun v13 v14 v15 v16 => some ((v13, v10, v13, v14, v11, v15, v16)))))
def m_X10_island (N : Nat) (M_pasts : Int32) (M_ways : Int32) (M_s : Nat → Int32) (M_past : Nat → Int32) (M_one : Nat → Int32) (M_other : Nat → Int32) (x1 : Int32) (x2 : Int32) : Option (Int32 × Int32 × Int32 × (Nat → Int32) × (Nat → Int32) × (Nat → Int32) × (Nat → Int32)) :=
  bd1 (m_X10_isCell M_s x1) (fun v1 => if v1 = 0 then (some (((-1), M_pasts, M_ways, M_s, M_past, M_one, M_other))) else (lt1 (m_X10_in x2 1 8) (fun v2 => if v2 = 0 then (some (((-1), M_pasts, M_ways, M_s, M_past, M_one, M_other))) else (bd1 (m_X10_number M_s x1) (fun v3 => if v3 = 0 then (bd1 (m_X10_islands N M_s) (fun v17 => if v17 = 24 then (some (((-3), M_pasts, M_ways, M_s, M_past, M_one, M_other))) else (m_X10_island_j40 N x1 x2 M_pasts M_s M_past M_one M_other))) else (m_X10_island_j40 N x1 x2 M_pasts M_s M_past M_one M_other))))))
set_option maxHeartbeats 4000000 in
set_option maxRecDepth 100000 in
theorem c_X10_island (l : Launch) (D : va_G) (cI cJ cS cB : ClassId) (a : Nat → Nat) (M_pasts : Int32) (M_typed : Int32) (M_ways : Int32) (M_z : Int32) (M_why : Int32) (M_rows : Int32) (M_wide : Int32) (M_column : Int32) (M_found : Int32) (M_s : Nat → Int32) (M_past : Nat → Int32) (M_one : Nat → Int32) (M_other : Nat → Int32) (x1 : Int32) (x2 : Int32) (N : Nat) (r0 : Int32) (M_pasts' : Int32) (M_ways' : Int32) (M_s' : Nat → Int32) (M_past' : Nat → Int32) (M_one' : Nat → Int32) (M_other' : Nat → Int32) (hm : m_X10_island N M_pasts M_ways M_s M_past M_one M_other x1 x2 = some (r0, M_pasts', M_ways', M_s', M_past', M_one', M_other')) :
    mU l D (TYs cI cJ cS cB) yX10_island wsX10_island { frames := 3, cells := 0, slots := 0, locals := 65 } [.ref (a 35), .int x1, .int x2] [o_M a M_pasts M_typed M_ways M_z M_why M_rows M_wide M_column M_found, ai (a 36) cI 244 M_s, ai (a 37) cI 976 M_past, ai (a 39) cI 48 M_one, ai (a 40) cI 48 M_other] [o_M a M_pasts' M_typed M_ways' M_z M_why M_rows M_wide M_column M_found, ai (a 36) cI 244 M_s', ai (a 37) cI 976 M_past', ai (a 39) cI 48 M_one', ai (a 40) cI 48 M_other'] (some (.int r0)) := by
  refine mG_of (cc := cX10_island) (maxL := 3) (ret := (some .int)) (by decide) rfl rfl (Nat.le_of_ble_eq_true rfl) ?_
  intro p e s m args below meth c A hx hb hr hml hlk hnm hts hown hK hP hD hA hS ls hl
  have hl : lv_has ls 3 [(0, .ref (a 35)), (1, .int x1), (2, .int x2)] := hl
  have hiX10 : ∀ w ∈ wsX100, w ∈ wsX10_island := fun w h => List.mem_cons_of_mem _ (List.mem_append_right _ h)
  unfold m_X10_island at hm
  have h40 : ∀ (y4 : Int32) (y5 : Int32) (y6 : Nat → Int32) (y7 : Nat → Int32) (y8 : Nat → Int32) (y9 : Nat → Int32), m_X10_island_j40 N x1 x2 y4 y6 y7 y8 y9 = some (r0, M_pasts', M_ways', M_s', M_past', M_one', M_other') → ∀ (H : Heap) (locs : List Loc), va_P D vwCl [o_M a y4 M_typed y5 M_z M_why M_rows M_wide M_column M_found, ai (a 36) cI 244 y6, ai (a 37) cI 976 y7, ai (a 39) cI 48 y8, ai (a 40) cI 48 y9] H → va_D A [o_M a y4 M_typed y5 M_z M_why M_rows M_wide M_column M_found, ai (a 36) cI 244 y6, ai (a 37) cI 976 y7, ai (a 39) cI 48 y8, ai (a 40) cI 48 y9] → va_S A s.heap H locs → ∀ ls : Array Slot, lv_has ls 3 [(0, .ref (a 35)), (1, .int x1), (2, .int x2)] → W p l e { frames := 3, cells := 0, slots := 0, locals := 65 } s m args below meth c H locs 0 0 (MQ below (eQ D (some (.int r0)) (fun _ : Unit => [o_M a M_pasts' M_typed M_ways' M_z M_why M_rows M_wide M_column M_found, ai (a 36) cI 244 M_s', ai (a 37) cI 976 M_past', ai (a 39) cI 48 M_one', ai (a 40) cI 48 M_other']) A) args s 0 0 A) (F0 m 40 ls []) := by
    intro y4 y5 y6 y7 y8 y9 hm H locs hP hD hS ls hl
    unfold m_X10_island_j40 at hm
    refine lv_aload_n hx hb dX10_island_40 rfl (lv_at hl 0 rfl) ?_
    obtain ⟨v10, v11, h_v10, hm⟩ := bd2_inv hm
    refine cVx ⟨hx, hb, hml, hown, hts⟩ (c_X10_notes l D cI cJ cS cB a y4 M_typed y5 M_z M_why M_rows M_wide M_column M_found y6 y7 N v10 v11 h_v10) (cwV 0 hts gX10_island_X10_notes rfl rfl rfl hd_X10_notes ⟨(Nat.le_of_ble_eq_true rfl), (Nat.le_of_ble_eq_true rfl)⟩) hK hP hD hS hA [0, 1, 2] rfl rfl [o_M a v10 M_typed y5 M_z M_why M_rows M_wide M_column M_found, ai (a 36) cI 244 y6, ai (a 37) cI 976 v11, ai (a 39) cI 48 y8, ai (a 40) cI 48 y9] [(true, 0), (true, 1), (true, 2), (false, 3), (false, 4)] rfl rfl rfl hl.1 (Nat.le_of_ble_eq_true rfl) ⟨Nat.zero_le _, Nat.zero_le _⟩ 0 rfl rfl rfl rfl dX10_island_41 (fun H locs hP hD hS => ?_)
    refine lv_aload_n hx hb dX10_island_44 rfl (lv_at hl 0 rfl) ?_
    refine va_get (D := D) (ci := 10) (v := .ref (a 36)) (C := RX10) (T := TX10) (N := 17) hx hb hts hiX10 hown hK.1 hP 0 rfl rfl 0 (by decide) (hts (.fieldLink RX10 7 "IslandBridgesModel" "s" "[I") (List.mem_of_getElem? (i := 1) rfl)) (fun _ h9 => h9) rfl dX10_island_45 ?_
    refine lv_iconst (v := 4) hx hb dX10_island_48 (by decide) ?_
    refine lv_iload_n hx hb dX10_island_49 rfl (lv_at hl 1 rfl) ?_
    refine lv_iadd hx hb dX10_island_50 ?_
    refine lv_iload_n hx hb dX10_island_51 rfl (lv_at hl 2 rfl) ?_
    obtain ⟨v12, nv12, ev12, hm⟩ := wr_inv hm
    refine va_iast hx hb hK.1 hP hD hS 1 0 rfl rfl nv12 dX10_island_52 (fun H locs hP hD hS => ?_)
    have hP : va_P D vwCl [o_M a v10 M_typed y5 M_z M_why M_rows M_wide M_column M_found, ai (a 36) cI 244 v12, ai (a 37) cI 976 v11, ai (a 39) cI 48 y8, ai (a 40) cI 48 y9] H := by rw [← ev12]; exact hP
    have hD : va_D A [o_M a v10 M_typed y5 M_z M_why M_rows M_wide M_column M_found, ai (a 36) cI 244 v12, ai (a 37) cI 976 v11, ai (a 39) cI 48 y8, ai (a 40) cI 48 y9] := by rw [← ev12]; exact hD
    refine lv_aload_n hx hb dX10_island_53 rfl (lv_at hl 0 rfl) ?_
    obtain ⟨v13, v14, v15, v16, h_v13, hm⟩ := bd4_inv hm
    refine cVx ⟨hx, hb, hml, hown, hts⟩ (c_X10_anew l D cI cJ cS cB a v10 M_typed y5 M_z M_why M_rows M_wide M_column M_found v12 y8 y9 N v13 v14 v15 v16 h_v13) (cwV 0 hts gX10_island_X10_anew rfl rfl rfl hd_X10_anew ⟨(Nat.le_of_ble_eq_true rfl), (Nat.le_of_ble_eq_true rfl)⟩) hK hP hD hS hA [0, 1, 3, 4] rfl rfl [o_M a v10 M_typed v13 M_z M_why M_rows M_wide M_column M_found, ai (a 36) cI 244 v14, ai (a 37) cI 976 v11, ai (a 39) cI 48 v15, ai (a 40) cI 48 v16] [(true, 0), (true, 1), (false, 2), (true, 2), (true, 3)] rfl rfl rfl hl.1 (Nat.le_of_ble_eq_true rfl) ⟨Nat.zero_le _, Nat.zero_le _⟩ 0 rfl rfl rfl rfl dX10_island_54 (fun H locs hP hD hS => ?_)
    refine lv_aload_n hx hb dX10_island_57 rfl (lv_at hl 0 rfl) ?_
    refine va_get (D := D) (ci := 10) (v := .int v13) (C := RX10) (T := TX10) (N := 17) hx hb hts hiX10 hown hK.1 hP 0 rfl rfl 5 (by decide) (hts (.fieldLink RX10 54 "IslandBridgesModel" "ways" "I") (List.mem_of_getElem? (i := 2) rfl)) (fun _ h9 => h9) rfl dX10_island_58 ?_
    cases hm
    exact rI () hx hb hr hlk hP hD hS dX10_island_61
  refine lv_aload_n hx hb dX10_island_0 rfl (lv_at hl 0 rfl) ?_
  refine lv_iload_n hx hb dX10_island_1 rfl (lv_at hl 1 rfl) ?_
  obtain ⟨v1, h_v1, hm⟩ := bd1_inv hm
  refine cVs ⟨hx, hb, hml, hown, hts⟩ (c_X10_isCell l D cI cJ cS cB a M_pasts M_typed M_ways M_z M_why M_rows M_wide M_column M_found M_s x1 v1 h_v1) (cwV 1 hts gX10_island_X10_isCell rfl rfl rfl hd_X10_isCell ⟨(Nat.le_of_ble_eq_true rfl), (Nat.le_of_ble_eq_true rfl)⟩) hK hP hD hS hA [0, 1] rfl rfl rfl hl.1 (Nat.le_of_ble_eq_true rfl) ⟨Nat.zero_le _, Nat.zero_le _⟩ 0 rfl rfl rfl rfl dX10_island_2 (fun H locs hP hD hS => ?_)
  refine lv_if_eq (tgt := 18) hx hb dX10_island_5 (by decide) (fun c5 => ?_) (fun c5 => ?_)
  · have hm := ip c5 hm
    refine lv_iconst (v := (-1)) hx hb dX10_island_18 (by decide) ?_
    cases hm
    exact rI () hx hb hr hlk hP hD hS dX10_island_19
  · have hm := ine c5 hm
    refine lv_iload_n hx hb dX10_island_8 rfl (lv_at hl 2 rfl) ?_
    refine lv_iconst (v := 1) hx hb dX10_island_9 (by decide) ?_
    refine lv_bipush (v := 8) hx hb dX10_island_10 (by decide) ?_
    obtain ⟨v2, h_v2, hm⟩ := lt1_inv hm
    refine cSs ⟨hx, hb, hml, hown, hts⟩ (c_X10_in l D cI cJ cS cB a  x2 1 8 v2 h_v2) (va_cwS 3 hts gX10_island_X10_in rfl rfl rfl hd_X10_in ⟨(Nat.le_of_ble_eq_true rfl), (Nat.le_of_ble_eq_true rfl)⟩) hK hP hD hS hA [] rfl rfl rfl hl.1 (Nat.le_of_ble_eq_true rfl) ⟨Nat.zero_le _, Nat.zero_le _⟩ rfl dX10_island_12 (fun H locs hP hD hS => ?_)
    refine lv_if_ne (tgt := 20) hx hb dX10_island_15 (by decide) (fun c15 => ?_) (fun c15 => ?_)
    · have hm := ine c15 hm
      refine lv_aload_n hx hb dX10_island_20 rfl (lv_at hl 0 rfl) ?_
      refine lv_iload_n hx hb dX10_island_21 rfl (lv_at hl 1 rfl) ?_
      obtain ⟨v3, h_v3, hm⟩ := bd1_inv hm
      refine cVs ⟨hx, hb, hml, hown, hts⟩ (c_X10_number l D cI cJ cS cB a M_pasts M_typed M_ways M_z M_why M_rows M_wide M_column M_found M_s x1 v3 h_v3) (cwV 1 hts gX10_island_X10_number rfl rfl rfl hd_X10_number ⟨(Nat.le_of_ble_eq_true rfl), (Nat.le_of_ble_eq_true rfl)⟩) hK hP hD hS hA [0, 1] rfl rfl rfl hl.1 (Nat.le_of_ble_eq_true rfl) ⟨Nat.zero_le _, Nat.zero_le _⟩ 0 rfl rfl rfl rfl dX10_island_22 (fun H locs hP hD hS => ?_)
      refine lv_if_ne (tgt := 40) hx hb dX10_island_25 (by decide) (fun c25 => ?_) (fun c25 => ?_)
      · have hm := ine c25 hm
        exact h40 M_pasts M_ways M_s M_past M_one M_other hm _ _ hP hD hS ls (lv_sub hl [0, 1, 2] rfl)
      · have hm := ip c25 hm
        refine lv_aload_n hx hb dX10_island_28 rfl (lv_at hl 0 rfl) ?_
        obtain ⟨v17, h_v17, hm⟩ := bd1_inv hm
        refine cVs ⟨hx, hb, hml, hown, hts⟩ (c_X10_islands l D cI cJ cS cB a M_pasts M_typed M_ways M_z M_why M_rows M_wide M_column M_found M_s N v17 h_v17) (cwV 0 hts gX10_island_X10_islands rfl rfl rfl hd_X10_islands ⟨(Nat.le_of_ble_eq_true rfl), (Nat.le_of_ble_eq_true rfl)⟩) hK hP hD hS hA [0, 1] rfl rfl rfl hl.1 (Nat.le_of_ble_eq_true rfl) ⟨Nat.zero_le _, Nat.zero_le _⟩ 0 rfl rfl rfl rfl dX10_island_29 (fun H locs hP hD hS => ?_)
        refine lv_bipush (v := 24) hx hb dX10_island_32 (by decide) ?_
        refine lv_icmp_ne (tgt := 40) hx hb dX10_island_34 (by decide) (fun c34 => ?_) (fun c34 => ?_)
        · have hm := ine c34 hm
          exact h40 M_pasts M_ways M_s M_past M_one M_other hm _ _ hP hD hS ls (lv_sub hl [0, 1, 2] rfl)
        · have hm := ip c34 hm
          refine lv_bipush (v := (-3)) hx hb dX10_island_37 (by decide) ?_
          cases hm
          exact rI () hx hb hr hlk hP hD hS dX10_island_39
    · have hm := ip c15 hm
      refine lv_iconst (v := (-1)) hx hb dX10_island_18 (by decide) ?_
      cases hm
      exact rI () hx hb hr hlk hP hD hS dX10_island_19
theorem hd_X10_removeIsland : yX10_removeIsland.cls = RX10 ∧ yX10_removeIsland.cls ≠ "java/lang/invoke/MethodHandle" ∧ yX10_removeIsland.cls ≠ "java/lang/invoke/VarHandle" ∧ (parseMethodDescriptor yX10_removeIsland.desc).map (fun d => d.parameters.length) = some 1 := by decide +kernel
def m_X10_removeIsland (N : Nat) (M_pasts : Int32) (M_ways : Int32) (M_s : Nat → Int32) (M_past : Nat → Int32) (M_one : Nat → Int32) (M_other : Nat → Int32) (x1 : Int32) : Option (Int32 × Int32 × Int32 × (Nat → Int32) × (Nat → Int32) × (Nat → Int32) × (Nat → Int32)) :=
  bd1 (m_X10_isCell M_s x1) (fun v1 => if v1 = 0 then (some (((-1), M_pasts, M_ways, M_s, M_past, M_one, M_other))) else (bd1 (m_X10_number M_s x1) (fun v2 => if v2 = 0 then (some (((-4), M_pasts, M_ways, M_s, M_past, M_one, M_other))) else (bd2 (m_X10_notes N M_pasts M_s M_past) (fun v3 v4 => wr 244 M_s (4 + x1) 0 (fun v5 => bd4 (m_X10_anew N v5 M_one M_other) (fun v6 v7 v8 v9 => some ((v2, v3, v6, v7, v4, v8, v9)))))))))
set_option maxHeartbeats 4000000 in
set_option maxRecDepth 100000 in
theorem c_X10_removeIsland (l : Launch) (D : va_G) (cI cJ cS cB : ClassId) (a : Nat → Nat) (M_pasts : Int32) (M_typed : Int32) (M_ways : Int32) (M_z : Int32) (M_why : Int32) (M_rows : Int32) (M_wide : Int32) (M_column : Int32) (M_found : Int32) (M_s : Nat → Int32) (M_past : Nat → Int32) (M_one : Nat → Int32) (M_other : Nat → Int32) (x1 : Int32) (N : Nat) (r0 : Int32) (M_pasts' : Int32) (M_ways' : Int32) (M_s' : Nat → Int32) (M_past' : Nat → Int32) (M_one' : Nat → Int32) (M_other' : Nat → Int32) (hm : m_X10_removeIsland N M_pasts M_ways M_s M_past M_one M_other x1 = some (r0, M_pasts', M_ways', M_s', M_past', M_one', M_other')) :
    mU l D (TYs cI cJ cS cB) yX10_removeIsland wsX10_removeIsland { frames := 3, cells := 0, slots := 0, locals := 65 } [.ref (a 35), .int x1] [o_M a M_pasts M_typed M_ways M_z M_why M_rows M_wide M_column M_found, ai (a 36) cI 244 M_s, ai (a 37) cI 976 M_past, ai (a 39) cI 48 M_one, ai (a 40) cI 48 M_other] [o_M a M_pasts' M_typed M_ways' M_z M_why M_rows M_wide M_column M_found, ai (a 36) cI 244 M_s', ai (a 37) cI 976 M_past', ai (a 39) cI 48 M_one', ai (a 40) cI 48 M_other'] (some (.int r0)) := by
  refine mG_of (cc := cX10_removeIsland) (maxL := 3) (ret := (some .int)) (by decide) rfl rfl (Nat.le_of_ble_eq_true rfl) ?_
  intro p e s m args below meth c A hx hb hr hml hlk hnm hts hown hK hP hD hA hS ls hl
  have hl : lv_has ls 3 [(0, .ref (a 35)), (1, .int x1)] := hl
  have hiX10 : ∀ w ∈ wsX100, w ∈ wsX10_removeIsland := fun w h => List.mem_cons_of_mem _ (List.mem_append_right _ h)
  unfold m_X10_removeIsland at hm
  refine lv_aload_n hx hb dX10_removeIsland_0 rfl (lv_at hl 0 rfl) ?_
  refine lv_iload_n hx hb dX10_removeIsland_1 rfl (lv_at hl 1 rfl) ?_
  obtain ⟨v1, h_v1, hm⟩ := bd1_inv hm
  refine cVs ⟨hx, hb, hml, hown, hts⟩ (c_X10_isCell l D cI cJ cS cB a M_pasts M_typed M_ways M_z M_why M_rows M_wide M_column M_found M_s x1 v1 h_v1) (cwV 1 hts gX10_removeIsland_X10_isCell rfl rfl rfl hd_X10_isCell ⟨(Nat.le_of_ble_eq_true rfl), (Nat.le_of_ble_eq_true rfl)⟩) hK hP hD hS hA [0, 1] rfl rfl rfl hl.1 (Nat.le_of_ble_eq_true rfl) ⟨Nat.zero_le _, Nat.zero_le _⟩ 0 rfl rfl rfl rfl dX10_removeIsland_2 (fun H locs hP hD hS => ?_)
  refine lv_if_ne (tgt := 10) hx hb dX10_removeIsland_5 (by decide) (fun c5 => ?_) (fun c5 => ?_)
  · have hm := ine c5 hm
    refine lv_aload_n hx hb dX10_removeIsland_10 rfl (lv_at hl 0 rfl) ?_
    refine lv_iload_n hx hb dX10_removeIsland_11 rfl (lv_at hl 1 rfl) ?_
    obtain ⟨v2, h_v2, hm⟩ := bd1_inv hm
    refine cVs ⟨hx, hb, hml, hown, hts⟩ (c_X10_number l D cI cJ cS cB a M_pasts M_typed M_ways M_z M_why M_rows M_wide M_column M_found M_s x1 v2 h_v2) (cwV 1 hts gX10_removeIsland_X10_number rfl rfl rfl hd_X10_number ⟨(Nat.le_of_ble_eq_true rfl), (Nat.le_of_ble_eq_true rfl)⟩) hK hP hD hS hA [0, 1] rfl rfl rfl hl.1 (Nat.le_of_ble_eq_true rfl) ⟨Nat.zero_le _, Nat.zero_le _⟩ 0 rfl rfl rfl rfl dX10_removeIsland_12 (fun H locs hP hD hS => ?_)
    refine lv_istore_n (lv' := [(2, .int v2), (0, .ref (a 35)), (1, .int x1)]) hx hb dX10_removeIsland_15 rfl hl (by decide) rfl (fun ls hl => ?_)
    refine lv_iload_n hx hb dX10_removeIsland_16 rfl (lv_at hl 0 rfl) ?_
    refine lv_if_ne (tgt := 23) hx hb dX10_removeIsland_17 (by decide) (fun c17 => ?_) (fun c17 => ?_)
    · have hm := ine c17 hm
      refine lv_aload_n hx hb dX10_removeIsland_23 rfl (lv_at hl 1 rfl) ?_
      obtain ⟨v3, v4, h_v3, hm⟩ := bd2_inv hm
      refine cVx ⟨hx, hb, hml, hown, hts⟩ (c_X10_notes l D cI cJ cS cB a M_pasts M_typed M_ways M_z M_why M_rows M_wide M_column M_found M_s M_past N v3 v4 h_v3) (cwV 0 hts gX10_removeIsland_X10_notes rfl rfl rfl hd_X10_notes ⟨(Nat.le_of_ble_eq_true rfl), (Nat.le_of_ble_eq_true rfl)⟩) hK hP hD hS hA [0, 1, 2] rfl rfl [o_M a v3 M_typed M_ways M_z M_why M_rows M_wide M_column M_found, ai (a 36) cI 244 M_s, ai (a 37) cI 976 v4, ai (a 39) cI 48 M_one, ai (a 40) cI 48 M_other] [(true, 0), (true, 1), (true, 2), (false, 3), (false, 4)] rfl rfl rfl hl.1 (Nat.le_of_ble_eq_true rfl) ⟨Nat.zero_le _, Nat.zero_le _⟩ 0 rfl rfl rfl rfl dX10_removeIsland_24 (fun H locs hP hD hS => ?_)
      refine lv_aload_n hx hb dX10_removeIsland_27 rfl (lv_at hl 1 rfl) ?_
      refine va_get (D := D) (ci := 10) (v := .ref (a 36)) (C := RX10) (T := TX10) (N := 17) hx hb hts hiX10 hown hK.1 hP 0 rfl rfl 0 (by decide) (hts (.fieldLink RX10 7 "IslandBridgesModel" "s" "[I") (List.mem_of_getElem? (i := 1) rfl)) (fun _ h9 => h9) rfl dX10_removeIsland_28 ?_
      refine lv_iconst (v := 4) hx hb dX10_removeIsland_31 (by decide) ?_
      refine lv_iload_n hx hb dX10_removeIsland_32 rfl (lv_at hl 2 rfl) ?_
      refine lv_iadd hx hb dX10_removeIsland_33 ?_
      refine lv_iconst (v := 0) hx hb dX10_removeIsland_34 (by decide) ?_
      obtain ⟨v5, nv5, ev5, hm⟩ := wr_inv hm
      refine va_iast hx hb hK.1 hP hD hS 1 0 rfl rfl nv5 dX10_removeIsland_35 (fun H locs hP hD hS => ?_)
      have hP : va_P D vwCl [o_M a v3 M_typed M_ways M_z M_why M_rows M_wide M_column M_found, ai (a 36) cI 244 v5, ai (a 37) cI 976 v4, ai (a 39) cI 48 M_one, ai (a 40) cI 48 M_other] H := by rw [← ev5]; exact hP
      have hD : va_D A [o_M a v3 M_typed M_ways M_z M_why M_rows M_wide M_column M_found, ai (a 36) cI 244 v5, ai (a 37) cI 976 v4, ai (a 39) cI 48 M_one, ai (a 40) cI 48 M_other] := by rw [← ev5]; exact hD
      refine lv_aload_n hx hb dX10_removeIsland_36 rfl (lv_at hl 1 rfl) ?_
      obtain ⟨v6, v7, v8, v9, h_v6, hm⟩ := bd4_inv hm
      refine cVx ⟨hx, hb, hml, hown, hts⟩ (c_X10_anew l D cI cJ cS cB a v3 M_typed M_ways M_z M_why M_rows M_wide M_column M_found v5 M_one M_other N v6 v7 v8 v9 h_v6) (cwV 0 hts gX10_removeIsland_X10_anew rfl rfl rfl hd_X10_anew ⟨(Nat.le_of_ble_eq_true rfl), (Nat.le_of_ble_eq_true rfl)⟩) hK hP hD hS hA [0, 1, 3, 4] rfl rfl [o_M a v3 M_typed v6 M_z M_why M_rows M_wide M_column M_found, ai (a 36) cI 244 v7, ai (a 37) cI 976 v4, ai (a 39) cI 48 v8, ai (a 40) cI 48 v9] [(true, 0), (true, 1), (false, 2), (true, 2), (true, 3)] rfl rfl rfl hl.1 (Nat.le_of_ble_eq_true rfl) ⟨Nat.zero_le _, Nat.zero_le _⟩ 0 rfl rfl rfl rfl dX10_removeIsland_37 (fun H locs hP hD hS => ?_)
      refine lv_iload_n hx hb dX10_removeIsland_40 rfl (lv_at hl 0 rfl) ?_
      cases hm
      exact rI () hx hb hr hlk hP hD hS dX10_removeIsland_41
    · have hm := ip c17 hm
      refine lv_bipush (v := (-4)) hx hb dX10_removeIsland_20 (by decide) ?_
      cases hm
      exact rI () hx hb hr hlk hP hD hS dX10_removeIsland_22
  · have hm := ip c5 hm
    refine lv_iconst (v := (-1)) hx hb dX10_removeIsland_8 (by decide) ?_
    cases hm
    exact rI () hx hb hr hlk hP hD hS dX10_removeIsland_9
theorem hd_X10_isAcross : yX10_isAcross.cls = RX10 ∧ yX10_isAcross.cls ≠ "java/lang/invoke/MethodHandle" ∧ yX10_isAcross.cls ≠ "java/lang/invoke/VarHandle" ∧ (parseMethodDescriptor yX10_isAcross.desc).map (fun d => d.parameters.length) = some 1 := by decide +kernel
def m_X10_isAcross (M_s : Nat → Int32) (M_one : Nat → Int32) (M_other : Nat → Int32) (x1 : Int32) : Option (Int32) :=
  rd 48 M_one x1 (fun v1 => rd 244 M_s 0 (fun v2 => dvd v1 v2 (fun v3 => rd 48 M_other x1 (fun v4 => rd 244 M_s 0 (fun v5 => dvd v4 v5 (fun v6 => if v3 = v6 then (some 1) else (some 0)))))))
set_option maxHeartbeats 4000000 in
set_option maxRecDepth 100000 in
theorem c_X10_isAcross (l : Launch) (D : va_G) (cI cJ cS cB : ClassId) (a : Nat → Nat) (M_pasts : Int32) (M_typed : Int32) (M_ways : Int32) (M_z : Int32) (M_why : Int32) (M_rows : Int32) (M_wide : Int32) (M_column : Int32) (M_found : Int32) (M_s : Nat → Int32) (M_one : Nat → Int32) (M_other : Nat → Int32) (x1 : Int32) (r0 : Int32) (hm : m_X10_isAcross M_s M_one M_other x1 = some r0) :
    mU l D (TYs cI cJ cS cB) yX10_isAcross wsX10_isAcross { frames := 0, cells := 0, slots := 0, locals := 0 } [.ref (a 35), .int x1] [o_M a M_pasts M_typed M_ways M_z M_why M_rows M_wide M_column M_found, ai (a 36) cI 244 M_s, ai (a 39) cI 48 M_one, ai (a 40) cI 48 M_other] [o_M a M_pasts M_typed M_ways M_z M_why M_rows M_wide M_column M_found, ai (a 36) cI 244 M_s, ai (a 39) cI 48 M_one, ai (a 40) cI 48 M_other] (some (.int r0)) := by
  refine mG_of (cc := cX10_isAcross) (maxL := 2) (ret := (some .boolean)) (by decide) rfl rfl (Nat.le_of_ble_eq_true rfl) ?_
  intro p e s m args below meth c A hx hb hr hml hlk hnm hts hown hK hP hD hA hS ls hl
  have hl : lv_has ls 2 [(0, .ref (a 35)), (1, .int x1)] := hl
  have hiX10 : ∀ w ∈ wsX100, w ∈ wsX10_isAcross := fun w h => List.mem_cons_of_mem _ (List.mem_append_right _ h)
  unfold m_X10_isAcross at hm
  refine lv_aload_n hx hb dX10_isAcross_0 rfl (lv_at hl 0 rfl) ?_
  refine va_get (D := D) (ci := 10) (v := .ref (a 39)) (C := RX10) (T := TX10) (N := 17) hx hb hts hiX10 hown hK.1 hP 0 rfl rfl 6 (by decide) (hts (.fieldLink RX10 20 "IslandBridgesModel" "one" "[I") (List.mem_of_getElem? (i := 1) rfl)) (fun _ h9 => h9) rfl dX10_isAcross_1 ?_
  refine lv_iload_n hx hb dX10_isAcross_4 rfl (lv_at hl 1 rfl) ?_
  obtain ⟨v1, nv1, ev1, hm⟩ := rd_inv hm
  refine va_iald hx hb hK.1 hP 2 0 rfl rfl nv1 dX10_isAcross_5 ?_
  refine ltop ev1 ?_
  refine lv_aload_n hx hb dX10_isAcross_6 rfl (lv_at hl 0 rfl) ?_
  refine va_get (D := D) (ci := 10) (v := .ref (a 36)) (C := RX10) (T := TX10) (N := 17) hx hb hts hiX10 hown hK.1 hP 0 rfl rfl 0 (by decide) (hts (.fieldLink RX10 7 "IslandBridgesModel" "s" "[I") (List.mem_of_getElem? (i := 2) rfl)) (fun _ h9 => h9) rfl dX10_isAcross_7 ?_
  refine lv_iconst (v := 0) hx hb dX10_isAcross_10 (by decide) ?_
  obtain ⟨v2, nv2, ev2, hm⟩ := rd_inv hm
  refine va_iald hx hb hK.1 hP 1 0 rfl rfl nv2 dX10_isAcross_11 ?_
  refine ltop ev2 ?_
  obtain ⟨v3, nv3, ev3, hm⟩ := dvd_inv hm
  refine lv_idiv hx hb dX10_isAcross_12 nv3 ?_
  refine ltop ev3 ?_
  refine lv_aload_n hx hb dX10_isAcross_13 rfl (lv_at hl 0 rfl) ?_
  refine va_get (D := D) (ci := 10) (v := .ref (a 40)) (C := RX10) (T := TX10) (N := 17) hx hb hts hiX10 hown hK.1 hP 0 rfl rfl 7 (by decide) (hts (.fieldLink RX10 23 "IslandBridgesModel" "other" "[I") (List.mem_of_getElem? (i := 3) rfl)) (fun _ h9 => h9) rfl dX10_isAcross_14 ?_
  refine lv_iload_n hx hb dX10_isAcross_17 rfl (lv_at hl 1 rfl) ?_
  obtain ⟨v4, nv4, ev4, hm⟩ := rd_inv hm
  refine va_iald hx hb hK.1 hP 3 0 rfl rfl nv4 dX10_isAcross_18 ?_
  refine ltop ev4 ?_
  refine lv_aload_n hx hb dX10_isAcross_19 rfl (lv_at hl 0 rfl) ?_
  refine va_get (D := D) (ci := 10) (v := .ref (a 36)) (C := RX10) (T := TX10) (N := 17) hx hb hts hiX10 hown hK.1 hP 0 rfl rfl 0 (by decide) (hts (.fieldLink RX10 7 "IslandBridgesModel" "s" "[I") (List.mem_of_getElem? (i := 2) rfl)) (fun _ h9 => h9) rfl dX10_isAcross_20 ?_
  refine lv_iconst (v := 0) hx hb dX10_isAcross_23 (by decide) ?_
  obtain ⟨v5, nv5, ev5, hm⟩ := rd_inv hm
  refine va_iald hx hb hK.1 hP 1 0 rfl rfl nv5 dX10_isAcross_24 ?_
  refine ltop ev5 ?_
  obtain ⟨v6, nv6, ev6, hm⟩ := dvd_inv hm
  refine lv_idiv hx hb dX10_isAcross_25 nv6 ?_
  refine ltop ev6 ?_
  refine lv_icmp_ne (tgt := 33) hx hb dX10_isAcross_26 (by decide) (fun c26 => ?_) (fun c26 => ?_)
  · have hm := ine c26 hm
    refine lv_iconst (v := 0) hx hb dX10_isAcross_33 (by decide) ?_
    cases hm
    exact rZ () hx hb hr hlk (by decide) hP hD hS dX10_isAcross_34
  · have hm := ip c26 hm
    refine lv_iconst (v := 1) hx hb dX10_isAcross_29 (by decide) ?_
    refine lv_goto (tgt := 34) hx hb dX10_isAcross_30 (by decide) ?_
    cases hm
    exact rZ () hx hb hr hlk (by decide) hP hD hS dX10_isAcross_34
theorem hd_X10_isBetween : yX10_isBetween.cls = RX10 ∧ yX10_isBetween.cls ≠ "java/lang/invoke/MethodHandle" ∧ yX10_isBetween.cls ≠ "java/lang/invoke/VarHandle" ∧ (parseMethodDescriptor yX10_isBetween.desc).map (fun d => d.parameters.length) = some 2 := by decide +kernel
def m_X10_isBetween_j69 (M_one : Nat → Int32) (M_other : Nat → Int32) (x1 : Int32) (x2 : Int32) (y7 : Int32) : Option (Int32) :=
  if y7 = 0 then (some 0) else (rd 48 M_one x2 (fun v8 => if x1 ≤ v8 then (some 0) else (rd 48 M_other x2 (fun v9 => if v9 ≤ x1 then (some 0) else (some 1)))))
def m_X10_isBetween (M_s : Nat → Int32) (M_one : Nat → Int32) (M_other : Nat → Int32) (x1 : Int32) (x2 : Int32) : Option (Int32) :=
  bd1 (m_X10_isAcross M_s M_one M_other x2) (fun v1 => if v1 = 0 then (rd 244 M_s 0 (fun v2 => rmd x1 v2 (fun v3 => rd 48 M_one x2 (fun v4 => rd 244 M_s 0 (fun v5 => rmd v4 v5 (fun v6 => if v3 = v6 then (m_X10_isBetween_j69 M_one M_other x1 x2 1) else (m_X10_isBetween_j69 M_one M_other x1 x2 0))))))) else (rd 244 M_s 0 (fun v10 => dvd x1 v10 (fun v11 => rd 48 M_one x2 (fun v12 => rd 244 M_s 0 (fun v13 => dvd v12 v13 (fun v14 => if v11 = v14 then (m_X10_isBetween_j69 M_one M_other x1 x2 1) else (m_X10_isBetween_j69 M_one M_other x1 x2 0))))))))
set_option maxHeartbeats 4000000 in
set_option maxRecDepth 100000 in
theorem c_X10_isBetween (l : Launch) (D : va_G) (cI cJ cS cB : ClassId) (a : Nat → Nat) (M_pasts : Int32) (M_typed : Int32) (M_ways : Int32) (M_z : Int32) (M_why : Int32) (M_rows : Int32) (M_wide : Int32) (M_column : Int32) (M_found : Int32) (M_s : Nat → Int32) (M_one : Nat → Int32) (M_other : Nat → Int32) (x1 : Int32) (x2 : Int32) (r0 : Int32) (hm : m_X10_isBetween M_s M_one M_other x1 x2 = some r0) :
    mU l D (TYs cI cJ cS cB) yX10_isBetween wsX10_isBetween { frames := 1, cells := 0, slots := 0, locals := 21 } [.ref (a 35), .int x1, .int x2] [o_M a M_pasts M_typed M_ways M_z M_why M_rows M_wide M_column M_found, ai (a 36) cI 244 M_s, ai (a 39) cI 48 M_one, ai (a 40) cI 48 M_other] [o_M a M_pasts M_typed M_ways M_z M_why M_rows M_wide M_column M_found, ai (a 36) cI 244 M_s, ai (a 39) cI 48 M_one, ai (a 40) cI 48 M_other] (some (.int r0)) := by
  refine mG_of (cc := cX10_isBetween) (maxL := 4) (ret := (some .boolean)) (by decide) rfl rfl (Nat.le_of_ble_eq_true rfl) ?_
  intro p e s m args below meth c A hx hb hr hml hlk hnm hts hown hK hP hD hA hS ls hl
  have hl : lv_has ls 4 [(0, .ref (a 35)), (1, .int x1), (2, .int x2)] := hl
  have hiX10 : ∀ w ∈ wsX100, w ∈ wsX10_isBetween := fun w h => List.mem_cons_of_mem _ (List.mem_append_right _ h)
  unfold m_X10_isBetween at hm
  have h69 : ∀ (y7 : Int32), m_X10_isBetween_j69 M_one M_other x1 x2 y7 = some r0 → ∀ (H : Heap) (locs : List Loc), va_P D vwCl [o_M a M_pasts M_typed M_ways M_z M_why M_rows M_wide M_column M_found, ai (a 36) cI 244 M_s, ai (a 39) cI 48 M_one, ai (a 40) cI 48 M_other] H → va_D A [o_M a M_pasts M_typed M_ways M_z M_why M_rows M_wide M_column M_found, ai (a 36) cI 244 M_s, ai (a 39) cI 48 M_one, ai (a 40) cI 48 M_other] → va_S A s.heap H locs → ∀ ls : Array Slot, lv_has ls 4 [(0, .ref (a 35)), (1, .int x1), (2, .int x2)] → W p l e { frames := 1, cells := 0, slots := 0, locals := 21 } s m args below meth c H locs 0 0 (MQ below (eQ D (some (.int r0)) (fun _ : Unit => [o_M a M_pasts M_typed M_ways M_z M_why M_rows M_wide M_column M_found, ai (a 36) cI 244 M_s, ai (a 39) cI 48 M_one, ai (a 40) cI 48 M_other]) A) args s 0 0 A) (F0 m 69 ls [.int y7]) := by
    intro y7 hm H locs hP hD hS ls hl
    unfold m_X10_isBetween_j69 at hm
    refine lv_istore_n (lv' := [(3, .int y7), (0, .ref (a 35)), (1, .int x1), (2, .int x2)]) hx hb dX10_isBetween_69 rfl hl (by decide) rfl (fun ls hl => ?_)
    refine lv_iload_n hx hb dX10_isBetween_70 rfl (lv_at hl 0 rfl) ?_
    refine lv_if_eq (tgt := 98) hx hb dX10_isBetween_71 (by decide) (fun c71 => ?_) (fun c71 => ?_)
    · have hm := ip c71 hm
      refine lv_iconst (v := 0) hx hb dX10_isBetween_98 (by decide) ?_
      cases hm
      exact rZ () hx hb hr hlk (by decide) hP hD hS dX10_isBetween_99
    · have hm := ine c71 hm
      refine lv_iload_n hx hb dX10_isBetween_74 rfl (lv_at hl 2 rfl) ?_
      refine lv_aload_n hx hb dX10_isBetween_75 rfl (lv_at hl 1 rfl) ?_
      refine va_get (D := D) (ci := 10) (v := .ref (a 39)) (C := RX10) (T := TX10) (N := 17) hx hb hts hiX10 hown hK.1 hP 0 rfl rfl 6 (by decide) (hts (.fieldLink RX10 20 "IslandBridgesModel" "one" "[I") (List.mem_of_getElem? (i := 2) rfl)) (fun _ h9 => h9) rfl dX10_isBetween_76 ?_
      refine lv_iload_n hx hb dX10_isBetween_79 rfl (lv_at hl 3 rfl) ?_
      obtain ⟨v8, nv8, ev8, hm⟩ := rd_inv hm
      refine va_iald hx hb hK.1 hP 2 0 rfl rfl nv8 dX10_isBetween_80 ?_
      refine ltop ev8 ?_
      refine lv_icmp_le (tgt := 98) hx hb dX10_isBetween_81 (by decide) (fun c81 => ?_) (fun c81 => ?_)
      · have hm := ip c81 hm
        refine lv_iconst (v := 0) hx hb dX10_isBetween_98 (by decide) ?_
        cases hm
        exact rZ () hx hb hr hlk (by decide) hP hD hS dX10_isBetween_99
      · have hm := ine c81 hm
        refine lv_iload_n hx hb dX10_isBetween_84 rfl (lv_at hl 2 rfl) ?_
        refine lv_aload_n hx hb dX10_isBetween_85 rfl (lv_at hl 1 rfl) ?_
        refine va_get (D := D) (ci := 10) (v := .ref (a 40)) (C := RX10) (T := TX10) (N := 17) hx hb hts hiX10 hown hK.1 hP 0 rfl rfl 7 (by decide) (hts (.fieldLink RX10 23 "IslandBridgesModel" "other" "[I") (List.mem_of_getElem? (i := 3) rfl)) (fun _ h9 => h9) rfl dX10_isBetween_86 ?_
        refine lv_iload_n hx hb dX10_isBetween_89 rfl (lv_at hl 3 rfl) ?_
        obtain ⟨v9, nv9, ev9, hm⟩ := rd_inv hm
        refine va_iald hx hb hK.1 hP 3 0 rfl rfl nv9 dX10_isBetween_90 ?_
        refine ltop ev9 ?_
        refine lv_icmp_ge (tgt := 98) hx hb dX10_isBetween_91 (by decide) (fun c91 => ?_) (fun c91 => ?_)
        · have hm := ip c91 hm
          refine lv_iconst (v := 0) hx hb dX10_isBetween_98 (by decide) ?_
          cases hm
          exact rZ () hx hb hr hlk (by decide) hP hD hS dX10_isBetween_99
        · have hm := ine c91 hm
          refine lv_iconst (v := 1) hx hb dX10_isBetween_94 (by decide) ?_
          refine lv_goto (tgt := 99) hx hb dX10_isBetween_95 (by decide) ?_
          cases hm
          exact rZ () hx hb hr hlk (by decide) hP hD hS dX10_isBetween_99
  refine lv_aload_n hx hb dX10_isBetween_0 rfl (lv_at hl 0 rfl) ?_
  refine lv_iload_n hx hb dX10_isBetween_1 rfl (lv_at hl 2 rfl) ?_
  obtain ⟨v1, h_v1, hm⟩ := bd1_inv hm
  refine cVs ⟨hx, hb, hml, hown, hts⟩ (c_X10_isAcross l D cI cJ cS cB a M_pasts M_typed M_ways M_z M_why M_rows M_wide M_column M_found M_s M_one M_other x2 v1 h_v1) (cwV 1 hts gX10_isBetween_X10_isAcross rfl rfl rfl hd_X10_isAcross ⟨(Nat.le_of_ble_eq_true rfl), (Nat.le_of_ble_eq_true rfl)⟩) hK hP hD hS hA [0, 1, 2, 3] rfl rfl rfl hl.1 (Nat.le_of_ble_eq_true rfl) ⟨Nat.zero_le _, Nat.zero_le _⟩ 0 rfl rfl rfl rfl dX10_isBetween_2 (fun H locs hP hD hS => ?_)
  refine lv_if_eq (tgt := 40) hx hb dX10_isBetween_5 (by decide) (fun c5 => ?_) (fun c5 => ?_)
  · have hm := ip c5 hm
    refine lv_iload_n hx hb dX10_isBetween_40 rfl (lv_at hl 1 rfl) ?_
    refine lv_aload_n hx hb dX10_isBetween_41 rfl (lv_at hl 0 rfl) ?_
    refine va_get (D := D) (ci := 10) (v := .ref (a 36)) (C := RX10) (T := TX10) (N := 17) hx hb hts hiX10 hown hK.1 hP 0 rfl rfl 0 (by decide) (hts (.fieldLink RX10 7 "IslandBridgesModel" "s" "[I") (List.mem_of_getElem? (i := 1) rfl)) (fun _ h9 => h9) rfl dX10_isBetween_42 ?_
    refine lv_iconst (v := 0) hx hb dX10_isBetween_45 (by decide) ?_
    obtain ⟨v2, nv2, ev2, hm⟩ := rd_inv hm
    refine va_iald hx hb hK.1 hP 1 0 rfl rfl nv2 dX10_isBetween_46 ?_
    refine ltop ev2 ?_
    obtain ⟨v3, nv3, ev3, hm⟩ := rmd_inv hm
    refine lv_irem hx hb dX10_isBetween_47 nv3 ?_
    refine ltop ev3 ?_
    refine lv_aload_n hx hb dX10_isBetween_48 rfl (lv_at hl 0 rfl) ?_
    refine va_get (D := D) (ci := 10) (v := .ref (a 39)) (C := RX10) (T := TX10) (N := 17) hx hb hts hiX10 hown hK.1 hP 0 rfl rfl 6 (by decide) (hts (.fieldLink RX10 20 "IslandBridgesModel" "one" "[I") (List.mem_of_getElem? (i := 2) rfl)) (fun _ h9 => h9) rfl dX10_isBetween_49 ?_
    refine lv_iload_n hx hb dX10_isBetween_52 rfl (lv_at hl 2 rfl) ?_
    obtain ⟨v4, nv4, ev4, hm⟩ := rd_inv hm
    refine va_iald hx hb hK.1 hP 2 0 rfl rfl nv4 dX10_isBetween_53 ?_
    refine ltop ev4 ?_
    refine lv_aload_n hx hb dX10_isBetween_54 rfl (lv_at hl 0 rfl) ?_
    refine va_get (D := D) (ci := 10) (v := .ref (a 36)) (C := RX10) (T := TX10) (N := 17) hx hb hts hiX10 hown hK.1 hP 0 rfl rfl 0 (by decide) (hts (.fieldLink RX10 7 "IslandBridgesModel" "s" "[I") (List.mem_of_getElem? (i := 1) rfl)) (fun _ h9 => h9) rfl dX10_isBetween_55 ?_
    refine lv_iconst (v := 0) hx hb dX10_isBetween_58 (by decide) ?_
    obtain ⟨v5, nv5, ev5, hm⟩ := rd_inv hm
    refine va_iald hx hb hK.1 hP 1 0 rfl rfl nv5 dX10_isBetween_59 ?_
    refine ltop ev5 ?_
    obtain ⟨v6, nv6, ev6, hm⟩ := rmd_inv hm
    refine lv_irem hx hb dX10_isBetween_60 nv6 ?_
    refine ltop ev6 ?_
    refine lv_icmp_ne (tgt := 68) hx hb dX10_isBetween_61 (by decide) (fun c61 => ?_) (fun c61 => ?_)
    · have hm := ine c61 hm
      refine lv_iconst (v := 0) hx hb dX10_isBetween_68 (by decide) ?_
      exact h69 0 hm _ _ hP hD hS ls (lv_sub hl [0, 1, 2] rfl)
    · have hm := ip c61 hm
      refine lv_iconst (v := 1) hx hb dX10_isBetween_64 (by decide) ?_
      refine lv_goto (tgt := 69) hx hb dX10_isBetween_65 (by decide) ?_
      exact h69 1 hm _ _ hP hD hS ls (lv_sub hl [0, 1, 2] rfl)
  · have hm := ine c5 hm
    refine lv_iload_n hx hb dX10_isBetween_8 rfl (lv_at hl 1 rfl) ?_
    refine lv_aload_n hx hb dX10_isBetween_9 rfl (lv_at hl 0 rfl) ?_
    refine va_get (D := D) (ci := 10) (v := .ref (a 36)) (C := RX10) (T := TX10) (N := 17) hx hb hts hiX10 hown hK.1 hP 0 rfl rfl 0 (by decide) (hts (.fieldLink RX10 7 "IslandBridgesModel" "s" "[I") (List.mem_of_getElem? (i := 1) rfl)) (fun _ h9 => h9) rfl dX10_isBetween_10 ?_
    refine lv_iconst (v := 0) hx hb dX10_isBetween_13 (by decide) ?_
    obtain ⟨v10, nv10, ev10, hm⟩ := rd_inv hm
    refine va_iald hx hb hK.1 hP 1 0 rfl rfl nv10 dX10_isBetween_14 ?_
    refine ltop ev10 ?_
    obtain ⟨v11, nv11, ev11, hm⟩ := dvd_inv hm
    refine lv_idiv hx hb dX10_isBetween_15 nv11 ?_
    refine ltop ev11 ?_
    refine lv_aload_n hx hb dX10_isBetween_16 rfl (lv_at hl 0 rfl) ?_
    refine va_get (D := D) (ci := 10) (v := .ref (a 39)) (C := RX10) (T := TX10) (N := 17) hx hb hts hiX10 hown hK.1 hP 0 rfl rfl 6 (by decide) (hts (.fieldLink RX10 20 "IslandBridgesModel" "one" "[I") (List.mem_of_getElem? (i := 2) rfl)) (fun _ h9 => h9) rfl dX10_isBetween_17 ?_
    refine lv_iload_n hx hb dX10_isBetween_20 rfl (lv_at hl 2 rfl) ?_
    obtain ⟨v12, nv12, ev12, hm⟩ := rd_inv hm
    refine va_iald hx hb hK.1 hP 2 0 rfl rfl nv12 dX10_isBetween_21 ?_
    refine ltop ev12 ?_
    refine lv_aload_n hx hb dX10_isBetween_22 rfl (lv_at hl 0 rfl) ?_
    refine va_get (D := D) (ci := 10) (v := .ref (a 36)) (C := RX10) (T := TX10) (N := 17) hx hb hts hiX10 hown hK.1 hP 0 rfl rfl 0 (by decide) (hts (.fieldLink RX10 7 "IslandBridgesModel" "s" "[I") (List.mem_of_getElem? (i := 1) rfl)) (fun _ h9 => h9) rfl dX10_isBetween_23 ?_
    refine lv_iconst (v := 0) hx hb dX10_isBetween_26 (by decide) ?_
    obtain ⟨v13, nv13, ev13, hm⟩ := rd_inv hm
    refine va_iald hx hb hK.1 hP 1 0 rfl rfl nv13 dX10_isBetween_27 ?_
    refine ltop ev13 ?_
    obtain ⟨v14, nv14, ev14, hm⟩ := dvd_inv hm
    refine lv_idiv hx hb dX10_isBetween_28 nv14 ?_
    refine ltop ev14 ?_
    refine lv_icmp_ne (tgt := 36) hx hb dX10_isBetween_29 (by decide) (fun c29 => ?_) (fun c29 => ?_)
    · have hm := ine c29 hm
      refine lv_iconst (v := 0) hx hb dX10_isBetween_36 (by decide) ?_
      refine lv_goto (tgt := 69) hx hb dX10_isBetween_37 (by decide) ?_
      exact h69 0 hm _ _ hP hD hS ls (lv_sub hl [0, 1, 2] rfl)
    · have hm := ip c29 hm
      refine lv_iconst (v := 1) hx hb dX10_isBetween_32 (by decide) ?_
      refine lv_goto (tgt := 69) hx hb dX10_isBetween_33 (by decide) ?_
      exact h69 1 hm _ _ hP hD hS ls (lv_sub hl [0, 1, 2] rfl)
theorem hd_X10_cross : yX10_cross.cls = RX10 ∧ yX10_cross.cls ≠ "java/lang/invoke/MethodHandle" ∧ yX10_cross.cls ≠ "java/lang/invoke/VarHandle" ∧ (parseMethodDescriptor yX10_cross.desc).map (fun d => d.parameters.length) = some 2 := by decide +kernel
def m_X10_cross_j28 (M_s : Nat → Int32) (M_one : Nat → Int32) (M_other : Nat → Int32) (x1 : Int32) (x2 : Int32) (y4 : Int32) : Option (Int32) :=
  lt1 ((x1 + x2) - y4) (fun v5 => rd 48 M_one y4 (fun v6 => rd 244 M_s 0 (fun v7 => dvd v6 v7 (fun v8 => rd 244 M_s 0 (fun v9 => rd 48 M_one v5 (fun v10 => rd 244 M_s 0 (fun v11 => rmd v10 v11 (fun v12 => lt1 ((v8 * v9) + v12) (fun v13 => bd1 (m_X10_isBetween M_s M_one M_other v13 y4) (fun v14 => if v14 = 0 then (some 0) else (bd1 (m_X10_isBetween M_s M_one M_other v13 v5) (fun v15 => if v15 = 0 then (some 0) else (some 1)))))))))))))
def m_X10_cross (M_s : Nat → Int32) (M_one : Nat → Int32) (M_other : Nat → Int32) (x1 : Int32) (x2 : Int32) : Option (Int32) :=
  bd1 (m_X10_isAcross M_s M_one M_other x1) (fun v1 => bd1 (m_X10_isAcross M_s M_one M_other x2) (fun v2 => if v1 = v2 then (some 0) else (bd1 (m_X10_isAcross M_s M_one M_other x1) (fun v3 => if v3 = 0 then (m_X10_cross_j28 M_s M_one M_other x1 x2 x2) else (m_X10_cross_j28 M_s M_one M_other x1 x2 x1)))))
set_option maxHeartbeats 4000000 in
set_option maxRecDepth 100000 in
theorem c_X10_cross (l : Launch) (D : va_G) (cI cJ cS cB : ClassId) (a : Nat → Nat) (M_pasts : Int32) (M_typed : Int32) (M_ways : Int32) (M_z : Int32) (M_why : Int32) (M_rows : Int32) (M_wide : Int32) (M_column : Int32) (M_found : Int32) (M_s : Nat → Int32) (M_one : Nat → Int32) (M_other : Nat → Int32) (x1 : Int32) (x2 : Int32) (r0 : Int32) (hm : m_X10_cross M_s M_one M_other x1 x2 = some r0) :
    mU l D (TYs cI cJ cS cB) yX10_cross wsX10_cross { frames := 2, cells := 0, slots := 0, locals := 44 } [.ref (a 35), .int x1, .int x2] [o_M a M_pasts M_typed M_ways M_z M_why M_rows M_wide M_column M_found, ai (a 36) cI 244 M_s, ai (a 39) cI 48 M_one, ai (a 40) cI 48 M_other] [o_M a M_pasts M_typed M_ways M_z M_why M_rows M_wide M_column M_found, ai (a 36) cI 244 M_s, ai (a 39) cI 48 M_one, ai (a 40) cI 48 M_other] (some (.int r0)) := by
  refine mG_of (cc := cX10_cross) (maxL := 6) (ret := (some .boolean)) (by decide) rfl rfl (Nat.le_of_ble_eq_true rfl) ?_
  intro p e s m args below meth c A hx hb hr hml hlk hnm hts hown hK hP hD hA hS ls hl
  have hl : lv_has ls 6 [(0, .ref (a 35)), (1, .int x1), (2, .int x2)] := hl
  have hiX10 : ∀ w ∈ wsX100, w ∈ wsX10_cross := fun w h => List.mem_cons_of_mem _ (List.mem_append_right _ h)
  unfold m_X10_cross at hm
  have h28 : ∀ (y4 : Int32), m_X10_cross_j28 M_s M_one M_other x1 x2 y4 = some r0 → ∀ (H : Heap) (locs : List Loc), va_P D vwCl [o_M a M_pasts M_typed M_ways M_z M_why M_rows M_wide M_column M_found, ai (a 36) cI 244 M_s, ai (a 39) cI 48 M_one, ai (a 40) cI 48 M_other] H → va_D A [o_M a M_pasts M_typed M_ways M_z M_why M_rows M_wide M_column M_found, ai (a 36) cI 244 M_s, ai (a 39) cI 48 M_one, ai (a 40) cI 48 M_other] → va_S A s.heap H locs → ∀ ls : Array Slot, lv_has ls 6 [(0, .ref (a 35)), (1, .int x1), (2, .int x2)] → W p l e { frames := 2, cells := 0, slots := 0, locals := 44 } s m args below meth c H locs 0 0 (MQ below (eQ D (some (.int r0)) (fun _ : Unit => [o_M a M_pasts M_typed M_ways M_z M_why M_rows M_wide M_column M_found, ai (a 36) cI 244 M_s, ai (a 39) cI 48 M_one, ai (a 40) cI 48 M_other]) A) args s 0 0 A) (F0 m 28 ls [.int y4]) := by
    intro y4 hm H locs hP hD hS ls hl
    unfold m_X10_cross_j28 at hm
    refine lv_istore_n (lv' := [(3, .int y4), (0, .ref (a 35)), (1, .int x1), (2, .int x2)]) hx hb dX10_cross_28 rfl hl (by decide) rfl (fun ls hl => ?_)
    refine lv_iload_n hx hb dX10_cross_29 rfl (lv_at hl 2 rfl) ?_
    refine lv_iload_n hx hb dX10_cross_30 rfl (lv_at hl 3 rfl) ?_
    refine lv_iadd hx hb dX10_cross_31 ?_
    refine lv_iload_n hx hb dX10_cross_32 rfl (lv_at hl 0 rfl) ?_
    refine lv_isub hx hb dX10_cross_33 ?_
    obtain ⟨v5, ev5, hm⟩ := lt1_inv hm
    refine ltop ev5 ?_
    refine lv_istore (lv' := [(4, .int v5), (3, .int y4), (0, .ref (a 35)), (1, .int x1), (2, .int x2)]) hx hb dX10_cross_34 hl (by decide) rfl (fun ls hl => ?_)
    refine lv_aload_n hx hb dX10_cross_36 rfl (lv_at hl 2 rfl) ?_
    refine va_get (D := D) (ci := 10) (v := .ref (a 39)) (C := RX10) (T := TX10) (N := 17) hx hb hts hiX10 hown hK.1 hP 0 rfl rfl 6 (by decide) (hts (.fieldLink RX10 20 "IslandBridgesModel" "one" "[I") (List.mem_of_getElem? (i := 1) rfl)) (fun _ h9 => h9) rfl dX10_cross_37 ?_
    refine lv_iload_n hx hb dX10_cross_40 rfl (lv_at hl 1 rfl) ?_
    obtain ⟨v6, nv6, ev6, hm⟩ := rd_inv hm
    refine va_iald hx hb hK.1 hP 2 0 rfl rfl nv6 dX10_cross_41 ?_
    refine ltop ev6 ?_
    refine lv_aload_n hx hb dX10_cross_42 rfl (lv_at hl 2 rfl) ?_
    refine va_get (D := D) (ci := 10) (v := .ref (a 36)) (C := RX10) (T := TX10) (N := 17) hx hb hts hiX10 hown hK.1 hP 0 rfl rfl 0 (by decide) (hts (.fieldLink RX10 7 "IslandBridgesModel" "s" "[I") (List.mem_of_getElem? (i := 2) rfl)) (fun _ h9 => h9) rfl dX10_cross_43 ?_
    refine lv_iconst (v := 0) hx hb dX10_cross_46 (by decide) ?_
    obtain ⟨v7, nv7, ev7, hm⟩ := rd_inv hm
    refine va_iald hx hb hK.1 hP 1 0 rfl rfl nv7 dX10_cross_47 ?_
    refine ltop ev7 ?_
    obtain ⟨v8, nv8, ev8, hm⟩ := dvd_inv hm
    refine lv_idiv hx hb dX10_cross_48 nv8 ?_
    refine ltop ev8 ?_
    refine lv_aload_n hx hb dX10_cross_49 rfl (lv_at hl 2 rfl) ?_
    refine va_get (D := D) (ci := 10) (v := .ref (a 36)) (C := RX10) (T := TX10) (N := 17) hx hb hts hiX10 hown hK.1 hP 0 rfl rfl 0 (by decide) (hts (.fieldLink RX10 7 "IslandBridgesModel" "s" "[I") (List.mem_of_getElem? (i := 2) rfl)) (fun _ h9 => h9) rfl dX10_cross_50 ?_
    refine lv_iconst (v := 0) hx hb dX10_cross_53 (by decide) ?_
    obtain ⟨v9, nv9, ev9, hm⟩ := rd_inv hm
    refine va_iald hx hb hK.1 hP 1 0 rfl rfl nv9 dX10_cross_54 ?_
    refine ltop ev9 ?_
    refine lv_imul hx hb dX10_cross_55 ?_
    refine lv_aload_n hx hb dX10_cross_56 rfl (lv_at hl 2 rfl) ?_
    refine va_get (D := D) (ci := 10) (v := .ref (a 39)) (C := RX10) (T := TX10) (N := 17) hx hb hts hiX10 hown hK.1 hP 0 rfl rfl 6 (by decide) (hts (.fieldLink RX10 20 "IslandBridgesModel" "one" "[I") (List.mem_of_getElem? (i := 1) rfl)) (fun _ h9 => h9) rfl dX10_cross_57 ?_
    refine lv_iload hx hb dX10_cross_60 (lv_at hl 0 rfl) ?_
    obtain ⟨v10, nv10, ev10, hm⟩ := rd_inv hm
    refine va_iald hx hb hK.1 hP 2 0 rfl rfl nv10 dX10_cross_62 ?_
    refine ltop ev10 ?_
    refine lv_aload_n hx hb dX10_cross_63 rfl (lv_at hl 2 rfl) ?_
    refine va_get (D := D) (ci := 10) (v := .ref (a 36)) (C := RX10) (T := TX10) (N := 17) hx hb hts hiX10 hown hK.1 hP 0 rfl rfl 0 (by decide) (hts (.fieldLink RX10 7 "IslandBridgesModel" "s" "[I") (List.mem_of_getElem? (i := 2) rfl)) (fun _ h9 => h9) rfl dX10_cross_64 ?_
    refine lv_iconst (v := 0) hx hb dX10_cross_67 (by decide) ?_
    obtain ⟨v11, nv11, ev11, hm⟩ := rd_inv hm
    refine va_iald hx hb hK.1 hP 1 0 rfl rfl nv11 dX10_cross_68 ?_
    refine ltop ev11 ?_
    obtain ⟨v12, nv12, ev12, hm⟩ := rmd_inv hm
    refine lv_irem hx hb dX10_cross_69 nv12 ?_
    refine ltop ev12 ?_
    refine lv_iadd hx hb dX10_cross_70 ?_
    obtain ⟨v13, ev13, hm⟩ := lt1_inv hm
    refine ltop ev13 ?_
    refine lv_istore (lv' := [(5, .int v13), (4, .int v5), (3, .int y4), (0, .ref (a 35)), (1, .int x1), (2, .int x2)]) hx hb dX10_cross_71 hl (by decide) rfl (fun ls hl => ?_)
    refine lv_aload_n hx hb dX10_cross_73 rfl (lv_at hl 3 rfl) ?_
    refine lv_iload hx hb dX10_cross_74 (lv_at hl 0 rfl) ?_
    refine lv_iload_n hx hb dX10_cross_76 rfl (lv_at hl 2 rfl) ?_
    obtain ⟨v14, h_v14, hm⟩ := bd1_inv hm
    refine cVs ⟨hx, hb, hml, hown, hts⟩ (c_X10_isBetween l D cI cJ cS cB a M_pasts M_typed M_ways M_z M_why M_rows M_wide M_column M_found M_s M_one M_other v13 y4 v14 h_v14) (cwV 2 hts gX10_cross_X10_isBetween rfl rfl rfl hd_X10_isBetween ⟨(Nat.le_of_ble_eq_true rfl), (Nat.le_of_ble_eq_true rfl)⟩) hK hP hD hS hA [0, 1, 2, 3] rfl rfl rfl hl.1 (Nat.le_of_ble_eq_true rfl) ⟨Nat.zero_le _, Nat.zero_le _⟩ 0 rfl rfl rfl rfl dX10_cross_77 (fun H locs hP hD hS => ?_)
    refine lv_if_eq (tgt := 98) hx hb dX10_cross_80 (by decide) (fun c80 => ?_) (fun c80 => ?_)
    · have hm := ip c80 hm
      refine lv_iconst (v := 0) hx hb dX10_cross_98 (by decide) ?_
      cases hm
      exact rZ () hx hb hr hlk (by decide) hP hD hS dX10_cross_99
    · have hm := ine c80 hm
      refine lv_aload_n hx hb dX10_cross_83 rfl (lv_at hl 3 rfl) ?_
      refine lv_iload hx hb dX10_cross_84 (lv_at hl 0 rfl) ?_
      refine lv_iload hx hb dX10_cross_86 (lv_at hl 1 rfl) ?_
      obtain ⟨v15, h_v15, hm⟩ := bd1_inv hm
      refine cVs ⟨hx, hb, hml, hown, hts⟩ (c_X10_isBetween l D cI cJ cS cB a M_pasts M_typed M_ways M_z M_why M_rows M_wide M_column M_found M_s M_one M_other v13 v5 v15 h_v15) (cwV 2 hts gX10_cross_X10_isBetween rfl rfl rfl hd_X10_isBetween ⟨(Nat.le_of_ble_eq_true rfl), (Nat.le_of_ble_eq_true rfl)⟩) hK hP hD hS hA [0, 1, 2, 3] rfl rfl rfl hl.1 (Nat.le_of_ble_eq_true rfl) ⟨Nat.zero_le _, Nat.zero_le _⟩ 0 rfl rfl rfl rfl dX10_cross_88 (fun H locs hP hD hS => ?_)
      refine lv_if_eq (tgt := 98) hx hb dX10_cross_91 (by decide) (fun c91 => ?_) (fun c91 => ?_)
      · have hm := ip c91 hm
        refine lv_iconst (v := 0) hx hb dX10_cross_98 (by decide) ?_
        cases hm
        exact rZ () hx hb hr hlk (by decide) hP hD hS dX10_cross_99
      · have hm := ine c91 hm
        refine lv_iconst (v := 1) hx hb dX10_cross_94 (by decide) ?_
        refine lv_goto (tgt := 99) hx hb dX10_cross_95 (by decide) ?_
        cases hm
        exact rZ () hx hb hr hlk (by decide) hP hD hS dX10_cross_99
  refine lv_aload_n hx hb dX10_cross_0 rfl (lv_at hl 0 rfl) ?_
  refine lv_iload_n hx hb dX10_cross_1 rfl (lv_at hl 1 rfl) ?_
  obtain ⟨v1, h_v1, hm⟩ := bd1_inv hm
  refine cVs ⟨hx, hb, hml, hown, hts⟩ (c_X10_isAcross l D cI cJ cS cB a M_pasts M_typed M_ways M_z M_why M_rows M_wide M_column M_found M_s M_one M_other x1 v1 h_v1) (cwV 1 hts gX10_cross_X10_isAcross rfl rfl rfl hd_X10_isAcross ⟨(Nat.le_of_ble_eq_true rfl), (Nat.le_of_ble_eq_true rfl)⟩) hK hP hD hS hA [0, 1, 2, 3] rfl rfl rfl hl.1 (Nat.le_of_ble_eq_true rfl) ⟨Nat.zero_le _, Nat.zero_le _⟩ 0 rfl rfl rfl rfl dX10_cross_2 (fun H locs hP hD hS => ?_)
  refine lv_aload_n hx hb dX10_cross_5 rfl (lv_at hl 0 rfl) ?_
  refine lv_iload_n hx hb dX10_cross_6 rfl (lv_at hl 2 rfl) ?_
  obtain ⟨v2, h_v2, hm⟩ := bd1_inv hm
  refine cVs ⟨hx, hb, hml, hown, hts⟩ (c_X10_isAcross l D cI cJ cS cB a M_pasts M_typed M_ways M_z M_why M_rows M_wide M_column M_found M_s M_one M_other x2 v2 h_v2) (cwV 1 hts gX10_cross_X10_isAcross rfl rfl rfl hd_X10_isAcross ⟨(Nat.le_of_ble_eq_true rfl), (Nat.le_of_ble_eq_true rfl)⟩) hK hP hD hS hA [0, 1, 2, 3] rfl rfl rfl hl.1 (Nat.le_of_ble_eq_true rfl) ⟨Nat.zero_le _, Nat.zero_le _⟩ 0 rfl rfl rfl rfl dX10_cross_7 (fun H locs hP hD hS => ?_)
  refine lv_icmp_ne (tgt := 15) hx hb dX10_cross_10 (by decide) (fun c10 => ?_) (fun c10 => ?_)
  · have hm := ine c10 hm
    refine lv_aload_n hx hb dX10_cross_15 rfl (lv_at hl 0 rfl) ?_
    refine lv_iload_n hx hb dX10_cross_16 rfl (lv_at hl 1 rfl) ?_
    obtain ⟨v3, h_v3, hm⟩ := bd1_inv hm
    refine cVs ⟨hx, hb, hml, hown, hts⟩ (c_X10_isAcross l D cI cJ cS cB a M_pasts M_typed M_ways M_z M_why M_rows M_wide M_column M_found M_s M_one M_other x1 v3 h_v3) (cwV 1 hts gX10_cross_X10_isAcross rfl rfl rfl hd_X10_isAcross ⟨(Nat.le_of_ble_eq_true rfl), (Nat.le_of_ble_eq_true rfl)⟩) hK hP hD hS hA [0, 1, 2, 3] rfl rfl rfl hl.1 (Nat.le_of_ble_eq_true rfl) ⟨Nat.zero_le _, Nat.zero_le _⟩ 0 rfl rfl rfl rfl dX10_cross_17 (fun H locs hP hD hS => ?_)
    refine lv_if_eq (tgt := 27) hx hb dX10_cross_20 (by decide) (fun c20 => ?_) (fun c20 => ?_)
    · have hm := ip c20 hm
      refine lv_iload_n hx hb dX10_cross_27 rfl (lv_at hl 2 rfl) ?_
      exact h28 x2 hm _ _ hP hD hS ls (lv_sub hl [0, 1, 2] rfl)
    · have hm := ine c20 hm
      refine lv_iload_n hx hb dX10_cross_23 rfl (lv_at hl 1 rfl) ?_
      refine lv_goto (tgt := 28) hx hb dX10_cross_24 (by decide) ?_
      exact h28 x1 hm _ _ hP hD hS ls (lv_sub hl [0, 1, 2] rfl)
  · have hm := ip c10 hm
    refine lv_iconst (v := 0) hx hb dX10_cross_13 (by decide) ?_
    cases hm
    exact rZ () hx hb hr hlk (by decide) hP hD hS dX10_cross_14
theorem hd_X10_bridges : yX10_bridges.cls = RX10 ∧ yX10_bridges.cls ≠ "java/lang/invoke/MethodHandle" ∧ yX10_bridges.cls ≠ "java/lang/invoke/VarHandle" ∧ (parseMethodDescriptor yX10_bridges.desc).map (fun d => d.parameters.length) = some 1 := by decide +kernel
def m_X10_bridges (M_s : Nat → Int32) (x1 : Int32) : Option (Int32) :=
  rd 244 M_s (148 + x1) (fun v1 => some v1)
set_option maxHeartbeats 4000000 in
set_option maxRecDepth 100000 in
theorem c_X10_bridges (l : Launch) (D : va_G) (cI cJ cS cB : ClassId) (a : Nat → Nat) (M_pasts : Int32) (M_typed : Int32) (M_ways : Int32) (M_z : Int32) (M_why : Int32) (M_rows : Int32) (M_wide : Int32) (M_column : Int32) (M_found : Int32) (M_s : Nat → Int32) (x1 : Int32) (r0 : Int32) (hm : m_X10_bridges M_s x1 = some r0) :
    mU l D (TYs cI cJ cS cB) yX10_bridges wsX10_bridges { frames := 0, cells := 0, slots := 0, locals := 0 } [.ref (a 35), .int x1] [o_M a M_pasts M_typed M_ways M_z M_why M_rows M_wide M_column M_found, ai (a 36) cI 244 M_s] [o_M a M_pasts M_typed M_ways M_z M_why M_rows M_wide M_column M_found, ai (a 36) cI 244 M_s] (some (.int r0)) := by
  refine mG_of (cc := cX10_bridges) (maxL := 2) (ret := (some .int)) (by decide) rfl rfl (Nat.le_of_ble_eq_true rfl) ?_
  intro p e s m args below meth c A hx hb hr hml hlk hnm hts hown hK hP hD hA hS ls hl
  have hl : lv_has ls 2 [(0, .ref (a 35)), (1, .int x1)] := hl
  have hiX10 : ∀ w ∈ wsX100, w ∈ wsX10_bridges := fun w h => List.mem_cons_of_mem _ (List.mem_append_right _ h)
  unfold m_X10_bridges at hm
  refine lv_aload_n hx hb dX10_bridges_0 rfl (lv_at hl 0 rfl) ?_
  refine va_get (D := D) (ci := 10) (v := .ref (a 36)) (C := RX10) (T := TX10) (N := 17) hx hb hts hiX10 hown hK.1 hP 0 rfl rfl 0 (by decide) (hts (.fieldLink RX10 7 "IslandBridgesModel" "s" "[I") (List.mem_of_getElem? (i := 1) rfl)) (fun _ h9 => h9) rfl dX10_bridges_1 ?_
  refine lv_sipush (v := 148) hx hb dX10_bridges_4 (by decide) ?_
  refine lv_iload_n hx hb dX10_bridges_7 rfl (lv_at hl 1 rfl) ?_
  refine lv_iadd hx hb dX10_bridges_8 ?_
  obtain ⟨v1, nv1, ev1, hm⟩ := rd_inv hm
  refine va_iald hx hb hK.1 hP 1 0 rfl rfl nv1 dX10_bridges_9 ?_
  refine ltop ev1 ?_
  cases hm
  exact rI () hx hb hr hlk hP hD hS dX10_bridges_10
theorem hd_X10_capOf : yX10_capOf.cls = RX10 ∧ yX10_capOf.cls ≠ "java/lang/invoke/MethodHandle" ∧ yX10_capOf.cls ≠ "java/lang/invoke/VarHandle" ∧ (parseMethodDescriptor yX10_capOf.desc).map (fun d => d.parameters.length) = some 1 := by decide +kernel
def m_X10_capOf (M_s : Nat → Int32) (x1 : Int32) : Option (Int32) :=
  rd 244 M_s (196 + x1) (fun v1 => some v1)
set_option maxHeartbeats 4000000 in
set_option maxRecDepth 100000 in
theorem c_X10_capOf (l : Launch) (D : va_G) (cI cJ cS cB : ClassId) (a : Nat → Nat) (M_pasts : Int32) (M_typed : Int32) (M_ways : Int32) (M_z : Int32) (M_why : Int32) (M_rows : Int32) (M_wide : Int32) (M_column : Int32) (M_found : Int32) (M_s : Nat → Int32) (x1 : Int32) (r0 : Int32) (hm : m_X10_capOf M_s x1 = some r0) :
    mU l D (TYs cI cJ cS cB) yX10_capOf wsX10_capOf { frames := 0, cells := 0, slots := 0, locals := 0 } [.ref (a 35), .int x1] [o_M a M_pasts M_typed M_ways M_z M_why M_rows M_wide M_column M_found, ai (a 36) cI 244 M_s] [o_M a M_pasts M_typed M_ways M_z M_why M_rows M_wide M_column M_found, ai (a 36) cI 244 M_s] (some (.int r0)) := by
  refine mG_of (cc := cX10_capOf) (maxL := 2) (ret := (some .int)) (by decide) rfl rfl (Nat.le_of_ble_eq_true rfl) ?_
  intro p e s m args below meth c A hx hb hr hml hlk hnm hts hown hK hP hD hA hS ls hl
  have hl : lv_has ls 2 [(0, .ref (a 35)), (1, .int x1)] := hl
  have hiX10 : ∀ w ∈ wsX100, w ∈ wsX10_capOf := fun w h => List.mem_cons_of_mem _ (List.mem_append_right _ h)
  unfold m_X10_capOf at hm
  refine lv_aload_n hx hb dX10_capOf_0 rfl (lv_at hl 0 rfl) ?_
  refine va_get (D := D) (ci := 10) (v := .ref (a 36)) (C := RX10) (T := TX10) (N := 17) hx hb hts hiX10 hown hK.1 hP 0 rfl rfl 0 (by decide) (hts (.fieldLink RX10 7 "IslandBridgesModel" "s" "[I") (List.mem_of_getElem? (i := 1) rfl)) (fun _ h9 => h9) rfl dX10_capOf_1 ?_
  refine lv_sipush (v := 196) hx hb dX10_capOf_4 (by decide) ?_
  refine lv_iload_n hx hb dX10_capOf_7 rfl (lv_at hl 1 rfl) ?_
  refine lv_iadd hx hb dX10_capOf_8 ?_
  obtain ⟨v1, nv1, ev1, hm⟩ := rd_inv hm
  refine va_iald hx hb hK.1 hP 1 0 rfl rfl nv1 dX10_capOf_9 ?_
  refine ltop ev1 ?_
  cases hm
  exact rI () hx hb hr hlk hP hD hS dX10_capOf_10
theorem hd_X10_crossings : yX10_crossings.cls = RX10 ∧ yX10_crossings.cls ≠ "java/lang/invoke/MethodHandle" ∧ yX10_crossings.cls ≠ "java/lang/invoke/VarHandle" ∧ (parseMethodDescriptor yX10_crossings.desc).map (fun d => d.parameters.length) = some 2 := by decide +kernel
def m_X10_crossings_j43 (rec5 : Int32 → Int32 → Option (Int32)) (y6 : Int32) (y7 : Int32) (y8 : Int32) : Option (Int32) :=
  lt1 (y7 + y8) (fun v9 => lt1 (y6 + 1) (fun v10 => rec5 v9 v10))
def m_X10_crossings_j42 (rec5 : Int32 → Int32 → Option (Int32)) (y4 : Int32) (y5 : Int32) : Option (Int32) :=
  m_X10_crossings_j43 rec5 y4 y5 0
def m_X10_crossings_j38 (rec5 : Int32 → Int32 → Option (Int32)) (y11 : Int32) (y12 : Int32) : Option (Int32) :=
  m_X10_crossings_j43 rec5 y11 y12 1
def m_X10_crossings_b5 (M_ways : Int32) (M_s : Nat → Int32) (M_one : Nat → Int32) (M_other : Nat → Int32) (x1 : Int32) (x2 : Int32) (rec5 : Int32 → Int32 → Option (Int32)) (y1 : Int32) (y2 : Int32) : Option (Int32) :=
  if M_ways ≤ y2 then (some y1) else (bd1 (m_X10_cross M_s M_one M_other x1 y2) (fun v3 => if v3 = 0 then (m_X10_crossings_j42 rec5 y2 y1) else (if x2 = 0 then (m_X10_crossings_j38 rec5 y2 y1) else (bd1 (m_X10_bridges M_s y2) (fun v13 => if v13 ≤ 0 then (m_X10_crossings_j42 rec5 y2 y1) else (m_X10_crossings_j38 rec5 y2 y1))))))
def m_X10_crossings (N : Nat) (M_ways : Int32) (M_s : Nat → Int32) (M_one : Nat → Int32) (M_other : Nat → Int32) (x1 : Int32) (x2 : Int32) : Option (Int32) :=
  zl2 (m_X10_crossings_b5 M_ways M_s M_one M_other x1 x2) N 0 0
set_option maxHeartbeats 4000000 in
set_option maxRecDepth 100000 in
theorem c_X10_crossings (l : Launch) (D : va_G) (cI cJ cS cB : ClassId) (a : Nat → Nat) (M_pasts : Int32) (M_typed : Int32) (M_ways : Int32) (M_z : Int32) (M_why : Int32) (M_rows : Int32) (M_wide : Int32) (M_column : Int32) (M_found : Int32) (M_s : Nat → Int32) (M_one : Nat → Int32) (M_other : Nat → Int32) (x1 : Int32) (x2 : Int32) (N : Nat) (r0 : Int32) (hm : m_X10_crossings N M_ways M_s M_one M_other x1 x2 = some r0) :
    mU l D (TYs cI cJ cS cB) yX10_crossings wsX10_crossings { frames := 3, cells := 0, slots := 0, locals := 69 } [.ref (a 35), .int x1, .int x2] [o_M a M_pasts M_typed M_ways M_z M_why M_rows M_wide M_column M_found, ai (a 36) cI 244 M_s, ai (a 39) cI 48 M_one, ai (a 40) cI 48 M_other] [o_M a M_pasts M_typed M_ways M_z M_why M_rows M_wide M_column M_found, ai (a 36) cI 244 M_s, ai (a 39) cI 48 M_one, ai (a 40) cI 48 M_other] (some (.int r0)) := by
  refine mG_of (cc := cX10_crossings) (maxL := 5) (ret := (some .int)) (by decide) rfl rfl (Nat.le_of_ble_eq_true rfl) ?_
  intro p e s m args below meth c A hx hb hr hml hlk hnm hts hown hK hP hD hA hS ls hl
  have hl : lv_has ls 5 [(0, .ref (a 35)), (1, .int x1), (2, .int x2)] := hl
  have hiX10 : ∀ w ∈ wsX100, w ∈ wsX10_crossings := fun w h => List.mem_cons_of_mem _ (List.mem_append_right _ h)
  unfold m_X10_crossings at hm
  have h5 : ∀ (n : Nat) (y1 : Int32) (y2 : Int32), zl2 (m_X10_crossings_b5 M_ways M_s M_one M_other x1 x2) n y1 y2 = some r0 → ∀ (H : Heap) (locs : List Loc), va_P D vwCl [o_M a M_pasts M_typed M_ways M_z M_why M_rows M_wide M_column M_found, ai (a 36) cI 244 M_s, ai (a 39) cI 48 M_one, ai (a 40) cI 48 M_other] H → va_D A [o_M a M_pasts M_typed M_ways M_z M_why M_rows M_wide M_column M_found, ai (a 36) cI 244 M_s, ai (a 39) cI 48 M_one, ai (a 40) cI 48 M_other] → va_S A s.heap H locs → ∀ ls : Array Slot, lv_has ls 5 [(0, .ref (a 35)), (1, .int x1), (2, .int x2), (3, .int y1), (4, .int y2)] → W p l e { frames := 3, cells := 0, slots := 0, locals := 69 } s m args below meth c H locs 0 0 (MQ below (eQ D (some (.int r0)) (fun _ : Unit => [o_M a M_pasts M_typed M_ways M_z M_why M_rows M_wide M_column M_found, ai (a 36) cI 244 M_s, ai (a 39) cI 48 M_one, ai (a 40) cI 48 M_other]) A) args s 0 0 A) (F0 m 5 ls []) := by
    refine zl2_ind (fun rec5 ih5 y1 y2 hm => ?_)
    have h43 : ∀ (y6 : Int32) (y7 : Int32) (y8 : Int32), m_X10_crossings_j43 rec5 y6 y7 y8 = some r0 → ∀ (H : Heap) (locs : List Loc), va_P D vwCl [o_M a M_pasts M_typed M_ways M_z M_why M_rows M_wide M_column M_found, ai (a 36) cI 244 M_s, ai (a 39) cI 48 M_one, ai (a 40) cI 48 M_other] H → va_D A [o_M a M_pasts M_typed M_ways M_z M_why M_rows M_wide M_column M_found, ai (a 36) cI 244 M_s, ai (a 39) cI 48 M_one, ai (a 40) cI 48 M_other] → va_S A s.heap H locs → ∀ ls : Array Slot, lv_has ls 5 [(0, .ref (a 35)), (1, .int x1), (2, .int x2), (4, .int y6)] → W p l e { frames := 3, cells := 0, slots := 0, locals := 69 } s m args below meth c H locs 0 0 (MQ below (eQ D (some (.int r0)) (fun _ : Unit => [o_M a M_pasts M_typed M_ways M_z M_why M_rows M_wide M_column M_found, ai (a 36) cI 244 M_s, ai (a 39) cI 48 M_one, ai (a 40) cI 48 M_other]) A) args s 0 0 A) (F0 m 43 ls [.int y8, .int y7]) := by
      intro y6 y7 y8 hm H locs hP hD hS ls hl
      unfold m_X10_crossings_j43 at hm
      refine lv_iadd hx hb dX10_crossings_43 ?_
      obtain ⟨v9, ev9, hm⟩ := lt1_inv hm
      refine ltop ev9 ?_
      refine lv_istore_n (lv' := [(3, .int v9), (0, .ref (a 35)), (1, .int x1), (2, .int x2), (4, .int y6)]) hx hb dX10_crossings_44 rfl hl (by decide) rfl (fun ls hl => ?_)
      obtain ⟨v10, ev10, hm⟩ := lt1_inv hm
      refine lv_iinc (v := v10) (lv' := [(4, .int v10), (3, .int v9), (0, .ref (a 35)), (1, .int x1), (2, .int x2)]) hx hb dX10_crossings_45 hl (k := 4) rfl ev10 (by decide) rfl (fun ls hl => ?_)
      refine lv_goto (tgt := 5) hx hb dX10_crossings_48 (by decide) ?_
      exact ih5 v9 v10 hm _ _ hP hD hS ls (lv_sub hl [2, 3, 4, 1, 0] rfl)
    have h42 : ∀ (y4 : Int32) (y5 : Int32), m_X10_crossings_j42 rec5 y4 y5 = some r0 → ∀ (H : Heap) (locs : List Loc), va_P D vwCl [o_M a M_pasts M_typed M_ways M_z M_why M_rows M_wide M_column M_found, ai (a 36) cI 244 M_s, ai (a 39) cI 48 M_one, ai (a 40) cI 48 M_other] H → va_D A [o_M a M_pasts M_typed M_ways M_z M_why M_rows M_wide M_column M_found, ai (a 36) cI 244 M_s, ai (a 39) cI 48 M_one, ai (a 40) cI 48 M_other] → va_S A s.heap H locs → ∀ ls : Array Slot, lv_has ls 5 [(0, .ref (a 35)), (1, .int x1), (2, .int x2), (4, .int y4)] → W p l e { frames := 3, cells := 0, slots := 0, locals := 69 } s m args below meth c H locs 0 0 (MQ below (eQ D (some (.int r0)) (fun _ : Unit => [o_M a M_pasts M_typed M_ways M_z M_why M_rows M_wide M_column M_found, ai (a 36) cI 244 M_s, ai (a 39) cI 48 M_one, ai (a 40) cI 48 M_other]) A) args s 0 0 A) (F0 m 42 ls [.int y5]) := by
      intro y4 y5 hm H locs hP hD hS ls hl
      unfold m_X10_crossings_j42 at hm
      refine lv_iconst (v := 0) hx hb dX10_crossings_42 (by decide) ?_
      exact h43 y4 y5 0 hm _ _ hP hD hS ls (lv_sub hl [0, 1, 2, 3] rfl)
    have h38 : ∀ (y11 : Int32) (y12 : Int32), m_X10_crossings_j38 rec5 y11 y12 = some r0 → ∀ (H : Heap) (locs : List Loc), va_P D vwCl [o_M a M_pasts M_typed M_ways M_z M_why M_rows M_wide M_column M_found, ai (a 36) cI 244 M_s, ai (a 39) cI 48 M_one, ai (a 40) cI 48 M_other] H → va_D A [o_M a M_pasts M_typed M_ways M_z M_why M_rows M_wide M_column M_found, ai (a 36) cI 244 M_s, ai (a 39) cI 48 M_one, ai (a 40) cI 48 M_other] → va_S A s.heap H locs → ∀ ls : Array Slot, lv_has ls 5 [(0, .ref (a 35)), (1, .int x1), (2, .int x2), (4, .int y11)] → W p l e { frames := 3, cells := 0, slots := 0, locals := 69 } s m args below meth c H locs 0 0 (MQ below (eQ D (some (.int r0)) (fun _ : Unit => [o_M a M_pasts M_typed M_ways M_z M_why M_rows M_wide M_column M_found, ai (a 36) cI 244 M_s, ai (a 39) cI 48 M_one, ai (a 40) cI 48 M_other]) A) args s 0 0 A) (F0 m 38 ls [.int y12]) := by
      intro y11 y12 hm H locs hP hD hS ls hl
      unfold m_X10_crossings_j38 at hm
      refine lv_iconst (v := 1) hx hb dX10_crossings_38 (by decide) ?_
      refine lv_goto (tgt := 43) hx hb dX10_crossings_39 (by decide) ?_
      exact h43 y11 y12 1 hm _ _ hP hD hS ls (lv_sub hl [0, 1, 2, 3] rfl)
    intro H locs hP hD hS ls hl
    unfold m_X10_crossings_b5 at hm
    refine lv_iload hx hb dX10_crossings_5 (lv_at hl 4 rfl) ?_
    refine lv_aload_n hx hb dX10_crossings_7 rfl (lv_at hl 0 rfl) ?_
    refine va_get (D := D) (ci := 10) (v := .int M_ways) (C := RX10) (T := TX10) (N := 17) hx hb hts hiX10 hown hK.1 hP 0 rfl rfl 5 (by decide) (hts (.fieldLink RX10 54 "IslandBridgesModel" "ways" "I") (List.mem_of_getElem? (i := 1) rfl)) (fun _ h9 => h9) rfl dX10_crossings_8 ?_
    refine lv_icmp_ge (tgt := 51) hx hb dX10_crossings_11 (by decide) (fun c11 => ?_) (fun c11 => ?_)
    · have hm := ip c11 hm
      refine lv_iload_n hx hb dX10_crossings_51 rfl (lv_at hl 3 rfl) ?_
      cases hm
      exact rI () hx hb hr hlk hP hD hS dX10_crossings_52
    · have hm := ine c11 hm
      refine lv_iload_n hx hb dX10_crossings_14 rfl (lv_at hl 3 rfl) ?_
      refine lv_aload_n hx hb dX10_crossings_15 rfl (lv_at hl 0 rfl) ?_
      refine lv_iload_n hx hb dX10_crossings_16 rfl (lv_at hl 1 rfl) ?_
      refine lv_iload hx hb dX10_crossings_17 (lv_at hl 4 rfl) ?_
      obtain ⟨v3, h_v3, hm⟩ := bd1_inv hm
      refine cVs ⟨hx, hb, hml, hown, hts⟩ (c_X10_cross l D cI cJ cS cB a M_pasts M_typed M_ways M_z M_why M_rows M_wide M_column M_found M_s M_one M_other x1 y2 v3 h_v3) (cwV 2 hts gX10_crossings_X10_cross rfl rfl rfl hd_X10_cross ⟨(Nat.le_of_ble_eq_true rfl), (Nat.le_of_ble_eq_true rfl)⟩) hK hP hD hS hA [0, 1, 2, 3] rfl rfl rfl hl.1 (Nat.le_of_ble_eq_true rfl) ⟨Nat.zero_le _, Nat.zero_le _⟩ 0 rfl rfl rfl rfl dX10_crossings_19 (fun H locs hP hD hS => ?_)
      refine lv_if_eq (tgt := 42) hx hb dX10_crossings_22 (by decide) (fun c22 => ?_) (fun c22 => ?_)
      · have hm := ip c22 hm
        exact h42 y2 y1 hm _ _ hP hD hS ls (lv_sub hl [0, 1, 2, 4] rfl)
      · have hm := ine c22 hm
        refine lv_iload_n hx hb dX10_crossings_25 rfl (lv_at hl 2 rfl) ?_
        refine lv_if_eq (tgt := 38) hx hb dX10_crossings_26 (by decide) (fun c26 => ?_) (fun c26 => ?_)
        · have hm := ip c26 hm
          exact h38 y2 y1 hm _ _ hP hD hS ls (lv_sub hl [0, 1, 2, 4] rfl)
        · have hm := ine c26 hm
          refine lv_aload_n hx hb dX10_crossings_29 rfl (lv_at hl 0 rfl) ?_
          refine lv_iload hx hb dX10_crossings_30 (lv_at hl 4 rfl) ?_
          obtain ⟨v13, h_v13, hm⟩ := bd1_inv hm
          refine cVs ⟨hx, hb, hml, hown, hts⟩ (c_X10_bridges l D cI cJ cS cB a M_pasts M_typed M_ways M_z M_why M_rows M_wide M_column M_found M_s y2 v13 h_v13) (cwV 1 hts gX10_crossings_X10_bridges rfl rfl rfl hd_X10_bridges ⟨(Nat.le_of_ble_eq_true rfl), (Nat.le_of_ble_eq_true rfl)⟩) hK hP hD hS hA [0, 1] rfl rfl rfl hl.1 (Nat.le_of_ble_eq_true rfl) ⟨Nat.zero_le _, Nat.zero_le _⟩ 0 rfl rfl rfl rfl dX10_crossings_32 (fun H locs hP hD hS => ?_)
          refine lv_if_le (tgt := 42) hx hb dX10_crossings_35 (by decide) (fun c35 => ?_) (fun c35 => ?_)
          · have hm := ip c35 hm
            exact h42 y2 y1 hm _ _ hP hD hS ls (lv_sub hl [0, 1, 2, 4] rfl)
          · have hm := ine c35 hm
            exact h38 y2 y1 hm _ _ hP hD hS ls (lv_sub hl [0, 1, 2, 4] rfl)
  refine lv_iconst (v := 0) hx hb dX10_crossings_0 (by decide) ?_
  refine lv_istore_n (lv' := [(3, .int 0), (0, .ref (a 35)), (1, .int x1), (2, .int x2)]) hx hb dX10_crossings_1 rfl hl (by decide) rfl (fun ls hl => ?_)
  refine lv_iconst (v := 0) hx hb dX10_crossings_2 (by decide) ?_
  refine lv_istore (lv' := [(4, .int 0), (3, .int 0), (0, .ref (a 35)), (1, .int x1), (2, .int x2)]) hx hb dX10_crossings_3 hl (by decide) rfl (fun ls hl => ?_)
  exact h5  N 0 0 hm _ _ hP hD hS ls (lv_sub hl [2, 3, 4, 1, 0] rfl)
theorem hd_X10_isOf : yX10_isOf.cls = RX10 ∧ yX10_isOf.cls ≠ "java/lang/invoke/MethodHandle" ∧ yX10_isOf.cls ≠ "java/lang/invoke/VarHandle" ∧ (parseMethodDescriptor yX10_isOf.desc).map (fun d => d.parameters.length) = some 2 := by decide +kernel
def m_X10_isOf_j20  : Option (Int32) :=
  some 1
def m_X10_isOf (M_one : Nat → Int32) (M_other : Nat → Int32) (x1 : Int32) (x2 : Int32) : Option (Int32) :=
  rd 48 M_one x1 (fun v1 => if v1 = x2 then (m_X10_isOf_j20) else (rd 48 M_other x1 (fun v2 => if v2 = x2 then (m_X10_isOf_j20) else (some 0))))
set_option maxHeartbeats 4000000 in
set_option maxRecDepth 100000 in
theorem c_X10_isOf (l : Launch) (D : va_G) (cI cJ cS cB : ClassId) (a : Nat → Nat) (M_pasts : Int32) (M_typed : Int32) (M_ways : Int32) (M_z : Int32) (M_why : Int32) (M_rows : Int32) (M_wide : Int32) (M_column : Int32) (M_found : Int32) (M_one : Nat → Int32) (M_other : Nat → Int32) (x1 : Int32) (x2 : Int32) (r0 : Int32) (hm : m_X10_isOf M_one M_other x1 x2 = some r0) :
    mU l D (TYs cI cJ cS cB) yX10_isOf wsX10_isOf { frames := 0, cells := 0, slots := 0, locals := 0 } [.ref (a 35), .int x1, .int x2] [o_M a M_pasts M_typed M_ways M_z M_why M_rows M_wide M_column M_found, ai (a 39) cI 48 M_one, ai (a 40) cI 48 M_other] [o_M a M_pasts M_typed M_ways M_z M_why M_rows M_wide M_column M_found, ai (a 39) cI 48 M_one, ai (a 40) cI 48 M_other] (some (.int r0)) := by
  refine mG_of (cc := cX10_isOf) (maxL := 3) (ret := (some .boolean)) (by decide) rfl rfl (Nat.le_of_ble_eq_true rfl) ?_
  intro p e s m args below meth c A hx hb hr hml hlk hnm hts hown hK hP hD hA hS ls hl
  have hl : lv_has ls 3 [(0, .ref (a 35)), (1, .int x1), (2, .int x2)] := hl
  have hiX10 : ∀ w ∈ wsX100, w ∈ wsX10_isOf := fun w h => List.mem_cons_of_mem _ (List.mem_append_right _ h)
  unfold m_X10_isOf at hm
  have h20 : m_X10_isOf_j20 = some r0 → ∀ (H : Heap) (locs : List Loc), va_P D vwCl [o_M a M_pasts M_typed M_ways M_z M_why M_rows M_wide M_column M_found, ai (a 39) cI 48 M_one, ai (a 40) cI 48 M_other] H → va_D A [o_M a M_pasts M_typed M_ways M_z M_why M_rows M_wide M_column M_found, ai (a 39) cI 48 M_one, ai (a 40) cI 48 M_other] → va_S A s.heap H locs → ∀ ls : Array Slot, lv_has ls 3 [] → W p l e { frames := 0, cells := 0, slots := 0, locals := 0 } s m args below meth c H locs 0 0 (MQ below (eQ D (some (.int r0)) (fun _ : Unit => [o_M a M_pasts M_typed M_ways M_z M_why M_rows M_wide M_column M_found, ai (a 39) cI 48 M_one, ai (a 40) cI 48 M_other]) A) args s 0 0 A) (F0 m 20 ls []) := by
    intro  hm H locs hP hD hS ls hl
    unfold m_X10_isOf_j20 at hm
    refine lv_iconst (v := 1) hx hb dX10_isOf_20 (by decide) ?_
    refine lv_goto (tgt := 25) hx hb dX10_isOf_21 (by decide) ?_
    cases hm
    exact rZ () hx hb hr hlk (by decide) hP hD hS dX10_isOf_25
  refine lv_aload_n hx hb dX10_isOf_0 rfl (lv_at hl 0 rfl) ?_
  refine va_get (D := D) (ci := 10) (v := .ref (a 39)) (C := RX10) (T := TX10) (N := 17) hx hb hts hiX10 hown hK.1 hP 0 rfl rfl 6 (by decide) (hts (.fieldLink RX10 20 "IslandBridgesModel" "one" "[I") (List.mem_of_getElem? (i := 1) rfl)) (fun _ h9 => h9) rfl dX10_isOf_1 ?_
  refine lv_iload_n hx hb dX10_isOf_4 rfl (lv_at hl 1 rfl) ?_
  obtain ⟨v1, nv1, ev1, hm⟩ := rd_inv hm
  refine va_iald hx hb hK.1 hP 1 0 rfl rfl nv1 dX10_isOf_5 ?_
  refine ltop ev1 ?_
  refine lv_iload_n hx hb dX10_isOf_6 rfl (lv_at hl 2 rfl) ?_
  refine lv_icmp_eq (tgt := 20) hx hb dX10_isOf_7 (by decide) (fun c7 => ?_) (fun c7 => ?_)
  · have hm := ip c7 hm
    exact h20  hm _ _ hP hD hS ls (lv_sub hl [] rfl)
  · have hm := ine c7 hm
    refine lv_aload_n hx hb dX10_isOf_10 rfl (lv_at hl 0 rfl) ?_
    refine va_get (D := D) (ci := 10) (v := .ref (a 40)) (C := RX10) (T := TX10) (N := 17) hx hb hts hiX10 hown hK.1 hP 0 rfl rfl 7 (by decide) (hts (.fieldLink RX10 23 "IslandBridgesModel" "other" "[I") (List.mem_of_getElem? (i := 2) rfl)) (fun _ h9 => h9) rfl dX10_isOf_11 ?_
    refine lv_iload_n hx hb dX10_isOf_14 rfl (lv_at hl 1 rfl) ?_
    obtain ⟨v2, nv2, ev2, hm⟩ := rd_inv hm
    refine va_iald hx hb hK.1 hP 2 0 rfl rfl nv2 dX10_isOf_15 ?_
    refine ltop ev2 ?_
    refine lv_iload_n hx hb dX10_isOf_16 rfl (lv_at hl 2 rfl) ?_
    refine lv_icmp_ne (tgt := 24) hx hb dX10_isOf_17 (by decide) (fun c17 => ?_) (fun c17 => ?_)
    · have hm := ine c17 hm
      refine lv_iconst (v := 0) hx hb dX10_isOf_24 (by decide) ?_
      cases hm
      exact rZ () hx hb hr hlk (by decide) hP hD hS dX10_isOf_25
    · have hm := ip c17 hm
      exact h20  hm _ _ hP hD hS ls (lv_sub hl [] rfl)
theorem hd_X10_bridgesOf : yX10_bridgesOf.cls = RX10 ∧ yX10_bridgesOf.cls ≠ "java/lang/invoke/MethodHandle" ∧ yX10_bridgesOf.cls ≠ "java/lang/invoke/VarHandle" ∧ (parseMethodDescriptor yX10_bridgesOf.desc).map (fun d => d.parameters.length) = some 1 := by decide +kernel
def m_X10_bridgesOf_j31 (rec4 : Int32 → Int32 → Option (Int32)) (y4 : Int32) (y5 : Int32) (y6 : Int32) : Option (Int32) :=
  lt1 (y5 + y6) (fun v7 => lt1 (y4 + 1) (fun v8 => rec4 v7 v8))
def m_X10_bridgesOf_b4 (M_ways : Int32) (M_s : Nat → Int32) (M_one : Nat → Int32) (M_other : Nat → Int32) (x1 : Int32) (rec4 : Int32 → Int32 → Option (Int32)) (y1 : Int32) (y2 : Int32) : Option (Int32) :=
  if M_ways ≤ y2 then (some y1) else (bd1 (m_X10_isOf M_one M_other y2 x1) (fun v3 => if v3 = 0 then (m_X10_bridgesOf_j31 rec4 y2 y1 0) else (bd1 (m_X10_bridges M_s y2) (fun v9 => m_X10_bridgesOf_j31 rec4 y2 y1 v9))))
def m_X10_bridgesOf (N : Nat) (M_ways : Int32) (M_s : Nat → Int32) (M_one : Nat → Int32) (M_other : Nat → Int32) (x1 : Int32) : Option (Int32) :=
  zl2 (m_X10_bridgesOf_b4 M_ways M_s M_one M_other x1) N 0 0
set_option maxHeartbeats 4000000 in
set_option maxRecDepth 100000 in
theorem c_X10_bridgesOf (l : Launch) (D : va_G) (cI cJ cS cB : ClassId) (a : Nat → Nat) (M_pasts : Int32) (M_typed : Int32) (M_ways : Int32) (M_z : Int32) (M_why : Int32) (M_rows : Int32) (M_wide : Int32) (M_column : Int32) (M_found : Int32) (M_s : Nat → Int32) (M_one : Nat → Int32) (M_other : Nat → Int32) (x1 : Int32) (N : Nat) (r0 : Int32) (hm : m_X10_bridgesOf N M_ways M_s M_one M_other x1 = some r0) :
    mU l D (TYs cI cJ cS cB) yX10_bridgesOf wsX10_bridgesOf { frames := 1, cells := 0, slots := 0, locals := 22 } [.ref (a 35), .int x1] [o_M a M_pasts M_typed M_ways M_z M_why M_rows M_wide M_column M_found, ai (a 36) cI 244 M_s, ai (a 39) cI 48 M_one, ai (a 40) cI 48 M_other] [o_M a M_pasts M_typed M_ways M_z M_why M_rows M_wide M_column M_found, ai (a 36) cI 244 M_s, ai (a 39) cI 48 M_one, ai (a 40) cI 48 M_other] (some (.int r0)) := by
  refine mG_of (cc := cX10_bridgesOf) (maxL := 4) (ret := (some .int)) (by decide) rfl rfl (Nat.le_of_ble_eq_true rfl) ?_
  intro p e s m args below meth c A hx hb hr hml hlk hnm hts hown hK hP hD hA hS ls hl
  have hl : lv_has ls 4 [(0, .ref (a 35)), (1, .int x1)] := hl
  have hiX10 : ∀ w ∈ wsX100, w ∈ wsX10_bridgesOf := fun w h => List.mem_cons_of_mem _ (List.mem_append_right _ h)
  unfold m_X10_bridgesOf at hm
  have h4 : ∀ (n : Nat) (y1 : Int32) (y2 : Int32), zl2 (m_X10_bridgesOf_b4 M_ways M_s M_one M_other x1) n y1 y2 = some r0 → ∀ (H : Heap) (locs : List Loc), va_P D vwCl [o_M a M_pasts M_typed M_ways M_z M_why M_rows M_wide M_column M_found, ai (a 36) cI 244 M_s, ai (a 39) cI 48 M_one, ai (a 40) cI 48 M_other] H → va_D A [o_M a M_pasts M_typed M_ways M_z M_why M_rows M_wide M_column M_found, ai (a 36) cI 244 M_s, ai (a 39) cI 48 M_one, ai (a 40) cI 48 M_other] → va_S A s.heap H locs → ∀ ls : Array Slot, lv_has ls 4 [(0, .ref (a 35)), (1, .int x1), (2, .int y1), (3, .int y2)] → W p l e { frames := 1, cells := 0, slots := 0, locals := 22 } s m args below meth c H locs 0 0 (MQ below (eQ D (some (.int r0)) (fun _ : Unit => [o_M a M_pasts M_typed M_ways M_z M_why M_rows M_wide M_column M_found, ai (a 36) cI 244 M_s, ai (a 39) cI 48 M_one, ai (a 40) cI 48 M_other]) A) args s 0 0 A) (F0 m 4 ls []) := by
    refine zl2_ind (fun rec4 ih4 y1 y2 hm => ?_)
    have h31 : ∀ (y4 : Int32) (y5 : Int32) (y6 : Int32), m_X10_bridgesOf_j31 rec4 y4 y5 y6 = some r0 → ∀ (H : Heap) (locs : List Loc), va_P D vwCl [o_M a M_pasts M_typed M_ways M_z M_why M_rows M_wide M_column M_found, ai (a 36) cI 244 M_s, ai (a 39) cI 48 M_one, ai (a 40) cI 48 M_other] H → va_D A [o_M a M_pasts M_typed M_ways M_z M_why M_rows M_wide M_column M_found, ai (a 36) cI 244 M_s, ai (a 39) cI 48 M_one, ai (a 40) cI 48 M_other] → va_S A s.heap H locs → ∀ ls : Array Slot, lv_has ls 4 [(0, .ref (a 35)), (1, .int x1), (3, .int y4)] → W p l e { frames := 1, cells := 0, slots := 0, locals := 22 } s m args below meth c H locs 0 0 (MQ below (eQ D (some (.int r0)) (fun _ : Unit => [o_M a M_pasts M_typed M_ways M_z M_why M_rows M_wide M_column M_found, ai (a 36) cI 244 M_s, ai (a 39) cI 48 M_one, ai (a 40) cI 48 M_other]) A) args s 0 0 A) (F0 m 31 ls [.int y6, .int y5]) := by
      intro y4 y5 y6 hm H locs hP hD hS ls hl
      unfold m_X10_bridgesOf_j31 at hm
      refine lv_iadd hx hb dX10_bridgesOf_31 ?_
      obtain ⟨v7, ev7, hm⟩ := lt1_inv hm
      refine ltop ev7 ?_
      refine lv_istore_n (lv' := [(2, .int v7), (0, .ref (a 35)), (1, .int x1), (3, .int y4)]) hx hb dX10_bridgesOf_32 rfl hl (by decide) rfl (fun ls hl => ?_)
      obtain ⟨v8, ev8, hm⟩ := lt1_inv hm
      refine lv_iinc (v := v8) (lv' := [(3, .int v8), (2, .int v7), (0, .ref (a 35)), (1, .int x1)]) hx hb dX10_bridgesOf_33 hl (k := 3) rfl ev8 (by decide) rfl (fun ls hl => ?_)
      refine lv_goto (tgt := 4) hx hb dX10_bridgesOf_36 (by decide) ?_
      exact ih4 v7 v8 hm _ _ hP hD hS ls (lv_sub hl [2, 3, 1, 0] rfl)
    intro H locs hP hD hS ls hl
    unfold m_X10_bridgesOf_b4 at hm
    refine lv_iload_n hx hb dX10_bridgesOf_4 rfl (lv_at hl 3 rfl) ?_
    refine lv_aload_n hx hb dX10_bridgesOf_5 rfl (lv_at hl 0 rfl) ?_
    refine va_get (D := D) (ci := 10) (v := .int M_ways) (C := RX10) (T := TX10) (N := 17) hx hb hts hiX10 hown hK.1 hP 0 rfl rfl 5 (by decide) (hts (.fieldLink RX10 54 "IslandBridgesModel" "ways" "I") (List.mem_of_getElem? (i := 1) rfl)) (fun _ h9 => h9) rfl dX10_bridgesOf_6 ?_
    refine lv_icmp_ge (tgt := 39) hx hb dX10_bridgesOf_9 (by decide) (fun c9 => ?_) (fun c9 => ?_)
    · have hm := ip c9 hm
      refine lv_iload_n hx hb dX10_bridgesOf_39 rfl (lv_at hl 2 rfl) ?_
      cases hm
      exact rI () hx hb hr hlk hP hD hS dX10_bridgesOf_40
    · have hm := ine c9 hm
      refine lv_iload_n hx hb dX10_bridgesOf_12 rfl (lv_at hl 2 rfl) ?_
      refine lv_aload_n hx hb dX10_bridgesOf_13 rfl (lv_at hl 0 rfl) ?_
      refine lv_iload_n hx hb dX10_bridgesOf_14 rfl (lv_at hl 3 rfl) ?_
      refine lv_iload_n hx hb dX10_bridgesOf_15 rfl (lv_at hl 1 rfl) ?_
      obtain ⟨v3, h_v3, hm⟩ := bd1_inv hm
      refine cVs ⟨hx, hb, hml, hown, hts⟩ (c_X10_isOf l D cI cJ cS cB a M_pasts M_typed M_ways M_z M_why M_rows M_wide M_column M_found M_one M_other y2 x1 v3 h_v3) (cwV 2 hts gX10_bridgesOf_X10_isOf rfl rfl rfl hd_X10_isOf ⟨(Nat.le_of_ble_eq_true rfl), (Nat.le_of_ble_eq_true rfl)⟩) hK hP hD hS hA [0, 2, 3] rfl rfl rfl hl.1 (Nat.le_of_ble_eq_true rfl) ⟨Nat.zero_le _, Nat.zero_le _⟩ 0 rfl rfl rfl rfl dX10_bridgesOf_16 (fun H locs hP hD hS => ?_)
      refine lv_if_eq (tgt := 30) hx hb dX10_bridgesOf_19 (by decide) (fun c19 => ?_) (fun c19 => ?_)
      · have hm := ip c19 hm
        refine lv_iconst (v := 0) hx hb dX10_bridgesOf_30 (by decide) ?_
        exact h31 y2 y1 0 hm _ _ hP hD hS ls (lv_sub hl [0, 1, 3] rfl)
      · have hm := ine c19 hm
        refine lv_aload_n hx hb dX10_bridgesOf_22 rfl (lv_at hl 0 rfl) ?_
        refine lv_iload_n hx hb dX10_bridgesOf_23 rfl (lv_at hl 3 rfl) ?_
        obtain ⟨v9, h_v9, hm⟩ := bd1_inv hm
        refine cVs ⟨hx, hb, hml, hown, hts⟩ (c_X10_bridges l D cI cJ cS cB a M_pasts M_typed M_ways M_z M_why M_rows M_wide M_column M_found M_s y2 v9 h_v9) (cwV 1 hts gX10_bridgesOf_X10_bridges rfl rfl rfl hd_X10_bridges ⟨(Nat.le_of_ble_eq_true rfl), (Nat.le_of_ble_eq_true rfl)⟩) hK hP hD hS hA [0, 1] rfl rfl rfl hl.1 (Nat.le_of_ble_eq_true rfl) ⟨Nat.zero_le _, Nat.zero_le _⟩ 0 rfl rfl rfl rfl dX10_bridgesOf_24 (fun H locs hP hD hS => ?_)
        refine lv_goto (tgt := 31) hx hb dX10_bridgesOf_27 (by decide) ?_
        exact h31 y2 y1 v9 hm _ _ hP hD hS ls (lv_sub hl [0, 1, 3] rfl)
  refine lv_iconst (v := 0) hx hb dX10_bridgesOf_0 (by decide) ?_
  refine lv_istore_n (lv' := [(2, .int 0), (0, .ref (a 35)), (1, .int x1)]) hx hb dX10_bridgesOf_1 rfl hl (by decide) rfl (fun ls hl => ?_)
  refine lv_iconst (v := 0) hx hb dX10_bridgesOf_2 (by decide) ?_
  refine lv_istore_n (lv' := [(3, .int 0), (2, .int 0), (0, .ref (a 35)), (1, .int x1)]) hx hb dX10_bridgesOf_3 rfl hl (by decide) rfl (fun ls hl => ?_)
  exact h4  N 0 0 hm _ _ hP hD hS ls (lv_sub hl [2, 3, 1, 0] rfl)
theorem hd_X10_capsOf : yX10_capsOf.cls = RX10 ∧ yX10_capsOf.cls ≠ "java/lang/invoke/MethodHandle" ∧ yX10_capsOf.cls ≠ "java/lang/invoke/VarHandle" ∧ (parseMethodDescriptor yX10_capsOf.desc).map (fun d => d.parameters.length) = some 1 := by decide +kernel
def m_X10_capsOf_j31 (rec4 : Int32 → Int32 → Option (Int32)) (y4 : Int32) (y5 : Int32) (y6 : Int32) : Option (Int32) :=
  lt1 (y5 + y6) (fun v7 => lt1 (y4 + 1) (fun v8 => rec4 v7 v8))
def m_X10_capsOf_b4 (M_ways : Int32) (M_s : Nat → Int32) (M_one : Nat → Int32) (M_other : Nat → Int32) (x1 : Int32) (rec4 : Int32 → Int32 → Option (Int32)) (y1 : Int32) (y2 : Int32) : Option (Int32) :=
  if M_ways ≤ y2 then (some y1) else (bd1 (m_X10_isOf M_one M_other y2 x1) (fun v3 => if v3 = 0 then (m_X10_capsOf_j31 rec4 y2 y1 0) else (bd1 (m_X10_capOf M_s y2) (fun v9 => m_X10_capsOf_j31 rec4 y2 y1 v9))))
def m_X10_capsOf (N : Nat) (M_ways : Int32) (M_s : Nat → Int32) (M_one : Nat → Int32) (M_other : Nat → Int32) (x1 : Int32) : Option (Int32) :=
  zl2 (m_X10_capsOf_b4 M_ways M_s M_one M_other x1) N 0 0
set_option maxHeartbeats 4000000 in
set_option maxRecDepth 100000 in
theorem c_X10_capsOf (l : Launch) (D : va_G) (cI cJ cS cB : ClassId) (a : Nat → Nat) (M_pasts : Int32) (M_typed : Int32) (M_ways : Int32) (M_z : Int32) (M_why : Int32) (M_rows : Int32) (M_wide : Int32) (M_column : Int32) (M_found : Int32) (M_s : Nat → Int32) (M_one : Nat → Int32) (M_other : Nat → Int32) (x1 : Int32) (N : Nat) (r0 : Int32) (hm : m_X10_capsOf N M_ways M_s M_one M_other x1 = some r0) :
    mU l D (TYs cI cJ cS cB) yX10_capsOf wsX10_capsOf { frames := 1, cells := 0, slots := 0, locals := 22 } [.ref (a 35), .int x1] [o_M a M_pasts M_typed M_ways M_z M_why M_rows M_wide M_column M_found, ai (a 36) cI 244 M_s, ai (a 39) cI 48 M_one, ai (a 40) cI 48 M_other] [o_M a M_pasts M_typed M_ways M_z M_why M_rows M_wide M_column M_found, ai (a 36) cI 244 M_s, ai (a 39) cI 48 M_one, ai (a 40) cI 48 M_other] (some (.int r0)) := by
  refine mG_of (cc := cX10_capsOf) (maxL := 4) (ret := (some .int)) (by decide) rfl rfl (Nat.le_of_ble_eq_true rfl) ?_
  intro p e s m args below meth c A hx hb hr hml hlk hnm hts hown hK hP hD hA hS ls hl
  have hl : lv_has ls 4 [(0, .ref (a 35)), (1, .int x1)] := hl
  have hiX10 : ∀ w ∈ wsX100, w ∈ wsX10_capsOf := fun w h => List.mem_cons_of_mem _ (List.mem_append_right _ h)
  unfold m_X10_capsOf at hm
  have h4 : ∀ (n : Nat) (y1 : Int32) (y2 : Int32), zl2 (m_X10_capsOf_b4 M_ways M_s M_one M_other x1) n y1 y2 = some r0 → ∀ (H : Heap) (locs : List Loc), va_P D vwCl [o_M a M_pasts M_typed M_ways M_z M_why M_rows M_wide M_column M_found, ai (a 36) cI 244 M_s, ai (a 39) cI 48 M_one, ai (a 40) cI 48 M_other] H → va_D A [o_M a M_pasts M_typed M_ways M_z M_why M_rows M_wide M_column M_found, ai (a 36) cI 244 M_s, ai (a 39) cI 48 M_one, ai (a 40) cI 48 M_other] → va_S A s.heap H locs → ∀ ls : Array Slot, lv_has ls 4 [(0, .ref (a 35)), (1, .int x1), (2, .int y1), (3, .int y2)] → W p l e { frames := 1, cells := 0, slots := 0, locals := 22 } s m args below meth c H locs 0 0 (MQ below (eQ D (some (.int r0)) (fun _ : Unit => [o_M a M_pasts M_typed M_ways M_z M_why M_rows M_wide M_column M_found, ai (a 36) cI 244 M_s, ai (a 39) cI 48 M_one, ai (a 40) cI 48 M_other]) A) args s 0 0 A) (F0 m 4 ls []) := by
    refine zl2_ind (fun rec4 ih4 y1 y2 hm => ?_)
    have h31 : ∀ (y4 : Int32) (y5 : Int32) (y6 : Int32), m_X10_capsOf_j31 rec4 y4 y5 y6 = some r0 → ∀ (H : Heap) (locs : List Loc), va_P D vwCl [o_M a M_pasts M_typed M_ways M_z M_why M_rows M_wide M_column M_found, ai (a 36) cI 244 M_s, ai (a 39) cI 48 M_one, ai (a 40) cI 48 M_other] H → va_D A [o_M a M_pasts M_typed M_ways M_z M_why M_rows M_wide M_column M_found, ai (a 36) cI 244 M_s, ai (a 39) cI 48 M_one, ai (a 40) cI 48 M_other] → va_S A s.heap H locs → ∀ ls : Array Slot, lv_has ls 4 [(0, .ref (a 35)), (1, .int x1), (3, .int y4)] → W p l e { frames := 1, cells := 0, slots := 0, locals := 22 } s m args below meth c H locs 0 0 (MQ below (eQ D (some (.int r0)) (fun _ : Unit => [o_M a M_pasts M_typed M_ways M_z M_why M_rows M_wide M_column M_found, ai (a 36) cI 244 M_s, ai (a 39) cI 48 M_one, ai (a 40) cI 48 M_other]) A) args s 0 0 A) (F0 m 31 ls [.int y6, .int y5]) := by
      intro y4 y5 y6 hm H locs hP hD hS ls hl
      unfold m_X10_capsOf_j31 at hm
      refine lv_iadd hx hb dX10_capsOf_31 ?_
      obtain ⟨v7, ev7, hm⟩ := lt1_inv hm
      refine ltop ev7 ?_
      refine lv_istore_n (lv' := [(2, .int v7), (0, .ref (a 35)), (1, .int x1), (3, .int y4)]) hx hb dX10_capsOf_32 rfl hl (by decide) rfl (fun ls hl => ?_)
      obtain ⟨v8, ev8, hm⟩ := lt1_inv hm
      refine lv_iinc (v := v8) (lv' := [(3, .int v8), (2, .int v7), (0, .ref (a 35)), (1, .int x1)]) hx hb dX10_capsOf_33 hl (k := 3) rfl ev8 (by decide) rfl (fun ls hl => ?_)
      refine lv_goto (tgt := 4) hx hb dX10_capsOf_36 (by decide) ?_
      exact ih4 v7 v8 hm _ _ hP hD hS ls (lv_sub hl [2, 3, 1, 0] rfl)
    intro H locs hP hD hS ls hl
    unfold m_X10_capsOf_b4 at hm
    refine lv_iload_n hx hb dX10_capsOf_4 rfl (lv_at hl 3 rfl) ?_
    refine lv_aload_n hx hb dX10_capsOf_5 rfl (lv_at hl 0 rfl) ?_
    refine va_get (D := D) (ci := 10) (v := .int M_ways) (C := RX10) (T := TX10) (N := 17) hx hb hts hiX10 hown hK.1 hP 0 rfl rfl 5 (by decide) (hts (.fieldLink RX10 54 "IslandBridgesModel" "ways" "I") (List.mem_of_getElem? (i := 1) rfl)) (fun _ h9 => h9) rfl dX10_capsOf_6 ?_
    refine lv_icmp_ge (tgt := 39) hx hb dX10_capsOf_9 (by decide) (fun c9 => ?_) (fun c9 => ?_)
    · have hm := ip c9 hm
      refine lv_iload_n hx hb dX10_capsOf_39 rfl (lv_at hl 2 rfl) ?_
      cases hm
      exact rI () hx hb hr hlk hP hD hS dX10_capsOf_40
    · have hm := ine c9 hm
      refine lv_iload_n hx hb dX10_capsOf_12 rfl (lv_at hl 2 rfl) ?_
      refine lv_aload_n hx hb dX10_capsOf_13 rfl (lv_at hl 0 rfl) ?_
      refine lv_iload_n hx hb dX10_capsOf_14 rfl (lv_at hl 3 rfl) ?_
      refine lv_iload_n hx hb dX10_capsOf_15 rfl (lv_at hl 1 rfl) ?_
      obtain ⟨v3, h_v3, hm⟩ := bd1_inv hm
      refine cVs ⟨hx, hb, hml, hown, hts⟩ (c_X10_isOf l D cI cJ cS cB a M_pasts M_typed M_ways M_z M_why M_rows M_wide M_column M_found M_one M_other y2 x1 v3 h_v3) (cwV 2 hts gX10_capsOf_X10_isOf rfl rfl rfl hd_X10_isOf ⟨(Nat.le_of_ble_eq_true rfl), (Nat.le_of_ble_eq_true rfl)⟩) hK hP hD hS hA [0, 2, 3] rfl rfl rfl hl.1 (Nat.le_of_ble_eq_true rfl) ⟨Nat.zero_le _, Nat.zero_le _⟩ 0 rfl rfl rfl rfl dX10_capsOf_16 (fun H locs hP hD hS => ?_)
      refine lv_if_eq (tgt := 30) hx hb dX10_capsOf_19 (by decide) (fun c19 => ?_) (fun c19 => ?_)
      · have hm := ip c19 hm
        refine lv_iconst (v := 0) hx hb dX10_capsOf_30 (by decide) ?_
        exact h31 y2 y1 0 hm _ _ hP hD hS ls (lv_sub hl [0, 1, 3] rfl)
      · have hm := ine c19 hm
        refine lv_aload_n hx hb dX10_capsOf_22 rfl (lv_at hl 0 rfl) ?_
        refine lv_iload_n hx hb dX10_capsOf_23 rfl (lv_at hl 3 rfl) ?_
        obtain ⟨v9, h_v9, hm⟩ := bd1_inv hm
        refine cVs ⟨hx, hb, hml, hown, hts⟩ (c_X10_capOf l D cI cJ cS cB a M_pasts M_typed M_ways M_z M_why M_rows M_wide M_column M_found M_s y2 v9 h_v9) (cwV 1 hts gX10_capsOf_X10_capOf rfl rfl rfl hd_X10_capOf ⟨(Nat.le_of_ble_eq_true rfl), (Nat.le_of_ble_eq_true rfl)⟩) hK hP hD hS hA [0, 1] rfl rfl rfl hl.1 (Nat.le_of_ble_eq_true rfl) ⟨Nat.zero_le _, Nat.zero_le _⟩ 0 rfl rfl rfl rfl dX10_capsOf_24 (fun H locs hP hD hS => ?_)
        refine lv_goto (tgt := 31) hx hb dX10_capsOf_27 (by decide) ?_
        exact h31 y2 y1 v9 hm _ _ hP hD hS ls (lv_sub hl [0, 1, 3] rfl)
  refine lv_iconst (v := 0) hx hb dX10_capsOf_0 (by decide) ?_
  refine lv_istore_n (lv' := [(2, .int 0), (0, .ref (a 35)), (1, .int x1)]) hx hb dX10_capsOf_1 rfl hl (by decide) rfl (fun ls hl => ?_)
  refine lv_iconst (v := 0) hx hb dX10_capsOf_2 (by decide) ?_
  refine lv_istore_n (lv' := [(3, .int 0), (2, .int 0), (0, .ref (a 35)), (1, .int x1)]) hx hb dX10_capsOf_3 rfl hl (by decide) rfl (fun ls hl => ?_)
  exact h4  N 0 0 hm _ _ hP hD hS ls (lv_sub hl [2, 3, 1, 0] rfl)
theorem hd_X10_lacks : yX10_lacks.cls = RX10 ∧ yX10_lacks.cls ≠ "java/lang/invoke/MethodHandle" ∧ yX10_lacks.cls ≠ "java/lang/invoke/VarHandle" ∧ (parseMethodDescriptor yX10_lacks.desc).map (fun d => d.parameters.length) = some 1 := by decide +kernel
def m_X10_lacks (N : Nat) (M_ways : Int32) (M_s : Nat → Int32) (M_one : Nat → Int32) (M_other : Nat → Int32) (x1 : Int32) : Option (Int32) :=
  bd1 (m_X10_number M_s x1) (fun v1 => bd1 (m_X10_bridgesOf N M_ways M_s M_one M_other x1) (fun v2 => some (v1 - v2)))
set_option maxHeartbeats 4000000 in
set_option maxRecDepth 100000 in
theorem c_X10_lacks (l : Launch) (D : va_G) (cI cJ cS cB : ClassId) (a : Nat → Nat) (M_pasts : Int32) (M_typed : Int32) (M_ways : Int32) (M_z : Int32) (M_why : Int32) (M_rows : Int32) (M_wide : Int32) (M_column : Int32) (M_found : Int32) (M_s : Nat → Int32) (M_one : Nat → Int32) (M_other : Nat → Int32) (x1 : Int32) (N : Nat) (r0 : Int32) (hm : m_X10_lacks N M_ways M_s M_one M_other x1 = some r0) :
    mU l D (TYs cI cJ cS cB) yX10_lacks wsX10_lacks { frames := 2, cells := 0, slots := 0, locals := 45 } [.ref (a 35), .int x1] [o_M a M_pasts M_typed M_ways M_z M_why M_rows M_wide M_column M_found, ai (a 36) cI 244 M_s, ai (a 39) cI 48 M_one, ai (a 40) cI 48 M_other] [o_M a M_pasts M_typed M_ways M_z M_why M_rows M_wide M_column M_found, ai (a 36) cI 244 M_s, ai (a 39) cI 48 M_one, ai (a 40) cI 48 M_other] (some (.int r0)) := by
  refine mG_of (cc := cX10_lacks) (maxL := 2) (ret := (some .int)) (by decide) rfl rfl (Nat.le_of_ble_eq_true rfl) ?_
  intro p e s m args below meth c A hx hb hr hml hlk hnm hts hown hK hP hD hA hS ls hl
  have hl : lv_has ls 2 [(0, .ref (a 35)), (1, .int x1)] := hl
  have hiX10 : ∀ w ∈ wsX100, w ∈ wsX10_lacks := fun w h => List.mem_cons_of_mem _ (List.mem_append_right _ h)
  unfold m_X10_lacks at hm
  refine lv_aload_n hx hb dX10_lacks_0 rfl (lv_at hl 0 rfl) ?_
  refine lv_iload_n hx hb dX10_lacks_1 rfl (lv_at hl 1 rfl) ?_
  obtain ⟨v1, h_v1, hm⟩ := bd1_inv hm
  refine cVs ⟨hx, hb, hml, hown, hts⟩ (c_X10_number l D cI cJ cS cB a M_pasts M_typed M_ways M_z M_why M_rows M_wide M_column M_found M_s x1 v1 h_v1) (cwV 1 hts gX10_lacks_X10_number rfl rfl rfl hd_X10_number ⟨(Nat.le_of_ble_eq_true rfl), (Nat.le_of_ble_eq_true rfl)⟩) hK hP hD hS hA [0, 1] rfl rfl rfl hl.1 (Nat.le_of_ble_eq_true rfl) ⟨Nat.zero_le _, Nat.zero_le _⟩ 0 rfl rfl rfl rfl dX10_lacks_2 (fun H locs hP hD hS => ?_)
  refine lv_aload_n hx hb dX10_lacks_5 rfl (lv_at hl 0 rfl) ?_
  refine lv_iload_n hx hb dX10_lacks_6 rfl (lv_at hl 1 rfl) ?_
  obtain ⟨v2, h_v2, hm⟩ := bd1_inv hm
  refine cVs ⟨hx, hb, hml, hown, hts⟩ (c_X10_bridgesOf l D cI cJ cS cB a M_pasts M_typed M_ways M_z M_why M_rows M_wide M_column M_found M_s M_one M_other x1 N v2 h_v2) (cwV 1 hts gX10_lacks_X10_bridgesOf rfl rfl rfl hd_X10_bridgesOf ⟨(Nat.le_of_ble_eq_true rfl), (Nat.le_of_ble_eq_true rfl)⟩) hK hP hD hS hA [0, 1, 2, 3] rfl rfl rfl hl.1 (Nat.le_of_ble_eq_true rfl) ⟨Nat.zero_le _, Nat.zero_le _⟩ 0 rfl rfl rfl rfl dX10_lacks_7 (fun H locs hP hD hS => ?_)
  refine lv_isub hx hb dX10_lacks_10 ?_
  cases hm
  exact rI () hx hb hr hlk hP hD hS dX10_lacks_11
theorem hd_X10_findGroups : yX10_findGroups.cls = RX10 ∧ yX10_findGroups.cls ≠ "java/lang/invoke/MethodHandle" ∧ yX10_findGroups.cls ≠ "java/lang/invoke/VarHandle" ∧ (parseMethodDescriptor yX10_findGroups.desc).map (fun d => d.parameters.length) = some 0 := by decide +kernel
def m_X10_findGroups_j122 (rec25 : Int32 → (Nat → Int32) → Option ((Nat → Int32))) (y10 : Int32) (y11 : Nat → Int32) : Option ((Nat → Int32)) :=
  rec25 y10 y11
def m_X10_findGroups_j116 (rec33 : Int32 → Int32 → (Nat → Int32) → Option ((Nat → Int32))) (y17 : Int32) (y18 : Int32) (y19 : Nat → Int32) : Option ((Nat → Int32)) :=
  lt1 (y18 + 1) (fun v20 => rec33 y17 v20 y19)
def m_X10_findGroups_b33 (M_ways : Int32) (M_s : Nat → Int32) (M_one : Nat → Int32) (M_other : Nat → Int32) (rec25 : Int32 → (Nat → Int32) → Option ((Nat → Int32))) (rec33 : Int32 → Int32 → (Nat → Int32) → Option ((Nat → Int32))) (y7 : Int32) (y8 : Int32) (y9 : Nat → Int32) : Option ((Nat → Int32)) :=
  if M_ways ≤ y8 then (m_X10_findGroups_j122 rec25 y7 y9) else (rd 48 M_one y8 (fun v12 => rd 144 y9 v12 (fun v13 => rd 48 M_other y8 (fun v14 => rd 144 y9 v14 (fun v15 => bd1 (m_X10_bridges M_s y8) (fun v16 => if v16 ≤ 0 then (m_X10_findGroups_j116 rec33 y7 y8 y9) else (if v13 = v15 then (m_X10_findGroups_j116 rec33 y7 y8 y9) else (rd 48 M_one y8 (fun v21 => lt1 (m_X10_lesser v13 v15) (fun v22 => wr 144 y9 v21 v22 (fun v23 => rd 48 M_other y8 (fun v24 => lt1 (m_X10_lesser v13 v15) (fun v25 => wr 144 v23 v24 v25 (fun v26 => m_X10_findGroups_j116 rec33 1 y8 v26))))))))))))))
def m_X10_findGroups_b25 (N : Nat) (M_ways : Int32) (M_s : Nat → Int32) (M_one : Nat → Int32) (M_other : Nat → Int32) (rec25 : Int32 → (Nat → Int32) → Option ((Nat → Int32))) (y5 : Int32) (y6 : Nat → Int32) : Option ((Nat → Int32)) :=
  if y5 = 0 then (some y6) else (zl3 (m_X10_findGroups_b33 M_ways M_s M_one M_other rec25) N 0 0 y6)
def m_X10_findGroups_j23 (N : Nat) (M_ways : Int32) (M_s : Nat → Int32) (M_one : Nat → Int32) (M_other : Nat → Int32) (y4 : Nat → Int32) : Option ((Nat → Int32)) :=
  zl2 (m_X10_findGroups_b25 N M_ways M_s M_one M_other) N 1 y4
def m_X10_findGroups_b2 (N : Nat) (M_ways : Int32) (M_s : Nat → Int32) (M_one : Nat → Int32) (M_other : Nat → Int32) (rec2 : Int32 → (Nat → Int32) → Option ((Nat → Int32))) (y1 : Int32) (y2 : Nat → Int32) : Option ((Nat → Int32)) :=
  bd1 (m_X10_cells M_s) (fun v3 => if v3 ≤ y1 then (m_X10_findGroups_j23 N M_ways M_s M_one M_other y2) else (wr 144 y2 y1 y1 (fun v27 => lt1 (y1 + 1) (fun v28 => rec2 v28 v27))))
def m_X10_findGroups (N : Nat) (M_ways : Int32) (M_s : Nat → Int32) (M_one : Nat → Int32) (M_other : Nat → Int32) (M_group : Nat → Int32) : Option ((Nat → Int32)) :=
  zl2 (m_X10_findGroups_b2 N M_ways M_s M_one M_other) N 0 M_group
set_option maxHeartbeats 4000000 in
set_option maxRecDepth 100000 in
theorem c_X10_findGroups (l : Launch) (D : va_G) (cI cJ cS cB : ClassId) (a : Nat → Nat) (M_pasts : Int32) (M_typed : Int32) (M_ways : Int32) (M_z : Int32) (M_why : Int32) (M_rows : Int32) (M_wide : Int32) (M_column : Int32) (M_found : Int32) (M_s : Nat → Int32) (M_one : Nat → Int32) (M_other : Nat → Int32) (M_group : Nat → Int32)  (N : Nat) (M_group' : Nat → Int32) (hm : m_X10_findGroups N M_ways M_s M_one M_other M_group = some M_group') :
    mU l D (TYs cI cJ cS cB) yX10_findGroups wsX10_findGroups { frames := 1, cells := 0, slots := 0, locals := 21 } [.ref (a 35)] [o_M a M_pasts M_typed M_ways M_z M_why M_rows M_wide M_column M_found, ai (a 36) cI 244 M_s, ai (a 39) cI 48 M_one, ai (a 40) cI 48 M_other, ai (a 41) cI 144 M_group] [o_M a M_pasts M_typed M_ways M_z M_why M_rows M_wide M_column M_found, ai (a 36) cI 244 M_s, ai (a 39) cI 48 M_one, ai (a 40) cI 48 M_other, ai (a 41) cI 144 M_group'] none := by
  refine mG_of (cc := cX10_findGroups) (maxL := 5) (ret := none) (by decide) rfl rfl (Nat.le_of_ble_eq_true rfl) ?_
  intro p e s m args below meth c A hx hb hr hml hlk hnm hts hown hK hP hD hA hS ls hl
  have hl : lv_has ls 5 [(0, .ref (a 35))] := hl
  have hiX10 : ∀ w ∈ wsX100, w ∈ wsX10_findGroups := fun w h => List.mem_cons_of_mem _ (List.mem_append_right _ h)
  unfold m_X10_findGroups at hm
  have h25 : ∀ (n : Nat) (y5 : Int32) (y6 : Nat → Int32), zl2 (m_X10_findGroups_b25 N M_ways M_s M_one M_other) n y5 y6 = some M_group' → ∀ (H : Heap) (locs : List Loc), va_P D vwCl [o_M a M_pasts M_typed M_ways M_z M_why M_rows M_wide M_column M_found, ai (a 36) cI 244 M_s, ai (a 39) cI 48 M_one, ai (a 40) cI 48 M_other, ai (a 41) cI 144 y6] H → va_D A [o_M a M_pasts M_typed M_ways M_z M_why M_rows M_wide M_column M_found, ai (a 36) cI 244 M_s, ai (a 39) cI 48 M_one, ai (a 40) cI 48 M_other, ai (a 41) cI 144 y6] → va_S A s.heap H locs → ∀ ls : Array Slot, lv_has ls 5 [(0, .ref (a 35)), (1, .int y5)] → W p l e { frames := 1, cells := 0, slots := 0, locals := 21 } s m args below meth c H locs 0 0 (MQ below (eQ D none (fun _ : Unit => [o_M a M_pasts M_typed M_ways M_z M_why M_rows M_wide M_column M_found, ai (a 36) cI 244 M_s, ai (a 39) cI 48 M_one, ai (a 40) cI 48 M_other, ai (a 41) cI 144 M_group']) A) args s 0 0 A) (F0 m 25 ls []) := by
    refine zl2_ind (fun rec25 ih25 y5 y6 hm => ?_)
    have h122 : ∀ (y10 : Int32) (y11 : Nat → Int32), m_X10_findGroups_j122 rec25 y10 y11 = some M_group' → ∀ (H : Heap) (locs : List Loc), va_P D vwCl [o_M a M_pasts M_typed M_ways M_z M_why M_rows M_wide M_column M_found, ai (a 36) cI 244 M_s, ai (a 39) cI 48 M_one, ai (a 40) cI 48 M_other, ai (a 41) cI 144 y11] H → va_D A [o_M a M_pasts M_typed M_ways M_z M_why M_rows M_wide M_column M_found, ai (a 36) cI 244 M_s, ai (a 39) cI 48 M_one, ai (a 40) cI 48 M_other, ai (a 41) cI 144 y11] → va_S A s.heap H locs → ∀ ls : Array Slot, lv_has ls 5 [(0, .ref (a 35)), (1, .int y10)] → W p l e { frames := 1, cells := 0, slots := 0, locals := 21 } s m args below meth c H locs 0 0 (MQ below (eQ D none (fun _ : Unit => [o_M a M_pasts M_typed M_ways M_z M_why M_rows M_wide M_column M_found, ai (a 36) cI 244 M_s, ai (a 39) cI 48 M_one, ai (a 40) cI 48 M_other, ai (a 41) cI 144 M_group']) A) args s 0 0 A) (F0 m 122 ls []) := by
      intro y10 y11 hm H locs hP hD hS ls hl
      unfold m_X10_findGroups_j122 at hm
      refine lv_goto (tgt := 25) hx hb dX10_findGroups_122 (by decide) ?_
      exact ih25 y10 y11 hm _ _ hP hD hS ls (lv_sub hl [0, 1] rfl)
    have h33 : ∀ (n : Nat) (y7 : Int32) (y8 : Int32) (y9 : Nat → Int32), zl3 (m_X10_findGroups_b33 M_ways M_s M_one M_other rec25) n y7 y8 y9 = some M_group' → ∀ (H : Heap) (locs : List Loc), va_P D vwCl [o_M a M_pasts M_typed M_ways M_z M_why M_rows M_wide M_column M_found, ai (a 36) cI 244 M_s, ai (a 39) cI 48 M_one, ai (a 40) cI 48 M_other, ai (a 41) cI 144 y9] H → va_D A [o_M a M_pasts M_typed M_ways M_z M_why M_rows M_wide M_column M_found, ai (a 36) cI 244 M_s, ai (a 39) cI 48 M_one, ai (a 40) cI 48 M_other, ai (a 41) cI 144 y9] → va_S A s.heap H locs → ∀ ls : Array Slot, lv_has ls 5 [(0, .ref (a 35)), (1, .int y7), (2, .int y8)] → W p l e { frames := 1, cells := 0, slots := 0, locals := 21 } s m args below meth c H locs 0 0 (MQ below (eQ D none (fun _ : Unit => [o_M a M_pasts M_typed M_ways M_z M_why M_rows M_wide M_column M_found, ai (a 36) cI 244 M_s, ai (a 39) cI 48 M_one, ai (a 40) cI 48 M_other, ai (a 41) cI 144 M_group']) A) args s 0 0 A) (F0 m 33 ls []) := by
      refine zl3_ind (fun rec33 ih33 y7 y8 y9 hm => ?_)
      have h116 : ∀ (y17 : Int32) (y18 : Int32) (y19 : Nat → Int32), m_X10_findGroups_j116 rec33 y17 y18 y19 = some M_group' → ∀ (H : Heap) (locs : List Loc), va_P D vwCl [o_M a M_pasts M_typed M_ways M_z M_why M_rows M_wide M_column M_found, ai (a 36) cI 244 M_s, ai (a 39) cI 48 M_one, ai (a 40) cI 48 M_other, ai (a 41) cI 144 y19] H → va_D A [o_M a M_pasts M_typed M_ways M_z M_why M_rows M_wide M_column M_found, ai (a 36) cI 244 M_s, ai (a 39) cI 48 M_one, ai (a 40) cI 48 M_other, ai (a 41) cI 144 y19] → va_S A s.heap H locs → ∀ ls : Array Slot, lv_has ls 5 [(0, .ref (a 35)), (1, .int y17), (2, .int y18)] → W p l e { frames := 1, cells := 0, slots := 0, locals := 21 } s m args below meth c H locs 0 0 (MQ below (eQ D none (fun _ : Unit => [o_M a M_pasts M_typed M_ways M_z M_why M_rows M_wide M_column M_found, ai (a 36) cI 244 M_s, ai (a 39) cI 48 M_one, ai (a 40) cI 48 M_other, ai (a 41) cI 144 M_group']) A) args s 0 0 A) (F0 m 116 ls []) := by
        intro y17 y18 y19 hm H locs hP hD hS ls hl
        unfold m_X10_findGroups_j116 at hm
        obtain ⟨v20, ev20, hm⟩ := lt1_inv hm
        refine lv_iinc (v := v20) (lv' := [(2, .int v20), (0, .ref (a 35)), (1, .int y17)]) hx hb dX10_findGroups_116 hl (k := 2) rfl ev20 (by decide) rfl (fun ls hl => ?_)
        refine lv_goto (tgt := 33) hx hb dX10_findGroups_119 (by decide) ?_
        exact ih33 y17 v20 y19 hm _ _ hP hD hS ls (lv_sub hl [1, 2, 0] rfl)
      intro H locs hP hD hS ls hl
      unfold m_X10_findGroups_b33 at hm
      refine lv_iload_n hx hb dX10_findGroups_33 rfl (lv_at hl 2 rfl) ?_
      refine lv_aload_n hx hb dX10_findGroups_34 rfl (lv_at hl 0 rfl) ?_
      refine va_get (D := D) (ci := 10) (v := .int M_ways) (C := RX10) (T := TX10) (N := 17) hx hb hts hiX10 hown hK.1 hP 0 rfl rfl 5 (by decide) (hts (.fieldLink RX10 54 "IslandBridgesModel" "ways" "I") (List.mem_of_getElem? (i := 2) rfl)) (fun _ h9 => h9) rfl dX10_findGroups_35 ?_
      refine lv_icmp_ge (tgt := 122) hx hb dX10_findGroups_38 (by decide) (fun c38 => ?_) (fun c38 => ?_)
      · have hm := ip c38 hm
        exact h122 y7 y9 hm _ _ hP hD hS ls (lv_sub hl [0, 1] rfl)
      · have hm := ine c38 hm
        refine lv_aload_n hx hb dX10_findGroups_41 rfl (lv_at hl 0 rfl) ?_
        refine va_get (D := D) (ci := 10) (v := .ref (a 41)) (C := RX10) (T := TX10) (N := 17) hx hb hts hiX10 hown hK.1 hP 0 rfl rfl 8 (by decide) (hts (.fieldLink RX10 26 "IslandBridgesModel" "group" "[I") (List.mem_of_getElem? (i := 1) rfl)) (fun _ h9 => h9) rfl dX10_findGroups_42 ?_
        refine lv_aload_n hx hb dX10_findGroups_45 rfl (lv_at hl 0 rfl) ?_
        refine va_get (D := D) (ci := 10) (v := .ref (a 39)) (C := RX10) (T := TX10) (N := 17) hx hb hts hiX10 hown hK.1 hP 0 rfl rfl 6 (by decide) (hts (.fieldLink RX10 20 "IslandBridgesModel" "one" "[I") (List.mem_of_getElem? (i := 3) rfl)) (fun _ h9 => h9) rfl dX10_findGroups_46 ?_
        refine lv_iload_n hx hb dX10_findGroups_49 rfl (lv_at hl 2 rfl) ?_
        obtain ⟨v12, nv12, ev12, hm⟩ := rd_inv hm
        refine va_iald hx hb hK.1 hP 2 0 rfl rfl nv12 dX10_findGroups_50 ?_
        refine ltop ev12 ?_
        obtain ⟨v13, nv13, ev13, hm⟩ := rd_inv hm
        refine va_iald hx hb hK.1 hP 4 0 rfl rfl nv13 dX10_findGroups_51 ?_
        refine ltop ev13 ?_
        refine lv_istore_n (lv' := [(3, .int v13), (0, .ref (a 35)), (1, .int y7), (2, .int y8)]) hx hb dX10_findGroups_52 rfl hl (by decide) rfl (fun ls hl => ?_)
        refine lv_aload_n hx hb dX10_findGroups_53 rfl (lv_at hl 1 rfl) ?_
        refine va_get (D := D) (ci := 10) (v := .ref (a 41)) (C := RX10) (T := TX10) (N := 17) hx hb hts hiX10 hown hK.1 hP 0 rfl rfl 8 (by decide) (hts (.fieldLink RX10 26 "IslandBridgesModel" "group" "[I") (List.mem_of_getElem? (i := 1) rfl)) (fun _ h9 => h9) rfl dX10_findGroups_54 ?_
        refine lv_aload_n hx hb dX10_findGroups_57 rfl (lv_at hl 1 rfl) ?_
        refine va_get (D := D) (ci := 10) (v := .ref (a 40)) (C := RX10) (T := TX10) (N := 17) hx hb hts hiX10 hown hK.1 hP 0 rfl rfl 7 (by decide) (hts (.fieldLink RX10 23 "IslandBridgesModel" "other" "[I") (List.mem_of_getElem? (i := 4) rfl)) (fun _ h9 => h9) rfl dX10_findGroups_58 ?_
        refine lv_iload_n hx hb dX10_findGroups_61 rfl (lv_at hl 3 rfl) ?_
        obtain ⟨v14, nv14, ev14, hm⟩ := rd_inv hm
        refine va_iald hx hb hK.1 hP 3 0 rfl rfl nv14 dX10_findGroups_62 ?_
        refine ltop ev14 ?_
        obtain ⟨v15, nv15, ev15, hm⟩ := rd_inv hm
        refine va_iald hx hb hK.1 hP 4 0 rfl rfl nv15 dX10_findGroups_63 ?_
        refine ltop ev15 ?_
        refine lv_istore (lv' := [(4, .int v15), (3, .int v13), (0, .ref (a 35)), (1, .int y7), (2, .int y8)]) hx hb dX10_findGroups_64 hl (by decide) rfl (fun ls hl => ?_)
        refine lv_aload_n hx hb dX10_findGroups_66 rfl (lv_at hl 2 rfl) ?_
        refine lv_iload_n hx hb dX10_findGroups_67 rfl (lv_at hl 4 rfl) ?_
        obtain ⟨v16, h_v16, hm⟩ := bd1_inv hm
        refine cVs ⟨hx, hb, hml, hown, hts⟩ (c_X10_bridges l D cI cJ cS cB a M_pasts M_typed M_ways M_z M_why M_rows M_wide M_column M_found M_s y8 v16 h_v16) (cwV 1 hts gX10_findGroups_X10_bridges rfl rfl rfl hd_X10_bridges ⟨(Nat.le_of_ble_eq_true rfl), (Nat.le_of_ble_eq_true rfl)⟩) hK hP hD hS hA [0, 1] rfl rfl rfl hl.1 (Nat.le_of_ble_eq_true rfl) ⟨Nat.zero_le _, Nat.zero_le _⟩ 0 rfl rfl rfl rfl dX10_findGroups_68 (fun H locs hP hD hS => ?_)
        refine lv_if_le (tgt := 116) hx hb dX10_findGroups_71 (by decide) (fun c71 => ?_) (fun c71 => ?_)
        · have hm := ip c71 hm
          exact h116 y7 y8 y9 hm _ _ hP hD hS ls (lv_sub hl [2, 3, 4] rfl)
        · have hm := ine c71 hm
          refine lv_iload_n hx hb dX10_findGroups_74 rfl (lv_at hl 1 rfl) ?_
          refine lv_iload hx hb dX10_findGroups_75 (lv_at hl 0 rfl) ?_
          refine lv_icmp_eq (tgt := 116) hx hb dX10_findGroups_77 (by decide) (fun c77 => ?_) (fun c77 => ?_)
          · have hm := ip c77 hm
            exact h116 y7 y8 y9 hm _ _ hP hD hS ls (lv_sub hl [2, 3, 4] rfl)
          · have hm := ine c77 hm
            refine lv_aload_n hx hb dX10_findGroups_80 rfl (lv_at hl 2 rfl) ?_
            refine va_get (D := D) (ci := 10) (v := .ref (a 41)) (C := RX10) (T := TX10) (N := 17) hx hb hts hiX10 hown hK.1 hP 0 rfl rfl 8 (by decide) (hts (.fieldLink RX10 26 "IslandBridgesModel" "group" "[I") (List.mem_of_getElem? (i := 1) rfl)) (fun _ h9 => h9) rfl dX10_findGroups_81 ?_
            refine lv_aload_n hx hb dX10_findGroups_84 rfl (lv_at hl 2 rfl) ?_
            refine va_get (D := D) (ci := 10) (v := .ref (a 39)) (C := RX10) (T := TX10) (N := 17) hx hb hts hiX10 hown hK.1 hP 0 rfl rfl 6 (by decide) (hts (.fieldLink RX10 20 "IslandBridgesModel" "one" "[I") (List.mem_of_getElem? (i := 3) rfl)) (fun _ h9 => h9) rfl dX10_findGroups_85 ?_
            refine lv_iload_n hx hb dX10_findGroups_88 rfl (lv_at hl 4 rfl) ?_
            obtain ⟨v21, nv21, ev21, hm⟩ := rd_inv hm
            refine va_iald hx hb hK.1 hP 2 0 rfl rfl nv21 dX10_findGroups_89 ?_
            refine ltop ev21 ?_
            refine lv_iload_n hx hb dX10_findGroups_90 rfl (lv_at hl 1 rfl) ?_
            refine lv_iload hx hb dX10_findGroups_91 (lv_at hl 0 rfl) ?_
            obtain ⟨v22, h_v22, hm⟩ := lt1_inv hm
            refine cSs ⟨hx, hb, hml, hown, hts⟩ (c_X10_lesser l D cI cJ cS cB a  v13 v15 v22 h_v22) (va_cwS 2 hts gX10_findGroups_X10_lesser rfl rfl rfl hd_X10_lesser ⟨(Nat.le_of_ble_eq_true rfl), (Nat.le_of_ble_eq_true rfl)⟩) hK hP hD hS hA [] rfl rfl rfl hl.1 (Nat.le_of_ble_eq_true rfl) ⟨Nat.zero_le _, Nat.zero_le _⟩ rfl dX10_findGroups_93 (fun H locs hP hD hS => ?_)
            obtain ⟨v23, nv23, ev23, hm⟩ := wr_inv hm
            refine va_iast hx hb hK.1 hP hD hS 4 0 rfl rfl nv23 dX10_findGroups_96 (fun H locs hP hD hS => ?_)
            have hP : va_P D vwCl [o_M a M_pasts M_typed M_ways M_z M_why M_rows M_wide M_column M_found, ai (a 36) cI 244 M_s, ai (a 39) cI 48 M_one, ai (a 40) cI 48 M_other, ai (a 41) cI 144 v23] H := by rw [← ev23]; exact hP
            have hD : va_D A [o_M a M_pasts M_typed M_ways M_z M_why M_rows M_wide M_column M_found, ai (a 36) cI 244 M_s, ai (a 39) cI 48 M_one, ai (a 40) cI 48 M_other, ai (a 41) cI 144 v23] := by rw [← ev23]; exact hD
            refine lv_aload_n hx hb dX10_findGroups_97 rfl (lv_at hl 2 rfl) ?_
            refine va_get (D := D) (ci := 10) (v := .ref (a 41)) (C := RX10) (T := TX10) (N := 17) hx hb hts hiX10 hown hK.1 hP 0 rfl rfl 8 (by decide) (hts (.fieldLink RX10 26 "IslandBridgesModel" "group" "[I") (List.mem_of_getElem? (i := 1) rfl)) (fun _ h9 => h9) rfl dX10_findGroups_98 ?_
            refine lv_aload_n hx hb dX10_findGroups_101 rfl (lv_at hl 2 rfl) ?_
            refine va_get (D := D) (ci := 10) (v := .ref (a 40)) (C := RX10) (T := TX10) (N := 17) hx hb hts hiX10 hown hK.1 hP 0 rfl rfl 7 (by decide) (hts (.fieldLink RX10 23 "IslandBridgesModel" "other" "[I") (List.mem_of_getElem? (i := 4) rfl)) (fun _ h9 => h9) rfl dX10_findGroups_102 ?_
            refine lv_iload_n hx hb dX10_findGroups_105 rfl (lv_at hl 4 rfl) ?_
            obtain ⟨v24, nv24, ev24, hm⟩ := rd_inv hm
            refine va_iald hx hb hK.1 hP 3 0 rfl rfl nv24 dX10_findGroups_106 ?_
            refine ltop ev24 ?_
            refine lv_iload_n hx hb dX10_findGroups_107 rfl (lv_at hl 1 rfl) ?_
            refine lv_iload hx hb dX10_findGroups_108 (lv_at hl 0 rfl) ?_
            obtain ⟨v25, h_v25, hm⟩ := lt1_inv hm
            refine cSs ⟨hx, hb, hml, hown, hts⟩ (c_X10_lesser l D cI cJ cS cB a  v13 v15 v25 h_v25) (va_cwS 2 hts gX10_findGroups_X10_lesser rfl rfl rfl hd_X10_lesser ⟨(Nat.le_of_ble_eq_true rfl), (Nat.le_of_ble_eq_true rfl)⟩) hK hP hD hS hA [] rfl rfl rfl hl.1 (Nat.le_of_ble_eq_true rfl) ⟨Nat.zero_le _, Nat.zero_le _⟩ rfl dX10_findGroups_110 (fun H locs hP hD hS => ?_)
            obtain ⟨v26, nv26, ev26, hm⟩ := wr_inv hm
            refine va_iast hx hb hK.1 hP hD hS 4 0 rfl rfl nv26 dX10_findGroups_113 (fun H locs hP hD hS => ?_)
            have hP : va_P D vwCl [o_M a M_pasts M_typed M_ways M_z M_why M_rows M_wide M_column M_found, ai (a 36) cI 244 M_s, ai (a 39) cI 48 M_one, ai (a 40) cI 48 M_other, ai (a 41) cI 144 v26] H := by rw [← ev26]; exact hP
            have hD : va_D A [o_M a M_pasts M_typed M_ways M_z M_why M_rows M_wide M_column M_found, ai (a 36) cI 244 M_s, ai (a 39) cI 48 M_one, ai (a 40) cI 48 M_other, ai (a 41) cI 144 v26] := by rw [← ev26]; exact hD
            refine lv_iconst (v := 1) hx hb dX10_findGroups_114 (by decide) ?_
            refine lv_istore_n (lv' := [(1, .int 1), (4, .int v15), (3, .int v13), (0, .ref (a 35)), (2, .int y8)]) hx hb dX10_findGroups_115 rfl hl (by decide) rfl (fun ls hl => ?_)
            exact h116 1 y8 v26 hm _ _ hP hD hS ls (lv_sub hl [3, 0, 4] rfl)
    intro H locs hP hD hS ls hl
    unfold m_X10_findGroups_b25 at hm
    refine lv_iload_n hx hb dX10_findGroups_25 rfl (lv_at hl 1 rfl) ?_
    refine lv_if_eq (tgt := 125) hx hb dX10_findGroups_26 (by decide) (fun c26 => ?_) (fun c26 => ?_)
    · have hm := ip c26 hm
      cases hm
      exact rV () hx hb hr hlk hP hD hS dX10_findGroups_125
    · have hm := ine c26 hm
      refine lv_iconst (v := 0) hx hb dX10_findGroups_29 (by decide) ?_
      refine lv_istore_n (lv' := [(1, .int 0), (0, .ref (a 35))]) hx hb dX10_findGroups_30 rfl hl (by decide) rfl (fun ls hl => ?_)
      refine lv_iconst (v := 0) hx hb dX10_findGroups_31 (by decide) ?_
      refine lv_istore_n (lv' := [(2, .int 0), (1, .int 0), (0, .ref (a 35))]) hx hb dX10_findGroups_32 rfl hl (by decide) rfl (fun ls hl => ?_)
      exact h33  N 0 0 y6 hm _ _ hP hD hS ls (lv_sub hl [2, 1, 0] rfl)
  have h23 : ∀ (y4 : Nat → Int32), m_X10_findGroups_j23 N M_ways M_s M_one M_other y4 = some M_group' → ∀ (H : Heap) (locs : List Loc), va_P D vwCl [o_M a M_pasts M_typed M_ways M_z M_why M_rows M_wide M_column M_found, ai (a 36) cI 244 M_s, ai (a 39) cI 48 M_one, ai (a 40) cI 48 M_other, ai (a 41) cI 144 y4] H → va_D A [o_M a M_pasts M_typed M_ways M_z M_why M_rows M_wide M_column M_found, ai (a 36) cI 244 M_s, ai (a 39) cI 48 M_one, ai (a 40) cI 48 M_other, ai (a 41) cI 144 y4] → va_S A s.heap H locs → ∀ ls : Array Slot, lv_has ls 5 [(0, .ref (a 35))] → W p l e { frames := 1, cells := 0, slots := 0, locals := 21 } s m args below meth c H locs 0 0 (MQ below (eQ D none (fun _ : Unit => [o_M a M_pasts M_typed M_ways M_z M_why M_rows M_wide M_column M_found, ai (a 36) cI 244 M_s, ai (a 39) cI 48 M_one, ai (a 40) cI 48 M_other, ai (a 41) cI 144 M_group']) A) args s 0 0 A) (F0 m 23 ls []) := by
    intro y4 hm H locs hP hD hS ls hl
    unfold m_X10_findGroups_j23 at hm
    refine lv_iconst (v := 1) hx hb dX10_findGroups_23 (by decide) ?_
    refine lv_istore_n (lv' := [(1, .int 1), (0, .ref (a 35))]) hx hb dX10_findGroups_24 rfl hl (by decide) rfl (fun ls hl => ?_)
    exact h25  N 1 y4 hm _ _ hP hD hS ls (lv_sub hl [1, 0] rfl)
  have h2 : ∀ (n : Nat) (y1 : Int32) (y2 : Nat → Int32), zl2 (m_X10_findGroups_b2 N M_ways M_s M_one M_other) n y1 y2 = some M_group' → ∀ (H : Heap) (locs : List Loc), va_P D vwCl [o_M a M_pasts M_typed M_ways M_z M_why M_rows M_wide M_column M_found, ai (a 36) cI 244 M_s, ai (a 39) cI 48 M_one, ai (a 40) cI 48 M_other, ai (a 41) cI 144 y2] H → va_D A [o_M a M_pasts M_typed M_ways M_z M_why M_rows M_wide M_column M_found, ai (a 36) cI 244 M_s, ai (a 39) cI 48 M_one, ai (a 40) cI 48 M_other, ai (a 41) cI 144 y2] → va_S A s.heap H locs → ∀ ls : Array Slot, lv_has ls 5 [(0, .ref (a 35)), (1, .int y1)] → W p l e { frames := 1, cells := 0, slots := 0, locals := 21 } s m args below meth c H locs 0 0 (MQ below (eQ D none (fun _ : Unit => [o_M a M_pasts M_typed M_ways M_z M_why M_rows M_wide M_column M_found, ai (a 36) cI 244 M_s, ai (a 39) cI 48 M_one, ai (a 40) cI 48 M_other, ai (a 41) cI 144 M_group']) A) args s 0 0 A) (F0 m 2 ls []) := by
    refine zl2_ind (fun rec2 ih2 y1 y2 hm => ?_)
    intro H locs hP hD hS ls hl
    unfold m_X10_findGroups_b2 at hm
    refine lv_iload_n hx hb dX10_findGroups_2 rfl (lv_at hl 1 rfl) ?_
    refine lv_aload_n hx hb dX10_findGroups_3 rfl (lv_at hl 0 rfl) ?_
    obtain ⟨v3, h_v3, hm⟩ := bd1_inv hm
    refine cVs ⟨hx, hb, hml, hown, hts⟩ (c_X10_cells l D cI cJ cS cB a M_pasts M_typed M_ways M_z M_why M_rows M_wide M_column M_found M_s v3 h_v3) (cwV 0 hts gX10_findGroups_X10_cells rfl rfl rfl hd_X10_cells ⟨(Nat.le_of_ble_eq_true rfl), (Nat.le_of_ble_eq_true rfl)⟩) hK hP hD hS hA [0, 1] rfl rfl rfl hl.1 (Nat.le_of_ble_eq_true rfl) ⟨Nat.zero_le _, Nat.zero_le _⟩ 0 rfl rfl rfl rfl dX10_findGroups_4 (fun H locs hP hD hS => ?_)
    refine lv_icmp_ge (tgt := 23) hx hb dX10_findGroups_7 (by decide) (fun c7 => ?_) (fun c7 => ?_)
    · have hm := ip c7 hm
      exact h23 y2 hm _ _ hP hD hS ls (lv_sub hl [0] rfl)
    · have hm := ine c7 hm
      refine lv_aload_n hx hb dX10_findGroups_10 rfl (lv_at hl 0 rfl) ?_
      refine va_get (D := D) (ci := 10) (v := .ref (a 41)) (C := RX10) (T := TX10) (N := 17) hx hb hts hiX10 hown hK.1 hP 0 rfl rfl 8 (by decide) (hts (.fieldLink RX10 26 "IslandBridgesModel" "group" "[I") (List.mem_of_getElem? (i := 1) rfl)) (fun _ h9 => h9) rfl dX10_findGroups_11 ?_
      refine lv_iload_n hx hb dX10_findGroups_14 rfl (lv_at hl 1 rfl) ?_
      refine lv_iload_n hx hb dX10_findGroups_15 rfl (lv_at hl 1 rfl) ?_
      obtain ⟨v27, nv27, ev27, hm⟩ := wr_inv hm
      refine va_iast hx hb hK.1 hP hD hS 4 0 rfl rfl nv27 dX10_findGroups_16 (fun H locs hP hD hS => ?_)
      have hP : va_P D vwCl [o_M a M_pasts M_typed M_ways M_z M_why M_rows M_wide M_column M_found, ai (a 36) cI 244 M_s, ai (a 39) cI 48 M_one, ai (a 40) cI 48 M_other, ai (a 41) cI 144 v27] H := by rw [← ev27]; exact hP
      have hD : va_D A [o_M a M_pasts M_typed M_ways M_z M_why M_rows M_wide M_column M_found, ai (a 36) cI 244 M_s, ai (a 39) cI 48 M_one, ai (a 40) cI 48 M_other, ai (a 41) cI 144 v27] := by rw [← ev27]; exact hD
      obtain ⟨v28, ev28, hm⟩ := lt1_inv hm
      refine lv_iinc (v := v28) (lv' := [(1, .int v28), (0, .ref (a 35))]) hx hb dX10_findGroups_17 hl (k := 1) rfl ev28 (by decide) rfl (fun ls hl => ?_)
      refine lv_goto (tgt := 2) hx hb dX10_findGroups_20 (by decide) ?_
      exact ih2 v28 v27 hm _ _ hP hD hS ls (lv_sub hl [1, 0] rfl)
  refine lv_iconst (v := 0) hx hb dX10_findGroups_0 (by decide) ?_
  refine lv_istore_n (lv' := [(1, .int 0), (0, .ref (a 35))]) hx hb dX10_findGroups_1 rfl hl (by decide) rfl (fun ls hl => ?_)
  exact h2  N 0 M_group hm _ _ hP hD hS ls (lv_sub hl [1, 0] rfl)
theorem hd_X10_groupsBelow : yX10_groupsBelow.cls = RX10 ∧ yX10_groupsBelow.cls ≠ "java/lang/invoke/MethodHandle" ∧ yX10_groupsBelow.cls ≠ "java/lang/invoke/VarHandle" ∧ (parseMethodDescriptor yX10_groupsBelow.desc).map (fun d => d.parameters.length) = some 1 := by decide +kernel
def m_X10_groupsBelow_j33 (rec4 : Int32 → Int32 → Option (Int32)) (y6 : Int32) (y7 : Int32) (y8 : Int32) : Option (Int32) :=
  lt1 (y7 + y8) (fun v9 => lt1 (y6 + 1) (fun v10 => rec4 v9 v10))
def m_X10_groupsBelow_j32 (rec4 : Int32 → Int32 → Option (Int32)) (y4 : Int32) (y5 : Int32) : Option (Int32) :=
  m_X10_groupsBelow_j33 rec4 y4 y5 0
def m_X10_groupsBelow_b4 (M_s : Nat → Int32) (M_group : Nat → Int32) (x1 : Int32) (rec4 : Int32 → Int32 → Option (Int32)) (y1 : Int32) (y2 : Int32) : Option (Int32) :=
  if x1 ≤ y2 then (some y1) else (bd1 (m_X10_number M_s y2) (fun v3 => if v3 ≤ 0 then (m_X10_groupsBelow_j32 rec4 y2 y1) else (rd 144 M_group y2 (fun v11 => if v11 = y2 then (m_X10_groupsBelow_j33 rec4 y2 y1 1) else (m_X10_groupsBelow_j32 rec4 y2 y1)))))
def m_X10_groupsBelow (N : Nat) (M_s : Nat → Int32) (M_group : Nat → Int32) (x1 : Int32) : Option (Int32) :=
  zl2 (m_X10_groupsBelow_b4 M_s M_group x1) N 0 0
set_option maxHeartbeats 4000000 in
set_option maxRecDepth 100000 in
theorem c_X10_groupsBelow (l : Launch) (D : va_G) (cI cJ cS cB : ClassId) (a : Nat → Nat) (M_pasts : Int32) (M_typed : Int32) (M_ways : Int32) (M_z : Int32) (M_why : Int32) (M_rows : Int32) (M_wide : Int32) (M_column : Int32) (M_found : Int32) (M_s : Nat → Int32) (M_group : Nat → Int32) (x1 : Int32) (N : Nat) (r0 : Int32) (hm : m_X10_groupsBelow N M_s M_group x1 = some r0) :
    mU l D (TYs cI cJ cS cB) yX10_groupsBelow wsX10_groupsBelow { frames := 1, cells := 0, slots := 0, locals := 21 } [.ref (a 35), .int x1] [o_M a M_pasts M_typed M_ways M_z M_why M_rows M_wide M_column M_found, ai (a 36) cI 244 M_s, ai (a 41) cI 144 M_group] [o_M a M_pasts M_typed M_ways M_z M_why M_rows M_wide M_column M_found, ai (a 36) cI 244 M_s, ai (a 41) cI 144 M_group] (some (.int r0)) := by
  refine mG_of (cc := cX10_groupsBelow) (maxL := 4) (ret := (some .int)) (by decide) rfl rfl (Nat.le_of_ble_eq_true rfl) ?_
  intro p e s m args below meth c A hx hb hr hml hlk hnm hts hown hK hP hD hA hS ls hl
  have hl : lv_has ls 4 [(0, .ref (a 35)), (1, .int x1)] := hl
  have hiX10 : ∀ w ∈ wsX100, w ∈ wsX10_groupsBelow := fun w h => List.mem_cons_of_mem _ (List.mem_append_right _ h)
  unfold m_X10_groupsBelow at hm
  have h4 : ∀ (n : Nat) (y1 : Int32) (y2 : Int32), zl2 (m_X10_groupsBelow_b4 M_s M_group x1) n y1 y2 = some r0 → ∀ (H : Heap) (locs : List Loc), va_P D vwCl [o_M a M_pasts M_typed M_ways M_z M_why M_rows M_wide M_column M_found, ai (a 36) cI 244 M_s, ai (a 41) cI 144 M_group] H → va_D A [o_M a M_pasts M_typed M_ways M_z M_why M_rows M_wide M_column M_found, ai (a 36) cI 244 M_s, ai (a 41) cI 144 M_group] → va_S A s.heap H locs → ∀ ls : Array Slot, lv_has ls 4 [(0, .ref (a 35)), (1, .int x1), (2, .int y1), (3, .int y2)] → W p l e { frames := 1, cells := 0, slots := 0, locals := 21 } s m args below meth c H locs 0 0 (MQ below (eQ D (some (.int r0)) (fun _ : Unit => [o_M a M_pasts M_typed M_ways M_z M_why M_rows M_wide M_column M_found, ai (a 36) cI 244 M_s, ai (a 41) cI 144 M_group]) A) args s 0 0 A) (F0 m 4 ls []) := by
    refine zl2_ind (fun rec4 ih4 y1 y2 hm => ?_)
    have h33 : ∀ (y6 : Int32) (y7 : Int32) (y8 : Int32), m_X10_groupsBelow_j33 rec4 y6 y7 y8 = some r0 → ∀ (H : Heap) (locs : List Loc), va_P D vwCl [o_M a M_pasts M_typed M_ways M_z M_why M_rows M_wide M_column M_found, ai (a 36) cI 244 M_s, ai (a 41) cI 144 M_group] H → va_D A [o_M a M_pasts M_typed M_ways M_z M_why M_rows M_wide M_column M_found, ai (a 36) cI 244 M_s, ai (a 41) cI 144 M_group] → va_S A s.heap H locs → ∀ ls : Array Slot, lv_has ls 4 [(0, .ref (a 35)), (1, .int x1), (3, .int y6)] → W p l e { frames := 1, cells := 0, slots := 0, locals := 21 } s m args below meth c H locs 0 0 (MQ below (eQ D (some (.int r0)) (fun _ : Unit => [o_M a M_pasts M_typed M_ways M_z M_why M_rows M_wide M_column M_found, ai (a 36) cI 244 M_s, ai (a 41) cI 144 M_group]) A) args s 0 0 A) (F0 m 33 ls [.int y8, .int y7]) := by
      intro y6 y7 y8 hm H locs hP hD hS ls hl
      unfold m_X10_groupsBelow_j33 at hm
      refine lv_iadd hx hb dX10_groupsBelow_33 ?_
      obtain ⟨v9, ev9, hm⟩ := lt1_inv hm
      refine ltop ev9 ?_
      refine lv_istore_n (lv' := [(2, .int v9), (0, .ref (a 35)), (1, .int x1), (3, .int y6)]) hx hb dX10_groupsBelow_34 rfl hl (by decide) rfl (fun ls hl => ?_)
      obtain ⟨v10, ev10, hm⟩ := lt1_inv hm
      refine lv_iinc (v := v10) (lv' := [(3, .int v10), (2, .int v9), (0, .ref (a 35)), (1, .int x1)]) hx hb dX10_groupsBelow_35 hl (k := 3) rfl ev10 (by decide) rfl (fun ls hl => ?_)
      refine lv_goto (tgt := 4) hx hb dX10_groupsBelow_38 (by decide) ?_
      exact ih4 v9 v10 hm _ _ hP hD hS ls (lv_sub hl [2, 3, 1, 0] rfl)
    have h32 : ∀ (y4 : Int32) (y5 : Int32), m_X10_groupsBelow_j32 rec4 y4 y5 = some r0 → ∀ (H : Heap) (locs : List Loc), va_P D vwCl [o_M a M_pasts M_typed M_ways M_z M_why M_rows M_wide M_column M_found, ai (a 36) cI 244 M_s, ai (a 41) cI 144 M_group] H → va_D A [o_M a M_pasts M_typed M_ways M_z M_why M_rows M_wide M_column M_found, ai (a 36) cI 244 M_s, ai (a 41) cI 144 M_group] → va_S A s.heap H locs → ∀ ls : Array Slot, lv_has ls 4 [(0, .ref (a 35)), (1, .int x1), (3, .int y4)] → W p l e { frames := 1, cells := 0, slots := 0, locals := 21 } s m args below meth c H locs 0 0 (MQ below (eQ D (some (.int r0)) (fun _ : Unit => [o_M a M_pasts M_typed M_ways M_z M_why M_rows M_wide M_column M_found, ai (a 36) cI 244 M_s, ai (a 41) cI 144 M_group]) A) args s 0 0 A) (F0 m 32 ls [.int y5]) := by
      intro y4 y5 hm H locs hP hD hS ls hl
      unfold m_X10_groupsBelow_j32 at hm
      refine lv_iconst (v := 0) hx hb dX10_groupsBelow_32 (by decide) ?_
      exact h33 y4 y5 0 hm _ _ hP hD hS ls (lv_sub hl [0, 1, 2] rfl)
    intro H locs hP hD hS ls hl
    unfold m_X10_groupsBelow_b4 at hm
    refine lv_iload_n hx hb dX10_groupsBelow_4 rfl (lv_at hl 3 rfl) ?_
    refine lv_iload_n hx hb dX10_groupsBelow_5 rfl (lv_at hl 1 rfl) ?_
    refine lv_icmp_ge (tgt := 41) hx hb dX10_groupsBelow_6 (by decide) (fun c6 => ?_) (fun c6 => ?_)
    · have hm := ip c6 hm
      refine lv_iload_n hx hb dX10_groupsBelow_41 rfl (lv_at hl 2 rfl) ?_
      cases hm
      exact rI () hx hb hr hlk hP hD hS dX10_groupsBelow_42
    · have hm := ine c6 hm
      refine lv_iload_n hx hb dX10_groupsBelow_9 rfl (lv_at hl 2 rfl) ?_
      refine lv_aload_n hx hb dX10_groupsBelow_10 rfl (lv_at hl 0 rfl) ?_
      refine lv_iload_n hx hb dX10_groupsBelow_11 rfl (lv_at hl 3 rfl) ?_
      obtain ⟨v3, h_v3, hm⟩ := bd1_inv hm
      refine cVs ⟨hx, hb, hml, hown, hts⟩ (c_X10_number l D cI cJ cS cB a M_pasts M_typed M_ways M_z M_why M_rows M_wide M_column M_found M_s y2 v3 h_v3) (cwV 1 hts gX10_groupsBelow_X10_number rfl rfl rfl hd_X10_number ⟨(Nat.le_of_ble_eq_true rfl), (Nat.le_of_ble_eq_true rfl)⟩) hK hP hD hS hA [0, 1] rfl rfl rfl hl.1 (Nat.le_of_ble_eq_true rfl) ⟨Nat.zero_le _, Nat.zero_le _⟩ 0 rfl rfl rfl rfl dX10_groupsBelow_12 (fun H locs hP hD hS => ?_)
      refine lv_if_le (tgt := 32) hx hb dX10_groupsBelow_15 (by decide) (fun c15 => ?_) (fun c15 => ?_)
      · have hm := ip c15 hm
        exact h32 y2 y1 hm _ _ hP hD hS ls (lv_sub hl [0, 1, 3] rfl)
      · have hm := ine c15 hm
        refine lv_aload_n hx hb dX10_groupsBelow_18 rfl (lv_at hl 0 rfl) ?_
        refine va_get (D := D) (ci := 10) (v := .ref (a 41)) (C := RX10) (T := TX10) (N := 17) hx hb hts hiX10 hown hK.1 hP 0 rfl rfl 8 (by decide) (hts (.fieldLink RX10 26 "IslandBridgesModel" "group" "[I") (List.mem_of_getElem? (i := 1) rfl)) (fun _ h9 => h9) rfl dX10_groupsBelow_19 ?_
        refine lv_iload_n hx hb dX10_groupsBelow_22 rfl (lv_at hl 3 rfl) ?_
        obtain ⟨v11, nv11, ev11, hm⟩ := rd_inv hm
        refine va_iald hx hb hK.1 hP 2 0 rfl rfl nv11 dX10_groupsBelow_23 ?_
        refine ltop ev11 ?_
        refine lv_iload_n hx hb dX10_groupsBelow_24 rfl (lv_at hl 3 rfl) ?_
        refine lv_icmp_ne (tgt := 32) hx hb dX10_groupsBelow_25 (by decide) (fun c25 => ?_) (fun c25 => ?_)
        · have hm := ine c25 hm
          exact h32 y2 y1 hm _ _ hP hD hS ls (lv_sub hl [0, 1, 3] rfl)
        · have hm := ip c25 hm
          refine lv_iconst (v := 1) hx hb dX10_groupsBelow_28 (by decide) ?_
          refine lv_goto (tgt := 33) hx hb dX10_groupsBelow_29 (by decide) ?_
          exact h33 y2 y1 1 hm _ _ hP hD hS ls (lv_sub hl [0, 1, 3] rfl)
  refine lv_iconst (v := 0) hx hb dX10_groupsBelow_0 (by decide) ?_
  refine lv_istore_n (lv' := [(2, .int 0), (0, .ref (a 35)), (1, .int x1)]) hx hb dX10_groupsBelow_1 rfl hl (by decide) rfl (fun ls hl => ?_)
  refine lv_iconst (v := 0) hx hb dX10_groupsBelow_2 (by decide) ?_
  refine lv_istore_n (lv' := [(3, .int 0), (2, .int 0), (0, .ref (a 35)), (1, .int x1)]) hx hb dX10_groupsBelow_3 rfl hl (by decide) rfl (fun ls hl => ?_)
  exact h4  N 0 0 hm _ _ hP hD hS ls (lv_sub hl [2, 3, 1, 0] rfl)
theorem hd_X10_groups : yX10_groups.cls = RX10 ∧ yX10_groups.cls ≠ "java/lang/invoke/MethodHandle" ∧ yX10_groups.cls ≠ "java/lang/invoke/VarHandle" ∧ (parseMethodDescriptor yX10_groups.desc).map (fun d => d.parameters.length) = some 0 := by decide +kernel
def m_X10_groups (N : Nat) (M_ways : Int32) (M_s : Nat → Int32) (M_one : Nat → Int32) (M_other : Nat → Int32) (M_group : Nat → Int32) : Option (Int32 × (Nat → Int32)) :=
  bd1 (m_X10_findGroups N M_ways M_s M_one M_other M_group) (fun v1 => bd1 (m_X10_cells M_s) (fun v2 => bd1 (m_X10_groupsBelow N M_s v1 v2) (fun v3 => some ((v3, v1)))))
set_option maxHeartbeats 4000000 in
set_option maxRecDepth 100000 in
theorem c_X10_groups (l : Launch) (D : va_G) (cI cJ cS cB : ClassId) (a : Nat → Nat) (M_pasts : Int32) (M_typed : Int32) (M_ways : Int32) (M_z : Int32) (M_why : Int32) (M_rows : Int32) (M_wide : Int32) (M_column : Int32) (M_found : Int32) (M_s : Nat → Int32) (M_one : Nat → Int32) (M_other : Nat → Int32) (M_group : Nat → Int32)  (N : Nat) (r0 : Int32) (M_group' : Nat → Int32) (hm : m_X10_groups N M_ways M_s M_one M_other M_group = some (r0, M_group')) :
    mU l D (TYs cI cJ cS cB) yX10_groups wsX10_groups { frames := 2, cells := 0, slots := 0, locals := 45 } [.ref (a 35)] [o_M a M_pasts M_typed M_ways M_z M_why M_rows M_wide M_column M_found, ai (a 36) cI 244 M_s, ai (a 39) cI 48 M_one, ai (a 40) cI 48 M_other, ai (a 41) cI 144 M_group] [o_M a M_pasts M_typed M_ways M_z M_why M_rows M_wide M_column M_found, ai (a 36) cI 244 M_s, ai (a 39) cI 48 M_one, ai (a 40) cI 48 M_other, ai (a 41) cI 144 M_group'] (some (.int r0)) := by
  refine mG_of (cc := cX10_groups) (maxL := 1) (ret := (some .int)) (by decide) rfl rfl (Nat.le_of_ble_eq_true rfl) ?_
  intro p e s m args below meth c A hx hb hr hml hlk hnm hts hown hK hP hD hA hS ls hl
  have hl : lv_has ls 1 [(0, .ref (a 35))] := hl
  have hiX10 : ∀ w ∈ wsX100, w ∈ wsX10_groups := fun w h => List.mem_cons_of_mem _ (List.mem_append_right _ h)
  unfold m_X10_groups at hm
  refine lv_aload_n hx hb dX10_groups_0 rfl (lv_at hl 0 rfl) ?_
  obtain ⟨v1, h_v1, hm⟩ := bd1_inv hm
  refine cVx ⟨hx, hb, hml, hown, hts⟩ (c_X10_findGroups l D cI cJ cS cB a M_pasts M_typed M_ways M_z M_why M_rows M_wide M_column M_found M_s M_one M_other M_group N v1 h_v1) (cwV 0 hts gX10_groups_X10_findGroups rfl rfl rfl hd_X10_findGroups ⟨(Nat.le_of_ble_eq_true rfl), (Nat.le_of_ble_eq_true rfl)⟩) hK hP hD hS hA [0, 1, 2, 3, 4] rfl rfl [o_M a M_pasts M_typed M_ways M_z M_why M_rows M_wide M_column M_found, ai (a 36) cI 244 M_s, ai (a 39) cI 48 M_one, ai (a 40) cI 48 M_other, ai (a 41) cI 144 v1] [(true, 0), (true, 1), (true, 2), (true, 3), (true, 4)] rfl rfl rfl hl.1 (Nat.le_of_ble_eq_true rfl) ⟨Nat.zero_le _, Nat.zero_le _⟩ 0 rfl rfl rfl rfl dX10_groups_1 (fun H locs hP hD hS => ?_)
  refine lv_aload_n hx hb dX10_groups_4 rfl (lv_at hl 0 rfl) ?_
  refine lv_aload_n hx hb dX10_groups_5 rfl (lv_at hl 0 rfl) ?_
  obtain ⟨v2, h_v2, hm⟩ := bd1_inv hm
  refine cVs ⟨hx, hb, hml, hown, hts⟩ (c_X10_cells l D cI cJ cS cB a M_pasts M_typed M_ways M_z M_why M_rows M_wide M_column M_found M_s v2 h_v2) (cwV 0 hts gX10_groups_X10_cells rfl rfl rfl hd_X10_cells ⟨(Nat.le_of_ble_eq_true rfl), (Nat.le_of_ble_eq_true rfl)⟩) hK hP hD hS hA [0, 1] rfl rfl rfl hl.1 (Nat.le_of_ble_eq_true rfl) ⟨Nat.zero_le _, Nat.zero_le _⟩ 0 rfl rfl rfl rfl dX10_groups_6 (fun H locs hP hD hS => ?_)
  obtain ⟨v3, h_v3, hm⟩ := bd1_inv hm
  refine cVs ⟨hx, hb, hml, hown, hts⟩ (c_X10_groupsBelow l D cI cJ cS cB a M_pasts M_typed M_ways M_z M_why M_rows M_wide M_column M_found M_s v1 v2 N v3 h_v3) (cwV 1 hts gX10_groups_X10_groupsBelow rfl rfl rfl hd_X10_groupsBelow ⟨(Nat.le_of_ble_eq_true rfl), (Nat.le_of_ble_eq_true rfl)⟩) hK hP hD hS hA [0, 1, 4] rfl rfl rfl hl.1 (Nat.le_of_ble_eq_true rfl) ⟨Nat.zero_le _, Nat.zero_le _⟩ 0 rfl rfl rfl rfl dX10_groups_9 (fun H locs hP hD hS => ?_)
  cases hm
  exact rI () hx hb hr hlk hP hD hS dX10_groups_12
theorem hd_X10_complete : yX10_complete.cls = RX10 ∧ yX10_complete.cls ≠ "java/lang/invoke/MethodHandle" ∧ yX10_complete.cls ≠ "java/lang/invoke/VarHandle" ∧ (parseMethodDescriptor yX10_complete.desc).map (fun d => d.parameters.length) = some 0 := by decide +kernel
def m_X10_complete_j34 (rec4 : Int32 → Int32 → Option (Int32)) (y7 : Int32) (y8 : Int32) (y9 : Int32) : Option (Int32) :=
  lt1 (y8 + y9) (fun v10 => lt1 (y7 + 1) (fun v11 => rec4 v10 v11))
def m_X10_complete_j33 (rec4 : Int32 → Int32 → Option (Int32)) (y5 : Int32) (y6 : Int32) : Option (Int32) :=
  m_X10_complete_j34 rec4 y5 y6 0
def m_X10_complete_b4 (N : Nat) (M_ways : Int32) (M_s : Nat → Int32) (M_one : Nat → Int32) (M_other : Nat → Int32) (rec4 : Int32 → Int32 → Option (Int32)) (y1 : Int32) (y2 : Int32) : Option (Int32) :=
  bd1 (m_X10_cells M_s) (fun v3 => if v3 ≤ y2 then (some y1) else (bd1 (m_X10_number M_s y2) (fun v4 => if v4 ≤ 0 then (m_X10_complete_j33 rec4 y2 y1) else (bd1 (m_X10_lacks N M_ways M_s M_one M_other y2) (fun v12 => if v12 = 0 then (m_X10_complete_j34 rec4 y2 y1 1) else (m_X10_complete_j33 rec4 y2 y1))))))
def m_X10_complete (N : Nat) (M_ways : Int32) (M_s : Nat → Int32) (M_one : Nat → Int32) (M_other : Nat → Int32) : Option (Int32) :=
  zl2 (m_X10_complete_b4 N M_ways M_s M_one M_other) N 0 0
set_option maxHeartbeats 4000000 in
set_option maxRecDepth 100000 in
theorem c_X10_complete (l : Launch) (D : va_G) (cI cJ cS cB : ClassId) (a : Nat → Nat) (M_pasts : Int32) (M_typed : Int32) (M_ways : Int32) (M_z : Int32) (M_why : Int32) (M_rows : Int32) (M_wide : Int32) (M_column : Int32) (M_found : Int32) (M_s : Nat → Int32) (M_one : Nat → Int32) (M_other : Nat → Int32)  (N : Nat) (r0 : Int32) (hm : m_X10_complete N M_ways M_s M_one M_other = some r0) :
    mU l D (TYs cI cJ cS cB) yX10_complete wsX10_complete { frames := 3, cells := 0, slots := 0, locals := 66 } [.ref (a 35)] [o_M a M_pasts M_typed M_ways M_z M_why M_rows M_wide M_column M_found, ai (a 36) cI 244 M_s, ai (a 39) cI 48 M_one, ai (a 40) cI 48 M_other] [o_M a M_pasts M_typed M_ways M_z M_why M_rows M_wide M_column M_found, ai (a 36) cI 244 M_s, ai (a 39) cI 48 M_one, ai (a 40) cI 48 M_other] (some (.int r0)) := by
  refine mG_of (cc := cX10_complete) (maxL := 3) (ret := (some .int)) (by decide) rfl rfl (Nat.le_of_ble_eq_true rfl) ?_
  intro p e s m args below meth c A hx hb hr hml hlk hnm hts hown hK hP hD hA hS ls hl
  have hl : lv_has ls 3 [(0, .ref (a 35))] := hl
  have hiX10 : ∀ w ∈ wsX100, w ∈ wsX10_complete := fun w h => List.mem_cons_of_mem _ (List.mem_append_right _ h)
  unfold m_X10_complete at hm
  have h4 : ∀ (n : Nat) (y1 : Int32) (y2 : Int32), zl2 (m_X10_complete_b4 N M_ways M_s M_one M_other) n y1 y2 = some r0 → ∀ (H : Heap) (locs : List Loc), va_P D vwCl [o_M a M_pasts M_typed M_ways M_z M_why M_rows M_wide M_column M_found, ai (a 36) cI 244 M_s, ai (a 39) cI 48 M_one, ai (a 40) cI 48 M_other] H → va_D A [o_M a M_pasts M_typed M_ways M_z M_why M_rows M_wide M_column M_found, ai (a 36) cI 244 M_s, ai (a 39) cI 48 M_one, ai (a 40) cI 48 M_other] → va_S A s.heap H locs → ∀ ls : Array Slot, lv_has ls 3 [(0, .ref (a 35)), (1, .int y1), (2, .int y2)] → W p l e { frames := 3, cells := 0, slots := 0, locals := 66 } s m args below meth c H locs 0 0 (MQ below (eQ D (some (.int r0)) (fun _ : Unit => [o_M a M_pasts M_typed M_ways M_z M_why M_rows M_wide M_column M_found, ai (a 36) cI 244 M_s, ai (a 39) cI 48 M_one, ai (a 40) cI 48 M_other]) A) args s 0 0 A) (F0 m 4 ls []) := by
    refine zl2_ind (fun rec4 ih4 y1 y2 hm => ?_)
    have h34 : ∀ (y7 : Int32) (y8 : Int32) (y9 : Int32), m_X10_complete_j34 rec4 y7 y8 y9 = some r0 → ∀ (H : Heap) (locs : List Loc), va_P D vwCl [o_M a M_pasts M_typed M_ways M_z M_why M_rows M_wide M_column M_found, ai (a 36) cI 244 M_s, ai (a 39) cI 48 M_one, ai (a 40) cI 48 M_other] H → va_D A [o_M a M_pasts M_typed M_ways M_z M_why M_rows M_wide M_column M_found, ai (a 36) cI 244 M_s, ai (a 39) cI 48 M_one, ai (a 40) cI 48 M_other] → va_S A s.heap H locs → ∀ ls : Array Slot, lv_has ls 3 [(0, .ref (a 35)), (2, .int y7)] → W p l e { frames := 3, cells := 0, slots := 0, locals := 66 } s m args below meth c H locs 0 0 (MQ below (eQ D (some (.int r0)) (fun _ : Unit => [o_M a M_pasts M_typed M_ways M_z M_why M_rows M_wide M_column M_found, ai (a 36) cI 244 M_s, ai (a 39) cI 48 M_one, ai (a 40) cI 48 M_other]) A) args s 0 0 A) (F0 m 34 ls [.int y9, .int y8]) := by
      intro y7 y8 y9 hm H locs hP hD hS ls hl
      unfold m_X10_complete_j34 at hm
      refine lv_iadd hx hb dX10_complete_34 ?_
      obtain ⟨v10, ev10, hm⟩ := lt1_inv hm
      refine ltop ev10 ?_
      refine lv_istore_n (lv' := [(1, .int v10), (0, .ref (a 35)), (2, .int y7)]) hx hb dX10_complete_35 rfl hl (by decide) rfl (fun ls hl => ?_)
      obtain ⟨v11, ev11, hm⟩ := lt1_inv hm
      refine lv_iinc (v := v11) (lv' := [(2, .int v11), (1, .int v10), (0, .ref (a 35))]) hx hb dX10_complete_36 hl (k := 2) rfl ev11 (by decide) rfl (fun ls hl => ?_)
      refine lv_goto (tgt := 4) hx hb dX10_complete_39 (by decide) ?_
      exact ih4 v10 v11 hm _ _ hP hD hS ls (lv_sub hl [2, 1, 0] rfl)
    have h33 : ∀ (y5 : Int32) (y6 : Int32), m_X10_complete_j33 rec4 y5 y6 = some r0 → ∀ (H : Heap) (locs : List Loc), va_P D vwCl [o_M a M_pasts M_typed M_ways M_z M_why M_rows M_wide M_column M_found, ai (a 36) cI 244 M_s, ai (a 39) cI 48 M_one, ai (a 40) cI 48 M_other] H → va_D A [o_M a M_pasts M_typed M_ways M_z M_why M_rows M_wide M_column M_found, ai (a 36) cI 244 M_s, ai (a 39) cI 48 M_one, ai (a 40) cI 48 M_other] → va_S A s.heap H locs → ∀ ls : Array Slot, lv_has ls 3 [(0, .ref (a 35)), (2, .int y5)] → W p l e { frames := 3, cells := 0, slots := 0, locals := 66 } s m args below meth c H locs 0 0 (MQ below (eQ D (some (.int r0)) (fun _ : Unit => [o_M a M_pasts M_typed M_ways M_z M_why M_rows M_wide M_column M_found, ai (a 36) cI 244 M_s, ai (a 39) cI 48 M_one, ai (a 40) cI 48 M_other]) A) args s 0 0 A) (F0 m 33 ls [.int y6]) := by
      intro y5 y6 hm H locs hP hD hS ls hl
      unfold m_X10_complete_j33 at hm
      refine lv_iconst (v := 0) hx hb dX10_complete_33 (by decide) ?_
      exact h34 y5 y6 0 hm _ _ hP hD hS ls (lv_sub hl [0, 1] rfl)
    intro H locs hP hD hS ls hl
    unfold m_X10_complete_b4 at hm
    refine lv_iload_n hx hb dX10_complete_4 rfl (lv_at hl 2 rfl) ?_
    refine lv_aload_n hx hb dX10_complete_5 rfl (lv_at hl 0 rfl) ?_
    obtain ⟨v3, h_v3, hm⟩ := bd1_inv hm
    refine cVs ⟨hx, hb, hml, hown, hts⟩ (c_X10_cells l D cI cJ cS cB a M_pasts M_typed M_ways M_z M_why M_rows M_wide M_column M_found M_s v3 h_v3) (cwV 0 hts gX10_complete_X10_cells rfl rfl rfl hd_X10_cells ⟨(Nat.le_of_ble_eq_true rfl), (Nat.le_of_ble_eq_true rfl)⟩) hK hP hD hS hA [0, 1] rfl rfl rfl hl.1 (Nat.le_of_ble_eq_true rfl) ⟨Nat.zero_le _, Nat.zero_le _⟩ 0 rfl rfl rfl rfl dX10_complete_6 (fun H locs hP hD hS => ?_)
    refine lv_icmp_ge (tgt := 42) hx hb dX10_complete_9 (by decide) (fun c9 => ?_) (fun c9 => ?_)
    · have hm := ip c9 hm
      refine lv_iload_n hx hb dX10_complete_42 rfl (lv_at hl 1 rfl) ?_
      cases hm
      exact rI () hx hb hr hlk hP hD hS dX10_complete_43
    · have hm := ine c9 hm
      refine lv_iload_n hx hb dX10_complete_12 rfl (lv_at hl 1 rfl) ?_
      refine lv_aload_n hx hb dX10_complete_13 rfl (lv_at hl 0 rfl) ?_
      refine lv_iload_n hx hb dX10_complete_14 rfl (lv_at hl 2 rfl) ?_
      obtain ⟨v4, h_v4, hm⟩ := bd1_inv hm
      refine cVs ⟨hx, hb, hml, hown, hts⟩ (c_X10_number l D cI cJ cS cB a M_pasts M_typed M_ways M_z M_why M_rows M_wide M_column M_found M_s y2 v4 h_v4) (cwV 1 hts gX10_complete_X10_number rfl rfl rfl hd_X10_number ⟨(Nat.le_of_ble_eq_true rfl), (Nat.le_of_ble_eq_true rfl)⟩) hK hP hD hS hA [0, 1] rfl rfl rfl hl.1 (Nat.le_of_ble_eq_true rfl) ⟨Nat.zero_le _, Nat.zero_le _⟩ 0 rfl rfl rfl rfl dX10_complete_15 (fun H locs hP hD hS => ?_)
      refine lv_if_le (tgt := 33) hx hb dX10_complete_18 (by decide) (fun c18 => ?_) (fun c18 => ?_)
      · have hm := ip c18 hm
        exact h33 y2 y1 hm _ _ hP hD hS ls (lv_sub hl [0, 2] rfl)
      · have hm := ine c18 hm
        refine lv_aload_n hx hb dX10_complete_21 rfl (lv_at hl 0 rfl) ?_
        refine lv_iload_n hx hb dX10_complete_22 rfl (lv_at hl 2 rfl) ?_
        obtain ⟨v12, h_v12, hm⟩ := bd1_inv hm
        refine cVs ⟨hx, hb, hml, hown, hts⟩ (c_X10_lacks l D cI cJ cS cB a M_pasts M_typed M_ways M_z M_why M_rows M_wide M_column M_found M_s M_one M_other y2 N v12 h_v12) (cwV 1 hts gX10_complete_X10_lacks rfl rfl rfl hd_X10_lacks ⟨(Nat.le_of_ble_eq_true rfl), (Nat.le_of_ble_eq_true rfl)⟩) hK hP hD hS hA [0, 1, 2, 3] rfl rfl rfl hl.1 (Nat.le_of_ble_eq_true rfl) ⟨Nat.zero_le _, Nat.zero_le _⟩ 0 rfl rfl rfl rfl dX10_complete_23 (fun H locs hP hD hS => ?_)
        refine lv_if_ne (tgt := 33) hx hb dX10_complete_26 (by decide) (fun c26 => ?_) (fun c26 => ?_)
        · have hm := ine c26 hm
          exact h33 y2 y1 hm _ _ hP hD hS ls (lv_sub hl [0, 2] rfl)
        · have hm := ip c26 hm
          refine lv_iconst (v := 1) hx hb dX10_complete_29 (by decide) ?_
          refine lv_goto (tgt := 34) hx hb dX10_complete_30 (by decide) ?_
          exact h34 y2 y1 1 hm _ _ hP hD hS ls (lv_sub hl [0, 2] rfl)
  refine lv_iconst (v := 0) hx hb dX10_complete_0 (by decide) ?_
  refine lv_istore_n (lv' := [(1, .int 0), (0, .ref (a 35))]) hx hb dX10_complete_1 rfl hl (by decide) rfl (fun ls hl => ?_)
  refine lv_iconst (v := 0) hx hb dX10_complete_2 (by decide) ?_
  refine lv_istore_n (lv' := [(2, .int 0), (1, .int 0), (0, .ref (a 35))]) hx hb dX10_complete_3 rfl hl (by decide) rfl (fun ls hl => ?_)
  exact h4  N 0 0 hm _ _ hP hD hS ls (lv_sub hl [2, 1, 0] rfl)
theorem hd_X10_isSolved : yX10_isSolved.cls = RX10 ∧ yX10_isSolved.cls ≠ "java/lang/invoke/MethodHandle" ∧ yX10_isSolved.cls ≠ "java/lang/invoke/VarHandle" ∧ (parseMethodDescriptor yX10_isSolved.desc).map (fun d => d.parameters.length) = some 0 := by decide +kernel
def m_X10_isSolved (N : Nat) (M_ways : Int32) (M_s : Nat → Int32) (M_one : Nat → Int32) (M_other : Nat → Int32) (M_group : Nat → Int32) : Option (Int32 × (Nat → Int32)) :=
  bd1 (m_X10_islands N M_s) (fun v1 => if v1 ≤ 0 then (some ((0, M_group))) else (bd1 (m_X10_complete N M_ways M_s M_one M_other) (fun v2 => bd1 (m_X10_islands N M_s) (fun v3 => if v2 = v3 then (bd2 (m_X10_groups N M_ways M_s M_one M_other M_group) (fun v4 v5 => if v4 = 1 then (some ((1, v5))) else (some ((0, v5))))) else (some ((0, M_group)))))))
set_option maxHeartbeats 4000000 in
set_option maxRecDepth 100000 in
theorem c_X10_isSolved (l : Launch) (D : va_G) (cI cJ cS cB : ClassId) (a : Nat → Nat) (M_pasts : Int32) (M_typed : Int32) (M_ways : Int32) (M_z : Int32) (M_why : Int32) (M_rows : Int32) (M_wide : Int32) (M_column : Int32) (M_found : Int32) (M_s : Nat → Int32) (M_one : Nat → Int32) (M_other : Nat → Int32) (M_group : Nat → Int32)  (N : Nat) (r0 : Int32) (M_group' : Nat → Int32) (hm : m_X10_isSolved N M_ways M_s M_one M_other M_group = some (r0, M_group')) :
    mU l D (TYs cI cJ cS cB) yX10_isSolved wsX10_isSolved { frames := 4, cells := 0, slots := 0, locals := 88 } [.ref (a 35)] [o_M a M_pasts M_typed M_ways M_z M_why M_rows M_wide M_column M_found, ai (a 36) cI 244 M_s, ai (a 39) cI 48 M_one, ai (a 40) cI 48 M_other, ai (a 41) cI 144 M_group] [o_M a M_pasts M_typed M_ways M_z M_why M_rows M_wide M_column M_found, ai (a 36) cI 244 M_s, ai (a 39) cI 48 M_one, ai (a 40) cI 48 M_other, ai (a 41) cI 144 M_group'] (some (.int r0)) := by
  refine mG_of (cc := cX10_isSolved) (maxL := 1) (ret := (some .boolean)) (by decide) rfl rfl (Nat.le_of_ble_eq_true rfl) ?_
  intro p e s m args below meth c A hx hb hr hml hlk hnm hts hown hK hP hD hA hS ls hl
  have hl : lv_has ls 1 [(0, .ref (a 35))] := hl
  have hiX10 : ∀ w ∈ wsX100, w ∈ wsX10_isSolved := fun w h => List.mem_cons_of_mem _ (List.mem_append_right _ h)
  unfold m_X10_isSolved at hm
  refine lv_aload_n hx hb dX10_isSolved_0 rfl (lv_at hl 0 rfl) ?_
  obtain ⟨v1, h_v1, hm⟩ := bd1_inv hm
  refine cVs ⟨hx, hb, hml, hown, hts⟩ (c_X10_islands l D cI cJ cS cB a M_pasts M_typed M_ways M_z M_why M_rows M_wide M_column M_found M_s N v1 h_v1) (cwV 0 hts gX10_isSolved_X10_islands rfl rfl rfl hd_X10_islands ⟨(Nat.le_of_ble_eq_true rfl), (Nat.le_of_ble_eq_true rfl)⟩) hK hP hD hS hA [0, 1] rfl rfl rfl hl.1 (Nat.le_of_ble_eq_true rfl) ⟨Nat.zero_le _, Nat.zero_le _⟩ 0 rfl rfl rfl rfl dX10_isSolved_1 (fun H locs hP hD hS => ?_)
  refine lv_if_le (tgt := 30) hx hb dX10_isSolved_4 (by decide) (fun c4 => ?_) (fun c4 => ?_)
  · have hm := ip c4 hm
    refine lv_iconst (v := 0) hx hb dX10_isSolved_30 (by decide) ?_
    cases hm
    exact rZ () hx hb hr hlk (by decide) hP hD hS dX10_isSolved_31
  · have hm := ine c4 hm
    refine lv_aload_n hx hb dX10_isSolved_7 rfl (lv_at hl 0 rfl) ?_
    obtain ⟨v2, h_v2, hm⟩ := bd1_inv hm
    refine cVs ⟨hx, hb, hml, hown, hts⟩ (c_X10_complete l D cI cJ cS cB a M_pasts M_typed M_ways M_z M_why M_rows M_wide M_column M_found M_s M_one M_other N v2 h_v2) (cwV 0 hts gX10_isSolved_X10_complete rfl rfl rfl hd_X10_complete ⟨(Nat.le_of_ble_eq_true rfl), (Nat.le_of_ble_eq_true rfl)⟩) hK hP hD hS hA [0, 1, 2, 3] rfl rfl rfl hl.1 (Nat.le_of_ble_eq_true rfl) ⟨Nat.zero_le _, Nat.zero_le _⟩ 0 rfl rfl rfl rfl dX10_isSolved_8 (fun H locs hP hD hS => ?_)
    refine lv_aload_n hx hb dX10_isSolved_11 rfl (lv_at hl 0 rfl) ?_
    obtain ⟨v3, h_v3, hm⟩ := bd1_inv hm
    refine cVs ⟨hx, hb, hml, hown, hts⟩ (c_X10_islands l D cI cJ cS cB a M_pasts M_typed M_ways M_z M_why M_rows M_wide M_column M_found M_s N v3 h_v3) (cwV 0 hts gX10_isSolved_X10_islands rfl rfl rfl hd_X10_islands ⟨(Nat.le_of_ble_eq_true rfl), (Nat.le_of_ble_eq_true rfl)⟩) hK hP hD hS hA [0, 1] rfl rfl rfl hl.1 (Nat.le_of_ble_eq_true rfl) ⟨Nat.zero_le _, Nat.zero_le _⟩ 0 rfl rfl rfl rfl dX10_isSolved_12 (fun H locs hP hD hS => ?_)
    refine lv_icmp_ne (tgt := 30) hx hb dX10_isSolved_15 (by decide) (fun c15 => ?_) (fun c15 => ?_)
    · have hm := ine c15 hm
      refine lv_iconst (v := 0) hx hb dX10_isSolved_30 (by decide) ?_
      cases hm
      exact rZ () hx hb hr hlk (by decide) hP hD hS dX10_isSolved_31
    · have hm := ip c15 hm
      refine lv_aload_n hx hb dX10_isSolved_18 rfl (lv_at hl 0 rfl) ?_
      obtain ⟨v4, v5, h_v4, hm⟩ := bd2_inv hm
      refine cVx ⟨hx, hb, hml, hown, hts⟩ (c_X10_groups l D cI cJ cS cB a M_pasts M_typed M_ways M_z M_why M_rows M_wide M_column M_found M_s M_one M_other M_group N v4 v5 h_v4) (cwV 0 hts gX10_isSolved_X10_groups rfl rfl rfl hd_X10_groups ⟨(Nat.le_of_ble_eq_true rfl), (Nat.le_of_ble_eq_true rfl)⟩) hK hP hD hS hA [0, 1, 2, 3, 4] rfl rfl [o_M a M_pasts M_typed M_ways M_z M_why M_rows M_wide M_column M_found, ai (a 36) cI 244 M_s, ai (a 39) cI 48 M_one, ai (a 40) cI 48 M_other, ai (a 41) cI 144 v5] [(true, 0), (true, 1), (true, 2), (true, 3), (true, 4)] rfl rfl rfl hl.1 (Nat.le_of_ble_eq_true rfl) ⟨Nat.zero_le _, Nat.zero_le _⟩ 0 rfl rfl rfl rfl dX10_isSolved_19 (fun H locs hP hD hS => ?_)
      refine lv_iconst (v := 1) hx hb dX10_isSolved_22 (by decide) ?_
      refine lv_icmp_ne (tgt := 30) hx hb dX10_isSolved_23 (by decide) (fun c23 => ?_) (fun c23 => ?_)
      · have hm := ine c23 hm
        refine lv_iconst (v := 0) hx hb dX10_isSolved_30 (by decide) ?_
        cases hm
        exact rZ () hx hb hr hlk (by decide) hP hD hS dX10_isSolved_31
      · have hm := ip c23 hm
        refine lv_iconst (v := 1) hx hb dX10_isSolved_26 (by decide) ?_
        refine lv_goto (tgt := 31) hx hb dX10_isSolved_27 (by decide) ?_
        cases hm
        exact rZ () hx hb hr hlk (by decide) hP hD hS dX10_isSolved_31
theorem hd_X10_isBroken : yX10_isBroken.cls = RX10 ∧ yX10_isBroken.cls ≠ "java/lang/invoke/MethodHandle" ∧ yX10_isBroken.cls ≠ "java/lang/invoke/VarHandle" ∧ (parseMethodDescriptor yX10_isBroken.desc).map (fun d => d.parameters.length) = some 0 := by decide +kernel
def m_X10_isBroken_j50 (rec4 : Int32 → Int32 → Option (Int32)) (y5 : Int32) (y6 : Int32) : Option (Int32) :=
  lt1 (y5 + 1) (fun v7 => rec4 y6 v7)
def m_X10_isBroken_j45 (rec4 : Int32 → Int32 → Option (Int32)) (y4 : Int32) : Option (Int32) :=
  m_X10_isBroken_j50 rec4 y4 1
def m_X10_isBroken_j49 (rec4 : Int32 → Int32 → Option (Int32)) (y9 : Int32) : Option (Int32) :=
  m_X10_isBroken_j50 rec4 y9 0
def m_X10_isBroken_b4 (N : Nat) (M_ways : Int32) (M_s : Nat → Int32) (M_one : Nat → Int32) (M_other : Nat → Int32) (rec4 : Int32 → Int32 → Option (Int32)) (y1 : Int32) (y2 : Int32) : Option (Int32) :=
  bd1 (m_X10_cells M_s) (fun v3 => if v3 ≤ y2 then (ckb y1 (some y1)) else (if y1 = 0 then (bd1 (m_X10_number M_s y2) (fun v8 => if v8 ≤ 0 then (m_X10_isBroken_j49 rec4 y2) else (bd1 (m_X10_capsOf N M_ways M_s M_one M_other y2) (fun v10 => bd1 (m_X10_number M_s y2) (fun v11 => if v10 < v11 then (m_X10_isBroken_j45 rec4 y2) else (bd1 (m_X10_lacks N M_ways M_s M_one M_other y2) (fun v12 => if 0 ≤ v12 then (m_X10_isBroken_j49 rec4 y2) else (m_X10_isBroken_j45 rec4 y2)))))))) else (m_X10_isBroken_j45 rec4 y2)))
def m_X10_isBroken (N : Nat) (M_ways : Int32) (M_s : Nat → Int32) (M_one : Nat → Int32) (M_other : Nat → Int32) : Option (Int32) :=
  zl2 (m_X10_isBroken_b4 N M_ways M_s M_one M_other) N 0 0
set_option maxHeartbeats 4000000 in
set_option maxRecDepth 100000 in
theorem c_X10_isBroken (l : Launch) (D : va_G) (cI cJ cS cB : ClassId) (a : Nat → Nat) (M_pasts : Int32) (M_typed : Int32) (M_ways : Int32) (M_z : Int32) (M_why : Int32) (M_rows : Int32) (M_wide : Int32) (M_column : Int32) (M_found : Int32) (M_s : Nat → Int32) (M_one : Nat → Int32) (M_other : Nat → Int32)  (N : Nat) (r0 : Int32) (hm : m_X10_isBroken N M_ways M_s M_one M_other = some r0) :
    mU l D (TYs cI cJ cS cB) yX10_isBroken wsX10_isBroken { frames := 3, cells := 0, slots := 0, locals := 66 } [.ref (a 35)] [o_M a M_pasts M_typed M_ways M_z M_why M_rows M_wide M_column M_found, ai (a 36) cI 244 M_s, ai (a 39) cI 48 M_one, ai (a 40) cI 48 M_other] [o_M a M_pasts M_typed M_ways M_z M_why M_rows M_wide M_column M_found, ai (a 36) cI 244 M_s, ai (a 39) cI 48 M_one, ai (a 40) cI 48 M_other] (some (.int r0)) := by
  refine mG_of (cc := cX10_isBroken) (maxL := 3) (ret := (some .boolean)) (by decide) rfl rfl (Nat.le_of_ble_eq_true rfl) ?_
  intro p e s m args below meth c A hx hb hr hml hlk hnm hts hown hK hP hD hA hS ls hl
  have hl : lv_has ls 3 [(0, .ref (a 35))] := hl
  have hiX10 : ∀ w ∈ wsX100, w ∈ wsX10_isBroken := fun w h => List.mem_cons_of_mem _ (List.mem_append_right _ h)
  unfold m_X10_isBroken at hm
  have h4 : ∀ (n : Nat) (y1 : Int32) (y2 : Int32), zl2 (m_X10_isBroken_b4 N M_ways M_s M_one M_other) n y1 y2 = some r0 → ∀ (H : Heap) (locs : List Loc), va_P D vwCl [o_M a M_pasts M_typed M_ways M_z M_why M_rows M_wide M_column M_found, ai (a 36) cI 244 M_s, ai (a 39) cI 48 M_one, ai (a 40) cI 48 M_other] H → va_D A [o_M a M_pasts M_typed M_ways M_z M_why M_rows M_wide M_column M_found, ai (a 36) cI 244 M_s, ai (a 39) cI 48 M_one, ai (a 40) cI 48 M_other] → va_S A s.heap H locs → ∀ ls : Array Slot, lv_has ls 3 [(0, .ref (a 35)), (1, .int y1), (2, .int y2)] → W p l e { frames := 3, cells := 0, slots := 0, locals := 66 } s m args below meth c H locs 0 0 (MQ below (eQ D (some (.int r0)) (fun _ : Unit => [o_M a M_pasts M_typed M_ways M_z M_why M_rows M_wide M_column M_found, ai (a 36) cI 244 M_s, ai (a 39) cI 48 M_one, ai (a 40) cI 48 M_other]) A) args s 0 0 A) (F0 m 4 ls []) := by
    refine zl2_ind (fun rec4 ih4 y1 y2 hm => ?_)
    have h50 : ∀ (y5 : Int32) (y6 : Int32), m_X10_isBroken_j50 rec4 y5 y6 = some r0 → ∀ (H : Heap) (locs : List Loc), va_P D vwCl [o_M a M_pasts M_typed M_ways M_z M_why M_rows M_wide M_column M_found, ai (a 36) cI 244 M_s, ai (a 39) cI 48 M_one, ai (a 40) cI 48 M_other] H → va_D A [o_M a M_pasts M_typed M_ways M_z M_why M_rows M_wide M_column M_found, ai (a 36) cI 244 M_s, ai (a 39) cI 48 M_one, ai (a 40) cI 48 M_other] → va_S A s.heap H locs → ∀ ls : Array Slot, lv_has ls 3 [(0, .ref (a 35)), (2, .int y5)] → W p l e { frames := 3, cells := 0, slots := 0, locals := 66 } s m args below meth c H locs 0 0 (MQ below (eQ D (some (.int r0)) (fun _ : Unit => [o_M a M_pasts M_typed M_ways M_z M_why M_rows M_wide M_column M_found, ai (a 36) cI 244 M_s, ai (a 39) cI 48 M_one, ai (a 40) cI 48 M_other]) A) args s 0 0 A) (F0 m 50 ls [.int y6]) := by
      intro y5 y6 hm H locs hP hD hS ls hl
      unfold m_X10_isBroken_j50 at hm
      refine lv_istore_n (lv' := [(1, .int y6), (0, .ref (a 35)), (2, .int y5)]) hx hb dX10_isBroken_50 rfl hl (by decide) rfl (fun ls hl => ?_)
      obtain ⟨v7, ev7, hm⟩ := lt1_inv hm
      refine lv_iinc (v := v7) (lv' := [(2, .int v7), (1, .int y6), (0, .ref (a 35))]) hx hb dX10_isBroken_51 hl (k := 2) rfl ev7 (by decide) rfl (fun ls hl => ?_)
      refine lv_goto (tgt := 4) hx hb dX10_isBroken_54 (by decide) ?_
      exact ih4 y6 v7 hm _ _ hP hD hS ls (lv_sub hl [2, 1, 0] rfl)
    have h49 : ∀ (y9 : Int32), m_X10_isBroken_j49 rec4 y9 = some r0 → ∀ (H : Heap) (locs : List Loc), va_P D vwCl [o_M a M_pasts M_typed M_ways M_z M_why M_rows M_wide M_column M_found, ai (a 36) cI 244 M_s, ai (a 39) cI 48 M_one, ai (a 40) cI 48 M_other] H → va_D A [o_M a M_pasts M_typed M_ways M_z M_why M_rows M_wide M_column M_found, ai (a 36) cI 244 M_s, ai (a 39) cI 48 M_one, ai (a 40) cI 48 M_other] → va_S A s.heap H locs → ∀ ls : Array Slot, lv_has ls 3 [(0, .ref (a 35)), (2, .int y9)] → W p l e { frames := 3, cells := 0, slots := 0, locals := 66 } s m args below meth c H locs 0 0 (MQ below (eQ D (some (.int r0)) (fun _ : Unit => [o_M a M_pasts M_typed M_ways M_z M_why M_rows M_wide M_column M_found, ai (a 36) cI 244 M_s, ai (a 39) cI 48 M_one, ai (a 40) cI 48 M_other]) A) args s 0 0 A) (F0 m 49 ls []) := by
      intro y9 hm H locs hP hD hS ls hl
      unfold m_X10_isBroken_j49 at hm
      refine lv_iconst (v := 0) hx hb dX10_isBroken_49 (by decide) ?_
      exact h50 y9 0 hm _ _ hP hD hS ls (lv_sub hl [0, 1] rfl)
    have h45 : ∀ (y4 : Int32), m_X10_isBroken_j45 rec4 y4 = some r0 → ∀ (H : Heap) (locs : List Loc), va_P D vwCl [o_M a M_pasts M_typed M_ways M_z M_why M_rows M_wide M_column M_found, ai (a 36) cI 244 M_s, ai (a 39) cI 48 M_one, ai (a 40) cI 48 M_other] H → va_D A [o_M a M_pasts M_typed M_ways M_z M_why M_rows M_wide M_column M_found, ai (a 36) cI 244 M_s, ai (a 39) cI 48 M_one, ai (a 40) cI 48 M_other] → va_S A s.heap H locs → ∀ ls : Array Slot, lv_has ls 3 [(0, .ref (a 35)), (2, .int y4)] → W p l e { frames := 3, cells := 0, slots := 0, locals := 66 } s m args below meth c H locs 0 0 (MQ below (eQ D (some (.int r0)) (fun _ : Unit => [o_M a M_pasts M_typed M_ways M_z M_why M_rows M_wide M_column M_found, ai (a 36) cI 244 M_s, ai (a 39) cI 48 M_one, ai (a 40) cI 48 M_other]) A) args s 0 0 A) (F0 m 45 ls []) := by
      intro y4 hm H locs hP hD hS ls hl
      unfold m_X10_isBroken_j45 at hm
      refine lv_iconst (v := 1) hx hb dX10_isBroken_45 (by decide) ?_
      refine lv_goto (tgt := 50) hx hb dX10_isBroken_46 (by decide) ?_
      exact h50 y4 1 hm _ _ hP hD hS ls (lv_sub hl [0, 1] rfl)
    intro H locs hP hD hS ls hl
    unfold m_X10_isBroken_b4 at hm
    refine lv_iload_n hx hb dX10_isBroken_4 rfl (lv_at hl 2 rfl) ?_
    refine lv_aload_n hx hb dX10_isBroken_5 rfl (lv_at hl 0 rfl) ?_
    obtain ⟨v3, h_v3, hm⟩ := bd1_inv hm
    refine cVs ⟨hx, hb, hml, hown, hts⟩ (c_X10_cells l D cI cJ cS cB a M_pasts M_typed M_ways M_z M_why M_rows M_wide M_column M_found M_s v3 h_v3) (cwV 0 hts gX10_isBroken_X10_cells rfl rfl rfl hd_X10_cells ⟨(Nat.le_of_ble_eq_true rfl), (Nat.le_of_ble_eq_true rfl)⟩) hK hP hD hS hA [0, 1] rfl rfl rfl hl.1 (Nat.le_of_ble_eq_true rfl) ⟨Nat.zero_le _, Nat.zero_le _⟩ 0 rfl rfl rfl rfl dX10_isBroken_6 (fun H locs hP hD hS => ?_)
    refine lv_icmp_ge (tgt := 57) hx hb dX10_isBroken_9 (by decide) (fun c9 => ?_) (fun c9 => ?_)
    · have hm := ip c9 hm
      refine lv_iload_n hx hb dX10_isBroken_57 rfl (lv_at hl 1 rfl) ?_
      obtain ⟨hz58, hm⟩ := ckb_inv hm
      cases hm
      exact rZ () hx hb hr hlk hz58 hP hD hS dX10_isBroken_58
    · have hm := ine c9 hm
      refine lv_iload_n hx hb dX10_isBroken_12 rfl (lv_at hl 1 rfl) ?_
      refine lv_if_ne (tgt := 45) hx hb dX10_isBroken_13 (by decide) (fun c13 => ?_) (fun c13 => ?_)
      · have hm := ine c13 hm
        exact h45 y2 hm _ _ hP hD hS ls (lv_sub hl [0, 2] rfl)
      · have hm := ip c13 hm
        refine lv_aload_n hx hb dX10_isBroken_16 rfl (lv_at hl 0 rfl) ?_
        refine lv_iload_n hx hb dX10_isBroken_17 rfl (lv_at hl 2 rfl) ?_
        obtain ⟨v8, h_v8, hm⟩ := bd1_inv hm
        refine cVs ⟨hx, hb, hml, hown, hts⟩ (c_X10_number l D cI cJ cS cB a M_pasts M_typed M_ways M_z M_why M_rows M_wide M_column M_found M_s y2 v8 h_v8) (cwV 1 hts gX10_isBroken_X10_number rfl rfl rfl hd_X10_number ⟨(Nat.le_of_ble_eq_true rfl), (Nat.le_of_ble_eq_true rfl)⟩) hK hP hD hS hA [0, 1] rfl rfl rfl hl.1 (Nat.le_of_ble_eq_true rfl) ⟨Nat.zero_le _, Nat.zero_le _⟩ 0 rfl rfl rfl rfl dX10_isBroken_18 (fun H locs hP hD hS => ?_)
        refine lv_if_le (tgt := 49) hx hb dX10_isBroken_21 (by decide) (fun c21 => ?_) (fun c21 => ?_)
        · have hm := ip c21 hm
          exact h49 y2 hm _ _ hP hD hS ls (lv_sub hl [0, 2] rfl)
        · have hm := ine c21 hm
          refine lv_aload_n hx hb dX10_isBroken_24 rfl (lv_at hl 0 rfl) ?_
          refine lv_iload_n hx hb dX10_isBroken_25 rfl (lv_at hl 2 rfl) ?_
          obtain ⟨v10, h_v10, hm⟩ := bd1_inv hm
          refine cVs ⟨hx, hb, hml, hown, hts⟩ (c_X10_capsOf l D cI cJ cS cB a M_pasts M_typed M_ways M_z M_why M_rows M_wide M_column M_found M_s M_one M_other y2 N v10 h_v10) (cwV 1 hts gX10_isBroken_X10_capsOf rfl rfl rfl hd_X10_capsOf ⟨(Nat.le_of_ble_eq_true rfl), (Nat.le_of_ble_eq_true rfl)⟩) hK hP hD hS hA [0, 1, 2, 3] rfl rfl rfl hl.1 (Nat.le_of_ble_eq_true rfl) ⟨Nat.zero_le _, Nat.zero_le _⟩ 0 rfl rfl rfl rfl dX10_isBroken_26 (fun H locs hP hD hS => ?_)
          refine lv_aload_n hx hb dX10_isBroken_29 rfl (lv_at hl 0 rfl) ?_
          refine lv_iload_n hx hb dX10_isBroken_30 rfl (lv_at hl 2 rfl) ?_
          obtain ⟨v11, h_v11, hm⟩ := bd1_inv hm
          refine cVs ⟨hx, hb, hml, hown, hts⟩ (c_X10_number l D cI cJ cS cB a M_pasts M_typed M_ways M_z M_why M_rows M_wide M_column M_found M_s y2 v11 h_v11) (cwV 1 hts gX10_isBroken_X10_number rfl rfl rfl hd_X10_number ⟨(Nat.le_of_ble_eq_true rfl), (Nat.le_of_ble_eq_true rfl)⟩) hK hP hD hS hA [0, 1] rfl rfl rfl hl.1 (Nat.le_of_ble_eq_true rfl) ⟨Nat.zero_le _, Nat.zero_le _⟩ 0 rfl rfl rfl rfl dX10_isBroken_31 (fun H locs hP hD hS => ?_)
          refine lv_icmp_lt (tgt := 45) hx hb dX10_isBroken_34 (by decide) (fun c34 => ?_) (fun c34 => ?_)
          · have hm := ip c34 hm
            exact h45 y2 hm _ _ hP hD hS ls (lv_sub hl [0, 2] rfl)
          · have hm := ine c34 hm
            refine lv_aload_n hx hb dX10_isBroken_37 rfl (lv_at hl 0 rfl) ?_
            refine lv_iload_n hx hb dX10_isBroken_38 rfl (lv_at hl 2 rfl) ?_
            obtain ⟨v12, h_v12, hm⟩ := bd1_inv hm
            refine cVs ⟨hx, hb, hml, hown, hts⟩ (c_X10_lacks l D cI cJ cS cB a M_pasts M_typed M_ways M_z M_why M_rows M_wide M_column M_found M_s M_one M_other y2 N v12 h_v12) (cwV 1 hts gX10_isBroken_X10_lacks rfl rfl rfl hd_X10_lacks ⟨(Nat.le_of_ble_eq_true rfl), (Nat.le_of_ble_eq_true rfl)⟩) hK hP hD hS hA [0, 1, 2, 3] rfl rfl rfl hl.1 (Nat.le_of_ble_eq_true rfl) ⟨Nat.zero_le _, Nat.zero_le _⟩ 0 rfl rfl rfl rfl dX10_isBroken_39 (fun H locs hP hD hS => ?_)
            refine lv_if_ge (tgt := 49) hx hb dX10_isBroken_42 (by decide) (fun c42 => ?_) (fun c42 => ?_)
            · have hm := ip c42 hm
              exact h49 y2 hm _ _ hP hD hS ls (lv_sub hl [0, 2] rfl)
            · have hm := ine c42 hm
              exact h45 y2 hm _ _ hP hD hS ls (lv_sub hl [0, 2] rfl)
  refine lv_iconst (v := 0) hx hb dX10_isBroken_0 (by decide) ?_
  refine lv_istore_n (lv' := [(1, .int 0), (0, .ref (a 35))]) hx hb dX10_isBroken_1 rfl hl (by decide) rfl (fun ls hl => ?_)
  refine lv_iconst (v := 0) hx hb dX10_isBroken_2 (by decide) ?_
  refine lv_istore_n (lv' := [(2, .int 0), (1, .int 0), (0, .ref (a 35))]) hx hb dX10_isBroken_3 rfl hl (by decide) rfl (fun ls hl => ?_)
  exact h4  N 0 0 hm _ _ hP hD hS ls (lv_sub hl [2, 1, 0] rfl)
theorem hd_X10_reason : yX10_reason.cls = RX10 ∧ yX10_reason.cls ≠ "java/lang/invoke/MethodHandle" ∧ yX10_reason.cls ≠ "java/lang/invoke/VarHandle" ∧ (parseMethodDescriptor yX10_reason.desc).map (fun d => d.parameters.length) = some 1 := by decide +kernel
def m_X10_reason_j63  : Option (Int32) :=
  some 4
def m_X10_reason (N : Nat) (M_ways : Int32) (M_s : Nat → Int32) (M_one : Nat → Int32) (M_other : Nat → Int32) (x1 : Int32) : Option (Int32) :=
  bd1 (m_X10_bridges M_s x1) (fun v1 => if v1 = 2 then (some 1) else (bd1 (m_X10_capOf M_s x1) (fun v2 => bd1 (m_X10_bridges M_s x1) (fun v3 => if v2 = v3 then (some 2) else (bd1 (m_X10_crossings N M_ways M_s M_one M_other x1 1) (fun v4 => if v4 ≤ 0 then (rd 48 M_one x1 (fun v5 => bd1 (m_X10_lacks N M_ways M_s M_one M_other v5) (fun v6 => if v6 ≤ 0 then (m_X10_reason_j63) else (rd 48 M_other x1 (fun v7 => bd1 (m_X10_lacks N M_ways M_s M_one M_other v7) (fun v8 => if 0 < v8 then (some 0) else (m_X10_reason_j63))))))) else (some 3)))))))
set_option maxHeartbeats 4000000 in
set_option maxRecDepth 100000 in
theorem c_X10_reason (l : Launch) (D : va_G) (cI cJ cS cB : ClassId) (a : Nat → Nat) (M_pasts : Int32) (M_typed : Int32) (M_ways : Int32) (M_z : Int32) (M_why : Int32) (M_rows : Int32) (M_wide : Int32) (M_column : Int32) (M_found : Int32) (M_s : Nat → Int32) (M_one : Nat → Int32) (M_other : Nat → Int32) (x1 : Int32) (N : Nat) (r0 : Int32) (hm : m_X10_reason N M_ways M_s M_one M_other x1 = some r0) :
    mU l D (TYs cI cJ cS cB) yX10_reason wsX10_reason { frames := 4, cells := 0, slots := 0, locals := 93 } [.ref (a 35), .int x1] [o_M a M_pasts M_typed M_ways M_z M_why M_rows M_wide M_column M_found, ai (a 36) cI 244 M_s, ai (a 39) cI 48 M_one, ai (a 40) cI 48 M_other] [o_M a M_pasts M_typed M_ways M_z M_why M_rows M_wide M_column M_found, ai (a 36) cI 244 M_s, ai (a 39) cI 48 M_one, ai (a 40) cI 48 M_other] (some (.int r0)) := by
  refine mG_of (cc := cX10_reason) (maxL := 2) (ret := (some .int)) (by decide) rfl rfl (Nat.le_of_ble_eq_true rfl) ?_
  intro p e s m args below meth c A hx hb hr hml hlk hnm hts hown hK hP hD hA hS ls hl
  have hl : lv_has ls 2 [(0, .ref (a 35)), (1, .int x1)] := hl
  have hiX10 : ∀ w ∈ wsX100, w ∈ wsX10_reason := fun w h => List.mem_cons_of_mem _ (List.mem_append_right _ h)
  unfold m_X10_reason at hm
  have h63 : m_X10_reason_j63 = some r0 → ∀ (H : Heap) (locs : List Loc), va_P D vwCl [o_M a M_pasts M_typed M_ways M_z M_why M_rows M_wide M_column M_found, ai (a 36) cI 244 M_s, ai (a 39) cI 48 M_one, ai (a 40) cI 48 M_other] H → va_D A [o_M a M_pasts M_typed M_ways M_z M_why M_rows M_wide M_column M_found, ai (a 36) cI 244 M_s, ai (a 39) cI 48 M_one, ai (a 40) cI 48 M_other] → va_S A s.heap H locs → ∀ ls : Array Slot, lv_has ls 2 [] → W p l e { frames := 4, cells := 0, slots := 0, locals := 93 } s m args below meth c H locs 0 0 (MQ below (eQ D (some (.int r0)) (fun _ : Unit => [o_M a M_pasts M_typed M_ways M_z M_why M_rows M_wide M_column M_found, ai (a 36) cI 244 M_s, ai (a 39) cI 48 M_one, ai (a 40) cI 48 M_other]) A) args s 0 0 A) (F0 m 63 ls []) := by
    intro  hm H locs hP hD hS ls hl
    unfold m_X10_reason_j63 at hm
    refine lv_iconst (v := 4) hx hb dX10_reason_63 (by decide) ?_
    refine lv_goto (tgt := 68) hx hb dX10_reason_64 (by decide) ?_
    cases hm
    exact rI () hx hb hr hlk hP hD hS dX10_reason_68
  refine lv_aload_n hx hb dX10_reason_0 rfl (lv_at hl 0 rfl) ?_
  refine lv_iload_n hx hb dX10_reason_1 rfl (lv_at hl 1 rfl) ?_
  obtain ⟨v1, h_v1, hm⟩ := bd1_inv hm
  refine cVs ⟨hx, hb, hml, hown, hts⟩ (c_X10_bridges l D cI cJ cS cB a M_pasts M_typed M_ways M_z M_why M_rows M_wide M_column M_found M_s x1 v1 h_v1) (cwV 1 hts gX10_reason_X10_bridges rfl rfl rfl hd_X10_bridges ⟨(Nat.le_of_ble_eq_true rfl), (Nat.le_of_ble_eq_true rfl)⟩) hK hP hD hS hA [0, 1] rfl rfl rfl hl.1 (Nat.le_of_ble_eq_true rfl) ⟨Nat.zero_le _, Nat.zero_le _⟩ 0 rfl rfl rfl rfl dX10_reason_2 (fun H locs hP hD hS => ?_)
  refine lv_iconst (v := 2) hx hb dX10_reason_5 (by decide) ?_
  refine lv_icmp_ne (tgt := 11) hx hb dX10_reason_6 (by decide) (fun c6 => ?_) (fun c6 => ?_)
  · have hm := ine c6 hm
    refine lv_aload_n hx hb dX10_reason_11 rfl (lv_at hl 0 rfl) ?_
    refine lv_iload_n hx hb dX10_reason_12 rfl (lv_at hl 1 rfl) ?_
    obtain ⟨v2, h_v2, hm⟩ := bd1_inv hm
    refine cVs ⟨hx, hb, hml, hown, hts⟩ (c_X10_capOf l D cI cJ cS cB a M_pasts M_typed M_ways M_z M_why M_rows M_wide M_column M_found M_s x1 v2 h_v2) (cwV 1 hts gX10_reason_X10_capOf rfl rfl rfl hd_X10_capOf ⟨(Nat.le_of_ble_eq_true rfl), (Nat.le_of_ble_eq_true rfl)⟩) hK hP hD hS hA [0, 1] rfl rfl rfl hl.1 (Nat.le_of_ble_eq_true rfl) ⟨Nat.zero_le _, Nat.zero_le _⟩ 0 rfl rfl rfl rfl dX10_reason_13 (fun H locs hP hD hS => ?_)
    refine lv_aload_n hx hb dX10_reason_16 rfl (lv_at hl 0 rfl) ?_
    refine lv_iload_n hx hb dX10_reason_17 rfl (lv_at hl 1 rfl) ?_
    obtain ⟨v3, h_v3, hm⟩ := bd1_inv hm
    refine cVs ⟨hx, hb, hml, hown, hts⟩ (c_X10_bridges l D cI cJ cS cB a M_pasts M_typed M_ways M_z M_why M_rows M_wide M_column M_found M_s x1 v3 h_v3) (cwV 1 hts gX10_reason_X10_bridges rfl rfl rfl hd_X10_bridges ⟨(Nat.le_of_ble_eq_true rfl), (Nat.le_of_ble_eq_true rfl)⟩) hK hP hD hS hA [0, 1] rfl rfl rfl hl.1 (Nat.le_of_ble_eq_true rfl) ⟨Nat.zero_le _, Nat.zero_le _⟩ 0 rfl rfl rfl rfl dX10_reason_18 (fun H locs hP hD hS => ?_)
    refine lv_icmp_ne (tgt := 26) hx hb dX10_reason_21 (by decide) (fun c21 => ?_) (fun c21 => ?_)
    · have hm := ine c21 hm
      refine lv_aload_n hx hb dX10_reason_26 rfl (lv_at hl 0 rfl) ?_
      refine lv_iload_n hx hb dX10_reason_27 rfl (lv_at hl 1 rfl) ?_
      refine lv_iconst (v := 1) hx hb dX10_reason_28 (by decide) ?_
      obtain ⟨v4, h_v4, hm⟩ := bd1_inv hm
      refine cVs ⟨hx, hb, hml, hown, hts⟩ (c_X10_crossings l D cI cJ cS cB a M_pasts M_typed M_ways M_z M_why M_rows M_wide M_column M_found M_s M_one M_other x1 1 N v4 h_v4) (cwV 2 hts gX10_reason_X10_crossings rfl rfl rfl hd_X10_crossings ⟨(Nat.le_of_ble_eq_true rfl), (Nat.le_of_ble_eq_true rfl)⟩) hK hP hD hS hA [0, 1, 2, 3] rfl rfl rfl hl.1 (Nat.le_of_ble_eq_true rfl) ⟨Nat.zero_le _, Nat.zero_le _⟩ 0 rfl rfl rfl rfl dX10_reason_29 (fun H locs hP hD hS => ?_)
      refine lv_if_le (tgt := 37) hx hb dX10_reason_32 (by decide) (fun c32 => ?_) (fun c32 => ?_)
      · have hm := ip c32 hm
        refine lv_aload_n hx hb dX10_reason_37 rfl (lv_at hl 0 rfl) ?_
        refine lv_aload_n hx hb dX10_reason_38 rfl (lv_at hl 0 rfl) ?_
        refine va_get (D := D) (ci := 10) (v := .ref (a 39)) (C := RX10) (T := TX10) (N := 17) hx hb hts hiX10 hown hK.1 hP 0 rfl rfl 6 (by decide) (hts (.fieldLink RX10 20 "IslandBridgesModel" "one" "[I") (List.mem_of_getElem? (i := 1) rfl)) (fun _ h9 => h9) rfl dX10_reason_39 ?_
        refine lv_iload_n hx hb dX10_reason_42 rfl (lv_at hl 1 rfl) ?_
        obtain ⟨v5, nv5, ev5, hm⟩ := rd_inv hm
        refine va_iald hx hb hK.1 hP 2 0 rfl rfl nv5 dX10_reason_43 ?_
        refine ltop ev5 ?_
        obtain ⟨v6, h_v6, hm⟩ := bd1_inv hm
        refine cVs ⟨hx, hb, hml, hown, hts⟩ (c_X10_lacks l D cI cJ cS cB a M_pasts M_typed M_ways M_z M_why M_rows M_wide M_column M_found M_s M_one M_other v5 N v6 h_v6) (cwV 1 hts gX10_reason_X10_lacks rfl rfl rfl hd_X10_lacks ⟨(Nat.le_of_ble_eq_true rfl), (Nat.le_of_ble_eq_true rfl)⟩) hK hP hD hS hA [0, 1, 2, 3] rfl rfl rfl hl.1 (Nat.le_of_ble_eq_true rfl) ⟨Nat.zero_le _, Nat.zero_le _⟩ 0 rfl rfl rfl rfl dX10_reason_44 (fun H locs hP hD hS => ?_)
        refine lv_if_le (tgt := 63) hx hb dX10_reason_47 (by decide) (fun c47 => ?_) (fun c47 => ?_)
        · have hm := ip c47 hm
          exact h63  hm _ _ hP hD hS ls (lv_sub hl [] rfl)
        · have hm := ine c47 hm
          refine lv_aload_n hx hb dX10_reason_50 rfl (lv_at hl 0 rfl) ?_
          refine lv_aload_n hx hb dX10_reason_51 rfl (lv_at hl 0 rfl) ?_
          refine va_get (D := D) (ci := 10) (v := .ref (a 40)) (C := RX10) (T := TX10) (N := 17) hx hb hts hiX10 hown hK.1 hP 0 rfl rfl 7 (by decide) (hts (.fieldLink RX10 23 "IslandBridgesModel" "other" "[I") (List.mem_of_getElem? (i := 2) rfl)) (fun _ h9 => h9) rfl dX10_reason_52 ?_
          refine lv_iload_n hx hb dX10_reason_55 rfl (lv_at hl 1 rfl) ?_
          obtain ⟨v7, nv7, ev7, hm⟩ := rd_inv hm
          refine va_iald hx hb hK.1 hP 3 0 rfl rfl nv7 dX10_reason_56 ?_
          refine ltop ev7 ?_
          obtain ⟨v8, h_v8, hm⟩ := bd1_inv hm
          refine cVs ⟨hx, hb, hml, hown, hts⟩ (c_X10_lacks l D cI cJ cS cB a M_pasts M_typed M_ways M_z M_why M_rows M_wide M_column M_found M_s M_one M_other v7 N v8 h_v8) (cwV 1 hts gX10_reason_X10_lacks rfl rfl rfl hd_X10_lacks ⟨(Nat.le_of_ble_eq_true rfl), (Nat.le_of_ble_eq_true rfl)⟩) hK hP hD hS hA [0, 1, 2, 3] rfl rfl rfl hl.1 (Nat.le_of_ble_eq_true rfl) ⟨Nat.zero_le _, Nat.zero_le _⟩ 0 rfl rfl rfl rfl dX10_reason_57 (fun H locs hP hD hS => ?_)
          refine lv_if_gt (tgt := 67) hx hb dX10_reason_60 (by decide) (fun c60 => ?_) (fun c60 => ?_)
          · have hm := ip c60 hm
            refine lv_iconst (v := 0) hx hb dX10_reason_67 (by decide) ?_
            cases hm
            exact rI () hx hb hr hlk hP hD hS dX10_reason_68
          · have hm := ine c60 hm
            exact h63  hm _ _ hP hD hS ls (lv_sub hl [] rfl)
      · have hm := ine c32 hm
        refine lv_iconst (v := 3) hx hb dX10_reason_35 (by decide) ?_
        cases hm
        exact rI () hx hb hr hlk hP hD hS dX10_reason_36
    · have hm := ip c21 hm
      refine lv_iconst (v := 2) hx hb dX10_reason_24 (by decide) ?_
      cases hm
      exact rI () hx hb hr hlk hP hD hS dX10_reason_25
  · have hm := ip c6 hm
    refine lv_iconst (v := 1) hx hb dX10_reason_9 (by decide) ?_
    cases hm
    exact rI () hx hb hr hlk hP hD hS dX10_reason_10
theorem hd_X10_at : yX10_at.cls = RX10 ∧ yX10_at.cls ≠ "java/lang/invoke/MethodHandle" ∧ yX10_at.cls ≠ "java/lang/invoke/VarHandle" ∧ (parseMethodDescriptor yX10_at.desc).map (fun d => d.parameters.length) = some 1 := by decide +kernel
def m_X10_at_j95 (rec18 : Int32 → Int32 → Option (Int32)) (y16 : Int32) (y17 : Int32) : Option (Int32) :=
  lt1 (y16 + 1) (fun v18 => rec18 y17 v18)
def m_X10_at_j94 (rec18 : Int32 → Int32 → Option (Int32)) (y14 : Int32) (y15 : Int32) : Option (Int32) :=
  m_X10_at_j95 rec18 y15 y14
def m_X10_at_j74 (M_s : Nat → Int32) (rec18 : Int32 → Int32 → Option (Int32)) (y11 : Int32) (y12 : Int32) (y13 : Int32) : Option (Int32) :=
  if y13 = 0 then (m_X10_at_j94 rec18 y11 y12) else (if y11 = 0 then (bd1 (m_X10_bridges M_s y12) (fun v19 => m_X10_at_j95 rec18 y12 (20 + v19))) else (m_X10_at_j94 rec18 y11 y12))
def m_X10_at_j48 (M_s : Nat → Int32) (M_one : Nat → Int32) (M_other : Nat → Int32) (rec18 : Int32 → Int32 → Option (Int32)) (y8 : Int32) (y9 : Int32) (y10 : Int32) : Option (Int32) :=
  if y10 = 0 then (m_X10_at_j74 M_s rec18 y8 y9 y10) else (bd1 (m_X10_isAcross M_s M_one M_other y9) (fun v20 => if v20 = 0 then (m_X10_at_j74 M_s rec18 y8 y9 y10) else (bd1 (m_X10_bridges M_s y9) (fun v21 => m_X10_at_j95 rec18 y9 (10 + v21)))))
def m_X10_at_j47 (M_s : Nat → Int32) (M_one : Nat → Int32) (M_other : Nat → Int32) (rec18 : Int32 → Int32 → Option (Int32)) (y6 : Int32) (y7 : Int32) : Option (Int32) :=
  m_X10_at_j48 M_s M_one M_other rec18 y6 y7 0
def m_X10_at_b18 (M_ways : Int32) (M_s : Nat → Int32) (M_one : Nat → Int32) (M_other : Nat → Int32) (x1 : Int32) (rec18 : Int32 → Int32 → Option (Int32)) (y3 : Int32) (y4 : Int32) : Option (Int32) :=
  if M_ways ≤ y4 then (some y3) else (bd1 (m_X10_bridges M_s y4) (fun v5 => if v5 ≤ 0 then (m_X10_at_j47 M_s M_one M_other rec18 y3 y4) else (bd1 (m_X10_isBetween M_s M_one M_other x1 y4) (fun v22 => if v22 = 0 then (m_X10_at_j47 M_s M_one M_other rec18 y3 y4) else (m_X10_at_j48 M_s M_one M_other rec18 y3 y4 1)))))
def m_X10_at (N : Nat) (M_ways : Int32) (M_s : Nat → Int32) (M_one : Nat → Int32) (M_other : Nat → Int32) (x1 : Int32) : Option (Int32) :=
  bd1 (m_X10_isCell M_s x1) (fun v1 => if v1 = 0 then (some ((-1))) else (bd1 (m_X10_number M_s x1) (fun v2 => zl2 (m_X10_at_b18 M_ways M_s M_one M_other x1) N v2 0)))
set_option maxHeartbeats 4000000 in
set_option maxRecDepth 100000 in
theorem c_X10_at (l : Launch) (D : va_G) (cI cJ cS cB : ClassId) (a : Nat → Nat) (M_pasts : Int32) (M_typed : Int32) (M_ways : Int32) (M_z : Int32) (M_why : Int32) (M_rows : Int32) (M_wide : Int32) (M_column : Int32) (M_found : Int32) (M_s : Nat → Int32) (M_one : Nat → Int32) (M_other : Nat → Int32) (x1 : Int32) (N : Nat) (r0 : Int32) (hm : m_X10_at N M_ways M_s M_one M_other x1 = some r0) :
    mU l D (TYs cI cJ cS cB) yX10_at wsX10_at { frames := 2, cells := 0, slots := 0, locals := 44 } [.ref (a 35), .int x1] [o_M a M_pasts M_typed M_ways M_z M_why M_rows M_wide M_column M_found, ai (a 36) cI 244 M_s, ai (a 39) cI 48 M_one, ai (a 40) cI 48 M_other] [o_M a M_pasts M_typed M_ways M_z M_why M_rows M_wide M_column M_found, ai (a 36) cI 244 M_s, ai (a 39) cI 48 M_one, ai (a 40) cI 48 M_other] (some (.int r0)) := by
  refine mG_of (cc := cX10_at) (maxL := 5) (ret := (some .int)) (by decide) rfl rfl (Nat.le_of_ble_eq_true rfl) ?_
  intro p e s m args below meth c A hx hb hr hml hlk hnm hts hown hK hP hD hA hS ls hl
  have hl : lv_has ls 5 [(0, .ref (a 35)), (1, .int x1)] := hl
  have hiX10 : ∀ w ∈ wsX100, w ∈ wsX10_at := fun w h => List.mem_cons_of_mem _ (List.mem_append_right _ h)
  unfold m_X10_at at hm
  have h18 : ∀ (n : Nat) (y3 : Int32) (y4 : Int32), zl2 (m_X10_at_b18 M_ways M_s M_one M_other x1) n y3 y4 = some r0 → ∀ (H : Heap) (locs : List Loc), va_P D vwCl [o_M a M_pasts M_typed M_ways M_z M_why M_rows M_wide M_column M_found, ai (a 36) cI 244 M_s, ai (a 39) cI 48 M_one, ai (a 40) cI 48 M_other] H → va_D A [o_M a M_pasts M_typed M_ways M_z M_why M_rows M_wide M_column M_found, ai (a 36) cI 244 M_s, ai (a 39) cI 48 M_one, ai (a 40) cI 48 M_other] → va_S A s.heap H locs → ∀ ls : Array Slot, lv_has ls 5 [(0, .ref (a 35)), (1, .int x1), (2, .int y3), (3, .int y4)] → W p l e { frames := 2, cells := 0, slots := 0, locals := 44 } s m args below meth c H locs 0 0 (MQ below (eQ D (some (.int r0)) (fun _ : Unit => [o_M a M_pasts M_typed M_ways M_z M_why M_rows M_wide M_column M_found, ai (a 36) cI 244 M_s, ai (a 39) cI 48 M_one, ai (a 40) cI 48 M_other]) A) args s 0 0 A) (F0 m 18 ls []) := by
    refine zl2_ind (fun rec18 ih18 y3 y4 hm => ?_)
    have h95 : ∀ (y16 : Int32) (y17 : Int32), m_X10_at_j95 rec18 y16 y17 = some r0 → ∀ (H : Heap) (locs : List Loc), va_P D vwCl [o_M a M_pasts M_typed M_ways M_z M_why M_rows M_wide M_column M_found, ai (a 36) cI 244 M_s, ai (a 39) cI 48 M_one, ai (a 40) cI 48 M_other] H → va_D A [o_M a M_pasts M_typed M_ways M_z M_why M_rows M_wide M_column M_found, ai (a 36) cI 244 M_s, ai (a 39) cI 48 M_one, ai (a 40) cI 48 M_other] → va_S A s.heap H locs → ∀ ls : Array Slot, lv_has ls 5 [(0, .ref (a 35)), (1, .int x1), (3, .int y16)] → W p l e { frames := 2, cells := 0, slots := 0, locals := 44 } s m args below meth c H locs 0 0 (MQ below (eQ D (some (.int r0)) (fun _ : Unit => [o_M a M_pasts M_typed M_ways M_z M_why M_rows M_wide M_column M_found, ai (a 36) cI 244 M_s, ai (a 39) cI 48 M_one, ai (a 40) cI 48 M_other]) A) args s 0 0 A) (F0 m 95 ls [.int y17]) := by
      intro y16 y17 hm H locs hP hD hS ls hl
      unfold m_X10_at_j95 at hm
      refine lv_istore_n (lv' := [(2, .int y17), (0, .ref (a 35)), (1, .int x1), (3, .int y16)]) hx hb dX10_at_95 rfl hl (by decide) rfl (fun ls hl => ?_)
      obtain ⟨v18, ev18, hm⟩ := lt1_inv hm
      refine lv_iinc (v := v18) (lv' := [(3, .int v18), (2, .int y17), (0, .ref (a 35)), (1, .int x1)]) hx hb dX10_at_96 hl (k := 3) rfl ev18 (by decide) rfl (fun ls hl => ?_)
      refine lv_goto (tgt := 18) hx hb dX10_at_99 (by decide) ?_
      exact ih18 y17 v18 hm _ _ hP hD hS ls (lv_sub hl [2, 3, 1, 0] rfl)
    have h94 : ∀ (y14 : Int32) (y15 : Int32), m_X10_at_j94 rec18 y14 y15 = some r0 → ∀ (H : Heap) (locs : List Loc), va_P D vwCl [o_M a M_pasts M_typed M_ways M_z M_why M_rows M_wide M_column M_found, ai (a 36) cI 244 M_s, ai (a 39) cI 48 M_one, ai (a 40) cI 48 M_other] H → va_D A [o_M a M_pasts M_typed M_ways M_z M_why M_rows M_wide M_column M_found, ai (a 36) cI 244 M_s, ai (a 39) cI 48 M_one, ai (a 40) cI 48 M_other] → va_S A s.heap H locs → ∀ ls : Array Slot, lv_has ls 5 [(0, .ref (a 35)), (1, .int x1), (2, .int y14), (3, .int y15)] → W p l e { frames := 2, cells := 0, slots := 0, locals := 44 } s m args below meth c H locs 0 0 (MQ below (eQ D (some (.int r0)) (fun _ : Unit => [o_M a M_pasts M_typed M_ways M_z M_why M_rows M_wide M_column M_found, ai (a 36) cI 244 M_s, ai (a 39) cI 48 M_one, ai (a 40) cI 48 M_other]) A) args s 0 0 A) (F0 m 94 ls []) := by
      intro y14 y15 hm H locs hP hD hS ls hl
      unfold m_X10_at_j94 at hm
      refine lv_iload_n hx hb dX10_at_94 rfl (lv_at hl 2 rfl) ?_
      exact h95 y15 y14 hm _ _ hP hD hS ls (lv_sub hl [0, 1, 3] rfl)
    have h74 : ∀ (y11 : Int32) (y12 : Int32) (y13 : Int32), m_X10_at_j74 M_s rec18 y11 y12 y13 = some r0 → ∀ (H : Heap) (locs : List Loc), va_P D vwCl [o_M a M_pasts M_typed M_ways M_z M_why M_rows M_wide M_column M_found, ai (a 36) cI 244 M_s, ai (a 39) cI 48 M_one, ai (a 40) cI 48 M_other] H → va_D A [o_M a M_pasts M_typed M_ways M_z M_why M_rows M_wide M_column M_found, ai (a 36) cI 244 M_s, ai (a 39) cI 48 M_one, ai (a 40) cI 48 M_other] → va_S A s.heap H locs → ∀ ls : Array Slot, lv_has ls 5 [(0, .ref (a 35)), (1, .int x1), (2, .int y11), (3, .int y12), (4, .int y13)] → W p l e { frames := 2, cells := 0, slots := 0, locals := 44 } s m args below meth c H locs 0 0 (MQ below (eQ D (some (.int r0)) (fun _ : Unit => [o_M a M_pasts M_typed M_ways M_z M_why M_rows M_wide M_column M_found, ai (a 36) cI 244 M_s, ai (a 39) cI 48 M_one, ai (a 40) cI 48 M_other]) A) args s 0 0 A) (F0 m 74 ls []) := by
      intro y11 y12 y13 hm H locs hP hD hS ls hl
      unfold m_X10_at_j74 at hm
      refine lv_iload hx hb dX10_at_74 (lv_at hl 4 rfl) ?_
      refine lv_if_eq (tgt := 94) hx hb dX10_at_76 (by decide) (fun c76 => ?_) (fun c76 => ?_)
      · have hm := ip c76 hm
        exact h94 y11 y12 hm _ _ hP hD hS ls (lv_sub hl [0, 1, 2, 3] rfl)
      · have hm := ine c76 hm
        refine lv_iload_n hx hb dX10_at_79 rfl (lv_at hl 2 rfl) ?_
        refine lv_if_ne (tgt := 94) hx hb dX10_at_80 (by decide) (fun c80 => ?_) (fun c80 => ?_)
        · have hm := ine c80 hm
          exact h94 y11 y12 hm _ _ hP hD hS ls (lv_sub hl [0, 1, 2, 3] rfl)
        · have hm := ip c80 hm
          refine lv_bipush (v := 20) hx hb dX10_at_83 (by decide) ?_
          refine lv_aload_n hx hb dX10_at_85 rfl (lv_at hl 0 rfl) ?_
          refine lv_iload_n hx hb dX10_at_86 rfl (lv_at hl 3 rfl) ?_
          obtain ⟨v19, h_v19, hm⟩ := bd1_inv hm
          refine cVs ⟨hx, hb, hml, hown, hts⟩ (c_X10_bridges l D cI cJ cS cB a M_pasts M_typed M_ways M_z M_why M_rows M_wide M_column M_found M_s y12 v19 h_v19) (cwV 1 hts gX10_at_X10_bridges rfl rfl rfl hd_X10_bridges ⟨(Nat.le_of_ble_eq_true rfl), (Nat.le_of_ble_eq_true rfl)⟩) hK hP hD hS hA [0, 1] rfl rfl rfl hl.1 (Nat.le_of_ble_eq_true rfl) ⟨Nat.zero_le _, Nat.zero_le _⟩ 0 rfl rfl rfl rfl dX10_at_87 (fun H locs hP hD hS => ?_)
          refine lv_iadd hx hb dX10_at_90 ?_
          refine lv_goto (tgt := 95) hx hb dX10_at_91 (by decide) ?_
          exact h95 y12 (20 + v19) hm _ _ hP hD hS ls (lv_sub hl [0, 1, 3] rfl)
    have h48 : ∀ (y8 : Int32) (y9 : Int32) (y10 : Int32), m_X10_at_j48 M_s M_one M_other rec18 y8 y9 y10 = some r0 → ∀ (H : Heap) (locs : List Loc), va_P D vwCl [o_M a M_pasts M_typed M_ways M_z M_why M_rows M_wide M_column M_found, ai (a 36) cI 244 M_s, ai (a 39) cI 48 M_one, ai (a 40) cI 48 M_other] H → va_D A [o_M a M_pasts M_typed M_ways M_z M_why M_rows M_wide M_column M_found, ai (a 36) cI 244 M_s, ai (a 39) cI 48 M_one, ai (a 40) cI 48 M_other] → va_S A s.heap H locs → ∀ ls : Array Slot, lv_has ls 5 [(0, .ref (a 35)), (1, .int x1), (2, .int y8), (3, .int y9)] → W p l e { frames := 2, cells := 0, slots := 0, locals := 44 } s m args below meth c H locs 0 0 (MQ below (eQ D (some (.int r0)) (fun _ : Unit => [o_M a M_pasts M_typed M_ways M_z M_why M_rows M_wide M_column M_found, ai (a 36) cI 244 M_s, ai (a 39) cI 48 M_one, ai (a 40) cI 48 M_other]) A) args s 0 0 A) (F0 m 48 ls [.int y10]) := by
      intro y8 y9 y10 hm H locs hP hD hS ls hl
      unfold m_X10_at_j48 at hm
      refine lv_istore (lv' := [(4, .int y10), (0, .ref (a 35)), (1, .int x1), (2, .int y8), (3, .int y9)]) hx hb dX10_at_48 hl (by decide) rfl (fun ls hl => ?_)
      refine lv_iload hx hb dX10_at_50 (lv_at hl 0 rfl) ?_
      refine lv_if_eq (tgt := 74) hx hb dX10_at_52 (by decide) (fun c52 => ?_) (fun c52 => ?_)
      · have hm := ip c52 hm
        exact h74 y8 y9 y10 hm _ _ hP hD hS ls (lv_sub hl [1, 2, 3, 4, 0] rfl)
      · have hm := ine c52 hm
        refine lv_aload_n hx hb dX10_at_55 rfl (lv_at hl 1 rfl) ?_
        refine lv_iload_n hx hb dX10_at_56 rfl (lv_at hl 4 rfl) ?_
        obtain ⟨v20, h_v20, hm⟩ := bd1_inv hm
        refine cVs ⟨hx, hb, hml, hown, hts⟩ (c_X10_isAcross l D cI cJ cS cB a M_pasts M_typed M_ways M_z M_why M_rows M_wide M_column M_found M_s M_one M_other y9 v20 h_v20) (cwV 1 hts gX10_at_X10_isAcross rfl rfl rfl hd_X10_isAcross ⟨(Nat.le_of_ble_eq_true rfl), (Nat.le_of_ble_eq_true rfl)⟩) hK hP hD hS hA [0, 1, 2, 3] rfl rfl rfl hl.1 (Nat.le_of_ble_eq_true rfl) ⟨Nat.zero_le _, Nat.zero_le _⟩ 0 rfl rfl rfl rfl dX10_at_57 (fun H locs hP hD hS => ?_)
        refine lv_if_eq (tgt := 74) hx hb dX10_at_60 (by decide) (fun c60 => ?_) (fun c60 => ?_)
        · have hm := ip c60 hm
          exact h74 y8 y9 y10 hm _ _ hP hD hS ls (lv_sub hl [1, 2, 3, 4, 0] rfl)
        · have hm := ine c60 hm
          refine lv_bipush (v := 10) hx hb dX10_at_63 (by decide) ?_
          refine lv_aload_n hx hb dX10_at_65 rfl (lv_at hl 1 rfl) ?_
          refine lv_iload_n hx hb dX10_at_66 rfl (lv_at hl 4 rfl) ?_
          obtain ⟨v21, h_v21, hm⟩ := bd1_inv hm
          refine cVs ⟨hx, hb, hml, hown, hts⟩ (c_X10_bridges l D cI cJ cS cB a M_pasts M_typed M_ways M_z M_why M_rows M_wide M_column M_found M_s y9 v21 h_v21) (cwV 1 hts gX10_at_X10_bridges rfl rfl rfl hd_X10_bridges ⟨(Nat.le_of_ble_eq_true rfl), (Nat.le_of_ble_eq_true rfl)⟩) hK hP hD hS hA [0, 1] rfl rfl rfl hl.1 (Nat.le_of_ble_eq_true rfl) ⟨Nat.zero_le _, Nat.zero_le _⟩ 0 rfl rfl rfl rfl dX10_at_67 (fun H locs hP hD hS => ?_)
          refine lv_iadd hx hb dX10_at_70 ?_
          refine lv_goto (tgt := 95) hx hb dX10_at_71 (by decide) ?_
          exact h95 y9 (10 + v21) hm _ _ hP hD hS ls (lv_sub hl [1, 2, 4] rfl)
    have h47 : ∀ (y6 : Int32) (y7 : Int32), m_X10_at_j47 M_s M_one M_other rec18 y6 y7 = some r0 → ∀ (H : Heap) (locs : List Loc), va_P D vwCl [o_M a M_pasts M_typed M_ways M_z M_why M_rows M_wide M_column M_found, ai (a 36) cI 244 M_s, ai (a 39) cI 48 M_one, ai (a 40) cI 48 M_other] H → va_D A [o_M a M_pasts M_typed M_ways M_z M_why M_rows M_wide M_column M_found, ai (a 36) cI 244 M_s, ai (a 39) cI 48 M_one, ai (a 40) cI 48 M_other] → va_S A s.heap H locs → ∀ ls : Array Slot, lv_has ls 5 [(0, .ref (a 35)), (1, .int x1), (2, .int y6), (3, .int y7)] → W p l e { frames := 2, cells := 0, slots := 0, locals := 44 } s m args below meth c H locs 0 0 (MQ below (eQ D (some (.int r0)) (fun _ : Unit => [o_M a M_pasts M_typed M_ways M_z M_why M_rows M_wide M_column M_found, ai (a 36) cI 244 M_s, ai (a 39) cI 48 M_one, ai (a 40) cI 48 M_other]) A) args s 0 0 A) (F0 m 47 ls []) := by
      intro y6 y7 hm H locs hP hD hS ls hl
      unfold m_X10_at_j47 at hm
      refine lv_iconst (v := 0) hx hb dX10_at_47 (by decide) ?_
      exact h48 y6 y7 0 hm _ _ hP hD hS ls (lv_sub hl [0, 1, 2, 3] rfl)
    intro H locs hP hD hS ls hl
    unfold m_X10_at_b18 at hm
    refine lv_iload_n hx hb dX10_at_18 rfl (lv_at hl 3 rfl) ?_
    refine lv_aload_n hx hb dX10_at_19 rfl (lv_at hl 0 rfl) ?_
    refine va_get (D := D) (ci := 10) (v := .int M_ways) (C := RX10) (T := TX10) (N := 17) hx hb hts hiX10 hown hK.1 hP 0 rfl rfl 5 (by decide) (hts (.fieldLink RX10 54 "IslandBridgesModel" "ways" "I") (List.mem_of_getElem? (i := 1) rfl)) (fun _ h9 => h9) rfl dX10_at_20 ?_
    refine lv_icmp_ge (tgt := 102) hx hb dX10_at_23 (by decide) (fun c23 => ?_) (fun c23 => ?_)
    · have hm := ip c23 hm
      refine lv_iload_n hx hb dX10_at_102 rfl (lv_at hl 2 rfl) ?_
      cases hm
      exact rI () hx hb hr hlk hP hD hS dX10_at_103
    · have hm := ine c23 hm
      refine lv_aload_n hx hb dX10_at_26 rfl (lv_at hl 0 rfl) ?_
      refine lv_iload_n hx hb dX10_at_27 rfl (lv_at hl 3 rfl) ?_
      obtain ⟨v5, h_v5, hm⟩ := bd1_inv hm
      refine cVs ⟨hx, hb, hml, hown, hts⟩ (c_X10_bridges l D cI cJ cS cB a M_pasts M_typed M_ways M_z M_why M_rows M_wide M_column M_found M_s y4 v5 h_v5) (cwV 1 hts gX10_at_X10_bridges rfl rfl rfl hd_X10_bridges ⟨(Nat.le_of_ble_eq_true rfl), (Nat.le_of_ble_eq_true rfl)⟩) hK hP hD hS hA [0, 1] rfl rfl rfl hl.1 (Nat.le_of_ble_eq_true rfl) ⟨Nat.zero_le _, Nat.zero_le _⟩ 0 rfl rfl rfl rfl dX10_at_28 (fun H locs hP hD hS => ?_)
      refine lv_if_le (tgt := 47) hx hb dX10_at_31 (by decide) (fun c31 => ?_) (fun c31 => ?_)
      · have hm := ip c31 hm
        exact h47 y3 y4 hm _ _ hP hD hS ls (lv_sub hl [0, 1, 2, 3] rfl)
      · have hm := ine c31 hm
        refine lv_aload_n hx hb dX10_at_34 rfl (lv_at hl 0 rfl) ?_
        refine lv_iload_n hx hb dX10_at_35 rfl (lv_at hl 1 rfl) ?_
        refine lv_iload_n hx hb dX10_at_36 rfl (lv_at hl 3 rfl) ?_
        obtain ⟨v22, h_v22, hm⟩ := bd1_inv hm
        refine cVs ⟨hx, hb, hml, hown, hts⟩ (c_X10_isBetween l D cI cJ cS cB a M_pasts M_typed M_ways M_z M_why M_rows M_wide M_column M_found M_s M_one M_other x1 y4 v22 h_v22) (cwV 2 hts gX10_at_X10_isBetween rfl rfl rfl hd_X10_isBetween ⟨(Nat.le_of_ble_eq_true rfl), (Nat.le_of_ble_eq_true rfl)⟩) hK hP hD hS hA [0, 1, 2, 3] rfl rfl rfl hl.1 (Nat.le_of_ble_eq_true rfl) ⟨Nat.zero_le _, Nat.zero_le _⟩ 0 rfl rfl rfl rfl dX10_at_37 (fun H locs hP hD hS => ?_)
        refine lv_if_eq (tgt := 47) hx hb dX10_at_40 (by decide) (fun c40 => ?_) (fun c40 => ?_)
        · have hm := ip c40 hm
          exact h47 y3 y4 hm _ _ hP hD hS ls (lv_sub hl [0, 1, 2, 3] rfl)
        · have hm := ine c40 hm
          refine lv_iconst (v := 1) hx hb dX10_at_43 (by decide) ?_
          refine lv_goto (tgt := 48) hx hb dX10_at_44 (by decide) ?_
          exact h48 y3 y4 1 hm _ _ hP hD hS ls (lv_sub hl [0, 1, 2, 3] rfl)
  refine lv_aload_n hx hb dX10_at_0 rfl (lv_at hl 0 rfl) ?_
  refine lv_iload_n hx hb dX10_at_1 rfl (lv_at hl 1 rfl) ?_
  obtain ⟨v1, h_v1, hm⟩ := bd1_inv hm
  refine cVs ⟨hx, hb, hml, hown, hts⟩ (c_X10_isCell l D cI cJ cS cB a M_pasts M_typed M_ways M_z M_why M_rows M_wide M_column M_found M_s x1 v1 h_v1) (cwV 1 hts gX10_at_X10_isCell rfl rfl rfl hd_X10_isCell ⟨(Nat.le_of_ble_eq_true rfl), (Nat.le_of_ble_eq_true rfl)⟩) hK hP hD hS hA [0, 1] rfl rfl rfl hl.1 (Nat.le_of_ble_eq_true rfl) ⟨Nat.zero_le _, Nat.zero_le _⟩ 0 rfl rfl rfl rfl dX10_at_2 (fun H locs hP hD hS => ?_)
  refine lv_if_ne (tgt := 10) hx hb dX10_at_5 (by decide) (fun c5 => ?_) (fun c5 => ?_)
  · have hm := ine c5 hm
    refine lv_aload_n hx hb dX10_at_10 rfl (lv_at hl 0 rfl) ?_
    refine lv_iload_n hx hb dX10_at_11 rfl (lv_at hl 1 rfl) ?_
    obtain ⟨v2, h_v2, hm⟩ := bd1_inv hm
    refine cVs ⟨hx, hb, hml, hown, hts⟩ (c_X10_number l D cI cJ cS cB a M_pasts M_typed M_ways M_z M_why M_rows M_wide M_column M_found M_s x1 v2 h_v2) (cwV 1 hts gX10_at_X10_number rfl rfl rfl hd_X10_number ⟨(Nat.le_of_ble_eq_true rfl), (Nat.le_of_ble_eq_true rfl)⟩) hK hP hD hS hA [0, 1] rfl rfl rfl hl.1 (Nat.le_of_ble_eq_true rfl) ⟨Nat.zero_le _, Nat.zero_le _⟩ 0 rfl rfl rfl rfl dX10_at_12 (fun H locs hP hD hS => ?_)
    refine lv_istore_n (lv' := [(2, .int v2), (0, .ref (a 35)), (1, .int x1)]) hx hb dX10_at_15 rfl hl (by decide) rfl (fun ls hl => ?_)
    refine lv_iconst (v := 0) hx hb dX10_at_16 (by decide) ?_
    refine lv_istore_n (lv' := [(3, .int 0), (2, .int v2), (0, .ref (a 35)), (1, .int x1)]) hx hb dX10_at_17 rfl hl (by decide) rfl (fun ls hl => ?_)
    exact h18  N v2 0 hm _ _ hP hD hS ls (lv_sub hl [2, 3, 1, 0] rfl)
  · have hm := ip c5 hm
    refine lv_iconst (v := (-1)) hx hb dX10_at_8 (by decide) ?_
    cases hm
    exact rI () hx hb hr hlk hP hD hS dX10_at_9
theorem hd_X10_waysOf : yX10_waysOf.cls = RX10 ∧ yX10_waysOf.cls ≠ "java/lang/invoke/MethodHandle" ∧ yX10_waysOf.cls ≠ "java/lang/invoke/VarHandle" ∧ (parseMethodDescriptor yX10_waysOf.desc).map (fun d => d.parameters.length) = some 1 := by decide +kernel
def m_X10_waysOf_j27 (rec4 : Int32 → Int32 → Option (Int32)) (y4 : Int32) (y5 : Int32) (y6 : Int32) : Option (Int32) :=
  lt1 (y5 + y6) (fun v7 => lt1 (y4 + 1) (fun v8 => rec4 v7 v8))
def m_X10_waysOf_b4 (M_ways : Int32) (M_one : Nat → Int32) (M_other : Nat → Int32) (x1 : Int32) (rec4 : Int32 → Int32 → Option (Int32)) (y1 : Int32) (y2 : Int32) : Option (Int32) :=
  if M_ways ≤ y2 then (some y1) else (bd1 (m_X10_isOf M_one M_other y2 x1) (fun v3 => if v3 = 0 then (m_X10_waysOf_j27 rec4 y2 y1 0) else (m_X10_waysOf_j27 rec4 y2 y1 1)))
def m_X10_waysOf (N : Nat) (M_ways : Int32) (M_one : Nat → Int32) (M_other : Nat → Int32) (x1 : Int32) : Option (Int32) :=
  zl2 (m_X10_waysOf_b4 M_ways M_one M_other x1) N 0 0
set_option maxHeartbeats 4000000 in
set_option maxRecDepth 100000 in
theorem c_X10_waysOf (l : Launch) (D : va_G) (cI cJ cS cB : ClassId) (a : Nat → Nat) (M_pasts : Int32) (M_typed : Int32) (M_ways : Int32) (M_z : Int32) (M_why : Int32) (M_rows : Int32) (M_wide : Int32) (M_column : Int32) (M_found : Int32) (M_one : Nat → Int32) (M_other : Nat → Int32) (x1 : Int32) (N : Nat) (r0 : Int32) (hm : m_X10_waysOf N M_ways M_one M_other x1 = some r0) :
    mU l D (TYs cI cJ cS cB) yX10_waysOf wsX10_waysOf { frames := 1, cells := 0, slots := 0, locals := 22 } [.ref (a 35), .int x1] [o_M a M_pasts M_typed M_ways M_z M_why M_rows M_wide M_column M_found, ai (a 39) cI 48 M_one, ai (a 40) cI 48 M_other] [o_M a M_pasts M_typed M_ways M_z M_why M_rows M_wide M_column M_found, ai (a 39) cI 48 M_one, ai (a 40) cI 48 M_other] (some (.int r0)) := by
  refine mG_of (cc := cX10_waysOf) (maxL := 4) (ret := (some .int)) (by decide) rfl rfl (Nat.le_of_ble_eq_true rfl) ?_
  intro p e s m args below meth c A hx hb hr hml hlk hnm hts hown hK hP hD hA hS ls hl
  have hl : lv_has ls 4 [(0, .ref (a 35)), (1, .int x1)] := hl
  have hiX10 : ∀ w ∈ wsX100, w ∈ wsX10_waysOf := fun w h => List.mem_cons_of_mem _ (List.mem_append_right _ h)
  unfold m_X10_waysOf at hm
  have h4 : ∀ (n : Nat) (y1 : Int32) (y2 : Int32), zl2 (m_X10_waysOf_b4 M_ways M_one M_other x1) n y1 y2 = some r0 → ∀ (H : Heap) (locs : List Loc), va_P D vwCl [o_M a M_pasts M_typed M_ways M_z M_why M_rows M_wide M_column M_found, ai (a 39) cI 48 M_one, ai (a 40) cI 48 M_other] H → va_D A [o_M a M_pasts M_typed M_ways M_z M_why M_rows M_wide M_column M_found, ai (a 39) cI 48 M_one, ai (a 40) cI 48 M_other] → va_S A s.heap H locs → ∀ ls : Array Slot, lv_has ls 4 [(0, .ref (a 35)), (1, .int x1), (2, .int y1), (3, .int y2)] → W p l e { frames := 1, cells := 0, slots := 0, locals := 22 } s m args below meth c H locs 0 0 (MQ below (eQ D (some (.int r0)) (fun _ : Unit => [o_M a M_pasts M_typed M_ways M_z M_why M_rows M_wide M_column M_found, ai (a 39) cI 48 M_one, ai (a 40) cI 48 M_other]) A) args s 0 0 A) (F0 m 4 ls []) := by
    refine zl2_ind (fun rec4 ih4 y1 y2 hm => ?_)
    have h27 : ∀ (y4 : Int32) (y5 : Int32) (y6 : Int32), m_X10_waysOf_j27 rec4 y4 y5 y6 = some r0 → ∀ (H : Heap) (locs : List Loc), va_P D vwCl [o_M a M_pasts M_typed M_ways M_z M_why M_rows M_wide M_column M_found, ai (a 39) cI 48 M_one, ai (a 40) cI 48 M_other] H → va_D A [o_M a M_pasts M_typed M_ways M_z M_why M_rows M_wide M_column M_found, ai (a 39) cI 48 M_one, ai (a 40) cI 48 M_other] → va_S A s.heap H locs → ∀ ls : Array Slot, lv_has ls 4 [(0, .ref (a 35)), (1, .int x1), (3, .int y4)] → W p l e { frames := 1, cells := 0, slots := 0, locals := 22 } s m args below meth c H locs 0 0 (MQ below (eQ D (some (.int r0)) (fun _ : Unit => [o_M a M_pasts M_typed M_ways M_z M_why M_rows M_wide M_column M_found, ai (a 39) cI 48 M_one, ai (a 40) cI 48 M_other]) A) args s 0 0 A) (F0 m 27 ls [.int y6, .int y5]) := by
      intro y4 y5 y6 hm H locs hP hD hS ls hl
      unfold m_X10_waysOf_j27 at hm
      refine lv_iadd hx hb dX10_waysOf_27 ?_
      obtain ⟨v7, ev7, hm⟩ := lt1_inv hm
      refine ltop ev7 ?_
      refine lv_istore_n (lv' := [(2, .int v7), (0, .ref (a 35)), (1, .int x1), (3, .int y4)]) hx hb dX10_waysOf_28 rfl hl (by decide) rfl (fun ls hl => ?_)
      obtain ⟨v8, ev8, hm⟩ := lt1_inv hm
      refine lv_iinc (v := v8) (lv' := [(3, .int v8), (2, .int v7), (0, .ref (a 35)), (1, .int x1)]) hx hb dX10_waysOf_29 hl (k := 3) rfl ev8 (by decide) rfl (fun ls hl => ?_)
      refine lv_goto (tgt := 4) hx hb dX10_waysOf_32 (by decide) ?_
      exact ih4 v7 v8 hm _ _ hP hD hS ls (lv_sub hl [2, 3, 1, 0] rfl)
    intro H locs hP hD hS ls hl
    unfold m_X10_waysOf_b4 at hm
    refine lv_iload_n hx hb dX10_waysOf_4 rfl (lv_at hl 3 rfl) ?_
    refine lv_aload_n hx hb dX10_waysOf_5 rfl (lv_at hl 0 rfl) ?_
    refine va_get (D := D) (ci := 10) (v := .int M_ways) (C := RX10) (T := TX10) (N := 17) hx hb hts hiX10 hown hK.1 hP 0 rfl rfl 5 (by decide) (hts (.fieldLink RX10 54 "IslandBridgesModel" "ways" "I") (List.mem_of_getElem? (i := 1) rfl)) (fun _ h9 => h9) rfl dX10_waysOf_6 ?_
    refine lv_icmp_ge (tgt := 35) hx hb dX10_waysOf_9 (by decide) (fun c9 => ?_) (fun c9 => ?_)
    · have hm := ip c9 hm
      refine lv_iload_n hx hb dX10_waysOf_35 rfl (lv_at hl 2 rfl) ?_
      cases hm
      exact rI () hx hb hr hlk hP hD hS dX10_waysOf_36
    · have hm := ine c9 hm
      refine lv_iload_n hx hb dX10_waysOf_12 rfl (lv_at hl 2 rfl) ?_
      refine lv_aload_n hx hb dX10_waysOf_13 rfl (lv_at hl 0 rfl) ?_
      refine lv_iload_n hx hb dX10_waysOf_14 rfl (lv_at hl 3 rfl) ?_
      refine lv_iload_n hx hb dX10_waysOf_15 rfl (lv_at hl 1 rfl) ?_
      obtain ⟨v3, h_v3, hm⟩ := bd1_inv hm
      refine cVs ⟨hx, hb, hml, hown, hts⟩ (c_X10_isOf l D cI cJ cS cB a M_pasts M_typed M_ways M_z M_why M_rows M_wide M_column M_found M_one M_other y2 x1 v3 h_v3) (cwV 2 hts gX10_waysOf_X10_isOf rfl rfl rfl hd_X10_isOf ⟨(Nat.le_of_ble_eq_true rfl), (Nat.le_of_ble_eq_true rfl)⟩) hK hP hD hS hA [0, 1, 2] rfl rfl rfl hl.1 (Nat.le_of_ble_eq_true rfl) ⟨Nat.zero_le _, Nat.zero_le _⟩ 0 rfl rfl rfl rfl dX10_waysOf_16 (fun H locs hP hD hS => ?_)
      refine lv_if_eq (tgt := 26) hx hb dX10_waysOf_19 (by decide) (fun c19 => ?_) (fun c19 => ?_)
      · have hm := ip c19 hm
        refine lv_iconst (v := 0) hx hb dX10_waysOf_26 (by decide) ?_
        exact h27 y2 y1 0 hm _ _ hP hD hS ls (lv_sub hl [0, 1, 3] rfl)
      · have hm := ine c19 hm
        refine lv_iconst (v := 1) hx hb dX10_waysOf_22 (by decide) ?_
        refine lv_goto (tgt := 27) hx hb dX10_waysOf_23 (by decide) ?_
        exact h27 y2 y1 1 hm _ _ hP hD hS ls (lv_sub hl [0, 1, 3] rfl)
  refine lv_iconst (v := 0) hx hb dX10_waysOf_0 (by decide) ?_
  refine lv_istore_n (lv' := [(2, .int 0), (0, .ref (a 35)), (1, .int x1)]) hx hb dX10_waysOf_1 rfl hl (by decide) rfl (fun ls hl => ?_)
  refine lv_iconst (v := 0) hx hb dX10_waysOf_2 (by decide) ?_
  refine lv_istore_n (lv' := [(3, .int 0), (2, .int 0), (0, .ref (a 35)), (1, .int x1)]) hx hb dX10_waysOf_3 rfl hl (by decide) rfl (fun ls hl => ?_)
  exact h4  N 0 0 hm _ _ hP hD hS ls (lv_sub hl [2, 3, 1, 0] rfl)
theorem hd_X10_islandInfo : yX10_islandInfo.cls = RX10 ∧ yX10_islandInfo.cls ≠ "java/lang/invoke/MethodHandle" ∧ yX10_islandInfo.cls ≠ "java/lang/invoke/VarHandle" ∧ (parseMethodDescriptor yX10_islandInfo.desc).map (fun d => d.parameters.length) = some 2 := by decide +kernel
def m_X10_islandInfo (N : Nat) (M_ways : Int32) (M_s : Nat → Int32) (M_one : Nat → Int32) (M_other : Nat → Int32) (M_group : Nat → Int32) (x1 : Int32) (x2 : Int32) : Option (Int32 × (Nat → Int32)) :=
  bd1 (m_X10_isCell M_s x1) (fun v1 => if v1 = 0 then (some (((-1), M_group))) else (lt1 (m_X10_in x2 0 5) (fun v2 => if v2 = 0 then (some (((-1), M_group))) else (bd1 (m_X10_number M_s x1) (fun v3 => if v3 = 0 then (some (((-4), M_group))) else (if x2 = 0 then (bd1 (m_X10_number M_s x1) (fun v4 => some ((v4, M_group)))) else (if x2 = 1 then (bd1 (m_X10_bridgesOf N M_ways M_s M_one M_other x1) (fun v5 => some ((v5, M_group)))) else (if x2 = 2 then (bd1 (m_X10_lacks N M_ways M_s M_one M_other x1) (fun v6 => some ((v6, M_group)))) else (if x2 = 3 then (bd1 (m_X10_waysOf N M_ways M_one M_other x1) (fun v7 => some ((v7, M_group)))) else (if x2 = 4 then (bd1 (m_X10_capsOf N M_ways M_s M_one M_other x1) (fun v8 => some ((v8, M_group)))) else (bd1 (m_X10_findGroups N M_ways M_s M_one M_other M_group) (fun v9 => rd 144 v9 x1 (fun v10 => bd1 (m_X10_groupsBelow N M_s v9 v10) (fun v11 => some ((v11, v9))))))))))))))))
set_option maxHeartbeats 4000000 in
set_option maxRecDepth 100000 in
theorem c_X10_islandInfo (l : Launch) (D : va_G) (cI cJ cS cB : ClassId) (a : Nat → Nat) (M_pasts : Int32) (M_typed : Int32) (M_ways : Int32) (M_z : Int32) (M_why : Int32) (M_rows : Int32) (M_wide : Int32) (M_column : Int32) (M_found : Int32) (M_s : Nat → Int32) (M_one : Nat → Int32) (M_other : Nat → Int32) (M_group : Nat → Int32) (x1 : Int32) (x2 : Int32) (N : Nat) (r0 : Int32) (M_group' : Nat → Int32) (hm : m_X10_islandInfo N M_ways M_s M_one M_other M_group x1 x2 = some (r0, M_group')) :
    mU l D (TYs cI cJ cS cB) yX10_islandInfo wsX10_islandInfo { frames := 3, cells := 0, slots := 0, locals := 66 } [.ref (a 35), .int x1, .int x2] [o_M a M_pasts M_typed M_ways M_z M_why M_rows M_wide M_column M_found, ai (a 36) cI 244 M_s, ai (a 39) cI 48 M_one, ai (a 40) cI 48 M_other, ai (a 41) cI 144 M_group] [o_M a M_pasts M_typed M_ways M_z M_why M_rows M_wide M_column M_found, ai (a 36) cI 244 M_s, ai (a 39) cI 48 M_one, ai (a 40) cI 48 M_other, ai (a 41) cI 144 M_group'] (some (.int r0)) := by
  refine mG_of (cc := cX10_islandInfo) (maxL := 3) (ret := (some .int)) (by decide) rfl rfl (Nat.le_of_ble_eq_true rfl) ?_
  intro p e s m args below meth c A hx hb hr hml hlk hnm hts hown hK hP hD hA hS ls hl
  have hl : lv_has ls 3 [(0, .ref (a 35)), (1, .int x1), (2, .int x2)] := hl
  have hiX10 : ∀ w ∈ wsX100, w ∈ wsX10_islandInfo := fun w h => List.mem_cons_of_mem _ (List.mem_append_right _ h)
  unfold m_X10_islandInfo at hm
  refine lv_aload_n hx hb dX10_islandInfo_0 rfl (lv_at hl 0 rfl) ?_
  refine lv_iload_n hx hb dX10_islandInfo_1 rfl (lv_at hl 1 rfl) ?_
  obtain ⟨v1, h_v1, hm⟩ := bd1_inv hm
  refine cVs ⟨hx, hb, hml, hown, hts⟩ (c_X10_isCell l D cI cJ cS cB a M_pasts M_typed M_ways M_z M_why M_rows M_wide M_column M_found M_s x1 v1 h_v1) (cwV 1 hts gX10_islandInfo_X10_isCell rfl rfl rfl hd_X10_isCell ⟨(Nat.le_of_ble_eq_true rfl), (Nat.le_of_ble_eq_true rfl)⟩) hK hP hD hS hA [0, 1] rfl rfl rfl hl.1 (Nat.le_of_ble_eq_true rfl) ⟨Nat.zero_le _, Nat.zero_le _⟩ 0 rfl rfl rfl rfl dX10_islandInfo_2 (fun H locs hP hD hS => ?_)
  refine lv_if_eq (tgt := 17) hx hb dX10_islandInfo_5 (by decide) (fun c5 => ?_) (fun c5 => ?_)
  · have hm := ip c5 hm
    refine lv_iconst (v := (-1)) hx hb dX10_islandInfo_17 (by decide) ?_
    cases hm
    exact rI () hx hb hr hlk hP hD hS dX10_islandInfo_18
  · have hm := ine c5 hm
    refine lv_iload_n hx hb dX10_islandInfo_8 rfl (lv_at hl 2 rfl) ?_
    refine lv_iconst (v := 0) hx hb dX10_islandInfo_9 (by decide) ?_
    refine lv_iconst (v := 5) hx hb dX10_islandInfo_10 (by decide) ?_
    obtain ⟨v2, h_v2, hm⟩ := lt1_inv hm
    refine cSs ⟨hx, hb, hml, hown, hts⟩ (c_X10_in l D cI cJ cS cB a  x2 0 5 v2 h_v2) (va_cwS 3 hts gX10_islandInfo_X10_in rfl rfl rfl hd_X10_in ⟨(Nat.le_of_ble_eq_true rfl), (Nat.le_of_ble_eq_true rfl)⟩) hK hP hD hS hA [] rfl rfl rfl hl.1 (Nat.le_of_ble_eq_true rfl) ⟨Nat.zero_le _, Nat.zero_le _⟩ rfl dX10_islandInfo_11 (fun H locs hP hD hS => ?_)
    refine lv_if_ne (tgt := 19) hx hb dX10_islandInfo_14 (by decide) (fun c14 => ?_) (fun c14 => ?_)
    · have hm := ine c14 hm
      refine lv_aload_n hx hb dX10_islandInfo_19 rfl (lv_at hl 0 rfl) ?_
      refine lv_iload_n hx hb dX10_islandInfo_20 rfl (lv_at hl 1 rfl) ?_
      obtain ⟨v3, h_v3, hm⟩ := bd1_inv hm
      refine cVs ⟨hx, hb, hml, hown, hts⟩ (c_X10_number l D cI cJ cS cB a M_pasts M_typed M_ways M_z M_why M_rows M_wide M_column M_found M_s x1 v3 h_v3) (cwV 1 hts gX10_islandInfo_X10_number rfl rfl rfl hd_X10_number ⟨(Nat.le_of_ble_eq_true rfl), (Nat.le_of_ble_eq_true rfl)⟩) hK hP hD hS hA [0, 1] rfl rfl rfl hl.1 (Nat.le_of_ble_eq_true rfl) ⟨Nat.zero_le _, Nat.zero_le _⟩ 0 rfl rfl rfl rfl dX10_islandInfo_21 (fun H locs hP hD hS => ?_)
      refine lv_if_ne (tgt := 30) hx hb dX10_islandInfo_24 (by decide) (fun c24 => ?_) (fun c24 => ?_)
      · have hm := ine c24 hm
        refine lv_iload_n hx hb dX10_islandInfo_30 rfl (lv_at hl 2 rfl) ?_
        by_cases q31_0 : x2 = 0
        · have hm := ip q31_0 hm
          refine lv_tableIn (off := 33) (tgt := 64) hx hb dX10_islandInfo_31 (by rw [q31_0]; decide) (by rw [q31_0]; decide) (by rw [q31_0]; rfl) (by decide) ?_
          refine lv_aload_n hx hb dX10_islandInfo_64 rfl (lv_at hl 0 rfl) ?_
          refine lv_iload_n hx hb dX10_islandInfo_65 rfl (lv_at hl 1 rfl) ?_
          obtain ⟨v4, h_v4, hm⟩ := bd1_inv hm
          refine cVs ⟨hx, hb, hml, hown, hts⟩ (c_X10_number l D cI cJ cS cB a M_pasts M_typed M_ways M_z M_why M_rows M_wide M_column M_found M_s x1 v4 h_v4) (cwV 1 hts gX10_islandInfo_X10_number rfl rfl rfl hd_X10_number ⟨(Nat.le_of_ble_eq_true rfl), (Nat.le_of_ble_eq_true rfl)⟩) hK hP hD hS hA [0, 1] rfl rfl rfl hl.1 (Nat.le_of_ble_eq_true rfl) ⟨Nat.zero_le _, Nat.zero_le _⟩ 0 rfl rfl rfl rfl dX10_islandInfo_66 (fun H locs hP hD hS => ?_)
          cases hm
          exact rI () hx hb hr hlk hP hD hS dX10_islandInfo_69
        have hm := ine q31_0 hm
        by_cases q31_1 : x2 = 1
        · have hm := ip q31_1 hm
          refine lv_tableIn (off := 39) (tgt := 70) hx hb dX10_islandInfo_31 (by rw [q31_1]; decide) (by rw [q31_1]; decide) (by rw [q31_1]; rfl) (by decide) ?_
          refine lv_aload_n hx hb dX10_islandInfo_70 rfl (lv_at hl 0 rfl) ?_
          refine lv_iload_n hx hb dX10_islandInfo_71 rfl (lv_at hl 1 rfl) ?_
          obtain ⟨v5, h_v5, hm⟩ := bd1_inv hm
          refine cVs ⟨hx, hb, hml, hown, hts⟩ (c_X10_bridgesOf l D cI cJ cS cB a M_pasts M_typed M_ways M_z M_why M_rows M_wide M_column M_found M_s M_one M_other x1 N v5 h_v5) (cwV 1 hts gX10_islandInfo_X10_bridgesOf rfl rfl rfl hd_X10_bridgesOf ⟨(Nat.le_of_ble_eq_true rfl), (Nat.le_of_ble_eq_true rfl)⟩) hK hP hD hS hA [0, 1, 2, 3] rfl rfl rfl hl.1 (Nat.le_of_ble_eq_true rfl) ⟨Nat.zero_le _, Nat.zero_le _⟩ 0 rfl rfl rfl rfl dX10_islandInfo_72 (fun H locs hP hD hS => ?_)
          cases hm
          exact rI () hx hb hr hlk hP hD hS dX10_islandInfo_75
        have hm := ine q31_1 hm
        by_cases q31_2 : x2 = 2
        · have hm := ip q31_2 hm
          refine lv_tableIn (off := 45) (tgt := 76) hx hb dX10_islandInfo_31 (by rw [q31_2]; decide) (by rw [q31_2]; decide) (by rw [q31_2]; rfl) (by decide) ?_
          refine lv_aload_n hx hb dX10_islandInfo_76 rfl (lv_at hl 0 rfl) ?_
          refine lv_iload_n hx hb dX10_islandInfo_77 rfl (lv_at hl 1 rfl) ?_
          obtain ⟨v6, h_v6, hm⟩ := bd1_inv hm
          refine cVs ⟨hx, hb, hml, hown, hts⟩ (c_X10_lacks l D cI cJ cS cB a M_pasts M_typed M_ways M_z M_why M_rows M_wide M_column M_found M_s M_one M_other x1 N v6 h_v6) (cwV 1 hts gX10_islandInfo_X10_lacks rfl rfl rfl hd_X10_lacks ⟨(Nat.le_of_ble_eq_true rfl), (Nat.le_of_ble_eq_true rfl)⟩) hK hP hD hS hA [0, 1, 2, 3] rfl rfl rfl hl.1 (Nat.le_of_ble_eq_true rfl) ⟨Nat.zero_le _, Nat.zero_le _⟩ 0 rfl rfl rfl rfl dX10_islandInfo_78 (fun H locs hP hD hS => ?_)
          cases hm
          exact rI () hx hb hr hlk hP hD hS dX10_islandInfo_81
        have hm := ine q31_2 hm
        by_cases q31_3 : x2 = 3
        · have hm := ip q31_3 hm
          refine lv_tableIn (off := 51) (tgt := 82) hx hb dX10_islandInfo_31 (by rw [q31_3]; decide) (by rw [q31_3]; decide) (by rw [q31_3]; rfl) (by decide) ?_
          refine lv_aload_n hx hb dX10_islandInfo_82 rfl (lv_at hl 0 rfl) ?_
          refine lv_iload_n hx hb dX10_islandInfo_83 rfl (lv_at hl 1 rfl) ?_
          obtain ⟨v7, h_v7, hm⟩ := bd1_inv hm
          refine cVs ⟨hx, hb, hml, hown, hts⟩ (c_X10_waysOf l D cI cJ cS cB a M_pasts M_typed M_ways M_z M_why M_rows M_wide M_column M_found M_one M_other x1 N v7 h_v7) (cwV 1 hts gX10_islandInfo_X10_waysOf rfl rfl rfl hd_X10_waysOf ⟨(Nat.le_of_ble_eq_true rfl), (Nat.le_of_ble_eq_true rfl)⟩) hK hP hD hS hA [0, 2, 3] rfl rfl rfl hl.1 (Nat.le_of_ble_eq_true rfl) ⟨Nat.zero_le _, Nat.zero_le _⟩ 0 rfl rfl rfl rfl dX10_islandInfo_84 (fun H locs hP hD hS => ?_)
          cases hm
          exact rI () hx hb hr hlk hP hD hS dX10_islandInfo_87
        have hm := ine q31_3 hm
        by_cases q31_4 : x2 = 4
        · have hm := ip q31_4 hm
          refine lv_tableIn (off := 57) (tgt := 88) hx hb dX10_islandInfo_31 (by rw [q31_4]; decide) (by rw [q31_4]; decide) (by rw [q31_4]; rfl) (by decide) ?_
          refine lv_aload_n hx hb dX10_islandInfo_88 rfl (lv_at hl 0 rfl) ?_
          refine lv_iload_n hx hb dX10_islandInfo_89 rfl (lv_at hl 1 rfl) ?_
          obtain ⟨v8, h_v8, hm⟩ := bd1_inv hm
          refine cVs ⟨hx, hb, hml, hown, hts⟩ (c_X10_capsOf l D cI cJ cS cB a M_pasts M_typed M_ways M_z M_why M_rows M_wide M_column M_found M_s M_one M_other x1 N v8 h_v8) (cwV 1 hts gX10_islandInfo_X10_capsOf rfl rfl rfl hd_X10_capsOf ⟨(Nat.le_of_ble_eq_true rfl), (Nat.le_of_ble_eq_true rfl)⟩) hK hP hD hS hA [0, 1, 2, 3] rfl rfl rfl hl.1 (Nat.le_of_ble_eq_true rfl) ⟨Nat.zero_le _, Nat.zero_le _⟩ 0 rfl rfl rfl rfl dX10_islandInfo_90 (fun H locs hP hD hS => ?_)
          cases hm
          exact rI () hx hb hr hlk hP hD hS dX10_islandInfo_93
        have hm := ine q31_4 hm
        have w31_0 : x2.toInt ≠ 0 := fun h9 => q31_0 (Int32.toInt_inj.mp (h9.trans rfl))
        have w31_1 : x2.toInt ≠ 1 := fun h9 => q31_1 (Int32.toInt_inj.mp (h9.trans rfl))
        have w31_2 : x2.toInt ≠ 2 := fun h9 => q31_2 (Int32.toInt_inj.mp (h9.trans rfl))
        have w31_3 : x2.toInt ≠ 3 := fun h9 => q31_3 (Int32.toInt_inj.mp (h9.trans rfl))
        have w31_4 : x2.toInt ≠ 4 := fun h9 => q31_4 (Int32.toInt_inj.mp (h9.trans rfl))
        refine lv_tableOut (tgt := 94) hx hb dX10_islandInfo_31 (by omega) (by decide) ?_
        refine lv_aload_n hx hb dX10_islandInfo_94 rfl (lv_at hl 0 rfl) ?_
        obtain ⟨v9, h_v9, hm⟩ := bd1_inv hm
        refine cVx ⟨hx, hb, hml, hown, hts⟩ (c_X10_findGroups l D cI cJ cS cB a M_pasts M_typed M_ways M_z M_why M_rows M_wide M_column M_found M_s M_one M_other M_group N v9 h_v9) (cwV 0 hts gX10_islandInfo_X10_findGroups rfl rfl rfl hd_X10_findGroups ⟨(Nat.le_of_ble_eq_true rfl), (Nat.le_of_ble_eq_true rfl)⟩) hK hP hD hS hA [0, 1, 2, 3, 4] rfl rfl [o_M a M_pasts M_typed M_ways M_z M_why M_rows M_wide M_column M_found, ai (a 36) cI 244 M_s, ai (a 39) cI 48 M_one, ai (a 40) cI 48 M_other, ai (a 41) cI 144 v9] [(true, 0), (true, 1), (true, 2), (true, 3), (true, 4)] rfl rfl rfl hl.1 (Nat.le_of_ble_eq_true rfl) ⟨Nat.zero_le _, Nat.zero_le _⟩ 0 rfl rfl rfl rfl dX10_islandInfo_95 (fun H locs hP hD hS => ?_)
        refine lv_aload_n hx hb dX10_islandInfo_98 rfl (lv_at hl 0 rfl) ?_
        refine lv_aload_n hx hb dX10_islandInfo_99 rfl (lv_at hl 0 rfl) ?_
        refine va_get (D := D) (ci := 10) (v := .ref (a 41)) (C := RX10) (T := TX10) (N := 17) hx hb hts hiX10 hown hK.1 hP 0 rfl rfl 8 (by decide) (hts (.fieldLink RX10 26 "IslandBridgesModel" "group" "[I") (List.mem_of_getElem? (i := 1) rfl)) (fun _ h9 => h9) rfl dX10_islandInfo_100 ?_
        refine lv_iload_n hx hb dX10_islandInfo_103 rfl (lv_at hl 1 rfl) ?_
        obtain ⟨v10, nv10, ev10, hm⟩ := rd_inv hm
        refine va_iald hx hb hK.1 hP 4 0 rfl rfl nv10 dX10_islandInfo_104 ?_
        refine ltop ev10 ?_
        obtain ⟨v11, h_v11, hm⟩ := bd1_inv hm
        refine cVs ⟨hx, hb, hml, hown, hts⟩ (c_X10_groupsBelow l D cI cJ cS cB a M_pasts M_typed M_ways M_z M_why M_rows M_wide M_column M_found M_s v9 v10 N v11 h_v11) (cwV 1 hts gX10_islandInfo_X10_groupsBelow rfl rfl rfl hd_X10_groupsBelow ⟨(Nat.le_of_ble_eq_true rfl), (Nat.le_of_ble_eq_true rfl)⟩) hK hP hD hS hA [0, 1, 4] rfl rfl rfl hl.1 (Nat.le_of_ble_eq_true rfl) ⟨Nat.zero_le _, Nat.zero_le _⟩ 0 rfl rfl rfl rfl dX10_islandInfo_105 (fun H locs hP hD hS => ?_)
        cases hm
        exact rI () hx hb hr hlk hP hD hS dX10_islandInfo_108
      · have hm := ip c24 hm
        refine lv_bipush (v := (-4)) hx hb dX10_islandInfo_27 (by decide) ?_
        cases hm
        exact rI () hx hb hr hlk hP hD hS dX10_islandInfo_29
    · have hm := ip c14 hm
      refine lv_iconst (v := (-1)) hx hb dX10_islandInfo_17 (by decide) ?_
      cases hm
      exact rI () hx hb hr hlk hP hD hS dX10_islandInfo_18
theorem hd_X10_isWay : yX10_isWay.cls = RX10 ∧ yX10_isWay.cls ≠ "java/lang/invoke/MethodHandle" ∧ yX10_isWay.cls ≠ "java/lang/invoke/VarHandle" ∧ (parseMethodDescriptor yX10_isWay.desc).map (fun d => d.parameters.length) = some 1 := by decide +kernel
def m_X10_isWay (M_ways : Int32) (x1 : Int32) : Option (Int32) :=
  lt1 (m_X10_in x1 0 (M_ways - 1)) (fun v1 => ckb v1 (some v1))
set_option maxHeartbeats 4000000 in
set_option maxRecDepth 100000 in
theorem c_X10_isWay (l : Launch) (D : va_G) (cI cJ cS cB : ClassId) (a : Nat → Nat) (M_pasts : Int32) (M_typed : Int32) (M_ways : Int32) (M_z : Int32) (M_why : Int32) (M_rows : Int32) (M_wide : Int32) (M_column : Int32) (M_found : Int32) (x1 : Int32) (r0 : Int32) (hm : m_X10_isWay M_ways x1 = some r0) :
    mU l D (TYs cI cJ cS cB) yX10_isWay wsX10_isWay { frames := 1, cells := 0, slots := 0, locals := 22 } [.ref (a 35), .int x1] [o_M a M_pasts M_typed M_ways M_z M_why M_rows M_wide M_column M_found] [o_M a M_pasts M_typed M_ways M_z M_why M_rows M_wide M_column M_found] (some (.int r0)) := by
  refine mG_of (cc := cX10_isWay) (maxL := 2) (ret := (some .boolean)) (by decide) rfl rfl (Nat.le_of_ble_eq_true rfl) ?_
  intro p e s m args below meth c A hx hb hr hml hlk hnm hts hown hK hP hD hA hS ls hl
  have hl : lv_has ls 2 [(0, .ref (a 35)), (1, .int x1)] := hl
  have hiX10 : ∀ w ∈ wsX100, w ∈ wsX10_isWay := fun w h => List.mem_cons_of_mem _ (List.mem_append_right _ h)
  unfold m_X10_isWay at hm
  refine lv_iload_n hx hb dX10_isWay_0 rfl (lv_at hl 1 rfl) ?_
  refine lv_iconst (v := 0) hx hb dX10_isWay_1 (by decide) ?_
  refine lv_aload_n hx hb dX10_isWay_2 rfl (lv_at hl 0 rfl) ?_
  refine va_get (D := D) (ci := 10) (v := .int M_ways) (C := RX10) (T := TX10) (N := 17) hx hb hts hiX10 hown hK.1 hP 0 rfl rfl 5 (by decide) (hts (.fieldLink RX10 54 "IslandBridgesModel" "ways" "I") (List.mem_of_getElem? (i := 1) rfl)) (fun _ h9 => h9) rfl dX10_isWay_3 ?_
  refine lv_iconst (v := 1) hx hb dX10_isWay_6 (by decide) ?_
  refine lv_isub hx hb dX10_isWay_7 ?_
  obtain ⟨v1, h_v1, hm⟩ := lt1_inv hm
  refine cSs ⟨hx, hb, hml, hown, hts⟩ (c_X10_in l D cI cJ cS cB a  x1 0 (M_ways - 1) v1 h_v1) (va_cwS 3 hts gX10_isWay_X10_in rfl rfl rfl hd_X10_in ⟨(Nat.le_of_ble_eq_true rfl), (Nat.le_of_ble_eq_true rfl)⟩) hK hP hD hS hA [] rfl rfl rfl hl.1 (Nat.le_of_ble_eq_true rfl) ⟨Nat.zero_le _, Nat.zero_le _⟩ rfl dX10_isWay_8 (fun H locs hP hD hS => ?_)
  obtain ⟨hz11, hm⟩ := ckb_inv hm
  cases hm
  exact rZ () hx hb hr hlk hz11 hP hD hS dX10_isWay_11
theorem hd_X10_way : yX10_way.cls = RX10 ∧ yX10_way.cls ≠ "java/lang/invoke/MethodHandle" ∧ yX10_way.cls ≠ "java/lang/invoke/VarHandle" ∧ (parseMethodDescriptor yX10_way.desc).map (fun d => d.parameters.length) = some 2 := by decide +kernel
def m_X10_way_j121 (y11 : Int32) (y12 : Int32) : Option (Int32) :=
  dvd y11 y12 (fun v13 => some (v13 - 1))
def m_X10_way (N : Nat) (M_ways : Int32) (M_s : Nat → Int32) (M_one : Nat → Int32) (M_other : Nat → Int32) (x1 : Int32) (x2 : Int32) : Option (Int32) :=
  bd1 (m_X10_isWay M_ways x1) (fun v1 => if v1 = 0 then (some ((-1))) else (lt1 (m_X10_in x2 0 7) (fun v2 => if v2 = 0 then (some ((-1))) else (if x2 = 0 then (rd 48 M_one x1 (fun v3 => some v3)) else (if x2 = 1 then (rd 48 M_other x1 (fun v4 => some v4)) else (if x2 = 2 then (bd1 (m_X10_bridges M_s x1) (fun v5 => some v5)) else (if x2 = 3 then (bd1 (m_X10_capOf M_s x1) (fun v6 => some v6)) else (if x2 = 4 then (rd 48 M_other x1 (fun v7 => rd 48 M_one x1 (fun v8 => bd1 (m_X10_isAcross M_s M_one M_other x1) (fun v9 => if v9 = 0 then (rd 244 M_s 0 (fun v10 => m_X10_way_j121 (v7 - v8) v10)) else (m_X10_way_j121 (v7 - v8) 1))))) else (if x2 = 5 then (bd1 (m_X10_crossings N M_ways M_s M_one M_other x1 0) (fun v14 => some v14)) else (if x2 = 6 then (bd1 (m_X10_crossings N M_ways M_s M_one M_other x1 1) (fun v15 => some v15)) else (bd1 (m_X10_reason N M_ways M_s M_one M_other x1) (fun v16 => some v16))))))))))))
set_option maxHeartbeats 4000000 in
set_option maxRecDepth 100000 in
theorem c_X10_way (l : Launch) (D : va_G) (cI cJ cS cB : ClassId) (a : Nat → Nat) (M_pasts : Int32) (M_typed : Int32) (M_ways : Int32) (M_z : Int32) (M_why : Int32) (M_rows : Int32) (M_wide : Int32) (M_column : Int32) (M_found : Int32) (M_s : Nat → Int32) (M_one : Nat → Int32) (M_other : Nat → Int32) (x1 : Int32) (x2 : Int32) (N : Nat) (r0 : Int32) (hm : m_X10_way N M_ways M_s M_one M_other x1 x2 = some r0) :
    mU l D (TYs cI cJ cS cB) yX10_way wsX10_way { frames := 5, cells := 0, slots := 0, locals := 114 } [.ref (a 35), .int x1, .int x2] [o_M a M_pasts M_typed M_ways M_z M_why M_rows M_wide M_column M_found, ai (a 36) cI 244 M_s, ai (a 39) cI 48 M_one, ai (a 40) cI 48 M_other] [o_M a M_pasts M_typed M_ways M_z M_why M_rows M_wide M_column M_found, ai (a 36) cI 244 M_s, ai (a 39) cI 48 M_one, ai (a 40) cI 48 M_other] (some (.int r0)) := by
  refine mG_of (cc := cX10_way) (maxL := 3) (ret := (some .int)) (by decide) rfl rfl (Nat.le_of_ble_eq_true rfl) ?_
  intro p e s m args below meth c A hx hb hr hml hlk hnm hts hown hK hP hD hA hS ls hl
  have hl : lv_has ls 3 [(0, .ref (a 35)), (1, .int x1), (2, .int x2)] := hl
  have hiX10 : ∀ w ∈ wsX100, w ∈ wsX10_way := fun w h => List.mem_cons_of_mem _ (List.mem_append_right _ h)
  unfold m_X10_way at hm
  have h121 : ∀ (y11 : Int32) (y12 : Int32), m_X10_way_j121 y11 y12 = some r0 → ∀ (H : Heap) (locs : List Loc), va_P D vwCl [o_M a M_pasts M_typed M_ways M_z M_why M_rows M_wide M_column M_found, ai (a 36) cI 244 M_s, ai (a 39) cI 48 M_one, ai (a 40) cI 48 M_other] H → va_D A [o_M a M_pasts M_typed M_ways M_z M_why M_rows M_wide M_column M_found, ai (a 36) cI 244 M_s, ai (a 39) cI 48 M_one, ai (a 40) cI 48 M_other] → va_S A s.heap H locs → ∀ ls : Array Slot, lv_has ls 3 [] → W p l e { frames := 5, cells := 0, slots := 0, locals := 114 } s m args below meth c H locs 0 0 (MQ below (eQ D (some (.int r0)) (fun _ : Unit => [o_M a M_pasts M_typed M_ways M_z M_why M_rows M_wide M_column M_found, ai (a 36) cI 244 M_s, ai (a 39) cI 48 M_one, ai (a 40) cI 48 M_other]) A) args s 0 0 A) (F0 m 121 ls [.int y12, .int y11]) := by
    intro y11 y12 hm H locs hP hD hS ls hl
    unfold m_X10_way_j121 at hm
    obtain ⟨v13, nv13, ev13, hm⟩ := dvd_inv hm
    refine lv_idiv hx hb dX10_way_121 nv13 ?_
    refine ltop ev13 ?_
    refine lv_iconst (v := 1) hx hb dX10_way_122 (by decide) ?_
    refine lv_isub hx hb dX10_way_123 ?_
    cases hm
    exact rI () hx hb hr hlk hP hD hS dX10_way_124
  refine lv_aload_n hx hb dX10_way_0 rfl (lv_at hl 0 rfl) ?_
  refine lv_iload_n hx hb dX10_way_1 rfl (lv_at hl 1 rfl) ?_
  obtain ⟨v1, h_v1, hm⟩ := bd1_inv hm
  refine cVs ⟨hx, hb, hml, hown, hts⟩ (c_X10_isWay l D cI cJ cS cB a M_pasts M_typed M_ways M_z M_why M_rows M_wide M_column M_found x1 v1 h_v1) (cwV 1 hts gX10_way_X10_isWay rfl rfl rfl hd_X10_isWay ⟨(Nat.le_of_ble_eq_true rfl), (Nat.le_of_ble_eq_true rfl)⟩) hK hP hD hS hA [0] rfl rfl rfl hl.1 (Nat.le_of_ble_eq_true rfl) ⟨Nat.zero_le _, Nat.zero_le _⟩ 0 rfl rfl rfl rfl dX10_way_2 (fun H locs hP hD hS => ?_)
  refine lv_if_eq (tgt := 18) hx hb dX10_way_5 (by decide) (fun c5 => ?_) (fun c5 => ?_)
  · have hm := ip c5 hm
    refine lv_iconst (v := (-1)) hx hb dX10_way_18 (by decide) ?_
    cases hm
    exact rI () hx hb hr hlk hP hD hS dX10_way_19
  · have hm := ine c5 hm
    refine lv_iload_n hx hb dX10_way_8 rfl (lv_at hl 2 rfl) ?_
    refine lv_iconst (v := 0) hx hb dX10_way_9 (by decide) ?_
    refine lv_bipush (v := 7) hx hb dX10_way_10 (by decide) ?_
    obtain ⟨v2, h_v2, hm⟩ := lt1_inv hm
    refine cSs ⟨hx, hb, hml, hown, hts⟩ (c_X10_in l D cI cJ cS cB a  x2 0 7 v2 h_v2) (va_cwS 3 hts gX10_way_X10_in rfl rfl rfl hd_X10_in ⟨(Nat.le_of_ble_eq_true rfl), (Nat.le_of_ble_eq_true rfl)⟩) hK hP hD hS hA [] rfl rfl rfl hl.1 (Nat.le_of_ble_eq_true rfl) ⟨Nat.zero_le _, Nat.zero_le _⟩ rfl dX10_way_12 (fun H locs hP hD hS => ?_)
    refine lv_if_ne (tgt := 20) hx hb dX10_way_15 (by decide) (fun c15 => ?_) (fun c15 => ?_)
    · have hm := ine c15 hm
      refine lv_iload_n hx hb dX10_way_20 rfl (lv_at hl 2 rfl) ?_
      by_cases q21_0 : x2 = 0
      · have hm := ip q21_0 hm
        refine lv_tableIn (off := 43) (tgt := 64) hx hb dX10_way_21 (by rw [q21_0]; decide) (by rw [q21_0]; decide) (by rw [q21_0]; rfl) (by decide) ?_
        refine lv_aload_n hx hb dX10_way_64 rfl (lv_at hl 0 rfl) ?_
        refine va_get (D := D) (ci := 10) (v := .ref (a 39)) (C := RX10) (T := TX10) (N := 17) hx hb hts hiX10 hown hK.1 hP 0 rfl rfl 6 (by decide) (hts (.fieldLink RX10 20 "IslandBridgesModel" "one" "[I") (List.mem_of_getElem? (i := 1) rfl)) (fun _ h9 => h9) rfl dX10_way_65 ?_
        refine lv_iload_n hx hb dX10_way_68 rfl (lv_at hl 1 rfl) ?_
        obtain ⟨v3, nv3, ev3, hm⟩ := rd_inv hm
        refine va_iald hx hb hK.1 hP 2 0 rfl rfl nv3 dX10_way_69 ?_
        refine ltop ev3 ?_
        cases hm
        exact rI () hx hb hr hlk hP hD hS dX10_way_70
      have hm := ine q21_0 hm
      by_cases q21_1 : x2 = 1
      · have hm := ip q21_1 hm
        refine lv_tableIn (off := 50) (tgt := 71) hx hb dX10_way_21 (by rw [q21_1]; decide) (by rw [q21_1]; decide) (by rw [q21_1]; rfl) (by decide) ?_
        refine lv_aload_n hx hb dX10_way_71 rfl (lv_at hl 0 rfl) ?_
        refine va_get (D := D) (ci := 10) (v := .ref (a 40)) (C := RX10) (T := TX10) (N := 17) hx hb hts hiX10 hown hK.1 hP 0 rfl rfl 7 (by decide) (hts (.fieldLink RX10 23 "IslandBridgesModel" "other" "[I") (List.mem_of_getElem? (i := 2) rfl)) (fun _ h9 => h9) rfl dX10_way_72 ?_
        refine lv_iload_n hx hb dX10_way_75 rfl (lv_at hl 1 rfl) ?_
        obtain ⟨v4, nv4, ev4, hm⟩ := rd_inv hm
        refine va_iald hx hb hK.1 hP 3 0 rfl rfl nv4 dX10_way_76 ?_
        refine ltop ev4 ?_
        cases hm
        exact rI () hx hb hr hlk hP hD hS dX10_way_77
      have hm := ine q21_1 hm
      by_cases q21_2 : x2 = 2
      · have hm := ip q21_2 hm
        refine lv_tableIn (off := 57) (tgt := 78) hx hb dX10_way_21 (by rw [q21_2]; decide) (by rw [q21_2]; decide) (by rw [q21_2]; rfl) (by decide) ?_
        refine lv_aload_n hx hb dX10_way_78 rfl (lv_at hl 0 rfl) ?_
        refine lv_iload_n hx hb dX10_way_79 rfl (lv_at hl 1 rfl) ?_
        obtain ⟨v5, h_v5, hm⟩ := bd1_inv hm
        refine cVs ⟨hx, hb, hml, hown, hts⟩ (c_X10_bridges l D cI cJ cS cB a M_pasts M_typed M_ways M_z M_why M_rows M_wide M_column M_found M_s x1 v5 h_v5) (cwV 1 hts gX10_way_X10_bridges rfl rfl rfl hd_X10_bridges ⟨(Nat.le_of_ble_eq_true rfl), (Nat.le_of_ble_eq_true rfl)⟩) hK hP hD hS hA [0, 1] rfl rfl rfl hl.1 (Nat.le_of_ble_eq_true rfl) ⟨Nat.zero_le _, Nat.zero_le _⟩ 0 rfl rfl rfl rfl dX10_way_80 (fun H locs hP hD hS => ?_)
        cases hm
        exact rI () hx hb hr hlk hP hD hS dX10_way_83
      have hm := ine q21_2 hm
      by_cases q21_3 : x2 = 3
      · have hm := ip q21_3 hm
        refine lv_tableIn (off := 63) (tgt := 84) hx hb dX10_way_21 (by rw [q21_3]; decide) (by rw [q21_3]; decide) (by rw [q21_3]; rfl) (by decide) ?_
        refine lv_aload_n hx hb dX10_way_84 rfl (lv_at hl 0 rfl) ?_
        refine lv_iload_n hx hb dX10_way_85 rfl (lv_at hl 1 rfl) ?_
        obtain ⟨v6, h_v6, hm⟩ := bd1_inv hm
        refine cVs ⟨hx, hb, hml, hown, hts⟩ (c_X10_capOf l D cI cJ cS cB a M_pasts M_typed M_ways M_z M_why M_rows M_wide M_column M_found M_s x1 v6 h_v6) (cwV 1 hts gX10_way_X10_capOf rfl rfl rfl hd_X10_capOf ⟨(Nat.le_of_ble_eq_true rfl), (Nat.le_of_ble_eq_true rfl)⟩) hK hP hD hS hA [0, 1] rfl rfl rfl hl.1 (Nat.le_of_ble_eq_true rfl) ⟨Nat.zero_le _, Nat.zero_le _⟩ 0 rfl rfl rfl rfl dX10_way_86 (fun H locs hP hD hS => ?_)
        cases hm
        exact rI () hx hb hr hlk hP hD hS dX10_way_89
      have hm := ine q21_3 hm
      by_cases q21_4 : x2 = 4
      · have hm := ip q21_4 hm
        refine lv_tableIn (off := 69) (tgt := 90) hx hb dX10_way_21 (by rw [q21_4]; decide) (by rw [q21_4]; decide) (by rw [q21_4]; rfl) (by decide) ?_
        refine lv_aload_n hx hb dX10_way_90 rfl (lv_at hl 0 rfl) ?_
        refine va_get (D := D) (ci := 10) (v := .ref (a 40)) (C := RX10) (T := TX10) (N := 17) hx hb hts hiX10 hown hK.1 hP 0 rfl rfl 7 (by decide) (hts (.fieldLink RX10 23 "IslandBridgesModel" "other" "[I") (List.mem_of_getElem? (i := 2) rfl)) (fun _ h9 => h9) rfl dX10_way_91 ?_
        refine lv_iload_n hx hb dX10_way_94 rfl (lv_at hl 1 rfl) ?_
        obtain ⟨v7, nv7, ev7, hm⟩ := rd_inv hm
        refine va_iald hx hb hK.1 hP 3 0 rfl rfl nv7 dX10_way_95 ?_
        refine ltop ev7 ?_
        refine lv_aload_n hx hb dX10_way_96 rfl (lv_at hl 0 rfl) ?_
        refine va_get (D := D) (ci := 10) (v := .ref (a 39)) (C := RX10) (T := TX10) (N := 17) hx hb hts hiX10 hown hK.1 hP 0 rfl rfl 6 (by decide) (hts (.fieldLink RX10 20 "IslandBridgesModel" "one" "[I") (List.mem_of_getElem? (i := 1) rfl)) (fun _ h9 => h9) rfl dX10_way_97 ?_
        refine lv_iload_n hx hb dX10_way_100 rfl (lv_at hl 1 rfl) ?_
        obtain ⟨v8, nv8, ev8, hm⟩ := rd_inv hm
        refine va_iald hx hb hK.1 hP 2 0 rfl rfl nv8 dX10_way_101 ?_
        refine ltop ev8 ?_
        refine lv_isub hx hb dX10_way_102 ?_
        refine lv_aload_n hx hb dX10_way_103 rfl (lv_at hl 0 rfl) ?_
        refine lv_iload_n hx hb dX10_way_104 rfl (lv_at hl 1 rfl) ?_
        obtain ⟨v9, h_v9, hm⟩ := bd1_inv hm
        refine cVs ⟨hx, hb, hml, hown, hts⟩ (c_X10_isAcross l D cI cJ cS cB a M_pasts M_typed M_ways M_z M_why M_rows M_wide M_column M_found M_s M_one M_other x1 v9 h_v9) (cwV 1 hts gX10_way_X10_isAcross rfl rfl rfl hd_X10_isAcross ⟨(Nat.le_of_ble_eq_true rfl), (Nat.le_of_ble_eq_true rfl)⟩) hK hP hD hS hA [0, 1, 2, 3] rfl rfl rfl hl.1 (Nat.le_of_ble_eq_true rfl) ⟨Nat.zero_le _, Nat.zero_le _⟩ 0 rfl rfl rfl rfl dX10_way_105 (fun H locs hP hD hS => ?_)
        refine lv_if_eq (tgt := 115) hx hb dX10_way_108 (by decide) (fun c108 => ?_) (fun c108 => ?_)
        · have hm := ip c108 hm
          refine lv_aload_n hx hb dX10_way_115 rfl (lv_at hl 0 rfl) ?_
          refine va_get (D := D) (ci := 10) (v := .ref (a 36)) (C := RX10) (T := TX10) (N := 17) hx hb hts hiX10 hown hK.1 hP 0 rfl rfl 0 (by decide) (hts (.fieldLink RX10 7 "IslandBridgesModel" "s" "[I") (List.mem_of_getElem? (i := 3) rfl)) (fun _ h9 => h9) rfl dX10_way_116 ?_
          refine lv_iconst (v := 0) hx hb dX10_way_119 (by decide) ?_
          obtain ⟨v10, nv10, ev10, hm⟩ := rd_inv hm
          refine va_iald hx hb hK.1 hP 1 0 rfl rfl nv10 dX10_way_120 ?_
          refine ltop ev10 ?_
          exact h121 (v7 - v8) v10 hm _ _ hP hD hS ls (lv_sub hl [] rfl)
        · have hm := ine c108 hm
          refine lv_iconst (v := 1) hx hb dX10_way_111 (by decide) ?_
          refine lv_goto (tgt := 121) hx hb dX10_way_112 (by decide) ?_
          exact h121 (v7 - v8) 1 hm _ _ hP hD hS ls (lv_sub hl [] rfl)
      have hm := ine q21_4 hm
      by_cases q21_5 : x2 = 5
      · have hm := ip q21_5 hm
        refine lv_tableIn (off := 104) (tgt := 125) hx hb dX10_way_21 (by rw [q21_5]; decide) (by rw [q21_5]; decide) (by rw [q21_5]; rfl) (by decide) ?_
        refine lv_aload_n hx hb dX10_way_125 rfl (lv_at hl 0 rfl) ?_
        refine lv_iload_n hx hb dX10_way_126 rfl (lv_at hl 1 rfl) ?_
        refine lv_iconst (v := 0) hx hb dX10_way_127 (by decide) ?_
        obtain ⟨v14, h_v14, hm⟩ := bd1_inv hm
        refine cVs ⟨hx, hb, hml, hown, hts⟩ (c_X10_crossings l D cI cJ cS cB a M_pasts M_typed M_ways M_z M_why M_rows M_wide M_column M_found M_s M_one M_other x1 0 N v14 h_v14) (cwV 2 hts gX10_way_X10_crossings rfl rfl rfl hd_X10_crossings ⟨(Nat.le_of_ble_eq_true rfl), (Nat.le_of_ble_eq_true rfl)⟩) hK hP hD hS hA [0, 1, 2, 3] rfl rfl rfl hl.1 (Nat.le_of_ble_eq_true rfl) ⟨Nat.zero_le _, Nat.zero_le _⟩ 0 rfl rfl rfl rfl dX10_way_128 (fun H locs hP hD hS => ?_)
        cases hm
        exact rI () hx hb hr hlk hP hD hS dX10_way_131
      have hm := ine q21_5 hm
      by_cases q21_6 : x2 = 6
      · have hm := ip q21_6 hm
        refine lv_tableIn (off := 111) (tgt := 132) hx hb dX10_way_21 (by rw [q21_6]; decide) (by rw [q21_6]; decide) (by rw [q21_6]; rfl) (by decide) ?_
        refine lv_aload_n hx hb dX10_way_132 rfl (lv_at hl 0 rfl) ?_
        refine lv_iload_n hx hb dX10_way_133 rfl (lv_at hl 1 rfl) ?_
        refine lv_iconst (v := 1) hx hb dX10_way_134 (by decide) ?_
        obtain ⟨v15, h_v15, hm⟩ := bd1_inv hm
        refine cVs ⟨hx, hb, hml, hown, hts⟩ (c_X10_crossings l D cI cJ cS cB a M_pasts M_typed M_ways M_z M_why M_rows M_wide M_column M_found M_s M_one M_other x1 1 N v15 h_v15) (cwV 2 hts gX10_way_X10_crossings rfl rfl rfl hd_X10_crossings ⟨(Nat.le_of_ble_eq_true rfl), (Nat.le_of_ble_eq_true rfl)⟩) hK hP hD hS hA [0, 1, 2, 3] rfl rfl rfl hl.1 (Nat.le_of_ble_eq_true rfl) ⟨Nat.zero_le _, Nat.zero_le _⟩ 0 rfl rfl rfl rfl dX10_way_135 (fun H locs hP hD hS => ?_)
        cases hm
        exact rI () hx hb hr hlk hP hD hS dX10_way_138
      have hm := ine q21_6 hm
      have w21_0 : x2.toInt ≠ 0 := fun h9 => q21_0 (Int32.toInt_inj.mp (h9.trans rfl))
      have w21_1 : x2.toInt ≠ 1 := fun h9 => q21_1 (Int32.toInt_inj.mp (h9.trans rfl))
      have w21_2 : x2.toInt ≠ 2 := fun h9 => q21_2 (Int32.toInt_inj.mp (h9.trans rfl))
      have w21_3 : x2.toInt ≠ 3 := fun h9 => q21_3 (Int32.toInt_inj.mp (h9.trans rfl))
      have w21_4 : x2.toInt ≠ 4 := fun h9 => q21_4 (Int32.toInt_inj.mp (h9.trans rfl))
      have w21_5 : x2.toInt ≠ 5 := fun h9 => q21_5 (Int32.toInt_inj.mp (h9.trans rfl))
      have w21_6 : x2.toInt ≠ 6 := fun h9 => q21_6 (Int32.toInt_inj.mp (h9.trans rfl))
      refine lv_tableOut (tgt := 139) hx hb dX10_way_21 (by omega) (by decide) ?_
      refine lv_aload_n hx hb dX10_way_139 rfl (lv_at hl 0 rfl) ?_
      refine lv_iload_n hx hb dX10_way_140 rfl (lv_at hl 1 rfl) ?_
      obtain ⟨v16, h_v16, hm⟩ := bd1_inv hm
      refine cVs ⟨hx, hb, hml, hown, hts⟩ (c_X10_reason l D cI cJ cS cB a M_pasts M_typed M_ways M_z M_why M_rows M_wide M_column M_found M_s M_one M_other x1 N v16 h_v16) (cwV 1 hts gX10_way_X10_reason rfl rfl rfl hd_X10_reason ⟨(Nat.le_of_ble_eq_true rfl), (Nat.le_of_ble_eq_true rfl)⟩) hK hP hD hS hA [0, 1, 2, 3] rfl rfl rfl hl.1 (Nat.le_of_ble_eq_true rfl) ⟨Nat.zero_le _, Nat.zero_le _⟩ 0 rfl rfl rfl rfl dX10_way_141 (fun H locs hP hD hS => ?_)
      cases hm
      exact rI () hx hb hr hlk hP hD hS dX10_way_144
    · have hm := ip c15 hm
      refine lv_iconst (v := (-1)) hx hb dX10_way_18 (by decide) ?_
      cases hm
      exact rI () hx hb hr hlk hP hD hS dX10_way_19
theorem hd_X10_between : yX10_between.cls = RX10 ∧ yX10_between.cls ≠ "java/lang/invoke/MethodHandle" ∧ yX10_between.cls ≠ "java/lang/invoke/VarHandle" ∧ (parseMethodDescriptor yX10_between.desc).map (fun d => d.parameters.length) = some 2 := by decide +kernel
def m_X10_between_j53 (rec20 : Int32 → Option (Int32)) (y4 : Int32) : Option (Int32) :=
  lt1 (y4 + 1) (fun v5 => rec20 v5)
def m_X10_between_b20 (M_ways : Int32) (M_one : Nat → Int32) (M_other : Nat → Int32) (x1 : Int32) (x2 : Int32) (rec20 : Int32 → Option (Int32)) (y3 : Int32) : Option (Int32) :=
  if M_ways ≤ y3 then (some ((-4))) else (if x1 = x2 then (m_X10_between_j53 rec20 y3) else (bd1 (m_X10_isOf M_one M_other y3 x1) (fun v6 => if v6 = 0 then (m_X10_between_j53 rec20 y3) else (bd1 (m_X10_isOf M_one M_other y3 x2) (fun v7 => if v7 = 0 then (m_X10_between_j53 rec20 y3) else (some y3))))))
def m_X10_between (N : Nat) (M_ways : Int32) (M_s : Nat → Int32) (M_one : Nat → Int32) (M_other : Nat → Int32) (x1 : Int32) (x2 : Int32) : Option (Int32) :=
  bd1 (m_X10_isCell M_s x1) (fun v1 => if v1 = 0 then (some ((-1))) else (bd1 (m_X10_isCell M_s x2) (fun v2 => if v2 = 0 then (some ((-1))) else (zl1 (m_X10_between_b20 M_ways M_one M_other x1 x2) N 0))))
set_option maxHeartbeats 4000000 in
set_option maxRecDepth 100000 in
theorem c_X10_between (l : Launch) (D : va_G) (cI cJ cS cB : ClassId) (a : Nat → Nat) (M_pasts : Int32) (M_typed : Int32) (M_ways : Int32) (M_z : Int32) (M_why : Int32) (M_rows : Int32) (M_wide : Int32) (M_column : Int32) (M_found : Int32) (M_s : Nat → Int32) (M_one : Nat → Int32) (M_other : Nat → Int32) (x1 : Int32) (x2 : Int32) (N : Nat) (r0 : Int32) (hm : m_X10_between N M_ways M_s M_one M_other x1 x2 = some r0) :
    mU l D (TYs cI cJ cS cB) yX10_between wsX10_between { frames := 2, cells := 0, slots := 0, locals := 43 } [.ref (a 35), .int x1, .int x2] [o_M a M_pasts M_typed M_ways M_z M_why M_rows M_wide M_column M_found, ai (a 36) cI 244 M_s, ai (a 39) cI 48 M_one, ai (a 40) cI 48 M_other] [o_M a M_pasts M_typed M_ways M_z M_why M_rows M_wide M_column M_found, ai (a 36) cI 244 M_s, ai (a 39) cI 48 M_one, ai (a 40) cI 48 M_other] (some (.int r0)) := by
  refine mG_of (cc := cX10_between) (maxL := 4) (ret := (some .int)) (by decide) rfl rfl (Nat.le_of_ble_eq_true rfl) ?_
  intro p e s m args below meth c A hx hb hr hml hlk hnm hts hown hK hP hD hA hS ls hl
  have hl : lv_has ls 4 [(0, .ref (a 35)), (1, .int x1), (2, .int x2)] := hl
  have hiX10 : ∀ w ∈ wsX100, w ∈ wsX10_between := fun w h => List.mem_cons_of_mem _ (List.mem_append_right _ h)
  unfold m_X10_between at hm
  have h20 : ∀ (n : Nat) (y3 : Int32), zl1 (m_X10_between_b20 M_ways M_one M_other x1 x2) n y3 = some r0 → ∀ (H : Heap) (locs : List Loc), va_P D vwCl [o_M a M_pasts M_typed M_ways M_z M_why M_rows M_wide M_column M_found, ai (a 36) cI 244 M_s, ai (a 39) cI 48 M_one, ai (a 40) cI 48 M_other] H → va_D A [o_M a M_pasts M_typed M_ways M_z M_why M_rows M_wide M_column M_found, ai (a 36) cI 244 M_s, ai (a 39) cI 48 M_one, ai (a 40) cI 48 M_other] → va_S A s.heap H locs → ∀ ls : Array Slot, lv_has ls 4 [(0, .ref (a 35)), (1, .int x1), (2, .int x2), (3, .int y3)] → W p l e { frames := 2, cells := 0, slots := 0, locals := 43 } s m args below meth c H locs 0 0 (MQ below (eQ D (some (.int r0)) (fun _ : Unit => [o_M a M_pasts M_typed M_ways M_z M_why M_rows M_wide M_column M_found, ai (a 36) cI 244 M_s, ai (a 39) cI 48 M_one, ai (a 40) cI 48 M_other]) A) args s 0 0 A) (F0 m 20 ls []) := by
    refine zl1_ind (fun rec20 ih20 y3 hm => ?_)
    have h53 : ∀ (y4 : Int32), m_X10_between_j53 rec20 y4 = some r0 → ∀ (H : Heap) (locs : List Loc), va_P D vwCl [o_M a M_pasts M_typed M_ways M_z M_why M_rows M_wide M_column M_found, ai (a 36) cI 244 M_s, ai (a 39) cI 48 M_one, ai (a 40) cI 48 M_other] H → va_D A [o_M a M_pasts M_typed M_ways M_z M_why M_rows M_wide M_column M_found, ai (a 36) cI 244 M_s, ai (a 39) cI 48 M_one, ai (a 40) cI 48 M_other] → va_S A s.heap H locs → ∀ ls : Array Slot, lv_has ls 4 [(0, .ref (a 35)), (1, .int x1), (2, .int x2), (3, .int y4)] → W p l e { frames := 2, cells := 0, slots := 0, locals := 43 } s m args below meth c H locs 0 0 (MQ below (eQ D (some (.int r0)) (fun _ : Unit => [o_M a M_pasts M_typed M_ways M_z M_why M_rows M_wide M_column M_found, ai (a 36) cI 244 M_s, ai (a 39) cI 48 M_one, ai (a 40) cI 48 M_other]) A) args s 0 0 A) (F0 m 53 ls []) := by
      intro y4 hm H locs hP hD hS ls hl
      unfold m_X10_between_j53 at hm
      obtain ⟨v5, ev5, hm⟩ := lt1_inv hm
      refine lv_iinc (v := v5) (lv' := [(3, .int v5), (0, .ref (a 35)), (1, .int x1), (2, .int x2)]) hx hb dX10_between_53 hl (k := 3) rfl ev5 (by decide) rfl (fun ls hl => ?_)
      refine lv_goto (tgt := 20) hx hb dX10_between_56 (by decide) ?_
      exact ih20 v5 hm _ _ hP hD hS ls (lv_sub hl [1, 2, 3, 0] rfl)
    intro H locs hP hD hS ls hl
    unfold m_X10_between_b20 at hm
    refine lv_iload_n hx hb dX10_between_20 rfl (lv_at hl 3 rfl) ?_
    refine lv_aload_n hx hb dX10_between_21 rfl (lv_at hl 0 rfl) ?_
    refine va_get (D := D) (ci := 10) (v := .int M_ways) (C := RX10) (T := TX10) (N := 17) hx hb hts hiX10 hown hK.1 hP 0 rfl rfl 5 (by decide) (hts (.fieldLink RX10 54 "IslandBridgesModel" "ways" "I") (List.mem_of_getElem? (i := 1) rfl)) (fun _ h9 => h9) rfl dX10_between_22 ?_
    refine lv_icmp_ge (tgt := 59) hx hb dX10_between_25 (by decide) (fun c25 => ?_) (fun c25 => ?_)
    · have hm := ip c25 hm
      refine lv_bipush (v := (-4)) hx hb dX10_between_59 (by decide) ?_
      cases hm
      exact rI () hx hb hr hlk hP hD hS dX10_between_61
    · have hm := ine c25 hm
      refine lv_iload_n hx hb dX10_between_28 rfl (lv_at hl 1 rfl) ?_
      refine lv_iload_n hx hb dX10_between_29 rfl (lv_at hl 2 rfl) ?_
      refine lv_icmp_eq (tgt := 53) hx hb dX10_between_30 (by decide) (fun c30 => ?_) (fun c30 => ?_)
      · have hm := ip c30 hm
        exact h53 y3 hm _ _ hP hD hS ls (lv_sub hl [0, 1, 2, 3] rfl)
      · have hm := ine c30 hm
        refine lv_aload_n hx hb dX10_between_33 rfl (lv_at hl 0 rfl) ?_
        refine lv_iload_n hx hb dX10_between_34 rfl (lv_at hl 3 rfl) ?_
        refine lv_iload_n hx hb dX10_between_35 rfl (lv_at hl 1 rfl) ?_
        obtain ⟨v6, h_v6, hm⟩ := bd1_inv hm
        refine cVs ⟨hx, hb, hml, hown, hts⟩ (c_X10_isOf l D cI cJ cS cB a M_pasts M_typed M_ways M_z M_why M_rows M_wide M_column M_found M_one M_other y3 x1 v6 h_v6) (cwV 2 hts gX10_between_X10_isOf rfl rfl rfl hd_X10_isOf ⟨(Nat.le_of_ble_eq_true rfl), (Nat.le_of_ble_eq_true rfl)⟩) hK hP hD hS hA [0, 2, 3] rfl rfl rfl hl.1 (Nat.le_of_ble_eq_true rfl) ⟨Nat.zero_le _, Nat.zero_le _⟩ 0 rfl rfl rfl rfl dX10_between_36 (fun H locs hP hD hS => ?_)
        refine lv_if_eq (tgt := 53) hx hb dX10_between_39 (by decide) (fun c39 => ?_) (fun c39 => ?_)
        · have hm := ip c39 hm
          exact h53 y3 hm _ _ hP hD hS ls (lv_sub hl [0, 1, 2, 3] rfl)
        · have hm := ine c39 hm
          refine lv_aload_n hx hb dX10_between_42 rfl (lv_at hl 0 rfl) ?_
          refine lv_iload_n hx hb dX10_between_43 rfl (lv_at hl 3 rfl) ?_
          refine lv_iload_n hx hb dX10_between_44 rfl (lv_at hl 2 rfl) ?_
          obtain ⟨v7, h_v7, hm⟩ := bd1_inv hm
          refine cVs ⟨hx, hb, hml, hown, hts⟩ (c_X10_isOf l D cI cJ cS cB a M_pasts M_typed M_ways M_z M_why M_rows M_wide M_column M_found M_one M_other y3 x2 v7 h_v7) (cwV 2 hts gX10_between_X10_isOf rfl rfl rfl hd_X10_isOf ⟨(Nat.le_of_ble_eq_true rfl), (Nat.le_of_ble_eq_true rfl)⟩) hK hP hD hS hA [0, 2, 3] rfl rfl rfl hl.1 (Nat.le_of_ble_eq_true rfl) ⟨Nat.zero_le _, Nat.zero_le _⟩ 0 rfl rfl rfl rfl dX10_between_45 (fun H locs hP hD hS => ?_)
          refine lv_if_eq (tgt := 53) hx hb dX10_between_48 (by decide) (fun c48 => ?_) (fun c48 => ?_)
          · have hm := ip c48 hm
            exact h53 y3 hm _ _ hP hD hS ls (lv_sub hl [0, 1, 2, 3] rfl)
          · have hm := ine c48 hm
            refine lv_iload_n hx hb dX10_between_51 rfl (lv_at hl 3 rfl) ?_
            cases hm
            exact rI () hx hb hr hlk hP hD hS dX10_between_52
  refine lv_aload_n hx hb dX10_between_0 rfl (lv_at hl 0 rfl) ?_
  refine lv_iload_n hx hb dX10_between_1 rfl (lv_at hl 1 rfl) ?_
  obtain ⟨v1, h_v1, hm⟩ := bd1_inv hm
  refine cVs ⟨hx, hb, hml, hown, hts⟩ (c_X10_isCell l D cI cJ cS cB a M_pasts M_typed M_ways M_z M_why M_rows M_wide M_column M_found M_s x1 v1 h_v1) (cwV 1 hts gX10_between_X10_isCell rfl rfl rfl hd_X10_isCell ⟨(Nat.le_of_ble_eq_true rfl), (Nat.le_of_ble_eq_true rfl)⟩) hK hP hD hS hA [0, 1] rfl rfl rfl hl.1 (Nat.le_of_ble_eq_true rfl) ⟨Nat.zero_le _, Nat.zero_le _⟩ 0 rfl rfl rfl rfl dX10_between_2 (fun H locs hP hD hS => ?_)
  refine lv_if_eq (tgt := 16) hx hb dX10_between_5 (by decide) (fun c5 => ?_) (fun c5 => ?_)
  · have hm := ip c5 hm
    refine lv_iconst (v := (-1)) hx hb dX10_between_16 (by decide) ?_
    cases hm
    exact rI () hx hb hr hlk hP hD hS dX10_between_17
  · have hm := ine c5 hm
    refine lv_aload_n hx hb dX10_between_8 rfl (lv_at hl 0 rfl) ?_
    refine lv_iload_n hx hb dX10_between_9 rfl (lv_at hl 2 rfl) ?_
    obtain ⟨v2, h_v2, hm⟩ := bd1_inv hm
    refine cVs ⟨hx, hb, hml, hown, hts⟩ (c_X10_isCell l D cI cJ cS cB a M_pasts M_typed M_ways M_z M_why M_rows M_wide M_column M_found M_s x2 v2 h_v2) (cwV 1 hts gX10_between_X10_isCell rfl rfl rfl hd_X10_isCell ⟨(Nat.le_of_ble_eq_true rfl), (Nat.le_of_ble_eq_true rfl)⟩) hK hP hD hS hA [0, 1] rfl rfl rfl hl.1 (Nat.le_of_ble_eq_true rfl) ⟨Nat.zero_le _, Nat.zero_le _⟩ 0 rfl rfl rfl rfl dX10_between_10 (fun H locs hP hD hS => ?_)
    refine lv_if_ne (tgt := 18) hx hb dX10_between_13 (by decide) (fun c13 => ?_) (fun c13 => ?_)
    · have hm := ine c13 hm
      refine lv_iconst (v := 0) hx hb dX10_between_18 (by decide) ?_
      refine lv_istore_n (lv' := [(3, .int 0), (0, .ref (a 35)), (1, .int x1), (2, .int x2)]) hx hb dX10_between_19 rfl hl (by decide) rfl (fun ls hl => ?_)
      exact h20  N 0 hm _ _ hP hD hS ls (lv_sub hl [1, 2, 3, 0] rfl)
    · have hm := ip c13 hm
      refine lv_iconst (v := (-1)) hx hb dX10_between_16 (by decide) ?_
      cases hm
      exact rI () hx hb hr hlk hP hD hS dX10_between_17
theorem hd_X10_allBridges : yX10_allBridges.cls = RX10 ∧ yX10_allBridges.cls ≠ "java/lang/invoke/MethodHandle" ∧ yX10_allBridges.cls ≠ "java/lang/invoke/VarHandle" ∧ (parseMethodDescriptor yX10_allBridges.desc).map (fun d => d.parameters.length) = some 0 := by decide +kernel
def m_X10_allBridges_b4 (M_ways : Int32) (M_s : Nat → Int32) (rec4 : Int32 → Int32 → Option (Int32)) (y1 : Int32) (y2 : Int32) : Option (Int32) :=
  if M_ways ≤ y2 then (some y1) else (bd1 (m_X10_bridges M_s y2) (fun v3 => lt1 (y1 + v3) (fun v4 => lt1 (y2 + 1) (fun v5 => rec4 v4 v5))))
def m_X10_allBridges (N : Nat) (M_ways : Int32) (M_s : Nat → Int32) : Option (Int32) :=
  zl2 (m_X10_allBridges_b4 M_ways M_s) N 0 0
set_option maxHeartbeats 4000000 in
set_option maxRecDepth 100000 in
theorem c_X10_allBridges (l : Launch) (D : va_G) (cI cJ cS cB : ClassId) (a : Nat → Nat) (M_pasts : Int32) (M_typed : Int32) (M_ways : Int32) (M_z : Int32) (M_why : Int32) (M_rows : Int32) (M_wide : Int32) (M_column : Int32) (M_found : Int32) (M_s : Nat → Int32)  (N : Nat) (r0 : Int32) (hm : m_X10_allBridges N M_ways M_s = some r0) :
    mU l D (TYs cI cJ cS cB) yX10_allBridges wsX10_allBridges { frames := 1, cells := 0, slots := 0, locals := 21 } [.ref (a 35)] [o_M a M_pasts M_typed M_ways M_z M_why M_rows M_wide M_column M_found, ai (a 36) cI 244 M_s] [o_M a M_pasts M_typed M_ways M_z M_why M_rows M_wide M_column M_found, ai (a 36) cI 244 M_s] (some (.int r0)) := by
  refine mG_of (cc := cX10_allBridges) (maxL := 3) (ret := (some .int)) (by decide) rfl rfl (Nat.le_of_ble_eq_true rfl) ?_
  intro p e s m args below meth c A hx hb hr hml hlk hnm hts hown hK hP hD hA hS ls hl
  have hl : lv_has ls 3 [(0, .ref (a 35))] := hl
  have hiX10 : ∀ w ∈ wsX100, w ∈ wsX10_allBridges := fun w h => List.mem_cons_of_mem _ (List.mem_append_right _ h)
  unfold m_X10_allBridges at hm
  have h4 : ∀ (n : Nat) (y1 : Int32) (y2 : Int32), zl2 (m_X10_allBridges_b4 M_ways M_s) n y1 y2 = some r0 → ∀ (H : Heap) (locs : List Loc), va_P D vwCl [o_M a M_pasts M_typed M_ways M_z M_why M_rows M_wide M_column M_found, ai (a 36) cI 244 M_s] H → va_D A [o_M a M_pasts M_typed M_ways M_z M_why M_rows M_wide M_column M_found, ai (a 36) cI 244 M_s] → va_S A s.heap H locs → ∀ ls : Array Slot, lv_has ls 3 [(0, .ref (a 35)), (1, .int y1), (2, .int y2)] → W p l e { frames := 1, cells := 0, slots := 0, locals := 21 } s m args below meth c H locs 0 0 (MQ below (eQ D (some (.int r0)) (fun _ : Unit => [o_M a M_pasts M_typed M_ways M_z M_why M_rows M_wide M_column M_found, ai (a 36) cI 244 M_s]) A) args s 0 0 A) (F0 m 4 ls []) := by
    refine zl2_ind (fun rec4 ih4 y1 y2 hm => ?_)
    intro H locs hP hD hS ls hl
    unfold m_X10_allBridges_b4 at hm
    refine lv_iload_n hx hb dX10_allBridges_4 rfl (lv_at hl 2 rfl) ?_
    refine lv_aload_n hx hb dX10_allBridges_5 rfl (lv_at hl 0 rfl) ?_
    refine va_get (D := D) (ci := 10) (v := .int M_ways) (C := RX10) (T := TX10) (N := 17) hx hb hts hiX10 hown hK.1 hP 0 rfl rfl 5 (by decide) (hts (.fieldLink RX10 54 "IslandBridgesModel" "ways" "I") (List.mem_of_getElem? (i := 1) rfl)) (fun _ h9 => h9) rfl dX10_allBridges_6 ?_
    refine lv_icmp_ge (tgt := 26) hx hb dX10_allBridges_9 (by decide) (fun c9 => ?_) (fun c9 => ?_)
    · have hm := ip c9 hm
      refine lv_iload_n hx hb dX10_allBridges_26 rfl (lv_at hl 1 rfl) ?_
      cases hm
      exact rI () hx hb hr hlk hP hD hS dX10_allBridges_27
    · have hm := ine c9 hm
      refine lv_iload_n hx hb dX10_allBridges_12 rfl (lv_at hl 1 rfl) ?_
      refine lv_aload_n hx hb dX10_allBridges_13 rfl (lv_at hl 0 rfl) ?_
      refine lv_iload_n hx hb dX10_allBridges_14 rfl (lv_at hl 2 rfl) ?_
      obtain ⟨v3, h_v3, hm⟩ := bd1_inv hm
      refine cVs ⟨hx, hb, hml, hown, hts⟩ (c_X10_bridges l D cI cJ cS cB a M_pasts M_typed M_ways M_z M_why M_rows M_wide M_column M_found M_s y2 v3 h_v3) (cwV 1 hts gX10_allBridges_X10_bridges rfl rfl rfl hd_X10_bridges ⟨(Nat.le_of_ble_eq_true rfl), (Nat.le_of_ble_eq_true rfl)⟩) hK hP hD hS hA [0, 1] rfl rfl rfl hl.1 (Nat.le_of_ble_eq_true rfl) ⟨Nat.zero_le _, Nat.zero_le _⟩ 0 rfl rfl rfl rfl dX10_allBridges_15 (fun H locs hP hD hS => ?_)
      refine lv_iadd hx hb dX10_allBridges_18 ?_
      obtain ⟨v4, ev4, hm⟩ := lt1_inv hm
      refine ltop ev4 ?_
      refine lv_istore_n (lv' := [(1, .int v4), (0, .ref (a 35)), (2, .int y2)]) hx hb dX10_allBridges_19 rfl hl (by decide) rfl (fun ls hl => ?_)
      obtain ⟨v5, ev5, hm⟩ := lt1_inv hm
      refine lv_iinc (v := v5) (lv' := [(2, .int v5), (1, .int v4), (0, .ref (a 35))]) hx hb dX10_allBridges_20 hl (k := 2) rfl ev5 (by decide) rfl (fun ls hl => ?_)
      refine lv_goto (tgt := 4) hx hb dX10_allBridges_23 (by decide) ?_
      exact ih4 v4 v5 hm _ _ hP hD hS ls (lv_sub hl [2, 1, 0] rfl)
  refine lv_iconst (v := 0) hx hb dX10_allBridges_0 (by decide) ?_
  refine lv_istore_n (lv' := [(1, .int 0), (0, .ref (a 35))]) hx hb dX10_allBridges_1 rfl hl (by decide) rfl (fun ls hl => ?_)
  refine lv_iconst (v := 0) hx hb dX10_allBridges_2 (by decide) ?_
  refine lv_istore_n (lv' := [(2, .int 0), (1, .int 0), (0, .ref (a 35))]) hx hb dX10_allBridges_3 rfl hl (by decide) rfl (fun ls hl => ?_)
  exact h4  N 0 0 hm _ _ hP hD hS ls (lv_sub hl [2, 1, 0] rfl)
theorem hd_X10_count : yX10_count.cls = RX10 ∧ yX10_count.cls ≠ "java/lang/invoke/MethodHandle" ∧ yX10_count.cls ≠ "java/lang/invoke/VarHandle" ∧ (parseMethodDescriptor yX10_count.desc).map (fun d => d.parameters.length) = some 1 := by decide +kernel
def m_X10_count_b132 (M_s : Nat → Int32) (y13 : Nat → Int32) (rec132 : Int32 → Int32 → Option (Int32 × (Nat → Int32))) (y11 : Int32) (y12 : Int32) : Option (Int32 × (Nat → Int32)) :=
  bd1 (m_X10_cells M_s) (fun v14 => if v14 ≤ y12 then (some ((y11, y13))) else (bd1 (m_X10_number M_s y12) (fun v15 => lt1 (y11 + v15) (fun v16 => lt1 (y12 + 1) (fun v17 => rec132 v16 v17)))))
def m_X10_count (N : Nat) (M_pasts : Int32) (M_typed : Int32) (M_ways : Int32) (M_s : Nat → Int32) (M_one : Nat → Int32) (M_other : Nat → Int32) (M_group : Nat → Int32) (x1 : Int32) : Option (Int32 × (Nat → Int32)) :=
  if x1 = 0 then (rd 244 M_s x1 (fun v1 => some ((v1, M_group)))) else (if x1 = 1 then (rd 244 M_s x1 (fun v2 => some ((v2, M_group)))) else (if x1 = 2 then (bd1 (m_X10_islands N M_s) (fun v3 => some ((v3, M_group)))) else (if x1 = 3 then (some ((M_ways, M_group))) else (if x1 = 4 then (bd1 (m_X10_allBridges N M_ways M_s) (fun v4 => some ((v4, M_group)))) else (if x1 = 5 then (bd1 (m_X10_complete N M_ways M_s M_one M_other) (fun v5 => some ((v5, M_group)))) else (if x1 = 6 then (bd2 (m_X10_groups N M_ways M_s M_one M_other M_group) (fun v6 v7 => some ((v6, v7)))) else (if x1 = 7 then (bd2 (m_X10_isSolved N M_ways M_s M_one M_other M_group) (fun v8 v9 => if v8 = 0 then (some ((0, v9))) else (some ((1, v9))))) else (if x1 = 8 then (bd1 (m_X10_isBroken N M_ways M_s M_one M_other) (fun v10 => if v10 = 0 then (some ((0, M_group))) else (some ((1, M_group))))) else (if x1 = 9 then (zl2 (m_X10_count_b132 M_s M_group) N 0 0) else (if x1 = 10 then (rd 244 M_s 2 (fun v18 => some ((v18, M_group)))) else (if x1 = 11 then (rd 244 M_s 3 (fun v19 => some ((v19, M_group)))) else (if x1 = 12 then (some ((M_pasts, M_group))) else (if x1 = 13 then (some ((M_typed, M_group))) else (some (((-1), M_group))))))))))))))))
set_option maxHeartbeats 4000000 in
set_option maxRecDepth 100000 in
theorem c_X10_count (l : Launch) (D : va_G) (cI cJ cS cB : ClassId) (a : Nat → Nat) (M_pasts : Int32) (M_typed : Int32) (M_ways : Int32) (M_z : Int32) (M_why : Int32) (M_rows : Int32) (M_wide : Int32) (M_column : Int32) (M_found : Int32) (M_s : Nat → Int32) (M_one : Nat → Int32) (M_other : Nat → Int32) (M_group : Nat → Int32) (x1 : Int32) (N : Nat) (r0 : Int32) (M_group' : Nat → Int32) (hm : m_X10_count N M_pasts M_typed M_ways M_s M_one M_other M_group x1 = some (r0, M_group')) :
    mU l D (TYs cI cJ cS cB) yX10_count wsX10_count { frames := 5, cells := 0, slots := 0, locals := 108 } [.ref (a 35), .int x1] [o_M a M_pasts M_typed M_ways M_z M_why M_rows M_wide M_column M_found, ai (a 36) cI 244 M_s, ai (a 39) cI 48 M_one, ai (a 40) cI 48 M_other, ai (a 41) cI 144 M_group] [o_M a M_pasts M_typed M_ways M_z M_why M_rows M_wide M_column M_found, ai (a 36) cI 244 M_s, ai (a 39) cI 48 M_one, ai (a 40) cI 48 M_other, ai (a 41) cI 144 M_group'] (some (.int r0)) := by
  refine mG_of (cc := cX10_count) (maxL := 4) (ret := (some .int)) (by decide) rfl rfl (Nat.le_of_ble_eq_true rfl) ?_
  intro p e s m args below meth c A hx hb hr hml hlk hnm hts hown hK hP hD hA hS ls hl
  have hl : lv_has ls 4 [(0, .ref (a 35)), (1, .int x1)] := hl
  have hiX10 : ∀ w ∈ wsX100, w ∈ wsX10_count := fun w h => List.mem_cons_of_mem _ (List.mem_append_right _ h)
  unfold m_X10_count at hm
  have h132 : ∀ (y13 : Nat → Int32), ∀ (n : Nat) (y11 : Int32) (y12 : Int32), zl2 (m_X10_count_b132 M_s y13) n y11 y12 = some (r0, M_group') → ∀ (H : Heap) (locs : List Loc), va_P D vwCl [o_M a M_pasts M_typed M_ways M_z M_why M_rows M_wide M_column M_found, ai (a 36) cI 244 M_s, ai (a 39) cI 48 M_one, ai (a 40) cI 48 M_other, ai (a 41) cI 144 y13] H → va_D A [o_M a M_pasts M_typed M_ways M_z M_why M_rows M_wide M_column M_found, ai (a 36) cI 244 M_s, ai (a 39) cI 48 M_one, ai (a 40) cI 48 M_other, ai (a 41) cI 144 y13] → va_S A s.heap H locs → ∀ ls : Array Slot, lv_has ls 4 [(0, .ref (a 35)), (2, .int y11), (3, .int y12)] → W p l e { frames := 5, cells := 0, slots := 0, locals := 108 } s m args below meth c H locs 0 0 (MQ below (eQ D (some (.int r0)) (fun _ : Unit => [o_M a M_pasts M_typed M_ways M_z M_why M_rows M_wide M_column M_found, ai (a 36) cI 244 M_s, ai (a 39) cI 48 M_one, ai (a 40) cI 48 M_other, ai (a 41) cI 144 M_group']) A) args s 0 0 A) (F0 m 132 ls []) := by
    intro y13
    refine zl2_ind (fun rec132 ih132 y11 y12 hm => ?_)
    intro H locs hP hD hS ls hl
    unfold m_X10_count_b132 at hm
    refine lv_iload_n hx hb dX10_count_132 rfl (lv_at hl 2 rfl) ?_
    refine lv_aload_n hx hb dX10_count_133 rfl (lv_at hl 0 rfl) ?_
    obtain ⟨v14, h_v14, hm⟩ := bd1_inv hm
    refine cVs ⟨hx, hb, hml, hown, hts⟩ (c_X10_cells l D cI cJ cS cB a M_pasts M_typed M_ways M_z M_why M_rows M_wide M_column M_found M_s v14 h_v14) (cwV 0 hts gX10_count_X10_cells rfl rfl rfl hd_X10_cells ⟨(Nat.le_of_ble_eq_true rfl), (Nat.le_of_ble_eq_true rfl)⟩) hK hP hD hS hA [0, 1] rfl rfl rfl hl.1 (Nat.le_of_ble_eq_true rfl) ⟨Nat.zero_le _, Nat.zero_le _⟩ 0 rfl rfl rfl rfl dX10_count_134 (fun H locs hP hD hS => ?_)
    refine lv_icmp_ge (tgt := 154) hx hb dX10_count_137 (by decide) (fun c137 => ?_) (fun c137 => ?_)
    · have hm := ip c137 hm
      refine lv_iload_n hx hb dX10_count_154 rfl (lv_at hl 1 rfl) ?_
      cases hm
      exact rI () hx hb hr hlk hP hD hS dX10_count_155
    · have hm := ine c137 hm
      refine lv_iload_n hx hb dX10_count_140 rfl (lv_at hl 1 rfl) ?_
      refine lv_aload_n hx hb dX10_count_141 rfl (lv_at hl 0 rfl) ?_
      refine lv_iload_n hx hb dX10_count_142 rfl (lv_at hl 2 rfl) ?_
      obtain ⟨v15, h_v15, hm⟩ := bd1_inv hm
      refine cVs ⟨hx, hb, hml, hown, hts⟩ (c_X10_number l D cI cJ cS cB a M_pasts M_typed M_ways M_z M_why M_rows M_wide M_column M_found M_s y12 v15 h_v15) (cwV 1 hts gX10_count_X10_number rfl rfl rfl hd_X10_number ⟨(Nat.le_of_ble_eq_true rfl), (Nat.le_of_ble_eq_true rfl)⟩) hK hP hD hS hA [0, 1] rfl rfl rfl hl.1 (Nat.le_of_ble_eq_true rfl) ⟨Nat.zero_le _, Nat.zero_le _⟩ 0 rfl rfl rfl rfl dX10_count_143 (fun H locs hP hD hS => ?_)
      refine lv_iadd hx hb dX10_count_146 ?_
      obtain ⟨v16, ev16, hm⟩ := lt1_inv hm
      refine ltop ev16 ?_
      refine lv_istore_n (lv' := [(2, .int v16), (0, .ref (a 35)), (3, .int y12)]) hx hb dX10_count_147 rfl hl (by decide) rfl (fun ls hl => ?_)
      obtain ⟨v17, ev17, hm⟩ := lt1_inv hm
      refine lv_iinc (v := v17) (lv' := [(3, .int v17), (2, .int v16), (0, .ref (a 35))]) hx hb dX10_count_148 hl (k := 2) rfl ev17 (by decide) rfl (fun ls hl => ?_)
      refine lv_goto (tgt := 132) hx hb dX10_count_151 (by decide) ?_
      exact ih132 v16 v17 hm _ _ hP hD hS ls (lv_sub hl [2, 1, 0] rfl)
  refine lv_iconst (v := 0) hx hb dX10_count_0 (by decide) ?_
  refine lv_istore_n (lv' := [(2, .int 0), (0, .ref (a 35)), (1, .int x1)]) hx hb dX10_count_1 rfl hl (by decide) rfl (fun ls hl => ?_)
  refine lv_iload_n hx hb dX10_count_2 rfl (lv_at hl 2 rfl) ?_
  by_cases q3_0 : x1 = 0
  · have hm := ip q3_0 hm
    refine lv_tableIn (off := 69) (tgt := 72) hx hb dX10_count_3 (by rw [q3_0]; decide) (by rw [q3_0]; decide) (by rw [q3_0]; rfl) (by decide) ?_
    refine lv_aload_n hx hb dX10_count_72 rfl (lv_at hl 1 rfl) ?_
    refine va_get (D := D) (ci := 10) (v := .ref (a 36)) (C := RX10) (T := TX10) (N := 17) hx hb hts hiX10 hown hK.1 hP 0 rfl rfl 0 (by decide) (hts (.fieldLink RX10 7 "IslandBridgesModel" "s" "[I") (List.mem_of_getElem? (i := 1) rfl)) (fun _ h9 => h9) rfl dX10_count_73 ?_
    refine lv_iload_n hx hb dX10_count_76 rfl (lv_at hl 2 rfl) ?_
    obtain ⟨v1, nv1, ev1, hm⟩ := rd_inv hm
    refine va_iald hx hb hK.1 hP 1 0 rfl rfl nv1 dX10_count_77 ?_
    refine ltop ev1 ?_
    cases hm
    exact rI () hx hb hr hlk hP hD hS dX10_count_78
  have hm := ine q3_0 hm
  by_cases q3_1 : x1 = 1
  · have hm := ip q3_1 hm
    refine lv_tableIn (off := 69) (tgt := 72) hx hb dX10_count_3 (by rw [q3_1]; decide) (by rw [q3_1]; decide) (by rw [q3_1]; rfl) (by decide) ?_
    refine lv_aload_n hx hb dX10_count_72 rfl (lv_at hl 1 rfl) ?_
    refine va_get (D := D) (ci := 10) (v := .ref (a 36)) (C := RX10) (T := TX10) (N := 17) hx hb hts hiX10 hown hK.1 hP 0 rfl rfl 0 (by decide) (hts (.fieldLink RX10 7 "IslandBridgesModel" "s" "[I") (List.mem_of_getElem? (i := 1) rfl)) (fun _ h9 => h9) rfl dX10_count_73 ?_
    refine lv_iload_n hx hb dX10_count_76 rfl (lv_at hl 2 rfl) ?_
    obtain ⟨v2, nv2, ev2, hm⟩ := rd_inv hm
    refine va_iald hx hb hK.1 hP 1 0 rfl rfl nv2 dX10_count_77 ?_
    refine ltop ev2 ?_
    cases hm
    exact rI () hx hb hr hlk hP hD hS dX10_count_78
  have hm := ine q3_1 hm
  by_cases q3_2 : x1 = 2
  · have hm := ip q3_2 hm
    refine lv_tableIn (off := 76) (tgt := 79) hx hb dX10_count_3 (by rw [q3_2]; decide) (by rw [q3_2]; decide) (by rw [q3_2]; rfl) (by decide) ?_
    refine lv_aload_n hx hb dX10_count_79 rfl (lv_at hl 1 rfl) ?_
    obtain ⟨v3, h_v3, hm⟩ := bd1_inv hm
    refine cVs ⟨hx, hb, hml, hown, hts⟩ (c_X10_islands l D cI cJ cS cB a M_pasts M_typed M_ways M_z M_why M_rows M_wide M_column M_found M_s N v3 h_v3) (cwV 0 hts gX10_count_X10_islands rfl rfl rfl hd_X10_islands ⟨(Nat.le_of_ble_eq_true rfl), (Nat.le_of_ble_eq_true rfl)⟩) hK hP hD hS hA [0, 1] rfl rfl rfl hl.1 (Nat.le_of_ble_eq_true rfl) ⟨Nat.zero_le _, Nat.zero_le _⟩ 0 rfl rfl rfl rfl dX10_count_80 (fun H locs hP hD hS => ?_)
    cases hm
    exact rI () hx hb hr hlk hP hD hS dX10_count_83
  have hm := ine q3_2 hm
  by_cases q3_3 : x1 = 3
  · have hm := ip q3_3 hm
    refine lv_tableIn (off := 81) (tgt := 84) hx hb dX10_count_3 (by rw [q3_3]; decide) (by rw [q3_3]; decide) (by rw [q3_3]; rfl) (by decide) ?_
    refine lv_aload_n hx hb dX10_count_84 rfl (lv_at hl 1 rfl) ?_
    refine va_get (D := D) (ci := 10) (v := .int M_ways) (C := RX10) (T := TX10) (N := 17) hx hb hts hiX10 hown hK.1 hP 0 rfl rfl 5 (by decide) (hts (.fieldLink RX10 54 "IslandBridgesModel" "ways" "I") (List.mem_of_getElem? (i := 2) rfl)) (fun _ h9 => h9) rfl dX10_count_85 ?_
    cases hm
    exact rI () hx hb hr hlk hP hD hS dX10_count_88
  have hm := ine q3_3 hm
  by_cases q3_4 : x1 = 4
  · have hm := ip q3_4 hm
    refine lv_tableIn (off := 86) (tgt := 89) hx hb dX10_count_3 (by rw [q3_4]; decide) (by rw [q3_4]; decide) (by rw [q3_4]; rfl) (by decide) ?_
    refine lv_aload_n hx hb dX10_count_89 rfl (lv_at hl 1 rfl) ?_
    obtain ⟨v4, h_v4, hm⟩ := bd1_inv hm
    refine cVs ⟨hx, hb, hml, hown, hts⟩ (c_X10_allBridges l D cI cJ cS cB a M_pasts M_typed M_ways M_z M_why M_rows M_wide M_column M_found M_s N v4 h_v4) (cwV 0 hts gX10_count_X10_allBridges rfl rfl rfl hd_X10_allBridges ⟨(Nat.le_of_ble_eq_true rfl), (Nat.le_of_ble_eq_true rfl)⟩) hK hP hD hS hA [0, 1] rfl rfl rfl hl.1 (Nat.le_of_ble_eq_true rfl) ⟨Nat.zero_le _, Nat.zero_le _⟩ 0 rfl rfl rfl rfl dX10_count_90 (fun H locs hP hD hS => ?_)
    cases hm
    exact rI () hx hb hr hlk hP hD hS dX10_count_93
  have hm := ine q3_4 hm
  by_cases q3_5 : x1 = 5
  · have hm := ip q3_5 hm
    refine lv_tableIn (off := 91) (tgt := 94) hx hb dX10_count_3 (by rw [q3_5]; decide) (by rw [q3_5]; decide) (by rw [q3_5]; rfl) (by decide) ?_
    refine lv_aload_n hx hb dX10_count_94 rfl (lv_at hl 1 rfl) ?_
    obtain ⟨v5, h_v5, hm⟩ := bd1_inv hm
    refine cVs ⟨hx, hb, hml, hown, hts⟩ (c_X10_complete l D cI cJ cS cB a M_pasts M_typed M_ways M_z M_why M_rows M_wide M_column M_found M_s M_one M_other N v5 h_v5) (cwV 0 hts gX10_count_X10_complete rfl rfl rfl hd_X10_complete ⟨(Nat.le_of_ble_eq_true rfl), (Nat.le_of_ble_eq_true rfl)⟩) hK hP hD hS hA [0, 1, 2, 3] rfl rfl rfl hl.1 (Nat.le_of_ble_eq_true rfl) ⟨Nat.zero_le _, Nat.zero_le _⟩ 0 rfl rfl rfl rfl dX10_count_95 (fun H locs hP hD hS => ?_)
    cases hm
    exact rI () hx hb hr hlk hP hD hS dX10_count_98
  have hm := ine q3_5 hm
  by_cases q3_6 : x1 = 6
  · have hm := ip q3_6 hm
    refine lv_tableIn (off := 96) (tgt := 99) hx hb dX10_count_3 (by rw [q3_6]; decide) (by rw [q3_6]; decide) (by rw [q3_6]; rfl) (by decide) ?_
    refine lv_aload_n hx hb dX10_count_99 rfl (lv_at hl 1 rfl) ?_
    obtain ⟨v6, v7, h_v6, hm⟩ := bd2_inv hm
    refine cVx ⟨hx, hb, hml, hown, hts⟩ (c_X10_groups l D cI cJ cS cB a M_pasts M_typed M_ways M_z M_why M_rows M_wide M_column M_found M_s M_one M_other M_group N v6 v7 h_v6) (cwV 0 hts gX10_count_X10_groups rfl rfl rfl hd_X10_groups ⟨(Nat.le_of_ble_eq_true rfl), (Nat.le_of_ble_eq_true rfl)⟩) hK hP hD hS hA [0, 1, 2, 3, 4] rfl rfl [o_M a M_pasts M_typed M_ways M_z M_why M_rows M_wide M_column M_found, ai (a 36) cI 244 M_s, ai (a 39) cI 48 M_one, ai (a 40) cI 48 M_other, ai (a 41) cI 144 v7] [(true, 0), (true, 1), (true, 2), (true, 3), (true, 4)] rfl rfl rfl hl.1 (Nat.le_of_ble_eq_true rfl) ⟨Nat.zero_le _, Nat.zero_le _⟩ 0 rfl rfl rfl rfl dX10_count_100 (fun H locs hP hD hS => ?_)
    cases hm
    exact rI () hx hb hr hlk hP hD hS dX10_count_103
  have hm := ine q3_6 hm
  by_cases q3_7 : x1 = 7
  · have hm := ip q3_7 hm
    refine lv_tableIn (off := 101) (tgt := 104) hx hb dX10_count_3 (by rw [q3_7]; decide) (by rw [q3_7]; decide) (by rw [q3_7]; rfl) (by decide) ?_
    refine lv_aload_n hx hb dX10_count_104 rfl (lv_at hl 1 rfl) ?_
    obtain ⟨v8, v9, h_v8, hm⟩ := bd2_inv hm
    refine cVx ⟨hx, hb, hml, hown, hts⟩ (c_X10_isSolved l D cI cJ cS cB a M_pasts M_typed M_ways M_z M_why M_rows M_wide M_column M_found M_s M_one M_other M_group N v8 v9 h_v8) (cwV 0 hts gX10_count_X10_isSolved rfl rfl rfl hd_X10_isSolved ⟨(Nat.le_of_ble_eq_true rfl), (Nat.le_of_ble_eq_true rfl)⟩) hK hP hD hS hA [0, 1, 2, 3, 4] rfl rfl [o_M a M_pasts M_typed M_ways M_z M_why M_rows M_wide M_column M_found, ai (a 36) cI 244 M_s, ai (a 39) cI 48 M_one, ai (a 40) cI 48 M_other, ai (a 41) cI 144 v9] [(true, 0), (true, 1), (true, 2), (true, 3), (true, 4)] rfl rfl rfl hl.1 (Nat.le_of_ble_eq_true rfl) ⟨Nat.zero_le _, Nat.zero_le _⟩ 0 rfl rfl rfl rfl dX10_count_105 (fun H locs hP hD hS => ?_)
    refine lv_if_eq (tgt := 115) hx hb dX10_count_108 (by decide) (fun c108 => ?_) (fun c108 => ?_)
    · have hm := ip c108 hm
      refine lv_iconst (v := 0) hx hb dX10_count_115 (by decide) ?_
      cases hm
      exact rI () hx hb hr hlk hP hD hS dX10_count_116
    · have hm := ine c108 hm
      refine lv_iconst (v := 1) hx hb dX10_count_111 (by decide) ?_
      refine lv_goto (tgt := 116) hx hb dX10_count_112 (by decide) ?_
      cases hm
      exact rI () hx hb hr hlk hP hD hS dX10_count_116
  have hm := ine q3_7 hm
  by_cases q3_8 : x1 = 8
  · have hm := ip q3_8 hm
    refine lv_tableIn (off := 114) (tgt := 117) hx hb dX10_count_3 (by rw [q3_8]; decide) (by rw [q3_8]; decide) (by rw [q3_8]; rfl) (by decide) ?_
    refine lv_aload_n hx hb dX10_count_117 rfl (lv_at hl 1 rfl) ?_
    obtain ⟨v10, h_v10, hm⟩ := bd1_inv hm
    refine cVs ⟨hx, hb, hml, hown, hts⟩ (c_X10_isBroken l D cI cJ cS cB a M_pasts M_typed M_ways M_z M_why M_rows M_wide M_column M_found M_s M_one M_other N v10 h_v10) (cwV 0 hts gX10_count_X10_isBroken rfl rfl rfl hd_X10_isBroken ⟨(Nat.le_of_ble_eq_true rfl), (Nat.le_of_ble_eq_true rfl)⟩) hK hP hD hS hA [0, 1, 2, 3] rfl rfl rfl hl.1 (Nat.le_of_ble_eq_true rfl) ⟨Nat.zero_le _, Nat.zero_le _⟩ 0 rfl rfl rfl rfl dX10_count_118 (fun H locs hP hD hS => ?_)
    refine lv_if_eq (tgt := 128) hx hb dX10_count_121 (by decide) (fun c121 => ?_) (fun c121 => ?_)
    · have hm := ip c121 hm
      refine lv_iconst (v := 0) hx hb dX10_count_128 (by decide) ?_
      cases hm
      exact rI () hx hb hr hlk hP hD hS dX10_count_129
    · have hm := ine c121 hm
      refine lv_iconst (v := 1) hx hb dX10_count_124 (by decide) ?_
      refine lv_goto (tgt := 129) hx hb dX10_count_125 (by decide) ?_
      cases hm
      exact rI () hx hb hr hlk hP hD hS dX10_count_129
  have hm := ine q3_8 hm
  by_cases q3_9 : x1 = 9
  · have hm := ip q3_9 hm
    refine lv_tableIn (off := 127) (tgt := 130) hx hb dX10_count_3 (by rw [q3_9]; decide) (by rw [q3_9]; decide) (by rw [q3_9]; rfl) (by decide) ?_
    refine lv_iconst (v := 0) hx hb dX10_count_130 (by decide) ?_
    refine lv_istore_n (lv' := [(3, .int 0), (2, .int 0), (0, .ref (a 35)), (1, .int x1)]) hx hb dX10_count_131 rfl hl (by decide) rfl (fun ls hl => ?_)
    exact h132 M_group N 0 0 hm _ _ hP hD hS ls (lv_sub hl [2, 1, 0] rfl)
  have hm := ine q3_9 hm
  by_cases q3_10 : x1 = 10
  · have hm := ip q3_10 hm
    refine lv_tableIn (off := 153) (tgt := 156) hx hb dX10_count_3 (by rw [q3_10]; decide) (by rw [q3_10]; decide) (by rw [q3_10]; rfl) (by decide) ?_
    refine lv_aload_n hx hb dX10_count_156 rfl (lv_at hl 1 rfl) ?_
    refine va_get (D := D) (ci := 10) (v := .ref (a 36)) (C := RX10) (T := TX10) (N := 17) hx hb hts hiX10 hown hK.1 hP 0 rfl rfl 0 (by decide) (hts (.fieldLink RX10 7 "IslandBridgesModel" "s" "[I") (List.mem_of_getElem? (i := 1) rfl)) (fun _ h9 => h9) rfl dX10_count_157 ?_
    refine lv_iconst (v := 2) hx hb dX10_count_160 (by decide) ?_
    obtain ⟨v18, nv18, ev18, hm⟩ := rd_inv hm
    refine va_iald hx hb hK.1 hP 1 0 rfl rfl nv18 dX10_count_161 ?_
    refine ltop ev18 ?_
    cases hm
    exact rI () hx hb hr hlk hP hD hS dX10_count_162
  have hm := ine q3_10 hm
  by_cases q3_11 : x1 = 11
  · have hm := ip q3_11 hm
    refine lv_tableIn (off := 160) (tgt := 163) hx hb dX10_count_3 (by rw [q3_11]; decide) (by rw [q3_11]; decide) (by rw [q3_11]; rfl) (by decide) ?_
    refine lv_aload_n hx hb dX10_count_163 rfl (lv_at hl 1 rfl) ?_
    refine va_get (D := D) (ci := 10) (v := .ref (a 36)) (C := RX10) (T := TX10) (N := 17) hx hb hts hiX10 hown hK.1 hP 0 rfl rfl 0 (by decide) (hts (.fieldLink RX10 7 "IslandBridgesModel" "s" "[I") (List.mem_of_getElem? (i := 1) rfl)) (fun _ h9 => h9) rfl dX10_count_164 ?_
    refine lv_iconst (v := 3) hx hb dX10_count_167 (by decide) ?_
    obtain ⟨v19, nv19, ev19, hm⟩ := rd_inv hm
    refine va_iald hx hb hK.1 hP 1 0 rfl rfl nv19 dX10_count_168 ?_
    refine ltop ev19 ?_
    cases hm
    exact rI () hx hb hr hlk hP hD hS dX10_count_169
  have hm := ine q3_11 hm
  by_cases q3_12 : x1 = 12
  · have hm := ip q3_12 hm
    refine lv_tableIn (off := 167) (tgt := 170) hx hb dX10_count_3 (by rw [q3_12]; decide) (by rw [q3_12]; decide) (by rw [q3_12]; rfl) (by decide) ?_
    refine lv_aload_n hx hb dX10_count_170 rfl (lv_at hl 1 rfl) ?_
    refine va_get (D := D) (ci := 10) (v := .int M_pasts) (C := RX10) (T := TX10) (N := 17) hx hb hts hiX10 hown hK.1 hP 0 rfl rfl 2 (by decide) (hts (.fieldLink RX10 35 "IslandBridgesModel" "pasts" "I") (List.mem_of_getElem? (i := 3) rfl)) (fun _ h9 => h9) rfl dX10_count_171 ?_
    cases hm
    exact rI () hx hb hr hlk hP hD hS dX10_count_174
  have hm := ine q3_12 hm
  by_cases q3_13 : x1 = 13
  · have hm := ip q3_13 hm
    refine lv_tableIn (off := 172) (tgt := 175) hx hb dX10_count_3 (by rw [q3_13]; decide) (by rw [q3_13]; decide) (by rw [q3_13]; rfl) (by decide) ?_
    refine lv_aload_n hx hb dX10_count_175 rfl (lv_at hl 1 rfl) ?_
    refine va_get (D := D) (ci := 10) (v := .int M_typed) (C := RX10) (T := TX10) (N := 17) hx hb hts hiX10 hown hK.1 hP 0 rfl rfl 4 (by decide) (hts (.fieldLink RX10 147 "IslandBridgesModel" "typed" "I") (List.mem_of_getElem? (i := 4) rfl)) (fun _ h9 => h9) rfl dX10_count_176 ?_
    cases hm
    exact rI () hx hb hr hlk hP hD hS dX10_count_179
  have hm := ine q3_13 hm
  have w3_0 : x1.toInt ≠ 0 := fun h9 => q3_0 (Int32.toInt_inj.mp (h9.trans rfl))
  have w3_1 : x1.toInt ≠ 1 := fun h9 => q3_1 (Int32.toInt_inj.mp (h9.trans rfl))
  have w3_2 : x1.toInt ≠ 2 := fun h9 => q3_2 (Int32.toInt_inj.mp (h9.trans rfl))
  have w3_3 : x1.toInt ≠ 3 := fun h9 => q3_3 (Int32.toInt_inj.mp (h9.trans rfl))
  have w3_4 : x1.toInt ≠ 4 := fun h9 => q3_4 (Int32.toInt_inj.mp (h9.trans rfl))
  have w3_5 : x1.toInt ≠ 5 := fun h9 => q3_5 (Int32.toInt_inj.mp (h9.trans rfl))
  have w3_6 : x1.toInt ≠ 6 := fun h9 => q3_6 (Int32.toInt_inj.mp (h9.trans rfl))
  have w3_7 : x1.toInt ≠ 7 := fun h9 => q3_7 (Int32.toInt_inj.mp (h9.trans rfl))
  have w3_8 : x1.toInt ≠ 8 := fun h9 => q3_8 (Int32.toInt_inj.mp (h9.trans rfl))
  have w3_9 : x1.toInt ≠ 9 := fun h9 => q3_9 (Int32.toInt_inj.mp (h9.trans rfl))
  have w3_10 : x1.toInt ≠ 10 := fun h9 => q3_10 (Int32.toInt_inj.mp (h9.trans rfl))
  have w3_11 : x1.toInt ≠ 11 := fun h9 => q3_11 (Int32.toInt_inj.mp (h9.trans rfl))
  have w3_12 : x1.toInt ≠ 12 := fun h9 => q3_12 (Int32.toInt_inj.mp (h9.trans rfl))
  have w3_13 : x1.toInt ≠ 13 := fun h9 => q3_13 (Int32.toInt_inj.mp (h9.trans rfl))
  refine lv_tableOut (tgt := 180) hx hb dX10_count_3 (by omega) (by decide) ?_
  refine lv_iconst (v := (-1)) hx hb dX10_count_180 (by decide) ?_
  cases hm
  exact rI () hx hb hr hlk hP hD hS dX10_count_181
theorem hd_X10_build : yX10_build.cls = RX10 ∧ yX10_build.cls ≠ "java/lang/invoke/MethodHandle" ∧ yX10_build.cls ≠ "java/lang/invoke/VarHandle" ∧ (parseMethodDescriptor yX10_build.desc).map (fun d => d.parameters.length) = some 1 := by decide +kernel
def m_X10_build (N : Nat) (M_pasts : Int32) (M_ways : Int32) (M_s : Nat → Int32) (M_past : Nat → Int32) (M_one : Nat → Int32) (M_other : Nat → Int32) (x1 : Int32) : Option (Int32 × Int32 × (Nat → Int32) × (Nat → Int32)) :=
  bd1 (m_X10_isWay M_ways x1) (fun v1 => if v1 = 0 then (some (((-1), M_pasts, M_s, M_past))) else (bd1 (m_X10_reason N M_ways M_s M_one M_other x1) (fun v2 => if v2 = 0 then (bd2 (m_X10_notes N M_pasts M_s M_past) (fun v3 v4 => rd 244 M_s (148 + x1) (fun v5 => wr 244 M_s (148 + x1) (v5 + 1) (fun v6 => bd1 (m_X10_bridges v6 x1) (fun v7 => some ((v7, v3, v6, v4))))))) else (some (((-2), M_pasts, M_s, M_past))))))
set_option maxHeartbeats 4000000 in
set_option maxRecDepth 100000 in
theorem c_X10_build (l : Launch) (D : va_G) (cI cJ cS cB : ClassId) (a : Nat → Nat) (M_pasts : Int32) (M_typed : Int32) (M_ways : Int32) (M_z : Int32) (M_why : Int32) (M_rows : Int32) (M_wide : Int32) (M_column : Int32) (M_found : Int32) (M_s : Nat → Int32) (M_past : Nat → Int32) (M_one : Nat → Int32) (M_other : Nat → Int32) (x1 : Int32) (N : Nat) (r0 : Int32) (M_pasts' : Int32) (M_s' : Nat → Int32) (M_past' : Nat → Int32) (hm : m_X10_build N M_pasts M_ways M_s M_past M_one M_other x1 = some (r0, M_pasts', M_s', M_past')) :
    mU l D (TYs cI cJ cS cB) yX10_build wsX10_build { frames := 5, cells := 0, slots := 0, locals := 114 } [.ref (a 35), .int x1] [o_M a M_pasts M_typed M_ways M_z M_why M_rows M_wide M_column M_found, ai (a 36) cI 244 M_s, ai (a 37) cI 976 M_past, ai (a 39) cI 48 M_one, ai (a 40) cI 48 M_other] [o_M a M_pasts' M_typed M_ways M_z M_why M_rows M_wide M_column M_found, ai (a 36) cI 244 M_s', ai (a 37) cI 976 M_past', ai (a 39) cI 48 M_one, ai (a 40) cI 48 M_other] (some (.int r0)) := by
  refine mG_of (cc := cX10_build) (maxL := 2) (ret := (some .int)) (by decide) rfl rfl (Nat.le_of_ble_eq_true rfl) ?_
  intro p e s m args below meth c A hx hb hr hml hlk hnm hts hown hK hP hD hA hS ls hl
  have hl : lv_has ls 2 [(0, .ref (a 35)), (1, .int x1)] := hl
  have hiX10 : ∀ w ∈ wsX100, w ∈ wsX10_build := fun w h => List.mem_cons_of_mem _ (List.mem_append_right _ h)
  unfold m_X10_build at hm
  refine lv_aload_n hx hb dX10_build_0 rfl (lv_at hl 0 rfl) ?_
  refine lv_iload_n hx hb dX10_build_1 rfl (lv_at hl 1 rfl) ?_
  obtain ⟨v1, h_v1, hm⟩ := bd1_inv hm
  refine cVs ⟨hx, hb, hml, hown, hts⟩ (c_X10_isWay l D cI cJ cS cB a M_pasts M_typed M_ways M_z M_why M_rows M_wide M_column M_found x1 v1 h_v1) (cwV 1 hts gX10_build_X10_isWay rfl rfl rfl hd_X10_isWay ⟨(Nat.le_of_ble_eq_true rfl), (Nat.le_of_ble_eq_true rfl)⟩) hK hP hD hS hA [0] rfl rfl rfl hl.1 (Nat.le_of_ble_eq_true rfl) ⟨Nat.zero_le _, Nat.zero_le _⟩ 0 rfl rfl rfl rfl dX10_build_2 (fun H locs hP hD hS => ?_)
  refine lv_if_ne (tgt := 10) hx hb dX10_build_5 (by decide) (fun c5 => ?_) (fun c5 => ?_)
  · have hm := ine c5 hm
    refine lv_aload_n hx hb dX10_build_10 rfl (lv_at hl 0 rfl) ?_
    refine lv_iload_n hx hb dX10_build_11 rfl (lv_at hl 1 rfl) ?_
    obtain ⟨v2, h_v2, hm⟩ := bd1_inv hm
    refine cVs ⟨hx, hb, hml, hown, hts⟩ (c_X10_reason l D cI cJ cS cB a M_pasts M_typed M_ways M_z M_why M_rows M_wide M_column M_found M_s M_one M_other x1 N v2 h_v2) (cwV 1 hts gX10_build_X10_reason rfl rfl rfl hd_X10_reason ⟨(Nat.le_of_ble_eq_true rfl), (Nat.le_of_ble_eq_true rfl)⟩) hK hP hD hS hA [0, 1, 3, 4] rfl rfl rfl hl.1 (Nat.le_of_ble_eq_true rfl) ⟨Nat.zero_le _, Nat.zero_le _⟩ 0 rfl rfl rfl rfl dX10_build_12 (fun H locs hP hD hS => ?_)
    refine lv_if_eq (tgt := 21) hx hb dX10_build_15 (by decide) (fun c15 => ?_) (fun c15 => ?_)
    · have hm := ip c15 hm
      refine lv_aload_n hx hb dX10_build_21 rfl (lv_at hl 0 rfl) ?_
      obtain ⟨v3, v4, h_v3, hm⟩ := bd2_inv hm
      refine cVx ⟨hx, hb, hml, hown, hts⟩ (c_X10_notes l D cI cJ cS cB a M_pasts M_typed M_ways M_z M_why M_rows M_wide M_column M_found M_s M_past N v3 v4 h_v3) (cwV 0 hts gX10_build_X10_notes rfl rfl rfl hd_X10_notes ⟨(Nat.le_of_ble_eq_true rfl), (Nat.le_of_ble_eq_true rfl)⟩) hK hP hD hS hA [0, 1, 2] rfl rfl [o_M a v3 M_typed M_ways M_z M_why M_rows M_wide M_column M_found, ai (a 36) cI 244 M_s, ai (a 37) cI 976 v4, ai (a 39) cI 48 M_one, ai (a 40) cI 48 M_other] [(true, 0), (true, 1), (true, 2), (false, 3), (false, 4)] rfl rfl rfl hl.1 (Nat.le_of_ble_eq_true rfl) ⟨Nat.zero_le _, Nat.zero_le _⟩ 0 rfl rfl rfl rfl dX10_build_22 (fun H locs hP hD hS => ?_)
      refine lv_aload_n hx hb dX10_build_25 rfl (lv_at hl 0 rfl) ?_
      refine va_get (D := D) (ci := 10) (v := .ref (a 36)) (C := RX10) (T := TX10) (N := 17) hx hb hts hiX10 hown hK.1 hP 0 rfl rfl 0 (by decide) (hts (.fieldLink RX10 7 "IslandBridgesModel" "s" "[I") (List.mem_of_getElem? (i := 1) rfl)) (fun _ h9 => h9) rfl dX10_build_26 ?_
      refine lv_sipush (v := 148) hx hb dX10_build_29 (by decide) ?_
      refine lv_iload_n hx hb dX10_build_32 rfl (lv_at hl 1 rfl) ?_
      refine lv_iadd hx hb dX10_build_33 ?_
      refine lv_dup2_11 hx hb dX10_build_34 rfl rfl ?_
      obtain ⟨v5, nv5, ev5, hm⟩ := rd_inv hm
      refine va_iald hx hb hK.1 hP 1 0 rfl rfl nv5 dX10_build_35 ?_
      refine ltop ev5 ?_
      refine lv_iconst (v := 1) hx hb dX10_build_36 (by decide) ?_
      refine lv_iadd hx hb dX10_build_37 ?_
      obtain ⟨v6, nv6, ev6, hm⟩ := wr_inv hm
      refine va_iast hx hb hK.1 hP hD hS 1 0 rfl rfl nv6 dX10_build_38 (fun H locs hP hD hS => ?_)
      have hP : va_P D vwCl [o_M a v3 M_typed M_ways M_z M_why M_rows M_wide M_column M_found, ai (a 36) cI 244 v6, ai (a 37) cI 976 v4, ai (a 39) cI 48 M_one, ai (a 40) cI 48 M_other] H := by rw [← ev6]; exact hP
      have hD : va_D A [o_M a v3 M_typed M_ways M_z M_why M_rows M_wide M_column M_found, ai (a 36) cI 244 v6, ai (a 37) cI 976 v4, ai (a 39) cI 48 M_one, ai (a 40) cI 48 M_other] := by rw [← ev6]; exact hD
      refine lv_aload_n hx hb dX10_build_39 rfl (lv_at hl 0 rfl) ?_
      refine lv_iload_n hx hb dX10_build_40 rfl (lv_at hl 1 rfl) ?_
      obtain ⟨v7, h_v7, hm⟩ := bd1_inv hm
      refine cVs ⟨hx, hb, hml, hown, hts⟩ (c_X10_bridges l D cI cJ cS cB a v3 M_typed M_ways M_z M_why M_rows M_wide M_column M_found v6 x1 v7 h_v7) (cwV 1 hts gX10_build_X10_bridges rfl rfl rfl hd_X10_bridges ⟨(Nat.le_of_ble_eq_true rfl), (Nat.le_of_ble_eq_true rfl)⟩) hK hP hD hS hA [0, 1] rfl rfl rfl hl.1 (Nat.le_of_ble_eq_true rfl) ⟨Nat.zero_le _, Nat.zero_le _⟩ 0 rfl rfl rfl rfl dX10_build_41 (fun H locs hP hD hS => ?_)
      cases hm
      exact rI () hx hb hr hlk hP hD hS dX10_build_44
    · have hm := ine c15 hm
      refine lv_bipush (v := (-2)) hx hb dX10_build_18 (by decide) ?_
      cases hm
      exact rI () hx hb hr hlk hP hD hS dX10_build_20
  · have hm := ip c5 hm
    refine lv_iconst (v := (-1)) hx hb dX10_build_8 (by decide) ?_
    cases hm
    exact rI () hx hb hr hlk hP hD hS dX10_build_9
theorem hd_X10_take : yX10_take.cls = RX10 ∧ yX10_take.cls ≠ "java/lang/invoke/MethodHandle" ∧ yX10_take.cls ≠ "java/lang/invoke/VarHandle" ∧ (parseMethodDescriptor yX10_take.desc).map (fun d => d.parameters.length) = some 1 := by decide +kernel
def m_X10_take (N : Nat) (M_pasts : Int32) (M_ways : Int32) (M_s : Nat → Int32) (M_past : Nat → Int32) (x1 : Int32) : Option (Int32 × Int32 × (Nat → Int32) × (Nat → Int32)) :=
  bd1 (m_X10_isWay M_ways x1) (fun v1 => if v1 = 0 then (some (((-1), M_pasts, M_s, M_past))) else (bd1 (m_X10_bridges M_s x1) (fun v2 => if v2 = 0 then (some (((-2), M_pasts, M_s, M_past))) else (bd2 (m_X10_notes N M_pasts M_s M_past) (fun v3 v4 => rd 244 M_s (148 + x1) (fun v5 => wr 244 M_s (148 + x1) (v5 - 1) (fun v6 => bd1 (m_X10_bridges v6 x1) (fun v7 => some ((v7, v3, v6, v4))))))))))
set_option maxHeartbeats 4000000 in
set_option maxRecDepth 100000 in
theorem c_X10_take (l : Launch) (D : va_G) (cI cJ cS cB : ClassId) (a : Nat → Nat) (M_pasts : Int32) (M_typed : Int32) (M_ways : Int32) (M_z : Int32) (M_why : Int32) (M_rows : Int32) (M_wide : Int32) (M_column : Int32) (M_found : Int32) (M_s : Nat → Int32) (M_past : Nat → Int32) (x1 : Int32) (N : Nat) (r0 : Int32) (M_pasts' : Int32) (M_s' : Nat → Int32) (M_past' : Nat → Int32) (hm : m_X10_take N M_pasts M_ways M_s M_past x1 = some (r0, M_pasts', M_s', M_past')) :
    mU l D (TYs cI cJ cS cB) yX10_take wsX10_take { frames := 2, cells := 0, slots := 0, locals := 43 } [.ref (a 35), .int x1] [o_M a M_pasts M_typed M_ways M_z M_why M_rows M_wide M_column M_found, ai (a 36) cI 244 M_s, ai (a 37) cI 976 M_past] [o_M a M_pasts' M_typed M_ways M_z M_why M_rows M_wide M_column M_found, ai (a 36) cI 244 M_s', ai (a 37) cI 976 M_past'] (some (.int r0)) := by
  refine mG_of (cc := cX10_take) (maxL := 2) (ret := (some .int)) (by decide) rfl rfl (Nat.le_of_ble_eq_true rfl) ?_
  intro p e s m args below meth c A hx hb hr hml hlk hnm hts hown hK hP hD hA hS ls hl
  have hl : lv_has ls 2 [(0, .ref (a 35)), (1, .int x1)] := hl
  have hiX10 : ∀ w ∈ wsX100, w ∈ wsX10_take := fun w h => List.mem_cons_of_mem _ (List.mem_append_right _ h)
  unfold m_X10_take at hm
  refine lv_aload_n hx hb dX10_take_0 rfl (lv_at hl 0 rfl) ?_
  refine lv_iload_n hx hb dX10_take_1 rfl (lv_at hl 1 rfl) ?_
  obtain ⟨v1, h_v1, hm⟩ := bd1_inv hm
  refine cVs ⟨hx, hb, hml, hown, hts⟩ (c_X10_isWay l D cI cJ cS cB a M_pasts M_typed M_ways M_z M_why M_rows M_wide M_column M_found x1 v1 h_v1) (cwV 1 hts gX10_take_X10_isWay rfl rfl rfl hd_X10_isWay ⟨(Nat.le_of_ble_eq_true rfl), (Nat.le_of_ble_eq_true rfl)⟩) hK hP hD hS hA [0] rfl rfl rfl hl.1 (Nat.le_of_ble_eq_true rfl) ⟨Nat.zero_le _, Nat.zero_le _⟩ 0 rfl rfl rfl rfl dX10_take_2 (fun H locs hP hD hS => ?_)
  refine lv_if_ne (tgt := 10) hx hb dX10_take_5 (by decide) (fun c5 => ?_) (fun c5 => ?_)
  · have hm := ine c5 hm
    refine lv_aload_n hx hb dX10_take_10 rfl (lv_at hl 0 rfl) ?_
    refine lv_iload_n hx hb dX10_take_11 rfl (lv_at hl 1 rfl) ?_
    obtain ⟨v2, h_v2, hm⟩ := bd1_inv hm
    refine cVs ⟨hx, hb, hml, hown, hts⟩ (c_X10_bridges l D cI cJ cS cB a M_pasts M_typed M_ways M_z M_why M_rows M_wide M_column M_found M_s x1 v2 h_v2) (cwV 1 hts gX10_take_X10_bridges rfl rfl rfl hd_X10_bridges ⟨(Nat.le_of_ble_eq_true rfl), (Nat.le_of_ble_eq_true rfl)⟩) hK hP hD hS hA [0, 1] rfl rfl rfl hl.1 (Nat.le_of_ble_eq_true rfl) ⟨Nat.zero_le _, Nat.zero_le _⟩ 0 rfl rfl rfl rfl dX10_take_12 (fun H locs hP hD hS => ?_)
    refine lv_if_ne (tgt := 21) hx hb dX10_take_15 (by decide) (fun c15 => ?_) (fun c15 => ?_)
    · have hm := ine c15 hm
      refine lv_aload_n hx hb dX10_take_21 rfl (lv_at hl 0 rfl) ?_
      obtain ⟨v3, v4, h_v3, hm⟩ := bd2_inv hm
      refine cVx ⟨hx, hb, hml, hown, hts⟩ (c_X10_notes l D cI cJ cS cB a M_pasts M_typed M_ways M_z M_why M_rows M_wide M_column M_found M_s M_past N v3 v4 h_v3) (cwV 0 hts gX10_take_X10_notes rfl rfl rfl hd_X10_notes ⟨(Nat.le_of_ble_eq_true rfl), (Nat.le_of_ble_eq_true rfl)⟩) hK hP hD hS hA [0, 1, 2] rfl rfl [o_M a v3 M_typed M_ways M_z M_why M_rows M_wide M_column M_found, ai (a 36) cI 244 M_s, ai (a 37) cI 976 v4] [(true, 0), (true, 1), (true, 2)] rfl rfl rfl hl.1 (Nat.le_of_ble_eq_true rfl) ⟨Nat.zero_le _, Nat.zero_le _⟩ 0 rfl rfl rfl rfl dX10_take_22 (fun H locs hP hD hS => ?_)
      refine lv_aload_n hx hb dX10_take_25 rfl (lv_at hl 0 rfl) ?_
      refine va_get (D := D) (ci := 10) (v := .ref (a 36)) (C := RX10) (T := TX10) (N := 17) hx hb hts hiX10 hown hK.1 hP 0 rfl rfl 0 (by decide) (hts (.fieldLink RX10 7 "IslandBridgesModel" "s" "[I") (List.mem_of_getElem? (i := 1) rfl)) (fun _ h9 => h9) rfl dX10_take_26 ?_
      refine lv_sipush (v := 148) hx hb dX10_take_29 (by decide) ?_
      refine lv_iload_n hx hb dX10_take_32 rfl (lv_at hl 1 rfl) ?_
      refine lv_iadd hx hb dX10_take_33 ?_
      refine lv_dup2_11 hx hb dX10_take_34 rfl rfl ?_
      obtain ⟨v5, nv5, ev5, hm⟩ := rd_inv hm
      refine va_iald hx hb hK.1 hP 1 0 rfl rfl nv5 dX10_take_35 ?_
      refine ltop ev5 ?_
      refine lv_iconst (v := 1) hx hb dX10_take_36 (by decide) ?_
      refine lv_isub hx hb dX10_take_37 ?_
      obtain ⟨v6, nv6, ev6, hm⟩ := wr_inv hm
      refine va_iast hx hb hK.1 hP hD hS 1 0 rfl rfl nv6 dX10_take_38 (fun H locs hP hD hS => ?_)
      have hP : va_P D vwCl [o_M a v3 M_typed M_ways M_z M_why M_rows M_wide M_column M_found, ai (a 36) cI 244 v6, ai (a 37) cI 976 v4] H := by rw [← ev6]; exact hP
      have hD : va_D A [o_M a v3 M_typed M_ways M_z M_why M_rows M_wide M_column M_found, ai (a 36) cI 244 v6, ai (a 37) cI 976 v4] := by rw [← ev6]; exact hD
      refine lv_aload_n hx hb dX10_take_39 rfl (lv_at hl 0 rfl) ?_
      refine lv_iload_n hx hb dX10_take_40 rfl (lv_at hl 1 rfl) ?_
      obtain ⟨v7, h_v7, hm⟩ := bd1_inv hm
      refine cVs ⟨hx, hb, hml, hown, hts⟩ (c_X10_bridges l D cI cJ cS cB a v3 M_typed M_ways M_z M_why M_rows M_wide M_column M_found v6 x1 v7 h_v7) (cwV 1 hts gX10_take_X10_bridges rfl rfl rfl hd_X10_bridges ⟨(Nat.le_of_ble_eq_true rfl), (Nat.le_of_ble_eq_true rfl)⟩) hK hP hD hS hA [0, 1] rfl rfl rfl hl.1 (Nat.le_of_ble_eq_true rfl) ⟨Nat.zero_le _, Nat.zero_le _⟩ 0 rfl rfl rfl rfl dX10_take_41 (fun H locs hP hD hS => ?_)
      cases hm
      exact rI () hx hb hr hlk hP hD hS dX10_take_44
    · have hm := ip c15 hm
      refine lv_bipush (v := (-2)) hx hb dX10_take_18 (by decide) ?_
      cases hm
      exact rI () hx hb hr hlk hP hD hS dX10_take_20
  · have hm := ip c5 hm
    refine lv_iconst (v := (-1)) hx hb dX10_take_8 (by decide) ?_
    cases hm
    exact rI () hx hb hr hlk hP hD hS dX10_take_9
theorem hd_X10_cap : yX10_cap.cls = RX10 ∧ yX10_cap.cls ≠ "java/lang/invoke/MethodHandle" ∧ yX10_cap.cls ≠ "java/lang/invoke/VarHandle" ∧ (parseMethodDescriptor yX10_cap.desc).map (fun d => d.parameters.length) = some 2 := by decide +kernel
def m_X10_cap (N : Nat) (M_pasts : Int32) (M_ways : Int32) (M_s : Nat → Int32) (M_past : Nat → Int32) (x1 : Int32) (x2 : Int32) : Option (Int32 × Int32 × (Nat → Int32) × (Nat → Int32)) :=
  bd1 (m_X10_isWay M_ways x1) (fun v1 => if v1 = 0 then (some (((-1), M_pasts, M_s, M_past))) else (lt1 (m_X10_in x2 0 2) (fun v2 => if v2 = 0 then (some (((-1), M_pasts, M_s, M_past))) else (bd1 (m_X10_bridges M_s x1) (fun v3 => if v3 ≤ x2 then (bd2 (m_X10_notes N M_pasts M_s M_past) (fun v4 v5 => bd1 (m_X10_capOf M_s x1) (fun v6 => wr 244 M_s (196 + x1) x2 (fun v7 => some ((v6, v4, v7, v5)))))) else (some (((-2), M_pasts, M_s, M_past))))))))
set_option maxHeartbeats 4000000 in
set_option maxRecDepth 100000 in
theorem c_X10_cap (l : Launch) (D : va_G) (cI cJ cS cB : ClassId) (a : Nat → Nat) (M_pasts : Int32) (M_typed : Int32) (M_ways : Int32) (M_z : Int32) (M_why : Int32) (M_rows : Int32) (M_wide : Int32) (M_column : Int32) (M_found : Int32) (M_s : Nat → Int32) (M_past : Nat → Int32) (x1 : Int32) (x2 : Int32) (N : Nat) (r0 : Int32) (M_pasts' : Int32) (M_s' : Nat → Int32) (M_past' : Nat → Int32) (hm : m_X10_cap N M_pasts M_ways M_s M_past x1 x2 = some (r0, M_pasts', M_s', M_past')) :
    mU l D (TYs cI cJ cS cB) yX10_cap wsX10_cap { frames := 2, cells := 0, slots := 0, locals := 43 } [.ref (a 35), .int x1, .int x2] [o_M a M_pasts M_typed M_ways M_z M_why M_rows M_wide M_column M_found, ai (a 36) cI 244 M_s, ai (a 37) cI 976 M_past] [o_M a M_pasts' M_typed M_ways M_z M_why M_rows M_wide M_column M_found, ai (a 36) cI 244 M_s', ai (a 37) cI 976 M_past'] (some (.int r0)) := by
  refine mG_of (cc := cX10_cap) (maxL := 4) (ret := (some .int)) (by decide) rfl rfl (Nat.le_of_ble_eq_true rfl) ?_
  intro p e s m args below meth c A hx hb hr hml hlk hnm hts hown hK hP hD hA hS ls hl
  have hl : lv_has ls 4 [(0, .ref (a 35)), (1, .int x1), (2, .int x2)] := hl
  have hiX10 : ∀ w ∈ wsX100, w ∈ wsX10_cap := fun w h => List.mem_cons_of_mem _ (List.mem_append_right _ h)
  unfold m_X10_cap at hm
  refine lv_aload_n hx hb dX10_cap_0 rfl (lv_at hl 0 rfl) ?_
  refine lv_iload_n hx hb dX10_cap_1 rfl (lv_at hl 1 rfl) ?_
  obtain ⟨v1, h_v1, hm⟩ := bd1_inv hm
  refine cVs ⟨hx, hb, hml, hown, hts⟩ (c_X10_isWay l D cI cJ cS cB a M_pasts M_typed M_ways M_z M_why M_rows M_wide M_column M_found x1 v1 h_v1) (cwV 1 hts gX10_cap_X10_isWay rfl rfl rfl hd_X10_isWay ⟨(Nat.le_of_ble_eq_true rfl), (Nat.le_of_ble_eq_true rfl)⟩) hK hP hD hS hA [0] rfl rfl rfl hl.1 (Nat.le_of_ble_eq_true rfl) ⟨Nat.zero_le _, Nat.zero_le _⟩ 0 rfl rfl rfl rfl dX10_cap_2 (fun H locs hP hD hS => ?_)
  refine lv_if_eq (tgt := 17) hx hb dX10_cap_5 (by decide) (fun c5 => ?_) (fun c5 => ?_)
  · have hm := ip c5 hm
    refine lv_iconst (v := (-1)) hx hb dX10_cap_17 (by decide) ?_
    cases hm
    exact rI () hx hb hr hlk hP hD hS dX10_cap_18
  · have hm := ine c5 hm
    refine lv_iload_n hx hb dX10_cap_8 rfl (lv_at hl 2 rfl) ?_
    refine lv_iconst (v := 0) hx hb dX10_cap_9 (by decide) ?_
    refine lv_iconst (v := 2) hx hb dX10_cap_10 (by decide) ?_
    obtain ⟨v2, h_v2, hm⟩ := lt1_inv hm
    refine cSs ⟨hx, hb, hml, hown, hts⟩ (c_X10_in l D cI cJ cS cB a  x2 0 2 v2 h_v2) (va_cwS 3 hts gX10_cap_X10_in rfl rfl rfl hd_X10_in ⟨(Nat.le_of_ble_eq_true rfl), (Nat.le_of_ble_eq_true rfl)⟩) hK hP hD hS hA [] rfl rfl rfl hl.1 (Nat.le_of_ble_eq_true rfl) ⟨Nat.zero_le _, Nat.zero_le _⟩ rfl dX10_cap_11 (fun H locs hP hD hS => ?_)
    refine lv_if_ne (tgt := 19) hx hb dX10_cap_14 (by decide) (fun c14 => ?_) (fun c14 => ?_)
    · have hm := ine c14 hm
      refine lv_aload_n hx hb dX10_cap_19 rfl (lv_at hl 0 rfl) ?_
      refine lv_iload_n hx hb dX10_cap_20 rfl (lv_at hl 1 rfl) ?_
      obtain ⟨v3, h_v3, hm⟩ := bd1_inv hm
      refine cVs ⟨hx, hb, hml, hown, hts⟩ (c_X10_bridges l D cI cJ cS cB a M_pasts M_typed M_ways M_z M_why M_rows M_wide M_column M_found M_s x1 v3 h_v3) (cwV 1 hts gX10_cap_X10_bridges rfl rfl rfl hd_X10_bridges ⟨(Nat.le_of_ble_eq_true rfl), (Nat.le_of_ble_eq_true rfl)⟩) hK hP hD hS hA [0, 1] rfl rfl rfl hl.1 (Nat.le_of_ble_eq_true rfl) ⟨Nat.zero_le _, Nat.zero_le _⟩ 0 rfl rfl rfl rfl dX10_cap_21 (fun H locs hP hD hS => ?_)
      refine lv_iload_n hx hb dX10_cap_24 rfl (lv_at hl 2 rfl) ?_
      refine lv_icmp_le (tgt := 31) hx hb dX10_cap_25 (by decide) (fun c25 => ?_) (fun c25 => ?_)
      · have hm := ip c25 hm
        refine lv_aload_n hx hb dX10_cap_31 rfl (lv_at hl 0 rfl) ?_
        obtain ⟨v4, v5, h_v4, hm⟩ := bd2_inv hm
        refine cVx ⟨hx, hb, hml, hown, hts⟩ (c_X10_notes l D cI cJ cS cB a M_pasts M_typed M_ways M_z M_why M_rows M_wide M_column M_found M_s M_past N v4 v5 h_v4) (cwV 0 hts gX10_cap_X10_notes rfl rfl rfl hd_X10_notes ⟨(Nat.le_of_ble_eq_true rfl), (Nat.le_of_ble_eq_true rfl)⟩) hK hP hD hS hA [0, 1, 2] rfl rfl [o_M a v4 M_typed M_ways M_z M_why M_rows M_wide M_column M_found, ai (a 36) cI 244 M_s, ai (a 37) cI 976 v5] [(true, 0), (true, 1), (true, 2)] rfl rfl rfl hl.1 (Nat.le_of_ble_eq_true rfl) ⟨Nat.zero_le _, Nat.zero_le _⟩ 0 rfl rfl rfl rfl dX10_cap_32 (fun H locs hP hD hS => ?_)
        refine lv_aload_n hx hb dX10_cap_35 rfl (lv_at hl 0 rfl) ?_
        refine lv_iload_n hx hb dX10_cap_36 rfl (lv_at hl 1 rfl) ?_
        obtain ⟨v6, h_v6, hm⟩ := bd1_inv hm
        refine cVs ⟨hx, hb, hml, hown, hts⟩ (c_X10_capOf l D cI cJ cS cB a v4 M_typed M_ways M_z M_why M_rows M_wide M_column M_found M_s x1 v6 h_v6) (cwV 1 hts gX10_cap_X10_capOf rfl rfl rfl hd_X10_capOf ⟨(Nat.le_of_ble_eq_true rfl), (Nat.le_of_ble_eq_true rfl)⟩) hK hP hD hS hA [0, 1] rfl rfl rfl hl.1 (Nat.le_of_ble_eq_true rfl) ⟨Nat.zero_le _, Nat.zero_le _⟩ 0 rfl rfl rfl rfl dX10_cap_37 (fun H locs hP hD hS => ?_)
        refine lv_istore_n (lv' := [(3, .int v6), (0, .ref (a 35)), (1, .int x1), (2, .int x2)]) hx hb dX10_cap_40 rfl hl (by decide) rfl (fun ls hl => ?_)
        refine lv_aload_n hx hb dX10_cap_41 rfl (lv_at hl 1 rfl) ?_
        refine va_get (D := D) (ci := 10) (v := .ref (a 36)) (C := RX10) (T := TX10) (N := 17) hx hb hts hiX10 hown hK.1 hP 0 rfl rfl 0 (by decide) (hts (.fieldLink RX10 7 "IslandBridgesModel" "s" "[I") (List.mem_of_getElem? (i := 1) rfl)) (fun _ h9 => h9) rfl dX10_cap_42 ?_
        refine lv_sipush (v := 196) hx hb dX10_cap_45 (by decide) ?_
        refine lv_iload_n hx hb dX10_cap_48 rfl (lv_at hl 2 rfl) ?_
        refine lv_iadd hx hb dX10_cap_49 ?_
        refine lv_iload_n hx hb dX10_cap_50 rfl (lv_at hl 3 rfl) ?_
        obtain ⟨v7, nv7, ev7, hm⟩ := wr_inv hm
        refine va_iast hx hb hK.1 hP hD hS 1 0 rfl rfl nv7 dX10_cap_51 (fun H locs hP hD hS => ?_)
        have hP : va_P D vwCl [o_M a v4 M_typed M_ways M_z M_why M_rows M_wide M_column M_found, ai (a 36) cI 244 v7, ai (a 37) cI 976 v5] H := by rw [← ev7]; exact hP
        have hD : va_D A [o_M a v4 M_typed M_ways M_z M_why M_rows M_wide M_column M_found, ai (a 36) cI 244 v7, ai (a 37) cI 976 v5] := by rw [← ev7]; exact hD
        refine lv_iload_n hx hb dX10_cap_52 rfl (lv_at hl 0 rfl) ?_
        cases hm
        exact rI () hx hb hr hlk hP hD hS dX10_cap_53
      · have hm := ine c25 hm
        refine lv_bipush (v := (-2)) hx hb dX10_cap_28 (by decide) ?_
        cases hm
        exact rI () hx hb hr hlk hP hD hS dX10_cap_30
    · have hm := ip c14 hm
      refine lv_iconst (v := (-1)) hx hb dX10_cap_17 (by decide) ?_
      cases hm
      exact rI () hx hb hr hlk hP hD hS dX10_cap_18
theorem hd_X10_clear : yX10_clear.cls = RX10 ∧ yX10_clear.cls ≠ "java/lang/invoke/MethodHandle" ∧ yX10_clear.cls ≠ "java/lang/invoke/VarHandle" ∧ (parseMethodDescriptor yX10_clear.desc).map (fun d => d.parameters.length) = some 0 := by decide +kernel
def m_X10_clear (N : Nat) (M_pasts : Int32) (M_ways : Int32) (M_s : Nat → Int32) (M_past : Nat → Int32) : Option (Int32 × Int32 × (Nat → Int32) × (Nat → Int32)) :=
  bd2 (m_X10_notes N M_pasts M_s M_past) (fun v1 v2 => bd1 (m_X10_allBridges N M_ways M_s) (fun v3 => bd1 (m_X10_clears N M_s) (fun v4 => some ((v3, v1, v4, v2)))))
set_option maxHeartbeats 4000000 in
set_option maxRecDepth 100000 in
theorem c_X10_clear (l : Launch) (D : va_G) (cI cJ cS cB : ClassId) (a : Nat → Nat) (M_pasts : Int32) (M_typed : Int32) (M_ways : Int32) (M_z : Int32) (M_why : Int32) (M_rows : Int32) (M_wide : Int32) (M_column : Int32) (M_found : Int32) (M_s : Nat → Int32) (M_past : Nat → Int32)  (N : Nat) (r0 : Int32) (M_pasts' : Int32) (M_s' : Nat → Int32) (M_past' : Nat → Int32) (hm : m_X10_clear N M_pasts M_ways M_s M_past = some (r0, M_pasts', M_s', M_past')) :
    mU l D (TYs cI cJ cS cB) yX10_clear wsX10_clear { frames := 2, cells := 0, slots := 0, locals := 43 } [.ref (a 35)] [o_M a M_pasts M_typed M_ways M_z M_why M_rows M_wide M_column M_found, ai (a 36) cI 244 M_s, ai (a 37) cI 976 M_past] [o_M a M_pasts' M_typed M_ways M_z M_why M_rows M_wide M_column M_found, ai (a 36) cI 244 M_s', ai (a 37) cI 976 M_past'] (some (.int r0)) := by
  refine mG_of (cc := cX10_clear) (maxL := 2) (ret := (some .int)) (by decide) rfl rfl (Nat.le_of_ble_eq_true rfl) ?_
  intro p e s m args below meth c A hx hb hr hml hlk hnm hts hown hK hP hD hA hS ls hl
  have hl : lv_has ls 2 [(0, .ref (a 35))] := hl
  have hiX10 : ∀ w ∈ wsX100, w ∈ wsX10_clear := fun w h => List.mem_cons_of_mem _ (List.mem_append_right _ h)
  unfold m_X10_clear at hm
  refine lv_aload_n hx hb dX10_clear_0 rfl (lv_at hl 0 rfl) ?_
  obtain ⟨v1, v2, h_v1, hm⟩ := bd2_inv hm
  refine cVx ⟨hx, hb, hml, hown, hts⟩ (c_X10_notes l D cI cJ cS cB a M_pasts M_typed M_ways M_z M_why M_rows M_wide M_column M_found M_s M_past N v1 v2 h_v1) (cwV 0 hts gX10_clear_X10_notes rfl rfl rfl hd_X10_notes ⟨(Nat.le_of_ble_eq_true rfl), (Nat.le_of_ble_eq_true rfl)⟩) hK hP hD hS hA [0, 1, 2] rfl rfl [o_M a v1 M_typed M_ways M_z M_why M_rows M_wide M_column M_found, ai (a 36) cI 244 M_s, ai (a 37) cI 976 v2] [(true, 0), (true, 1), (true, 2)] rfl rfl rfl hl.1 (Nat.le_of_ble_eq_true rfl) ⟨Nat.zero_le _, Nat.zero_le _⟩ 0 rfl rfl rfl rfl dX10_clear_1 (fun H locs hP hD hS => ?_)
  refine lv_aload_n hx hb dX10_clear_4 rfl (lv_at hl 0 rfl) ?_
  obtain ⟨v3, h_v3, hm⟩ := bd1_inv hm
  refine cVs ⟨hx, hb, hml, hown, hts⟩ (c_X10_allBridges l D cI cJ cS cB a v1 M_typed M_ways M_z M_why M_rows M_wide M_column M_found M_s N v3 h_v3) (cwV 0 hts gX10_clear_X10_allBridges rfl rfl rfl hd_X10_allBridges ⟨(Nat.le_of_ble_eq_true rfl), (Nat.le_of_ble_eq_true rfl)⟩) hK hP hD hS hA [0, 1] rfl rfl rfl hl.1 (Nat.le_of_ble_eq_true rfl) ⟨Nat.zero_le _, Nat.zero_le _⟩ 0 rfl rfl rfl rfl dX10_clear_5 (fun H locs hP hD hS => ?_)
  refine lv_istore_n (lv' := [(1, .int v3), (0, .ref (a 35))]) hx hb dX10_clear_8 rfl hl (by decide) rfl (fun ls hl => ?_)
  refine lv_aload_n hx hb dX10_clear_9 rfl (lv_at hl 1 rfl) ?_
  obtain ⟨v4, h_v4, hm⟩ := bd1_inv hm
  refine cVx ⟨hx, hb, hml, hown, hts⟩ (c_X10_clears l D cI cJ cS cB a v1 M_typed M_ways M_z M_why M_rows M_wide M_column M_found M_s N v4 h_v4) (cwV 0 hts gX10_clear_X10_clears rfl rfl rfl hd_X10_clears ⟨(Nat.le_of_ble_eq_true rfl), (Nat.le_of_ble_eq_true rfl)⟩) hK hP hD hS hA [0, 1] rfl rfl [o_M a v1 M_typed M_ways M_z M_why M_rows M_wide M_column M_found, ai (a 36) cI 244 v4, ai (a 37) cI 976 v2] [(true, 0), (true, 1), (false, 2)] rfl rfl rfl hl.1 (Nat.le_of_ble_eq_true rfl) ⟨Nat.zero_le _, Nat.zero_le _⟩ 0 rfl rfl rfl rfl dX10_clear_10 (fun H locs hP hD hS => ?_)
  refine lv_iload_n hx hb dX10_clear_13 rfl (lv_at hl 0 rfl) ?_
  cases hm
  exact rI () hx hb hr hlk hP hD hS dX10_clear_14
theorem hd_X10_due : yX10_due.cls = RX10 ∧ yX10_due.cls ≠ "java/lang/invoke/MethodHandle" ∧ yX10_due.cls ≠ "java/lang/invoke/VarHandle" ∧ (parseMethodDescriptor yX10_due.desc).map (fun d => d.parameters.length) = some 2 := by decide +kernel
def m_X10_due (N : Nat) (M_ways : Int32) (M_s : Nat → Int32) (M_one : Nat → Int32) (M_other : Nat → Int32) (x1 : Int32) (x2 : Int32) : Option (Int32) :=
  bd1 (m_X10_number M_s x2) (fun v1 => bd1 (m_X10_capsOf N M_ways M_s M_one M_other x2) (fun v2 => bd1 (m_X10_capOf M_s x1) (fun v3 => some (v1 - (v2 - v3)))))
set_option maxHeartbeats 4000000 in
set_option maxRecDepth 100000 in
theorem c_X10_due (l : Launch) (D : va_G) (cI cJ cS cB : ClassId) (a : Nat → Nat) (M_pasts : Int32) (M_typed : Int32) (M_ways : Int32) (M_z : Int32) (M_why : Int32) (M_rows : Int32) (M_wide : Int32) (M_column : Int32) (M_found : Int32) (M_s : Nat → Int32) (M_one : Nat → Int32) (M_other : Nat → Int32) (x1 : Int32) (x2 : Int32) (N : Nat) (r0 : Int32) (hm : m_X10_due N M_ways M_s M_one M_other x1 x2 = some r0) :
    mU l D (TYs cI cJ cS cB) yX10_due wsX10_due { frames := 2, cells := 0, slots := 0, locals := 45 } [.ref (a 35), .int x1, .int x2] [o_M a M_pasts M_typed M_ways M_z M_why M_rows M_wide M_column M_found, ai (a 36) cI 244 M_s, ai (a 39) cI 48 M_one, ai (a 40) cI 48 M_other] [o_M a M_pasts M_typed M_ways M_z M_why M_rows M_wide M_column M_found, ai (a 36) cI 244 M_s, ai (a 39) cI 48 M_one, ai (a 40) cI 48 M_other] (some (.int r0)) := by
  refine mG_of (cc := cX10_due) (maxL := 3) (ret := (some .int)) (by decide) rfl rfl (Nat.le_of_ble_eq_true rfl) ?_
  intro p e s m args below meth c A hx hb hr hml hlk hnm hts hown hK hP hD hA hS ls hl
  have hl : lv_has ls 3 [(0, .ref (a 35)), (1, .int x1), (2, .int x2)] := hl
  have hiX10 : ∀ w ∈ wsX100, w ∈ wsX10_due := fun w h => List.mem_cons_of_mem _ (List.mem_append_right _ h)
  unfold m_X10_due at hm
  refine lv_aload_n hx hb dX10_due_0 rfl (lv_at hl 0 rfl) ?_
  refine lv_iload_n hx hb dX10_due_1 rfl (lv_at hl 2 rfl) ?_
  obtain ⟨v1, h_v1, hm⟩ := bd1_inv hm
  refine cVs ⟨hx, hb, hml, hown, hts⟩ (c_X10_number l D cI cJ cS cB a M_pasts M_typed M_ways M_z M_why M_rows M_wide M_column M_found M_s x2 v1 h_v1) (cwV 1 hts gX10_due_X10_number rfl rfl rfl hd_X10_number ⟨(Nat.le_of_ble_eq_true rfl), (Nat.le_of_ble_eq_true rfl)⟩) hK hP hD hS hA [0, 1] rfl rfl rfl hl.1 (Nat.le_of_ble_eq_true rfl) ⟨Nat.zero_le _, Nat.zero_le _⟩ 0 rfl rfl rfl rfl dX10_due_2 (fun H locs hP hD hS => ?_)
  refine lv_aload_n hx hb dX10_due_5 rfl (lv_at hl 0 rfl) ?_
  refine lv_iload_n hx hb dX10_due_6 rfl (lv_at hl 2 rfl) ?_
  obtain ⟨v2, h_v2, hm⟩ := bd1_inv hm
  refine cVs ⟨hx, hb, hml, hown, hts⟩ (c_X10_capsOf l D cI cJ cS cB a M_pasts M_typed M_ways M_z M_why M_rows M_wide M_column M_found M_s M_one M_other x2 N v2 h_v2) (cwV 1 hts gX10_due_X10_capsOf rfl rfl rfl hd_X10_capsOf ⟨(Nat.le_of_ble_eq_true rfl), (Nat.le_of_ble_eq_true rfl)⟩) hK hP hD hS hA [0, 1, 2, 3] rfl rfl rfl hl.1 (Nat.le_of_ble_eq_true rfl) ⟨Nat.zero_le _, Nat.zero_le _⟩ 0 rfl rfl rfl rfl dX10_due_7 (fun H locs hP hD hS => ?_)
  refine lv_aload_n hx hb dX10_due_10 rfl (lv_at hl 0 rfl) ?_
  refine lv_iload_n hx hb dX10_due_11 rfl (lv_at hl 1 rfl) ?_
  obtain ⟨v3, h_v3, hm⟩ := bd1_inv hm
  refine cVs ⟨hx, hb, hml, hown, hts⟩ (c_X10_capOf l D cI cJ cS cB a M_pasts M_typed M_ways M_z M_why M_rows M_wide M_column M_found M_s x1 v3 h_v3) (cwV 1 hts gX10_due_X10_capOf rfl rfl rfl hd_X10_capOf ⟨(Nat.le_of_ble_eq_true rfl), (Nat.le_of_ble_eq_true rfl)⟩) hK hP hD hS hA [0, 1] rfl rfl rfl hl.1 (Nat.le_of_ble_eq_true rfl) ⟨Nat.zero_le _, Nat.zero_le _⟩ 0 rfl rfl rfl rfl dX10_due_12 (fun H locs hP hD hS => ?_)
  refine lv_isub hx hb dX10_due_15 ?_
  refine lv_isub hx hb dX10_due_16 ?_
  cases hm
  exact rI () hx hb hr hlk hP hD hS dX10_due_17
theorem hd_X10_closes : yX10_closes.cls = RX10 ∧ yX10_closes.cls ≠ "java/lang/invoke/MethodHandle" ∧ yX10_closes.cls ≠ "java/lang/invoke/VarHandle" ∧ (parseMethodDescriptor yX10_closes.desc).map (fun d => d.parameters.length) = some 1 := by decide +kernel
def m_X10_closes_j150 (x1 : Int32) (y14 : Int32) (y15 : Int32) (y16 : Int32) (y17 : Nat → Int32) (y18 : Nat → Int32) : Option (Int32 × (Nat → Int32) × (Nat → Int32)) :=
  wr 244 y17 (148 + x1) y14 (fun v19 => if y15 = 0 then (some ((0, v19, y18))) else (if y16 = 0 then (some ((0, v19, y18))) else (some ((1, v19, y18)))))
def m_X10_closes_j142 (rec48 : Int32 → Int32 → Int32 → Option (Int32 × (Nat → Int32) × (Nat → Int32))) (y36 : Int32) (y37 : Int32) (y38 : Int32) : Option (Int32 × (Nat → Int32) × (Nat → Int32)) :=
  lt1 (y37 + 1) (fun v39 => rec48 y36 y38 v39)
def m_X10_closes_j137 (rec48 : Int32 → Int32 → Int32 → Option (Int32 × (Nat → Int32) × (Nat → Int32))) (y34 : Int32) (y35 : Int32) : Option (Int32 × (Nat → Int32) × (Nat → Int32)) :=
  m_X10_closes_j142 rec48 y34 y35 1
def m_X10_closes_j141 (rec48 : Int32 → Int32 → Int32 → Option (Int32 × (Nat → Int32) × (Nat → Int32))) (y41 : Int32) (y42 : Int32) : Option (Int32 × (Nat → Int32) × (Nat → Int32)) :=
  m_X10_closes_j142 rec48 y41 y42 0
def m_X10_closes_j117 (y11 : Nat → Int32) (rec48 : Int32 → Int32 → Int32 → Option (Int32 × (Nat → Int32) × (Nat → Int32))) (y30 : Int32) (y31 : Int32) (y32 : Int32) (y33 : Int32) : Option (Int32 × (Nat → Int32) × (Nat → Int32)) :=
  if y30 = 0 then (bd1 (m_X10_number y11 y31) (fun v40 => if v40 ≤ 0 then (m_X10_closes_j141 rec48 y33 y31) else (if y32 = 0 then (m_X10_closes_j137 rec48 y33 y31) else (m_X10_closes_j141 rec48 y33 y31)))) else (m_X10_closes_j137 rec48 y33 y31)
def m_X10_closes_j116 (y11 : Nat → Int32) (rec48 : Int32 → Int32 → Int32 → Option (Int32 × (Nat → Int32) × (Nat → Int32))) (y27 : Int32) (y28 : Int32) (y29 : Int32) : Option (Int32 × (Nat → Int32) × (Nat → Int32)) :=
  m_X10_closes_j117 y11 rec48 y27 y28 y29 0
def m_X10_closes_j112 (y11 : Nat → Int32) (rec48 : Int32 → Int32 → Int32 → Option (Int32 × (Nat → Int32) × (Nat → Int32))) (y44 : Int32) (y45 : Int32) (y46 : Int32) : Option (Int32 × (Nat → Int32) × (Nat → Int32)) :=
  m_X10_closes_j117 y11 rec48 y44 y45 y46 1
def m_X10_closes_j83 (N : Nat) (M_ways : Int32) (M_one : Nat → Int32) (M_other : Nat → Int32) (y11 : Nat → Int32) (rec48 : Int32 → Int32 → Int32 → Option (Int32 × (Nat → Int32) × (Nat → Int32))) (y23 : Int32) (y24 : Int32) (y25 : Int32) (y26 : Int32) : Option (Int32 × (Nat → Int32) × (Nat → Int32)) :=
  if y23 = 0 then (m_X10_closes_j116 y11 rec48 y24 y25 y26) else (bd1 (m_X10_number y11 y25) (fun v43 => if v43 = 0 then (m_X10_closes_j112 y11 rec48 y24 y25 y26) else (if y26 = 0 then (m_X10_closes_j112 y11 rec48 y24 y25 y26) else (bd1 (m_X10_lacks N M_ways y11 M_one M_other y25) (fun v47 => if v47 = 0 then (m_X10_closes_j112 y11 rec48 y24 y25 y26) else (m_X10_closes_j116 y11 rec48 y24 y25 y26))))))
def m_X10_closes_b48 (N : Nat) (M_ways : Int32) (M_one : Nat → Int32) (M_other : Nat → Int32) (x1 : Int32) (y7 : Int32) (y11 : Nat → Int32) (y12 : Nat → Int32) (rec48 : Int32 → Int32 → Int32 → Option (Int32 × (Nat → Int32) × (Nat → Int32))) (y8 : Int32) (y9 : Int32) (y10 : Int32) : Option (Int32 × (Nat → Int32) × (Nat → Int32)) :=
  bd1 (m_X10_cells y11) (fun v13 => if v13 ≤ y10 then (m_X10_closes_j150 x1 y7 y8 y9 y11 y12) else (rd 144 y12 y10 (fun v20 => rd 48 M_one x1 (fun v21 => rd 144 y12 v21 (fun v22 => if v20 = v22 then (m_X10_closes_j83 N M_ways M_one M_other y11 rec48 y8 y9 y10 1) else (m_X10_closes_j83 N M_ways M_one M_other y11 rec48 y8 y9 y10 0))))))
def m_X10_closes (N : Nat) (M_ways : Int32) (M_s : Nat → Int32) (M_one : Nat → Int32) (M_other : Nat → Int32) (M_group : Nat → Int32) (x1 : Int32) : Option (Int32 × (Nat → Int32) × (Nat → Int32)) :=
  bd1 (m_X10_capOf M_s x1) (fun v1 => bd1 (m_X10_bridges M_s x1) (fun v2 => if v2 < v1 then (bd1 (m_X10_bridges M_s x1) (fun v3 => bd1 (m_X10_capOf M_s x1) (fun v4 => wr 244 M_s (148 + x1) v4 (fun v5 => bd1 (m_X10_findGroups N M_ways v5 M_one M_other M_group) (fun v6 => zl3 (m_X10_closes_b48 N M_ways M_one M_other x1 v3 v5 v6) N 1 0 0))))) else (some ((0, M_s, M_group)))))
set_option maxHeartbeats 4000000 in
set_option maxRecDepth 100000 in
theorem c_X10_closes (l : Launch) (D : va_G) (cI cJ cS cB : ClassId) (a : Nat → Nat) (M_pasts : Int32) (M_typed : Int32) (M_ways : Int32) (M_z : Int32) (M_why : Int32) (M_rows : Int32) (M_wide : Int32) (M_column : Int32) (M_found : Int32) (M_s : Nat → Int32) (M_one : Nat → Int32) (M_other : Nat → Int32) (M_group : Nat → Int32) (x1 : Int32) (N : Nat) (r0 : Int32) (M_s' : Nat → Int32) (M_group' : Nat → Int32) (hm : m_X10_closes N M_ways M_s M_one M_other M_group x1 = some (r0, M_s', M_group')) :
    mU l D (TYs cI cJ cS cB) yX10_closes wsX10_closes { frames := 3, cells := 0, slots := 0, locals := 66 } [.ref (a 35), .int x1] [o_M a M_pasts M_typed M_ways M_z M_why M_rows M_wide M_column M_found, ai (a 36) cI 244 M_s, ai (a 39) cI 48 M_one, ai (a 40) cI 48 M_other, ai (a 41) cI 144 M_group] [o_M a M_pasts M_typed M_ways M_z M_why M_rows M_wide M_column M_found, ai (a 36) cI 244 M_s', ai (a 39) cI 48 M_one, ai (a 40) cI 48 M_other, ai (a 41) cI 144 M_group'] (some (.int r0)) := by
  refine mG_of (cc := cX10_closes) (maxL := 7) (ret := (some .boolean)) (by decide) rfl rfl (Nat.le_of_ble_eq_true rfl) ?_
  intro p e s m args below meth c A hx hb hr hml hlk hnm hts hown hK hP hD hA hS ls hl
  have hl : lv_has ls 7 [(0, .ref (a 35)), (1, .int x1)] := hl
  have hiX10 : ∀ w ∈ wsX100, w ∈ wsX10_closes := fun w h => List.mem_cons_of_mem _ (List.mem_append_right _ h)
  unfold m_X10_closes at hm
  have h150 : ∀ (y14 : Int32) (y15 : Int32) (y16 : Int32) (y17 : Nat → Int32) (y18 : Nat → Int32), m_X10_closes_j150 x1 y14 y15 y16 y17 y18 = some (r0, M_s', M_group') → ∀ (H : Heap) (locs : List Loc), va_P D vwCl [o_M a M_pasts M_typed M_ways M_z M_why M_rows M_wide M_column M_found, ai (a 36) cI 244 y17, ai (a 39) cI 48 M_one, ai (a 40) cI 48 M_other, ai (a 41) cI 144 y18] H → va_D A [o_M a M_pasts M_typed M_ways M_z M_why M_rows M_wide M_column M_found, ai (a 36) cI 244 y17, ai (a 39) cI 48 M_one, ai (a 40) cI 48 M_other, ai (a 41) cI 144 y18] → va_S A s.heap H locs → ∀ ls : Array Slot, lv_has ls 7 [(0, .ref (a 35)), (1, .int x1), (2, .int y14), (3, .int y15), (4, .int y16)] → W p l e { frames := 3, cells := 0, slots := 0, locals := 66 } s m args below meth c H locs 0 0 (MQ below (eQ D (some (.int r0)) (fun _ : Unit => [o_M a M_pasts M_typed M_ways M_z M_why M_rows M_wide M_column M_found, ai (a 36) cI 244 M_s', ai (a 39) cI 48 M_one, ai (a 40) cI 48 M_other, ai (a 41) cI 144 M_group']) A) args s 0 0 A) (F0 m 150 ls []) := by
    intro y14 y15 y16 y17 y18 hm H locs hP hD hS ls hl
    unfold m_X10_closes_j150 at hm
    refine lv_aload_n hx hb dX10_closes_150 rfl (lv_at hl 0 rfl) ?_
    refine va_get (D := D) (ci := 10) (v := .ref (a 36)) (C := RX10) (T := TX10) (N := 17) hx hb hts hiX10 hown hK.1 hP 0 rfl rfl 0 (by decide) (hts (.fieldLink RX10 7 "IslandBridgesModel" "s" "[I") (List.mem_of_getElem? (i := 1) rfl)) (fun _ h9 => h9) rfl dX10_closes_151 ?_
    refine lv_sipush (v := 148) hx hb dX10_closes_154 (by decide) ?_
    refine lv_iload_n hx hb dX10_closes_157 rfl (lv_at hl 1 rfl) ?_
    refine lv_iadd hx hb dX10_closes_158 ?_
    refine lv_iload_n hx hb dX10_closes_159 rfl (lv_at hl 2 rfl) ?_
    obtain ⟨v19, nv19, ev19, hm⟩ := wr_inv hm
    refine va_iast hx hb hK.1 hP hD hS 1 0 rfl rfl nv19 dX10_closes_160 (fun H locs hP hD hS => ?_)
    have hP : va_P D vwCl [o_M a M_pasts M_typed M_ways M_z M_why M_rows M_wide M_column M_found, ai (a 36) cI 244 v19, ai (a 39) cI 48 M_one, ai (a 40) cI 48 M_other, ai (a 41) cI 144 y18] H := by rw [← ev19]; exact hP
    have hD : va_D A [o_M a M_pasts M_typed M_ways M_z M_why M_rows M_wide M_column M_found, ai (a 36) cI 244 v19, ai (a 39) cI 48 M_one, ai (a 40) cI 48 M_other, ai (a 41) cI 144 y18] := by rw [← ev19]; exact hD
    refine lv_iload_n hx hb dX10_closes_161 rfl (lv_at hl 3 rfl) ?_
    refine lv_if_eq (tgt := 174) hx hb dX10_closes_162 (by decide) (fun c162 => ?_) (fun c162 => ?_)
    · have hm := ip c162 hm
      refine lv_iconst (v := 0) hx hb dX10_closes_174 (by decide) ?_
      cases hm
      exact rZ () hx hb hr hlk (by decide) hP hD hS dX10_closes_175
    · have hm := ine c162 hm
      refine lv_iload hx hb dX10_closes_165 (lv_at hl 4 rfl) ?_
      refine lv_if_eq (tgt := 174) hx hb dX10_closes_167 (by decide) (fun c167 => ?_) (fun c167 => ?_)
      · have hm := ip c167 hm
        refine lv_iconst (v := 0) hx hb dX10_closes_174 (by decide) ?_
        cases hm
        exact rZ () hx hb hr hlk (by decide) hP hD hS dX10_closes_175
      · have hm := ine c167 hm
        refine lv_iconst (v := 1) hx hb dX10_closes_170 (by decide) ?_
        refine lv_goto (tgt := 175) hx hb dX10_closes_171 (by decide) ?_
        cases hm
        exact rZ () hx hb hr hlk (by decide) hP hD hS dX10_closes_175
  have h48 : ∀ (y7 : Int32) (y11 : Nat → Int32) (y12 : Nat → Int32), ∀ (n : Nat) (y8 : Int32) (y9 : Int32) (y10 : Int32), zl3 (m_X10_closes_b48 N M_ways M_one M_other x1 y7 y11 y12) n y8 y9 y10 = some (r0, M_s', M_group') → ∀ (H : Heap) (locs : List Loc), va_P D vwCl [o_M a M_pasts M_typed M_ways M_z M_why M_rows M_wide M_column M_found, ai (a 36) cI 244 y11, ai (a 39) cI 48 M_one, ai (a 40) cI 48 M_other, ai (a 41) cI 144 y12] H → va_D A [o_M a M_pasts M_typed M_ways M_z M_why M_rows M_wide M_column M_found, ai (a 36) cI 244 y11, ai (a 39) cI 48 M_one, ai (a 40) cI 48 M_other, ai (a 41) cI 144 y12] → va_S A s.heap H locs → ∀ ls : Array Slot, lv_has ls 7 [(0, .ref (a 35)), (1, .int x1), (2, .int y7), (3, .int y8), (4, .int y9), (5, .int y10)] → W p l e { frames := 3, cells := 0, slots := 0, locals := 66 } s m args below meth c H locs 0 0 (MQ below (eQ D (some (.int r0)) (fun _ : Unit => [o_M a M_pasts M_typed M_ways M_z M_why M_rows M_wide M_column M_found, ai (a 36) cI 244 M_s', ai (a 39) cI 48 M_one, ai (a 40) cI 48 M_other, ai (a 41) cI 144 M_group']) A) args s 0 0 A) (F0 m 48 ls []) := by
    intro y7 y11 y12
    refine zl3_ind (fun rec48 ih48 y8 y9 y10 hm => ?_)
    have h142 : ∀ (y36 : Int32) (y37 : Int32) (y38 : Int32), m_X10_closes_j142 rec48 y36 y37 y38 = some (r0, M_s', M_group') → ∀ (H : Heap) (locs : List Loc), va_P D vwCl [o_M a M_pasts M_typed M_ways M_z M_why M_rows M_wide M_column M_found, ai (a 36) cI 244 y11, ai (a 39) cI 48 M_one, ai (a 40) cI 48 M_other, ai (a 41) cI 144 y12] H → va_D A [o_M a M_pasts M_typed M_ways M_z M_why M_rows M_wide M_column M_found, ai (a 36) cI 244 y11, ai (a 39) cI 48 M_one, ai (a 40) cI 48 M_other, ai (a 41) cI 144 y12] → va_S A s.heap H locs → ∀ ls : Array Slot, lv_has ls 7 [(0, .ref (a 35)), (1, .int x1), (2, .int y7), (3, .int y36), (5, .int y37)] → W p l e { frames := 3, cells := 0, slots := 0, locals := 66 } s m args below meth c H locs 0 0 (MQ below (eQ D (some (.int r0)) (fun _ : Unit => [o_M a M_pasts M_typed M_ways M_z M_why M_rows M_wide M_column M_found, ai (a 36) cI 244 M_s', ai (a 39) cI 48 M_one, ai (a 40) cI 48 M_other, ai (a 41) cI 144 M_group']) A) args s 0 0 A) (F0 m 142 ls [.int y38]) := by
      intro y36 y37 y38 hm H locs hP hD hS ls hl
      unfold m_X10_closes_j142 at hm
      refine lv_istore (lv' := [(4, .int y38), (0, .ref (a 35)), (1, .int x1), (2, .int y7), (3, .int y36), (5, .int y37)]) hx hb dX10_closes_142 hl (by decide) rfl (fun ls hl => ?_)
      obtain ⟨v39, ev39, hm⟩ := lt1_inv hm
      refine lv_iinc (v := v39) (lv' := [(5, .int v39), (4, .int y38), (0, .ref (a 35)), (1, .int x1), (2, .int y7), (3, .int y36)]) hx hb dX10_closes_144 hl (k := 5) rfl ev39 (by decide) rfl (fun ls hl => ?_)
      refine lv_goto (tgt := 48) hx hb dX10_closes_147 (by decide) ?_
      exact ih48 y36 y38 v39 hm _ _ hP hD hS ls (lv_sub hl [2, 3, 4, 5, 1, 0] rfl)
    have h141 : ∀ (y41 : Int32) (y42 : Int32), m_X10_closes_j141 rec48 y41 y42 = some (r0, M_s', M_group') → ∀ (H : Heap) (locs : List Loc), va_P D vwCl [o_M a M_pasts M_typed M_ways M_z M_why M_rows M_wide M_column M_found, ai (a 36) cI 244 y11, ai (a 39) cI 48 M_one, ai (a 40) cI 48 M_other, ai (a 41) cI 144 y12] H → va_D A [o_M a M_pasts M_typed M_ways M_z M_why M_rows M_wide M_column M_found, ai (a 36) cI 244 y11, ai (a 39) cI 48 M_one, ai (a 40) cI 48 M_other, ai (a 41) cI 144 y12] → va_S A s.heap H locs → ∀ ls : Array Slot, lv_has ls 7 [(0, .ref (a 35)), (1, .int x1), (2, .int y7), (3, .int y41), (5, .int y42)] → W p l e { frames := 3, cells := 0, slots := 0, locals := 66 } s m args below meth c H locs 0 0 (MQ below (eQ D (some (.int r0)) (fun _ : Unit => [o_M a M_pasts M_typed M_ways M_z M_why M_rows M_wide M_column M_found, ai (a 36) cI 244 M_s', ai (a 39) cI 48 M_one, ai (a 40) cI 48 M_other, ai (a 41) cI 144 M_group']) A) args s 0 0 A) (F0 m 141 ls []) := by
      intro y41 y42 hm H locs hP hD hS ls hl
      unfold m_X10_closes_j141 at hm
      refine lv_iconst (v := 0) hx hb dX10_closes_141 (by decide) ?_
      exact h142 y41 y42 0 hm _ _ hP hD hS ls (lv_sub hl [0, 1, 2, 3, 4] rfl)
    have h137 : ∀ (y34 : Int32) (y35 : Int32), m_X10_closes_j137 rec48 y34 y35 = some (r0, M_s', M_group') → ∀ (H : Heap) (locs : List Loc), va_P D vwCl [o_M a M_pasts M_typed M_ways M_z M_why M_rows M_wide M_column M_found, ai (a 36) cI 244 y11, ai (a 39) cI 48 M_one, ai (a 40) cI 48 M_other, ai (a 41) cI 144 y12] H → va_D A [o_M a M_pasts M_typed M_ways M_z M_why M_rows M_wide M_column M_found, ai (a 36) cI 244 y11, ai (a 39) cI 48 M_one, ai (a 40) cI 48 M_other, ai (a 41) cI 144 y12] → va_S A s.heap H locs → ∀ ls : Array Slot, lv_has ls 7 [(0, .ref (a 35)), (1, .int x1), (2, .int y7), (3, .int y34), (5, .int y35)] → W p l e { frames := 3, cells := 0, slots := 0, locals := 66 } s m args below meth c H locs 0 0 (MQ below (eQ D (some (.int r0)) (fun _ : Unit => [o_M a M_pasts M_typed M_ways M_z M_why M_rows M_wide M_column M_found, ai (a 36) cI 244 M_s', ai (a 39) cI 48 M_one, ai (a 40) cI 48 M_other, ai (a 41) cI 144 M_group']) A) args s 0 0 A) (F0 m 137 ls []) := by
      intro y34 y35 hm H locs hP hD hS ls hl
      unfold m_X10_closes_j137 at hm
      refine lv_iconst (v := 1) hx hb dX10_closes_137 (by decide) ?_
      refine lv_goto (tgt := 142) hx hb dX10_closes_138 (by decide) ?_
      exact h142 y34 y35 1 hm _ _ hP hD hS ls (lv_sub hl [0, 1, 2, 3, 4] rfl)
    have h117 : ∀ (y30 : Int32) (y31 : Int32) (y32 : Int32) (y33 : Int32), m_X10_closes_j117 y11 rec48 y30 y31 y32 y33 = some (r0, M_s', M_group') → ∀ (H : Heap) (locs : List Loc), va_P D vwCl [o_M a M_pasts M_typed M_ways M_z M_why M_rows M_wide M_column M_found, ai (a 36) cI 244 y11, ai (a 39) cI 48 M_one, ai (a 40) cI 48 M_other, ai (a 41) cI 144 y12] H → va_D A [o_M a M_pasts M_typed M_ways M_z M_why M_rows M_wide M_column M_found, ai (a 36) cI 244 y11, ai (a 39) cI 48 M_one, ai (a 40) cI 48 M_other, ai (a 41) cI 144 y12] → va_S A s.heap H locs → ∀ ls : Array Slot, lv_has ls 7 [(0, .ref (a 35)), (1, .int x1), (2, .int y7), (4, .int y30), (5, .int y31), (6, .int y32)] → W p l e { frames := 3, cells := 0, slots := 0, locals := 66 } s m args below meth c H locs 0 0 (MQ below (eQ D (some (.int r0)) (fun _ : Unit => [o_M a M_pasts M_typed M_ways M_z M_why M_rows M_wide M_column M_found, ai (a 36) cI 244 M_s', ai (a 39) cI 48 M_one, ai (a 40) cI 48 M_other, ai (a 41) cI 144 M_group']) A) args s 0 0 A) (F0 m 117 ls [.int y33]) := by
      intro y30 y31 y32 y33 hm H locs hP hD hS ls hl
      unfold m_X10_closes_j117 at hm
      refine lv_istore_n (lv' := [(3, .int y33), (0, .ref (a 35)), (1, .int x1), (2, .int y7), (4, .int y30), (5, .int y31), (6, .int y32)]) hx hb dX10_closes_117 rfl hl (by decide) rfl (fun ls hl => ?_)
      refine lv_iload hx hb dX10_closes_118 (lv_at hl 4 rfl) ?_
      refine lv_if_ne (tgt := 137) hx hb dX10_closes_120 (by decide) (fun c120 => ?_) (fun c120 => ?_)
      · have hm := ine c120 hm
        exact h137 y33 y31 hm _ _ hP hD hS ls (lv_sub hl [1, 2, 3, 0, 5] rfl)
      · have hm := ip c120 hm
        refine lv_aload_n hx hb dX10_closes_123 rfl (lv_at hl 1 rfl) ?_
        refine lv_iload hx hb dX10_closes_124 (lv_at hl 5 rfl) ?_
        obtain ⟨v40, h_v40, hm⟩ := bd1_inv hm
        refine cVs ⟨hx, hb, hml, hown, hts⟩ (c_X10_number l D cI cJ cS cB a M_pasts M_typed M_ways M_z M_why M_rows M_wide M_column M_found y11 y31 v40 h_v40) (cwV 1 hts gX10_closes_X10_number rfl rfl rfl hd_X10_number ⟨(Nat.le_of_ble_eq_true rfl), (Nat.le_of_ble_eq_true rfl)⟩) hK hP hD hS hA [0, 1] rfl rfl rfl hl.1 (Nat.le_of_ble_eq_true rfl) ⟨Nat.zero_le _, Nat.zero_le _⟩ 0 rfl rfl rfl rfl dX10_closes_126 (fun H locs hP hD hS => ?_)
        refine lv_if_le (tgt := 141) hx hb dX10_closes_129 (by decide) (fun c129 => ?_) (fun c129 => ?_)
        · have hm := ip c129 hm
          exact h141 y33 y31 hm _ _ hP hD hS ls (lv_sub hl [1, 2, 3, 0, 5] rfl)
        · have hm := ine c129 hm
          refine lv_iload hx hb dX10_closes_132 (lv_at hl 6 rfl) ?_
          refine lv_if_ne (tgt := 141) hx hb dX10_closes_134 (by decide) (fun c134 => ?_) (fun c134 => ?_)
          · have hm := ine c134 hm
            exact h141 y33 y31 hm _ _ hP hD hS ls (lv_sub hl [1, 2, 3, 0, 5] rfl)
          · have hm := ip c134 hm
            exact h137 y33 y31 hm _ _ hP hD hS ls (lv_sub hl [1, 2, 3, 0, 5] rfl)
    have h116 : ∀ (y27 : Int32) (y28 : Int32) (y29 : Int32), m_X10_closes_j116 y11 rec48 y27 y28 y29 = some (r0, M_s', M_group') → ∀ (H : Heap) (locs : List Loc), va_P D vwCl [o_M a M_pasts M_typed M_ways M_z M_why M_rows M_wide M_column M_found, ai (a 36) cI 244 y11, ai (a 39) cI 48 M_one, ai (a 40) cI 48 M_other, ai (a 41) cI 144 y12] H → va_D A [o_M a M_pasts M_typed M_ways M_z M_why M_rows M_wide M_column M_found, ai (a 36) cI 244 y11, ai (a 39) cI 48 M_one, ai (a 40) cI 48 M_other, ai (a 41) cI 144 y12] → va_S A s.heap H locs → ∀ ls : Array Slot, lv_has ls 7 [(0, .ref (a 35)), (1, .int x1), (2, .int y7), (4, .int y27), (5, .int y28), (6, .int y29)] → W p l e { frames := 3, cells := 0, slots := 0, locals := 66 } s m args below meth c H locs 0 0 (MQ below (eQ D (some (.int r0)) (fun _ : Unit => [o_M a M_pasts M_typed M_ways M_z M_why M_rows M_wide M_column M_found, ai (a 36) cI 244 M_s', ai (a 39) cI 48 M_one, ai (a 40) cI 48 M_other, ai (a 41) cI 144 M_group']) A) args s 0 0 A) (F0 m 116 ls []) := by
      intro y27 y28 y29 hm H locs hP hD hS ls hl
      unfold m_X10_closes_j116 at hm
      refine lv_iconst (v := 0) hx hb dX10_closes_116 (by decide) ?_
      exact h117 y27 y28 y29 0 hm _ _ hP hD hS ls (lv_sub hl [0, 1, 2, 3, 4, 5] rfl)
    have h112 : ∀ (y44 : Int32) (y45 : Int32) (y46 : Int32), m_X10_closes_j112 y11 rec48 y44 y45 y46 = some (r0, M_s', M_group') → ∀ (H : Heap) (locs : List Loc), va_P D vwCl [o_M a M_pasts M_typed M_ways M_z M_why M_rows M_wide M_column M_found, ai (a 36) cI 244 y11, ai (a 39) cI 48 M_one, ai (a 40) cI 48 M_other, ai (a 41) cI 144 y12] H → va_D A [o_M a M_pasts M_typed M_ways M_z M_why M_rows M_wide M_column M_found, ai (a 36) cI 244 y11, ai (a 39) cI 48 M_one, ai (a 40) cI 48 M_other, ai (a 41) cI 144 y12] → va_S A s.heap H locs → ∀ ls : Array Slot, lv_has ls 7 [(0, .ref (a 35)), (1, .int x1), (2, .int y7), (4, .int y44), (5, .int y45), (6, .int y46)] → W p l e { frames := 3, cells := 0, slots := 0, locals := 66 } s m args below meth c H locs 0 0 (MQ below (eQ D (some (.int r0)) (fun _ : Unit => [o_M a M_pasts M_typed M_ways M_z M_why M_rows M_wide M_column M_found, ai (a 36) cI 244 M_s', ai (a 39) cI 48 M_one, ai (a 40) cI 48 M_other, ai (a 41) cI 144 M_group']) A) args s 0 0 A) (F0 m 112 ls []) := by
      intro y44 y45 y46 hm H locs hP hD hS ls hl
      unfold m_X10_closes_j112 at hm
      refine lv_iconst (v := 1) hx hb dX10_closes_112 (by decide) ?_
      refine lv_goto (tgt := 117) hx hb dX10_closes_113 (by decide) ?_
      exact h117 y44 y45 y46 1 hm _ _ hP hD hS ls (lv_sub hl [0, 1, 2, 3, 4, 5] rfl)
    have h83 : ∀ (y23 : Int32) (y24 : Int32) (y25 : Int32) (y26 : Int32), m_X10_closes_j83 N M_ways M_one M_other y11 rec48 y23 y24 y25 y26 = some (r0, M_s', M_group') → ∀ (H : Heap) (locs : List Loc), va_P D vwCl [o_M a M_pasts M_typed M_ways M_z M_why M_rows M_wide M_column M_found, ai (a 36) cI 244 y11, ai (a 39) cI 48 M_one, ai (a 40) cI 48 M_other, ai (a 41) cI 144 y12] H → va_D A [o_M a M_pasts M_typed M_ways M_z M_why M_rows M_wide M_column M_found, ai (a 36) cI 244 y11, ai (a 39) cI 48 M_one, ai (a 40) cI 48 M_other, ai (a 41) cI 144 y12] → va_S A s.heap H locs → ∀ ls : Array Slot, lv_has ls 7 [(0, .ref (a 35)), (1, .int x1), (2, .int y7), (3, .int y23), (4, .int y24), (5, .int y25)] → W p l e { frames := 3, cells := 0, slots := 0, locals := 66 } s m args below meth c H locs 0 0 (MQ below (eQ D (some (.int r0)) (fun _ : Unit => [o_M a M_pasts M_typed M_ways M_z M_why M_rows M_wide M_column M_found, ai (a 36) cI 244 M_s', ai (a 39) cI 48 M_one, ai (a 40) cI 48 M_other, ai (a 41) cI 144 M_group']) A) args s 0 0 A) (F0 m 83 ls [.int y26]) := by
      intro y23 y24 y25 y26 hm H locs hP hD hS ls hl
      unfold m_X10_closes_j83 at hm
      refine lv_istore (lv' := [(6, .int y26), (0, .ref (a 35)), (1, .int x1), (2, .int y7), (3, .int y23), (4, .int y24), (5, .int y25)]) hx hb dX10_closes_83 hl (by decide) rfl (fun ls hl => ?_)
      refine lv_iload_n hx hb dX10_closes_85 rfl (lv_at hl 4 rfl) ?_
      refine lv_if_eq (tgt := 116) hx hb dX10_closes_86 (by decide) (fun c86 => ?_) (fun c86 => ?_)
      · have hm := ip c86 hm
        exact h116 y24 y25 y26 hm _ _ hP hD hS ls (lv_sub hl [1, 2, 3, 5, 6, 0] rfl)
      · have hm := ine c86 hm
        refine lv_aload_n hx hb dX10_closes_89 rfl (lv_at hl 1 rfl) ?_
        refine lv_iload hx hb dX10_closes_90 (lv_at hl 6 rfl) ?_
        obtain ⟨v43, h_v43, hm⟩ := bd1_inv hm
        refine cVs ⟨hx, hb, hml, hown, hts⟩ (c_X10_number l D cI cJ cS cB a M_pasts M_typed M_ways M_z M_why M_rows M_wide M_column M_found y11 y25 v43 h_v43) (cwV 1 hts gX10_closes_X10_number rfl rfl rfl hd_X10_number ⟨(Nat.le_of_ble_eq_true rfl), (Nat.le_of_ble_eq_true rfl)⟩) hK hP hD hS hA [0, 1] rfl rfl rfl hl.1 (Nat.le_of_ble_eq_true rfl) ⟨Nat.zero_le _, Nat.zero_le _⟩ 0 rfl rfl rfl rfl dX10_closes_92 (fun H locs hP hD hS => ?_)
        refine lv_if_eq (tgt := 112) hx hb dX10_closes_95 (by decide) (fun c95 => ?_) (fun c95 => ?_)
        · have hm := ip c95 hm
          exact h112 y24 y25 y26 hm _ _ hP hD hS ls (lv_sub hl [1, 2, 3, 5, 6, 0] rfl)
        · have hm := ine c95 hm
          refine lv_iload hx hb dX10_closes_98 (lv_at hl 0 rfl) ?_
          refine lv_if_eq (tgt := 112) hx hb dX10_closes_100 (by decide) (fun c100 => ?_) (fun c100 => ?_)
          · have hm := ip c100 hm
            exact h112 y24 y25 y26 hm _ _ hP hD hS ls (lv_sub hl [1, 2, 3, 5, 6, 0] rfl)
          · have hm := ine c100 hm
            refine lv_aload_n hx hb dX10_closes_103 rfl (lv_at hl 1 rfl) ?_
            refine lv_iload hx hb dX10_closes_104 (lv_at hl 6 rfl) ?_
            obtain ⟨v47, h_v47, hm⟩ := bd1_inv hm
            refine cVs ⟨hx, hb, hml, hown, hts⟩ (c_X10_lacks l D cI cJ cS cB a M_pasts M_typed M_ways M_z M_why M_rows M_wide M_column M_found y11 M_one M_other y25 N v47 h_v47) (cwV 1 hts gX10_closes_X10_lacks rfl rfl rfl hd_X10_lacks ⟨(Nat.le_of_ble_eq_true rfl), (Nat.le_of_ble_eq_true rfl)⟩) hK hP hD hS hA [0, 1, 2, 3] rfl rfl rfl hl.1 (Nat.le_of_ble_eq_true rfl) ⟨Nat.zero_le _, Nat.zero_le _⟩ 0 rfl rfl rfl rfl dX10_closes_106 (fun H locs hP hD hS => ?_)
            refine lv_if_ne (tgt := 116) hx hb dX10_closes_109 (by decide) (fun c109 => ?_) (fun c109 => ?_)
            · have hm := ine c109 hm
              exact h116 y24 y25 y26 hm _ _ hP hD hS ls (lv_sub hl [1, 2, 3, 5, 6, 0] rfl)
            · have hm := ip c109 hm
              exact h112 y24 y25 y26 hm _ _ hP hD hS ls (lv_sub hl [1, 2, 3, 5, 6, 0] rfl)
    intro H locs hP hD hS ls hl
    unfold m_X10_closes_b48 at hm
    refine lv_iload hx hb dX10_closes_48 (lv_at hl 5 rfl) ?_
    refine lv_aload_n hx hb dX10_closes_50 rfl (lv_at hl 0 rfl) ?_
    obtain ⟨v13, h_v13, hm⟩ := bd1_inv hm
    refine cVs ⟨hx, hb, hml, hown, hts⟩ (c_X10_cells l D cI cJ cS cB a M_pasts M_typed M_ways M_z M_why M_rows M_wide M_column M_found y11 v13 h_v13) (cwV 0 hts gX10_closes_X10_cells rfl rfl rfl hd_X10_cells ⟨(Nat.le_of_ble_eq_true rfl), (Nat.le_of_ble_eq_true rfl)⟩) hK hP hD hS hA [0, 1] rfl rfl rfl hl.1 (Nat.le_of_ble_eq_true rfl) ⟨Nat.zero_le _, Nat.zero_le _⟩ 0 rfl rfl rfl rfl dX10_closes_51 (fun H locs hP hD hS => ?_)
    refine lv_icmp_ge (tgt := 150) hx hb dX10_closes_54 (by decide) (fun c54 => ?_) (fun c54 => ?_)
    · have hm := ip c54 hm
      exact h150 y7 y8 y9 y11 y12 hm _ _ hP hD hS ls (lv_sub hl [0, 1, 2, 3, 4] rfl)
    · have hm := ine c54 hm
      refine lv_aload_n hx hb dX10_closes_57 rfl (lv_at hl 0 rfl) ?_
      refine va_get (D := D) (ci := 10) (v := .ref (a 41)) (C := RX10) (T := TX10) (N := 17) hx hb hts hiX10 hown hK.1 hP 0 rfl rfl 8 (by decide) (hts (.fieldLink RX10 26 "IslandBridgesModel" "group" "[I") (List.mem_of_getElem? (i := 2) rfl)) (fun _ h9 => h9) rfl dX10_closes_58 ?_
      refine lv_iload hx hb dX10_closes_61 (lv_at hl 5 rfl) ?_
      obtain ⟨v20, nv20, ev20, hm⟩ := rd_inv hm
      refine va_iald hx hb hK.1 hP 4 0 rfl rfl nv20 dX10_closes_63 ?_
      refine ltop ev20 ?_
      refine lv_aload_n hx hb dX10_closes_64 rfl (lv_at hl 0 rfl) ?_
      refine va_get (D := D) (ci := 10) (v := .ref (a 41)) (C := RX10) (T := TX10) (N := 17) hx hb hts hiX10 hown hK.1 hP 0 rfl rfl 8 (by decide) (hts (.fieldLink RX10 26 "IslandBridgesModel" "group" "[I") (List.mem_of_getElem? (i := 2) rfl)) (fun _ h9 => h9) rfl dX10_closes_65 ?_
      refine lv_aload_n hx hb dX10_closes_68 rfl (lv_at hl 0 rfl) ?_
      refine va_get (D := D) (ci := 10) (v := .ref (a 39)) (C := RX10) (T := TX10) (N := 17) hx hb hts hiX10 hown hK.1 hP 0 rfl rfl 6 (by decide) (hts (.fieldLink RX10 20 "IslandBridgesModel" "one" "[I") (List.mem_of_getElem? (i := 3) rfl)) (fun _ h9 => h9) rfl dX10_closes_69 ?_
      refine lv_iload_n hx hb dX10_closes_72 rfl (lv_at hl 1 rfl) ?_
      obtain ⟨v21, nv21, ev21, hm⟩ := rd_inv hm
      refine va_iald hx hb hK.1 hP 2 0 rfl rfl nv21 dX10_closes_73 ?_
      refine ltop ev21 ?_
      obtain ⟨v22, nv22, ev22, hm⟩ := rd_inv hm
      refine va_iald hx hb hK.1 hP 4 0 rfl rfl nv22 dX10_closes_74 ?_
      refine ltop ev22 ?_
      refine lv_icmp_ne (tgt := 82) hx hb dX10_closes_75 (by decide) (fun c75 => ?_) (fun c75 => ?_)
      · have hm := ine c75 hm
        refine lv_iconst (v := 0) hx hb dX10_closes_82 (by decide) ?_
        exact h83 y8 y9 y10 0 hm _ _ hP hD hS ls (lv_sub hl [0, 1, 2, 3, 4, 5] rfl)
      · have hm := ip c75 hm
        refine lv_iconst (v := 1) hx hb dX10_closes_78 (by decide) ?_
        refine lv_goto (tgt := 83) hx hb dX10_closes_79 (by decide) ?_
        exact h83 y8 y9 y10 1 hm _ _ hP hD hS ls (lv_sub hl [0, 1, 2, 3, 4, 5] rfl)
  refine lv_aload_n hx hb dX10_closes_0 rfl (lv_at hl 0 rfl) ?_
  refine lv_iload_n hx hb dX10_closes_1 rfl (lv_at hl 1 rfl) ?_
  obtain ⟨v1, h_v1, hm⟩ := bd1_inv hm
  refine cVs ⟨hx, hb, hml, hown, hts⟩ (c_X10_capOf l D cI cJ cS cB a M_pasts M_typed M_ways M_z M_why M_rows M_wide M_column M_found M_s x1 v1 h_v1) (cwV 1 hts gX10_closes_X10_capOf rfl rfl rfl hd_X10_capOf ⟨(Nat.le_of_ble_eq_true rfl), (Nat.le_of_ble_eq_true rfl)⟩) hK hP hD hS hA [0, 1] rfl rfl rfl hl.1 (Nat.le_of_ble_eq_true rfl) ⟨Nat.zero_le _, Nat.zero_le _⟩ 0 rfl rfl rfl rfl dX10_closes_2 (fun H locs hP hD hS => ?_)
  refine lv_aload_n hx hb dX10_closes_5 rfl (lv_at hl 0 rfl) ?_
  refine lv_iload_n hx hb dX10_closes_6 rfl (lv_at hl 1 rfl) ?_
  obtain ⟨v2, h_v2, hm⟩ := bd1_inv hm
  refine cVs ⟨hx, hb, hml, hown, hts⟩ (c_X10_bridges l D cI cJ cS cB a M_pasts M_typed M_ways M_z M_why M_rows M_wide M_column M_found M_s x1 v2 h_v2) (cwV 1 hts gX10_closes_X10_bridges rfl rfl rfl hd_X10_bridges ⟨(Nat.le_of_ble_eq_true rfl), (Nat.le_of_ble_eq_true rfl)⟩) hK hP hD hS hA [0, 1] rfl rfl rfl hl.1 (Nat.le_of_ble_eq_true rfl) ⟨Nat.zero_le _, Nat.zero_le _⟩ 0 rfl rfl rfl rfl dX10_closes_7 (fun H locs hP hD hS => ?_)
  refine lv_icmp_gt (tgt := 15) hx hb dX10_closes_10 (by decide) (fun c10 => ?_) (fun c10 => ?_)
  · have hm := ip c10 hm
    refine lv_aload_n hx hb dX10_closes_15 rfl (lv_at hl 0 rfl) ?_
    refine lv_iload_n hx hb dX10_closes_16 rfl (lv_at hl 1 rfl) ?_
    obtain ⟨v3, h_v3, hm⟩ := bd1_inv hm
    refine cVs ⟨hx, hb, hml, hown, hts⟩ (c_X10_bridges l D cI cJ cS cB a M_pasts M_typed M_ways M_z M_why M_rows M_wide M_column M_found M_s x1 v3 h_v3) (cwV 1 hts gX10_closes_X10_bridges rfl rfl rfl hd_X10_bridges ⟨(Nat.le_of_ble_eq_true rfl), (Nat.le_of_ble_eq_true rfl)⟩) hK hP hD hS hA [0, 1] rfl rfl rfl hl.1 (Nat.le_of_ble_eq_true rfl) ⟨Nat.zero_le _, Nat.zero_le _⟩ 0 rfl rfl rfl rfl dX10_closes_17 (fun H locs hP hD hS => ?_)
    refine lv_istore_n (lv' := [(2, .int v3), (0, .ref (a 35)), (1, .int x1)]) hx hb dX10_closes_20 rfl hl (by decide) rfl (fun ls hl => ?_)
    refine lv_aload_n hx hb dX10_closes_21 rfl (lv_at hl 1 rfl) ?_
    refine va_get (D := D) (ci := 10) (v := .ref (a 36)) (C := RX10) (T := TX10) (N := 17) hx hb hts hiX10 hown hK.1 hP 0 rfl rfl 0 (by decide) (hts (.fieldLink RX10 7 "IslandBridgesModel" "s" "[I") (List.mem_of_getElem? (i := 1) rfl)) (fun _ h9 => h9) rfl dX10_closes_22 ?_
    refine lv_sipush (v := 148) hx hb dX10_closes_25 (by decide) ?_
    refine lv_iload_n hx hb dX10_closes_28 rfl (lv_at hl 2 rfl) ?_
    refine lv_iadd hx hb dX10_closes_29 ?_
    refine lv_aload_n hx hb dX10_closes_30 rfl (lv_at hl 1 rfl) ?_
    refine lv_iload_n hx hb dX10_closes_31 rfl (lv_at hl 2 rfl) ?_
    obtain ⟨v4, h_v4, hm⟩ := bd1_inv hm
    refine cVs ⟨hx, hb, hml, hown, hts⟩ (c_X10_capOf l D cI cJ cS cB a M_pasts M_typed M_ways M_z M_why M_rows M_wide M_column M_found M_s x1 v4 h_v4) (cwV 1 hts gX10_closes_X10_capOf rfl rfl rfl hd_X10_capOf ⟨(Nat.le_of_ble_eq_true rfl), (Nat.le_of_ble_eq_true rfl)⟩) hK hP hD hS hA [0, 1] rfl rfl rfl hl.1 (Nat.le_of_ble_eq_true rfl) ⟨Nat.zero_le _, Nat.zero_le _⟩ 0 rfl rfl rfl rfl dX10_closes_32 (fun H locs hP hD hS => ?_)
    obtain ⟨v5, nv5, ev5, hm⟩ := wr_inv hm
    refine va_iast hx hb hK.1 hP hD hS 1 0 rfl rfl nv5 dX10_closes_35 (fun H locs hP hD hS => ?_)
    have hP : va_P D vwCl [o_M a M_pasts M_typed M_ways M_z M_why M_rows M_wide M_column M_found, ai (a 36) cI 244 v5, ai (a 39) cI 48 M_one, ai (a 40) cI 48 M_other, ai (a 41) cI 144 M_group] H := by rw [← ev5]; exact hP
    have hD : va_D A [o_M a M_pasts M_typed M_ways M_z M_why M_rows M_wide M_column M_found, ai (a 36) cI 244 v5, ai (a 39) cI 48 M_one, ai (a 40) cI 48 M_other, ai (a 41) cI 144 M_group] := by rw [← ev5]; exact hD
    refine lv_aload_n hx hb dX10_closes_36 rfl (lv_at hl 1 rfl) ?_
    obtain ⟨v6, h_v6, hm⟩ := bd1_inv hm
    refine cVx ⟨hx, hb, hml, hown, hts⟩ (c_X10_findGroups l D cI cJ cS cB a M_pasts M_typed M_ways M_z M_why M_rows M_wide M_column M_found v5 M_one M_other M_group N v6 h_v6) (cwV 0 hts gX10_closes_X10_findGroups rfl rfl rfl hd_X10_findGroups ⟨(Nat.le_of_ble_eq_true rfl), (Nat.le_of_ble_eq_true rfl)⟩) hK hP hD hS hA [0, 1, 2, 3, 4] rfl rfl [o_M a M_pasts M_typed M_ways M_z M_why M_rows M_wide M_column M_found, ai (a 36) cI 244 v5, ai (a 39) cI 48 M_one, ai (a 40) cI 48 M_other, ai (a 41) cI 144 v6] [(true, 0), (true, 1), (true, 2), (true, 3), (true, 4)] rfl rfl rfl hl.1 (Nat.le_of_ble_eq_true rfl) ⟨Nat.zero_le _, Nat.zero_le _⟩ 0 rfl rfl rfl rfl dX10_closes_37 (fun H locs hP hD hS => ?_)
    refine lv_iconst (v := 1) hx hb dX10_closes_40 (by decide) ?_
    refine lv_istore_n (lv' := [(3, .int 1), (2, .int v3), (0, .ref (a 35)), (1, .int x1)]) hx hb dX10_closes_41 rfl hl (by decide) rfl (fun ls hl => ?_)
    refine lv_iconst (v := 0) hx hb dX10_closes_42 (by decide) ?_
    refine lv_istore (lv' := [(4, .int 0), (3, .int 1), (2, .int v3), (0, .ref (a 35)), (1, .int x1)]) hx hb dX10_closes_43 hl (by decide) rfl (fun ls hl => ?_)
    refine lv_iconst (v := 0) hx hb dX10_closes_45 (by decide) ?_
    refine lv_istore (lv' := [(5, .int 0), (4, .int 0), (3, .int 1), (2, .int v3), (0, .ref (a 35)), (1, .int x1)]) hx hb dX10_closes_46 hl (by decide) rfl (fun ls hl => ?_)
    exact h48 v3 v5 v6 N 1 0 0 hm _ _ hP hD hS ls (lv_sub hl [4, 5, 3, 2, 1, 0] rfl)
  · have hm := ine c10 hm
    refine lv_iconst (v := 0) hx hb dX10_closes_13 (by decide) ?_
    cases hm
    exact rZ () hx hb hr hlk (by decide) hP hD hS dX10_closes_14
theorem hd_X10_applies : yX10_applies.cls = RX10 ∧ yX10_applies.cls ≠ "java/lang/invoke/MethodHandle" ∧ yX10_applies.cls ≠ "java/lang/invoke/VarHandle" ∧ (parseMethodDescriptor yX10_applies.desc).map (fun d => d.parameters.length) = some 2 := by decide +kernel
def m_X10_applies (N : Nat) (M_ways : Int32) (M_s : Nat → Int32) (M_one : Nat → Int32) (M_other : Nat → Int32) (M_group : Nat → Int32) (x1 : Int32) (x2 : Int32) : Option (Int32 × (Nat → Int32) × (Nat → Int32)) :=
  rd 48 M_one x2 (fun v1 => bd1 (m_X10_lacks N M_ways M_s M_one M_other v1) (fun v2 => rd 48 M_other x2 (fun v3 => bd1 (m_X10_lacks N M_ways M_s M_one M_other v3) (fun v4 => lt1 (m_X10_lesser v2 v4) (fun v5 => if x1 = 1 then (bd1 (m_X10_bridges M_s x2) (fun v6 => if v6 = 0 then (bd1 (m_X10_capOf M_s x2) (fun v7 => if v7 ≤ 0 then (some ((0, M_s, M_group))) else (bd1 (m_X10_crossings N M_ways M_s M_one M_other x2 1) (fun v8 => if v8 ≤ 0 then (some ((0, M_s, M_group))) else (some ((1, M_s, M_group))))))) else (some ((0, M_s, M_group))))) else (if x1 = 2 then (bd1 (m_X10_capOf M_s x2) (fun v9 => bd1 (m_X10_bridges M_s x2) (fun v10 => if v9 ≤ (v10 + v5) then (some ((0, M_s, M_group))) else (some ((1, M_s, M_group)))))) else (if x1 = 3 then (bd1 (m_X10_bridges M_s x2) (fun v11 => rd 48 M_one x2 (fun v12 => bd1 (m_X10_due N M_ways M_s M_one M_other x2 v12) (fun v13 => rd 48 M_other x2 (fun v14 => bd1 (m_X10_due N M_ways M_s M_one M_other x2 v14) (fun v15 => lt1 (m_X10_greater v13 v15) (fun v16 => if v16 ≤ v11 then (some ((0, M_s, M_group))) else (some ((1, M_s, M_group)))))))))) else (bd3 (m_X10_closes N M_ways M_s M_one M_other M_group x2) (fun v17 v18 v19 => ckb v17 (some ((v17, v18, v19))))))))))))
set_option maxHeartbeats 4000000 in
set_option maxRecDepth 100000 in
theorem c_X10_applies (l : Launch) (D : va_G) (cI cJ cS cB : ClassId) (a : Nat → Nat) (M_pasts : Int32) (M_typed : Int32) (M_ways : Int32) (M_z : Int32) (M_why : Int32) (M_rows : Int32) (M_wide : Int32) (M_column : Int32) (M_found : Int32) (M_s : Nat → Int32) (M_one : Nat → Int32) (M_other : Nat → Int32) (M_group : Nat → Int32) (x1 : Int32) (x2 : Int32) (N : Nat) (r0 : Int32) (M_s' : Nat → Int32) (M_group' : Nat → Int32) (hm : m_X10_applies N M_ways M_s M_one M_other M_group x1 x2 = some (r0, M_s', M_group')) :
    mU l D (TYs cI cJ cS cB) yX10_applies wsX10_applies { frames := 4, cells := 0, slots := 0, locals := 93 } [.ref (a 35), .int x1, .int x2] [o_M a M_pasts M_typed M_ways M_z M_why M_rows M_wide M_column M_found, ai (a 36) cI 244 M_s, ai (a 39) cI 48 M_one, ai (a 40) cI 48 M_other, ai (a 41) cI 144 M_group] [o_M a M_pasts M_typed M_ways M_z M_why M_rows M_wide M_column M_found, ai (a 36) cI 244 M_s', ai (a 39) cI 48 M_one, ai (a 40) cI 48 M_other, ai (a 41) cI 144 M_group'] (some (.int r0)) := by
  refine mG_of (cc := cX10_applies) (maxL := 4) (ret := (some .boolean)) (by decide) rfl rfl (Nat.le_of_ble_eq_true rfl) ?_
  intro p e s m args below meth c A hx hb hr hml hlk hnm hts hown hK hP hD hA hS ls hl
  have hl : lv_has ls 4 [(0, .ref (a 35)), (1, .int x1), (2, .int x2)] := hl
  have hiX10 : ∀ w ∈ wsX100, w ∈ wsX10_applies := fun w h => List.mem_cons_of_mem _ (List.mem_append_right _ h)
  unfold m_X10_applies at hm
  refine lv_aload_n hx hb dX10_applies_0 rfl (lv_at hl 0 rfl) ?_
  refine lv_aload_n hx hb dX10_applies_1 rfl (lv_at hl 0 rfl) ?_
  refine va_get (D := D) (ci := 10) (v := .ref (a 39)) (C := RX10) (T := TX10) (N := 17) hx hb hts hiX10 hown hK.1 hP 0 rfl rfl 6 (by decide) (hts (.fieldLink RX10 20 "IslandBridgesModel" "one" "[I") (List.mem_of_getElem? (i := 1) rfl)) (fun _ h9 => h9) rfl dX10_applies_2 ?_
  refine lv_iload_n hx hb dX10_applies_5 rfl (lv_at hl 2 rfl) ?_
  obtain ⟨v1, nv1, ev1, hm⟩ := rd_inv hm
  refine va_iald hx hb hK.1 hP 2 0 rfl rfl nv1 dX10_applies_6 ?_
  refine ltop ev1 ?_
  obtain ⟨v2, h_v2, hm⟩ := bd1_inv hm
  refine cVs ⟨hx, hb, hml, hown, hts⟩ (c_X10_lacks l D cI cJ cS cB a M_pasts M_typed M_ways M_z M_why M_rows M_wide M_column M_found M_s M_one M_other v1 N v2 h_v2) (cwV 1 hts gX10_applies_X10_lacks rfl rfl rfl hd_X10_lacks ⟨(Nat.le_of_ble_eq_true rfl), (Nat.le_of_ble_eq_true rfl)⟩) hK hP hD hS hA [0, 1, 2, 3] rfl rfl rfl hl.1 (Nat.le_of_ble_eq_true rfl) ⟨Nat.zero_le _, Nat.zero_le _⟩ 0 rfl rfl rfl rfl dX10_applies_7 (fun H locs hP hD hS => ?_)
  refine lv_aload_n hx hb dX10_applies_10 rfl (lv_at hl 0 rfl) ?_
  refine lv_aload_n hx hb dX10_applies_11 rfl (lv_at hl 0 rfl) ?_
  refine va_get (D := D) (ci := 10) (v := .ref (a 40)) (C := RX10) (T := TX10) (N := 17) hx hb hts hiX10 hown hK.1 hP 0 rfl rfl 7 (by decide) (hts (.fieldLink RX10 23 "IslandBridgesModel" "other" "[I") (List.mem_of_getElem? (i := 2) rfl)) (fun _ h9 => h9) rfl dX10_applies_12 ?_
  refine lv_iload_n hx hb dX10_applies_15 rfl (lv_at hl 2 rfl) ?_
  obtain ⟨v3, nv3, ev3, hm⟩ := rd_inv hm
  refine va_iald hx hb hK.1 hP 3 0 rfl rfl nv3 dX10_applies_16 ?_
  refine ltop ev3 ?_
  obtain ⟨v4, h_v4, hm⟩ := bd1_inv hm
  refine cVs ⟨hx, hb, hml, hown, hts⟩ (c_X10_lacks l D cI cJ cS cB a M_pasts M_typed M_ways M_z M_why M_rows M_wide M_column M_found M_s M_one M_other v3 N v4 h_v4) (cwV 1 hts gX10_applies_X10_lacks rfl rfl rfl hd_X10_lacks ⟨(Nat.le_of_ble_eq_true rfl), (Nat.le_of_ble_eq_true rfl)⟩) hK hP hD hS hA [0, 1, 2, 3] rfl rfl rfl hl.1 (Nat.le_of_ble_eq_true rfl) ⟨Nat.zero_le _, Nat.zero_le _⟩ 0 rfl rfl rfl rfl dX10_applies_17 (fun H locs hP hD hS => ?_)
  obtain ⟨v5, h_v5, hm⟩ := lt1_inv hm
  refine cSs ⟨hx, hb, hml, hown, hts⟩ (c_X10_lesser l D cI cJ cS cB a  v2 v4 v5 h_v5) (va_cwS 2 hts gX10_applies_X10_lesser rfl rfl rfl hd_X10_lesser ⟨(Nat.le_of_ble_eq_true rfl), (Nat.le_of_ble_eq_true rfl)⟩) hK hP hD hS hA [] rfl rfl rfl hl.1 (Nat.le_of_ble_eq_true rfl) ⟨Nat.zero_le _, Nat.zero_le _⟩ rfl dX10_applies_20 (fun H locs hP hD hS => ?_)
  refine lv_istore_n (lv' := [(3, .int v5), (0, .ref (a 35)), (1, .int x1), (2, .int x2)]) hx hb dX10_applies_23 rfl hl (by decide) rfl (fun ls hl => ?_)
  refine lv_iload_n hx hb dX10_applies_24 rfl (lv_at hl 2 rfl) ?_
  by_cases q25_1 : x1 = 1
  · have hm := ip q25_1 hm
    refine lv_tableIn (off := 27) (tgt := 52) hx hb dX10_applies_25 (by rw [q25_1]; decide) (by rw [q25_1]; decide) (by rw [q25_1]; rfl) (by decide) ?_
    refine lv_aload_n hx hb dX10_applies_52 rfl (lv_at hl 1 rfl) ?_
    refine lv_iload_n hx hb dX10_applies_53 rfl (lv_at hl 3 rfl) ?_
    obtain ⟨v6, h_v6, hm⟩ := bd1_inv hm
    refine cVs ⟨hx, hb, hml, hown, hts⟩ (c_X10_bridges l D cI cJ cS cB a M_pasts M_typed M_ways M_z M_why M_rows M_wide M_column M_found M_s x2 v6 h_v6) (cwV 1 hts gX10_applies_X10_bridges rfl rfl rfl hd_X10_bridges ⟨(Nat.le_of_ble_eq_true rfl), (Nat.le_of_ble_eq_true rfl)⟩) hK hP hD hS hA [0, 1] rfl rfl rfl hl.1 (Nat.le_of_ble_eq_true rfl) ⟨Nat.zero_le _, Nat.zero_le _⟩ 0 rfl rfl rfl rfl dX10_applies_54 (fun H locs hP hD hS => ?_)
    refine lv_if_ne (tgt := 81) hx hb dX10_applies_57 (by decide) (fun c57 => ?_) (fun c57 => ?_)
    · have hm := ine c57 hm
      refine lv_iconst (v := 0) hx hb dX10_applies_81 (by decide) ?_
      cases hm
      exact rZ () hx hb hr hlk (by decide) hP hD hS dX10_applies_82
    · have hm := ip c57 hm
      refine lv_aload_n hx hb dX10_applies_60 rfl (lv_at hl 1 rfl) ?_
      refine lv_iload_n hx hb dX10_applies_61 rfl (lv_at hl 3 rfl) ?_
      obtain ⟨v7, h_v7, hm⟩ := bd1_inv hm
      refine cVs ⟨hx, hb, hml, hown, hts⟩ (c_X10_capOf l D cI cJ cS cB a M_pasts M_typed M_ways M_z M_why M_rows M_wide M_column M_found M_s x2 v7 h_v7) (cwV 1 hts gX10_applies_X10_capOf rfl rfl rfl hd_X10_capOf ⟨(Nat.le_of_ble_eq_true rfl), (Nat.le_of_ble_eq_true rfl)⟩) hK hP hD hS hA [0, 1] rfl rfl rfl hl.1 (Nat.le_of_ble_eq_true rfl) ⟨Nat.zero_le _, Nat.zero_le _⟩ 0 rfl rfl rfl rfl dX10_applies_62 (fun H locs hP hD hS => ?_)
      refine lv_if_le (tgt := 81) hx hb dX10_applies_65 (by decide) (fun c65 => ?_) (fun c65 => ?_)
      · have hm := ip c65 hm
        refine lv_iconst (v := 0) hx hb dX10_applies_81 (by decide) ?_
        cases hm
        exact rZ () hx hb hr hlk (by decide) hP hD hS dX10_applies_82
      · have hm := ine c65 hm
        refine lv_aload_n hx hb dX10_applies_68 rfl (lv_at hl 1 rfl) ?_
        refine lv_iload_n hx hb dX10_applies_69 rfl (lv_at hl 3 rfl) ?_
        refine lv_iconst (v := 1) hx hb dX10_applies_70 (by decide) ?_
        obtain ⟨v8, h_v8, hm⟩ := bd1_inv hm
        refine cVs ⟨hx, hb, hml, hown, hts⟩ (c_X10_crossings l D cI cJ cS cB a M_pasts M_typed M_ways M_z M_why M_rows M_wide M_column M_found M_s M_one M_other x2 1 N v8 h_v8) (cwV 2 hts gX10_applies_X10_crossings rfl rfl rfl hd_X10_crossings ⟨(Nat.le_of_ble_eq_true rfl), (Nat.le_of_ble_eq_true rfl)⟩) hK hP hD hS hA [0, 1, 2, 3] rfl rfl rfl hl.1 (Nat.le_of_ble_eq_true rfl) ⟨Nat.zero_le _, Nat.zero_le _⟩ 0 rfl rfl rfl rfl dX10_applies_71 (fun H locs hP hD hS => ?_)
        refine lv_if_le (tgt := 81) hx hb dX10_applies_74 (by decide) (fun c74 => ?_) (fun c74 => ?_)
        · have hm := ip c74 hm
          refine lv_iconst (v := 0) hx hb dX10_applies_81 (by decide) ?_
          cases hm
          exact rZ () hx hb hr hlk (by decide) hP hD hS dX10_applies_82
        · have hm := ine c74 hm
          refine lv_iconst (v := 1) hx hb dX10_applies_77 (by decide) ?_
          refine lv_goto (tgt := 82) hx hb dX10_applies_78 (by decide) ?_
          cases hm
          exact rZ () hx hb hr hlk (by decide) hP hD hS dX10_applies_82
  have hm := ine q25_1 hm
  by_cases q25_2 : x1 = 2
  · have hm := ip q25_2 hm
    refine lv_tableIn (off := 58) (tgt := 83) hx hb dX10_applies_25 (by rw [q25_2]; decide) (by rw [q25_2]; decide) (by rw [q25_2]; rfl) (by decide) ?_
    refine lv_aload_n hx hb dX10_applies_83 rfl (lv_at hl 1 rfl) ?_
    refine lv_iload_n hx hb dX10_applies_84 rfl (lv_at hl 3 rfl) ?_
    obtain ⟨v9, h_v9, hm⟩ := bd1_inv hm
    refine cVs ⟨hx, hb, hml, hown, hts⟩ (c_X10_capOf l D cI cJ cS cB a M_pasts M_typed M_ways M_z M_why M_rows M_wide M_column M_found M_s x2 v9 h_v9) (cwV 1 hts gX10_applies_X10_capOf rfl rfl rfl hd_X10_capOf ⟨(Nat.le_of_ble_eq_true rfl), (Nat.le_of_ble_eq_true rfl)⟩) hK hP hD hS hA [0, 1] rfl rfl rfl hl.1 (Nat.le_of_ble_eq_true rfl) ⟨Nat.zero_le _, Nat.zero_le _⟩ 0 rfl rfl rfl rfl dX10_applies_85 (fun H locs hP hD hS => ?_)
    refine lv_aload_n hx hb dX10_applies_88 rfl (lv_at hl 1 rfl) ?_
    refine lv_iload_n hx hb dX10_applies_89 rfl (lv_at hl 3 rfl) ?_
    obtain ⟨v10, h_v10, hm⟩ := bd1_inv hm
    refine cVs ⟨hx, hb, hml, hown, hts⟩ (c_X10_bridges l D cI cJ cS cB a M_pasts M_typed M_ways M_z M_why M_rows M_wide M_column M_found M_s x2 v10 h_v10) (cwV 1 hts gX10_applies_X10_bridges rfl rfl rfl hd_X10_bridges ⟨(Nat.le_of_ble_eq_true rfl), (Nat.le_of_ble_eq_true rfl)⟩) hK hP hD hS hA [0, 1] rfl rfl rfl hl.1 (Nat.le_of_ble_eq_true rfl) ⟨Nat.zero_le _, Nat.zero_le _⟩ 0 rfl rfl rfl rfl dX10_applies_90 (fun H locs hP hD hS => ?_)
    refine lv_iload_n hx hb dX10_applies_93 rfl (lv_at hl 0 rfl) ?_
    refine lv_iadd hx hb dX10_applies_94 ?_
    refine lv_icmp_le (tgt := 102) hx hb dX10_applies_95 (by decide) (fun c95 => ?_) (fun c95 => ?_)
    · have hm := ip c95 hm
      refine lv_iconst (v := 0) hx hb dX10_applies_102 (by decide) ?_
      cases hm
      exact rZ () hx hb hr hlk (by decide) hP hD hS dX10_applies_103
    · have hm := ine c95 hm
      refine lv_iconst (v := 1) hx hb dX10_applies_98 (by decide) ?_
      refine lv_goto (tgt := 103) hx hb dX10_applies_99 (by decide) ?_
      cases hm
      exact rZ () hx hb hr hlk (by decide) hP hD hS dX10_applies_103
  have hm := ine q25_2 hm
  by_cases q25_3 : x1 = 3
  · have hm := ip q25_3 hm
    refine lv_tableIn (off := 79) (tgt := 104) hx hb dX10_applies_25 (by rw [q25_3]; decide) (by rw [q25_3]; decide) (by rw [q25_3]; rfl) (by decide) ?_
    refine lv_aload_n hx hb dX10_applies_104 rfl (lv_at hl 1 rfl) ?_
    refine lv_iload_n hx hb dX10_applies_105 rfl (lv_at hl 3 rfl) ?_
    obtain ⟨v11, h_v11, hm⟩ := bd1_inv hm
    refine cVs ⟨hx, hb, hml, hown, hts⟩ (c_X10_bridges l D cI cJ cS cB a M_pasts M_typed M_ways M_z M_why M_rows M_wide M_column M_found M_s x2 v11 h_v11) (cwV 1 hts gX10_applies_X10_bridges rfl rfl rfl hd_X10_bridges ⟨(Nat.le_of_ble_eq_true rfl), (Nat.le_of_ble_eq_true rfl)⟩) hK hP hD hS hA [0, 1] rfl rfl rfl hl.1 (Nat.le_of_ble_eq_true rfl) ⟨Nat.zero_le _, Nat.zero_le _⟩ 0 rfl rfl rfl rfl dX10_applies_106 (fun H locs hP hD hS => ?_)
    refine lv_aload_n hx hb dX10_applies_109 rfl (lv_at hl 1 rfl) ?_
    refine lv_iload_n hx hb dX10_applies_110 rfl (lv_at hl 3 rfl) ?_
    refine lv_aload_n hx hb dX10_applies_111 rfl (lv_at hl 1 rfl) ?_
    refine va_get (D := D) (ci := 10) (v := .ref (a 39)) (C := RX10) (T := TX10) (N := 17) hx hb hts hiX10 hown hK.1 hP 0 rfl rfl 6 (by decide) (hts (.fieldLink RX10 20 "IslandBridgesModel" "one" "[I") (List.mem_of_getElem? (i := 1) rfl)) (fun _ h9 => h9) rfl dX10_applies_112 ?_
    refine lv_iload_n hx hb dX10_applies_115 rfl (lv_at hl 3 rfl) ?_
    obtain ⟨v12, nv12, ev12, hm⟩ := rd_inv hm
    refine va_iald hx hb hK.1 hP 2 0 rfl rfl nv12 dX10_applies_116 ?_
    refine ltop ev12 ?_
    obtain ⟨v13, h_v13, hm⟩ := bd1_inv hm
    refine cVs ⟨hx, hb, hml, hown, hts⟩ (c_X10_due l D cI cJ cS cB a M_pasts M_typed M_ways M_z M_why M_rows M_wide M_column M_found M_s M_one M_other x2 v12 N v13 h_v13) (cwV 2 hts gX10_applies_X10_due rfl rfl rfl hd_X10_due ⟨(Nat.le_of_ble_eq_true rfl), (Nat.le_of_ble_eq_true rfl)⟩) hK hP hD hS hA [0, 1, 2, 3] rfl rfl rfl hl.1 (Nat.le_of_ble_eq_true rfl) ⟨Nat.zero_le _, Nat.zero_le _⟩ 0 rfl rfl rfl rfl dX10_applies_117 (fun H locs hP hD hS => ?_)
    refine lv_aload_n hx hb dX10_applies_120 rfl (lv_at hl 1 rfl) ?_
    refine lv_iload_n hx hb dX10_applies_121 rfl (lv_at hl 3 rfl) ?_
    refine lv_aload_n hx hb dX10_applies_122 rfl (lv_at hl 1 rfl) ?_
    refine va_get (D := D) (ci := 10) (v := .ref (a 40)) (C := RX10) (T := TX10) (N := 17) hx hb hts hiX10 hown hK.1 hP 0 rfl rfl 7 (by decide) (hts (.fieldLink RX10 23 "IslandBridgesModel" "other" "[I") (List.mem_of_getElem? (i := 2) rfl)) (fun _ h9 => h9) rfl dX10_applies_123 ?_
    refine lv_iload_n hx hb dX10_applies_126 rfl (lv_at hl 3 rfl) ?_
    obtain ⟨v14, nv14, ev14, hm⟩ := rd_inv hm
    refine va_iald hx hb hK.1 hP 3 0 rfl rfl nv14 dX10_applies_127 ?_
    refine ltop ev14 ?_
    obtain ⟨v15, h_v15, hm⟩ := bd1_inv hm
    refine cVs ⟨hx, hb, hml, hown, hts⟩ (c_X10_due l D cI cJ cS cB a M_pasts M_typed M_ways M_z M_why M_rows M_wide M_column M_found M_s M_one M_other x2 v14 N v15 h_v15) (cwV 2 hts gX10_applies_X10_due rfl rfl rfl hd_X10_due ⟨(Nat.le_of_ble_eq_true rfl), (Nat.le_of_ble_eq_true rfl)⟩) hK hP hD hS hA [0, 1, 2, 3] rfl rfl rfl hl.1 (Nat.le_of_ble_eq_true rfl) ⟨Nat.zero_le _, Nat.zero_le _⟩ 0 rfl rfl rfl rfl dX10_applies_128 (fun H locs hP hD hS => ?_)
    obtain ⟨v16, h_v16, hm⟩ := lt1_inv hm
    refine cSs ⟨hx, hb, hml, hown, hts⟩ (c_X10_greater l D cI cJ cS cB a  v13 v15 v16 h_v16) (va_cwS 2 hts gX10_applies_X10_greater rfl rfl rfl hd_X10_greater ⟨(Nat.le_of_ble_eq_true rfl), (Nat.le_of_ble_eq_true rfl)⟩) hK hP hD hS hA [] rfl rfl rfl hl.1 (Nat.le_of_ble_eq_true rfl) ⟨Nat.zero_le _, Nat.zero_le _⟩ rfl dX10_applies_131 (fun H locs hP hD hS => ?_)
    refine lv_icmp_ge (tgt := 141) hx hb dX10_applies_134 (by decide) (fun c134 => ?_) (fun c134 => ?_)
    · have hm := ip c134 hm
      refine lv_iconst (v := 0) hx hb dX10_applies_141 (by decide) ?_
      cases hm
      exact rZ () hx hb hr hlk (by decide) hP hD hS dX10_applies_142
    · have hm := ine c134 hm
      refine lv_iconst (v := 1) hx hb dX10_applies_137 (by decide) ?_
      refine lv_goto (tgt := 142) hx hb dX10_applies_138 (by decide) ?_
      cases hm
      exact rZ () hx hb hr hlk (by decide) hP hD hS dX10_applies_142
  have hm := ine q25_3 hm
  have w25_1 : x1.toInt ≠ 1 := fun h9 => q25_1 (Int32.toInt_inj.mp (h9.trans rfl))
  have w25_2 : x1.toInt ≠ 2 := fun h9 => q25_2 (Int32.toInt_inj.mp (h9.trans rfl))
  have w25_3 : x1.toInt ≠ 3 := fun h9 => q25_3 (Int32.toInt_inj.mp (h9.trans rfl))
  refine lv_tableOut (tgt := 143) hx hb dX10_applies_25 (by omega) (by decide) ?_
  refine lv_aload_n hx hb dX10_applies_143 rfl (lv_at hl 1 rfl) ?_
  refine lv_iload_n hx hb dX10_applies_144 rfl (lv_at hl 3 rfl) ?_
  obtain ⟨v17, v18, v19, h_v17, hm⟩ := bd3_inv hm
  refine cVx ⟨hx, hb, hml, hown, hts⟩ (c_X10_closes l D cI cJ cS cB a M_pasts M_typed M_ways M_z M_why M_rows M_wide M_column M_found M_s M_one M_other M_group x2 N v17 v18 v19 h_v17) (cwV 1 hts gX10_applies_X10_closes rfl rfl rfl hd_X10_closes ⟨(Nat.le_of_ble_eq_true rfl), (Nat.le_of_ble_eq_true rfl)⟩) hK hP hD hS hA [0, 1, 2, 3, 4] rfl rfl [o_M a M_pasts M_typed M_ways M_z M_why M_rows M_wide M_column M_found, ai (a 36) cI 244 v18, ai (a 39) cI 48 M_one, ai (a 40) cI 48 M_other, ai (a 41) cI 144 v19] [(true, 0), (true, 1), (true, 2), (true, 3), (true, 4)] rfl rfl rfl hl.1 (Nat.le_of_ble_eq_true rfl) ⟨Nat.zero_le _, Nat.zero_le _⟩ 0 rfl rfl rfl rfl dX10_applies_145 (fun H locs hP hD hS => ?_)
  obtain ⟨hz148, hm⟩ := ckb_inv hm
  cases hm
  exact rZ () hx hb hr hlk hz148 hP hD hS dX10_applies_148
theorem hd_X10_next : yX10_next.cls = RX10 ∧ yX10_next.cls ≠ "java/lang/invoke/MethodHandle" ∧ yX10_next.cls ≠ "java/lang/invoke/VarHandle" ∧ (parseMethodDescriptor yX10_next.desc).map (fun d => d.parameters.length) = some 0 := by decide +kernel
def m_X10_next_j49 (rec12 : Int32 → (Nat → Int32) → (Nat → Int32) → Option (Int32 × (Nat → Int32) × (Nat → Int32))) (y9 : Int32) (y10 : Nat → Int32) (y11 : Nat → Int32) : Option (Int32 × (Nat → Int32) × (Nat → Int32)) :=
  lt1 (y9 + 1) (fun v12 => rec12 v12 y10 y11)
def m_X10_next_j36 (y17 : Int32) (y18 : Int32) (y19 : Nat → Int32) (y20 : Nat → Int32) : Option (Int32 × (Nat → Int32) × (Nat → Int32)) :=
  some (((100 * y17) + y18, y19, y20))
def m_X10_next_b19 (N : Nat) (M_ways : Int32) (M_one : Nat → Int32) (M_other : Nat → Int32) (rec12 : Int32 → (Nat → Int32) → (Nat → Int32) → Option (Int32 × (Nat → Int32) × (Nat → Int32))) (y5 : Int32) (rec19 : Int32 → (Nat → Int32) → (Nat → Int32) → Option (Int32 × (Nat → Int32) × (Nat → Int32))) (y6 : Int32) (y7 : Nat → Int32) (y8 : Nat → Int32) : Option (Int32 × (Nat → Int32) × (Nat → Int32)) :=
  if M_ways ≤ y6 then (m_X10_next_j49 rec12 y5 y7 y8) else (bd3 (m_X10_applies N M_ways y7 M_one M_other y8 y5 y6) (fun v13 v14 v15 => if v13 = 0 then (lt1 (y6 + 1) (fun v16 => rec19 v16 v14 v15)) else (m_X10_next_j36 y5 y6 v14 v15)))
def m_X10_next_b12 (N : Nat) (M_ways : Int32) (M_one : Nat → Int32) (M_other : Nat → Int32) (rec12 : Int32 → (Nat → Int32) → (Nat → Int32) → Option (Int32 × (Nat → Int32) × (Nat → Int32))) (y2 : Int32) (y3 : Nat → Int32) (y4 : Nat → Int32) : Option (Int32 × (Nat → Int32) × (Nat → Int32)) :=
  if 4 < y2 then (some (((-4), y3, y4))) else (zl3 (m_X10_next_b19 N M_ways M_one M_other rec12 y2) N 0 y3 y4)
def m_X10_next (N : Nat) (M_ways : Int32) (M_s : Nat → Int32) (M_one : Nat → Int32) (M_other : Nat → Int32) (M_group : Nat → Int32) : Option (Int32 × (Nat → Int32) × (Nat → Int32)) :=
  bd1 (m_X10_isBroken N M_ways M_s M_one M_other) (fun v1 => if v1 = 0 then (zl3 (m_X10_next_b12 N M_ways M_one M_other) N 1 M_s M_group) else (some (((-2), M_s, M_group))))
set_option maxHeartbeats 4000000 in
set_option maxRecDepth 100000 in
theorem c_X10_next (l : Launch) (D : va_G) (cI cJ cS cB : ClassId) (a : Nat → Nat) (M_pasts : Int32) (M_typed : Int32) (M_ways : Int32) (M_z : Int32) (M_why : Int32) (M_rows : Int32) (M_wide : Int32) (M_column : Int32) (M_found : Int32) (M_s : Nat → Int32) (M_one : Nat → Int32) (M_other : Nat → Int32) (M_group : Nat → Int32)  (N : Nat) (r0 : Int32) (M_s' : Nat → Int32) (M_group' : Nat → Int32) (hm : m_X10_next N M_ways M_s M_one M_other M_group = some (r0, M_s', M_group')) :
    mU l D (TYs cI cJ cS cB) yX10_next wsX10_next { frames := 5, cells := 0, slots := 0, locals := 116 } [.ref (a 35)] [o_M a M_pasts M_typed M_ways M_z M_why M_rows M_wide M_column M_found, ai (a 36) cI 244 M_s, ai (a 39) cI 48 M_one, ai (a 40) cI 48 M_other, ai (a 41) cI 144 M_group] [o_M a M_pasts M_typed M_ways M_z M_why M_rows M_wide M_column M_found, ai (a 36) cI 244 M_s', ai (a 39) cI 48 M_one, ai (a 40) cI 48 M_other, ai (a 41) cI 144 M_group'] (some (.int r0)) := by
  refine mG_of (cc := cX10_next) (maxL := 3) (ret := (some .int)) (by decide) rfl rfl (Nat.le_of_ble_eq_true rfl) ?_
  intro p e s m args below meth c A hx hb hr hml hlk hnm hts hown hK hP hD hA hS ls hl
  have hl : lv_has ls 3 [(0, .ref (a 35))] := hl
  have hiX10 : ∀ w ∈ wsX100, w ∈ wsX10_next := fun w h => List.mem_cons_of_mem _ (List.mem_append_right _ h)
  unfold m_X10_next at hm
  have h36 : ∀ (y17 : Int32) (y18 : Int32) (y19 : Nat → Int32) (y20 : Nat → Int32), m_X10_next_j36 y17 y18 y19 y20 = some (r0, M_s', M_group') → ∀ (H : Heap) (locs : List Loc), va_P D vwCl [o_M a M_pasts M_typed M_ways M_z M_why M_rows M_wide M_column M_found, ai (a 36) cI 244 y19, ai (a 39) cI 48 M_one, ai (a 40) cI 48 M_other, ai (a 41) cI 144 y20] H → va_D A [o_M a M_pasts M_typed M_ways M_z M_why M_rows M_wide M_column M_found, ai (a 36) cI 244 y19, ai (a 39) cI 48 M_one, ai (a 40) cI 48 M_other, ai (a 41) cI 144 y20] → va_S A s.heap H locs → ∀ ls : Array Slot, lv_has ls 3 [(1, .int y17), (2, .int y18)] → W p l e { frames := 5, cells := 0, slots := 0, locals := 116 } s m args below meth c H locs 0 0 (MQ below (eQ D (some (.int r0)) (fun _ : Unit => [o_M a M_pasts M_typed M_ways M_z M_why M_rows M_wide M_column M_found, ai (a 36) cI 244 M_s', ai (a 39) cI 48 M_one, ai (a 40) cI 48 M_other, ai (a 41) cI 144 M_group']) A) args s 0 0 A) (F0 m 36 ls []) := by
    intro y17 y18 y19 y20 hm H locs hP hD hS ls hl
    unfold m_X10_next_j36 at hm
    refine lv_bipush (v := 100) hx hb dX10_next_36 (by decide) ?_
    refine lv_iload_n hx hb dX10_next_38 rfl (lv_at hl 0 rfl) ?_
    refine lv_imul hx hb dX10_next_39 ?_
    refine lv_iload_n hx hb dX10_next_40 rfl (lv_at hl 1 rfl) ?_
    refine lv_iadd hx hb dX10_next_41 ?_
    cases hm
    exact rI () hx hb hr hlk hP hD hS dX10_next_42
  have h12 : ∀ (n : Nat) (y2 : Int32) (y3 : Nat → Int32) (y4 : Nat → Int32), zl3 (m_X10_next_b12 N M_ways M_one M_other) n y2 y3 y4 = some (r0, M_s', M_group') → ∀ (H : Heap) (locs : List Loc), va_P D vwCl [o_M a M_pasts M_typed M_ways M_z M_why M_rows M_wide M_column M_found, ai (a 36) cI 244 y3, ai (a 39) cI 48 M_one, ai (a 40) cI 48 M_other, ai (a 41) cI 144 y4] H → va_D A [o_M a M_pasts M_typed M_ways M_z M_why M_rows M_wide M_column M_found, ai (a 36) cI 244 y3, ai (a 39) cI 48 M_one, ai (a 40) cI 48 M_other, ai (a 41) cI 144 y4] → va_S A s.heap H locs → ∀ ls : Array Slot, lv_has ls 3 [(0, .ref (a 35)), (1, .int y2)] → W p l e { frames := 5, cells := 0, slots := 0, locals := 116 } s m args below meth c H locs 0 0 (MQ below (eQ D (some (.int r0)) (fun _ : Unit => [o_M a M_pasts M_typed M_ways M_z M_why M_rows M_wide M_column M_found, ai (a 36) cI 244 M_s', ai (a 39) cI 48 M_one, ai (a 40) cI 48 M_other, ai (a 41) cI 144 M_group']) A) args s 0 0 A) (F0 m 12 ls []) := by
    refine zl3_ind (fun rec12 ih12 y2 y3 y4 hm => ?_)
    have h49 : ∀ (y9 : Int32) (y10 : Nat → Int32) (y11 : Nat → Int32), m_X10_next_j49 rec12 y9 y10 y11 = some (r0, M_s', M_group') → ∀ (H : Heap) (locs : List Loc), va_P D vwCl [o_M a M_pasts M_typed M_ways M_z M_why M_rows M_wide M_column M_found, ai (a 36) cI 244 y10, ai (a 39) cI 48 M_one, ai (a 40) cI 48 M_other, ai (a 41) cI 144 y11] H → va_D A [o_M a M_pasts M_typed M_ways M_z M_why M_rows M_wide M_column M_found, ai (a 36) cI 244 y10, ai (a 39) cI 48 M_one, ai (a 40) cI 48 M_other, ai (a 41) cI 144 y11] → va_S A s.heap H locs → ∀ ls : Array Slot, lv_has ls 3 [(0, .ref (a 35)), (1, .int y9)] → W p l e { frames := 5, cells := 0, slots := 0, locals := 116 } s m args below meth c H locs 0 0 (MQ below (eQ D (some (.int r0)) (fun _ : Unit => [o_M a M_pasts M_typed M_ways M_z M_why M_rows M_wide M_column M_found, ai (a 36) cI 244 M_s', ai (a 39) cI 48 M_one, ai (a 40) cI 48 M_other, ai (a 41) cI 144 M_group']) A) args s 0 0 A) (F0 m 49 ls []) := by
      intro y9 y10 y11 hm H locs hP hD hS ls hl
      unfold m_X10_next_j49 at hm
      obtain ⟨v12, ev12, hm⟩ := lt1_inv hm
      refine lv_iinc (v := v12) (lv' := [(1, .int v12), (0, .ref (a 35))]) hx hb dX10_next_49 hl (k := 1) rfl ev12 (by decide) rfl (fun ls hl => ?_)
      refine lv_goto (tgt := 12) hx hb dX10_next_52 (by decide) ?_
      exact ih12 v12 y10 y11 hm _ _ hP hD hS ls (lv_sub hl [1, 0] rfl)
    have h19 : ∀ (y5 : Int32), ∀ (n : Nat) (y6 : Int32) (y7 : Nat → Int32) (y8 : Nat → Int32), zl3 (m_X10_next_b19 N M_ways M_one M_other rec12 y5) n y6 y7 y8 = some (r0, M_s', M_group') → ∀ (H : Heap) (locs : List Loc), va_P D vwCl [o_M a M_pasts M_typed M_ways M_z M_why M_rows M_wide M_column M_found, ai (a 36) cI 244 y7, ai (a 39) cI 48 M_one, ai (a 40) cI 48 M_other, ai (a 41) cI 144 y8] H → va_D A [o_M a M_pasts M_typed M_ways M_z M_why M_rows M_wide M_column M_found, ai (a 36) cI 244 y7, ai (a 39) cI 48 M_one, ai (a 40) cI 48 M_other, ai (a 41) cI 144 y8] → va_S A s.heap H locs → ∀ ls : Array Slot, lv_has ls 3 [(0, .ref (a 35)), (1, .int y5), (2, .int y6)] → W p l e { frames := 5, cells := 0, slots := 0, locals := 116 } s m args below meth c H locs 0 0 (MQ below (eQ D (some (.int r0)) (fun _ : Unit => [o_M a M_pasts M_typed M_ways M_z M_why M_rows M_wide M_column M_found, ai (a 36) cI 244 M_s', ai (a 39) cI 48 M_one, ai (a 40) cI 48 M_other, ai (a 41) cI 144 M_group']) A) args s 0 0 A) (F0 m 19 ls []) := by
      intro y5
      refine zl3_ind (fun rec19 ih19 y6 y7 y8 hm => ?_)
      intro H locs hP hD hS ls hl
      unfold m_X10_next_b19 at hm
      refine lv_iload_n hx hb dX10_next_19 rfl (lv_at hl 2 rfl) ?_
      refine lv_aload_n hx hb dX10_next_20 rfl (lv_at hl 0 rfl) ?_
      refine va_get (D := D) (ci := 10) (v := .int M_ways) (C := RX10) (T := TX10) (N := 17) hx hb hts hiX10 hown hK.1 hP 0 rfl rfl 5 (by decide) (hts (.fieldLink RX10 54 "IslandBridgesModel" "ways" "I") (List.mem_of_getElem? (i := 1) rfl)) (fun _ h9 => h9) rfl dX10_next_21 ?_
      refine lv_icmp_ge (tgt := 49) hx hb dX10_next_24 (by decide) (fun c24 => ?_) (fun c24 => ?_)
      · have hm := ip c24 hm
        exact h49 y5 y7 y8 hm _ _ hP hD hS ls (lv_sub hl [0, 1] rfl)
      · have hm := ine c24 hm
        refine lv_aload_n hx hb dX10_next_27 rfl (lv_at hl 0 rfl) ?_
        refine lv_iload_n hx hb dX10_next_28 rfl (lv_at hl 1 rfl) ?_
        refine lv_iload_n hx hb dX10_next_29 rfl (lv_at hl 2 rfl) ?_
        obtain ⟨v13, v14, v15, h_v13, hm⟩ := bd3_inv hm
        refine cVx ⟨hx, hb, hml, hown, hts⟩ (c_X10_applies l D cI cJ cS cB a M_pasts M_typed M_ways M_z M_why M_rows M_wide M_column M_found y7 M_one M_other y8 y5 y6 N v13 v14 v15 h_v13) (cwV 2 hts gX10_next_X10_applies rfl rfl rfl hd_X10_applies ⟨(Nat.le_of_ble_eq_true rfl), (Nat.le_of_ble_eq_true rfl)⟩) hK hP hD hS hA [0, 1, 2, 3, 4] rfl rfl [o_M a M_pasts M_typed M_ways M_z M_why M_rows M_wide M_column M_found, ai (a 36) cI 244 v14, ai (a 39) cI 48 M_one, ai (a 40) cI 48 M_other, ai (a 41) cI 144 v15] [(true, 0), (true, 1), (true, 2), (true, 3), (true, 4)] rfl rfl rfl hl.1 (Nat.le_of_ble_eq_true rfl) ⟨Nat.zero_le _, Nat.zero_le _⟩ 0 rfl rfl rfl rfl dX10_next_30 (fun H locs hP hD hS => ?_)
        refine lv_if_eq (tgt := 43) hx hb dX10_next_33 (by decide) (fun c33 => ?_) (fun c33 => ?_)
        · have hm := ip c33 hm
          obtain ⟨v16, ev16, hm⟩ := lt1_inv hm
          refine lv_iinc (v := v16) (lv' := [(2, .int v16), (0, .ref (a 35)), (1, .int y5)]) hx hb dX10_next_43 hl (k := 2) rfl ev16 (by decide) rfl (fun ls hl => ?_)
          refine lv_goto (tgt := 19) hx hb dX10_next_46 (by decide) ?_
          exact ih19 v16 v14 v15 hm _ _ hP hD hS ls (lv_sub hl [1, 2, 0] rfl)
        · have hm := ine c33 hm
          exact h36 y5 y6 v14 v15 hm _ _ hP hD hS ls (lv_sub hl [1, 2] rfl)
    intro H locs hP hD hS ls hl
    unfold m_X10_next_b12 at hm
    refine lv_iload_n hx hb dX10_next_12 rfl (lv_at hl 1 rfl) ?_
    refine lv_iconst (v := 4) hx hb dX10_next_13 (by decide) ?_
    refine lv_icmp_gt (tgt := 55) hx hb dX10_next_14 (by decide) (fun c14 => ?_) (fun c14 => ?_)
    · have hm := ip c14 hm
      refine lv_bipush (v := (-4)) hx hb dX10_next_55 (by decide) ?_
      cases hm
      exact rI () hx hb hr hlk hP hD hS dX10_next_57
    · have hm := ine c14 hm
      refine lv_iconst (v := 0) hx hb dX10_next_17 (by decide) ?_
      refine lv_istore_n (lv' := [(2, .int 0), (0, .ref (a 35)), (1, .int y2)]) hx hb dX10_next_18 rfl hl (by decide) rfl (fun ls hl => ?_)
      exact h19 y2 N 0 y3 y4 hm _ _ hP hD hS ls (lv_sub hl [1, 2, 0] rfl)
  refine lv_aload_n hx hb dX10_next_0 rfl (lv_at hl 0 rfl) ?_
  obtain ⟨v1, h_v1, hm⟩ := bd1_inv hm
  refine cVs ⟨hx, hb, hml, hown, hts⟩ (c_X10_isBroken l D cI cJ cS cB a M_pasts M_typed M_ways M_z M_why M_rows M_wide M_column M_found M_s M_one M_other N v1 h_v1) (cwV 0 hts gX10_next_X10_isBroken rfl rfl rfl hd_X10_isBroken ⟨(Nat.le_of_ble_eq_true rfl), (Nat.le_of_ble_eq_true rfl)⟩) hK hP hD hS hA [0, 1, 2, 3] rfl rfl rfl hl.1 (Nat.le_of_ble_eq_true rfl) ⟨Nat.zero_le _, Nat.zero_le _⟩ 0 rfl rfl rfl rfl dX10_next_1 (fun H locs hP hD hS => ?_)
  refine lv_if_eq (tgt := 10) hx hb dX10_next_4 (by decide) (fun c4 => ?_) (fun c4 => ?_)
  · have hm := ip c4 hm
    refine lv_iconst (v := 1) hx hb dX10_next_10 (by decide) ?_
    refine lv_istore_n (lv' := [(1, .int 1), (0, .ref (a 35))]) hx hb dX10_next_11 rfl hl (by decide) rfl (fun ls hl => ?_)
    exact h12  N 1 M_s M_group hm _ _ hP hD hS ls (lv_sub hl [1, 0] rfl)
  · have hm := ine c4 hm
    refine lv_bipush (v := (-2)) hx hb dX10_next_7 (by decide) ?_
    cases hm
    exact rI () hx hb hr hlk hP hD hS dX10_next_9
theorem hd_X10_makes : yX10_makes.cls = RX10 ∧ yX10_makes.cls ≠ "java/lang/invoke/MethodHandle" ∧ yX10_makes.cls ≠ "java/lang/invoke/VarHandle" ∧ (parseMethodDescriptor yX10_makes.desc).map (fun d => d.parameters.length) = some 1 := by decide +kernel
def m_X10_makes_j144 (y4 : Int32) (y5 : Nat → Int32) : Option ((Nat → Int32)) :=
  rd 244 y5 2 (fun v6 => lt1 (m_X10_greater v6 y4) (fun v7 => wr 244 y5 2 v7 (fun v8 => rd 244 v8 3 (fun v9 => wr 244 v8 3 (v9 + 1) (fun v10 => some v10)))))
def m_X10_makes (N : Nat) (M_ways : Int32) (M_s : Nat → Int32) (M_one : Nat → Int32) (M_other : Nat → Int32) (x1 : Int32) : Option ((Nat → Int32)) :=
  lt1 (x1 / 100) (fun v1 => lt1 (x1 - x1 / 100 * 100) (fun v2 => if v1 = 1 then (wr 244 M_s (196 + v2) 0 (fun v3 => m_X10_makes_j144 v1 v3)) else (if v1 = 2 then (bd1 (m_X10_bridges M_s v2) (fun v11 => rd 48 M_one v2 (fun v12 => bd1 (m_X10_lacks N M_ways M_s M_one M_other v12) (fun v13 => rd 48 M_other v2 (fun v14 => bd1 (m_X10_lacks N M_ways M_s M_one M_other v14) (fun v15 => lt1 (m_X10_lesser v13 v15) (fun v16 => wr 244 M_s (196 + v2) (v11 + v16) (fun v17 => m_X10_makes_j144 v1 v17)))))))) else (if v1 = 3 then (rd 48 M_one v2 (fun v18 => bd1 (m_X10_due N M_ways M_s M_one M_other v2 v18) (fun v19 => rd 48 M_other v2 (fun v20 => bd1 (m_X10_due N M_ways M_s M_one M_other v2 v20) (fun v21 => lt1 (m_X10_greater v19 v21) (fun v22 => wr 244 M_s (148 + v2) v22 (fun v23 => m_X10_makes_j144 v1 v23))))))) else (rd 244 M_s (196 + v2) (fun v24 => wr 244 M_s (196 + v2) (v24 - 1) (fun v25 => m_X10_makes_j144 v1 v25)))))))
set_option maxHeartbeats 4000000 in
set_option maxRecDepth 100000 in
theorem c_X10_makes (l : Launch) (D : va_G) (cI cJ cS cB : ClassId) (a : Nat → Nat) (M_pasts : Int32) (M_typed : Int32) (M_ways : Int32) (M_z : Int32) (M_why : Int32) (M_rows : Int32) (M_wide : Int32) (M_column : Int32) (M_found : Int32) (M_s : Nat → Int32) (M_one : Nat → Int32) (M_other : Nat → Int32) (x1 : Int32) (N : Nat) (M_s' : Nat → Int32) (hm : m_X10_makes N M_ways M_s M_one M_other x1 = some M_s') :
    mU l D (TYs cI cJ cS cB) yX10_makes wsX10_makes { frames := 3, cells := 0, slots := 0, locals := 67 } [.ref (a 35), .int x1] [o_M a M_pasts M_typed M_ways M_z M_why M_rows M_wide M_column M_found, ai (a 36) cI 244 M_s, ai (a 39) cI 48 M_one, ai (a 40) cI 48 M_other] [o_M a M_pasts M_typed M_ways M_z M_why M_rows M_wide M_column M_found, ai (a 36) cI 244 M_s', ai (a 39) cI 48 M_one, ai (a 40) cI 48 M_other] none := by
  refine mG_of (cc := cX10_makes) (maxL := 4) (ret := none) (by decide) rfl rfl (Nat.le_of_ble_eq_true rfl) ?_
  intro p e s m args below meth c A hx hb hr hml hlk hnm hts hown hK hP hD hA hS ls hl
  have hl : lv_has ls 4 [(0, .ref (a 35)), (1, .int x1)] := hl
  have hiX10 : ∀ w ∈ wsX100, w ∈ wsX10_makes := fun w h => List.mem_cons_of_mem _ (List.mem_append_right _ h)
  unfold m_X10_makes at hm
  have h144 : ∀ (y4 : Int32) (y5 : Nat → Int32), m_X10_makes_j144 y4 y5 = some M_s' → ∀ (H : Heap) (locs : List Loc), va_P D vwCl [o_M a M_pasts M_typed M_ways M_z M_why M_rows M_wide M_column M_found, ai (a 36) cI 244 y5, ai (a 39) cI 48 M_one, ai (a 40) cI 48 M_other] H → va_D A [o_M a M_pasts M_typed M_ways M_z M_why M_rows M_wide M_column M_found, ai (a 36) cI 244 y5, ai (a 39) cI 48 M_one, ai (a 40) cI 48 M_other] → va_S A s.heap H locs → ∀ ls : Array Slot, lv_has ls 4 [(0, .ref (a 35)), (2, .int y4)] → W p l e { frames := 3, cells := 0, slots := 0, locals := 67 } s m args below meth c H locs 0 0 (MQ below (eQ D none (fun _ : Unit => [o_M a M_pasts M_typed M_ways M_z M_why M_rows M_wide M_column M_found, ai (a 36) cI 244 M_s', ai (a 39) cI 48 M_one, ai (a 40) cI 48 M_other]) A) args s 0 0 A) (F0 m 144 ls []) := by
    intro y4 y5 hm H locs hP hD hS ls hl
    unfold m_X10_makes_j144 at hm
    refine lv_aload_n hx hb dX10_makes_144 rfl (lv_at hl 0 rfl) ?_
    refine va_get (D := D) (ci := 10) (v := .ref (a 36)) (C := RX10) (T := TX10) (N := 17) hx hb hts hiX10 hown hK.1 hP 0 rfl rfl 0 (by decide) (hts (.fieldLink RX10 7 "IslandBridgesModel" "s" "[I") (List.mem_of_getElem? (i := 1) rfl)) (fun _ h9 => h9) rfl dX10_makes_145 ?_
    refine lv_iconst (v := 2) hx hb dX10_makes_148 (by decide) ?_
    refine lv_aload_n hx hb dX10_makes_149 rfl (lv_at hl 0 rfl) ?_
    refine va_get (D := D) (ci := 10) (v := .ref (a 36)) (C := RX10) (T := TX10) (N := 17) hx hb hts hiX10 hown hK.1 hP 0 rfl rfl 0 (by decide) (hts (.fieldLink RX10 7 "IslandBridgesModel" "s" "[I") (List.mem_of_getElem? (i := 1) rfl)) (fun _ h9 => h9) rfl dX10_makes_150 ?_
    refine lv_iconst (v := 2) hx hb dX10_makes_153 (by decide) ?_
    obtain ⟨v6, nv6, ev6, hm⟩ := rd_inv hm
    refine va_iald hx hb hK.1 hP 1 0 rfl rfl nv6 dX10_makes_154 ?_
    refine ltop ev6 ?_
    refine lv_iload_n hx hb dX10_makes_155 rfl (lv_at hl 1 rfl) ?_
    obtain ⟨v7, h_v7, hm⟩ := lt1_inv hm
    refine cSs ⟨hx, hb, hml, hown, hts⟩ (c_X10_greater l D cI cJ cS cB a  v6 y4 v7 h_v7) (va_cwS 2 hts gX10_makes_X10_greater rfl rfl rfl hd_X10_greater ⟨(Nat.le_of_ble_eq_true rfl), (Nat.le_of_ble_eq_true rfl)⟩) hK hP hD hS hA [] rfl rfl rfl hl.1 (Nat.le_of_ble_eq_true rfl) ⟨Nat.zero_le _, Nat.zero_le _⟩ rfl dX10_makes_156 (fun H locs hP hD hS => ?_)
    obtain ⟨v8, nv8, ev8, hm⟩ := wr_inv hm
    refine va_iast hx hb hK.1 hP hD hS 1 0 rfl rfl nv8 dX10_makes_159 (fun H locs hP hD hS => ?_)
    have hP : va_P D vwCl [o_M a M_pasts M_typed M_ways M_z M_why M_rows M_wide M_column M_found, ai (a 36) cI 244 v8, ai (a 39) cI 48 M_one, ai (a 40) cI 48 M_other] H := by rw [← ev8]; exact hP
    have hD : va_D A [o_M a M_pasts M_typed M_ways M_z M_why M_rows M_wide M_column M_found, ai (a 36) cI 244 v8, ai (a 39) cI 48 M_one, ai (a 40) cI 48 M_other] := by rw [← ev8]; exact hD
    refine lv_aload_n hx hb dX10_makes_160 rfl (lv_at hl 0 rfl) ?_
    refine va_get (D := D) (ci := 10) (v := .ref (a 36)) (C := RX10) (T := TX10) (N := 17) hx hb hts hiX10 hown hK.1 hP 0 rfl rfl 0 (by decide) (hts (.fieldLink RX10 7 "IslandBridgesModel" "s" "[I") (List.mem_of_getElem? (i := 1) rfl)) (fun _ h9 => h9) rfl dX10_makes_161 ?_
    refine lv_iconst (v := 3) hx hb dX10_makes_164 (by decide) ?_
    refine lv_dup2_11 hx hb dX10_makes_165 rfl rfl ?_
    obtain ⟨v9, nv9, ev9, hm⟩ := rd_inv hm
    refine va_iald hx hb hK.1 hP 1 0 rfl rfl nv9 dX10_makes_166 ?_
    refine ltop ev9 ?_
    refine lv_iconst (v := 1) hx hb dX10_makes_167 (by decide) ?_
    refine lv_iadd hx hb dX10_makes_168 ?_
    obtain ⟨v10, nv10, ev10, hm⟩ := wr_inv hm
    refine va_iast hx hb hK.1 hP hD hS 1 0 rfl rfl nv10 dX10_makes_169 (fun H locs hP hD hS => ?_)
    have hP : va_P D vwCl [o_M a M_pasts M_typed M_ways M_z M_why M_rows M_wide M_column M_found, ai (a 36) cI 244 v10, ai (a 39) cI 48 M_one, ai (a 40) cI 48 M_other] H := by rw [← ev10]; exact hP
    have hD : va_D A [o_M a M_pasts M_typed M_ways M_z M_why M_rows M_wide M_column M_found, ai (a 36) cI 244 v10, ai (a 39) cI 48 M_one, ai (a 40) cI 48 M_other] := by rw [← ev10]; exact hD
    cases hm
    exact rV () hx hb hr hlk hP hD hS dX10_makes_170
  refine lv_iload_n hx hb dX10_makes_0 rfl (lv_at hl 1 rfl) ?_
  refine lv_bipush (v := 100) hx hb dX10_makes_1 (by decide) ?_
  refine lv_idiv hx hb dX10_makes_3 (by decide) ?_
  obtain ⟨v1, ev1, hm⟩ := lt1_inv hm
  refine ltop ev1 ?_
  refine lv_istore_n (lv' := [(2, .int v1), (0, .ref (a 35)), (1, .int x1)]) hx hb dX10_makes_4 rfl hl (by decide) rfl (fun ls hl => ?_)
  refine lv_iload_n hx hb dX10_makes_5 rfl (lv_at hl 2 rfl) ?_
  refine lv_bipush (v := 100) hx hb dX10_makes_6 (by decide) ?_
  refine lv_irem hx hb dX10_makes_8 (by decide) ?_
  obtain ⟨v2, ev2, hm⟩ := lt1_inv hm
  refine ltop ev2 ?_
  refine lv_istore_n (lv' := [(3, .int v2), (2, .int v1), (0, .ref (a 35)), (1, .int x1)]) hx hb dX10_makes_9 rfl hl (by decide) rfl (fun ls hl => ?_)
  refine lv_iload_n hx hb dX10_makes_10 rfl (lv_at hl 1 rfl) ?_
  by_cases q11_1 : v1 = 1
  · have hm := ip q11_1 hm
    refine lv_tableIn (off := 25) (tgt := 36) hx hb dX10_makes_11 (by rw [q11_1]; decide) (by rw [q11_1]; decide) (by rw [q11_1]; rfl) (by decide) ?_
    refine lv_aload_n hx hb dX10_makes_36 rfl (lv_at hl 2 rfl) ?_
    refine va_get (D := D) (ci := 10) (v := .ref (a 36)) (C := RX10) (T := TX10) (N := 17) hx hb hts hiX10 hown hK.1 hP 0 rfl rfl 0 (by decide) (hts (.fieldLink RX10 7 "IslandBridgesModel" "s" "[I") (List.mem_of_getElem? (i := 1) rfl)) (fun _ h9 => h9) rfl dX10_makes_37 ?_
    refine lv_sipush (v := 196) hx hb dX10_makes_40 (by decide) ?_
    refine lv_iload_n hx hb dX10_makes_43 rfl (lv_at hl 0 rfl) ?_
    refine lv_iadd hx hb dX10_makes_44 ?_
    refine lv_iconst (v := 0) hx hb dX10_makes_45 (by decide) ?_
    obtain ⟨v3, nv3, ev3, hm⟩ := wr_inv hm
    refine va_iast hx hb hK.1 hP hD hS 1 0 rfl rfl nv3 dX10_makes_46 (fun H locs hP hD hS => ?_)
    have hP : va_P D vwCl [o_M a M_pasts M_typed M_ways M_z M_why M_rows M_wide M_column M_found, ai (a 36) cI 244 v3, ai (a 39) cI 48 M_one, ai (a 40) cI 48 M_other] H := by rw [← ev3]; exact hP
    have hD : va_D A [o_M a M_pasts M_typed M_ways M_z M_why M_rows M_wide M_column M_found, ai (a 36) cI 244 v3, ai (a 39) cI 48 M_one, ai (a 40) cI 48 M_other] := by rw [← ev3]; exact hD
    refine lv_goto (tgt := 144) hx hb dX10_makes_47 (by decide) ?_
    exact h144 v1 v3 hm _ _ hP hD hS ls (lv_sub hl [2, 1] rfl)
  have hm := ine q11_1 hm
  by_cases q11_2 : v1 = 2
  · have hm := ip q11_2 hm
    refine lv_tableIn (off := 39) (tgt := 50) hx hb dX10_makes_11 (by rw [q11_2]; decide) (by rw [q11_2]; decide) (by rw [q11_2]; rfl) (by decide) ?_
    refine lv_aload_n hx hb dX10_makes_50 rfl (lv_at hl 2 rfl) ?_
    refine va_get (D := D) (ci := 10) (v := .ref (a 36)) (C := RX10) (T := TX10) (N := 17) hx hb hts hiX10 hown hK.1 hP 0 rfl rfl 0 (by decide) (hts (.fieldLink RX10 7 "IslandBridgesModel" "s" "[I") (List.mem_of_getElem? (i := 1) rfl)) (fun _ h9 => h9) rfl dX10_makes_51 ?_
    refine lv_sipush (v := 196) hx hb dX10_makes_54 (by decide) ?_
    refine lv_iload_n hx hb dX10_makes_57 rfl (lv_at hl 0 rfl) ?_
    refine lv_iadd hx hb dX10_makes_58 ?_
    refine lv_aload_n hx hb dX10_makes_59 rfl (lv_at hl 2 rfl) ?_
    refine lv_iload_n hx hb dX10_makes_60 rfl (lv_at hl 0 rfl) ?_
    obtain ⟨v11, h_v11, hm⟩ := bd1_inv hm
    refine cVs ⟨hx, hb, hml, hown, hts⟩ (c_X10_bridges l D cI cJ cS cB a M_pasts M_typed M_ways M_z M_why M_rows M_wide M_column M_found M_s v2 v11 h_v11) (cwV 1 hts gX10_makes_X10_bridges rfl rfl rfl hd_X10_bridges ⟨(Nat.le_of_ble_eq_true rfl), (Nat.le_of_ble_eq_true rfl)⟩) hK hP hD hS hA [0, 1] rfl rfl rfl hl.1 (Nat.le_of_ble_eq_true rfl) ⟨Nat.zero_le _, Nat.zero_le _⟩ 0 rfl rfl rfl rfl dX10_makes_61 (fun H locs hP hD hS => ?_)
    refine lv_aload_n hx hb dX10_makes_64 rfl (lv_at hl 2 rfl) ?_
    refine lv_aload_n hx hb dX10_makes_65 rfl (lv_at hl 2 rfl) ?_
    refine va_get (D := D) (ci := 10) (v := .ref (a 39)) (C := RX10) (T := TX10) (N := 17) hx hb hts hiX10 hown hK.1 hP 0 rfl rfl 6 (by decide) (hts (.fieldLink RX10 20 "IslandBridgesModel" "one" "[I") (List.mem_of_getElem? (i := 2) rfl)) (fun _ h9 => h9) rfl dX10_makes_66 ?_
    refine lv_iload_n hx hb dX10_makes_69 rfl (lv_at hl 0 rfl) ?_
    obtain ⟨v12, nv12, ev12, hm⟩ := rd_inv hm
    refine va_iald hx hb hK.1 hP 2 0 rfl rfl nv12 dX10_makes_70 ?_
    refine ltop ev12 ?_
    obtain ⟨v13, h_v13, hm⟩ := bd1_inv hm
    refine cVs ⟨hx, hb, hml, hown, hts⟩ (c_X10_lacks l D cI cJ cS cB a M_pasts M_typed M_ways M_z M_why M_rows M_wide M_column M_found M_s M_one M_other v12 N v13 h_v13) (cwV 1 hts gX10_makes_X10_lacks rfl rfl rfl hd_X10_lacks ⟨(Nat.le_of_ble_eq_true rfl), (Nat.le_of_ble_eq_true rfl)⟩) hK hP hD hS hA [0, 1, 2, 3] rfl rfl rfl hl.1 (Nat.le_of_ble_eq_true rfl) ⟨Nat.zero_le _, Nat.zero_le _⟩ 0 rfl rfl rfl rfl dX10_makes_71 (fun H locs hP hD hS => ?_)
    refine lv_aload_n hx hb dX10_makes_74 rfl (lv_at hl 2 rfl) ?_
    refine lv_aload_n hx hb dX10_makes_75 rfl (lv_at hl 2 rfl) ?_
    refine va_get (D := D) (ci := 10) (v := .ref (a 40)) (C := RX10) (T := TX10) (N := 17) hx hb hts hiX10 hown hK.1 hP 0 rfl rfl 7 (by decide) (hts (.fieldLink RX10 23 "IslandBridgesModel" "other" "[I") (List.mem_of_getElem? (i := 3) rfl)) (fun _ h9 => h9) rfl dX10_makes_76 ?_
    refine lv_iload_n hx hb dX10_makes_79 rfl (lv_at hl 0 rfl) ?_
    obtain ⟨v14, nv14, ev14, hm⟩ := rd_inv hm
    refine va_iald hx hb hK.1 hP 3 0 rfl rfl nv14 dX10_makes_80 ?_
    refine ltop ev14 ?_
    obtain ⟨v15, h_v15, hm⟩ := bd1_inv hm
    refine cVs ⟨hx, hb, hml, hown, hts⟩ (c_X10_lacks l D cI cJ cS cB a M_pasts M_typed M_ways M_z M_why M_rows M_wide M_column M_found M_s M_one M_other v14 N v15 h_v15) (cwV 1 hts gX10_makes_X10_lacks rfl rfl rfl hd_X10_lacks ⟨(Nat.le_of_ble_eq_true rfl), (Nat.le_of_ble_eq_true rfl)⟩) hK hP hD hS hA [0, 1, 2, 3] rfl rfl rfl hl.1 (Nat.le_of_ble_eq_true rfl) ⟨Nat.zero_le _, Nat.zero_le _⟩ 0 rfl rfl rfl rfl dX10_makes_81 (fun H locs hP hD hS => ?_)
    obtain ⟨v16, h_v16, hm⟩ := lt1_inv hm
    refine cSs ⟨hx, hb, hml, hown, hts⟩ (c_X10_lesser l D cI cJ cS cB a  v13 v15 v16 h_v16) (va_cwS 2 hts gX10_makes_X10_lesser rfl rfl rfl hd_X10_lesser ⟨(Nat.le_of_ble_eq_true rfl), (Nat.le_of_ble_eq_true rfl)⟩) hK hP hD hS hA [] rfl rfl rfl hl.1 (Nat.le_of_ble_eq_true rfl) ⟨Nat.zero_le _, Nat.zero_le _⟩ rfl dX10_makes_84 (fun H locs hP hD hS => ?_)
    refine lv_iadd hx hb dX10_makes_87 ?_
    obtain ⟨v17, nv17, ev17, hm⟩ := wr_inv hm
    refine va_iast hx hb hK.1 hP hD hS 1 0 rfl rfl nv17 dX10_makes_88 (fun H locs hP hD hS => ?_)
    have hP : va_P D vwCl [o_M a M_pasts M_typed M_ways M_z M_why M_rows M_wide M_column M_found, ai (a 36) cI 244 v17, ai (a 39) cI 48 M_one, ai (a 40) cI 48 M_other] H := by rw [← ev17]; exact hP
    have hD : va_D A [o_M a M_pasts M_typed M_ways M_z M_why M_rows M_wide M_column M_found, ai (a 36) cI 244 v17, ai (a 39) cI 48 M_one, ai (a 40) cI 48 M_other] := by rw [← ev17]; exact hD
    refine lv_goto (tgt := 144) hx hb dX10_makes_89 (by decide) ?_
    exact h144 v1 v17 hm _ _ hP hD hS ls (lv_sub hl [2, 1] rfl)
  have hm := ine q11_2 hm
  by_cases q11_3 : v1 = 3
  · have hm := ip q11_3 hm
    refine lv_tableIn (off := 81) (tgt := 92) hx hb dX10_makes_11 (by rw [q11_3]; decide) (by rw [q11_3]; decide) (by rw [q11_3]; rfl) (by decide) ?_
    refine lv_aload_n hx hb dX10_makes_92 rfl (lv_at hl 2 rfl) ?_
    refine va_get (D := D) (ci := 10) (v := .ref (a 36)) (C := RX10) (T := TX10) (N := 17) hx hb hts hiX10 hown hK.1 hP 0 rfl rfl 0 (by decide) (hts (.fieldLink RX10 7 "IslandBridgesModel" "s" "[I") (List.mem_of_getElem? (i := 1) rfl)) (fun _ h9 => h9) rfl dX10_makes_93 ?_
    refine lv_sipush (v := 148) hx hb dX10_makes_96 (by decide) ?_
    refine lv_iload_n hx hb dX10_makes_99 rfl (lv_at hl 0 rfl) ?_
    refine lv_iadd hx hb dX10_makes_100 ?_
    refine lv_aload_n hx hb dX10_makes_101 rfl (lv_at hl 2 rfl) ?_
    refine lv_iload_n hx hb dX10_makes_102 rfl (lv_at hl 0 rfl) ?_
    refine lv_aload_n hx hb dX10_makes_103 rfl (lv_at hl 2 rfl) ?_
    refine va_get (D := D) (ci := 10) (v := .ref (a 39)) (C := RX10) (T := TX10) (N := 17) hx hb hts hiX10 hown hK.1 hP 0 rfl rfl 6 (by decide) (hts (.fieldLink RX10 20 "IslandBridgesModel" "one" "[I") (List.mem_of_getElem? (i := 2) rfl)) (fun _ h9 => h9) rfl dX10_makes_104 ?_
    refine lv_iload_n hx hb dX10_makes_107 rfl (lv_at hl 0 rfl) ?_
    obtain ⟨v18, nv18, ev18, hm⟩ := rd_inv hm
    refine va_iald hx hb hK.1 hP 2 0 rfl rfl nv18 dX10_makes_108 ?_
    refine ltop ev18 ?_
    obtain ⟨v19, h_v19, hm⟩ := bd1_inv hm
    refine cVs ⟨hx, hb, hml, hown, hts⟩ (c_X10_due l D cI cJ cS cB a M_pasts M_typed M_ways M_z M_why M_rows M_wide M_column M_found M_s M_one M_other v2 v18 N v19 h_v19) (cwV 2 hts gX10_makes_X10_due rfl rfl rfl hd_X10_due ⟨(Nat.le_of_ble_eq_true rfl), (Nat.le_of_ble_eq_true rfl)⟩) hK hP hD hS hA [0, 1, 2, 3] rfl rfl rfl hl.1 (Nat.le_of_ble_eq_true rfl) ⟨Nat.zero_le _, Nat.zero_le _⟩ 0 rfl rfl rfl rfl dX10_makes_109 (fun H locs hP hD hS => ?_)
    refine lv_aload_n hx hb dX10_makes_112 rfl (lv_at hl 2 rfl) ?_
    refine lv_iload_n hx hb dX10_makes_113 rfl (lv_at hl 0 rfl) ?_
    refine lv_aload_n hx hb dX10_makes_114 rfl (lv_at hl 2 rfl) ?_
    refine va_get (D := D) (ci := 10) (v := .ref (a 40)) (C := RX10) (T := TX10) (N := 17) hx hb hts hiX10 hown hK.1 hP 0 rfl rfl 7 (by decide) (hts (.fieldLink RX10 23 "IslandBridgesModel" "other" "[I") (List.mem_of_getElem? (i := 3) rfl)) (fun _ h9 => h9) rfl dX10_makes_115 ?_
    refine lv_iload_n hx hb dX10_makes_118 rfl (lv_at hl 0 rfl) ?_
    obtain ⟨v20, nv20, ev20, hm⟩ := rd_inv hm
    refine va_iald hx hb hK.1 hP 3 0 rfl rfl nv20 dX10_makes_119 ?_
    refine ltop ev20 ?_
    obtain ⟨v21, h_v21, hm⟩ := bd1_inv hm
    refine cVs ⟨hx, hb, hml, hown, hts⟩ (c_X10_due l D cI cJ cS cB a M_pasts M_typed M_ways M_z M_why M_rows M_wide M_column M_found M_s M_one M_other v2 v20 N v21 h_v21) (cwV 2 hts gX10_makes_X10_due rfl rfl rfl hd_X10_due ⟨(Nat.le_of_ble_eq_true rfl), (Nat.le_of_ble_eq_true rfl)⟩) hK hP hD hS hA [0, 1, 2, 3] rfl rfl rfl hl.1 (Nat.le_of_ble_eq_true rfl) ⟨Nat.zero_le _, Nat.zero_le _⟩ 0 rfl rfl rfl rfl dX10_makes_120 (fun H locs hP hD hS => ?_)
    obtain ⟨v22, h_v22, hm⟩ := lt1_inv hm
    refine cSs ⟨hx, hb, hml, hown, hts⟩ (c_X10_greater l D cI cJ cS cB a  v19 v21 v22 h_v22) (va_cwS 2 hts gX10_makes_X10_greater rfl rfl rfl hd_X10_greater ⟨(Nat.le_of_ble_eq_true rfl), (Nat.le_of_ble_eq_true rfl)⟩) hK hP hD hS hA [] rfl rfl rfl hl.1 (Nat.le_of_ble_eq_true rfl) ⟨Nat.zero_le _, Nat.zero_le _⟩ rfl dX10_makes_123 (fun H locs hP hD hS => ?_)
    obtain ⟨v23, nv23, ev23, hm⟩ := wr_inv hm
    refine va_iast hx hb hK.1 hP hD hS 1 0 rfl rfl nv23 dX10_makes_126 (fun H locs hP hD hS => ?_)
    have hP : va_P D vwCl [o_M a M_pasts M_typed M_ways M_z M_why M_rows M_wide M_column M_found, ai (a 36) cI 244 v23, ai (a 39) cI 48 M_one, ai (a 40) cI 48 M_other] H := by rw [← ev23]; exact hP
    have hD : va_D A [o_M a M_pasts M_typed M_ways M_z M_why M_rows M_wide M_column M_found, ai (a 36) cI 244 v23, ai (a 39) cI 48 M_one, ai (a 40) cI 48 M_other] := by rw [← ev23]; exact hD
    refine lv_goto (tgt := 144) hx hb dX10_makes_127 (by decide) ?_
    exact h144 v1 v23 hm _ _ hP hD hS ls (lv_sub hl [2, 1] rfl)
  have hm := ine q11_3 hm
  have w11_1 : v1.toInt ≠ 1 := fun h9 => q11_1 (Int32.toInt_inj.mp (h9.trans rfl))
  have w11_2 : v1.toInt ≠ 2 := fun h9 => q11_2 (Int32.toInt_inj.mp (h9.trans rfl))
  have w11_3 : v1.toInt ≠ 3 := fun h9 => q11_3 (Int32.toInt_inj.mp (h9.trans rfl))
  refine lv_tableOut (tgt := 130) hx hb dX10_makes_11 (by omega) (by decide) ?_
  refine lv_aload_n hx hb dX10_makes_130 rfl (lv_at hl 2 rfl) ?_
  refine va_get (D := D) (ci := 10) (v := .ref (a 36)) (C := RX10) (T := TX10) (N := 17) hx hb hts hiX10 hown hK.1 hP 0 rfl rfl 0 (by decide) (hts (.fieldLink RX10 7 "IslandBridgesModel" "s" "[I") (List.mem_of_getElem? (i := 1) rfl)) (fun _ h9 => h9) rfl dX10_makes_131 ?_
  refine lv_sipush (v := 196) hx hb dX10_makes_134 (by decide) ?_
  refine lv_iload_n hx hb dX10_makes_137 rfl (lv_at hl 0 rfl) ?_
  refine lv_iadd hx hb dX10_makes_138 ?_
  refine lv_dup2_11 hx hb dX10_makes_139 rfl rfl ?_
  obtain ⟨v24, nv24, ev24, hm⟩ := rd_inv hm
  refine va_iald hx hb hK.1 hP 1 0 rfl rfl nv24 dX10_makes_140 ?_
  refine ltop ev24 ?_
  refine lv_iconst (v := 1) hx hb dX10_makes_141 (by decide) ?_
  refine lv_isub hx hb dX10_makes_142 ?_
  obtain ⟨v25, nv25, ev25, hm⟩ := wr_inv hm
  refine va_iast hx hb hK.1 hP hD hS 1 0 rfl rfl nv25 dX10_makes_143 (fun H locs hP hD hS => ?_)
  have hP : va_P D vwCl [o_M a M_pasts M_typed M_ways M_z M_why M_rows M_wide M_column M_found, ai (a 36) cI 244 v25, ai (a 39) cI 48 M_one, ai (a 40) cI 48 M_other] H := by rw [← ev25]; exact hP
  have hD : va_D A [o_M a M_pasts M_typed M_ways M_z M_why M_rows M_wide M_column M_found, ai (a 36) cI 244 v25, ai (a 39) cI 48 M_one, ai (a 40) cI 48 M_other] := by rw [← ev25]; exact hD
  exact h144 v1 v25 hm _ _ hP hD hS ls (lv_sub hl [2, 1] rfl)
theorem hd_X10_step : yX10_step.cls = RX10 ∧ yX10_step.cls ≠ "java/lang/invoke/MethodHandle" ∧ yX10_step.cls ≠ "java/lang/invoke/VarHandle" ∧ (parseMethodDescriptor yX10_step.desc).map (fun d => d.parameters.length) = some 0 := by decide +kernel
def m_X10_step (N : Nat) (M_pasts : Int32) (M_ways : Int32) (M_s : Nat → Int32) (M_past : Nat → Int32) (M_one : Nat → Int32) (M_other : Nat → Int32) (M_group : Nat → Int32) : Option (Int32 × Int32 × (Nat → Int32) × (Nat → Int32) × (Nat → Int32)) :=
  bd3 (m_X10_next N M_ways M_s M_one M_other M_group) (fun v1 v2 v3 => if v1 < 0 then (some ((v1, M_pasts, v2, M_past, v3))) else (bd2 (m_X10_notes N M_pasts v2 M_past) (fun v4 v5 => bd1 (m_X10_makes N M_ways v2 M_one M_other v1) (fun v6 => some ((v1, v4, v6, v5, v3))))))
set_option maxHeartbeats 4000000 in
set_option maxRecDepth 100000 in
theorem c_X10_step (l : Launch) (D : va_G) (cI cJ cS cB : ClassId) (a : Nat → Nat) (M_pasts : Int32) (M_typed : Int32) (M_ways : Int32) (M_z : Int32) (M_why : Int32) (M_rows : Int32) (M_wide : Int32) (M_column : Int32) (M_found : Int32) (M_s : Nat → Int32) (M_past : Nat → Int32) (M_one : Nat → Int32) (M_other : Nat → Int32) (M_group : Nat → Int32)  (N : Nat) (r0 : Int32) (M_pasts' : Int32) (M_s' : Nat → Int32) (M_past' : Nat → Int32) (M_group' : Nat → Int32) (hm : m_X10_step N M_pasts M_ways M_s M_past M_one M_other M_group = some (r0, M_pasts', M_s', M_past', M_group')) :
    mU l D (TYs cI cJ cS cB) yX10_step wsX10_step { frames := 6, cells := 0, slots := 0, locals := 138 } [.ref (a 35)] [o_M a M_pasts M_typed M_ways M_z M_why M_rows M_wide M_column M_found, ai (a 36) cI 244 M_s, ai (a 37) cI 976 M_past, ai (a 39) cI 48 M_one, ai (a 40) cI 48 M_other, ai (a 41) cI 144 M_group] [o_M a M_pasts' M_typed M_ways M_z M_why M_rows M_wide M_column M_found, ai (a 36) cI 244 M_s', ai (a 37) cI 976 M_past', ai (a 39) cI 48 M_one, ai (a 40) cI 48 M_other, ai (a 41) cI 144 M_group'] (some (.int r0)) := by
  refine mG_of (cc := cX10_step) (maxL := 2) (ret := (some .int)) (by decide) rfl rfl (Nat.le_of_ble_eq_true rfl) ?_
  intro p e s m args below meth c A hx hb hr hml hlk hnm hts hown hK hP hD hA hS ls hl
  have hl : lv_has ls 2 [(0, .ref (a 35))] := hl
  have hiX10 : ∀ w ∈ wsX100, w ∈ wsX10_step := fun w h => List.mem_cons_of_mem _ (List.mem_append_right _ h)
  unfold m_X10_step at hm
  refine lv_aload_n hx hb dX10_step_0 rfl (lv_at hl 0 rfl) ?_
  obtain ⟨v1, v2, v3, h_v1, hm⟩ := bd3_inv hm
  refine cVx ⟨hx, hb, hml, hown, hts⟩ (c_X10_next l D cI cJ cS cB a M_pasts M_typed M_ways M_z M_why M_rows M_wide M_column M_found M_s M_one M_other M_group N v1 v2 v3 h_v1) (cwV 0 hts gX10_step_X10_next rfl rfl rfl hd_X10_next ⟨(Nat.le_of_ble_eq_true rfl), (Nat.le_of_ble_eq_true rfl)⟩) hK hP hD hS hA [0, 1, 3, 4, 5] rfl rfl [o_M a M_pasts M_typed M_ways M_z M_why M_rows M_wide M_column M_found, ai (a 36) cI 244 v2, ai (a 37) cI 976 M_past, ai (a 39) cI 48 M_one, ai (a 40) cI 48 M_other, ai (a 41) cI 144 v3] [(true, 0), (true, 1), (false, 2), (true, 2), (true, 3), (true, 4)] rfl rfl rfl hl.1 (Nat.le_of_ble_eq_true rfl) ⟨Nat.zero_le _, Nat.zero_le _⟩ 0 rfl rfl rfl rfl dX10_step_1 (fun H locs hP hD hS => ?_)
  refine lv_istore_n (lv' := [(1, .int v1), (0, .ref (a 35))]) hx hb dX10_step_4 rfl hl (by decide) rfl (fun ls hl => ?_)
  refine lv_iload_n hx hb dX10_step_5 rfl (lv_at hl 0 rfl) ?_
  refine lv_if_lt (tgt := 18) hx hb dX10_step_6 (by decide) (fun c6 => ?_) (fun c6 => ?_)
  · have hm := ip c6 hm
    refine lv_iload_n hx hb dX10_step_18 rfl (lv_at hl 0 rfl) ?_
    cases hm
    exact rI () hx hb hr hlk hP hD hS dX10_step_19
  · have hm := ine c6 hm
    refine lv_aload_n hx hb dX10_step_9 rfl (lv_at hl 1 rfl) ?_
    obtain ⟨v4, v5, h_v4, hm⟩ := bd2_inv hm
    refine cVx ⟨hx, hb, hml, hown, hts⟩ (c_X10_notes l D cI cJ cS cB a M_pasts M_typed M_ways M_z M_why M_rows M_wide M_column M_found v2 M_past N v4 v5 h_v4) (cwV 0 hts gX10_step_X10_notes rfl rfl rfl hd_X10_notes ⟨(Nat.le_of_ble_eq_true rfl), (Nat.le_of_ble_eq_true rfl)⟩) hK hP hD hS hA [0, 1, 2] rfl rfl [o_M a v4 M_typed M_ways M_z M_why M_rows M_wide M_column M_found, ai (a 36) cI 244 v2, ai (a 37) cI 976 v5, ai (a 39) cI 48 M_one, ai (a 40) cI 48 M_other, ai (a 41) cI 144 v3] [(true, 0), (true, 1), (true, 2), (false, 3), (false, 4), (false, 5)] rfl rfl rfl hl.1 (Nat.le_of_ble_eq_true rfl) ⟨Nat.zero_le _, Nat.zero_le _⟩ 0 rfl rfl rfl rfl dX10_step_10 (fun H locs hP hD hS => ?_)
    refine lv_aload_n hx hb dX10_step_13 rfl (lv_at hl 1 rfl) ?_
    refine lv_iload_n hx hb dX10_step_14 rfl (lv_at hl 0 rfl) ?_
    obtain ⟨v6, h_v6, hm⟩ := bd1_inv hm
    refine cVx ⟨hx, hb, hml, hown, hts⟩ (c_X10_makes l D cI cJ cS cB a v4 M_typed M_ways M_z M_why M_rows M_wide M_column M_found v2 M_one M_other v1 N v6 h_v6) (cwV 1 hts gX10_step_X10_makes rfl rfl rfl hd_X10_makes ⟨(Nat.le_of_ble_eq_true rfl), (Nat.le_of_ble_eq_true rfl)⟩) hK hP hD hS hA [0, 1, 3, 4] rfl rfl [o_M a v4 M_typed M_ways M_z M_why M_rows M_wide M_column M_found, ai (a 36) cI 244 v6, ai (a 37) cI 976 v5, ai (a 39) cI 48 M_one, ai (a 40) cI 48 M_other, ai (a 41) cI 144 v3] [(true, 0), (true, 1), (false, 2), (true, 2), (true, 3), (false, 5)] rfl rfl rfl hl.1 (Nat.le_of_ble_eq_true rfl) ⟨Nat.zero_le _, Nat.zero_le _⟩ 0 rfl rfl rfl rfl dX10_step_15 (fun H locs hP hD hS => ?_)
    refine lv_iload_n hx hb dX10_step_18 rfl (lv_at hl 0 rfl) ?_
    cases hm
    exact rI () hx hb hr hlk hP hD hS dX10_step_19
theorem hd_X10_hint : yX10_hint.cls = RX10 ∧ yX10_hint.cls ≠ "java/lang/invoke/MethodHandle" ∧ yX10_hint.cls ≠ "java/lang/invoke/VarHandle" ∧ (parseMethodDescriptor yX10_hint.desc).map (fun d => d.parameters.length) = some 0 := by decide +kernel
def m_X10_hint (N : Nat) (M_ways : Int32) (M_s : Nat → Int32) (M_one : Nat → Int32) (M_other : Nat → Int32) (M_group : Nat → Int32) : Option (Int32 × (Nat → Int32) × (Nat → Int32)) :=
  bd3 (m_X10_next N M_ways M_s M_one M_other M_group) (fun v1 v2 v3 => some ((v1, v2, v3)))
set_option maxHeartbeats 4000000 in
set_option maxRecDepth 100000 in
theorem c_X10_hint (l : Launch) (D : va_G) (cI cJ cS cB : ClassId) (a : Nat → Nat) (M_pasts : Int32) (M_typed : Int32) (M_ways : Int32) (M_z : Int32) (M_why : Int32) (M_rows : Int32) (M_wide : Int32) (M_column : Int32) (M_found : Int32) (M_s : Nat → Int32) (M_one : Nat → Int32) (M_other : Nat → Int32) (M_group : Nat → Int32)  (N : Nat) (r0 : Int32) (M_s' : Nat → Int32) (M_group' : Nat → Int32) (hm : m_X10_hint N M_ways M_s M_one M_other M_group = some (r0, M_s', M_group')) :
    mU l D (TYs cI cJ cS cB) yX10_hint wsX10_hint { frames := 6, cells := 0, slots := 0, locals := 138 } [.ref (a 35)] [o_M a M_pasts M_typed M_ways M_z M_why M_rows M_wide M_column M_found, ai (a 36) cI 244 M_s, ai (a 39) cI 48 M_one, ai (a 40) cI 48 M_other, ai (a 41) cI 144 M_group] [o_M a M_pasts M_typed M_ways M_z M_why M_rows M_wide M_column M_found, ai (a 36) cI 244 M_s', ai (a 39) cI 48 M_one, ai (a 40) cI 48 M_other, ai (a 41) cI 144 M_group'] (some (.int r0)) := by
  refine mG_of (cc := cX10_hint) (maxL := 1) (ret := (some .int)) (by decide) rfl rfl (Nat.le_of_ble_eq_true rfl) ?_
  intro p e s m args below meth c A hx hb hr hml hlk hnm hts hown hK hP hD hA hS ls hl
  have hl : lv_has ls 1 [(0, .ref (a 35))] := hl
  have hiX10 : ∀ w ∈ wsX100, w ∈ wsX10_hint := fun w h => List.mem_cons_of_mem _ (List.mem_append_right _ h)
  unfold m_X10_hint at hm
  refine lv_aload_n hx hb dX10_hint_0 rfl (lv_at hl 0 rfl) ?_
  obtain ⟨v1, v2, v3, h_v1, hm⟩ := bd3_inv hm
  refine cVx ⟨hx, hb, hml, hown, hts⟩ (c_X10_next l D cI cJ cS cB a M_pasts M_typed M_ways M_z M_why M_rows M_wide M_column M_found M_s M_one M_other M_group N v1 v2 v3 h_v1) (cwV 0 hts gX10_hint_X10_next rfl rfl rfl hd_X10_next ⟨(Nat.le_of_ble_eq_true rfl), (Nat.le_of_ble_eq_true rfl)⟩) hK hP hD hS hA [0, 1, 2, 3, 4] rfl rfl [o_M a M_pasts M_typed M_ways M_z M_why M_rows M_wide M_column M_found, ai (a 36) cI 244 v2, ai (a 39) cI 48 M_one, ai (a 40) cI 48 M_other, ai (a 41) cI 144 v3] [(true, 0), (true, 1), (true, 2), (true, 3), (true, 4)] rfl rfl rfl hl.1 (Nat.le_of_ble_eq_true rfl) ⟨Nat.zero_le _, Nat.zero_le _⟩ 0 rfl rfl rfl rfl dX10_hint_1 (fun H locs hP hD hS => ?_)
  cases hm
  exact rI () hx hb hr hlk hP hD hS dX10_hint_4
theorem hd_X10_steps : yX10_steps.cls = RX10 ∧ yX10_steps.cls ≠ "java/lang/invoke/MethodHandle" ∧ yX10_steps.cls ≠ "java/lang/invoke/VarHandle" ∧ (parseMethodDescriptor yX10_steps.desc).map (fun d => d.parameters.length) = some 1 := by decide +kernel
def m_X10_steps_b24 (N : Nat) (M_ways : Int32) (M_one : Nat → Int32) (M_other : Nat → Int32) (x1 : Int32) (y9 : Int32) (y11 : Nat → Int32) (rec24 : Int32 → Int32 → (Nat → Int32) → (Nat → Int32) → Option (Int32 × Int32 × (Nat → Int32) × (Nat → Int32) × (Nat → Int32))) (y7 : Int32) (y8 : Int32) (y10 : Nat → Int32) (y12 : Nat → Int32) : Option (Int32 × Int32 × (Nat → Int32) × (Nat → Int32) × (Nat → Int32)) :=
  if y8 < 0 then (some ((y7, y9, y10, y11, y12))) else (if x1 ≤ y7 then (some ((y7, y9, y10, y11, y12))) else (bd1 (m_X10_makes N M_ways y10 M_one M_other y8) (fun v13 => lt1 (y7 + 1) (fun v14 => bd3 (m_X10_next N M_ways v13 M_one M_other y12) (fun v15 v16 v17 => rec24 v14 v15 v16 v17)))))
def m_X10_steps (N : Nat) (M_pasts : Int32) (M_ways : Int32) (M_s : Nat → Int32) (M_past : Nat → Int32) (M_one : Nat → Int32) (M_other : Nat → Int32) (M_group : Nat → Int32) (x1 : Int32) : Option (Int32 × Int32 × (Nat → Int32) × (Nat → Int32) × (Nat → Int32)) :=
  lt1 (m_X10_in x1 1 200) (fun v1 => if v1 = 0 then (some (((-1), M_pasts, M_s, M_past, M_group))) else (bd2 (m_X10_notes N M_pasts M_s M_past) (fun v2 v3 => bd3 (m_X10_next N M_ways M_s M_one M_other M_group) (fun v4 v5 v6 => zl4 (m_X10_steps_b24 N M_ways M_one M_other x1 v2 v3) N 0 v4 v5 v6))))
set_option maxHeartbeats 4000000 in
set_option maxRecDepth 100000 in
theorem c_X10_steps (l : Launch) (D : va_G) (cI cJ cS cB : ClassId) (a : Nat → Nat) (M_pasts : Int32) (M_typed : Int32) (M_ways : Int32) (M_z : Int32) (M_why : Int32) (M_rows : Int32) (M_wide : Int32) (M_column : Int32) (M_found : Int32) (M_s : Nat → Int32) (M_past : Nat → Int32) (M_one : Nat → Int32) (M_other : Nat → Int32) (M_group : Nat → Int32) (x1 : Int32) (N : Nat) (r0 : Int32) (M_pasts' : Int32) (M_s' : Nat → Int32) (M_past' : Nat → Int32) (M_group' : Nat → Int32) (hm : m_X10_steps N M_pasts M_ways M_s M_past M_one M_other M_group x1 = some (r0, M_pasts', M_s', M_past', M_group')) :
    mU l D (TYs cI cJ cS cB) yX10_steps wsX10_steps { frames := 6, cells := 0, slots := 0, locals := 138 } [.ref (a 35), .int x1] [o_M a M_pasts M_typed M_ways M_z M_why M_rows M_wide M_column M_found, ai (a 36) cI 244 M_s, ai (a 37) cI 976 M_past, ai (a 39) cI 48 M_one, ai (a 40) cI 48 M_other, ai (a 41) cI 144 M_group] [o_M a M_pasts' M_typed M_ways M_z M_why M_rows M_wide M_column M_found, ai (a 36) cI 244 M_s', ai (a 37) cI 976 M_past', ai (a 39) cI 48 M_one, ai (a 40) cI 48 M_other, ai (a 41) cI 144 M_group'] (some (.int r0)) := by
  refine mG_of (cc := cX10_steps) (maxL := 4) (ret := (some .int)) (by decide) rfl rfl (Nat.le_of_ble_eq_true rfl) ?_
  intro p e s m args below meth c A hx hb hr hml hlk hnm hts hown hK hP hD hA hS ls hl
  have hl : lv_has ls 4 [(0, .ref (a 35)), (1, .int x1)] := hl
  have hiX10 : ∀ w ∈ wsX100, w ∈ wsX10_steps := fun w h => List.mem_cons_of_mem _ (List.mem_append_right _ h)
  unfold m_X10_steps at hm
  have h24 : ∀ (y9 : Int32) (y11 : Nat → Int32), ∀ (n : Nat) (y7 : Int32) (y8 : Int32) (y10 : Nat → Int32) (y12 : Nat → Int32), zl4 (m_X10_steps_b24 N M_ways M_one M_other x1 y9 y11) n y7 y8 y10 y12 = some (r0, M_pasts', M_s', M_past', M_group') → ∀ (H : Heap) (locs : List Loc), va_P D vwCl [o_M a y9 M_typed M_ways M_z M_why M_rows M_wide M_column M_found, ai (a 36) cI 244 y10, ai (a 37) cI 976 y11, ai (a 39) cI 48 M_one, ai (a 40) cI 48 M_other, ai (a 41) cI 144 y12] H → va_D A [o_M a y9 M_typed M_ways M_z M_why M_rows M_wide M_column M_found, ai (a 36) cI 244 y10, ai (a 37) cI 976 y11, ai (a 39) cI 48 M_one, ai (a 40) cI 48 M_other, ai (a 41) cI 144 y12] → va_S A s.heap H locs → ∀ ls : Array Slot, lv_has ls 4 [(0, .ref (a 35)), (1, .int x1), (2, .int y7), (3, .int y8)] → W p l e { frames := 6, cells := 0, slots := 0, locals := 138 } s m args below meth c H locs 0 0 (MQ below (eQ D (some (.int r0)) (fun _ : Unit => [o_M a M_pasts' M_typed M_ways M_z M_why M_rows M_wide M_column M_found, ai (a 36) cI 244 M_s', ai (a 37) cI 976 M_past', ai (a 39) cI 48 M_one, ai (a 40) cI 48 M_other, ai (a 41) cI 144 M_group']) A) args s 0 0 A) (F0 m 24 ls []) := by
    intro y9 y11
    refine zl4_ind (fun rec24 ih24 y7 y8 y10 y12 hm => ?_)
    intro H locs hP hD hS ls hl
    unfold m_X10_steps_b24 at hm
    refine lv_iload_n hx hb dX10_steps_24 rfl (lv_at hl 3 rfl) ?_
    refine lv_if_lt (tgt := 49) hx hb dX10_steps_25 (by decide) (fun c25 => ?_) (fun c25 => ?_)
    · have hm := ip c25 hm
      refine lv_iload_n hx hb dX10_steps_49 rfl (lv_at hl 2 rfl) ?_
      cases hm
      exact rI () hx hb hr hlk hP hD hS dX10_steps_50
    · have hm := ine c25 hm
      refine lv_iload_n hx hb dX10_steps_28 rfl (lv_at hl 2 rfl) ?_
      refine lv_iload_n hx hb dX10_steps_29 rfl (lv_at hl 1 rfl) ?_
      refine lv_icmp_ge (tgt := 49) hx hb dX10_steps_30 (by decide) (fun c30 => ?_) (fun c30 => ?_)
      · have hm := ip c30 hm
        refine lv_iload_n hx hb dX10_steps_49 rfl (lv_at hl 2 rfl) ?_
        cases hm
        exact rI () hx hb hr hlk hP hD hS dX10_steps_50
      · have hm := ine c30 hm
        refine lv_aload_n hx hb dX10_steps_33 rfl (lv_at hl 0 rfl) ?_
        refine lv_iload_n hx hb dX10_steps_34 rfl (lv_at hl 3 rfl) ?_
        obtain ⟨v13, h_v13, hm⟩ := bd1_inv hm
        refine cVx ⟨hx, hb, hml, hown, hts⟩ (c_X10_makes l D cI cJ cS cB a y9 M_typed M_ways M_z M_why M_rows M_wide M_column M_found y10 M_one M_other y8 N v13 h_v13) (cwV 1 hts gX10_steps_X10_makes rfl rfl rfl hd_X10_makes ⟨(Nat.le_of_ble_eq_true rfl), (Nat.le_of_ble_eq_true rfl)⟩) hK hP hD hS hA [0, 1, 3, 4] rfl rfl [o_M a y9 M_typed M_ways M_z M_why M_rows M_wide M_column M_found, ai (a 36) cI 244 v13, ai (a 37) cI 976 y11, ai (a 39) cI 48 M_one, ai (a 40) cI 48 M_other, ai (a 41) cI 144 y12] [(true, 0), (true, 1), (false, 2), (true, 2), (true, 3), (false, 5)] rfl rfl rfl hl.1 (Nat.le_of_ble_eq_true rfl) ⟨Nat.zero_le _, Nat.zero_le _⟩ 0 rfl rfl rfl rfl dX10_steps_35 (fun H locs hP hD hS => ?_)
        obtain ⟨v14, ev14, hm⟩ := lt1_inv hm
        refine lv_iinc (v := v14) (lv' := [(2, .int v14), (0, .ref (a 35)), (1, .int x1), (3, .int y8)]) hx hb dX10_steps_38 hl (k := 2) rfl ev14 (by decide) rfl (fun ls hl => ?_)
        refine lv_aload_n hx hb dX10_steps_41 rfl (lv_at hl 1 rfl) ?_
        obtain ⟨v15, v16, v17, h_v15, hm⟩ := bd3_inv hm
        refine cVx ⟨hx, hb, hml, hown, hts⟩ (c_X10_next l D cI cJ cS cB a y9 M_typed M_ways M_z M_why M_rows M_wide M_column M_found v13 M_one M_other y12 N v15 v16 v17 h_v15) (cwV 0 hts gX10_steps_X10_next rfl rfl rfl hd_X10_next ⟨(Nat.le_of_ble_eq_true rfl), (Nat.le_of_ble_eq_true rfl)⟩) hK hP hD hS hA [0, 1, 3, 4, 5] rfl rfl [o_M a y9 M_typed M_ways M_z M_why M_rows M_wide M_column M_found, ai (a 36) cI 244 v16, ai (a 37) cI 976 y11, ai (a 39) cI 48 M_one, ai (a 40) cI 48 M_other, ai (a 41) cI 144 v17] [(true, 0), (true, 1), (false, 2), (true, 2), (true, 3), (true, 4)] rfl rfl rfl hl.1 (Nat.le_of_ble_eq_true rfl) ⟨Nat.zero_le _, Nat.zero_le _⟩ 0 rfl rfl rfl rfl dX10_steps_42 (fun H locs hP hD hS => ?_)
        refine lv_istore_n (lv' := [(3, .int v15), (2, .int v14), (0, .ref (a 35)), (1, .int x1)]) hx hb dX10_steps_45 rfl hl (by decide) rfl (fun ls hl => ?_)
        refine lv_goto (tgt := 24) hx hb dX10_steps_46 (by decide) ?_
        exact ih24 v14 v15 v16 v17 hm _ _ hP hD hS ls (lv_sub hl [2, 3, 1, 0] rfl)
  refine lv_iload_n hx hb dX10_steps_0 rfl (lv_at hl 1 rfl) ?_
  refine lv_iconst (v := 1) hx hb dX10_steps_1 (by decide) ?_
  refine lv_sipush (v := 200) hx hb dX10_steps_2 (by decide) ?_
  obtain ⟨v1, h_v1, hm⟩ := lt1_inv hm
  refine cSs ⟨hx, hb, hml, hown, hts⟩ (c_X10_in l D cI cJ cS cB a  x1 1 200 v1 h_v1) (va_cwS 3 hts gX10_steps_X10_in rfl rfl rfl hd_X10_in ⟨(Nat.le_of_ble_eq_true rfl), (Nat.le_of_ble_eq_true rfl)⟩) hK hP hD hS hA [] rfl rfl rfl hl.1 (Nat.le_of_ble_eq_true rfl) ⟨Nat.zero_le _, Nat.zero_le _⟩ rfl dX10_steps_5 (fun H locs hP hD hS => ?_)
  refine lv_if_ne (tgt := 13) hx hb dX10_steps_8 (by decide) (fun c8 => ?_) (fun c8 => ?_)
  · have hm := ine c8 hm
    refine lv_aload_n hx hb dX10_steps_13 rfl (lv_at hl 0 rfl) ?_
    obtain ⟨v2, v3, h_v2, hm⟩ := bd2_inv hm
    refine cVx ⟨hx, hb, hml, hown, hts⟩ (c_X10_notes l D cI cJ cS cB a M_pasts M_typed M_ways M_z M_why M_rows M_wide M_column M_found M_s M_past N v2 v3 h_v2) (cwV 0 hts gX10_steps_X10_notes rfl rfl rfl hd_X10_notes ⟨(Nat.le_of_ble_eq_true rfl), (Nat.le_of_ble_eq_true rfl)⟩) hK hP hD hS hA [0, 1, 2] rfl rfl [o_M a v2 M_typed M_ways M_z M_why M_rows M_wide M_column M_found, ai (a 36) cI 244 M_s, ai (a 37) cI 976 v3, ai (a 39) cI 48 M_one, ai (a 40) cI 48 M_other, ai (a 41) cI 144 M_group] [(true, 0), (true, 1), (true, 2), (false, 3), (false, 4), (false, 5)] rfl rfl rfl hl.1 (Nat.le_of_ble_eq_true rfl) ⟨Nat.zero_le _, Nat.zero_le _⟩ 0 rfl rfl rfl rfl dX10_steps_14 (fun H locs hP hD hS => ?_)
    refine lv_iconst (v := 0) hx hb dX10_steps_17 (by decide) ?_
    refine lv_istore_n (lv' := [(2, .int 0), (0, .ref (a 35)), (1, .int x1)]) hx hb dX10_steps_18 rfl hl (by decide) rfl (fun ls hl => ?_)
    refine lv_aload_n hx hb dX10_steps_19 rfl (lv_at hl 1 rfl) ?_
    obtain ⟨v4, v5, v6, h_v4, hm⟩ := bd3_inv hm
    refine cVx ⟨hx, hb, hml, hown, hts⟩ (c_X10_next l D cI cJ cS cB a v2 M_typed M_ways M_z M_why M_rows M_wide M_column M_found M_s M_one M_other M_group N v4 v5 v6 h_v4) (cwV 0 hts gX10_steps_X10_next rfl rfl rfl hd_X10_next ⟨(Nat.le_of_ble_eq_true rfl), (Nat.le_of_ble_eq_true rfl)⟩) hK hP hD hS hA [0, 1, 3, 4, 5] rfl rfl [o_M a v2 M_typed M_ways M_z M_why M_rows M_wide M_column M_found, ai (a 36) cI 244 v5, ai (a 37) cI 976 v3, ai (a 39) cI 48 M_one, ai (a 40) cI 48 M_other, ai (a 41) cI 144 v6] [(true, 0), (true, 1), (false, 2), (true, 2), (true, 3), (true, 4)] rfl rfl rfl hl.1 (Nat.le_of_ble_eq_true rfl) ⟨Nat.zero_le _, Nat.zero_le _⟩ 0 rfl rfl rfl rfl dX10_steps_20 (fun H locs hP hD hS => ?_)
    refine lv_istore_n (lv' := [(3, .int v4), (2, .int 0), (0, .ref (a 35)), (1, .int x1)]) hx hb dX10_steps_23 rfl hl (by decide) rfl (fun ls hl => ?_)
    exact h24 v2 v3 N 0 v4 v5 v6 hm _ _ hP hD hS ls (lv_sub hl [2, 3, 1, 0] rfl)
  · have hm := ip c8 hm
    refine lv_iconst (v := (-1)) hx hb dX10_steps_11 (by decide) ?_
    cases hm
    exact rI () hx hb hr hlk hP hD hS dX10_steps_12
theorem hd_X10_couldBe : yX10_couldBe.cls = RX10 ∧ yX10_couldBe.cls ≠ "java/lang/invoke/MethodHandle" ∧ yX10_couldBe.cls ≠ "java/lang/invoke/VarHandle" ∧ (parseMethodDescriptor yX10_couldBe.desc).map (fun d => d.parameters.length) = some 2 := by decide +kernel
def m_X10_couldBe_j69 (M_s : Nat → Int32) (x1 : Int32) (y4 : Int32) (y5 : Int32) : Option (Int32) :=
  bd1 (m_X10_number M_s x1) (fun v6 => if v6 < y4 then (some 0) else (bd1 (m_X10_number M_s x1) (fun v7 => if (y4 + y5) < v7 then (some 0) else (some 1))))
def m_X10_couldBe_j63 (rec8 : Int32 → Int32 → Int32 → Option (Int32)) (y9 : Int32) (y10 : Int32) (y11 : Int32) : Option (Int32) :=
  lt1 (y11 + 1) (fun v12 => rec8 y9 y10 v12)
def m_X10_couldBe_j60 (rec8 : Int32 → Int32 → Int32 → Option (Int32)) (y18 : Int32) (y19 : Int32) (y20 : Int32) (y21 : Int32) : Option (Int32) :=
  lt1 (y20 + y21) (fun v22 => m_X10_couldBe_j63 rec8 y18 v22 y19)
def m_X10_couldBe_j45 (x2 : Int32) (rec8 : Int32 → Int32 → Int32 → Option (Int32)) (y13 : Int32) (y14 : Int32) (y15 : Int32) (y16 : Int32) : Option (Int32) :=
  lt1 (y15 + y16) (fun v17 => if y14 ≤ x2 then (m_X10_couldBe_j60 rec8 v17 y14 y13 0) else (m_X10_couldBe_j60 rec8 v17 y14 y13 2))
def m_X10_couldBe_b8 (M_ways : Int32) (M_s : Nat → Int32) (M_one : Nat → Int32) (M_other : Nat → Int32) (M_tried : Nat → Int32) (x1 : Int32) (x2 : Int32) (rec8 : Int32 → Int32 → Int32 → Option (Int32)) (y1 : Int32) (y2 : Int32) (y3 : Int32) : Option (Int32) :=
  if M_ways ≤ y3 then (m_X10_couldBe_j69 M_s x1 y1 y2) else (bd1 (m_X10_isOf M_one M_other y3 x1) (fun v8 => if v8 = 0 then (m_X10_couldBe_j63 rec8 y1 y2 y3) else (if x2 < y3 then (m_X10_couldBe_j45 x2 rec8 y2 y3 y1 0) else (rd 14 M_tried y3 (fun v23 => m_X10_couldBe_j45 x2 rec8 y2 y3 y1 v23)))))
def m_X10_couldBe (N : Nat) (M_ways : Int32) (M_s : Nat → Int32) (M_one : Nat → Int32) (M_other : Nat → Int32) (M_tried : Nat → Int32) (x1 : Int32) (x2 : Int32) : Option (Int32) :=
  zl3 (m_X10_couldBe_b8 M_ways M_s M_one M_other M_tried x1 x2) N 0 0 0
set_option maxHeartbeats 4000000 in
set_option maxRecDepth 100000 in
theorem c_X10_couldBe (l : Launch) (D : va_G) (cI cJ cS cB : ClassId) (a : Nat → Nat) (M_pasts : Int32) (M_typed : Int32) (M_ways : Int32) (M_z : Int32) (M_why : Int32) (M_rows : Int32) (M_wide : Int32) (M_column : Int32) (M_found : Int32) (M_s : Nat → Int32) (M_one : Nat → Int32) (M_other : Nat → Int32) (M_tried : Nat → Int32) (x1 : Int32) (x2 : Int32) (N : Nat) (r0 : Int32) (hm : m_X10_couldBe N M_ways M_s M_one M_other M_tried x1 x2 = some r0) :
    mU l D (TYs cI cJ cS cB) yX10_couldBe wsX10_couldBe { frames := 1, cells := 0, slots := 0, locals := 22 } [.ref (a 35), .int x1, .int x2] [o_M a M_pasts M_typed M_ways M_z M_why M_rows M_wide M_column M_found, ai (a 36) cI 244 M_s, ai (a 39) cI 48 M_one, ai (a 40) cI 48 M_other, ai (a 42) cI 14 M_tried] [o_M a M_pasts M_typed M_ways M_z M_why M_rows M_wide M_column M_found, ai (a 36) cI 244 M_s, ai (a 39) cI 48 M_one, ai (a 40) cI 48 M_other, ai (a 42) cI 14 M_tried] (some (.int r0)) := by
  refine mG_of (cc := cX10_couldBe) (maxL := 6) (ret := (some .boolean)) (by decide) rfl rfl (Nat.le_of_ble_eq_true rfl) ?_
  intro p e s m args below meth c A hx hb hr hml hlk hnm hts hown hK hP hD hA hS ls hl
  have hl : lv_has ls 6 [(0, .ref (a 35)), (1, .int x1), (2, .int x2)] := hl
  have hiX10 : ∀ w ∈ wsX100, w ∈ wsX10_couldBe := fun w h => List.mem_cons_of_mem _ (List.mem_append_right _ h)
  unfold m_X10_couldBe at hm
  have h69 : ∀ (y4 : Int32) (y5 : Int32), m_X10_couldBe_j69 M_s x1 y4 y5 = some r0 → ∀ (H : Heap) (locs : List Loc), va_P D vwCl [o_M a M_pasts M_typed M_ways M_z M_why M_rows M_wide M_column M_found, ai (a 36) cI 244 M_s, ai (a 39) cI 48 M_one, ai (a 40) cI 48 M_other, ai (a 42) cI 14 M_tried] H → va_D A [o_M a M_pasts M_typed M_ways M_z M_why M_rows M_wide M_column M_found, ai (a 36) cI 244 M_s, ai (a 39) cI 48 M_one, ai (a 40) cI 48 M_other, ai (a 42) cI 14 M_tried] → va_S A s.heap H locs → ∀ ls : Array Slot, lv_has ls 6 [(0, .ref (a 35)), (1, .int x1), (3, .int y4), (4, .int y5)] → W p l e { frames := 1, cells := 0, slots := 0, locals := 22 } s m args below meth c H locs 0 0 (MQ below (eQ D (some (.int r0)) (fun _ : Unit => [o_M a M_pasts M_typed M_ways M_z M_why M_rows M_wide M_column M_found, ai (a 36) cI 244 M_s, ai (a 39) cI 48 M_one, ai (a 40) cI 48 M_other, ai (a 42) cI 14 M_tried]) A) args s 0 0 A) (F0 m 69 ls []) := by
    intro y4 y5 hm H locs hP hD hS ls hl
    unfold m_X10_couldBe_j69 at hm
    refine lv_iload_n hx hb dX10_couldBe_69 rfl (lv_at hl 2 rfl) ?_
    refine lv_aload_n hx hb dX10_couldBe_70 rfl (lv_at hl 0 rfl) ?_
    refine lv_iload_n hx hb dX10_couldBe_71 rfl (lv_at hl 1 rfl) ?_
    obtain ⟨v6, h_v6, hm⟩ := bd1_inv hm
    refine cVs ⟨hx, hb, hml, hown, hts⟩ (c_X10_number l D cI cJ cS cB a M_pasts M_typed M_ways M_z M_why M_rows M_wide M_column M_found M_s x1 v6 h_v6) (cwV 1 hts gX10_couldBe_X10_number rfl rfl rfl hd_X10_number ⟨(Nat.le_of_ble_eq_true rfl), (Nat.le_of_ble_eq_true rfl)⟩) hK hP hD hS hA [0, 1] rfl rfl rfl hl.1 (Nat.le_of_ble_eq_true rfl) ⟨Nat.zero_le _, Nat.zero_le _⟩ 0 rfl rfl rfl rfl dX10_couldBe_72 (fun H locs hP hD hS => ?_)
    refine lv_icmp_gt (tgt := 94) hx hb dX10_couldBe_75 (by decide) (fun c75 => ?_) (fun c75 => ?_)
    · have hm := ip c75 hm
      refine lv_iconst (v := 0) hx hb dX10_couldBe_94 (by decide) ?_
      cases hm
      exact rZ () hx hb hr hlk (by decide) hP hD hS dX10_couldBe_95
    · have hm := ine c75 hm
      refine lv_iload_n hx hb dX10_couldBe_78 rfl (lv_at hl 2 rfl) ?_
      refine lv_iload hx hb dX10_couldBe_79 (lv_at hl 3 rfl) ?_
      refine lv_iadd hx hb dX10_couldBe_81 ?_
      refine lv_aload_n hx hb dX10_couldBe_82 rfl (lv_at hl 0 rfl) ?_
      refine lv_iload_n hx hb dX10_couldBe_83 rfl (lv_at hl 1 rfl) ?_
      obtain ⟨v7, h_v7, hm⟩ := bd1_inv hm
      refine cVs ⟨hx, hb, hml, hown, hts⟩ (c_X10_number l D cI cJ cS cB a M_pasts M_typed M_ways M_z M_why M_rows M_wide M_column M_found M_s x1 v7 h_v7) (cwV 1 hts gX10_couldBe_X10_number rfl rfl rfl hd_X10_number ⟨(Nat.le_of_ble_eq_true rfl), (Nat.le_of_ble_eq_true rfl)⟩) hK hP hD hS hA [0, 1] rfl rfl rfl hl.1 (Nat.le_of_ble_eq_true rfl) ⟨Nat.zero_le _, Nat.zero_le _⟩ 0 rfl rfl rfl rfl dX10_couldBe_84 (fun H locs hP hD hS => ?_)
      refine lv_icmp_lt (tgt := 94) hx hb dX10_couldBe_87 (by decide) (fun c87 => ?_) (fun c87 => ?_)
      · have hm := ip c87 hm
        refine lv_iconst (v := 0) hx hb dX10_couldBe_94 (by decide) ?_
        cases hm
        exact rZ () hx hb hr hlk (by decide) hP hD hS dX10_couldBe_95
      · have hm := ine c87 hm
        refine lv_iconst (v := 1) hx hb dX10_couldBe_90 (by decide) ?_
        refine lv_goto (tgt := 95) hx hb dX10_couldBe_91 (by decide) ?_
        cases hm
        exact rZ () hx hb hr hlk (by decide) hP hD hS dX10_couldBe_95
  have h8 : ∀ (n : Nat) (y1 : Int32) (y2 : Int32) (y3 : Int32), zl3 (m_X10_couldBe_b8 M_ways M_s M_one M_other M_tried x1 x2) n y1 y2 y3 = some r0 → ∀ (H : Heap) (locs : List Loc), va_P D vwCl [o_M a M_pasts M_typed M_ways M_z M_why M_rows M_wide M_column M_found, ai (a 36) cI 244 M_s, ai (a 39) cI 48 M_one, ai (a 40) cI 48 M_other, ai (a 42) cI 14 M_tried] H → va_D A [o_M a M_pasts M_typed M_ways M_z M_why M_rows M_wide M_column M_found, ai (a 36) cI 244 M_s, ai (a 39) cI 48 M_one, ai (a 40) cI 48 M_other, ai (a 42) cI 14 M_tried] → va_S A s.heap H locs → ∀ ls : Array Slot, lv_has ls 6 [(0, .ref (a 35)), (1, .int x1), (2, .int x2), (3, .int y1), (4, .int y2), (5, .int y3)] → W p l e { frames := 1, cells := 0, slots := 0, locals := 22 } s m args below meth c H locs 0 0 (MQ below (eQ D (some (.int r0)) (fun _ : Unit => [o_M a M_pasts M_typed M_ways M_z M_why M_rows M_wide M_column M_found, ai (a 36) cI 244 M_s, ai (a 39) cI 48 M_one, ai (a 40) cI 48 M_other, ai (a 42) cI 14 M_tried]) A) args s 0 0 A) (F0 m 8 ls []) := by
    refine zl3_ind (fun rec8 ih8 y1 y2 y3 hm => ?_)
    have h63 : ∀ (y9 : Int32) (y10 : Int32) (y11 : Int32), m_X10_couldBe_j63 rec8 y9 y10 y11 = some r0 → ∀ (H : Heap) (locs : List Loc), va_P D vwCl [o_M a M_pasts M_typed M_ways M_z M_why M_rows M_wide M_column M_found, ai (a 36) cI 244 M_s, ai (a 39) cI 48 M_one, ai (a 40) cI 48 M_other, ai (a 42) cI 14 M_tried] H → va_D A [o_M a M_pasts M_typed M_ways M_z M_why M_rows M_wide M_column M_found, ai (a 36) cI 244 M_s, ai (a 39) cI 48 M_one, ai (a 40) cI 48 M_other, ai (a 42) cI 14 M_tried] → va_S A s.heap H locs → ∀ ls : Array Slot, lv_has ls 6 [(0, .ref (a 35)), (1, .int x1), (2, .int x2), (3, .int y9), (4, .int y10), (5, .int y11)] → W p l e { frames := 1, cells := 0, slots := 0, locals := 22 } s m args below meth c H locs 0 0 (MQ below (eQ D (some (.int r0)) (fun _ : Unit => [o_M a M_pasts M_typed M_ways M_z M_why M_rows M_wide M_column M_found, ai (a 36) cI 244 M_s, ai (a 39) cI 48 M_one, ai (a 40) cI 48 M_other, ai (a 42) cI 14 M_tried]) A) args s 0 0 A) (F0 m 63 ls []) := by
      intro y9 y10 y11 hm H locs hP hD hS ls hl
      unfold m_X10_couldBe_j63 at hm
      obtain ⟨v12, ev12, hm⟩ := lt1_inv hm
      refine lv_iinc (v := v12) (lv' := [(5, .int v12), (0, .ref (a 35)), (1, .int x1), (2, .int x2), (3, .int y9), (4, .int y10)]) hx hb dX10_couldBe_63 hl (k := 5) rfl ev12 (by decide) rfl (fun ls hl => ?_)
      refine lv_goto (tgt := 8) hx hb dX10_couldBe_66 (by decide) ?_
      exact ih8 y9 y10 v12 hm _ _ hP hD hS ls (lv_sub hl [1, 2, 3, 4, 5, 0] rfl)
    have h60 : ∀ (y18 : Int32) (y19 : Int32) (y20 : Int32) (y21 : Int32), m_X10_couldBe_j60 rec8 y18 y19 y20 y21 = some r0 → ∀ (H : Heap) (locs : List Loc), va_P D vwCl [o_M a M_pasts M_typed M_ways M_z M_why M_rows M_wide M_column M_found, ai (a 36) cI 244 M_s, ai (a 39) cI 48 M_one, ai (a 40) cI 48 M_other, ai (a 42) cI 14 M_tried] H → va_D A [o_M a M_pasts M_typed M_ways M_z M_why M_rows M_wide M_column M_found, ai (a 36) cI 244 M_s, ai (a 39) cI 48 M_one, ai (a 40) cI 48 M_other, ai (a 42) cI 14 M_tried] → va_S A s.heap H locs → ∀ ls : Array Slot, lv_has ls 6 [(0, .ref (a 35)), (1, .int x1), (2, .int x2), (3, .int y18), (5, .int y19)] → W p l e { frames := 1, cells := 0, slots := 0, locals := 22 } s m args below meth c H locs 0 0 (MQ below (eQ D (some (.int r0)) (fun _ : Unit => [o_M a M_pasts M_typed M_ways M_z M_why M_rows M_wide M_column M_found, ai (a 36) cI 244 M_s, ai (a 39) cI 48 M_one, ai (a 40) cI 48 M_other, ai (a 42) cI 14 M_tried]) A) args s 0 0 A) (F0 m 60 ls [.int y21, .int y20]) := by
      intro y18 y19 y20 y21 hm H locs hP hD hS ls hl
      unfold m_X10_couldBe_j60 at hm
      refine lv_iadd hx hb dX10_couldBe_60 ?_
      obtain ⟨v22, ev22, hm⟩ := lt1_inv hm
      refine ltop ev22 ?_
      refine lv_istore (lv' := [(4, .int v22), (0, .ref (a 35)), (1, .int x1), (2, .int x2), (3, .int y18), (5, .int y19)]) hx hb dX10_couldBe_61 hl (by decide) rfl (fun ls hl => ?_)
      exact h63 y18 v22 y19 hm _ _ hP hD hS ls (lv_sub hl [1, 2, 3, 4, 0, 5] rfl)
    have h45 : ∀ (y13 : Int32) (y14 : Int32) (y15 : Int32) (y16 : Int32), m_X10_couldBe_j45 x2 rec8 y13 y14 y15 y16 = some r0 → ∀ (H : Heap) (locs : List Loc), va_P D vwCl [o_M a M_pasts M_typed M_ways M_z M_why M_rows M_wide M_column M_found, ai (a 36) cI 244 M_s, ai (a 39) cI 48 M_one, ai (a 40) cI 48 M_other, ai (a 42) cI 14 M_tried] H → va_D A [o_M a M_pasts M_typed M_ways M_z M_why M_rows M_wide M_column M_found, ai (a 36) cI 244 M_s, ai (a 39) cI 48 M_one, ai (a 40) cI 48 M_other, ai (a 42) cI 14 M_tried] → va_S A s.heap H locs → ∀ ls : Array Slot, lv_has ls 6 [(0, .ref (a 35)), (1, .int x1), (2, .int x2), (4, .int y13), (5, .int y14)] → W p l e { frames := 1, cells := 0, slots := 0, locals := 22 } s m args below meth c H locs 0 0 (MQ below (eQ D (some (.int r0)) (fun _ : Unit => [o_M a M_pasts M_typed M_ways M_z M_why M_rows M_wide M_column M_found, ai (a 36) cI 244 M_s, ai (a 39) cI 48 M_one, ai (a 40) cI 48 M_other, ai (a 42) cI 14 M_tried]) A) args s 0 0 A) (F0 m 45 ls [.int y16, .int y15]) := by
      intro y13 y14 y15 y16 hm H locs hP hD hS ls hl
      unfold m_X10_couldBe_j45 at hm
      refine lv_iadd hx hb dX10_couldBe_45 ?_
      obtain ⟨v17, ev17, hm⟩ := lt1_inv hm
      refine ltop ev17 ?_
      refine lv_istore_n (lv' := [(3, .int v17), (0, .ref (a 35)), (1, .int x1), (2, .int x2), (4, .int y13), (5, .int y14)]) hx hb dX10_couldBe_46 rfl hl (by decide) rfl (fun ls hl => ?_)
      refine lv_iload hx hb dX10_couldBe_47 (lv_at hl 4 rfl) ?_
      refine lv_iload hx hb dX10_couldBe_49 (lv_at hl 5 rfl) ?_
      refine lv_iload_n hx hb dX10_couldBe_51 rfl (lv_at hl 3 rfl) ?_
      refine lv_icmp_le (tgt := 59) hx hb dX10_couldBe_52 (by decide) (fun c52 => ?_) (fun c52 => ?_)
      · have hm := ip c52 hm
        refine lv_iconst (v := 0) hx hb dX10_couldBe_59 (by decide) ?_
        exact h60 v17 y14 y13 0 hm _ _ hP hD hS ls (lv_sub hl [1, 2, 3, 0, 5] rfl)
      · have hm := ine c52 hm
        refine lv_iconst (v := 2) hx hb dX10_couldBe_55 (by decide) ?_
        refine lv_goto (tgt := 60) hx hb dX10_couldBe_56 (by decide) ?_
        exact h60 v17 y14 y13 2 hm _ _ hP hD hS ls (lv_sub hl [1, 2, 3, 0, 5] rfl)
    intro H locs hP hD hS ls hl
    unfold m_X10_couldBe_b8 at hm
    refine lv_iload hx hb dX10_couldBe_8 (lv_at hl 5 rfl) ?_
    refine lv_aload_n hx hb dX10_couldBe_10 rfl (lv_at hl 0 rfl) ?_
    refine va_get (D := D) (ci := 10) (v := .int M_ways) (C := RX10) (T := TX10) (N := 17) hx hb hts hiX10 hown hK.1 hP 0 rfl rfl 5 (by decide) (hts (.fieldLink RX10 54 "IslandBridgesModel" "ways" "I") (List.mem_of_getElem? (i := 1) rfl)) (fun _ h9 => h9) rfl dX10_couldBe_11 ?_
    refine lv_icmp_ge (tgt := 69) hx hb dX10_couldBe_14 (by decide) (fun c14 => ?_) (fun c14 => ?_)
    · have hm := ip c14 hm
      exact h69 y1 y2 hm _ _ hP hD hS ls (lv_sub hl [0, 1, 3, 4] rfl)
    · have hm := ine c14 hm
      refine lv_aload_n hx hb dX10_couldBe_17 rfl (lv_at hl 0 rfl) ?_
      refine lv_iload hx hb dX10_couldBe_18 (lv_at hl 5 rfl) ?_
      refine lv_iload_n hx hb dX10_couldBe_20 rfl (lv_at hl 1 rfl) ?_
      obtain ⟨v8, h_v8, hm⟩ := bd1_inv hm
      refine cVs ⟨hx, hb, hml, hown, hts⟩ (c_X10_isOf l D cI cJ cS cB a M_pasts M_typed M_ways M_z M_why M_rows M_wide M_column M_found M_one M_other y3 x1 v8 h_v8) (cwV 2 hts gX10_couldBe_X10_isOf rfl rfl rfl hd_X10_isOf ⟨(Nat.le_of_ble_eq_true rfl), (Nat.le_of_ble_eq_true rfl)⟩) hK hP hD hS hA [0, 2, 3] rfl rfl rfl hl.1 (Nat.le_of_ble_eq_true rfl) ⟨Nat.zero_le _, Nat.zero_le _⟩ 0 rfl rfl rfl rfl dX10_couldBe_21 (fun H locs hP hD hS => ?_)
      refine lv_if_eq (tgt := 63) hx hb dX10_couldBe_24 (by decide) (fun c24 => ?_) (fun c24 => ?_)
      · have hm := ip c24 hm
        exact h63 y1 y2 y3 hm _ _ hP hD hS ls (lv_sub hl [0, 1, 2, 3, 4, 5] rfl)
      · have hm := ine c24 hm
        refine lv_iload_n hx hb dX10_couldBe_27 rfl (lv_at hl 3 rfl) ?_
        refine lv_iload hx hb dX10_couldBe_28 (lv_at hl 5 rfl) ?_
        refine lv_iload_n hx hb dX10_couldBe_30 rfl (lv_at hl 2 rfl) ?_
        refine lv_icmp_gt (tgt := 44) hx hb dX10_couldBe_31 (by decide) (fun c31 => ?_) (fun c31 => ?_)
        · have hm := ip c31 hm
          refine lv_iconst (v := 0) hx hb dX10_couldBe_44 (by decide) ?_
          exact h45 y2 y3 y1 0 hm _ _ hP hD hS ls (lv_sub hl [0, 1, 2, 4, 5] rfl)
        · have hm := ine c31 hm
          refine lv_aload_n hx hb dX10_couldBe_34 rfl (lv_at hl 0 rfl) ?_
          refine va_get (D := D) (ci := 10) (v := .ref (a 42)) (C := RX10) (T := TX10) (N := 17) hx hb hts hiX10 hown hK.1 hP 0 rfl rfl 9 (by decide) (hts (.fieldLink RX10 29 "IslandBridgesModel" "tried" "[I") (List.mem_of_getElem? (i := 2) rfl)) (fun _ h9 => h9) rfl dX10_couldBe_35 ?_
          refine lv_iload hx hb dX10_couldBe_38 (lv_at hl 5 rfl) ?_
          obtain ⟨v23, nv23, ev23, hm⟩ := rd_inv hm
          refine va_iald hx hb hK.1 hP 4 0 rfl rfl nv23 dX10_couldBe_40 ?_
          refine ltop ev23 ?_
          refine lv_goto (tgt := 45) hx hb dX10_couldBe_41 (by decide) ?_
          exact h45 y2 y3 y1 v23 hm _ _ hP hD hS ls (lv_sub hl [0, 1, 2, 4, 5] rfl)
  refine lv_iconst (v := 0) hx hb dX10_couldBe_0 (by decide) ?_
  refine lv_istore_n (lv' := [(3, .int 0), (0, .ref (a 35)), (1, .int x1), (2, .int x2)]) hx hb dX10_couldBe_1 rfl hl (by decide) rfl (fun ls hl => ?_)
  refine lv_iconst (v := 0) hx hb dX10_couldBe_2 (by decide) ?_
  refine lv_istore (lv' := [(4, .int 0), (3, .int 0), (0, .ref (a 35)), (1, .int x1), (2, .int x2)]) hx hb dX10_couldBe_3 hl (by decide) rfl (fun ls hl => ?_)
  refine lv_iconst (v := 0) hx hb dX10_couldBe_5 (by decide) ?_
  refine lv_istore (lv' := [(5, .int 0), (4, .int 0), (3, .int 0), (0, .ref (a 35)), (1, .int x1), (2, .int x2)]) hx hb dX10_couldBe_6 hl (by decide) rfl (fun ls hl => ?_)
  exact h8  N 0 0 0 hm _ _ hP hD hS ls (lv_sub hl [3, 4, 5, 2, 1, 0] rfl)
theorem hd_X10_could : yX10_could.cls = RX10 ∧ yX10_could.cls ≠ "java/lang/invoke/MethodHandle" ∧ yX10_could.cls ≠ "java/lang/invoke/VarHandle" ∧ (parseMethodDescriptor yX10_could.desc).map (fun d => d.parameters.length) = some 1 := by decide +kernel
def m_X10_could_j52 (N : Nat) (M_ways : Int32) (M_s : Nat → Int32) (M_one : Nat → Int32) (M_other : Nat → Int32) (M_tried : Nat → Int32) (x1 : Int32) (y3 : Int32) : Option (Int32) :=
  if y3 = 0 then (some 0) else (rd 48 M_one x1 (fun v4 => bd1 (m_X10_couldBe N M_ways M_s M_one M_other M_tried v4 x1) (fun v5 => if v5 = 0 then (some 0) else (rd 48 M_other x1 (fun v6 => bd1 (m_X10_couldBe N M_ways M_s M_one M_other M_tried v6 x1) (fun v7 => if v7 = 0 then (some 0) else (some 1)))))))
def m_X10_could_j45 (rec4 : Int32 → Int32 → Option (Int32)) (y9 : Int32) (y10 : Int32) : Option (Int32) :=
  lt1 (y9 + 1) (fun v11 => rec4 y10 v11)
def m_X10_could_j44 (rec4 : Int32 → Int32 → Option (Int32)) (y8 : Int32) : Option (Int32) :=
  m_X10_could_j45 rec4 y8 0
def m_X10_could_j40 (rec4 : Int32 → Int32 → Option (Int32)) (y13 : Int32) : Option (Int32) :=
  m_X10_could_j45 rec4 y13 1
def m_X10_could_b4 (N : Nat) (M_ways : Int32) (M_s : Nat → Int32) (M_one : Nat → Int32) (M_other : Nat → Int32) (M_tried : Nat → Int32) (x1 : Int32) (rec4 : Int32 → Int32 → Option (Int32)) (y1 : Int32) (y2 : Int32) : Option (Int32) :=
  if x1 ≤ y2 then (m_X10_could_j52 N M_ways M_s M_one M_other M_tried x1 y1) else (if y1 = 0 then (m_X10_could_j44 rec4 y2) else (rd 14 M_tried x1 (fun v12 => if v12 = 0 then (m_X10_could_j40 rec4 y2) else (rd 14 M_tried y2 (fun v14 => if v14 = 0 then (m_X10_could_j40 rec4 y2) else (bd1 (m_X10_cross M_s M_one M_other x1 y2) (fun v15 => if v15 = 0 then (m_X10_could_j40 rec4 y2) else (m_X10_could_j44 rec4 y2))))))))
def m_X10_could (N : Nat) (M_ways : Int32) (M_s : Nat → Int32) (M_one : Nat → Int32) (M_other : Nat → Int32) (M_tried : Nat → Int32) (x1 : Int32) : Option (Int32) :=
  zl2 (m_X10_could_b4 N M_ways M_s M_one M_other M_tried x1) N 1 0
set_option maxHeartbeats 4000000 in
set_option maxRecDepth 100000 in
theorem c_X10_could (l : Launch) (D : va_G) (cI cJ cS cB : ClassId) (a : Nat → Nat) (M_pasts : Int32) (M_typed : Int32) (M_ways : Int32) (M_z : Int32) (M_why : Int32) (M_rows : Int32) (M_wide : Int32) (M_column : Int32) (M_found : Int32) (M_s : Nat → Int32) (M_one : Nat → Int32) (M_other : Nat → Int32) (M_tried : Nat → Int32) (x1 : Int32) (N : Nat) (r0 : Int32) (hm : m_X10_could N M_ways M_s M_one M_other M_tried x1 = some r0) :
    mU l D (TYs cI cJ cS cB) yX10_could wsX10_could { frames := 3, cells := 0, slots := 0, locals := 69 } [.ref (a 35), .int x1] [o_M a M_pasts M_typed M_ways M_z M_why M_rows M_wide M_column M_found, ai (a 36) cI 244 M_s, ai (a 39) cI 48 M_one, ai (a 40) cI 48 M_other, ai (a 42) cI 14 M_tried] [o_M a M_pasts M_typed M_ways M_z M_why M_rows M_wide M_column M_found, ai (a 36) cI 244 M_s, ai (a 39) cI 48 M_one, ai (a 40) cI 48 M_other, ai (a 42) cI 14 M_tried] (some (.int r0)) := by
  refine mG_of (cc := cX10_could) (maxL := 4) (ret := (some .boolean)) (by decide) rfl rfl (Nat.le_of_ble_eq_true rfl) ?_
  intro p e s m args below meth c A hx hb hr hml hlk hnm hts hown hK hP hD hA hS ls hl
  have hl : lv_has ls 4 [(0, .ref (a 35)), (1, .int x1)] := hl
  have hiX10 : ∀ w ∈ wsX100, w ∈ wsX10_could := fun w h => List.mem_cons_of_mem _ (List.mem_append_right _ h)
  unfold m_X10_could at hm
  have h52 : ∀ (y3 : Int32), m_X10_could_j52 N M_ways M_s M_one M_other M_tried x1 y3 = some r0 → ∀ (H : Heap) (locs : List Loc), va_P D vwCl [o_M a M_pasts M_typed M_ways M_z M_why M_rows M_wide M_column M_found, ai (a 36) cI 244 M_s, ai (a 39) cI 48 M_one, ai (a 40) cI 48 M_other, ai (a 42) cI 14 M_tried] H → va_D A [o_M a M_pasts M_typed M_ways M_z M_why M_rows M_wide M_column M_found, ai (a 36) cI 244 M_s, ai (a 39) cI 48 M_one, ai (a 40) cI 48 M_other, ai (a 42) cI 14 M_tried] → va_S A s.heap H locs → ∀ ls : Array Slot, lv_has ls 4 [(0, .ref (a 35)), (1, .int x1), (2, .int y3)] → W p l e { frames := 3, cells := 0, slots := 0, locals := 69 } s m args below meth c H locs 0 0 (MQ below (eQ D (some (.int r0)) (fun _ : Unit => [o_M a M_pasts M_typed M_ways M_z M_why M_rows M_wide M_column M_found, ai (a 36) cI 244 M_s, ai (a 39) cI 48 M_one, ai (a 40) cI 48 M_other, ai (a 42) cI 14 M_tried]) A) args s 0 0 A) (F0 m 52 ls []) := by
    intro y3 hm H locs hP hD hS ls hl
    unfold m_X10_could_j52 at hm
    refine lv_iload_n hx hb dX10_could_52 rfl (lv_at hl 2 rfl) ?_
    refine lv_if_eq (tgt := 88) hx hb dX10_could_53 (by decide) (fun c53 => ?_) (fun c53 => ?_)
    · have hm := ip c53 hm
      refine lv_iconst (v := 0) hx hb dX10_could_88 (by decide) ?_
      cases hm
      exact rZ () hx hb hr hlk (by decide) hP hD hS dX10_could_89
    · have hm := ine c53 hm
      refine lv_aload_n hx hb dX10_could_56 rfl (lv_at hl 0 rfl) ?_
      refine lv_aload_n hx hb dX10_could_57 rfl (lv_at hl 0 rfl) ?_
      refine va_get (D := D) (ci := 10) (v := .ref (a 39)) (C := RX10) (T := TX10) (N := 17) hx hb hts hiX10 hown hK.1 hP 0 rfl rfl 6 (by decide) (hts (.fieldLink RX10 20 "IslandBridgesModel" "one" "[I") (List.mem_of_getElem? (i := 2) rfl)) (fun _ h9 => h9) rfl dX10_could_58 ?_
      refine lv_iload_n hx hb dX10_could_61 rfl (lv_at hl 1 rfl) ?_
      obtain ⟨v4, nv4, ev4, hm⟩ := rd_inv hm
      refine va_iald hx hb hK.1 hP 2 0 rfl rfl nv4 dX10_could_62 ?_
      refine ltop ev4 ?_
      refine lv_iload_n hx hb dX10_could_63 rfl (lv_at hl 1 rfl) ?_
      obtain ⟨v5, h_v5, hm⟩ := bd1_inv hm
      refine cVs ⟨hx, hb, hml, hown, hts⟩ (c_X10_couldBe l D cI cJ cS cB a M_pasts M_typed M_ways M_z M_why M_rows M_wide M_column M_found M_s M_one M_other M_tried v4 x1 N v5 h_v5) (cwV 2 hts gX10_could_X10_couldBe rfl rfl rfl hd_X10_couldBe ⟨(Nat.le_of_ble_eq_true rfl), (Nat.le_of_ble_eq_true rfl)⟩) hK hP hD hS hA [0, 1, 2, 3, 4] rfl rfl rfl hl.1 (Nat.le_of_ble_eq_true rfl) ⟨Nat.zero_le _, Nat.zero_le _⟩ 0 rfl rfl rfl rfl dX10_could_64 (fun H locs hP hD hS => ?_)
      refine lv_if_eq (tgt := 88) hx hb dX10_could_67 (by decide) (fun c67 => ?_) (fun c67 => ?_)
      · have hm := ip c67 hm
        refine lv_iconst (v := 0) hx hb dX10_could_88 (by decide) ?_
        cases hm
        exact rZ () hx hb hr hlk (by decide) hP hD hS dX10_could_89
      · have hm := ine c67 hm
        refine lv_aload_n hx hb dX10_could_70 rfl (lv_at hl 0 rfl) ?_
        refine lv_aload_n hx hb dX10_could_71 rfl (lv_at hl 0 rfl) ?_
        refine va_get (D := D) (ci := 10) (v := .ref (a 40)) (C := RX10) (T := TX10) (N := 17) hx hb hts hiX10 hown hK.1 hP 0 rfl rfl 7 (by decide) (hts (.fieldLink RX10 23 "IslandBridgesModel" "other" "[I") (List.mem_of_getElem? (i := 3) rfl)) (fun _ h9 => h9) rfl dX10_could_72 ?_
        refine lv_iload_n hx hb dX10_could_75 rfl (lv_at hl 1 rfl) ?_
        obtain ⟨v6, nv6, ev6, hm⟩ := rd_inv hm
        refine va_iald hx hb hK.1 hP 3 0 rfl rfl nv6 dX10_could_76 ?_
        refine ltop ev6 ?_
        refine lv_iload_n hx hb dX10_could_77 rfl (lv_at hl 1 rfl) ?_
        obtain ⟨v7, h_v7, hm⟩ := bd1_inv hm
        refine cVs ⟨hx, hb, hml, hown, hts⟩ (c_X10_couldBe l D cI cJ cS cB a M_pasts M_typed M_ways M_z M_why M_rows M_wide M_column M_found M_s M_one M_other M_tried v6 x1 N v7 h_v7) (cwV 2 hts gX10_could_X10_couldBe rfl rfl rfl hd_X10_couldBe ⟨(Nat.le_of_ble_eq_true rfl), (Nat.le_of_ble_eq_true rfl)⟩) hK hP hD hS hA [0, 1, 2, 3, 4] rfl rfl rfl hl.1 (Nat.le_of_ble_eq_true rfl) ⟨Nat.zero_le _, Nat.zero_le _⟩ 0 rfl rfl rfl rfl dX10_could_78 (fun H locs hP hD hS => ?_)
        refine lv_if_eq (tgt := 88) hx hb dX10_could_81 (by decide) (fun c81 => ?_) (fun c81 => ?_)
        · have hm := ip c81 hm
          refine lv_iconst (v := 0) hx hb dX10_could_88 (by decide) ?_
          cases hm
          exact rZ () hx hb hr hlk (by decide) hP hD hS dX10_could_89
        · have hm := ine c81 hm
          refine lv_iconst (v := 1) hx hb dX10_could_84 (by decide) ?_
          refine lv_goto (tgt := 89) hx hb dX10_could_85 (by decide) ?_
          cases hm
          exact rZ () hx hb hr hlk (by decide) hP hD hS dX10_could_89
  have h4 : ∀ (n : Nat) (y1 : Int32) (y2 : Int32), zl2 (m_X10_could_b4 N M_ways M_s M_one M_other M_tried x1) n y1 y2 = some r0 → ∀ (H : Heap) (locs : List Loc), va_P D vwCl [o_M a M_pasts M_typed M_ways M_z M_why M_rows M_wide M_column M_found, ai (a 36) cI 244 M_s, ai (a 39) cI 48 M_one, ai (a 40) cI 48 M_other, ai (a 42) cI 14 M_tried] H → va_D A [o_M a M_pasts M_typed M_ways M_z M_why M_rows M_wide M_column M_found, ai (a 36) cI 244 M_s, ai (a 39) cI 48 M_one, ai (a 40) cI 48 M_other, ai (a 42) cI 14 M_tried] → va_S A s.heap H locs → ∀ ls : Array Slot, lv_has ls 4 [(0, .ref (a 35)), (1, .int x1), (2, .int y1), (3, .int y2)] → W p l e { frames := 3, cells := 0, slots := 0, locals := 69 } s m args below meth c H locs 0 0 (MQ below (eQ D (some (.int r0)) (fun _ : Unit => [o_M a M_pasts M_typed M_ways M_z M_why M_rows M_wide M_column M_found, ai (a 36) cI 244 M_s, ai (a 39) cI 48 M_one, ai (a 40) cI 48 M_other, ai (a 42) cI 14 M_tried]) A) args s 0 0 A) (F0 m 4 ls []) := by
    refine zl2_ind (fun rec4 ih4 y1 y2 hm => ?_)
    have h45 : ∀ (y9 : Int32) (y10 : Int32), m_X10_could_j45 rec4 y9 y10 = some r0 → ∀ (H : Heap) (locs : List Loc), va_P D vwCl [o_M a M_pasts M_typed M_ways M_z M_why M_rows M_wide M_column M_found, ai (a 36) cI 244 M_s, ai (a 39) cI 48 M_one, ai (a 40) cI 48 M_other, ai (a 42) cI 14 M_tried] H → va_D A [o_M a M_pasts M_typed M_ways M_z M_why M_rows M_wide M_column M_found, ai (a 36) cI 244 M_s, ai (a 39) cI 48 M_one, ai (a 40) cI 48 M_other, ai (a 42) cI 14 M_tried] → va_S A s.heap H locs → ∀ ls : Array Slot, lv_has ls 4 [(0, .ref (a 35)), (1, .int x1), (3, .int y9)] → W p l e { frames := 3, cells := 0, slots := 0, locals := 69 } s m args below meth c H locs 0 0 (MQ below (eQ D (some (.int r0)) (fun _ : Unit => [o_M a M_pasts M_typed M_ways M_z M_why M_rows M_wide M_column M_found, ai (a 36) cI 244 M_s, ai (a 39) cI 48 M_one, ai (a 40) cI 48 M_other, ai (a 42) cI 14 M_tried]) A) args s 0 0 A) (F0 m 45 ls [.int y10]) := by
      intro y9 y10 hm H locs hP hD hS ls hl
      unfold m_X10_could_j45 at hm
      refine lv_istore_n (lv' := [(2, .int y10), (0, .ref (a 35)), (1, .int x1), (3, .int y9)]) hx hb dX10_could_45 rfl hl (by decide) rfl (fun ls hl => ?_)
      obtain ⟨v11, ev11, hm⟩ := lt1_inv hm
      refine lv_iinc (v := v11) (lv' := [(3, .int v11), (2, .int y10), (0, .ref (a 35)), (1, .int x1)]) hx hb dX10_could_46 hl (k := 3) rfl ev11 (by decide) rfl (fun ls hl => ?_)
      refine lv_goto (tgt := 4) hx hb dX10_could_49 (by decide) ?_
      exact ih4 y10 v11 hm _ _ hP hD hS ls (lv_sub hl [2, 3, 1, 0] rfl)
    have h44 : ∀ (y8 : Int32), m_X10_could_j44 rec4 y8 = some r0 → ∀ (H : Heap) (locs : List Loc), va_P D vwCl [o_M a M_pasts M_typed M_ways M_z M_why M_rows M_wide M_column M_found, ai (a 36) cI 244 M_s, ai (a 39) cI 48 M_one, ai (a 40) cI 48 M_other, ai (a 42) cI 14 M_tried] H → va_D A [o_M a M_pasts M_typed M_ways M_z M_why M_rows M_wide M_column M_found, ai (a 36) cI 244 M_s, ai (a 39) cI 48 M_one, ai (a 40) cI 48 M_other, ai (a 42) cI 14 M_tried] → va_S A s.heap H locs → ∀ ls : Array Slot, lv_has ls 4 [(0, .ref (a 35)), (1, .int x1), (3, .int y8)] → W p l e { frames := 3, cells := 0, slots := 0, locals := 69 } s m args below meth c H locs 0 0 (MQ below (eQ D (some (.int r0)) (fun _ : Unit => [o_M a M_pasts M_typed M_ways M_z M_why M_rows M_wide M_column M_found, ai (a 36) cI 244 M_s, ai (a 39) cI 48 M_one, ai (a 40) cI 48 M_other, ai (a 42) cI 14 M_tried]) A) args s 0 0 A) (F0 m 44 ls []) := by
      intro y8 hm H locs hP hD hS ls hl
      unfold m_X10_could_j44 at hm
      refine lv_iconst (v := 0) hx hb dX10_could_44 (by decide) ?_
      exact h45 y8 0 hm _ _ hP hD hS ls (lv_sub hl [0, 1, 2] rfl)
    have h40 : ∀ (y13 : Int32), m_X10_could_j40 rec4 y13 = some r0 → ∀ (H : Heap) (locs : List Loc), va_P D vwCl [o_M a M_pasts M_typed M_ways M_z M_why M_rows M_wide M_column M_found, ai (a 36) cI 244 M_s, ai (a 39) cI 48 M_one, ai (a 40) cI 48 M_other, ai (a 42) cI 14 M_tried] H → va_D A [o_M a M_pasts M_typed M_ways M_z M_why M_rows M_wide M_column M_found, ai (a 36) cI 244 M_s, ai (a 39) cI 48 M_one, ai (a 40) cI 48 M_other, ai (a 42) cI 14 M_tried] → va_S A s.heap H locs → ∀ ls : Array Slot, lv_has ls 4 [(0, .ref (a 35)), (1, .int x1), (3, .int y13)] → W p l e { frames := 3, cells := 0, slots := 0, locals := 69 } s m args below meth c H locs 0 0 (MQ below (eQ D (some (.int r0)) (fun _ : Unit => [o_M a M_pasts M_typed M_ways M_z M_why M_rows M_wide M_column M_found, ai (a 36) cI 244 M_s, ai (a 39) cI 48 M_one, ai (a 40) cI 48 M_other, ai (a 42) cI 14 M_tried]) A) args s 0 0 A) (F0 m 40 ls []) := by
      intro y13 hm H locs hP hD hS ls hl
      unfold m_X10_could_j40 at hm
      refine lv_iconst (v := 1) hx hb dX10_could_40 (by decide) ?_
      refine lv_goto (tgt := 45) hx hb dX10_could_41 (by decide) ?_
      exact h45 y13 1 hm _ _ hP hD hS ls (lv_sub hl [0, 1, 2] rfl)
    intro H locs hP hD hS ls hl
    unfold m_X10_could_b4 at hm
    refine lv_iload_n hx hb dX10_could_4 rfl (lv_at hl 3 rfl) ?_
    refine lv_iload_n hx hb dX10_could_5 rfl (lv_at hl 1 rfl) ?_
    refine lv_icmp_ge (tgt := 52) hx hb dX10_could_6 (by decide) (fun c6 => ?_) (fun c6 => ?_)
    · have hm := ip c6 hm
      exact h52 y1 hm _ _ hP hD hS ls (lv_sub hl [0, 1, 2] rfl)
    · have hm := ine c6 hm
      refine lv_iload_n hx hb dX10_could_9 rfl (lv_at hl 2 rfl) ?_
      refine lv_if_eq (tgt := 44) hx hb dX10_could_10 (by decide) (fun c10 => ?_) (fun c10 => ?_)
      · have hm := ip c10 hm
        exact h44 y2 hm _ _ hP hD hS ls (lv_sub hl [0, 1, 3] rfl)
      · have hm := ine c10 hm
        refine lv_aload_n hx hb dX10_could_13 rfl (lv_at hl 0 rfl) ?_
        refine va_get (D := D) (ci := 10) (v := .ref (a 42)) (C := RX10) (T := TX10) (N := 17) hx hb hts hiX10 hown hK.1 hP 0 rfl rfl 9 (by decide) (hts (.fieldLink RX10 29 "IslandBridgesModel" "tried" "[I") (List.mem_of_getElem? (i := 1) rfl)) (fun _ h9 => h9) rfl dX10_could_14 ?_
        refine lv_iload_n hx hb dX10_could_17 rfl (lv_at hl 1 rfl) ?_
        obtain ⟨v12, nv12, ev12, hm⟩ := rd_inv hm
        refine va_iald hx hb hK.1 hP 4 0 rfl rfl nv12 dX10_could_18 ?_
        refine ltop ev12 ?_
        refine lv_if_eq (tgt := 40) hx hb dX10_could_19 (by decide) (fun c19 => ?_) (fun c19 => ?_)
        · have hm := ip c19 hm
          exact h40 y2 hm _ _ hP hD hS ls (lv_sub hl [0, 1, 3] rfl)
        · have hm := ine c19 hm
          refine lv_aload_n hx hb dX10_could_22 rfl (lv_at hl 0 rfl) ?_
          refine va_get (D := D) (ci := 10) (v := .ref (a 42)) (C := RX10) (T := TX10) (N := 17) hx hb hts hiX10 hown hK.1 hP 0 rfl rfl 9 (by decide) (hts (.fieldLink RX10 29 "IslandBridgesModel" "tried" "[I") (List.mem_of_getElem? (i := 1) rfl)) (fun _ h9 => h9) rfl dX10_could_23 ?_
          refine lv_iload_n hx hb dX10_could_26 rfl (lv_at hl 3 rfl) ?_
          obtain ⟨v14, nv14, ev14, hm⟩ := rd_inv hm
          refine va_iald hx hb hK.1 hP 4 0 rfl rfl nv14 dX10_could_27 ?_
          refine ltop ev14 ?_
          refine lv_if_eq (tgt := 40) hx hb dX10_could_28 (by decide) (fun c28 => ?_) (fun c28 => ?_)
          · have hm := ip c28 hm
            exact h40 y2 hm _ _ hP hD hS ls (lv_sub hl [0, 1, 3] rfl)
          · have hm := ine c28 hm
            refine lv_aload_n hx hb dX10_could_31 rfl (lv_at hl 0 rfl) ?_
            refine lv_iload_n hx hb dX10_could_32 rfl (lv_at hl 1 rfl) ?_
            refine lv_iload_n hx hb dX10_could_33 rfl (lv_at hl 3 rfl) ?_
            obtain ⟨v15, h_v15, hm⟩ := bd1_inv hm
            refine cVs ⟨hx, hb, hml, hown, hts⟩ (c_X10_cross l D cI cJ cS cB a M_pasts M_typed M_ways M_z M_why M_rows M_wide M_column M_found M_s M_one M_other x1 y2 v15 h_v15) (cwV 2 hts gX10_could_X10_cross rfl rfl rfl hd_X10_cross ⟨(Nat.le_of_ble_eq_true rfl), (Nat.le_of_ble_eq_true rfl)⟩) hK hP hD hS hA [0, 1, 2, 3] rfl rfl rfl hl.1 (Nat.le_of_ble_eq_true rfl) ⟨Nat.zero_le _, Nat.zero_le _⟩ 0 rfl rfl rfl rfl dX10_could_34 (fun H locs hP hD hS => ?_)
            refine lv_if_ne (tgt := 44) hx hb dX10_could_37 (by decide) (fun c37 => ?_) (fun c37 => ?_)
            · have hm := ine c37 hm
              exact h44 y2 hm _ _ hP hD hS ls (lv_sub hl [0, 1, 3] rfl)
            · have hm := ip c37 hm
              exact h40 y2 hm _ _ hP hD hS ls (lv_sub hl [0, 1, 3] rfl)
  refine lv_iconst (v := 1) hx hb dX10_could_0 (by decide) ?_
  refine lv_istore_n (lv' := [(2, .int 1), (0, .ref (a 35)), (1, .int x1)]) hx hb dX10_could_1 rfl hl (by decide) rfl (fun ls hl => ?_)
  refine lv_iconst (v := 0) hx hb dX10_could_2 (by decide) ?_
  refine lv_istore_n (lv' := [(3, .int 0), (2, .int 1), (0, .ref (a 35)), (1, .int x1)]) hx hb dX10_could_3 rfl hl (by decide) rfl (fun ls hl => ?_)
  exact h4  N 1 0 hm _ _ hP hD hS ls (lv_sub hl [2, 3, 1, 0] rfl)
theorem hd_X10_isWhole : yX10_isWhole.cls = RX10 ∧ yX10_isWhole.cls ≠ "java/lang/invoke/MethodHandle" ∧ yX10_isWhole.cls ≠ "java/lang/invoke/VarHandle" ∧ (parseMethodDescriptor yX10_isWhole.desc).map (fun d => d.parameters.length) = some 0 := by decide +kernel
def m_X10_isWhole_j158 (N : Nat) (M_s : Nat → Int32) (y10 : Int32) (y11 : Nat → Int32) : Option (Int32 × (Nat → Int32)) :=
  if y10 = 0 then (some ((0, y11))) else (bd1 (m_X10_cells M_s) (fun v12 => bd1 (m_X10_groupsBelow N M_s y11 v12) (fun v13 => if v13 = 1 then (some ((1, y11))) else (some ((0, y11))))))
def m_X10_isWhole_j155 (rec53 : Int32 → (Nat → Int32) → Option (Int32 × (Nat → Int32))) (y17 : Int32) (y18 : Nat → Int32) : Option (Int32 × (Nat → Int32)) :=
  rec53 y17 y18
def m_X10_isWhole_j149 (rec61 : Int32 → Int32 → (Nat → Int32) → Option (Int32 × (Nat → Int32))) (y24 : Int32) (y25 : Int32) (y26 : Nat → Int32) : Option (Int32 × (Nat → Int32)) :=
  lt1 (y25 + 1) (fun v27 => rec61 y24 v27 y26)
def m_X10_isWhole_b61 (M_ways : Int32) (M_one : Nat → Int32) (M_other : Nat → Int32) (M_tried : Nat → Int32) (rec53 : Int32 → (Nat → Int32) → Option (Int32 × (Nat → Int32))) (rec61 : Int32 → Int32 → (Nat → Int32) → Option (Int32 × (Nat → Int32))) (y14 : Int32) (y15 : Int32) (y16 : Nat → Int32) : Option (Int32 × (Nat → Int32)) :=
  if M_ways ≤ y15 then (m_X10_isWhole_j155 rec53 y14 y16) else (rd 48 M_one y15 (fun v19 => rd 144 y16 v19 (fun v20 => rd 48 M_other y15 (fun v21 => rd 144 y16 v21 (fun v22 => rd 14 M_tried y15 (fun v23 => if v23 ≤ 0 then (m_X10_isWhole_j149 rec61 y14 y15 y16) else (if v20 = v22 then (m_X10_isWhole_j149 rec61 y14 y15 y16) else (rd 48 M_one y15 (fun v28 => lt1 (m_X10_lesser v20 v22) (fun v29 => wr 144 y16 v28 v29 (fun v30 => rd 48 M_other y15 (fun v31 => lt1 (m_X10_lesser v20 v22) (fun v32 => wr 144 v30 v31 v32 (fun v33 => m_X10_isWhole_j149 rec61 1 y15 v33))))))))))))))
def m_X10_isWhole_b53 (N : Nat) (M_ways : Int32) (M_s : Nat → Int32) (M_one : Nat → Int32) (M_other : Nat → Int32) (M_tried : Nat → Int32) (y7 : Int32) (rec53 : Int32 → (Nat → Int32) → Option (Int32 × (Nat → Int32))) (y8 : Int32) (y9 : Nat → Int32) : Option (Int32 × (Nat → Int32)) :=
  if y8 = 0 then (m_X10_isWhole_j158 N M_s y7 y9) else (zl3 (m_X10_isWhole_b61 M_ways M_one M_other M_tried rec53) N 0 0 y9)
def m_X10_isWhole_j51 (N : Nat) (M_ways : Int32) (M_s : Nat → Int32) (M_one : Nat → Int32) (M_other : Nat → Int32) (M_tried : Nat → Int32) (y5 : Int32) (y6 : Nat → Int32) : Option (Int32 × (Nat → Int32)) :=
  zl2 (m_X10_isWhole_b53 N M_ways M_s M_one M_other M_tried y5) N 1 y6
def m_X10_isWhole_j37 (rec4 : Int32 → Int32 → (Nat → Int32) → Option (Int32 × (Nat → Int32))) (y36 : Int32) (y37 : Nat → Int32) (y38 : Int32) : Option (Int32 × (Nat → Int32)) :=
  wr 144 y37 y36 y36 (fun v39 => lt1 (y36 + 1) (fun v40 => rec4 y38 v40 v39))
def m_X10_isWhole_j36 (rec4 : Int32 → Int32 → (Nat → Int32) → Option (Int32 × (Nat → Int32))) (y34 : Int32) (y35 : Nat → Int32) : Option (Int32 × (Nat → Int32)) :=
  m_X10_isWhole_j37 rec4 y34 y35 0
def m_X10_isWhole_j32 (rec4 : Int32 → Int32 → (Nat → Int32) → Option (Int32 × (Nat → Int32))) (y42 : Int32) (y43 : Nat → Int32) : Option (Int32 × (Nat → Int32)) :=
  m_X10_isWhole_j37 rec4 y42 y43 1
def m_X10_isWhole_b4 (N : Nat) (M_ways : Int32) (M_s : Nat → Int32) (M_one : Nat → Int32) (M_other : Nat → Int32) (M_tried : Nat → Int32) (rec4 : Int32 → Int32 → (Nat → Int32) → Option (Int32 × (Nat → Int32))) (y1 : Int32) (y2 : Int32) (y3 : Nat → Int32) : Option (Int32 × (Nat → Int32)) :=
  bd1 (m_X10_cells M_s) (fun v4 => if v4 ≤ y2 then (m_X10_isWhole_j51 N M_ways M_s M_one M_other M_tried y1 y3) else (if y1 = 0 then (m_X10_isWhole_j36 rec4 y2 y3) else (bd1 (m_X10_number M_s y2) (fun v41 => if v41 = 0 then (m_X10_isWhole_j32 rec4 y2 y3) else (bd1 (m_X10_waysOf N M_ways M_one M_other y2) (fun v44 => if v44 ≤ 0 then (m_X10_isWhole_j36 rec4 y2 y3) else (m_X10_isWhole_j32 rec4 y2 y3)))))))
def m_X10_isWhole (N : Nat) (M_ways : Int32) (M_s : Nat → Int32) (M_one : Nat → Int32) (M_other : Nat → Int32) (M_group : Nat → Int32) (M_tried : Nat → Int32) : Option (Int32 × (Nat → Int32)) :=
  zl3 (m_X10_isWhole_b4 N M_ways M_s M_one M_other M_tried) N 1 0 M_group
set_option maxHeartbeats 4000000 in
set_option maxRecDepth 100000 in
theorem c_X10_isWhole (l : Launch) (D : va_G) (cI cJ cS cB : ClassId) (a : Nat → Nat) (M_pasts : Int32) (M_typed : Int32) (M_ways : Int32) (M_z : Int32) (M_why : Int32) (M_rows : Int32) (M_wide : Int32) (M_column : Int32) (M_found : Int32) (M_s : Nat → Int32) (M_one : Nat → Int32) (M_other : Nat → Int32) (M_group : Nat → Int32) (M_tried : Nat → Int32)  (N : Nat) (r0 : Int32) (M_group' : Nat → Int32) (hm : m_X10_isWhole N M_ways M_s M_one M_other M_group M_tried = some (r0, M_group')) :
    mU l D (TYs cI cJ cS cB) yX10_isWhole wsX10_isWhole { frames := 2, cells := 0, slots := 0, locals := 45 } [.ref (a 35)] [o_M a M_pasts M_typed M_ways M_z M_why M_rows M_wide M_column M_found, ai (a 36) cI 244 M_s, ai (a 39) cI 48 M_one, ai (a 40) cI 48 M_other, ai (a 41) cI 144 M_group, ai (a 42) cI 14 M_tried] [o_M a M_pasts M_typed M_ways M_z M_why M_rows M_wide M_column M_found, ai (a 36) cI 244 M_s, ai (a 39) cI 48 M_one, ai (a 40) cI 48 M_other, ai (a 41) cI 144 M_group', ai (a 42) cI 14 M_tried] (some (.int r0)) := by
  refine mG_of (cc := cX10_isWhole) (maxL := 6) (ret := (some .boolean)) (by decide) rfl rfl (Nat.le_of_ble_eq_true rfl) ?_
  intro p e s m args below meth c A hx hb hr hml hlk hnm hts hown hK hP hD hA hS ls hl
  have hl : lv_has ls 6 [(0, .ref (a 35))] := hl
  have hiX10 : ∀ w ∈ wsX100, w ∈ wsX10_isWhole := fun w h => List.mem_cons_of_mem _ (List.mem_append_right _ h)
  unfold m_X10_isWhole at hm
  have h158 : ∀ (y10 : Int32) (y11 : Nat → Int32), m_X10_isWhole_j158 N M_s y10 y11 = some (r0, M_group') → ∀ (H : Heap) (locs : List Loc), va_P D vwCl [o_M a M_pasts M_typed M_ways M_z M_why M_rows M_wide M_column M_found, ai (a 36) cI 244 M_s, ai (a 39) cI 48 M_one, ai (a 40) cI 48 M_other, ai (a 41) cI 144 y11, ai (a 42) cI 14 M_tried] H → va_D A [o_M a M_pasts M_typed M_ways M_z M_why M_rows M_wide M_column M_found, ai (a 36) cI 244 M_s, ai (a 39) cI 48 M_one, ai (a 40) cI 48 M_other, ai (a 41) cI 144 y11, ai (a 42) cI 14 M_tried] → va_S A s.heap H locs → ∀ ls : Array Slot, lv_has ls 6 [(0, .ref (a 35)), (1, .int y10)] → W p l e { frames := 2, cells := 0, slots := 0, locals := 45 } s m args below meth c H locs 0 0 (MQ below (eQ D (some (.int r0)) (fun _ : Unit => [o_M a M_pasts M_typed M_ways M_z M_why M_rows M_wide M_column M_found, ai (a 36) cI 244 M_s, ai (a 39) cI 48 M_one, ai (a 40) cI 48 M_other, ai (a 41) cI 144 M_group', ai (a 42) cI 14 M_tried]) A) args s 0 0 A) (F0 m 158 ls []) := by
    intro y10 y11 hm H locs hP hD hS ls hl
    unfold m_X10_isWhole_j158 at hm
    refine lv_iload_n hx hb dX10_isWhole_158 rfl (lv_at hl 1 rfl) ?_
    refine lv_if_eq (tgt := 178) hx hb dX10_isWhole_159 (by decide) (fun c159 => ?_) (fun c159 => ?_)
    · have hm := ip c159 hm
      refine lv_iconst (v := 0) hx hb dX10_isWhole_178 (by decide) ?_
      cases hm
      exact rZ () hx hb hr hlk (by decide) hP hD hS dX10_isWhole_179
    · have hm := ine c159 hm
      refine lv_aload_n hx hb dX10_isWhole_162 rfl (lv_at hl 0 rfl) ?_
      refine lv_aload_n hx hb dX10_isWhole_163 rfl (lv_at hl 0 rfl) ?_
      obtain ⟨v12, h_v12, hm⟩ := bd1_inv hm
      refine cVs ⟨hx, hb, hml, hown, hts⟩ (c_X10_cells l D cI cJ cS cB a M_pasts M_typed M_ways M_z M_why M_rows M_wide M_column M_found M_s v12 h_v12) (cwV 0 hts gX10_isWhole_X10_cells rfl rfl rfl hd_X10_cells ⟨(Nat.le_of_ble_eq_true rfl), (Nat.le_of_ble_eq_true rfl)⟩) hK hP hD hS hA [0, 1] rfl rfl rfl hl.1 (Nat.le_of_ble_eq_true rfl) ⟨Nat.zero_le _, Nat.zero_le _⟩ 0 rfl rfl rfl rfl dX10_isWhole_164 (fun H locs hP hD hS => ?_)
      obtain ⟨v13, h_v13, hm⟩ := bd1_inv hm
      refine cVs ⟨hx, hb, hml, hown, hts⟩ (c_X10_groupsBelow l D cI cJ cS cB a M_pasts M_typed M_ways M_z M_why M_rows M_wide M_column M_found M_s y11 v12 N v13 h_v13) (cwV 1 hts gX10_isWhole_X10_groupsBelow rfl rfl rfl hd_X10_groupsBelow ⟨(Nat.le_of_ble_eq_true rfl), (Nat.le_of_ble_eq_true rfl)⟩) hK hP hD hS hA [0, 1, 4] rfl rfl rfl hl.1 (Nat.le_of_ble_eq_true rfl) ⟨Nat.zero_le _, Nat.zero_le _⟩ 0 rfl rfl rfl rfl dX10_isWhole_167 (fun H locs hP hD hS => ?_)
      refine lv_iconst (v := 1) hx hb dX10_isWhole_170 (by decide) ?_
      refine lv_icmp_ne (tgt := 178) hx hb dX10_isWhole_171 (by decide) (fun c171 => ?_) (fun c171 => ?_)
      · have hm := ine c171 hm
        refine lv_iconst (v := 0) hx hb dX10_isWhole_178 (by decide) ?_
        cases hm
        exact rZ () hx hb hr hlk (by decide) hP hD hS dX10_isWhole_179
      · have hm := ip c171 hm
        refine lv_iconst (v := 1) hx hb dX10_isWhole_174 (by decide) ?_
        refine lv_goto (tgt := 179) hx hb dX10_isWhole_175 (by decide) ?_
        cases hm
        exact rZ () hx hb hr hlk (by decide) hP hD hS dX10_isWhole_179
  have h53 : ∀ (y7 : Int32), ∀ (n : Nat) (y8 : Int32) (y9 : Nat → Int32), zl2 (m_X10_isWhole_b53 N M_ways M_s M_one M_other M_tried y7) n y8 y9 = some (r0, M_group') → ∀ (H : Heap) (locs : List Loc), va_P D vwCl [o_M a M_pasts M_typed M_ways M_z M_why M_rows M_wide M_column M_found, ai (a 36) cI 244 M_s, ai (a 39) cI 48 M_one, ai (a 40) cI 48 M_other, ai (a 41) cI 144 y9, ai (a 42) cI 14 M_tried] H → va_D A [o_M a M_pasts M_typed M_ways M_z M_why M_rows M_wide M_column M_found, ai (a 36) cI 244 M_s, ai (a 39) cI 48 M_one, ai (a 40) cI 48 M_other, ai (a 41) cI 144 y9, ai (a 42) cI 14 M_tried] → va_S A s.heap H locs → ∀ ls : Array Slot, lv_has ls 6 [(0, .ref (a 35)), (1, .int y7), (2, .int y8)] → W p l e { frames := 2, cells := 0, slots := 0, locals := 45 } s m args below meth c H locs 0 0 (MQ below (eQ D (some (.int r0)) (fun _ : Unit => [o_M a M_pasts M_typed M_ways M_z M_why M_rows M_wide M_column M_found, ai (a 36) cI 244 M_s, ai (a 39) cI 48 M_one, ai (a 40) cI 48 M_other, ai (a 41) cI 144 M_group', ai (a 42) cI 14 M_tried]) A) args s 0 0 A) (F0 m 53 ls []) := by
    intro y7
    refine zl2_ind (fun rec53 ih53 y8 y9 hm => ?_)
    have h155 : ∀ (y17 : Int32) (y18 : Nat → Int32), m_X10_isWhole_j155 rec53 y17 y18 = some (r0, M_group') → ∀ (H : Heap) (locs : List Loc), va_P D vwCl [o_M a M_pasts M_typed M_ways M_z M_why M_rows M_wide M_column M_found, ai (a 36) cI 244 M_s, ai (a 39) cI 48 M_one, ai (a 40) cI 48 M_other, ai (a 41) cI 144 y18, ai (a 42) cI 14 M_tried] H → va_D A [o_M a M_pasts M_typed M_ways M_z M_why M_rows M_wide M_column M_found, ai (a 36) cI 244 M_s, ai (a 39) cI 48 M_one, ai (a 40) cI 48 M_other, ai (a 41) cI 144 y18, ai (a 42) cI 14 M_tried] → va_S A s.heap H locs → ∀ ls : Array Slot, lv_has ls 6 [(0, .ref (a 35)), (1, .int y7), (2, .int y17)] → W p l e { frames := 2, cells := 0, slots := 0, locals := 45 } s m args below meth c H locs 0 0 (MQ below (eQ D (some (.int r0)) (fun _ : Unit => [o_M a M_pasts M_typed M_ways M_z M_why M_rows M_wide M_column M_found, ai (a 36) cI 244 M_s, ai (a 39) cI 48 M_one, ai (a 40) cI 48 M_other, ai (a 41) cI 144 M_group', ai (a 42) cI 14 M_tried]) A) args s 0 0 A) (F0 m 155 ls []) := by
      intro y17 y18 hm H locs hP hD hS ls hl
      unfold m_X10_isWhole_j155 at hm
      refine lv_goto (tgt := 53) hx hb dX10_isWhole_155 (by decide) ?_
      exact ih53 y17 y18 hm _ _ hP hD hS ls (lv_sub hl [0, 1, 2] rfl)
    have h61 : ∀ (n : Nat) (y14 : Int32) (y15 : Int32) (y16 : Nat → Int32), zl3 (m_X10_isWhole_b61 M_ways M_one M_other M_tried rec53) n y14 y15 y16 = some (r0, M_group') → ∀ (H : Heap) (locs : List Loc), va_P D vwCl [o_M a M_pasts M_typed M_ways M_z M_why M_rows M_wide M_column M_found, ai (a 36) cI 244 M_s, ai (a 39) cI 48 M_one, ai (a 40) cI 48 M_other, ai (a 41) cI 144 y16, ai (a 42) cI 14 M_tried] H → va_D A [o_M a M_pasts M_typed M_ways M_z M_why M_rows M_wide M_column M_found, ai (a 36) cI 244 M_s, ai (a 39) cI 48 M_one, ai (a 40) cI 48 M_other, ai (a 41) cI 144 y16, ai (a 42) cI 14 M_tried] → va_S A s.heap H locs → ∀ ls : Array Slot, lv_has ls 6 [(0, .ref (a 35)), (1, .int y7), (2, .int y14), (3, .int y15)] → W p l e { frames := 2, cells := 0, slots := 0, locals := 45 } s m args below meth c H locs 0 0 (MQ below (eQ D (some (.int r0)) (fun _ : Unit => [o_M a M_pasts M_typed M_ways M_z M_why M_rows M_wide M_column M_found, ai (a 36) cI 244 M_s, ai (a 39) cI 48 M_one, ai (a 40) cI 48 M_other, ai (a 41) cI 144 M_group', ai (a 42) cI 14 M_tried]) A) args s 0 0 A) (F0 m 61 ls []) := by
      refine zl3_ind (fun rec61 ih61 y14 y15 y16 hm => ?_)
      have h149 : ∀ (y24 : Int32) (y25 : Int32) (y26 : Nat → Int32), m_X10_isWhole_j149 rec61 y24 y25 y26 = some (r0, M_group') → ∀ (H : Heap) (locs : List Loc), va_P D vwCl [o_M a M_pasts M_typed M_ways M_z M_why M_rows M_wide M_column M_found, ai (a 36) cI 244 M_s, ai (a 39) cI 48 M_one, ai (a 40) cI 48 M_other, ai (a 41) cI 144 y26, ai (a 42) cI 14 M_tried] H → va_D A [o_M a M_pasts M_typed M_ways M_z M_why M_rows M_wide M_column M_found, ai (a 36) cI 244 M_s, ai (a 39) cI 48 M_one, ai (a 40) cI 48 M_other, ai (a 41) cI 144 y26, ai (a 42) cI 14 M_tried] → va_S A s.heap H locs → ∀ ls : Array Slot, lv_has ls 6 [(0, .ref (a 35)), (1, .int y7), (2, .int y24), (3, .int y25)] → W p l e { frames := 2, cells := 0, slots := 0, locals := 45 } s m args below meth c H locs 0 0 (MQ below (eQ D (some (.int r0)) (fun _ : Unit => [o_M a M_pasts M_typed M_ways M_z M_why M_rows M_wide M_column M_found, ai (a 36) cI 244 M_s, ai (a 39) cI 48 M_one, ai (a 40) cI 48 M_other, ai (a 41) cI 144 M_group', ai (a 42) cI 14 M_tried]) A) args s 0 0 A) (F0 m 149 ls []) := by
        intro y24 y25 y26 hm H locs hP hD hS ls hl
        unfold m_X10_isWhole_j149 at hm
        obtain ⟨v27, ev27, hm⟩ := lt1_inv hm
        refine lv_iinc (v := v27) (lv' := [(3, .int v27), (0, .ref (a 35)), (1, .int y7), (2, .int y24)]) hx hb dX10_isWhole_149 hl (k := 3) rfl ev27 (by decide) rfl (fun ls hl => ?_)
        refine lv_goto (tgt := 61) hx hb dX10_isWhole_152 (by decide) ?_
        exact ih61 y24 v27 y26 hm _ _ hP hD hS ls (lv_sub hl [1, 2, 3, 0] rfl)
      intro H locs hP hD hS ls hl
      unfold m_X10_isWhole_b61 at hm
      refine lv_iload_n hx hb dX10_isWhole_61 rfl (lv_at hl 3 rfl) ?_
      refine lv_aload_n hx hb dX10_isWhole_62 rfl (lv_at hl 0 rfl) ?_
      refine va_get (D := D) (ci := 10) (v := .int M_ways) (C := RX10) (T := TX10) (N := 17) hx hb hts hiX10 hown hK.1 hP 0 rfl rfl 5 (by decide) (hts (.fieldLink RX10 54 "IslandBridgesModel" "ways" "I") (List.mem_of_getElem? (i := 2) rfl)) (fun _ h9 => h9) rfl dX10_isWhole_63 ?_
      refine lv_icmp_ge (tgt := 155) hx hb dX10_isWhole_66 (by decide) (fun c66 => ?_) (fun c66 => ?_)
      · have hm := ip c66 hm
        exact h155 y14 y16 hm _ _ hP hD hS ls (lv_sub hl [0, 1, 2] rfl)
      · have hm := ine c66 hm
        refine lv_aload_n hx hb dX10_isWhole_69 rfl (lv_at hl 0 rfl) ?_
        refine va_get (D := D) (ci := 10) (v := .ref (a 41)) (C := RX10) (T := TX10) (N := 17) hx hb hts hiX10 hown hK.1 hP 0 rfl rfl 8 (by decide) (hts (.fieldLink RX10 26 "IslandBridgesModel" "group" "[I") (List.mem_of_getElem? (i := 1) rfl)) (fun _ h9 => h9) rfl dX10_isWhole_70 ?_
        refine lv_aload_n hx hb dX10_isWhole_73 rfl (lv_at hl 0 rfl) ?_
        refine va_get (D := D) (ci := 10) (v := .ref (a 39)) (C := RX10) (T := TX10) (N := 17) hx hb hts hiX10 hown hK.1 hP 0 rfl rfl 6 (by decide) (hts (.fieldLink RX10 20 "IslandBridgesModel" "one" "[I") (List.mem_of_getElem? (i := 3) rfl)) (fun _ h9 => h9) rfl dX10_isWhole_74 ?_
        refine lv_iload_n hx hb dX10_isWhole_77 rfl (lv_at hl 3 rfl) ?_
        obtain ⟨v19, nv19, ev19, hm⟩ := rd_inv hm
        refine va_iald hx hb hK.1 hP 2 0 rfl rfl nv19 dX10_isWhole_78 ?_
        refine ltop ev19 ?_
        obtain ⟨v20, nv20, ev20, hm⟩ := rd_inv hm
        refine va_iald hx hb hK.1 hP 4 0 rfl rfl nv20 dX10_isWhole_79 ?_
        refine ltop ev20 ?_
        refine lv_istore (lv' := [(4, .int v20), (0, .ref (a 35)), (1, .int y7), (2, .int y14), (3, .int y15)]) hx hb dX10_isWhole_80 hl (by decide) rfl (fun ls hl => ?_)
        refine lv_aload_n hx hb dX10_isWhole_82 rfl (lv_at hl 1 rfl) ?_
        refine va_get (D := D) (ci := 10) (v := .ref (a 41)) (C := RX10) (T := TX10) (N := 17) hx hb hts hiX10 hown hK.1 hP 0 rfl rfl 8 (by decide) (hts (.fieldLink RX10 26 "IslandBridgesModel" "group" "[I") (List.mem_of_getElem? (i := 1) rfl)) (fun _ h9 => h9) rfl dX10_isWhole_83 ?_
        refine lv_aload_n hx hb dX10_isWhole_86 rfl (lv_at hl 1 rfl) ?_
        refine va_get (D := D) (ci := 10) (v := .ref (a 40)) (C := RX10) (T := TX10) (N := 17) hx hb hts hiX10 hown hK.1 hP 0 rfl rfl 7 (by decide) (hts (.fieldLink RX10 23 "IslandBridgesModel" "other" "[I") (List.mem_of_getElem? (i := 4) rfl)) (fun _ h9 => h9) rfl dX10_isWhole_87 ?_
        refine lv_iload_n hx hb dX10_isWhole_90 rfl (lv_at hl 4 rfl) ?_
        obtain ⟨v21, nv21, ev21, hm⟩ := rd_inv hm
        refine va_iald hx hb hK.1 hP 3 0 rfl rfl nv21 dX10_isWhole_91 ?_
        refine ltop ev21 ?_
        obtain ⟨v22, nv22, ev22, hm⟩ := rd_inv hm
        refine va_iald hx hb hK.1 hP 4 0 rfl rfl nv22 dX10_isWhole_92 ?_
        refine ltop ev22 ?_
        refine lv_istore (lv' := [(5, .int v22), (4, .int v20), (0, .ref (a 35)), (1, .int y7), (2, .int y14), (3, .int y15)]) hx hb dX10_isWhole_93 hl (by decide) rfl (fun ls hl => ?_)
        refine lv_aload_n hx hb dX10_isWhole_95 rfl (lv_at hl 2 rfl) ?_
        refine va_get (D := D) (ci := 10) (v := .ref (a 42)) (C := RX10) (T := TX10) (N := 17) hx hb hts hiX10 hown hK.1 hP 0 rfl rfl 9 (by decide) (hts (.fieldLink RX10 29 "IslandBridgesModel" "tried" "[I") (List.mem_of_getElem? (i := 5) rfl)) (fun _ h9 => h9) rfl dX10_isWhole_96 ?_
        refine lv_iload_n hx hb dX10_isWhole_99 rfl (lv_at hl 5 rfl) ?_
        obtain ⟨v23, nv23, ev23, hm⟩ := rd_inv hm
        refine va_iald hx hb hK.1 hP 5 0 rfl rfl nv23 dX10_isWhole_100 ?_
        refine ltop ev23 ?_
        refine lv_if_le (tgt := 149) hx hb dX10_isWhole_101 (by decide) (fun c101 => ?_) (fun c101 => ?_)
        · have hm := ip c101 hm
          exact h149 y14 y15 y16 hm _ _ hP hD hS ls (lv_sub hl [2, 3, 4, 5] rfl)
        · have hm := ine c101 hm
          refine lv_iload hx hb dX10_isWhole_104 (lv_at hl 1 rfl) ?_
          refine lv_iload hx hb dX10_isWhole_106 (lv_at hl 0 rfl) ?_
          refine lv_icmp_eq (tgt := 149) hx hb dX10_isWhole_108 (by decide) (fun c108 => ?_) (fun c108 => ?_)
          · have hm := ip c108 hm
            exact h149 y14 y15 y16 hm _ _ hP hD hS ls (lv_sub hl [2, 3, 4, 5] rfl)
          · have hm := ine c108 hm
            refine lv_aload_n hx hb dX10_isWhole_111 rfl (lv_at hl 2 rfl) ?_
            refine va_get (D := D) (ci := 10) (v := .ref (a 41)) (C := RX10) (T := TX10) (N := 17) hx hb hts hiX10 hown hK.1 hP 0 rfl rfl 8 (by decide) (hts (.fieldLink RX10 26 "IslandBridgesModel" "group" "[I") (List.mem_of_getElem? (i := 1) rfl)) (fun _ h9 => h9) rfl dX10_isWhole_112 ?_
            refine lv_aload_n hx hb dX10_isWhole_115 rfl (lv_at hl 2 rfl) ?_
            refine va_get (D := D) (ci := 10) (v := .ref (a 39)) (C := RX10) (T := TX10) (N := 17) hx hb hts hiX10 hown hK.1 hP 0 rfl rfl 6 (by decide) (hts (.fieldLink RX10 20 "IslandBridgesModel" "one" "[I") (List.mem_of_getElem? (i := 3) rfl)) (fun _ h9 => h9) rfl dX10_isWhole_116 ?_
            refine lv_iload_n hx hb dX10_isWhole_119 rfl (lv_at hl 5 rfl) ?_
            obtain ⟨v28, nv28, ev28, hm⟩ := rd_inv hm
            refine va_iald hx hb hK.1 hP 2 0 rfl rfl nv28 dX10_isWhole_120 ?_
            refine ltop ev28 ?_
            refine lv_iload hx hb dX10_isWhole_121 (lv_at hl 1 rfl) ?_
            refine lv_iload hx hb dX10_isWhole_123 (lv_at hl 0 rfl) ?_
            obtain ⟨v29, h_v29, hm⟩ := lt1_inv hm
            refine cSs ⟨hx, hb, hml, hown, hts⟩ (c_X10_lesser l D cI cJ cS cB a  v20 v22 v29 h_v29) (va_cwS 2 hts gX10_isWhole_X10_lesser rfl rfl rfl hd_X10_lesser ⟨(Nat.le_of_ble_eq_true rfl), (Nat.le_of_ble_eq_true rfl)⟩) hK hP hD hS hA [] rfl rfl rfl hl.1 (Nat.le_of_ble_eq_true rfl) ⟨Nat.zero_le _, Nat.zero_le _⟩ rfl dX10_isWhole_125 (fun H locs hP hD hS => ?_)
            obtain ⟨v30, nv30, ev30, hm⟩ := wr_inv hm
            refine va_iast hx hb hK.1 hP hD hS 4 0 rfl rfl nv30 dX10_isWhole_128 (fun H locs hP hD hS => ?_)
            have hP : va_P D vwCl [o_M a M_pasts M_typed M_ways M_z M_why M_rows M_wide M_column M_found, ai (a 36) cI 244 M_s, ai (a 39) cI 48 M_one, ai (a 40) cI 48 M_other, ai (a 41) cI 144 v30, ai (a 42) cI 14 M_tried] H := by rw [← ev30]; exact hP
            have hD : va_D A [o_M a M_pasts M_typed M_ways M_z M_why M_rows M_wide M_column M_found, ai (a 36) cI 244 M_s, ai (a 39) cI 48 M_one, ai (a 40) cI 48 M_other, ai (a 41) cI 144 v30, ai (a 42) cI 14 M_tried] := by rw [← ev30]; exact hD
            refine lv_aload_n hx hb dX10_isWhole_129 rfl (lv_at hl 2 rfl) ?_
            refine va_get (D := D) (ci := 10) (v := .ref (a 41)) (C := RX10) (T := TX10) (N := 17) hx hb hts hiX10 hown hK.1 hP 0 rfl rfl 8 (by decide) (hts (.fieldLink RX10 26 "IslandBridgesModel" "group" "[I") (List.mem_of_getElem? (i := 1) rfl)) (fun _ h9 => h9) rfl dX10_isWhole_130 ?_
            refine lv_aload_n hx hb dX10_isWhole_133 rfl (lv_at hl 2 rfl) ?_
            refine va_get (D := D) (ci := 10) (v := .ref (a 40)) (C := RX10) (T := TX10) (N := 17) hx hb hts hiX10 hown hK.1 hP 0 rfl rfl 7 (by decide) (hts (.fieldLink RX10 23 "IslandBridgesModel" "other" "[I") (List.mem_of_getElem? (i := 4) rfl)) (fun _ h9 => h9) rfl dX10_isWhole_134 ?_
            refine lv_iload_n hx hb dX10_isWhole_137 rfl (lv_at hl 5 rfl) ?_
            obtain ⟨v31, nv31, ev31, hm⟩ := rd_inv hm
            refine va_iald hx hb hK.1 hP 3 0 rfl rfl nv31 dX10_isWhole_138 ?_
            refine ltop ev31 ?_
            refine lv_iload hx hb dX10_isWhole_139 (lv_at hl 1 rfl) ?_
            refine lv_iload hx hb dX10_isWhole_141 (lv_at hl 0 rfl) ?_
            obtain ⟨v32, h_v32, hm⟩ := lt1_inv hm
            refine cSs ⟨hx, hb, hml, hown, hts⟩ (c_X10_lesser l D cI cJ cS cB a  v20 v22 v32 h_v32) (va_cwS 2 hts gX10_isWhole_X10_lesser rfl rfl rfl hd_X10_lesser ⟨(Nat.le_of_ble_eq_true rfl), (Nat.le_of_ble_eq_true rfl)⟩) hK hP hD hS hA [] rfl rfl rfl hl.1 (Nat.le_of_ble_eq_true rfl) ⟨Nat.zero_le _, Nat.zero_le _⟩ rfl dX10_isWhole_143 (fun H locs hP hD hS => ?_)
            obtain ⟨v33, nv33, ev33, hm⟩ := wr_inv hm
            refine va_iast hx hb hK.1 hP hD hS 4 0 rfl rfl nv33 dX10_isWhole_146 (fun H locs hP hD hS => ?_)
            have hP : va_P D vwCl [o_M a M_pasts M_typed M_ways M_z M_why M_rows M_wide M_column M_found, ai (a 36) cI 244 M_s, ai (a 39) cI 48 M_one, ai (a 40) cI 48 M_other, ai (a 41) cI 144 v33, ai (a 42) cI 14 M_tried] H := by rw [← ev33]; exact hP
            have hD : va_D A [o_M a M_pasts M_typed M_ways M_z M_why M_rows M_wide M_column M_found, ai (a 36) cI 244 M_s, ai (a 39) cI 48 M_one, ai (a 40) cI 48 M_other, ai (a 41) cI 144 v33, ai (a 42) cI 14 M_tried] := by rw [← ev33]; exact hD
            refine lv_iconst (v := 1) hx hb dX10_isWhole_147 (by decide) ?_
            refine lv_istore_n (lv' := [(2, .int 1), (5, .int v22), (4, .int v20), (0, .ref (a 35)), (1, .int y7), (3, .int y15)]) hx hb dX10_isWhole_148 rfl hl (by decide) rfl (fun ls hl => ?_)
            exact h149 1 y15 v33 hm _ _ hP hD hS ls (lv_sub hl [3, 4, 0, 5] rfl)
    intro H locs hP hD hS ls hl
    unfold m_X10_isWhole_b53 at hm
    refine lv_iload_n hx hb dX10_isWhole_53 rfl (lv_at hl 2 rfl) ?_
    refine lv_if_eq (tgt := 158) hx hb dX10_isWhole_54 (by decide) (fun c54 => ?_) (fun c54 => ?_)
    · have hm := ip c54 hm
      exact h158 y7 y9 hm _ _ hP hD hS ls (lv_sub hl [0, 1] rfl)
    · have hm := ine c54 hm
      refine lv_iconst (v := 0) hx hb dX10_isWhole_57 (by decide) ?_
      refine lv_istore_n (lv' := [(2, .int 0), (0, .ref (a 35)), (1, .int y7)]) hx hb dX10_isWhole_58 rfl hl (by decide) rfl (fun ls hl => ?_)
      refine lv_iconst (v := 0) hx hb dX10_isWhole_59 (by decide) ?_
      refine lv_istore_n (lv' := [(3, .int 0), (2, .int 0), (0, .ref (a 35)), (1, .int y7)]) hx hb dX10_isWhole_60 rfl hl (by decide) rfl (fun ls hl => ?_)
      exact h61  N 0 0 y9 hm _ _ hP hD hS ls (lv_sub hl [2, 3, 1, 0] rfl)
  have h51 : ∀ (y5 : Int32) (y6 : Nat → Int32), m_X10_isWhole_j51 N M_ways M_s M_one M_other M_tried y5 y6 = some (r0, M_group') → ∀ (H : Heap) (locs : List Loc), va_P D vwCl [o_M a M_pasts M_typed M_ways M_z M_why M_rows M_wide M_column M_found, ai (a 36) cI 244 M_s, ai (a 39) cI 48 M_one, ai (a 40) cI 48 M_other, ai (a 41) cI 144 y6, ai (a 42) cI 14 M_tried] H → va_D A [o_M a M_pasts M_typed M_ways M_z M_why M_rows M_wide M_column M_found, ai (a 36) cI 244 M_s, ai (a 39) cI 48 M_one, ai (a 40) cI 48 M_other, ai (a 41) cI 144 y6, ai (a 42) cI 14 M_tried] → va_S A s.heap H locs → ∀ ls : Array Slot, lv_has ls 6 [(0, .ref (a 35)), (1, .int y5)] → W p l e { frames := 2, cells := 0, slots := 0, locals := 45 } s m args below meth c H locs 0 0 (MQ below (eQ D (some (.int r0)) (fun _ : Unit => [o_M a M_pasts M_typed M_ways M_z M_why M_rows M_wide M_column M_found, ai (a 36) cI 244 M_s, ai (a 39) cI 48 M_one, ai (a 40) cI 48 M_other, ai (a 41) cI 144 M_group', ai (a 42) cI 14 M_tried]) A) args s 0 0 A) (F0 m 51 ls []) := by
    intro y5 y6 hm H locs hP hD hS ls hl
    unfold m_X10_isWhole_j51 at hm
    refine lv_iconst (v := 1) hx hb dX10_isWhole_51 (by decide) ?_
    refine lv_istore_n (lv' := [(2, .int 1), (0, .ref (a 35)), (1, .int y5)]) hx hb dX10_isWhole_52 rfl hl (by decide) rfl (fun ls hl => ?_)
    exact h53 y5 N 1 y6 hm _ _ hP hD hS ls (lv_sub hl [1, 2, 0] rfl)
  have h4 : ∀ (n : Nat) (y1 : Int32) (y2 : Int32) (y3 : Nat → Int32), zl3 (m_X10_isWhole_b4 N M_ways M_s M_one M_other M_tried) n y1 y2 y3 = some (r0, M_group') → ∀ (H : Heap) (locs : List Loc), va_P D vwCl [o_M a M_pasts M_typed M_ways M_z M_why M_rows M_wide M_column M_found, ai (a 36) cI 244 M_s, ai (a 39) cI 48 M_one, ai (a 40) cI 48 M_other, ai (a 41) cI 144 y3, ai (a 42) cI 14 M_tried] H → va_D A [o_M a M_pasts M_typed M_ways M_z M_why M_rows M_wide M_column M_found, ai (a 36) cI 244 M_s, ai (a 39) cI 48 M_one, ai (a 40) cI 48 M_other, ai (a 41) cI 144 y3, ai (a 42) cI 14 M_tried] → va_S A s.heap H locs → ∀ ls : Array Slot, lv_has ls 6 [(0, .ref (a 35)), (1, .int y1), (2, .int y2)] → W p l e { frames := 2, cells := 0, slots := 0, locals := 45 } s m args below meth c H locs 0 0 (MQ below (eQ D (some (.int r0)) (fun _ : Unit => [o_M a M_pasts M_typed M_ways M_z M_why M_rows M_wide M_column M_found, ai (a 36) cI 244 M_s, ai (a 39) cI 48 M_one, ai (a 40) cI 48 M_other, ai (a 41) cI 144 M_group', ai (a 42) cI 14 M_tried]) A) args s 0 0 A) (F0 m 4 ls []) := by
    refine zl3_ind (fun rec4 ih4 y1 y2 y3 hm => ?_)
    have h37 : ∀ (y36 : Int32) (y37 : Nat → Int32) (y38 : Int32), m_X10_isWhole_j37 rec4 y36 y37 y38 = some (r0, M_group') → ∀ (H : Heap) (locs : List Loc), va_P D vwCl [o_M a M_pasts M_typed M_ways M_z M_why M_rows M_wide M_column M_found, ai (a 36) cI 244 M_s, ai (a 39) cI 48 M_one, ai (a 40) cI 48 M_other, ai (a 41) cI 144 y37, ai (a 42) cI 14 M_tried] H → va_D A [o_M a M_pasts M_typed M_ways M_z M_why M_rows M_wide M_column M_found, ai (a 36) cI 244 M_s, ai (a 39) cI 48 M_one, ai (a 40) cI 48 M_other, ai (a 41) cI 144 y37, ai (a 42) cI 14 M_tried] → va_S A s.heap H locs → ∀ ls : Array Slot, lv_has ls 6 [(0, .ref (a 35)), (2, .int y36)] → W p l e { frames := 2, cells := 0, slots := 0, locals := 45 } s m args below meth c H locs 0 0 (MQ below (eQ D (some (.int r0)) (fun _ : Unit => [o_M a M_pasts M_typed M_ways M_z M_why M_rows M_wide M_column M_found, ai (a 36) cI 244 M_s, ai (a 39) cI 48 M_one, ai (a 40) cI 48 M_other, ai (a 41) cI 144 M_group', ai (a 42) cI 14 M_tried]) A) args s 0 0 A) (F0 m 37 ls [.int y38]) := by
      intro y36 y37 y38 hm H locs hP hD hS ls hl
      unfold m_X10_isWhole_j37 at hm
      refine lv_istore_n (lv' := [(1, .int y38), (0, .ref (a 35)), (2, .int y36)]) hx hb dX10_isWhole_37 rfl hl (by decide) rfl (fun ls hl => ?_)
      refine lv_aload_n hx hb dX10_isWhole_38 rfl (lv_at hl 1 rfl) ?_
      refine va_get (D := D) (ci := 10) (v := .ref (a 41)) (C := RX10) (T := TX10) (N := 17) hx hb hts hiX10 hown hK.1 hP 0 rfl rfl 8 (by decide) (hts (.fieldLink RX10 26 "IslandBridgesModel" "group" "[I") (List.mem_of_getElem? (i := 1) rfl)) (fun _ h9 => h9) rfl dX10_isWhole_39 ?_
      refine lv_iload_n hx hb dX10_isWhole_42 rfl (lv_at hl 2 rfl) ?_
      refine lv_iload_n hx hb dX10_isWhole_43 rfl (lv_at hl 2 rfl) ?_
      obtain ⟨v39, nv39, ev39, hm⟩ := wr_inv hm
      refine va_iast hx hb hK.1 hP hD hS 4 0 rfl rfl nv39 dX10_isWhole_44 (fun H locs hP hD hS => ?_)
      have hP : va_P D vwCl [o_M a M_pasts M_typed M_ways M_z M_why M_rows M_wide M_column M_found, ai (a 36) cI 244 M_s, ai (a 39) cI 48 M_one, ai (a 40) cI 48 M_other, ai (a 41) cI 144 v39, ai (a 42) cI 14 M_tried] H := by rw [← ev39]; exact hP
      have hD : va_D A [o_M a M_pasts M_typed M_ways M_z M_why M_rows M_wide M_column M_found, ai (a 36) cI 244 M_s, ai (a 39) cI 48 M_one, ai (a 40) cI 48 M_other, ai (a 41) cI 144 v39, ai (a 42) cI 14 M_tried] := by rw [← ev39]; exact hD
      obtain ⟨v40, ev40, hm⟩ := lt1_inv hm
      refine lv_iinc (v := v40) (lv' := [(2, .int v40), (1, .int y38), (0, .ref (a 35))]) hx hb dX10_isWhole_45 hl (k := 2) rfl ev40 (by decide) rfl (fun ls hl => ?_)
      refine lv_goto (tgt := 4) hx hb dX10_isWhole_48 (by decide) ?_
      exact ih4 y38 v40 v39 hm _ _ hP hD hS ls (lv_sub hl [2, 1, 0] rfl)
    have h36 : ∀ (y34 : Int32) (y35 : Nat → Int32), m_X10_isWhole_j36 rec4 y34 y35 = some (r0, M_group') → ∀ (H : Heap) (locs : List Loc), va_P D vwCl [o_M a M_pasts M_typed M_ways M_z M_why M_rows M_wide M_column M_found, ai (a 36) cI 244 M_s, ai (a 39) cI 48 M_one, ai (a 40) cI 48 M_other, ai (a 41) cI 144 y35, ai (a 42) cI 14 M_tried] H → va_D A [o_M a M_pasts M_typed M_ways M_z M_why M_rows M_wide M_column M_found, ai (a 36) cI 244 M_s, ai (a 39) cI 48 M_one, ai (a 40) cI 48 M_other, ai (a 41) cI 144 y35, ai (a 42) cI 14 M_tried] → va_S A s.heap H locs → ∀ ls : Array Slot, lv_has ls 6 [(0, .ref (a 35)), (2, .int y34)] → W p l e { frames := 2, cells := 0, slots := 0, locals := 45 } s m args below meth c H locs 0 0 (MQ below (eQ D (some (.int r0)) (fun _ : Unit => [o_M a M_pasts M_typed M_ways M_z M_why M_rows M_wide M_column M_found, ai (a 36) cI 244 M_s, ai (a 39) cI 48 M_one, ai (a 40) cI 48 M_other, ai (a 41) cI 144 M_group', ai (a 42) cI 14 M_tried]) A) args s 0 0 A) (F0 m 36 ls []) := by
      intro y34 y35 hm H locs hP hD hS ls hl
      unfold m_X10_isWhole_j36 at hm
      refine lv_iconst (v := 0) hx hb dX10_isWhole_36 (by decide) ?_
      exact h37 y34 y35 0 hm _ _ hP hD hS ls (lv_sub hl [0, 1] rfl)
    have h32 : ∀ (y42 : Int32) (y43 : Nat → Int32), m_X10_isWhole_j32 rec4 y42 y43 = some (r0, M_group') → ∀ (H : Heap) (locs : List Loc), va_P D vwCl [o_M a M_pasts M_typed M_ways M_z M_why M_rows M_wide M_column M_found, ai (a 36) cI 244 M_s, ai (a 39) cI 48 M_one, ai (a 40) cI 48 M_other, ai (a 41) cI 144 y43, ai (a 42) cI 14 M_tried] H → va_D A [o_M a M_pasts M_typed M_ways M_z M_why M_rows M_wide M_column M_found, ai (a 36) cI 244 M_s, ai (a 39) cI 48 M_one, ai (a 40) cI 48 M_other, ai (a 41) cI 144 y43, ai (a 42) cI 14 M_tried] → va_S A s.heap H locs → ∀ ls : Array Slot, lv_has ls 6 [(0, .ref (a 35)), (2, .int y42)] → W p l e { frames := 2, cells := 0, slots := 0, locals := 45 } s m args below meth c H locs 0 0 (MQ below (eQ D (some (.int r0)) (fun _ : Unit => [o_M a M_pasts M_typed M_ways M_z M_why M_rows M_wide M_column M_found, ai (a 36) cI 244 M_s, ai (a 39) cI 48 M_one, ai (a 40) cI 48 M_other, ai (a 41) cI 144 M_group', ai (a 42) cI 14 M_tried]) A) args s 0 0 A) (F0 m 32 ls []) := by
      intro y42 y43 hm H locs hP hD hS ls hl
      unfold m_X10_isWhole_j32 at hm
      refine lv_iconst (v := 1) hx hb dX10_isWhole_32 (by decide) ?_
      refine lv_goto (tgt := 37) hx hb dX10_isWhole_33 (by decide) ?_
      exact h37 y42 y43 1 hm _ _ hP hD hS ls (lv_sub hl [0, 1] rfl)
    intro H locs hP hD hS ls hl
    unfold m_X10_isWhole_b4 at hm
    refine lv_iload_n hx hb dX10_isWhole_4 rfl (lv_at hl 2 rfl) ?_
    refine lv_aload_n hx hb dX10_isWhole_5 rfl (lv_at hl 0 rfl) ?_
    obtain ⟨v4, h_v4, hm⟩ := bd1_inv hm
    refine cVs ⟨hx, hb, hml, hown, hts⟩ (c_X10_cells l D cI cJ cS cB a M_pasts M_typed M_ways M_z M_why M_rows M_wide M_column M_found M_s v4 h_v4) (cwV 0 hts gX10_isWhole_X10_cells rfl rfl rfl hd_X10_cells ⟨(Nat.le_of_ble_eq_true rfl), (Nat.le_of_ble_eq_true rfl)⟩) hK hP hD hS hA [0, 1] rfl rfl rfl hl.1 (Nat.le_of_ble_eq_true rfl) ⟨Nat.zero_le _, Nat.zero_le _⟩ 0 rfl rfl rfl rfl dX10_isWhole_6 (fun H locs hP hD hS => ?_)
    refine lv_icmp_ge (tgt := 51) hx hb dX10_isWhole_9 (by decide) (fun c9 => ?_) (fun c9 => ?_)
    · have hm := ip c9 hm
      exact h51 y1 y3 hm _ _ hP hD hS ls (lv_sub hl [0, 1] rfl)
    · have hm := ine c9 hm
      refine lv_iload_n hx hb dX10_isWhole_12 rfl (lv_at hl 1 rfl) ?_
      refine lv_if_eq (tgt := 36) hx hb dX10_isWhole_13 (by decide) (fun c13 => ?_) (fun c13 => ?_)
      · have hm := ip c13 hm
        exact h36 y2 y3 hm _ _ hP hD hS ls (lv_sub hl [0, 2] rfl)
      · have hm := ine c13 hm
        refine lv_aload_n hx hb dX10_isWhole_16 rfl (lv_at hl 0 rfl) ?_
        refine lv_iload_n hx hb dX10_isWhole_17 rfl (lv_at hl 2 rfl) ?_
        obtain ⟨v41, h_v41, hm⟩ := bd1_inv hm
        refine cVs ⟨hx, hb, hml, hown, hts⟩ (c_X10_number l D cI cJ cS cB a M_pasts M_typed M_ways M_z M_why M_rows M_wide M_column M_found M_s y2 v41 h_v41) (cwV 1 hts gX10_isWhole_X10_number rfl rfl rfl hd_X10_number ⟨(Nat.le_of_ble_eq_true rfl), (Nat.le_of_ble_eq_true rfl)⟩) hK hP hD hS hA [0, 1] rfl rfl rfl hl.1 (Nat.le_of_ble_eq_true rfl) ⟨Nat.zero_le _, Nat.zero_le _⟩ 0 rfl rfl rfl rfl dX10_isWhole_18 (fun H locs hP hD hS => ?_)
        refine lv_if_eq (tgt := 32) hx hb dX10_isWhole_21 (by decide) (fun c21 => ?_) (fun c21 => ?_)
        · have hm := ip c21 hm
          exact h32 y2 y3 hm _ _ hP hD hS ls (lv_sub hl [0, 2] rfl)
        · have hm := ine c21 hm
          refine lv_aload_n hx hb dX10_isWhole_24 rfl (lv_at hl 0 rfl) ?_
          refine lv_iload_n hx hb dX10_isWhole_25 rfl (lv_at hl 2 rfl) ?_
          obtain ⟨v44, h_v44, hm⟩ := bd1_inv hm
          refine cVs ⟨hx, hb, hml, hown, hts⟩ (c_X10_waysOf l D cI cJ cS cB a M_pasts M_typed M_ways M_z M_why M_rows M_wide M_column M_found M_one M_other y2 N v44 h_v44) (cwV 1 hts gX10_isWhole_X10_waysOf rfl rfl rfl hd_X10_waysOf ⟨(Nat.le_of_ble_eq_true rfl), (Nat.le_of_ble_eq_true rfl)⟩) hK hP hD hS hA [0, 2, 3] rfl rfl rfl hl.1 (Nat.le_of_ble_eq_true rfl) ⟨Nat.zero_le _, Nat.zero_le _⟩ 0 rfl rfl rfl rfl dX10_isWhole_26 (fun H locs hP hD hS => ?_)
          refine lv_if_le (tgt := 36) hx hb dX10_isWhole_29 (by decide) (fun c29 => ?_) (fun c29 => ?_)
          · have hm := ip c29 hm
            exact h36 y2 y3 hm _ _ hP hD hS ls (lv_sub hl [0, 2] rfl)
          · have hm := ine c29 hm
            exact h32 y2 y3 hm _ _ hP hD hS ls (lv_sub hl [0, 2] rfl)
  refine lv_iconst (v := 1) hx hb dX10_isWhole_0 (by decide) ?_
  refine lv_istore_n (lv' := [(1, .int 1), (0, .ref (a 35))]) hx hb dX10_isWhole_1 rfl hl (by decide) rfl (fun ls hl => ?_)
  refine lv_iconst (v := 0) hx hb dX10_isWhole_2 (by decide) ?_
  refine lv_istore_n (lv' := [(2, .int 0), (1, .int 1), (0, .ref (a 35))]) hx hb dX10_isWhole_3 rfl hl (by decide) rfl (fun ls hl => ?_)
  exact h4  N 1 0 M_group hm _ _ hP hD hS ls (lv_sub hl [2, 1, 0] rfl)
theorem hd_X10_solves : yX10_solves.cls = RX10 ∧ yX10_solves.cls ≠ "java/lang/invoke/MethodHandle" ∧ yX10_solves.cls ≠ "java/lang/invoke/VarHandle" ∧ (parseMethodDescriptor yX10_solves.desc).map (fun d => d.parameters.length) = some 3 := by decide +kernel
def m_X10_solves_j132 (y6 : Int32) (y7 : Nat → Int32) (y8 : Nat → Int32) : Option (Int32 × (Nat → Int32) × (Nat → Int32)) :=
  some ((y6, y7, y8))
def m_X10_solves_j112 (rec22 : Int32 → Int32 → (Nat → Int32) → (Nat → Int32) → Option (Int32 × (Nat → Int32) × (Nat → Int32))) (y21 : Int32) (y22 : Nat → Int32) (y23 : Nat → Int32) (y24 : Int32) (y25 : Int32) : Option (Int32 × (Nat → Int32) × (Nat → Int32)) :=
  lt1 (y24 + y25) (fun v26 => rec22 v26 y21 y22 y23)
def m_X10_solves_j78 (N : Nat) (M_ways : Int32) (M_s : Nat → Int32) (M_one : Nat → Int32) (M_other : Nat → Int32) (rec22 : Int32 → Int32 → (Nat → Int32) → (Nat → Int32) → Option (Int32 × (Nat → Int32) × (Nat → Int32))) (y12 : Int32) (y13 : Int32) (y14 : Nat → Int32) (y15 : Nat → Int32) : Option (Int32 × (Nat → Int32) × (Nat → Int32)) :=
  bd1 (m_X10_could N M_ways M_s M_one M_other y15 y13) (fun v16 => if v16 = 0 then (rec22 y12 y13 y14 y15) else (if y13 = (M_ways - 1) then (bd2 (m_X10_isWhole N M_ways M_s M_one M_other y14 y15) (fun v19 v20 => if v19 = 0 then (m_X10_solves_j112 rec22 y13 v20 y15 y12 0) else (m_X10_solves_j112 rec22 y13 v20 y15 y12 1))) else (lt1 (y13 + 1) (fun v17 => wr 14 y15 v17 ((-1)) (fun v18 => rec22 y12 v17 y14 v18)))))
def m_X10_solves_b22 (N : Nat) (M_ways : Int32) (M_s : Nat → Int32) (M_one : Nat → Int32) (M_other : Nat → Int32) (x1 : Int32) (x2 : Int32) (x3 : Int32) (rec22 : Int32 → Int32 → (Nat → Int32) → (Nat → Int32) → Option (Int32 × (Nat → Int32) × (Nat → Int32))) (y2 : Int32) (y3 : Int32) (y4 : Nat → Int32) (y5 : Nat → Int32) : Option (Int32 × (Nat → Int32) × (Nat → Int32)) :=
  if y3 < 0 then (m_X10_solves_j132 y2 y4 y5) else (if x1 ≤ y2 then (m_X10_solves_j132 y2 y4 y5) else (rd 14 y5 y3 (fun v9 => wr 14 y5 y3 (v9 + 1) (fun v10 => rd 14 v10 y3 (fun v11 => if v11 ≤ 2 then (if y3 = x2 then (rd 14 v10 y3 (fun v27 => if v27 = x3 then (m_X10_solves_j78 N M_ways M_s M_one M_other rec22 y2 y3 y4 v10) else (rec22 y2 y3 y4 v10))) else (m_X10_solves_j78 N M_ways M_s M_one M_other rec22 y2 y3 y4 v10)) else (lt1 (y3 + (-1)) (fun v28 => rec22 y2 v28 y4 v10)))))))
def m_X10_solves (N : Nat) (M_ways : Int32) (M_s : Nat → Int32) (M_one : Nat → Int32) (M_other : Nat → Int32) (M_group : Nat → Int32) (M_tried : Nat → Int32) (x1 : Int32) (x2 : Int32) (x3 : Int32) : Option (Int32 × (Nat → Int32) × (Nat → Int32)) :=
  wr 14 M_tried 0 ((-1)) (fun v1 => if M_ways = 0 then (some ((0, M_group, v1))) else (zl4 (m_X10_solves_b22 N M_ways M_s M_one M_other x1 x2 x3) N 0 0 M_group v1))
set_option maxHeartbeats 4000000 in
set_option maxRecDepth 100000 in
theorem c_X10_solves (l : Launch) (D : va_G) (cI cJ cS cB : ClassId) (a : Nat → Nat) (M_pasts : Int32) (M_typed : Int32) (M_ways : Int32) (M_z : Int32) (M_why : Int32) (M_rows : Int32) (M_wide : Int32) (M_column : Int32) (M_found : Int32) (M_s : Nat → Int32) (M_one : Nat → Int32) (M_other : Nat → Int32) (M_group : Nat → Int32) (M_tried : Nat → Int32) (x1 : Int32) (x2 : Int32) (x3 : Int32) (N : Nat) (r0 : Int32) (M_group' : Nat → Int32) (M_tried' : Nat → Int32) (hm : m_X10_solves N M_ways M_s M_one M_other M_group M_tried x1 x2 x3 = some (r0, M_group', M_tried')) :
    mU l D (TYs cI cJ cS cB) yX10_solves wsX10_solves { frames := 4, cells := 0, slots := 0, locals := 92 } [.ref (a 35), .int x1, .int x2, .int x3] [o_M a M_pasts M_typed M_ways M_z M_why M_rows M_wide M_column M_found, ai (a 36) cI 244 M_s, ai (a 39) cI 48 M_one, ai (a 40) cI 48 M_other, ai (a 41) cI 144 M_group, ai (a 42) cI 14 M_tried] [o_M a M_pasts M_typed M_ways M_z M_why M_rows M_wide M_column M_found, ai (a 36) cI 244 M_s, ai (a 39) cI 48 M_one, ai (a 40) cI 48 M_other, ai (a 41) cI 144 M_group', ai (a 42) cI 14 M_tried'] (some (.int r0)) := by
  refine mG_of (cc := cX10_solves) (maxL := 6) (ret := (some .int)) (by decide) rfl rfl (Nat.le_of_ble_eq_true rfl) ?_
  intro p e s m args below meth c A hx hb hr hml hlk hnm hts hown hK hP hD hA hS ls hl
  have hl : lv_has ls 6 [(0, .ref (a 35)), (1, .int x1), (2, .int x2), (3, .int x3)] := hl
  have hiX10 : ∀ w ∈ wsX100, w ∈ wsX10_solves := fun w h => List.mem_cons_of_mem _ (List.mem_append_right _ h)
  unfold m_X10_solves at hm
  have h132 : ∀ (y6 : Int32) (y7 : Nat → Int32) (y8 : Nat → Int32), m_X10_solves_j132 y6 y7 y8 = some (r0, M_group', M_tried') → ∀ (H : Heap) (locs : List Loc), va_P D vwCl [o_M a M_pasts M_typed M_ways M_z M_why M_rows M_wide M_column M_found, ai (a 36) cI 244 M_s, ai (a 39) cI 48 M_one, ai (a 40) cI 48 M_other, ai (a 41) cI 144 y7, ai (a 42) cI 14 y8] H → va_D A [o_M a M_pasts M_typed M_ways M_z M_why M_rows M_wide M_column M_found, ai (a 36) cI 244 M_s, ai (a 39) cI 48 M_one, ai (a 40) cI 48 M_other, ai (a 41) cI 144 y7, ai (a 42) cI 14 y8] → va_S A s.heap H locs → ∀ ls : Array Slot, lv_has ls 6 [(4, .int y6)] → W p l e { frames := 4, cells := 0, slots := 0, locals := 92 } s m args below meth c H locs 0 0 (MQ below (eQ D (some (.int r0)) (fun _ : Unit => [o_M a M_pasts M_typed M_ways M_z M_why M_rows M_wide M_column M_found, ai (a 36) cI 244 M_s, ai (a 39) cI 48 M_one, ai (a 40) cI 48 M_other, ai (a 41) cI 144 M_group', ai (a 42) cI 14 M_tried']) A) args s 0 0 A) (F0 m 132 ls []) := by
    intro y6 y7 y8 hm H locs hP hD hS ls hl
    unfold m_X10_solves_j132 at hm
    refine lv_iload hx hb dX10_solves_132 (lv_at hl 0 rfl) ?_
    cases hm
    exact rI () hx hb hr hlk hP hD hS dX10_solves_134
  have h22 : ∀ (n : Nat) (y2 : Int32) (y3 : Int32) (y4 : Nat → Int32) (y5 : Nat → Int32), zl4 (m_X10_solves_b22 N M_ways M_s M_one M_other x1 x2 x3) n y2 y3 y4 y5 = some (r0, M_group', M_tried') → ∀ (H : Heap) (locs : List Loc), va_P D vwCl [o_M a M_pasts M_typed M_ways M_z M_why M_rows M_wide M_column M_found, ai (a 36) cI 244 M_s, ai (a 39) cI 48 M_one, ai (a 40) cI 48 M_other, ai (a 41) cI 144 y4, ai (a 42) cI 14 y5] H → va_D A [o_M a M_pasts M_typed M_ways M_z M_why M_rows M_wide M_column M_found, ai (a 36) cI 244 M_s, ai (a 39) cI 48 M_one, ai (a 40) cI 48 M_other, ai (a 41) cI 144 y4, ai (a 42) cI 14 y5] → va_S A s.heap H locs → ∀ ls : Array Slot, lv_has ls 6 [(0, .ref (a 35)), (1, .int x1), (2, .int x2), (3, .int x3), (4, .int y2), (5, .int y3)] → W p l e { frames := 4, cells := 0, slots := 0, locals := 92 } s m args below meth c H locs 0 0 (MQ below (eQ D (some (.int r0)) (fun _ : Unit => [o_M a M_pasts M_typed M_ways M_z M_why M_rows M_wide M_column M_found, ai (a 36) cI 244 M_s, ai (a 39) cI 48 M_one, ai (a 40) cI 48 M_other, ai (a 41) cI 144 M_group', ai (a 42) cI 14 M_tried']) A) args s 0 0 A) (F0 m 22 ls []) := by
    refine zl4_ind (fun rec22 ih22 y2 y3 y4 y5 hm => ?_)
    have h112 : ∀ (y21 : Int32) (y22 : Nat → Int32) (y23 : Nat → Int32) (y24 : Int32) (y25 : Int32), m_X10_solves_j112 rec22 y21 y22 y23 y24 y25 = some (r0, M_group', M_tried') → ∀ (H : Heap) (locs : List Loc), va_P D vwCl [o_M a M_pasts M_typed M_ways M_z M_why M_rows M_wide M_column M_found, ai (a 36) cI 244 M_s, ai (a 39) cI 48 M_one, ai (a 40) cI 48 M_other, ai (a 41) cI 144 y22, ai (a 42) cI 14 y23] H → va_D A [o_M a M_pasts M_typed M_ways M_z M_why M_rows M_wide M_column M_found, ai (a 36) cI 244 M_s, ai (a 39) cI 48 M_one, ai (a 40) cI 48 M_other, ai (a 41) cI 144 y22, ai (a 42) cI 14 y23] → va_S A s.heap H locs → ∀ ls : Array Slot, lv_has ls 6 [(0, .ref (a 35)), (1, .int x1), (2, .int x2), (3, .int x3), (5, .int y21)] → W p l e { frames := 4, cells := 0, slots := 0, locals := 92 } s m args below meth c H locs 0 0 (MQ below (eQ D (some (.int r0)) (fun _ : Unit => [o_M a M_pasts M_typed M_ways M_z M_why M_rows M_wide M_column M_found, ai (a 36) cI 244 M_s, ai (a 39) cI 48 M_one, ai (a 40) cI 48 M_other, ai (a 41) cI 144 M_group', ai (a 42) cI 14 M_tried']) A) args s 0 0 A) (F0 m 112 ls [.int y25, .int y24]) := by
      intro y21 y22 y23 y24 y25 hm H locs hP hD hS ls hl
      unfold m_X10_solves_j112 at hm
      refine lv_iadd hx hb dX10_solves_112 ?_
      obtain ⟨v26, ev26, hm⟩ := lt1_inv hm
      refine ltop ev26 ?_
      refine lv_istore (lv' := [(4, .int v26), (0, .ref (a 35)), (1, .int x1), (2, .int x2), (3, .int x3), (5, .int y21)]) hx hb dX10_solves_113 hl (by decide) rfl (fun ls hl => ?_)
      refine lv_goto (tgt := 22) hx hb dX10_solves_115 (by decide) ?_
      exact ih22 v26 y21 y22 y23 hm _ _ hP hD hS ls (lv_sub hl [1, 2, 3, 4, 0, 5] rfl)
    have h78 : ∀ (y12 : Int32) (y13 : Int32) (y14 : Nat → Int32) (y15 : Nat → Int32), m_X10_solves_j78 N M_ways M_s M_one M_other rec22 y12 y13 y14 y15 = some (r0, M_group', M_tried') → ∀ (H : Heap) (locs : List Loc), va_P D vwCl [o_M a M_pasts M_typed M_ways M_z M_why M_rows M_wide M_column M_found, ai (a 36) cI 244 M_s, ai (a 39) cI 48 M_one, ai (a 40) cI 48 M_other, ai (a 41) cI 144 y14, ai (a 42) cI 14 y15] H → va_D A [o_M a M_pasts M_typed M_ways M_z M_why M_rows M_wide M_column M_found, ai (a 36) cI 244 M_s, ai (a 39) cI 48 M_one, ai (a 40) cI 48 M_other, ai (a 41) cI 144 y14, ai (a 42) cI 14 y15] → va_S A s.heap H locs → ∀ ls : Array Slot, lv_has ls 6 [(0, .ref (a 35)), (1, .int x1), (2, .int x2), (3, .int x3), (4, .int y12), (5, .int y13)] → W p l e { frames := 4, cells := 0, slots := 0, locals := 92 } s m args below meth c H locs 0 0 (MQ below (eQ D (some (.int r0)) (fun _ : Unit => [o_M a M_pasts M_typed M_ways M_z M_why M_rows M_wide M_column M_found, ai (a 36) cI 244 M_s, ai (a 39) cI 48 M_one, ai (a 40) cI 48 M_other, ai (a 41) cI 144 M_group', ai (a 42) cI 14 M_tried']) A) args s 0 0 A) (F0 m 78 ls []) := by
      intro y12 y13 y14 y15 hm H locs hP hD hS ls hl
      unfold m_X10_solves_j78 at hm
      refine lv_aload_n hx hb dX10_solves_78 rfl (lv_at hl 0 rfl) ?_
      refine lv_iload hx hb dX10_solves_79 (lv_at hl 5 rfl) ?_
      obtain ⟨v16, h_v16, hm⟩ := bd1_inv hm
      refine cVs ⟨hx, hb, hml, hown, hts⟩ (c_X10_could l D cI cJ cS cB a M_pasts M_typed M_ways M_z M_why M_rows M_wide M_column M_found M_s M_one M_other y15 y13 N v16 h_v16) (cwV 1 hts gX10_solves_X10_could rfl rfl rfl hd_X10_could ⟨(Nat.le_of_ble_eq_true rfl), (Nat.le_of_ble_eq_true rfl)⟩) hK hP hD hS hA [0, 1, 2, 3, 5] rfl rfl rfl hl.1 (Nat.le_of_ble_eq_true rfl) ⟨Nat.zero_le _, Nat.zero_le _⟩ 0 rfl rfl rfl rfl dX10_solves_81 (fun H locs hP hD hS => ?_)
      refine lv_if_eq (tgt := 22) hx hb dX10_solves_84 (by decide) (fun c84 => ?_) (fun c84 => ?_)
      · have hm := ip c84 hm
        exact ih22 y12 y13 y14 y15 hm _ _ hP hD hS ls (lv_sub hl [0, 1, 2, 3, 4, 5] rfl)
      · have hm := ine c84 hm
        refine lv_iload hx hb dX10_solves_87 (lv_at hl 5 rfl) ?_
        refine lv_aload_n hx hb dX10_solves_89 rfl (lv_at hl 0 rfl) ?_
        refine va_get (D := D) (ci := 10) (v := .int M_ways) (C := RX10) (T := TX10) (N := 17) hx hb hts hiX10 hown hK.1 hP 0 rfl rfl 5 (by decide) (hts (.fieldLink RX10 54 "IslandBridgesModel" "ways" "I") (List.mem_of_getElem? (i := 2) rfl)) (fun _ h9 => h9) rfl dX10_solves_90 ?_
        refine lv_iconst (v := 1) hx hb dX10_solves_93 (by decide) ?_
        refine lv_isub hx hb dX10_solves_94 ?_
        refine lv_icmp_ne (tgt := 118) hx hb dX10_solves_95 (by decide) (fun c95 => ?_) (fun c95 => ?_)
        · have hm := ine c95 hm
          obtain ⟨v17, ev17, hm⟩ := lt1_inv hm
          refine lv_iinc (v := v17) (lv' := [(5, .int v17), (0, .ref (a 35)), (1, .int x1), (2, .int x2), (3, .int x3), (4, .int y12)]) hx hb dX10_solves_118 hl (k := 5) rfl ev17 (by decide) rfl (fun ls hl => ?_)
          refine lv_aload_n hx hb dX10_solves_121 rfl (lv_at hl 1 rfl) ?_
          refine va_get (D := D) (ci := 10) (v := .ref (a 42)) (C := RX10) (T := TX10) (N := 17) hx hb hts hiX10 hown hK.1 hP 0 rfl rfl 9 (by decide) (hts (.fieldLink RX10 29 "IslandBridgesModel" "tried" "[I") (List.mem_of_getElem? (i := 1) rfl)) (fun _ h9 => h9) rfl dX10_solves_122 ?_
          refine lv_iload hx hb dX10_solves_125 (lv_at hl 0 rfl) ?_
          refine lv_iconst (v := (-1)) hx hb dX10_solves_127 (by decide) ?_
          obtain ⟨v18, nv18, ev18, hm⟩ := wr_inv hm
          refine va_iast hx hb hK.1 hP hD hS 5 0 rfl rfl nv18 dX10_solves_128 (fun H locs hP hD hS => ?_)
          have hP : va_P D vwCl [o_M a M_pasts M_typed M_ways M_z M_why M_rows M_wide M_column M_found, ai (a 36) cI 244 M_s, ai (a 39) cI 48 M_one, ai (a 40) cI 48 M_other, ai (a 41) cI 144 y14, ai (a 42) cI 14 v18] H := by rw [← ev18]; exact hP
          have hD : va_D A [o_M a M_pasts M_typed M_ways M_z M_why M_rows M_wide M_column M_found, ai (a 36) cI 244 M_s, ai (a 39) cI 48 M_one, ai (a 40) cI 48 M_other, ai (a 41) cI 144 y14, ai (a 42) cI 14 v18] := by rw [← ev18]; exact hD
          refine lv_goto (tgt := 22) hx hb dX10_solves_129 (by decide) ?_
          exact ih22 y12 v17 y14 v18 hm _ _ hP hD hS ls (lv_sub hl [1, 2, 3, 4, 5, 0] rfl)
        · have hm := ip c95 hm
          refine lv_iload hx hb dX10_solves_98 (lv_at hl 4 rfl) ?_
          refine lv_aload_n hx hb dX10_solves_100 rfl (lv_at hl 0 rfl) ?_
          obtain ⟨v19, v20, h_v19, hm⟩ := bd2_inv hm
          refine cVx ⟨hx, hb, hml, hown, hts⟩ (c_X10_isWhole l D cI cJ cS cB a M_pasts M_typed M_ways M_z M_why M_rows M_wide M_column M_found M_s M_one M_other y14 y15 N v19 v20 h_v19) (cwV 0 hts gX10_solves_X10_isWhole rfl rfl rfl hd_X10_isWhole ⟨(Nat.le_of_ble_eq_true rfl), (Nat.le_of_ble_eq_true rfl)⟩) hK hP hD hS hA [0, 1, 2, 3, 4, 5] rfl rfl [o_M a M_pasts M_typed M_ways M_z M_why M_rows M_wide M_column M_found, ai (a 36) cI 244 M_s, ai (a 39) cI 48 M_one, ai (a 40) cI 48 M_other, ai (a 41) cI 144 v20, ai (a 42) cI 14 y15] [(true, 0), (true, 1), (true, 2), (true, 3), (true, 4), (true, 5)] rfl rfl rfl hl.1 (Nat.le_of_ble_eq_true rfl) ⟨Nat.zero_le _, Nat.zero_le _⟩ 0 rfl rfl rfl rfl dX10_solves_101 (fun H locs hP hD hS => ?_)
          refine lv_if_eq (tgt := 111) hx hb dX10_solves_104 (by decide) (fun c104 => ?_) (fun c104 => ?_)
          · have hm := ip c104 hm
            refine lv_iconst (v := 0) hx hb dX10_solves_111 (by decide) ?_
            exact h112 y13 v20 y15 y12 0 hm _ _ hP hD hS ls (lv_sub hl [0, 1, 2, 3, 5] rfl)
          · have hm := ine c104 hm
            refine lv_iconst (v := 1) hx hb dX10_solves_107 (by decide) ?_
            refine lv_goto (tgt := 112) hx hb dX10_solves_108 (by decide) ?_
            exact h112 y13 v20 y15 y12 1 hm _ _ hP hD hS ls (lv_sub hl [0, 1, 2, 3, 5] rfl)
    intro H locs hP hD hS ls hl
    unfold m_X10_solves_b22 at hm
    refine lv_iload hx hb dX10_solves_22 (lv_at hl 5 rfl) ?_
    refine lv_if_lt (tgt := 132) hx hb dX10_solves_24 (by decide) (fun c24 => ?_) (fun c24 => ?_)
    · have hm := ip c24 hm
      exact h132 y2 y4 y5 hm _ _ hP hD hS ls (lv_sub hl [4] rfl)
    · have hm := ine c24 hm
      refine lv_iload hx hb dX10_solves_27 (lv_at hl 4 rfl) ?_
      refine lv_iload_n hx hb dX10_solves_29 rfl (lv_at hl 1 rfl) ?_
      refine lv_icmp_ge (tgt := 132) hx hb dX10_solves_30 (by decide) (fun c30 => ?_) (fun c30 => ?_)
      · have hm := ip c30 hm
        exact h132 y2 y4 y5 hm _ _ hP hD hS ls (lv_sub hl [4] rfl)
      · have hm := ine c30 hm
        refine lv_aload_n hx hb dX10_solves_33 rfl (lv_at hl 0 rfl) ?_
        refine va_get (D := D) (ci := 10) (v := .ref (a 42)) (C := RX10) (T := TX10) (N := 17) hx hb hts hiX10 hown hK.1 hP 0 rfl rfl 9 (by decide) (hts (.fieldLink RX10 29 "IslandBridgesModel" "tried" "[I") (List.mem_of_getElem? (i := 1) rfl)) (fun _ h9 => h9) rfl dX10_solves_34 ?_
        refine lv_iload hx hb dX10_solves_37 (lv_at hl 5 rfl) ?_
        refine lv_dup2_11 hx hb dX10_solves_39 rfl rfl ?_
        obtain ⟨v9, nv9, ev9, hm⟩ := rd_inv hm
        refine va_iald hx hb hK.1 hP 5 0 rfl rfl nv9 dX10_solves_40 ?_
        refine ltop ev9 ?_
        refine lv_iconst (v := 1) hx hb dX10_solves_41 (by decide) ?_
        refine lv_iadd hx hb dX10_solves_42 ?_
        obtain ⟨v10, nv10, ev10, hm⟩ := wr_inv hm
        refine va_iast hx hb hK.1 hP hD hS 5 0 rfl rfl nv10 dX10_solves_43 (fun H locs hP hD hS => ?_)
        have hP : va_P D vwCl [o_M a M_pasts M_typed M_ways M_z M_why M_rows M_wide M_column M_found, ai (a 36) cI 244 M_s, ai (a 39) cI 48 M_one, ai (a 40) cI 48 M_other, ai (a 41) cI 144 y4, ai (a 42) cI 14 v10] H := by rw [← ev10]; exact hP
        have hD : va_D A [o_M a M_pasts M_typed M_ways M_z M_why M_rows M_wide M_column M_found, ai (a 36) cI 244 M_s, ai (a 39) cI 48 M_one, ai (a 40) cI 48 M_other, ai (a 41) cI 144 y4, ai (a 42) cI 14 v10] := by rw [← ev10]; exact hD
        refine lv_aload_n hx hb dX10_solves_44 rfl (lv_at hl 0 rfl) ?_
        refine va_get (D := D) (ci := 10) (v := .ref (a 42)) (C := RX10) (T := TX10) (N := 17) hx hb hts hiX10 hown hK.1 hP 0 rfl rfl 9 (by decide) (hts (.fieldLink RX10 29 "IslandBridgesModel" "tried" "[I") (List.mem_of_getElem? (i := 1) rfl)) (fun _ h9 => h9) rfl dX10_solves_45 ?_
        refine lv_iload hx hb dX10_solves_48 (lv_at hl 5 rfl) ?_
        obtain ⟨v11, nv11, ev11, hm⟩ := rd_inv hm
        refine va_iald hx hb hK.1 hP 5 0 rfl rfl nv11 dX10_solves_50 ?_
        refine ltop ev11 ?_
        refine lv_iconst (v := 2) hx hb dX10_solves_51 (by decide) ?_
        refine lv_icmp_le (tgt := 61) hx hb dX10_solves_52 (by decide) (fun c52 => ?_) (fun c52 => ?_)
        · have hm := ip c52 hm
          refine lv_iload hx hb dX10_solves_61 (lv_at hl 5 rfl) ?_
          refine lv_iload_n hx hb dX10_solves_63 rfl (lv_at hl 2 rfl) ?_
          refine lv_icmp_ne (tgt := 78) hx hb dX10_solves_64 (by decide) (fun c64 => ?_) (fun c64 => ?_)
          · have hm := ine c64 hm
            exact h78 y2 y3 y4 v10 hm _ _ hP hD hS ls (lv_sub hl [0, 1, 2, 3, 4, 5] rfl)
          · have hm := ip c64 hm
            refine lv_aload_n hx hb dX10_solves_67 rfl (lv_at hl 0 rfl) ?_
            refine va_get (D := D) (ci := 10) (v := .ref (a 42)) (C := RX10) (T := TX10) (N := 17) hx hb hts hiX10 hown hK.1 hP 0 rfl rfl 9 (by decide) (hts (.fieldLink RX10 29 "IslandBridgesModel" "tried" "[I") (List.mem_of_getElem? (i := 1) rfl)) (fun _ h9 => h9) rfl dX10_solves_68 ?_
            refine lv_iload hx hb dX10_solves_71 (lv_at hl 5 rfl) ?_
            obtain ⟨v27, nv27, ev27, hm⟩ := rd_inv hm
            refine va_iald hx hb hK.1 hP 5 0 rfl rfl nv27 dX10_solves_73 ?_
            refine ltop ev27 ?_
            refine lv_iload_n hx hb dX10_solves_74 rfl (lv_at hl 3 rfl) ?_
            refine lv_icmp_ne (tgt := 22) hx hb dX10_solves_75 (by decide) (fun c75 => ?_) (fun c75 => ?_)
            · have hm := ine c75 hm
              exact ih22 y2 y3 y4 v10 hm _ _ hP hD hS ls (lv_sub hl [0, 1, 2, 3, 4, 5] rfl)
            · have hm := ip c75 hm
              exact h78 y2 y3 y4 v10 hm _ _ hP hD hS ls (lv_sub hl [0, 1, 2, 3, 4, 5] rfl)
        · have hm := ine c52 hm
          obtain ⟨v28, ev28, hm⟩ := lt1_inv hm
          refine lv_iinc (v := v28) (lv' := [(5, .int v28), (0, .ref (a 35)), (1, .int x1), (2, .int x2), (3, .int x3), (4, .int y2)]) hx hb dX10_solves_55 hl (k := 5) rfl ev28 (by decide) rfl (fun ls hl => ?_)
          refine lv_goto (tgt := 22) hx hb dX10_solves_58 (by decide) ?_
          exact ih22 y2 v28 y4 v10 hm _ _ hP hD hS ls (lv_sub hl [1, 2, 3, 4, 5, 0] rfl)
  refine lv_iconst (v := 0) hx hb dX10_solves_0 (by decide) ?_
  refine lv_istore (lv' := [(4, .int 0), (0, .ref (a 35)), (1, .int x1), (2, .int x2), (3, .int x3)]) hx hb dX10_solves_1 hl (by decide) rfl (fun ls hl => ?_)
  refine lv_iconst (v := 0) hx hb dX10_solves_3 (by decide) ?_
  refine lv_istore (lv' := [(5, .int 0), (4, .int 0), (0, .ref (a 35)), (1, .int x1), (2, .int x2), (3, .int x3)]) hx hb dX10_solves_4 hl (by decide) rfl (fun ls hl => ?_)
  refine lv_aload_n hx hb dX10_solves_6 rfl (lv_at hl 2 rfl) ?_
  refine va_get (D := D) (ci := 10) (v := .ref (a 42)) (C := RX10) (T := TX10) (N := 17) hx hb hts hiX10 hown hK.1 hP 0 rfl rfl 9 (by decide) (hts (.fieldLink RX10 29 "IslandBridgesModel" "tried" "[I") (List.mem_of_getElem? (i := 1) rfl)) (fun _ h9 => h9) rfl dX10_solves_7 ?_
  refine lv_iconst (v := 0) hx hb dX10_solves_10 (by decide) ?_
  refine lv_iconst (v := (-1)) hx hb dX10_solves_11 (by decide) ?_
  obtain ⟨v1, nv1, ev1, hm⟩ := wr_inv hm
  refine va_iast hx hb hK.1 hP hD hS 5 0 rfl rfl nv1 dX10_solves_12 (fun H locs hP hD hS => ?_)
  have hP : va_P D vwCl [o_M a M_pasts M_typed M_ways M_z M_why M_rows M_wide M_column M_found, ai (a 36) cI 244 M_s, ai (a 39) cI 48 M_one, ai (a 40) cI 48 M_other, ai (a 41) cI 144 M_group, ai (a 42) cI 14 v1] H := by rw [← ev1]; exact hP
  have hD : va_D A [o_M a M_pasts M_typed M_ways M_z M_why M_rows M_wide M_column M_found, ai (a 36) cI 244 M_s, ai (a 39) cI 48 M_one, ai (a 40) cI 48 M_other, ai (a 41) cI 144 M_group, ai (a 42) cI 14 v1] := by rw [← ev1]; exact hD
  refine lv_aload_n hx hb dX10_solves_13 rfl (lv_at hl 2 rfl) ?_
  refine va_get (D := D) (ci := 10) (v := .int M_ways) (C := RX10) (T := TX10) (N := 17) hx hb hts hiX10 hown hK.1 hP 0 rfl rfl 5 (by decide) (hts (.fieldLink RX10 54 "IslandBridgesModel" "ways" "I") (List.mem_of_getElem? (i := 2) rfl)) (fun _ h9 => h9) rfl dX10_solves_14 ?_
  refine lv_if_ne (tgt := 22) hx hb dX10_solves_17 (by decide) (fun c17 => ?_) (fun c17 => ?_)
  · have hm := ine c17 hm
    exact h22  N 0 0 M_group v1 hm _ _ hP hD hS ls (lv_sub hl [2, 3, 4, 5, 1, 0] rfl)
  · have hm := ip c17 hm
    refine lv_iconst (v := 0) hx hb dX10_solves_20 (by decide) ?_
    cases hm
    exact rI () hx hb hr hlk hP hD hS dX10_solves_21
theorem hd_X10_solutions : yX10_solutions.cls = RX10 ∧ yX10_solutions.cls ≠ "java/lang/invoke/MethodHandle" ∧ yX10_solutions.cls ≠ "java/lang/invoke/VarHandle" ∧ (parseMethodDescriptor yX10_solutions.desc).map (fun d => d.parameters.length) = some 0 := by decide +kernel
def m_X10_solutions (N : Nat) (M_ways : Int32) (M_s : Nat → Int32) (M_one : Nat → Int32) (M_other : Nat → Int32) (M_group : Nat → Int32) (M_tried : Nat → Int32) : Option (Int32 × (Nat → Int32) × (Nat → Int32)) :=
  bd1 (m_X10_islands N M_s) (fun v1 => if v1 = 0 then (some (((-2), M_group, M_tried))) else (if M_ways ≤ 14 then (bd3 (m_X10_solves N M_ways M_s M_one M_other M_group M_tried 50 ((-1)) 0) (fun v2 v3 v4 => some ((v2, v3, v4)))) else (some (((-3), M_group, M_tried)))))
set_option maxHeartbeats 4000000 in
set_option maxRecDepth 100000 in
theorem c_X10_solutions (l : Launch) (D : va_G) (cI cJ cS cB : ClassId) (a : Nat → Nat) (M_pasts : Int32) (M_typed : Int32) (M_ways : Int32) (M_z : Int32) (M_why : Int32) (M_rows : Int32) (M_wide : Int32) (M_column : Int32) (M_found : Int32) (M_s : Nat → Int32) (M_one : Nat → Int32) (M_other : Nat → Int32) (M_group : Nat → Int32) (M_tried : Nat → Int32)  (N : Nat) (r0 : Int32) (M_group' : Nat → Int32) (M_tried' : Nat → Int32) (hm : m_X10_solutions N M_ways M_s M_one M_other M_group M_tried = some (r0, M_group', M_tried')) :
    mU l D (TYs cI cJ cS cB) yX10_solutions wsX10_solutions { frames := 5, cells := 0, slots := 0, locals := 117 } [.ref (a 35)] [o_M a M_pasts M_typed M_ways M_z M_why M_rows M_wide M_column M_found, ai (a 36) cI 244 M_s, ai (a 39) cI 48 M_one, ai (a 40) cI 48 M_other, ai (a 41) cI 144 M_group, ai (a 42) cI 14 M_tried] [o_M a M_pasts M_typed M_ways M_z M_why M_rows M_wide M_column M_found, ai (a 36) cI 244 M_s, ai (a 39) cI 48 M_one, ai (a 40) cI 48 M_other, ai (a 41) cI 144 M_group', ai (a 42) cI 14 M_tried'] (some (.int r0)) := by
  refine mG_of (cc := cX10_solutions) (maxL := 1) (ret := (some .int)) (by decide) rfl rfl (Nat.le_of_ble_eq_true rfl) ?_
  intro p e s m args below meth c A hx hb hr hml hlk hnm hts hown hK hP hD hA hS ls hl
  have hl : lv_has ls 1 [(0, .ref (a 35))] := hl
  have hiX10 : ∀ w ∈ wsX100, w ∈ wsX10_solutions := fun w h => List.mem_cons_of_mem _ (List.mem_append_right _ h)
  unfold m_X10_solutions at hm
  refine lv_aload_n hx hb dX10_solutions_0 rfl (lv_at hl 0 rfl) ?_
  obtain ⟨v1, h_v1, hm⟩ := bd1_inv hm
  refine cVs ⟨hx, hb, hml, hown, hts⟩ (c_X10_islands l D cI cJ cS cB a M_pasts M_typed M_ways M_z M_why M_rows M_wide M_column M_found M_s N v1 h_v1) (cwV 0 hts gX10_solutions_X10_islands rfl rfl rfl hd_X10_islands ⟨(Nat.le_of_ble_eq_true rfl), (Nat.le_of_ble_eq_true rfl)⟩) hK hP hD hS hA [0, 1] rfl rfl rfl hl.1 (Nat.le_of_ble_eq_true rfl) ⟨Nat.zero_le _, Nat.zero_le _⟩ 0 rfl rfl rfl rfl dX10_solutions_1 (fun H locs hP hD hS => ?_)
  refine lv_if_ne (tgt := 10) hx hb dX10_solutions_4 (by decide) (fun c4 => ?_) (fun c4 => ?_)
  · have hm := ine c4 hm
    refine lv_aload_n hx hb dX10_solutions_10 rfl (lv_at hl 0 rfl) ?_
    refine va_get (D := D) (ci := 10) (v := .int M_ways) (C := RX10) (T := TX10) (N := 17) hx hb hts hiX10 hown hK.1 hP 0 rfl rfl 5 (by decide) (hts (.fieldLink RX10 54 "IslandBridgesModel" "ways" "I") (List.mem_of_getElem? (i := 1) rfl)) (fun _ h9 => h9) rfl dX10_solutions_11 ?_
    refine lv_bipush (v := 14) hx hb dX10_solutions_14 (by decide) ?_
    refine lv_icmp_le (tgt := 24) hx hb dX10_solutions_16 (by decide) (fun c16 => ?_) (fun c16 => ?_)
    · have hm := ip c16 hm
      refine lv_aload_n hx hb dX10_solutions_24 rfl (lv_at hl 0 rfl) ?_
      refine lv_bipush (v := 50) hx hb dX10_solutions_25 (by decide) ?_
      refine lv_iconst (v := (-1)) hx hb dX10_solutions_27 (by decide) ?_
      refine lv_iconst (v := 0) hx hb dX10_solutions_28 (by decide) ?_
      obtain ⟨v2, v3, v4, h_v2, hm⟩ := bd3_inv hm
      refine cVx ⟨hx, hb, hml, hown, hts⟩ (c_X10_solves l D cI cJ cS cB a M_pasts M_typed M_ways M_z M_why M_rows M_wide M_column M_found M_s M_one M_other M_group M_tried 50 ((-1)) 0 N v2 v3 v4 h_v2) (cwV 3 hts gX10_solutions_X10_solves rfl rfl rfl hd_X10_solves ⟨(Nat.le_of_ble_eq_true rfl), (Nat.le_of_ble_eq_true rfl)⟩) hK hP hD hS hA [0, 1, 2, 3, 4, 5] rfl rfl [o_M a M_pasts M_typed M_ways M_z M_why M_rows M_wide M_column M_found, ai (a 36) cI 244 M_s, ai (a 39) cI 48 M_one, ai (a 40) cI 48 M_other, ai (a 41) cI 144 v3, ai (a 42) cI 14 v4] [(true, 0), (true, 1), (true, 2), (true, 3), (true, 4), (true, 5)] rfl rfl rfl hl.1 (Nat.le_of_ble_eq_true rfl) ⟨Nat.zero_le _, Nat.zero_le _⟩ 0 rfl rfl rfl rfl dX10_solutions_29 (fun H locs hP hD hS => ?_)
      cases hm
      exact rI () hx hb hr hlk hP hD hS dX10_solutions_32
    · have hm := ine c16 hm
      refine lv_bipush (v := (-3)) hx hb dX10_solutions_19 (by decide) ?_
      refine lv_goto (tgt := 32) hx hb dX10_solutions_21 (by decide) ?_
      cases hm
      exact rI () hx hb hr hlk hP hD hS dX10_solutions_32
  · have hm := ip c4 hm
    refine lv_bipush (v := (-2)) hx hb dX10_solutions_7 (by decide) ?_
    cases hm
    exact rI () hx hb hr hlk hP hD hS dX10_solutions_9
theorem hd_X10_inAll : yX10_inAll.cls = RX10 ∧ yX10_inAll.cls ≠ "java/lang/invoke/MethodHandle" ∧ yX10_inAll.cls ≠ "java/lang/invoke/VarHandle" ∧ (parseMethodDescriptor yX10_inAll.desc).map (fun d => d.parameters.length) = some 1 := by decide +kernel
def m_X10_inAll_j86 (y7 : Int32) (y8 : Int32) (y9 : Nat → Int32) (y10 : Nat → Int32) : Option (Int32 × (Nat → Int32) × (Nat → Int32)) :=
  if y8 = 1 then (some ((y7, y9, y10))) else (some (((-4), y9, y10)))
def m_X10_inAll_j78 (rec30 : Int32 → Int32 → Int32 → (Nat → Int32) → (Nat → Int32) → Option (Int32 × (Nat → Int32) × (Nat → Int32))) (y26 : Int32) (y27 : Int32) (y28 : Nat → Int32) (y29 : Nat → Int32) (y30 : Int32) (y31 : Int32) : Option (Int32 × (Nat → Int32) × (Nat → Int32)) :=
  lt1 (y30 + y31) (fun v32 => lt1 (y27 + 1) (fun v33 => rec30 y26 v32 v33 y28 y29))
def m_X10_inAll_j66 (rec30 : Int32 → Int32 → Int32 → (Nat → Int32) → (Nat → Int32) → Option (Int32 × (Nat → Int32) × (Nat → Int32))) (y20 : Int32) (y21 : Int32) (y22 : Int32) (y23 : Nat → Int32) (y24 : Nat → Int32) (y25 : Int32) : Option (Int32 × (Nat → Int32) × (Nat → Int32)) :=
  if y22 = 0 then (m_X10_inAll_j78 rec30 y25 y21 y23 y24 y20 0) else (m_X10_inAll_j78 rec30 y25 y21 y23 y24 y20 1)
def m_X10_inAll_j53 (rec30 : Int32 → Int32 → Int32 → (Nat → Int32) → (Nat → Int32) → Option (Int32 × (Nat → Int32) × (Nat → Int32))) (y14 : Int32) (y15 : Int32) (y16 : Int32) (y17 : Nat → Int32) (y18 : Nat → Int32) (y19 : Int32) : Option (Int32 × (Nat → Int32) × (Nat → Int32)) :=
  if y19 = 0 then (m_X10_inAll_j66 rec30 y15 y16 y19 y17 y18 y14) else (m_X10_inAll_j66 rec30 y15 y16 y19 y17 y18 y16)
def m_X10_inAll_b30 (N : Nat) (M_ways : Int32) (M_s : Nat → Int32) (M_one : Nat → Int32) (M_other : Nat → Int32) (x1 : Int32) (rec30 : Int32 → Int32 → Int32 → (Nat → Int32) → (Nat → Int32) → Option (Int32 × (Nat → Int32) × (Nat → Int32))) (y2 : Int32) (y3 : Int32) (y4 : Int32) (y5 : Nat → Int32) (y6 : Nat → Int32) : Option (Int32 × (Nat → Int32) × (Nat → Int32)) :=
  if 3 ≤ y4 then (m_X10_inAll_j86 y2 y3 y5 y6) else (bd3 (m_X10_solves N M_ways M_s M_one M_other y5 y6 1 x1 y4) (fun v11 v12 v13 => if v11 = 1 then (m_X10_inAll_j53 rec30 y2 y3 y4 v12 v13 1) else (m_X10_inAll_j53 rec30 y2 y3 y4 v12 v13 0)))
def m_X10_inAll (N : Nat) (M_ways : Int32) (M_s : Nat → Int32) (M_one : Nat → Int32) (M_other : Nat → Int32) (M_group : Nat → Int32) (M_tried : Nat → Int32) (x1 : Int32) : Option (Int32 × (Nat → Int32) × (Nat → Int32)) :=
  bd1 (m_X10_isWay M_ways x1) (fun v1 => if v1 = 0 then (some (((-1), M_group, M_tried))) else (if M_ways ≤ 14 then (zl5 (m_X10_inAll_b30 N M_ways M_s M_one M_other x1) N ((-4)) 0 0 M_group M_tried) else (some (((-3), M_group, M_tried)))))
set_option maxHeartbeats 4000000 in
set_option maxRecDepth 100000 in
theorem c_X10_inAll (l : Launch) (D : va_G) (cI cJ cS cB : ClassId) (a : Nat → Nat) (M_pasts : Int32) (M_typed : Int32) (M_ways : Int32) (M_z : Int32) (M_why : Int32) (M_rows : Int32) (M_wide : Int32) (M_column : Int32) (M_found : Int32) (M_s : Nat → Int32) (M_one : Nat → Int32) (M_other : Nat → Int32) (M_group : Nat → Int32) (M_tried : Nat → Int32) (x1 : Int32) (N : Nat) (r0 : Int32) (M_group' : Nat → Int32) (M_tried' : Nat → Int32) (hm : m_X10_inAll N M_ways M_s M_one M_other M_group M_tried x1 = some (r0, M_group', M_tried')) :
    mU l D (TYs cI cJ cS cB) yX10_inAll wsX10_inAll { frames := 5, cells := 0, slots := 0, locals := 117 } [.ref (a 35), .int x1] [o_M a M_pasts M_typed M_ways M_z M_why M_rows M_wide M_column M_found, ai (a 36) cI 244 M_s, ai (a 39) cI 48 M_one, ai (a 40) cI 48 M_other, ai (a 41) cI 144 M_group, ai (a 42) cI 14 M_tried] [o_M a M_pasts M_typed M_ways M_z M_why M_rows M_wide M_column M_found, ai (a 36) cI 244 M_s, ai (a 39) cI 48 M_one, ai (a 40) cI 48 M_other, ai (a 41) cI 144 M_group', ai (a 42) cI 14 M_tried'] (some (.int r0)) := by
  refine mG_of (cc := cX10_inAll) (maxL := 6) (ret := (some .int)) (by decide) rfl rfl (Nat.le_of_ble_eq_true rfl) ?_
  intro p e s m args below meth c A hx hb hr hml hlk hnm hts hown hK hP hD hA hS ls hl
  have hl : lv_has ls 6 [(0, .ref (a 35)), (1, .int x1)] := hl
  have hiX10 : ∀ w ∈ wsX100, w ∈ wsX10_inAll := fun w h => List.mem_cons_of_mem _ (List.mem_append_right _ h)
  unfold m_X10_inAll at hm
  have h86 : ∀ (y7 : Int32) (y8 : Int32) (y9 : Nat → Int32) (y10 : Nat → Int32), m_X10_inAll_j86 y7 y8 y9 y10 = some (r0, M_group', M_tried') → ∀ (H : Heap) (locs : List Loc), va_P D vwCl [o_M a M_pasts M_typed M_ways M_z M_why M_rows M_wide M_column M_found, ai (a 36) cI 244 M_s, ai (a 39) cI 48 M_one, ai (a 40) cI 48 M_other, ai (a 41) cI 144 y9, ai (a 42) cI 14 y10] H → va_D A [o_M a M_pasts M_typed M_ways M_z M_why M_rows M_wide M_column M_found, ai (a 36) cI 244 M_s, ai (a 39) cI 48 M_one, ai (a 40) cI 48 M_other, ai (a 41) cI 144 y9, ai (a 42) cI 14 y10] → va_S A s.heap H locs → ∀ ls : Array Slot, lv_has ls 6 [(2, .int y7), (3, .int y8)] → W p l e { frames := 5, cells := 0, slots := 0, locals := 117 } s m args below meth c H locs 0 0 (MQ below (eQ D (some (.int r0)) (fun _ : Unit => [o_M a M_pasts M_typed M_ways M_z M_why M_rows M_wide M_column M_found, ai (a 36) cI 244 M_s, ai (a 39) cI 48 M_one, ai (a 40) cI 48 M_other, ai (a 41) cI 144 M_group', ai (a 42) cI 14 M_tried']) A) args s 0 0 A) (F0 m 86 ls []) := by
    intro y7 y8 y9 y10 hm H locs hP hD hS ls hl
    unfold m_X10_inAll_j86 at hm
    refine lv_iload_n hx hb dX10_inAll_86 rfl (lv_at hl 1 rfl) ?_
    refine lv_iconst (v := 1) hx hb dX10_inAll_87 (by decide) ?_
    refine lv_icmp_ne (tgt := 95) hx hb dX10_inAll_88 (by decide) (fun c88 => ?_) (fun c88 => ?_)
    · have hm := ine c88 hm
      refine lv_bipush (v := (-4)) hx hb dX10_inAll_95 (by decide) ?_
      cases hm
      exact rI () hx hb hr hlk hP hD hS dX10_inAll_97
    · have hm := ip c88 hm
      refine lv_iload_n hx hb dX10_inAll_91 rfl (lv_at hl 0 rfl) ?_
      refine lv_goto (tgt := 97) hx hb dX10_inAll_92 (by decide) ?_
      cases hm
      exact rI () hx hb hr hlk hP hD hS dX10_inAll_97
  have h30 : ∀ (n : Nat) (y2 : Int32) (y3 : Int32) (y4 : Int32) (y5 : Nat → Int32) (y6 : Nat → Int32), zl5 (m_X10_inAll_b30 N M_ways M_s M_one M_other x1) n y2 y3 y4 y5 y6 = some (r0, M_group', M_tried') → ∀ (H : Heap) (locs : List Loc), va_P D vwCl [o_M a M_pasts M_typed M_ways M_z M_why M_rows M_wide M_column M_found, ai (a 36) cI 244 M_s, ai (a 39) cI 48 M_one, ai (a 40) cI 48 M_other, ai (a 41) cI 144 y5, ai (a 42) cI 14 y6] H → va_D A [o_M a M_pasts M_typed M_ways M_z M_why M_rows M_wide M_column M_found, ai (a 36) cI 244 M_s, ai (a 39) cI 48 M_one, ai (a 40) cI 48 M_other, ai (a 41) cI 144 y5, ai (a 42) cI 14 y6] → va_S A s.heap H locs → ∀ ls : Array Slot, lv_has ls 6 [(0, .ref (a 35)), (1, .int x1), (2, .int y2), (3, .int y3), (4, .int y4)] → W p l e { frames := 5, cells := 0, slots := 0, locals := 117 } s m args below meth c H locs 0 0 (MQ below (eQ D (some (.int r0)) (fun _ : Unit => [o_M a M_pasts M_typed M_ways M_z M_why M_rows M_wide M_column M_found, ai (a 36) cI 244 M_s, ai (a 39) cI 48 M_one, ai (a 40) cI 48 M_other, ai (a 41) cI 144 M_group', ai (a 42) cI 14 M_tried']) A) args s 0 0 A) (F0 m 30 ls []) := by
    refine zl5_ind (fun rec30 ih30 y2 y3 y4 y5 y6 hm => ?_)
    have h78 : ∀ (y26 : Int32) (y27 : Int32) (y28 : Nat → Int32) (y29 : Nat → Int32) (y30 : Int32) (y31 : Int32), m_X10_inAll_j78 rec30 y26 y27 y28 y29 y30 y31 = some (r0, M_group', M_tried') → ∀ (H : Heap) (locs : List Loc), va_P D vwCl [o_M a M_pasts M_typed M_ways M_z M_why M_rows M_wide M_column M_found, ai (a 36) cI 244 M_s, ai (a 39) cI 48 M_one, ai (a 40) cI 48 M_other, ai (a 41) cI 144 y28, ai (a 42) cI 14 y29] H → va_D A [o_M a M_pasts M_typed M_ways M_z M_why M_rows M_wide M_column M_found, ai (a 36) cI 244 M_s, ai (a 39) cI 48 M_one, ai (a 40) cI 48 M_other, ai (a 41) cI 144 y28, ai (a 42) cI 14 y29] → va_S A s.heap H locs → ∀ ls : Array Slot, lv_has ls 6 [(0, .ref (a 35)), (1, .int x1), (2, .int y26), (4, .int y27)] → W p l e { frames := 5, cells := 0, slots := 0, locals := 117 } s m args below meth c H locs 0 0 (MQ below (eQ D (some (.int r0)) (fun _ : Unit => [o_M a M_pasts M_typed M_ways M_z M_why M_rows M_wide M_column M_found, ai (a 36) cI 244 M_s, ai (a 39) cI 48 M_one, ai (a 40) cI 48 M_other, ai (a 41) cI 144 M_group', ai (a 42) cI 14 M_tried']) A) args s 0 0 A) (F0 m 78 ls [.int y31, .int y30]) := by
      intro y26 y27 y28 y29 y30 y31 hm H locs hP hD hS ls hl
      unfold m_X10_inAll_j78 at hm
      refine lv_iadd hx hb dX10_inAll_78 ?_
      obtain ⟨v32, ev32, hm⟩ := lt1_inv hm
      refine ltop ev32 ?_
      refine lv_istore_n (lv' := [(3, .int v32), (0, .ref (a 35)), (1, .int x1), (2, .int y26), (4, .int y27)]) hx hb dX10_inAll_79 rfl hl (by decide) rfl (fun ls hl => ?_)
      obtain ⟨v33, ev33, hm⟩ := lt1_inv hm
      refine lv_iinc (v := v33) (lv' := [(4, .int v33), (3, .int v32), (0, .ref (a 35)), (1, .int x1), (2, .int y26)]) hx hb dX10_inAll_80 hl (k := 4) rfl ev33 (by decide) rfl (fun ls hl => ?_)
      refine lv_goto (tgt := 30) hx hb dX10_inAll_83 (by decide) ?_
      exact ih30 y26 v32 v33 y28 y29 hm _ _ hP hD hS ls (lv_sub hl [2, 3, 4, 1, 0] rfl)
    have h66 : ∀ (y20 : Int32) (y21 : Int32) (y22 : Int32) (y23 : Nat → Int32) (y24 : Nat → Int32) (y25 : Int32), m_X10_inAll_j66 rec30 y20 y21 y22 y23 y24 y25 = some (r0, M_group', M_tried') → ∀ (H : Heap) (locs : List Loc), va_P D vwCl [o_M a M_pasts M_typed M_ways M_z M_why M_rows M_wide M_column M_found, ai (a 36) cI 244 M_s, ai (a 39) cI 48 M_one, ai (a 40) cI 48 M_other, ai (a 41) cI 144 y23, ai (a 42) cI 14 y24] H → va_D A [o_M a M_pasts M_typed M_ways M_z M_why M_rows M_wide M_column M_found, ai (a 36) cI 244 M_s, ai (a 39) cI 48 M_one, ai (a 40) cI 48 M_other, ai (a 41) cI 144 y23, ai (a 42) cI 14 y24] → va_S A s.heap H locs → ∀ ls : Array Slot, lv_has ls 6 [(0, .ref (a 35)), (1, .int x1), (3, .int y20), (4, .int y21), (5, .int y22)] → W p l e { frames := 5, cells := 0, slots := 0, locals := 117 } s m args below meth c H locs 0 0 (MQ below (eQ D (some (.int r0)) (fun _ : Unit => [o_M a M_pasts M_typed M_ways M_z M_why M_rows M_wide M_column M_found, ai (a 36) cI 244 M_s, ai (a 39) cI 48 M_one, ai (a 40) cI 48 M_other, ai (a 41) cI 144 M_group', ai (a 42) cI 14 M_tried']) A) args s 0 0 A) (F0 m 66 ls [.int y25]) := by
      intro y20 y21 y22 y23 y24 y25 hm H locs hP hD hS ls hl
      unfold m_X10_inAll_j66 at hm
      refine lv_istore_n (lv' := [(2, .int y25), (0, .ref (a 35)), (1, .int x1), (3, .int y20), (4, .int y21), (5, .int y22)]) hx hb dX10_inAll_66 rfl hl (by decide) rfl (fun ls hl => ?_)
      refine lv_iload_n hx hb dX10_inAll_67 rfl (lv_at hl 3 rfl) ?_
      refine lv_iload hx hb dX10_inAll_68 (lv_at hl 5 rfl) ?_
      refine lv_if_eq (tgt := 77) hx hb dX10_inAll_70 (by decide) (fun c70 => ?_) (fun c70 => ?_)
      · have hm := ip c70 hm
        refine lv_iconst (v := 0) hx hb dX10_inAll_77 (by decide) ?_
        exact h78 y25 y21 y23 y24 y20 0 hm _ _ hP hD hS ls (lv_sub hl [1, 2, 0, 4] rfl)
      · have hm := ine c70 hm
        refine lv_iconst (v := 1) hx hb dX10_inAll_73 (by decide) ?_
        refine lv_goto (tgt := 78) hx hb dX10_inAll_74 (by decide) ?_
        exact h78 y25 y21 y23 y24 y20 1 hm _ _ hP hD hS ls (lv_sub hl [1, 2, 0, 4] rfl)
    have h53 : ∀ (y14 : Int32) (y15 : Int32) (y16 : Int32) (y17 : Nat → Int32) (y18 : Nat → Int32) (y19 : Int32), m_X10_inAll_j53 rec30 y14 y15 y16 y17 y18 y19 = some (r0, M_group', M_tried') → ∀ (H : Heap) (locs : List Loc), va_P D vwCl [o_M a M_pasts M_typed M_ways M_z M_why M_rows M_wide M_column M_found, ai (a 36) cI 244 M_s, ai (a 39) cI 48 M_one, ai (a 40) cI 48 M_other, ai (a 41) cI 144 y17, ai (a 42) cI 14 y18] H → va_D A [o_M a M_pasts M_typed M_ways M_z M_why M_rows M_wide M_column M_found, ai (a 36) cI 244 M_s, ai (a 39) cI 48 M_one, ai (a 40) cI 48 M_other, ai (a 41) cI 144 y17, ai (a 42) cI 14 y18] → va_S A s.heap H locs → ∀ ls : Array Slot, lv_has ls 6 [(0, .ref (a 35)), (1, .int x1), (2, .int y14), (3, .int y15), (4, .int y16)] → W p l e { frames := 5, cells := 0, slots := 0, locals := 117 } s m args below meth c H locs 0 0 (MQ below (eQ D (some (.int r0)) (fun _ : Unit => [o_M a M_pasts M_typed M_ways M_z M_why M_rows M_wide M_column M_found, ai (a 36) cI 244 M_s, ai (a 39) cI 48 M_one, ai (a 40) cI 48 M_other, ai (a 41) cI 144 M_group', ai (a 42) cI 14 M_tried']) A) args s 0 0 A) (F0 m 53 ls [.int y19]) := by
      intro y14 y15 y16 y17 y18 y19 hm H locs hP hD hS ls hl
      unfold m_X10_inAll_j53 at hm
      refine lv_istore (lv' := [(5, .int y19), (0, .ref (a 35)), (1, .int x1), (2, .int y14), (3, .int y15), (4, .int y16)]) hx hb dX10_inAll_53 hl (by decide) rfl (fun ls hl => ?_)
      refine lv_iload hx hb dX10_inAll_55 (lv_at hl 0 rfl) ?_
      refine lv_if_eq (tgt := 65) hx hb dX10_inAll_57 (by decide) (fun c57 => ?_) (fun c57 => ?_)
      · have hm := ip c57 hm
        refine lv_iload_n hx hb dX10_inAll_65 rfl (lv_at hl 3 rfl) ?_
        exact h66 y15 y16 y19 y17 y18 y14 hm _ _ hP hD hS ls (lv_sub hl [1, 2, 4, 5, 0] rfl)
      · have hm := ine c57 hm
        refine lv_iload hx hb dX10_inAll_60 (lv_at hl 5 rfl) ?_
        refine lv_goto (tgt := 66) hx hb dX10_inAll_62 (by decide) ?_
        exact h66 y15 y16 y19 y17 y18 y16 hm _ _ hP hD hS ls (lv_sub hl [1, 2, 4, 5, 0] rfl)
    intro H locs hP hD hS ls hl
    unfold m_X10_inAll_b30 at hm
    refine lv_iload hx hb dX10_inAll_30 (lv_at hl 4 rfl) ?_
    refine lv_iconst (v := 3) hx hb dX10_inAll_32 (by decide) ?_
    refine lv_icmp_ge (tgt := 86) hx hb dX10_inAll_33 (by decide) (fun c33 => ?_) (fun c33 => ?_)
    · have hm := ip c33 hm
      exact h86 y2 y3 y5 y6 hm _ _ hP hD hS ls (lv_sub hl [2, 3] rfl)
    · have hm := ine c33 hm
      refine lv_aload_n hx hb dX10_inAll_36 rfl (lv_at hl 0 rfl) ?_
      refine lv_iconst (v := 1) hx hb dX10_inAll_37 (by decide) ?_
      refine lv_iload_n hx hb dX10_inAll_38 rfl (lv_at hl 1 rfl) ?_
      refine lv_iload hx hb dX10_inAll_39 (lv_at hl 4 rfl) ?_
      obtain ⟨v11, v12, v13, h_v11, hm⟩ := bd3_inv hm
      refine cVx ⟨hx, hb, hml, hown, hts⟩ (c_X10_solves l D cI cJ cS cB a M_pasts M_typed M_ways M_z M_why M_rows M_wide M_column M_found M_s M_one M_other y5 y6 1 x1 y4 N v11 v12 v13 h_v11) (cwV 3 hts gX10_inAll_X10_solves rfl rfl rfl hd_X10_solves ⟨(Nat.le_of_ble_eq_true rfl), (Nat.le_of_ble_eq_true rfl)⟩) hK hP hD hS hA [0, 1, 2, 3, 4, 5] rfl rfl [o_M a M_pasts M_typed M_ways M_z M_why M_rows M_wide M_column M_found, ai (a 36) cI 244 M_s, ai (a 39) cI 48 M_one, ai (a 40) cI 48 M_other, ai (a 41) cI 144 v12, ai (a 42) cI 14 v13] [(true, 0), (true, 1), (true, 2), (true, 3), (true, 4), (true, 5)] rfl rfl rfl hl.1 (Nat.le_of_ble_eq_true rfl) ⟨Nat.zero_le _, Nat.zero_le _⟩ 0 rfl rfl rfl rfl dX10_inAll_41 (fun H locs hP hD hS => ?_)
      refine lv_iconst (v := 1) hx hb dX10_inAll_44 (by decide) ?_
      refine lv_icmp_ne (tgt := 52) hx hb dX10_inAll_45 (by decide) (fun c45 => ?_) (fun c45 => ?_)
      · have hm := ine c45 hm
        refine lv_iconst (v := 0) hx hb dX10_inAll_52 (by decide) ?_
        exact h53 y2 y3 y4 v12 v13 0 hm _ _ hP hD hS ls (lv_sub hl [0, 1, 2, 3, 4] rfl)
      · have hm := ip c45 hm
        refine lv_iconst (v := 1) hx hb dX10_inAll_48 (by decide) ?_
        refine lv_goto (tgt := 53) hx hb dX10_inAll_49 (by decide) ?_
        exact h53 y2 y3 y4 v12 v13 1 hm _ _ hP hD hS ls (lv_sub hl [0, 1, 2, 3, 4] rfl)
  refine lv_aload_n hx hb dX10_inAll_0 rfl (lv_at hl 0 rfl) ?_
  refine lv_iload_n hx hb dX10_inAll_1 rfl (lv_at hl 1 rfl) ?_
  obtain ⟨v1, h_v1, hm⟩ := bd1_inv hm
  refine cVs ⟨hx, hb, hml, hown, hts⟩ (c_X10_isWay l D cI cJ cS cB a M_pasts M_typed M_ways M_z M_why M_rows M_wide M_column M_found x1 v1 h_v1) (cwV 1 hts gX10_inAll_X10_isWay rfl rfl rfl hd_X10_isWay ⟨(Nat.le_of_ble_eq_true rfl), (Nat.le_of_ble_eq_true rfl)⟩) hK hP hD hS hA [0] rfl rfl rfl hl.1 (Nat.le_of_ble_eq_true rfl) ⟨Nat.zero_le _, Nat.zero_le _⟩ 0 rfl rfl rfl rfl dX10_inAll_2 (fun H locs hP hD hS => ?_)
  refine lv_if_ne (tgt := 10) hx hb dX10_inAll_5 (by decide) (fun c5 => ?_) (fun c5 => ?_)
  · have hm := ine c5 hm
    refine lv_aload_n hx hb dX10_inAll_10 rfl (lv_at hl 0 rfl) ?_
    refine va_get (D := D) (ci := 10) (v := .int M_ways) (C := RX10) (T := TX10) (N := 17) hx hb hts hiX10 hown hK.1 hP 0 rfl rfl 5 (by decide) (hts (.fieldLink RX10 54 "IslandBridgesModel" "ways" "I") (List.mem_of_getElem? (i := 1) rfl)) (fun _ h9 => h9) rfl dX10_inAll_11 ?_
    refine lv_bipush (v := 14) hx hb dX10_inAll_14 (by decide) ?_
    refine lv_icmp_le (tgt := 22) hx hb dX10_inAll_16 (by decide) (fun c16 => ?_) (fun c16 => ?_)
    · have hm := ip c16 hm
      refine lv_bipush (v := (-4)) hx hb dX10_inAll_22 (by decide) ?_
      refine lv_istore_n (lv' := [(2, .int ((-4))), (0, .ref (a 35)), (1, .int x1)]) hx hb dX10_inAll_24 rfl hl (by decide) rfl (fun ls hl => ?_)
      refine lv_iconst (v := 0) hx hb dX10_inAll_25 (by decide) ?_
      refine lv_istore_n (lv' := [(3, .int 0), (2, .int ((-4))), (0, .ref (a 35)), (1, .int x1)]) hx hb dX10_inAll_26 rfl hl (by decide) rfl (fun ls hl => ?_)
      refine lv_iconst (v := 0) hx hb dX10_inAll_27 (by decide) ?_
      refine lv_istore (lv' := [(4, .int 0), (3, .int 0), (2, .int ((-4))), (0, .ref (a 35)), (1, .int x1)]) hx hb dX10_inAll_28 hl (by decide) rfl (fun ls hl => ?_)
      exact h30  N ((-4)) 0 0 M_group M_tried hm _ _ hP hD hS ls (lv_sub hl [3, 4, 2, 1, 0] rfl)
    · have hm := ine c16 hm
      refine lv_bipush (v := (-3)) hx hb dX10_inAll_19 (by decide) ?_
      cases hm
      exact rI () hx hb hr hlk hP hD hS dX10_inAll_21
  · have hm := ip c5 hm
    refine lv_iconst (v := (-1)) hx hb dX10_inAll_8 (by decide) ?_
    cases hm
    exact rI () hx hb hr hlk hP hD hS dX10_inAll_9
theorem hd_X10_draw : yX10_draw.cls = RX10 ∧ yX10_draw.cls ≠ "java/lang/invoke/MethodHandle" ∧ yX10_draw.cls ≠ "java/lang/invoke/VarHandle" ∧ (parseMethodDescriptor yX10_draw.desc).map (fun d => d.parameters.length) = some 1 := by decide +kernel
def m_X10_draw (M_z : Int32) (x1 : Int32) : Option (Int32 × Int32) :=
  lt1 (((75 * M_z) + 74) - ((75 * M_z) + 74) / 65537 * 65537) (fun v1 => rmd v1 x1 (fun v2 => some ((v2, v1))))
set_option maxHeartbeats 4000000 in
set_option maxRecDepth 100000 in
theorem c_X10_draw (l : Launch) (D : va_G) (cI cJ cS cB : ClassId) (a : Nat → Nat) (M_pasts : Int32) (M_typed : Int32) (M_ways : Int32) (M_z : Int32) (M_why : Int32) (M_rows : Int32) (M_wide : Int32) (M_column : Int32) (M_found : Int32) (x1 : Int32) (r0 : Int32) (M_z' : Int32) (hm : m_X10_draw M_z x1 = some (r0, M_z')) :
    mU l D (TYs cI cJ cS cB) yX10_draw wsX10_draw { frames := 0, cells := 0, slots := 0, locals := 0 } [.ref (a 35), .int x1] [o_M a M_pasts M_typed M_ways M_z M_why M_rows M_wide M_column M_found] [o_M a M_pasts M_typed M_ways M_z' M_why M_rows M_wide M_column M_found] (some (.int r0)) := by
  refine mG_of (cc := cX10_draw) (maxL := 2) (ret := (some .int)) (by decide) rfl rfl (Nat.le_of_ble_eq_true rfl) ?_
  intro p e s m args below meth c A hx hb hr hml hlk hnm hts hown hK hP hD hA hS ls hl
  have hl : lv_has ls 2 [(0, .ref (a 35)), (1, .int x1)] := hl
  have hiX10 : ∀ w ∈ wsX100, w ∈ wsX10_draw := fun w h => List.mem_cons_of_mem _ (List.mem_append_right _ h)
  unfold m_X10_draw at hm
  refine lv_aload_n hx hb dX10_draw_0 rfl (lv_at hl 0 rfl) ?_
  refine lv_bipush (v := 75) hx hb dX10_draw_1 (by decide) ?_
  refine lv_aload_n hx hb dX10_draw_3 rfl (lv_at hl 0 rfl) ?_
  refine va_get (D := D) (ci := 10) (v := .int M_z) (C := RX10) (T := TX10) (N := 17) hx hb hts hiX10 hown hK.1 hP 0 rfl rfl 10 (by decide) (hts (.fieldLink RX10 182 "IslandBridgesModel" "z" "I") (List.mem_of_getElem? (i := 1) rfl)) (fun _ h9 => h9) rfl dX10_draw_4 ?_
  refine lv_imul hx hb dX10_draw_7 ?_
  refine lv_bipush (v := 74) hx hb dX10_draw_8 (by decide) ?_
  refine lv_iadd hx hb dX10_draw_10 ?_
  refine lv_ldc (v := 65537) hx hb hown (hts (.constant RX10 185 (65537)) (List.mem_of_getElem? (i := 2) rfl)) dX10_draw_11 ?_
  refine lv_irem hx hb dX10_draw_13 (by decide) ?_
  obtain ⟨v1, ev1, hm⟩ := lt1_inv hm
  refine ltop ev1 ?_
  refine va_put (D := D) (ci := 10) (v := .int v1) (ty := .int) (C := RX10) (T := TX10) (N := 17) hx hb hts hiX10 tyX10 tyX10_ok nmX10 hown hK.1 hP hD hS 0 rfl rfl 10 (by decide) (hts (.fieldLink RX10 182 "IslandBridgesModel" "z" "I") (List.mem_of_getElem? (i := 1) rfl)) (fun _ h9 => h9) rfl (by decide +kernel) rfl rfl (Nat.le_of_ble_eq_true rfl) dX10_draw_14 (fun H locs hP hD hS => ?_)
  have hP : va_P D vwCl [o_M a M_pasts M_typed M_ways v1 M_why M_rows M_wide M_column M_found] H := hP
  have hD : va_D A [o_M a M_pasts M_typed M_ways v1 M_why M_rows M_wide M_column M_found] := hD
  refine lv_aload_n hx hb dX10_draw_17 rfl (lv_at hl 0 rfl) ?_
  refine va_get (D := D) (ci := 10) (v := .int v1) (C := RX10) (T := TX10) (N := 17) hx hb hts hiX10 hown hK.1 hP 0 rfl rfl 10 (by decide) (hts (.fieldLink RX10 182 "IslandBridgesModel" "z" "I") (List.mem_of_getElem? (i := 1) rfl)) (fun _ h9 => h9) rfl dX10_draw_18 ?_
  refine lv_iload_n hx hb dX10_draw_21 rfl (lv_at hl 1 rfl) ?_
  obtain ⟨v2, nv2, ev2, hm⟩ := rmd_inv hm
  refine lv_irem hx hb dX10_draw_22 nv2 ?_
  refine ltop ev2 ?_
  cases hm
  exact rI () hx hb hr hlk hP hD hS dX10_draw_23
theorem hd_X10_islandAt : yX10_islandAt.cls = RX10 ∧ yX10_islandAt.cls ≠ "java/lang/invoke/MethodHandle" ∧ yX10_islandAt.cls ≠ "java/lang/invoke/VarHandle" ∧ (parseMethodDescriptor yX10_islandAt.desc).map (fun d => d.parameters.length) = some 1 := by decide +kernel
def m_X10_islandAt_j30 (rec4 : Int32 → Int32 → Option (Int32)) (y7 : Int32) (y8 : Int32) (y9 : Int32) : Option (Int32) :=
  lt1 (y8 - y9) (fun v10 => lt1 (y7 + 1) (fun v11 => rec4 v10 v11))
def m_X10_islandAt_j16 (M_s : Nat → Int32) (rec4 : Int32 → Int32 → Option (Int32)) (y4 : Int32) (y5 : Int32) : Option (Int32) :=
  bd1 (m_X10_number M_s y5) (fun v6 => if v6 ≤ 0 then (m_X10_islandAt_j30 rec4 y5 y4 0) else (m_X10_islandAt_j30 rec4 y5 y4 1))
def m_X10_islandAt_b4 (M_s : Nat → Int32) (rec4 : Int32 → Int32 → Option (Int32)) (y1 : Int32) (y2 : Int32) : Option (Int32) :=
  bd1 (m_X10_number M_s y2) (fun v3 => if v3 = 0 then (m_X10_islandAt_j16 M_s rec4 y1 y2) else (if y1 ≤ 0 then (some y2) else (m_X10_islandAt_j16 M_s rec4 y1 y2)))
def m_X10_islandAt (N : Nat) (M_s : Nat → Int32) (x1 : Int32) : Option (Int32) :=
  zl2 (m_X10_islandAt_b4 M_s) N x1 0
set_option maxHeartbeats 4000000 in
set_option maxRecDepth 100000 in
theorem c_X10_islandAt (l : Launch) (D : va_G) (cI cJ cS cB : ClassId) (a : Nat → Nat) (M_pasts : Int32) (M_typed : Int32) (M_ways : Int32) (M_z : Int32) (M_why : Int32) (M_rows : Int32) (M_wide : Int32) (M_column : Int32) (M_found : Int32) (M_s : Nat → Int32) (x1 : Int32) (N : Nat) (r0 : Int32) (hm : m_X10_islandAt N M_s x1 = some r0) :
    mU l D (TYs cI cJ cS cB) yX10_islandAt wsX10_islandAt { frames := 1, cells := 0, slots := 0, locals := 21 } [.ref (a 35), .int x1] [o_M a M_pasts M_typed M_ways M_z M_why M_rows M_wide M_column M_found, ai (a 36) cI 244 M_s] [o_M a M_pasts M_typed M_ways M_z M_why M_rows M_wide M_column M_found, ai (a 36) cI 244 M_s] (some (.int r0)) := by
  refine mG_of (cc := cX10_islandAt) (maxL := 4) (ret := (some .int)) (by decide) rfl rfl (Nat.le_of_ble_eq_true rfl) ?_
  intro p e s m args below meth c A hx hb hr hml hlk hnm hts hown hK hP hD hA hS ls hl
  have hl : lv_has ls 4 [(0, .ref (a 35)), (1, .int x1)] := hl
  have hiX10 : ∀ w ∈ wsX100, w ∈ wsX10_islandAt := fun w h => List.mem_cons_of_mem _ (List.mem_append_right _ h)
  unfold m_X10_islandAt at hm
  have h4 : ∀ (n : Nat) (y1 : Int32) (y2 : Int32), zl2 (m_X10_islandAt_b4 M_s) n y1 y2 = some r0 → ∀ (H : Heap) (locs : List Loc), va_P D vwCl [o_M a M_pasts M_typed M_ways M_z M_why M_rows M_wide M_column M_found, ai (a 36) cI 244 M_s] H → va_D A [o_M a M_pasts M_typed M_ways M_z M_why M_rows M_wide M_column M_found, ai (a 36) cI 244 M_s] → va_S A s.heap H locs → ∀ ls : Array Slot, lv_has ls 4 [(0, .ref (a 35)), (2, .int y1), (3, .int y2)] → W p l e { frames := 1, cells := 0, slots := 0, locals := 21 } s m args below meth c H locs 0 0 (MQ below (eQ D (some (.int r0)) (fun _ : Unit => [o_M a M_pasts M_typed M_ways M_z M_why M_rows M_wide M_column M_found, ai (a 36) cI 244 M_s]) A) args s 0 0 A) (F0 m 4 ls []) := by
    refine zl2_ind (fun rec4 ih4 y1 y2 hm => ?_)
    have h30 : ∀ (y7 : Int32) (y8 : Int32) (y9 : Int32), m_X10_islandAt_j30 rec4 y7 y8 y9 = some r0 → ∀ (H : Heap) (locs : List Loc), va_P D vwCl [o_M a M_pasts M_typed M_ways M_z M_why M_rows M_wide M_column M_found, ai (a 36) cI 244 M_s] H → va_D A [o_M a M_pasts M_typed M_ways M_z M_why M_rows M_wide M_column M_found, ai (a 36) cI 244 M_s] → va_S A s.heap H locs → ∀ ls : Array Slot, lv_has ls 4 [(0, .ref (a 35)), (3, .int y7)] → W p l e { frames := 1, cells := 0, slots := 0, locals := 21 } s m args below meth c H locs 0 0 (MQ below (eQ D (some (.int r0)) (fun _ : Unit => [o_M a M_pasts M_typed M_ways M_z M_why M_rows M_wide M_column M_found, ai (a 36) cI 244 M_s]) A) args s 0 0 A) (F0 m 30 ls [.int y9, .int y8]) := by
      intro y7 y8 y9 hm H locs hP hD hS ls hl
      unfold m_X10_islandAt_j30 at hm
      refine lv_isub hx hb dX10_islandAt_30 ?_
      obtain ⟨v10, ev10, hm⟩ := lt1_inv hm
      refine ltop ev10 ?_
      refine lv_istore_n (lv' := [(2, .int v10), (0, .ref (a 35)), (3, .int y7)]) hx hb dX10_islandAt_31 rfl hl (by decide) rfl (fun ls hl => ?_)
      obtain ⟨v11, ev11, hm⟩ := lt1_inv hm
      refine lv_iinc (v := v11) (lv' := [(3, .int v11), (2, .int v10), (0, .ref (a 35))]) hx hb dX10_islandAt_32 hl (k := 2) rfl ev11 (by decide) rfl (fun ls hl => ?_)
      refine lv_goto (tgt := 4) hx hb dX10_islandAt_35 (by decide) ?_
      exact ih4 v10 v11 hm _ _ hP hD hS ls (lv_sub hl [2, 1, 0] rfl)
    have h16 : ∀ (y4 : Int32) (y5 : Int32), m_X10_islandAt_j16 M_s rec4 y4 y5 = some r0 → ∀ (H : Heap) (locs : List Loc), va_P D vwCl [o_M a M_pasts M_typed M_ways M_z M_why M_rows M_wide M_column M_found, ai (a 36) cI 244 M_s] H → va_D A [o_M a M_pasts M_typed M_ways M_z M_why M_rows M_wide M_column M_found, ai (a 36) cI 244 M_s] → va_S A s.heap H locs → ∀ ls : Array Slot, lv_has ls 4 [(0, .ref (a 35)), (2, .int y4), (3, .int y5)] → W p l e { frames := 1, cells := 0, slots := 0, locals := 21 } s m args below meth c H locs 0 0 (MQ below (eQ D (some (.int r0)) (fun _ : Unit => [o_M a M_pasts M_typed M_ways M_z M_why M_rows M_wide M_column M_found, ai (a 36) cI 244 M_s]) A) args s 0 0 A) (F0 m 16 ls []) := by
      intro y4 y5 hm H locs hP hD hS ls hl
      unfold m_X10_islandAt_j16 at hm
      refine lv_iload_n hx hb dX10_islandAt_16 rfl (lv_at hl 1 rfl) ?_
      refine lv_aload_n hx hb dX10_islandAt_17 rfl (lv_at hl 0 rfl) ?_
      refine lv_iload_n hx hb dX10_islandAt_18 rfl (lv_at hl 2 rfl) ?_
      obtain ⟨v6, h_v6, hm⟩ := bd1_inv hm
      refine cVs ⟨hx, hb, hml, hown, hts⟩ (c_X10_number l D cI cJ cS cB a M_pasts M_typed M_ways M_z M_why M_rows M_wide M_column M_found M_s y5 v6 h_v6) (cwV 1 hts gX10_islandAt_X10_number rfl rfl rfl hd_X10_number ⟨(Nat.le_of_ble_eq_true rfl), (Nat.le_of_ble_eq_true rfl)⟩) hK hP hD hS hA [0, 1] rfl rfl rfl hl.1 (Nat.le_of_ble_eq_true rfl) ⟨Nat.zero_le _, Nat.zero_le _⟩ 0 rfl rfl rfl rfl dX10_islandAt_19 (fun H locs hP hD hS => ?_)
      refine lv_if_le (tgt := 29) hx hb dX10_islandAt_22 (by decide) (fun c22 => ?_) (fun c22 => ?_)
      · have hm := ip c22 hm
        refine lv_iconst (v := 0) hx hb dX10_islandAt_29 (by decide) ?_
        exact h30 y5 y4 0 hm _ _ hP hD hS ls (lv_sub hl [0, 2] rfl)
      · have hm := ine c22 hm
        refine lv_iconst (v := 1) hx hb dX10_islandAt_25 (by decide) ?_
        refine lv_goto (tgt := 30) hx hb dX10_islandAt_26 (by decide) ?_
        exact h30 y5 y4 1 hm _ _ hP hD hS ls (lv_sub hl [0, 2] rfl)
    intro H locs hP hD hS ls hl
    unfold m_X10_islandAt_b4 at hm
    refine lv_aload_n hx hb dX10_islandAt_4 rfl (lv_at hl 0 rfl) ?_
    refine lv_iload_n hx hb dX10_islandAt_5 rfl (lv_at hl 2 rfl) ?_
    obtain ⟨v3, h_v3, hm⟩ := bd1_inv hm
    refine cVs ⟨hx, hb, hml, hown, hts⟩ (c_X10_number l D cI cJ cS cB a M_pasts M_typed M_ways M_z M_why M_rows M_wide M_column M_found M_s y2 v3 h_v3) (cwV 1 hts gX10_islandAt_X10_number rfl rfl rfl hd_X10_number ⟨(Nat.le_of_ble_eq_true rfl), (Nat.le_of_ble_eq_true rfl)⟩) hK hP hD hS hA [0, 1] rfl rfl rfl hl.1 (Nat.le_of_ble_eq_true rfl) ⟨Nat.zero_le _, Nat.zero_le _⟩ 0 rfl rfl rfl rfl dX10_islandAt_6 (fun H locs hP hD hS => ?_)
    refine lv_if_eq (tgt := 16) hx hb dX10_islandAt_9 (by decide) (fun c9 => ?_) (fun c9 => ?_)
    · have hm := ip c9 hm
      exact h16 y1 y2 hm _ _ hP hD hS ls (lv_sub hl [0, 1, 2] rfl)
    · have hm := ine c9 hm
      refine lv_iload_n hx hb dX10_islandAt_12 rfl (lv_at hl 1 rfl) ?_
      refine lv_if_le (tgt := 38) hx hb dX10_islandAt_13 (by decide) (fun c13 => ?_) (fun c13 => ?_)
      · have hm := ip c13 hm
        refine lv_iload_n hx hb dX10_islandAt_38 rfl (lv_at hl 2 rfl) ?_
        cases hm
        exact rI () hx hb hr hlk hP hD hS dX10_islandAt_39
      · have hm := ine c13 hm
        exact h16 y1 y2 hm _ _ hP hD hS ls (lv_sub hl [0, 1, 2] rfl)
  refine lv_iload_n hx hb dX10_islandAt_0 rfl (lv_at hl 1 rfl) ?_
  refine lv_istore_n (lv' := [(2, .int x1), (0, .ref (a 35)), (1, .int x1)]) hx hb dX10_islandAt_1 rfl hl (by decide) rfl (fun ls hl => ?_)
  refine lv_iconst (v := 0) hx hb dX10_islandAt_2 (by decide) ?_
  refine lv_istore_n (lv' := [(3, .int 0), (2, .int x1), (0, .ref (a 35)), (1, .int x1)]) hx hb dX10_islandAt_3 rfl hl (by decide) rfl (fun ls hl => ?_)
  exact h4  N x1 0 hm _ _ hP hD hS ls (lv_sub hl [2, 1, 0] rfl)
theorem hd_X10_grows : yX10_grows.cls = RX10 ∧ yX10_grows.cls ≠ "java/lang/invoke/MethodHandle" ∧ yX10_grows.cls ≠ "java/lang/invoke/VarHandle" ∧ (parseMethodDescriptor yX10_grows.desc).map (fun d => d.parameters.length) = some 4 := by decide +kernel
def m_X10_grows_j212 (x1 : Int32) (x3 : Int32) (x4 : Int32) (y35 : Int32) (y36 : Nat → Int32) (y37 : Nat → Int32) : Option ((Nat → Int32) × (Nat → Int32)) :=
  rd 244 y36 (4 + x1) (fun v38 => wr 244 y36 (4 + x1) (v38 + x4) (fun v39 => wr 244 v39 ((4 + x1) + (x3 * y35)) (1 + x4) (fun v40 => some ((v40, y37)))))
def m_X10_grows_b187 (x1 : Int32) (x3 : Int32) (x4 : Int32) (y31 : Int32) (y33 : Nat → Int32) (rec187 : Int32 → (Nat → Int32) → Option ((Nat → Int32) × (Nat → Int32))) (y32 : Int32) (y34 : Nat → Int32) : Option ((Nat → Int32) × (Nat → Int32)) :=
  if x3 ≤ y32 then (m_X10_grows_j212 x1 x3 x4 y31 y33 y34) else (wr 144 y34 (x1 + (y32 * y31)) 1 (fun v41 => lt1 (y32 + 1) (fun v42 => rec187 v42 v41)))
def m_X10_grows_j179 (N : Nat) (x1 : Int32) (x3 : Int32) (x4 : Int32) (y27 : Int32) (y28 : Int32) (y29 : Nat → Int32) (y30 : Nat → Int32) : Option ((Nat → Int32) × (Nat → Int32)) :=
  if y27 = 0 then (some ((y29, y30))) else (zl2 (m_X10_grows_b187 x1 x3 x4 y28 y29) N 1 y30)
def m_X10_grows_j171 (rec126 : Int32 → Int32 → Option ((Nat → Int32) × (Nat → Int32))) (y44 : Int32) (y45 : Int32) : Option ((Nat → Int32) × (Nat → Int32)) :=
  lt1 (y44 + 1) (fun v46 => rec126 y45 v46)
def m_X10_grows_j170 (rec126 : Int32 → Int32 → Option ((Nat → Int32) × (Nat → Int32))) (y43 : Int32) : Option ((Nat → Int32) × (Nat → Int32)) :=
  m_X10_grows_j171 rec126 y43 0
def m_X10_grows_b126 (N : Nat) (x1 : Int32) (x3 : Int32) (x4 : Int32) (y23 : Int32) (y25 : Nat → Int32) (y26 : Nat → Int32) (rec126 : Int32 → Int32 → Option ((Nat → Int32) × (Nat → Int32))) (y22 : Int32) (y24 : Int32) : Option ((Nat → Int32) × (Nat → Int32)) :=
  if x3 < y24 then (m_X10_grows_j179 N x1 x3 x4 y22 y23 y25 y26) else (if y22 = 0 then (m_X10_grows_j170 rec126 y24) else (bd1 (m_X10_number y25 (x1 + (y24 * y23))) (fun v47 => if v47 = 0 then (rd 144 y26 (x1 + (y24 * y23)) (fun v48 => if v48 = 0 then (m_X10_grows_j171 rec126 y24 1) else (m_X10_grows_j170 rec126 y24))) else (m_X10_grows_j170 rec126 y24))))
def m_X10_grows_j59 (N : Nat) (x1 : Int32) (x3 : Int32) (x4 : Int32) (y10 : Int32) (y11 : Int32) (y12 : Int32) (y13 : Nat → Int32) (y14 : Nat → Int32) (y15 : Int32) : Option ((Nat → Int32) × (Nat → Int32)) :=
  rd 244 y13 0 (fun v16 => lt1 (m_X10_in (y10 + (x3 * y12)) 0 (v16 - 1)) (fun v17 => if v17 = 0 then (some ((y13, y14))) else (rd 244 y13 1 (fun v18 => lt1 (m_X10_in (y11 + (x3 * y15)) 0 (v18 - 1)) (fun v19 => if v19 = 0 then (some ((y13, y14))) else (rd 244 y13 0 (fun v20 => lt1 (y12 + (v20 * y15)) (fun v21 => zl2 (m_X10_grows_b126 N x1 x3 x4 v21 y13 y14) N 1 1))))))))
def m_X10_grows_j38 (N : Nat) (x1 : Int32) (x2 : Int32) (x3 : Int32) (x4 : Int32) (y5 : Int32) (y6 : Int32) (y7 : Nat → Int32) (y8 : Nat → Int32) (y9 : Int32) : Option ((Nat → Int32) × (Nat → Int32)) :=
  if x2 = 1 then (m_X10_grows_j59 N x1 x3 x4 y5 y6 y9 y7 y8 1) else (if x2 = 3 then (m_X10_grows_j59 N x1 x3 x4 y5 y6 y9 y7 y8 ((-1))) else (m_X10_grows_j59 N x1 x3 x4 y5 y6 y9 y7 y8 0))
def m_X10_grows (N : Nat) (M_s : Nat → Int32) (M_made : Nat → Int32) (x1 : Int32) (x2 : Int32) (x3 : Int32) (x4 : Int32) : Option ((Nat → Int32) × (Nat → Int32)) :=
  rd 244 M_s 0 (fun v1 => rmd x1 v1 (fun v2 => rd 244 M_s 0 (fun v3 => dvd x1 v3 (fun v4 => if x2 = 0 then (m_X10_grows_j38 N x1 x2 x3 x4 v2 v4 M_s M_made 1) else (if x2 = 2 then (m_X10_grows_j38 N x1 x2 x3 x4 v2 v4 M_s M_made ((-1))) else (m_X10_grows_j38 N x1 x2 x3 x4 v2 v4 M_s M_made 0))))))
set_option maxHeartbeats 4000000 in
set_option maxRecDepth 100000 in
theorem c_X10_grows (l : Launch) (D : va_G) (cI cJ cS cB : ClassId) (a : Nat → Nat) (M_pasts : Int32) (M_typed : Int32) (M_ways : Int32) (M_z : Int32) (M_why : Int32) (M_rows : Int32) (M_wide : Int32) (M_column : Int32) (M_found : Int32) (M_s : Nat → Int32) (M_made : Nat → Int32) (x1 : Int32) (x2 : Int32) (x3 : Int32) (x4 : Int32) (N : Nat) (M_s' : Nat → Int32) (M_made' : Nat → Int32) (hm : m_X10_grows N M_s M_made x1 x2 x3 x4 = some (M_s', M_made')) :
    mU l D (TYs cI cJ cS cB) yX10_grows wsX10_grows { frames := 1, cells := 0, slots := 0, locals := 22 } [.ref (a 35), .int x1, .int x2, .int x3, .int x4] [o_M a M_pasts M_typed M_ways M_z M_why M_rows M_wide M_column M_found, ai (a 36) cI 244 M_s, ai (a 43) cI 144 M_made] [o_M a M_pasts M_typed M_ways M_z M_why M_rows M_wide M_column M_found, ai (a 36) cI 244 M_s', ai (a 43) cI 144 M_made'] none := by
  refine mG_of (cc := cX10_grows) (maxL := 12) (ret := none) (by decide) rfl rfl (Nat.le_of_ble_eq_true rfl) ?_
  intro p e s m args below meth c A hx hb hr hml hlk hnm hts hown hK hP hD hA hS ls hl
  have hl : lv_has ls 12 [(0, .ref (a 35)), (1, .int x1), (2, .int x2), (3, .int x3), (4, .int x4)] := hl
  have hiX10 : ∀ w ∈ wsX100, w ∈ wsX10_grows := fun w h => List.mem_cons_of_mem _ (List.mem_append_right _ h)
  unfold m_X10_grows at hm
  have h212 : ∀ (y35 : Int32) (y36 : Nat → Int32) (y37 : Nat → Int32), m_X10_grows_j212 x1 x3 x4 y35 y36 y37 = some (M_s', M_made') → ∀ (H : Heap) (locs : List Loc), va_P D vwCl [o_M a M_pasts M_typed M_ways M_z M_why M_rows M_wide M_column M_found, ai (a 36) cI 244 y36, ai (a 43) cI 144 y37] H → va_D A [o_M a M_pasts M_typed M_ways M_z M_why M_rows M_wide M_column M_found, ai (a 36) cI 244 y36, ai (a 43) cI 144 y37] → va_S A s.heap H locs → ∀ ls : Array Slot, lv_has ls 12 [(0, .ref (a 35)), (1, .int x1), (3, .int x3), (4, .int x4), (10, .int y35)] → W p l e { frames := 1, cells := 0, slots := 0, locals := 22 } s m args below meth c H locs 0 0 (MQ below (eQ D none (fun _ : Unit => [o_M a M_pasts M_typed M_ways M_z M_why M_rows M_wide M_column M_found, ai (a 36) cI 244 M_s', ai (a 43) cI 144 M_made']) A) args s 0 0 A) (F0 m 212 ls []) := by
    intro y35 y36 y37 hm H locs hP hD hS ls hl
    unfold m_X10_grows_j212 at hm
    refine lv_aload_n hx hb dX10_grows_212 rfl (lv_at hl 0 rfl) ?_
    refine va_get (D := D) (ci := 10) (v := .ref (a 36)) (C := RX10) (T := TX10) (N := 17) hx hb hts hiX10 hown hK.1 hP 0 rfl rfl 0 (by decide) (hts (.fieldLink RX10 7 "IslandBridgesModel" "s" "[I") (List.mem_of_getElem? (i := 1) rfl)) (fun _ h9 => h9) rfl dX10_grows_213 ?_
    refine lv_iconst (v := 4) hx hb dX10_grows_216 (by decide) ?_
    refine lv_iload_n hx hb dX10_grows_217 rfl (lv_at hl 1 rfl) ?_
    refine lv_iadd hx hb dX10_grows_218 ?_
    refine lv_dup2_11 hx hb dX10_grows_219 rfl rfl ?_
    obtain ⟨v38, nv38, ev38, hm⟩ := rd_inv hm
    refine va_iald hx hb hK.1 hP 1 0 rfl rfl nv38 dX10_grows_220 ?_
    refine ltop ev38 ?_
    refine lv_iload hx hb dX10_grows_221 (lv_at hl 3 rfl) ?_
    refine lv_iadd hx hb dX10_grows_223 ?_
    obtain ⟨v39, nv39, ev39, hm⟩ := wr_inv hm
    refine va_iast hx hb hK.1 hP hD hS 1 0 rfl rfl nv39 dX10_grows_224 (fun H locs hP hD hS => ?_)
    have hP : va_P D vwCl [o_M a M_pasts M_typed M_ways M_z M_why M_rows M_wide M_column M_found, ai (a 36) cI 244 v39, ai (a 43) cI 144 y37] H := by rw [← ev39]; exact hP
    have hD : va_D A [o_M a M_pasts M_typed M_ways M_z M_why M_rows M_wide M_column M_found, ai (a 36) cI 244 v39, ai (a 43) cI 144 y37] := by rw [← ev39]; exact hD
    refine lv_aload_n hx hb dX10_grows_225 rfl (lv_at hl 0 rfl) ?_
    refine va_get (D := D) (ci := 10) (v := .ref (a 36)) (C := RX10) (T := TX10) (N := 17) hx hb hts hiX10 hown hK.1 hP 0 rfl rfl 0 (by decide) (hts (.fieldLink RX10 7 "IslandBridgesModel" "s" "[I") (List.mem_of_getElem? (i := 1) rfl)) (fun _ h9 => h9) rfl dX10_grows_226 ?_
    refine lv_iconst (v := 4) hx hb dX10_grows_229 (by decide) ?_
    refine lv_iload_n hx hb dX10_grows_230 rfl (lv_at hl 1 rfl) ?_
    refine lv_iadd hx hb dX10_grows_231 ?_
    refine lv_iload_n hx hb dX10_grows_232 rfl (lv_at hl 2 rfl) ?_
    refine lv_iload hx hb dX10_grows_233 (lv_at hl 4 rfl) ?_
    refine lv_imul hx hb dX10_grows_235 ?_
    refine lv_iadd hx hb dX10_grows_236 ?_
    refine lv_iconst (v := 1) hx hb dX10_grows_237 (by decide) ?_
    refine lv_iload hx hb dX10_grows_238 (lv_at hl 3 rfl) ?_
    refine lv_iadd hx hb dX10_grows_240 ?_
    obtain ⟨v40, nv40, ev40, hm⟩ := wr_inv hm
    refine va_iast hx hb hK.1 hP hD hS 1 0 rfl rfl nv40 dX10_grows_241 (fun H locs hP hD hS => ?_)
    have hP : va_P D vwCl [o_M a M_pasts M_typed M_ways M_z M_why M_rows M_wide M_column M_found, ai (a 36) cI 244 v40, ai (a 43) cI 144 y37] H := by rw [← ev40]; exact hP
    have hD : va_D A [o_M a M_pasts M_typed M_ways M_z M_why M_rows M_wide M_column M_found, ai (a 36) cI 244 v40, ai (a 43) cI 144 y37] := by rw [← ev40]; exact hD
    cases hm
    exact rV () hx hb hr hlk hP hD hS dX10_grows_242
  have h187 : ∀ (y31 : Int32) (y33 : Nat → Int32), ∀ (n : Nat) (y32 : Int32) (y34 : Nat → Int32), zl2 (m_X10_grows_b187 x1 x3 x4 y31 y33) n y32 y34 = some (M_s', M_made') → ∀ (H : Heap) (locs : List Loc), va_P D vwCl [o_M a M_pasts M_typed M_ways M_z M_why M_rows M_wide M_column M_found, ai (a 36) cI 244 y33, ai (a 43) cI 144 y34] H → va_D A [o_M a M_pasts M_typed M_ways M_z M_why M_rows M_wide M_column M_found, ai (a 36) cI 244 y33, ai (a 43) cI 144 y34] → va_S A s.heap H locs → ∀ ls : Array Slot, lv_has ls 12 [(0, .ref (a 35)), (1, .int x1), (3, .int x3), (4, .int x4), (10, .int y31), (11, .int y32)] → W p l e { frames := 1, cells := 0, slots := 0, locals := 22 } s m args below meth c H locs 0 0 (MQ below (eQ D none (fun _ : Unit => [o_M a M_pasts M_typed M_ways M_z M_why M_rows M_wide M_column M_found, ai (a 36) cI 244 M_s', ai (a 43) cI 144 M_made']) A) args s 0 0 A) (F0 m 187 ls []) := by
    intro y31 y33
    refine zl2_ind (fun rec187 ih187 y32 y34 hm => ?_)
    intro H locs hP hD hS ls hl
    unfold m_X10_grows_b187 at hm
    refine lv_iload hx hb dX10_grows_187 (lv_at hl 5 rfl) ?_
    refine lv_iload_n hx hb dX10_grows_189 rfl (lv_at hl 2 rfl) ?_
    refine lv_icmp_ge (tgt := 212) hx hb dX10_grows_190 (by decide) (fun c190 => ?_) (fun c190 => ?_)
    · have hm := ip c190 hm
      exact h212 y31 y33 y34 hm _ _ hP hD hS ls (lv_sub hl [0, 1, 2, 3, 4] rfl)
    · have hm := ine c190 hm
      refine lv_aload_n hx hb dX10_grows_193 rfl (lv_at hl 0 rfl) ?_
      refine va_get (D := D) (ci := 10) (v := .ref (a 43)) (C := RX10) (T := TX10) (N := 17) hx hb hts hiX10 hown hK.1 hP 0 rfl rfl 11 (by decide) (hts (.fieldLink RX10 32 "IslandBridgesModel" "made" "[I") (List.mem_of_getElem? (i := 2) rfl)) (fun _ h9 => h9) rfl dX10_grows_194 ?_
      refine lv_iload_n hx hb dX10_grows_197 rfl (lv_at hl 1 rfl) ?_
      refine lv_iload hx hb dX10_grows_198 (lv_at hl 5 rfl) ?_
      refine lv_iload hx hb dX10_grows_200 (lv_at hl 4 rfl) ?_
      refine lv_imul hx hb dX10_grows_202 ?_
      refine lv_iadd hx hb dX10_grows_203 ?_
      refine lv_iconst (v := 1) hx hb dX10_grows_204 (by decide) ?_
      obtain ⟨v41, nv41, ev41, hm⟩ := wr_inv hm
      refine va_iast hx hb hK.1 hP hD hS 2 0 rfl rfl nv41 dX10_grows_205 (fun H locs hP hD hS => ?_)
      have hP : va_P D vwCl [o_M a M_pasts M_typed M_ways M_z M_why M_rows M_wide M_column M_found, ai (a 36) cI 244 y33, ai (a 43) cI 144 v41] H := by rw [← ev41]; exact hP
      have hD : va_D A [o_M a M_pasts M_typed M_ways M_z M_why M_rows M_wide M_column M_found, ai (a 36) cI 244 y33, ai (a 43) cI 144 v41] := by rw [← ev41]; exact hD
      obtain ⟨v42, ev42, hm⟩ := lt1_inv hm
      refine lv_iinc (v := v42) (lv' := [(11, .int v42), (0, .ref (a 35)), (1, .int x1), (3, .int x3), (4, .int x4), (10, .int y31)]) hx hb dX10_grows_206 hl (k := 5) rfl ev42 (by decide) rfl (fun ls hl => ?_)
      refine lv_goto (tgt := 187) hx hb dX10_grows_209 (by decide) ?_
      exact ih187 v42 v41 hm _ _ hP hD hS ls (lv_sub hl [1, 2, 3, 4, 5, 0] rfl)
  have h179 : ∀ (y27 : Int32) (y28 : Int32) (y29 : Nat → Int32) (y30 : Nat → Int32), m_X10_grows_j179 N x1 x3 x4 y27 y28 y29 y30 = some (M_s', M_made') → ∀ (H : Heap) (locs : List Loc), va_P D vwCl [o_M a M_pasts M_typed M_ways M_z M_why M_rows M_wide M_column M_found, ai (a 36) cI 244 y29, ai (a 43) cI 144 y30] H → va_D A [o_M a M_pasts M_typed M_ways M_z M_why M_rows M_wide M_column M_found, ai (a 36) cI 244 y29, ai (a 43) cI 144 y30] → va_S A s.heap H locs → ∀ ls : Array Slot, lv_has ls 12 [(0, .ref (a 35)), (1, .int x1), (3, .int x3), (4, .int x4), (9, .int y27), (10, .int y28)] → W p l e { frames := 1, cells := 0, slots := 0, locals := 22 } s m args below meth c H locs 0 0 (MQ below (eQ D none (fun _ : Unit => [o_M a M_pasts M_typed M_ways M_z M_why M_rows M_wide M_column M_found, ai (a 36) cI 244 M_s', ai (a 43) cI 144 M_made']) A) args s 0 0 A) (F0 m 179 ls []) := by
    intro y27 y28 y29 y30 hm H locs hP hD hS ls hl
    unfold m_X10_grows_j179 at hm
    refine lv_iload hx hb dX10_grows_179 (lv_at hl 4 rfl) ?_
    refine lv_if_eq (tgt := 242) hx hb dX10_grows_181 (by decide) (fun c181 => ?_) (fun c181 => ?_)
    · have hm := ip c181 hm
      cases hm
      exact rV () hx hb hr hlk hP hD hS dX10_grows_242
    · have hm := ine c181 hm
      refine lv_iconst (v := 1) hx hb dX10_grows_184 (by decide) ?_
      refine lv_istore (lv' := [(11, .int 1), (0, .ref (a 35)), (1, .int x1), (3, .int x3), (4, .int x4), (9, .int y27), (10, .int y28)]) hx hb dX10_grows_185 hl (by decide) rfl (fun ls hl => ?_)
      exact h187 y28 y29 N 1 y30 hm _ _ hP hD hS ls (lv_sub hl [1, 2, 3, 4, 6, 0] rfl)
  have h126 : ∀ (y23 : Int32) (y25 : Nat → Int32) (y26 : Nat → Int32), ∀ (n : Nat) (y22 : Int32) (y24 : Int32), zl2 (m_X10_grows_b126 N x1 x3 x4 y23 y25 y26) n y22 y24 = some (M_s', M_made') → ∀ (H : Heap) (locs : List Loc), va_P D vwCl [o_M a M_pasts M_typed M_ways M_z M_why M_rows M_wide M_column M_found, ai (a 36) cI 244 y25, ai (a 43) cI 144 y26] H → va_D A [o_M a M_pasts M_typed M_ways M_z M_why M_rows M_wide M_column M_found, ai (a 36) cI 244 y25, ai (a 43) cI 144 y26] → va_S A s.heap H locs → ∀ ls : Array Slot, lv_has ls 12 [(0, .ref (a 35)), (1, .int x1), (3, .int x3), (4, .int x4), (9, .int y22), (10, .int y23), (11, .int y24)] → W p l e { frames := 1, cells := 0, slots := 0, locals := 22 } s m args below meth c H locs 0 0 (MQ below (eQ D none (fun _ : Unit => [o_M a M_pasts M_typed M_ways M_z M_why M_rows M_wide M_column M_found, ai (a 36) cI 244 M_s', ai (a 43) cI 144 M_made']) A) args s 0 0 A) (F0 m 126 ls []) := by
    intro y23 y25 y26
    refine zl2_ind (fun rec126 ih126 y22 y24 hm => ?_)
    have h171 : ∀ (y44 : Int32) (y45 : Int32), m_X10_grows_j171 rec126 y44 y45 = some (M_s', M_made') → ∀ (H : Heap) (locs : List Loc), va_P D vwCl [o_M a M_pasts M_typed M_ways M_z M_why M_rows M_wide M_column M_found, ai (a 36) cI 244 y25, ai (a 43) cI 144 y26] H → va_D A [o_M a M_pasts M_typed M_ways M_z M_why M_rows M_wide M_column M_found, ai (a 36) cI 244 y25, ai (a 43) cI 144 y26] → va_S A s.heap H locs → ∀ ls : Array Slot, lv_has ls 12 [(0, .ref (a 35)), (1, .int x1), (3, .int x3), (4, .int x4), (10, .int y23), (11, .int y44)] → W p l e { frames := 1, cells := 0, slots := 0, locals := 22 } s m args below meth c H locs 0 0 (MQ below (eQ D none (fun _ : Unit => [o_M a M_pasts M_typed M_ways M_z M_why M_rows M_wide M_column M_found, ai (a 36) cI 244 M_s', ai (a 43) cI 144 M_made']) A) args s 0 0 A) (F0 m 171 ls [.int y45]) := by
      intro y44 y45 hm H locs hP hD hS ls hl
      unfold m_X10_grows_j171 at hm
      refine lv_istore (lv' := [(9, .int y45), (0, .ref (a 35)), (1, .int x1), (3, .int x3), (4, .int x4), (10, .int y23), (11, .int y44)]) hx hb dX10_grows_171 hl (by decide) rfl (fun ls hl => ?_)
      obtain ⟨v46, ev46, hm⟩ := lt1_inv hm
      refine lv_iinc (v := v46) (lv' := [(11, .int v46), (9, .int y45), (0, .ref (a 35)), (1, .int x1), (3, .int x3), (4, .int x4), (10, .int y23)]) hx hb dX10_grows_173 hl (k := 6) rfl ev46 (by decide) rfl (fun ls hl => ?_)
      refine lv_goto (tgt := 126) hx hb dX10_grows_176 (by decide) ?_
      exact ih126 y45 v46 hm _ _ hP hD hS ls (lv_sub hl [2, 3, 4, 5, 1, 6, 0] rfl)
    have h170 : ∀ (y43 : Int32), m_X10_grows_j170 rec126 y43 = some (M_s', M_made') → ∀ (H : Heap) (locs : List Loc), va_P D vwCl [o_M a M_pasts M_typed M_ways M_z M_why M_rows M_wide M_column M_found, ai (a 36) cI 244 y25, ai (a 43) cI 144 y26] H → va_D A [o_M a M_pasts M_typed M_ways M_z M_why M_rows M_wide M_column M_found, ai (a 36) cI 244 y25, ai (a 43) cI 144 y26] → va_S A s.heap H locs → ∀ ls : Array Slot, lv_has ls 12 [(0, .ref (a 35)), (1, .int x1), (3, .int x3), (4, .int x4), (10, .int y23), (11, .int y43)] → W p l e { frames := 1, cells := 0, slots := 0, locals := 22 } s m args below meth c H locs 0 0 (MQ below (eQ D none (fun _ : Unit => [o_M a M_pasts M_typed M_ways M_z M_why M_rows M_wide M_column M_found, ai (a 36) cI 244 M_s', ai (a 43) cI 144 M_made']) A) args s 0 0 A) (F0 m 170 ls []) := by
      intro y43 hm H locs hP hD hS ls hl
      unfold m_X10_grows_j170 at hm
      refine lv_iconst (v := 0) hx hb dX10_grows_170 (by decide) ?_
      exact h171 y43 0 hm _ _ hP hD hS ls (lv_sub hl [0, 1, 2, 3, 4, 5] rfl)
    intro H locs hP hD hS ls hl
    unfold m_X10_grows_b126 at hm
    refine lv_iload hx hb dX10_grows_126 (lv_at hl 6 rfl) ?_
    refine lv_iload_n hx hb dX10_grows_128 rfl (lv_at hl 2 rfl) ?_
    refine lv_icmp_gt (tgt := 179) hx hb dX10_grows_129 (by decide) (fun c129 => ?_) (fun c129 => ?_)
    · have hm := ip c129 hm
      exact h179 y22 y23 y25 y26 hm _ _ hP hD hS ls (lv_sub hl [0, 1, 2, 3, 4, 5] rfl)
    · have hm := ine c129 hm
      refine lv_iload hx hb dX10_grows_132 (lv_at hl 4 rfl) ?_
      refine lv_if_eq (tgt := 170) hx hb dX10_grows_134 (by decide) (fun c134 => ?_) (fun c134 => ?_)
      · have hm := ip c134 hm
        exact h170 y24 hm _ _ hP hD hS ls (lv_sub hl [0, 1, 2, 3, 5, 6] rfl)
      · have hm := ine c134 hm
        refine lv_aload_n hx hb dX10_grows_137 rfl (lv_at hl 0 rfl) ?_
        refine lv_iload_n hx hb dX10_grows_138 rfl (lv_at hl 1 rfl) ?_
        refine lv_iload hx hb dX10_grows_139 (lv_at hl 6 rfl) ?_
        refine lv_iload hx hb dX10_grows_141 (lv_at hl 5 rfl) ?_
        refine lv_imul hx hb dX10_grows_143 ?_
        refine lv_iadd hx hb dX10_grows_144 ?_
        obtain ⟨v47, h_v47, hm⟩ := bd1_inv hm
        refine cVs ⟨hx, hb, hml, hown, hts⟩ (c_X10_number l D cI cJ cS cB a M_pasts M_typed M_ways M_z M_why M_rows M_wide M_column M_found y25 (x1 + (y24 * y23)) v47 h_v47) (cwV 1 hts gX10_grows_X10_number rfl rfl rfl hd_X10_number ⟨(Nat.le_of_ble_eq_true rfl), (Nat.le_of_ble_eq_true rfl)⟩) hK hP hD hS hA [0, 1] rfl rfl rfl hl.1 (Nat.le_of_ble_eq_true rfl) ⟨Nat.zero_le _, Nat.zero_le _⟩ 0 rfl rfl rfl rfl dX10_grows_145 (fun H locs hP hD hS => ?_)
        refine lv_if_ne (tgt := 170) hx hb dX10_grows_148 (by decide) (fun c148 => ?_) (fun c148 => ?_)
        · have hm := ine c148 hm
          exact h170 y24 hm _ _ hP hD hS ls (lv_sub hl [0, 1, 2, 3, 5, 6] rfl)
        · have hm := ip c148 hm
          refine lv_aload_n hx hb dX10_grows_151 rfl (lv_at hl 0 rfl) ?_
          refine va_get (D := D) (ci := 10) (v := .ref (a 43)) (C := RX10) (T := TX10) (N := 17) hx hb hts hiX10 hown hK.1 hP 0 rfl rfl 11 (by decide) (hts (.fieldLink RX10 32 "IslandBridgesModel" "made" "[I") (List.mem_of_getElem? (i := 2) rfl)) (fun _ h9 => h9) rfl dX10_grows_152 ?_
          refine lv_iload_n hx hb dX10_grows_155 rfl (lv_at hl 1 rfl) ?_
          refine lv_iload hx hb dX10_grows_156 (lv_at hl 6 rfl) ?_
          refine lv_iload hx hb dX10_grows_158 (lv_at hl 5 rfl) ?_
          refine lv_imul hx hb dX10_grows_160 ?_
          refine lv_iadd hx hb dX10_grows_161 ?_
          obtain ⟨v48, nv48, ev48, hm⟩ := rd_inv hm
          refine va_iald hx hb hK.1 hP 2 0 rfl rfl nv48 dX10_grows_162 ?_
          refine ltop ev48 ?_
          refine lv_if_ne (tgt := 170) hx hb dX10_grows_163 (by decide) (fun c163 => ?_) (fun c163 => ?_)
          · have hm := ine c163 hm
            exact h170 y24 hm _ _ hP hD hS ls (lv_sub hl [0, 1, 2, 3, 5, 6] rfl)
          · have hm := ip c163 hm
            refine lv_iconst (v := 1) hx hb dX10_grows_166 (by decide) ?_
            refine lv_goto (tgt := 171) hx hb dX10_grows_167 (by decide) ?_
            exact h171 y24 1 hm _ _ hP hD hS ls (lv_sub hl [0, 1, 2, 3, 5, 6] rfl)
  have h59 : ∀ (y10 : Int32) (y11 : Int32) (y12 : Int32) (y13 : Nat → Int32) (y14 : Nat → Int32) (y15 : Int32), m_X10_grows_j59 N x1 x3 x4 y10 y11 y12 y13 y14 y15 = some (M_s', M_made') → ∀ (H : Heap) (locs : List Loc), va_P D vwCl [o_M a M_pasts M_typed M_ways M_z M_why M_rows M_wide M_column M_found, ai (a 36) cI 244 y13, ai (a 43) cI 144 y14] H → va_D A [o_M a M_pasts M_typed M_ways M_z M_why M_rows M_wide M_column M_found, ai (a 36) cI 244 y13, ai (a 43) cI 144 y14] → va_S A s.heap H locs → ∀ ls : Array Slot, lv_has ls 12 [(0, .ref (a 35)), (1, .int x1), (3, .int x3), (4, .int x4), (5, .int y10), (6, .int y11), (7, .int y12)] → W p l e { frames := 1, cells := 0, slots := 0, locals := 22 } s m args below meth c H locs 0 0 (MQ below (eQ D none (fun _ : Unit => [o_M a M_pasts M_typed M_ways M_z M_why M_rows M_wide M_column M_found, ai (a 36) cI 244 M_s', ai (a 43) cI 144 M_made']) A) args s 0 0 A) (F0 m 59 ls [.int y15]) := by
    intro y10 y11 y12 y13 y14 y15 hm H locs hP hD hS ls hl
    unfold m_X10_grows_j59 at hm
    refine lv_istore (lv' := [(8, .int y15), (0, .ref (a 35)), (1, .int x1), (3, .int x3), (4, .int x4), (5, .int y10), (6, .int y11), (7, .int y12)]) hx hb dX10_grows_59 hl (by decide) rfl (fun ls hl => ?_)
    refine lv_iload hx hb dX10_grows_61 (lv_at hl 5 rfl) ?_
    refine lv_iload_n hx hb dX10_grows_63 rfl (lv_at hl 3 rfl) ?_
    refine lv_iload hx hb dX10_grows_64 (lv_at hl 7 rfl) ?_
    refine lv_imul hx hb dX10_grows_66 ?_
    refine lv_iadd hx hb dX10_grows_67 ?_
    refine lv_iconst (v := 0) hx hb dX10_grows_68 (by decide) ?_
    refine lv_aload_n hx hb dX10_grows_69 rfl (lv_at hl 1 rfl) ?_
    refine va_get (D := D) (ci := 10) (v := .ref (a 36)) (C := RX10) (T := TX10) (N := 17) hx hb hts hiX10 hown hK.1 hP 0 rfl rfl 0 (by decide) (hts (.fieldLink RX10 7 "IslandBridgesModel" "s" "[I") (List.mem_of_getElem? (i := 1) rfl)) (fun _ h9 => h9) rfl dX10_grows_70 ?_
    refine lv_iconst (v := 0) hx hb dX10_grows_73 (by decide) ?_
    obtain ⟨v16, nv16, ev16, hm⟩ := rd_inv hm
    refine va_iald hx hb hK.1 hP 1 0 rfl rfl nv16 dX10_grows_74 ?_
    refine ltop ev16 ?_
    refine lv_iconst (v := 1) hx hb dX10_grows_75 (by decide) ?_
    refine lv_isub hx hb dX10_grows_76 ?_
    obtain ⟨v17, h_v17, hm⟩ := lt1_inv hm
    refine cSs ⟨hx, hb, hml, hown, hts⟩ (c_X10_in l D cI cJ cS cB a  (y10 + (x3 * y12)) 0 (v16 - 1) v17 h_v17) (va_cwS 3 hts gX10_grows_X10_in rfl rfl rfl hd_X10_in ⟨(Nat.le_of_ble_eq_true rfl), (Nat.le_of_ble_eq_true rfl)⟩) hK hP hD hS hA [] rfl rfl rfl hl.1 (Nat.le_of_ble_eq_true rfl) ⟨Nat.zero_le _, Nat.zero_le _⟩ rfl dX10_grows_77 (fun H locs hP hD hS => ?_)
    refine lv_if_eq (tgt := 105) hx hb dX10_grows_80 (by decide) (fun c80 => ?_) (fun c80 => ?_)
    · have hm := ip c80 hm
      cases hm
      exact rV () hx hb hr hlk hP hD hS dX10_grows_105
    · have hm := ine c80 hm
      refine lv_iload hx hb dX10_grows_83 (lv_at hl 6 rfl) ?_
      refine lv_iload_n hx hb dX10_grows_85 rfl (lv_at hl 3 rfl) ?_
      refine lv_iload hx hb dX10_grows_86 (lv_at hl 0 rfl) ?_
      refine lv_imul hx hb dX10_grows_88 ?_
      refine lv_iadd hx hb dX10_grows_89 ?_
      refine lv_iconst (v := 0) hx hb dX10_grows_90 (by decide) ?_
      refine lv_aload_n hx hb dX10_grows_91 rfl (lv_at hl 1 rfl) ?_
      refine va_get (D := D) (ci := 10) (v := .ref (a 36)) (C := RX10) (T := TX10) (N := 17) hx hb hts hiX10 hown hK.1 hP 0 rfl rfl 0 (by decide) (hts (.fieldLink RX10 7 "IslandBridgesModel" "s" "[I") (List.mem_of_getElem? (i := 1) rfl)) (fun _ h9 => h9) rfl dX10_grows_92 ?_
      refine lv_iconst (v := 1) hx hb dX10_grows_95 (by decide) ?_
      obtain ⟨v18, nv18, ev18, hm⟩ := rd_inv hm
      refine va_iald hx hb hK.1 hP 1 0 rfl rfl nv18 dX10_grows_96 ?_
      refine ltop ev18 ?_
      refine lv_iconst (v := 1) hx hb dX10_grows_97 (by decide) ?_
      refine lv_isub hx hb dX10_grows_98 ?_
      obtain ⟨v19, h_v19, hm⟩ := lt1_inv hm
      refine cSs ⟨hx, hb, hml, hown, hts⟩ (c_X10_in l D cI cJ cS cB a  (y11 + (x3 * y15)) 0 (v18 - 1) v19 h_v19) (va_cwS 3 hts gX10_grows_X10_in rfl rfl rfl hd_X10_in ⟨(Nat.le_of_ble_eq_true rfl), (Nat.le_of_ble_eq_true rfl)⟩) hK hP hD hS hA [] rfl rfl rfl hl.1 (Nat.le_of_ble_eq_true rfl) ⟨Nat.zero_le _, Nat.zero_le _⟩ rfl dX10_grows_99 (fun H locs hP hD hS => ?_)
      refine lv_if_ne (tgt := 106) hx hb dX10_grows_102 (by decide) (fun c102 => ?_) (fun c102 => ?_)
      · have hm := ine c102 hm
        refine lv_iconst (v := 1) hx hb dX10_grows_106 (by decide) ?_
        refine lv_istore (lv' := [(9, .int 1), (8, .int y15), (0, .ref (a 35)), (1, .int x1), (3, .int x3), (4, .int x4), (5, .int y10), (6, .int y11), (7, .int y12)]) hx hb dX10_grows_107 hl (by decide) rfl (fun ls hl => ?_)
        refine lv_iload hx hb dX10_grows_109 (lv_at hl 8 rfl) ?_
        refine lv_aload_n hx hb dX10_grows_111 rfl (lv_at hl 2 rfl) ?_
        refine va_get (D := D) (ci := 10) (v := .ref (a 36)) (C := RX10) (T := TX10) (N := 17) hx hb hts hiX10 hown hK.1 hP 0 rfl rfl 0 (by decide) (hts (.fieldLink RX10 7 "IslandBridgesModel" "s" "[I") (List.mem_of_getElem? (i := 1) rfl)) (fun _ h9 => h9) rfl dX10_grows_112 ?_
        refine lv_iconst (v := 0) hx hb dX10_grows_115 (by decide) ?_
        obtain ⟨v20, nv20, ev20, hm⟩ := rd_inv hm
        refine va_iald hx hb hK.1 hP 1 0 rfl rfl nv20 dX10_grows_116 ?_
        refine ltop ev20 ?_
        refine lv_iload hx hb dX10_grows_117 (lv_at hl 1 rfl) ?_
        refine lv_imul hx hb dX10_grows_119 ?_
        refine lv_iadd hx hb dX10_grows_120 ?_
        obtain ⟨v21, ev21, hm⟩ := lt1_inv hm
        refine ltop ev21 ?_
        refine lv_istore (lv' := [(10, .int v21), (9, .int 1), (8, .int y15), (0, .ref (a 35)), (1, .int x1), (3, .int x3), (4, .int x4), (5, .int y10), (6, .int y11), (7, .int y12)]) hx hb dX10_grows_121 hl (by decide) rfl (fun ls hl => ?_)
        refine lv_iconst (v := 1) hx hb dX10_grows_123 (by decide) ?_
        refine lv_istore (lv' := [(11, .int 1), (10, .int v21), (9, .int 1), (8, .int y15), (0, .ref (a 35)), (1, .int x1), (3, .int x3), (4, .int x4), (5, .int y10), (6, .int y11), (7, .int y12)]) hx hb dX10_grows_124 hl (by decide) rfl (fun ls hl => ?_)
        exact h126 v21 y13 y14 N 1 1 hm _ _ hP hD hS ls (lv_sub hl [4, 5, 6, 7, 2, 1, 0] rfl)
      · have hm := ip c102 hm
        cases hm
        exact rV () hx hb hr hlk hP hD hS dX10_grows_105
  have h38 : ∀ (y5 : Int32) (y6 : Int32) (y7 : Nat → Int32) (y8 : Nat → Int32) (y9 : Int32), m_X10_grows_j38 N x1 x2 x3 x4 y5 y6 y7 y8 y9 = some (M_s', M_made') → ∀ (H : Heap) (locs : List Loc), va_P D vwCl [o_M a M_pasts M_typed M_ways M_z M_why M_rows M_wide M_column M_found, ai (a 36) cI 244 y7, ai (a 43) cI 144 y8] H → va_D A [o_M a M_pasts M_typed M_ways M_z M_why M_rows M_wide M_column M_found, ai (a 36) cI 244 y7, ai (a 43) cI 144 y8] → va_S A s.heap H locs → ∀ ls : Array Slot, lv_has ls 12 [(0, .ref (a 35)), (1, .int x1), (2, .int x2), (3, .int x3), (4, .int x4), (5, .int y5), (6, .int y6)] → W p l e { frames := 1, cells := 0, slots := 0, locals := 22 } s m args below meth c H locs 0 0 (MQ below (eQ D none (fun _ : Unit => [o_M a M_pasts M_typed M_ways M_z M_why M_rows M_wide M_column M_found, ai (a 36) cI 244 M_s', ai (a 43) cI 144 M_made']) A) args s 0 0 A) (F0 m 38 ls [.int y9]) := by
    intro y5 y6 y7 y8 y9 hm H locs hP hD hS ls hl
    unfold m_X10_grows_j38 at hm
    refine lv_istore (lv' := [(7, .int y9), (0, .ref (a 35)), (1, .int x1), (2, .int x2), (3, .int x3), (4, .int x4), (5, .int y5), (6, .int y6)]) hx hb dX10_grows_38 hl (by decide) rfl (fun ls hl => ?_)
    refine lv_iload_n hx hb dX10_grows_40 rfl (lv_at hl 3 rfl) ?_
    refine lv_iconst (v := 1) hx hb dX10_grows_41 (by decide) ?_
    refine lv_icmp_ne (tgt := 49) hx hb dX10_grows_42 (by decide) (fun c42 => ?_) (fun c42 => ?_)
    · have hm := ine c42 hm
      refine lv_iload_n hx hb dX10_grows_49 rfl (lv_at hl 3 rfl) ?_
      refine lv_iconst (v := 3) hx hb dX10_grows_50 (by decide) ?_
      refine lv_icmp_ne (tgt := 58) hx hb dX10_grows_51 (by decide) (fun c51 => ?_) (fun c51 => ?_)
      · have hm := ine c51 hm
        refine lv_iconst (v := 0) hx hb dX10_grows_58 (by decide) ?_
        exact h59 y5 y6 y9 y7 y8 0 hm _ _ hP hD hS ls (lv_sub hl [1, 2, 4, 5, 6, 7, 0] rfl)
      · have hm := ip c51 hm
        refine lv_iconst (v := (-1)) hx hb dX10_grows_54 (by decide) ?_
        refine lv_goto (tgt := 59) hx hb dX10_grows_55 (by decide) ?_
        exact h59 y5 y6 y9 y7 y8 ((-1)) hm _ _ hP hD hS ls (lv_sub hl [1, 2, 4, 5, 6, 7, 0] rfl)
    · have hm := ip c42 hm
      refine lv_iconst (v := 1) hx hb dX10_grows_45 (by decide) ?_
      refine lv_goto (tgt := 59) hx hb dX10_grows_46 (by decide) ?_
      exact h59 y5 y6 y9 y7 y8 1 hm _ _ hP hD hS ls (lv_sub hl [1, 2, 4, 5, 6, 7, 0] rfl)
  refine lv_iload_n hx hb dX10_grows_0 rfl (lv_at hl 1 rfl) ?_
  refine lv_aload_n hx hb dX10_grows_1 rfl (lv_at hl 0 rfl) ?_
  refine va_get (D := D) (ci := 10) (v := .ref (a 36)) (C := RX10) (T := TX10) (N := 17) hx hb hts hiX10 hown hK.1 hP 0 rfl rfl 0 (by decide) (hts (.fieldLink RX10 7 "IslandBridgesModel" "s" "[I") (List.mem_of_getElem? (i := 1) rfl)) (fun _ h9 => h9) rfl dX10_grows_2 ?_
  refine lv_iconst (v := 0) hx hb dX10_grows_5 (by decide) ?_
  obtain ⟨v1, nv1, ev1, hm⟩ := rd_inv hm
  refine va_iald hx hb hK.1 hP 1 0 rfl rfl nv1 dX10_grows_6 ?_
  refine ltop ev1 ?_
  obtain ⟨v2, nv2, ev2, hm⟩ := rmd_inv hm
  refine lv_irem hx hb dX10_grows_7 nv2 ?_
  refine ltop ev2 ?_
  refine lv_istore (lv' := [(5, .int v2), (0, .ref (a 35)), (1, .int x1), (2, .int x2), (3, .int x3), (4, .int x4)]) hx hb dX10_grows_8 hl (by decide) rfl (fun ls hl => ?_)
  refine lv_iload_n hx hb dX10_grows_10 rfl (lv_at hl 2 rfl) ?_
  refine lv_aload_n hx hb dX10_grows_11 rfl (lv_at hl 1 rfl) ?_
  refine va_get (D := D) (ci := 10) (v := .ref (a 36)) (C := RX10) (T := TX10) (N := 17) hx hb hts hiX10 hown hK.1 hP 0 rfl rfl 0 (by decide) (hts (.fieldLink RX10 7 "IslandBridgesModel" "s" "[I") (List.mem_of_getElem? (i := 1) rfl)) (fun _ h9 => h9) rfl dX10_grows_12 ?_
  refine lv_iconst (v := 0) hx hb dX10_grows_15 (by decide) ?_
  obtain ⟨v3, nv3, ev3, hm⟩ := rd_inv hm
  refine va_iald hx hb hK.1 hP 1 0 rfl rfl nv3 dX10_grows_16 ?_
  refine ltop ev3 ?_
  obtain ⟨v4, nv4, ev4, hm⟩ := dvd_inv hm
  refine lv_idiv hx hb dX10_grows_17 nv4 ?_
  refine ltop ev4 ?_
  refine lv_istore (lv' := [(6, .int v4), (5, .int v2), (0, .ref (a 35)), (1, .int x1), (2, .int x2), (3, .int x3), (4, .int x4)]) hx hb dX10_grows_18 hl (by decide) rfl (fun ls hl => ?_)
  refine lv_iload_n hx hb dX10_grows_20 rfl (lv_at hl 4 rfl) ?_
  refine lv_if_ne (tgt := 28) hx hb dX10_grows_21 (by decide) (fun c21 => ?_) (fun c21 => ?_)
  · have hm := ine c21 hm
    refine lv_iload_n hx hb dX10_grows_28 rfl (lv_at hl 4 rfl) ?_
    refine lv_iconst (v := 2) hx hb dX10_grows_29 (by decide) ?_
    refine lv_icmp_ne (tgt := 37) hx hb dX10_grows_30 (by decide) (fun c30 => ?_) (fun c30 => ?_)
    · have hm := ine c30 hm
      refine lv_iconst (v := 0) hx hb dX10_grows_37 (by decide) ?_
      exact h38 v2 v4 M_s M_made 0 hm _ _ hP hD hS ls (lv_sub hl [2, 3, 4, 5, 6, 1, 0] rfl)
    · have hm := ip c30 hm
      refine lv_iconst (v := (-1)) hx hb dX10_grows_33 (by decide) ?_
      refine lv_goto (tgt := 38) hx hb dX10_grows_34 (by decide) ?_
      exact h38 v2 v4 M_s M_made ((-1)) hm _ _ hP hD hS ls (lv_sub hl [2, 3, 4, 5, 6, 1, 0] rfl)
  · have hm := ip c21 hm
    refine lv_iconst (v := 1) hx hb dX10_grows_24 (by decide) ?_
    refine lv_goto (tgt := 38) hx hb dX10_grows_25 (by decide) ?_
    exact h38 v2 v4 M_s M_made 1 hm _ _ hP hD hS ls (lv_sub hl [2, 3, 4, 5, 6, 1, 0] rfl)
theorem hd_X10_make : yX10_make.cls = RX10 ∧ yX10_make.cls ≠ "java/lang/invoke/MethodHandle" ∧ yX10_make.cls ≠ "java/lang/invoke/VarHandle" ∧ (parseMethodDescriptor yX10_make.desc).map (fun d => d.parameters.length) = some 2 := by decide +kernel
def m_X10_make_j201 (N : Nat) (y56 : Int32) (y57 : Int32) (y59 : Int32) (y60 : Nat → Int32) (y61 : Nat → Int32) (y62 : Nat → Int32) (y63 : Nat → Int32) (y64 : Nat → Int32) : Option (Int32 × Int32 × Int32 × Int32 × (Nat → Int32) × (Nat → Int32) × (Nat → Int32) × (Nat → Int32) × (Nat → Int32)) :=
  bd4 (m_X10_anew N y60 y62 y63) (fun v65 v66 v67 v68 => some ((y56, y57, v65, y59, v66, y61, v67, v68, y64)))
def m_X10_make_j193 (rec155 : Int32 → (Nat → Int32) → Option (Int32 × Int32 × Int32 × Int32 × (Nat → Int32) × (Nat → Int32) × (Nat → Int32) × (Nat → Int32) × (Nat → Int32))) (y75 : Int32) (y76 : Nat → Int32) (y77 : Int32) (y78 : Int32) (y79 : Int32) : Option (Int32 × Int32 × Int32 × Int32 × (Nat → Int32) × (Nat → Int32) × (Nat → Int32) × (Nat → Int32) × (Nat → Int32)) :=
  wr 244 y76 y77 (y78 - y79) (fun v80 => lt1 (y75 + 1) (fun v81 => rec155 v81 v80))
def m_X10_make_j192 (rec155 : Int32 → (Nat → Int32) → Option (Int32 × Int32 × Int32 × Int32 × (Nat → Int32) × (Nat → Int32) × (Nat → Int32) × (Nat → Int32) × (Nat → Int32))) (y71 : Int32) (y72 : Nat → Int32) (y73 : Int32) (y74 : Int32) : Option (Int32 × Int32 × Int32 × Int32 × (Nat → Int32) × (Nat → Int32) × (Nat → Int32) × (Nat → Int32) × (Nat → Int32)) :=
  m_X10_make_j193 rec155 y71 y72 y73 y74 0
def m_X10_make_b155 (N : Nat) (y45 : Int32) (y47 : Int32) (y49 : Int32) (y51 : Nat → Int32) (y52 : Nat → Int32) (y53 : Nat → Int32) (y54 : Nat → Int32) (rec155 : Int32 → (Nat → Int32) → Option (Int32 × Int32 × Int32 × Int32 × (Nat → Int32) × (Nat → Int32) × (Nat → Int32) × (Nat → Int32) × (Nat → Int32))) (y46 : Int32) (y50 : Nat → Int32) : Option (Int32 × Int32 × Int32 × Int32 × (Nat → Int32) × (Nat → Int32) × (Nat → Int32) × (Nat → Int32) × (Nat → Int32)) :=
  bd1 (m_X10_cells y50) (fun v55 => if v55 ≤ y46 then (m_X10_make_j201 N y45 y47 y49 y50 y51 y52 y53 y54) else (rd 244 y50 (4 + y46) (fun v69 => bd1 (m_X10_number y50 y46) (fun v70 => if v70 ≤ 0 then (m_X10_make_j192 rec155 y46 y50 (4 + y46) v69) else (if y45 ≤ 1 then (m_X10_make_j192 rec155 y46 y50 (4 + y46) v69) else (m_X10_make_j193 rec155 y46 y50 (4 + y46) v69 1))))))
def m_X10_make_j147 (N : Nat) (y36 : Int32) (y38 : Int32) (y39 : Nat → Int32) (y40 : Nat → Int32) (y41 : Nat → Int32) (y42 : Nat → Int32) (y43 : Nat → Int32) : Option (Int32 × Int32 × Int32 × Int32 × (Nat → Int32) × (Nat → Int32) × (Nat → Int32) × (Nat → Int32) × (Nat → Int32)) :=
  bd1 (m_X10_islands N y39) (fun v44 => zl2 (m_X10_make_b155 N v44 y36 y38 y40 y41 y42 y43) N 0 y39)
def m_X10_make_b75 (N : Nat) (x2 : Int32) (y28 : Int32) (y32 : Nat → Int32) (y33 : Nat → Int32) (y34 : Nat → Int32) (rec75 : Int32 → Int32 → (Nat → Int32) → (Nat → Int32) → Option (Int32 × Int32 × Int32 × Int32 × (Nat → Int32) × (Nat → Int32) × (Nat → Int32) × (Nat → Int32) × (Nat → Int32))) (y27 : Int32) (y30 : Int32) (y31 : Nat → Int32) (y35 : Nat → Int32) : Option (Int32 × Int32 × Int32 × Int32 × (Nat → Int32) × (Nat → Int32) × (Nat → Int32) × (Nat → Int32) × (Nat → Int32)) :=
  if 200 ≤ y27 then (m_X10_make_j147 N y28 y30 y31 y32 y33 y34 y35) else (bd1 (m_X10_islands N y31) (fun v82 => if x2 ≤ v82 then (m_X10_make_j147 N y28 y30 y31 y32 y33 y34 y35) else (bd1 (m_X10_islands N y31) (fun v83 => bd2 (m_X10_draw y30 v83) (fun v84 v85 => bd1 (m_X10_islandAt N y31 v84) (fun v86 => bd2 (m_X10_draw v85 4) (fun v87 v88 => bd2 (m_X10_draw v88 4) (fun v89 v90 => lt1 (2 + v89) (fun v91 => bd2 (m_X10_draw v90 2) (fun v92 v93 => lt1 (1 + v92) (fun v94 => bd2 (m_X10_grows N y31 y35 v86 v87 v91 v94) (fun v95 v96 => lt1 (y27 + 1) (fun v97 => rec75 v97 v93 v95 v96)))))))))))))
def m_X10_make_j52 (N : Nat) (x1 : Int32) (x2 : Int32) (y15 : Int32) (y18 : Nat → Int32) (y19 : Nat → Int32) (y20 : Nat → Int32) (y21 : Nat → Int32) (y22 : Nat → Int32) : Option (Int32 × Int32 × Int32 × Int32 × (Nat → Int32) × (Nat → Int32) × (Nat → Int32) × (Nat → Int32) × (Nat → Int32)) :=
  bd1 (m_X10_cells y18) (fun v23 => bd2 (m_X10_draw x1 v23) (fun v24 v25 => wr 244 y18 (4 + v24) 1 (fun v26 => zl4 (m_X10_make_b75 N x2 y15 y19 y20 y21) N 0 v25 v26 y22)))
def m_X10_make_b32 (N : Nat) (x1 : Int32) (x2 : Int32) (y7 : Int32) (y10 : Nat → Int32) (y11 : Nat → Int32) (y12 : Nat → Int32) (y13 : Nat → Int32) (rec32 : Int32 → (Nat → Int32) → Option (Int32 × Int32 × Int32 × Int32 × (Nat → Int32) × (Nat → Int32) × (Nat → Int32) × (Nat → Int32) × (Nat → Int32))) (y6 : Int32) (y14 : Nat → Int32) : Option (Int32 × Int32 × Int32 × Int32 × (Nat → Int32) × (Nat → Int32) × (Nat → Int32) × (Nat → Int32) × (Nat → Int32)) :=
  if 144 ≤ y6 then (m_X10_make_j52 N x1 x2 y7 y10 y11 y12 y13 y14) else (wr 144 y14 y6 0 (fun v98 => lt1 (y6 + 1) (fun v99 => rec32 v99 v98)))
def m_X10_make (N : Nat) (M_pasts : Int32) (M_ways : Int32) (M_z : Int32) (M_s : Nat → Int32) (M_past : Nat → Int32) (M_one : Nat → Int32) (M_other : Nat → Int32) (M_made : Nat → Int32) (x1 : Int32) (x2 : Int32) : Option (Int32 × Int32 × Int32 × Int32 × (Nat → Int32) × (Nat → Int32) × (Nat → Int32) × (Nat → Int32) × (Nat → Int32)) :=
  lt1 (m_X10_in x1 0 65535) (fun v1 => if v1 = 0 then (some (((-1), M_pasts, M_ways, M_z, M_s, M_past, M_one, M_other, M_made))) else (lt1 (m_X10_in x2 2 24) (fun v2 => if v2 = 0 then (some (((-1), M_pasts, M_ways, M_z, M_s, M_past, M_one, M_other, M_made))) else (bd2 (m_X10_notes N M_pasts M_s M_past) (fun v3 v4 => bd1 (m_X10_empties N M_s) (fun v5 => zl2 (m_X10_make_b32 N x1 x2 v3 v5 v4 M_one M_other) N 0 M_made))))))
set_option maxHeartbeats 4000000 in
set_option maxRecDepth 100000 in
theorem c_X10_make (l : Launch) (D : va_G) (cI cJ cS cB : ClassId) (a : Nat → Nat) (M_pasts : Int32) (M_typed : Int32) (M_ways : Int32) (M_z : Int32) (M_why : Int32) (M_rows : Int32) (M_wide : Int32) (M_column : Int32) (M_found : Int32) (M_s : Nat → Int32) (M_past : Nat → Int32) (M_one : Nat → Int32) (M_other : Nat → Int32) (M_made : Nat → Int32) (x1 : Int32) (x2 : Int32) (N : Nat) (r0 : Int32) (M_pasts' : Int32) (M_ways' : Int32) (M_z' : Int32) (M_s' : Nat → Int32) (M_past' : Nat → Int32) (M_one' : Nat → Int32) (M_other' : Nat → Int32) (M_made' : Nat → Int32) (hm : m_X10_make N M_pasts M_ways M_z M_s M_past M_one M_other M_made x1 x2 = some (r0, M_pasts', M_ways', M_z', M_s', M_past', M_one', M_other', M_made')) :
    mU l D (TYs cI cJ cS cB) yX10_make wsX10_make { frames := 3, cells := 0, slots := 0, locals := 65 } [.ref (a 35), .int x1, .int x2] [o_M a M_pasts M_typed M_ways M_z M_why M_rows M_wide M_column M_found, ai (a 36) cI 244 M_s, ai (a 37) cI 976 M_past, ai (a 39) cI 48 M_one, ai (a 40) cI 48 M_other, ai (a 43) cI 144 M_made] [o_M a M_pasts' M_typed M_ways' M_z' M_why M_rows M_wide M_column M_found, ai (a 36) cI 244 M_s', ai (a 37) cI 976 M_past', ai (a 39) cI 48 M_one', ai (a 40) cI 48 M_other', ai (a 43) cI 144 M_made'] (some (.int r0)) := by
  refine mG_of (cc := cX10_make) (maxL := 8) (ret := (some .int)) (by decide) rfl rfl (Nat.le_of_ble_eq_true rfl) ?_
  intro p e s m args below meth c A hx hb hr hml hlk hnm hts hown hK hP hD hA hS ls hl
  have hl : lv_has ls 8 [(0, .ref (a 35)), (1, .int x1), (2, .int x2)] := hl
  have hiX10 : ∀ w ∈ wsX100, w ∈ wsX10_make := fun w h => List.mem_cons_of_mem _ (List.mem_append_right _ h)
  unfold m_X10_make at hm
  have h201 : ∀ (y56 : Int32) (y57 : Int32) (y58 : Int32) (y59 : Int32) (y60 : Nat → Int32) (y61 : Nat → Int32) (y62 : Nat → Int32) (y63 : Nat → Int32) (y64 : Nat → Int32), m_X10_make_j201 N y56 y57 y59 y60 y61 y62 y63 y64 = some (r0, M_pasts', M_ways', M_z', M_s', M_past', M_one', M_other', M_made') → ∀ (H : Heap) (locs : List Loc), va_P D vwCl [o_M a y57 M_typed y58 y59 M_why M_rows M_wide M_column M_found, ai (a 36) cI 244 y60, ai (a 37) cI 976 y61, ai (a 39) cI 48 y62, ai (a 40) cI 48 y63, ai (a 43) cI 144 y64] H → va_D A [o_M a y57 M_typed y58 y59 M_why M_rows M_wide M_column M_found, ai (a 36) cI 244 y60, ai (a 37) cI 976 y61, ai (a 39) cI 48 y62, ai (a 40) cI 48 y63, ai (a 43) cI 144 y64] → va_S A s.heap H locs → ∀ ls : Array Slot, lv_has ls 8 [(0, .ref (a 35)), (3, .int y56)] → W p l e { frames := 3, cells := 0, slots := 0, locals := 65 } s m args below meth c H locs 0 0 (MQ below (eQ D (some (.int r0)) (fun _ : Unit => [o_M a M_pasts' M_typed M_ways' M_z' M_why M_rows M_wide M_column M_found, ai (a 36) cI 244 M_s', ai (a 37) cI 976 M_past', ai (a 39) cI 48 M_one', ai (a 40) cI 48 M_other', ai (a 43) cI 144 M_made']) A) args s 0 0 A) (F0 m 201 ls []) := by
    intro y56 y57 y58 y59 y60 y61 y62 y63 y64 hm H locs hP hD hS ls hl
    unfold m_X10_make_j201 at hm
    refine lv_aload_n hx hb dX10_make_201 rfl (lv_at hl 0 rfl) ?_
    obtain ⟨v65, v66, v67, v68, h_v65, hm⟩ := bd4_inv hm
    refine cVx ⟨hx, hb, hml, hown, hts⟩ (c_X10_anew l D cI cJ cS cB a y57 M_typed y58 y59 M_why M_rows M_wide M_column M_found y60 y62 y63 N v65 v66 v67 v68 h_v65) (cwV 0 hts gX10_make_X10_anew rfl rfl rfl hd_X10_anew ⟨(Nat.le_of_ble_eq_true rfl), (Nat.le_of_ble_eq_true rfl)⟩) hK hP hD hS hA [0, 1, 3, 4] rfl rfl [o_M a y57 M_typed v65 y59 M_why M_rows M_wide M_column M_found, ai (a 36) cI 244 v66, ai (a 37) cI 976 y61, ai (a 39) cI 48 v67, ai (a 40) cI 48 v68, ai (a 43) cI 144 y64] [(true, 0), (true, 1), (false, 2), (true, 2), (true, 3), (false, 5)] rfl rfl rfl hl.1 (Nat.le_of_ble_eq_true rfl) ⟨Nat.zero_le _, Nat.zero_le _⟩ 0 rfl rfl rfl rfl dX10_make_202 (fun H locs hP hD hS => ?_)
    refine lv_iload_n hx hb dX10_make_205 rfl (lv_at hl 1 rfl) ?_
    cases hm
    exact rI () hx hb hr hlk hP hD hS dX10_make_206
  have h155 : ∀ (y45 : Int32) (y47 : Int32) (y48 : Int32) (y49 : Int32) (y51 : Nat → Int32) (y52 : Nat → Int32) (y53 : Nat → Int32) (y54 : Nat → Int32), ∀ (n : Nat) (y46 : Int32) (y50 : Nat → Int32), zl2 (m_X10_make_b155 N y45 y47 y49 y51 y52 y53 y54) n y46 y50 = some (r0, M_pasts', M_ways', M_z', M_s', M_past', M_one', M_other', M_made') → ∀ (H : Heap) (locs : List Loc), va_P D vwCl [o_M a y47 M_typed y48 y49 M_why M_rows M_wide M_column M_found, ai (a 36) cI 244 y50, ai (a 37) cI 976 y51, ai (a 39) cI 48 y52, ai (a 40) cI 48 y53, ai (a 43) cI 144 y54] H → va_D A [o_M a y47 M_typed y48 y49 M_why M_rows M_wide M_column M_found, ai (a 36) cI 244 y50, ai (a 37) cI 976 y51, ai (a 39) cI 48 y52, ai (a 40) cI 48 y53, ai (a 43) cI 144 y54] → va_S A s.heap H locs → ∀ ls : Array Slot, lv_has ls 8 [(0, .ref (a 35)), (3, .int y45), (4, .int y46)] → W p l e { frames := 3, cells := 0, slots := 0, locals := 65 } s m args below meth c H locs 0 0 (MQ below (eQ D (some (.int r0)) (fun _ : Unit => [o_M a M_pasts' M_typed M_ways' M_z' M_why M_rows M_wide M_column M_found, ai (a 36) cI 244 M_s', ai (a 37) cI 976 M_past', ai (a 39) cI 48 M_one', ai (a 40) cI 48 M_other', ai (a 43) cI 144 M_made']) A) args s 0 0 A) (F0 m 155 ls []) := by
    intro y45 y47 y48 y49 y51 y52 y53 y54
    refine zl2_ind (fun rec155 ih155 y46 y50 hm => ?_)
    have h193 : ∀ (y75 : Int32) (y76 : Nat → Int32) (y77 : Int32) (y78 : Int32) (y79 : Int32), m_X10_make_j193 rec155 y75 y76 y77 y78 y79 = some (r0, M_pasts', M_ways', M_z', M_s', M_past', M_one', M_other', M_made') → ∀ (H : Heap) (locs : List Loc), va_P D vwCl [o_M a y47 M_typed y48 y49 M_why M_rows M_wide M_column M_found, ai (a 36) cI 244 y76, ai (a 37) cI 976 y51, ai (a 39) cI 48 y52, ai (a 40) cI 48 y53, ai (a 43) cI 144 y54] H → va_D A [o_M a y47 M_typed y48 y49 M_why M_rows M_wide M_column M_found, ai (a 36) cI 244 y76, ai (a 37) cI 976 y51, ai (a 39) cI 48 y52, ai (a 40) cI 48 y53, ai (a 43) cI 144 y54] → va_S A s.heap H locs → ∀ ls : Array Slot, lv_has ls 8 [(0, .ref (a 35)), (3, .int y45), (4, .int y75)] → W p l e { frames := 3, cells := 0, slots := 0, locals := 65 } s m args below meth c H locs 0 0 (MQ below (eQ D (some (.int r0)) (fun _ : Unit => [o_M a M_pasts' M_typed M_ways' M_z' M_why M_rows M_wide M_column M_found, ai (a 36) cI 244 M_s', ai (a 37) cI 976 M_past', ai (a 39) cI 48 M_one', ai (a 40) cI 48 M_other', ai (a 43) cI 144 M_made']) A) args s 0 0 A) (F0 m 193 ls [.int y79, .int y78, .int y77, .ref (a 36)]) := by
      intro y75 y76 y77 y78 y79 hm H locs hP hD hS ls hl
      unfold m_X10_make_j193 at hm
      refine lv_isub hx hb dX10_make_193 ?_
      obtain ⟨v80, nv80, ev80, hm⟩ := wr_inv hm
      refine va_iast hx hb hK.1 hP hD hS 1 0 rfl rfl nv80 dX10_make_194 (fun H locs hP hD hS => ?_)
      have hP : va_P D vwCl [o_M a y47 M_typed y48 y49 M_why M_rows M_wide M_column M_found, ai (a 36) cI 244 v80, ai (a 37) cI 976 y51, ai (a 39) cI 48 y52, ai (a 40) cI 48 y53, ai (a 43) cI 144 y54] H := by rw [← ev80]; exact hP
      have hD : va_D A [o_M a y47 M_typed y48 y49 M_why M_rows M_wide M_column M_found, ai (a 36) cI 244 v80, ai (a 37) cI 976 y51, ai (a 39) cI 48 y52, ai (a 40) cI 48 y53, ai (a 43) cI 144 y54] := by rw [← ev80]; exact hD
      obtain ⟨v81, ev81, hm⟩ := lt1_inv hm
      refine lv_iinc (v := v81) (lv' := [(4, .int v81), (0, .ref (a 35)), (3, .int y45)]) hx hb dX10_make_195 hl (k := 2) rfl ev81 (by decide) rfl (fun ls hl => ?_)
      refine lv_goto (tgt := 155) hx hb dX10_make_198 (by decide) ?_
      exact ih155 v81 v80 hm _ _ hP hD hS ls (lv_sub hl [1, 2, 0] rfl)
    have h192 : ∀ (y71 : Int32) (y72 : Nat → Int32) (y73 : Int32) (y74 : Int32), m_X10_make_j192 rec155 y71 y72 y73 y74 = some (r0, M_pasts', M_ways', M_z', M_s', M_past', M_one', M_other', M_made') → ∀ (H : Heap) (locs : List Loc), va_P D vwCl [o_M a y47 M_typed y48 y49 M_why M_rows M_wide M_column M_found, ai (a 36) cI 244 y72, ai (a 37) cI 976 y51, ai (a 39) cI 48 y52, ai (a 40) cI 48 y53, ai (a 43) cI 144 y54] H → va_D A [o_M a y47 M_typed y48 y49 M_why M_rows M_wide M_column M_found, ai (a 36) cI 244 y72, ai (a 37) cI 976 y51, ai (a 39) cI 48 y52, ai (a 40) cI 48 y53, ai (a 43) cI 144 y54] → va_S A s.heap H locs → ∀ ls : Array Slot, lv_has ls 8 [(0, .ref (a 35)), (3, .int y45), (4, .int y71)] → W p l e { frames := 3, cells := 0, slots := 0, locals := 65 } s m args below meth c H locs 0 0 (MQ below (eQ D (some (.int r0)) (fun _ : Unit => [o_M a M_pasts' M_typed M_ways' M_z' M_why M_rows M_wide M_column M_found, ai (a 36) cI 244 M_s', ai (a 37) cI 976 M_past', ai (a 39) cI 48 M_one', ai (a 40) cI 48 M_other', ai (a 43) cI 144 M_made']) A) args s 0 0 A) (F0 m 192 ls [.int y74, .int y73, .ref (a 36)]) := by
      intro y71 y72 y73 y74 hm H locs hP hD hS ls hl
      unfold m_X10_make_j192 at hm
      refine lv_iconst (v := 0) hx hb dX10_make_192 (by decide) ?_
      exact h193 y71 y72 y73 y74 0 hm _ _ hP hD hS ls (lv_sub hl [0, 1, 2] rfl)
    intro H locs hP hD hS ls hl
    unfold m_X10_make_b155 at hm
    refine lv_iload hx hb dX10_make_155 (lv_at hl 2 rfl) ?_
    refine lv_aload_n hx hb dX10_make_157 rfl (lv_at hl 0 rfl) ?_
    obtain ⟨v55, h_v55, hm⟩ := bd1_inv hm
    refine cVs ⟨hx, hb, hml, hown, hts⟩ (c_X10_cells l D cI cJ cS cB a y47 M_typed y48 y49 M_why M_rows M_wide M_column M_found y50 v55 h_v55) (cwV 0 hts gX10_make_X10_cells rfl rfl rfl hd_X10_cells ⟨(Nat.le_of_ble_eq_true rfl), (Nat.le_of_ble_eq_true rfl)⟩) hK hP hD hS hA [0, 1] rfl rfl rfl hl.1 (Nat.le_of_ble_eq_true rfl) ⟨Nat.zero_le _, Nat.zero_le _⟩ 0 rfl rfl rfl rfl dX10_make_158 (fun H locs hP hD hS => ?_)
    refine lv_icmp_ge (tgt := 201) hx hb dX10_make_161 (by decide) (fun c161 => ?_) (fun c161 => ?_)
    · have hm := ip c161 hm
      exact h201 y45 y47 y48 y49 y50 y51 y52 y53 y54 hm _ _ hP hD hS ls (lv_sub hl [0, 1] rfl)
    · have hm := ine c161 hm
      refine lv_aload_n hx hb dX10_make_164 rfl (lv_at hl 0 rfl) ?_
      refine va_get (D := D) (ci := 10) (v := .ref (a 36)) (C := RX10) (T := TX10) (N := 17) hx hb hts hiX10 hown hK.1 hP 0 rfl rfl 0 (by decide) (hts (.fieldLink RX10 7 "IslandBridgesModel" "s" "[I") (List.mem_of_getElem? (i := 4) rfl)) (fun _ h9 => h9) rfl dX10_make_165 ?_
      refine lv_iconst (v := 4) hx hb dX10_make_168 (by decide) ?_
      refine lv_iload hx hb dX10_make_169 (lv_at hl 2 rfl) ?_
      refine lv_iadd hx hb dX10_make_171 ?_
      refine lv_dup2_11 hx hb dX10_make_172 rfl rfl ?_
      obtain ⟨v69, nv69, ev69, hm⟩ := rd_inv hm
      refine va_iald hx hb hK.1 hP 1 0 rfl rfl nv69 dX10_make_173 ?_
      refine ltop ev69 ?_
      refine lv_aload_n hx hb dX10_make_174 rfl (lv_at hl 0 rfl) ?_
      refine lv_iload hx hb dX10_make_175 (lv_at hl 2 rfl) ?_
      obtain ⟨v70, h_v70, hm⟩ := bd1_inv hm
      refine cVs ⟨hx, hb, hml, hown, hts⟩ (c_X10_number l D cI cJ cS cB a y47 M_typed y48 y49 M_why M_rows M_wide M_column M_found y50 y46 v70 h_v70) (cwV 1 hts gX10_make_X10_number rfl rfl rfl hd_X10_number ⟨(Nat.le_of_ble_eq_true rfl), (Nat.le_of_ble_eq_true rfl)⟩) hK hP hD hS hA [0, 1] rfl rfl rfl hl.1 (Nat.le_of_ble_eq_true rfl) ⟨Nat.zero_le _, Nat.zero_le _⟩ 0 rfl rfl rfl rfl dX10_make_177 (fun H locs hP hD hS => ?_)
      refine lv_if_le (tgt := 192) hx hb dX10_make_180 (by decide) (fun c180 => ?_) (fun c180 => ?_)
      · have hm := ip c180 hm
        exact h192 y46 y50 (4 + y46) v69 hm _ _ hP hD hS ls (lv_sub hl [0, 1, 2] rfl)
      · have hm := ine c180 hm
        refine lv_iload_n hx hb dX10_make_183 rfl (lv_at hl 1 rfl) ?_
        refine lv_iconst (v := 1) hx hb dX10_make_184 (by decide) ?_
        refine lv_icmp_le (tgt := 192) hx hb dX10_make_185 (by decide) (fun c185 => ?_) (fun c185 => ?_)
        · have hm := ip c185 hm
          exact h192 y46 y50 (4 + y46) v69 hm _ _ hP hD hS ls (lv_sub hl [0, 1, 2] rfl)
        · have hm := ine c185 hm
          refine lv_iconst (v := 1) hx hb dX10_make_188 (by decide) ?_
          refine lv_goto (tgt := 193) hx hb dX10_make_189 (by decide) ?_
          exact h193 y46 y50 (4 + y46) v69 1 hm _ _ hP hD hS ls (lv_sub hl [0, 1, 2] rfl)
  have h147 : ∀ (y36 : Int32) (y37 : Int32) (y38 : Int32) (y39 : Nat → Int32) (y40 : Nat → Int32) (y41 : Nat → Int32) (y42 : Nat → Int32) (y43 : Nat → Int32), m_X10_make_j147 N y36 y38 y39 y40 y41 y42 y43 = some (r0, M_pasts', M_ways', M_z', M_s', M_past', M_one', M_other', M_made') → ∀ (H : Heap) (locs : List Loc), va_P D vwCl [o_M a y36 M_typed y37 y38 M_why M_rows M_wide M_column M_found, ai (a 36) cI 244 y39, ai (a 37) cI 976 y40, ai (a 39) cI 48 y41, ai (a 40) cI 48 y42, ai (a 43) cI 144 y43] H → va_D A [o_M a y36 M_typed y37 y38 M_why M_rows M_wide M_column M_found, ai (a 36) cI 244 y39, ai (a 37) cI 976 y40, ai (a 39) cI 48 y41, ai (a 40) cI 48 y42, ai (a 43) cI 144 y43] → va_S A s.heap H locs → ∀ ls : Array Slot, lv_has ls 8 [(0, .ref (a 35))] → W p l e { frames := 3, cells := 0, slots := 0, locals := 65 } s m args below meth c H locs 0 0 (MQ below (eQ D (some (.int r0)) (fun _ : Unit => [o_M a M_pasts' M_typed M_ways' M_z' M_why M_rows M_wide M_column M_found, ai (a 36) cI 244 M_s', ai (a 37) cI 976 M_past', ai (a 39) cI 48 M_one', ai (a 40) cI 48 M_other', ai (a 43) cI 144 M_made']) A) args s 0 0 A) (F0 m 147 ls []) := by
    intro y36 y37 y38 y39 y40 y41 y42 y43 hm H locs hP hD hS ls hl
    unfold m_X10_make_j147 at hm
    refine lv_aload_n hx hb dX10_make_147 rfl (lv_at hl 0 rfl) ?_
    obtain ⟨v44, h_v44, hm⟩ := bd1_inv hm
    refine cVs ⟨hx, hb, hml, hown, hts⟩ (c_X10_islands l D cI cJ cS cB a y36 M_typed y37 y38 M_why M_rows M_wide M_column M_found y39 N v44 h_v44) (cwV 0 hts gX10_make_X10_islands rfl rfl rfl hd_X10_islands ⟨(Nat.le_of_ble_eq_true rfl), (Nat.le_of_ble_eq_true rfl)⟩) hK hP hD hS hA [0, 1] rfl rfl rfl hl.1 (Nat.le_of_ble_eq_true rfl) ⟨Nat.zero_le _, Nat.zero_le _⟩ 0 rfl rfl rfl rfl dX10_make_148 (fun H locs hP hD hS => ?_)
    refine lv_istore_n (lv' := [(3, .int v44), (0, .ref (a 35))]) hx hb dX10_make_151 rfl hl (by decide) rfl (fun ls hl => ?_)
    refine lv_iconst (v := 0) hx hb dX10_make_152 (by decide) ?_
    refine lv_istore (lv' := [(4, .int 0), (3, .int v44), (0, .ref (a 35))]) hx hb dX10_make_153 hl (by decide) rfl (fun ls hl => ?_)
    exact h155 v44 y36 y37 y38 y40 y41 y42 y43 N 0 y39 hm _ _ hP hD hS ls (lv_sub hl [2, 1, 0] rfl)
  have h75 : ∀ (y28 : Int32) (y29 : Int32) (y32 : Nat → Int32) (y33 : Nat → Int32) (y34 : Nat → Int32), ∀ (n : Nat) (y27 : Int32) (y30 : Int32) (y31 : Nat → Int32) (y35 : Nat → Int32), zl4 (m_X10_make_b75 N x2 y28 y32 y33 y34) n y27 y30 y31 y35 = some (r0, M_pasts', M_ways', M_z', M_s', M_past', M_one', M_other', M_made') → ∀ (H : Heap) (locs : List Loc), va_P D vwCl [o_M a y28 M_typed y29 y30 M_why M_rows M_wide M_column M_found, ai (a 36) cI 244 y31, ai (a 37) cI 976 y32, ai (a 39) cI 48 y33, ai (a 40) cI 48 y34, ai (a 43) cI 144 y35] H → va_D A [o_M a y28 M_typed y29 y30 M_why M_rows M_wide M_column M_found, ai (a 36) cI 244 y31, ai (a 37) cI 976 y32, ai (a 39) cI 48 y33, ai (a 40) cI 48 y34, ai (a 43) cI 144 y35] → va_S A s.heap H locs → ∀ ls : Array Slot, lv_has ls 8 [(0, .ref (a 35)), (2, .int x2), (3, .int y27)] → W p l e { frames := 3, cells := 0, slots := 0, locals := 65 } s m args below meth c H locs 0 0 (MQ below (eQ D (some (.int r0)) (fun _ : Unit => [o_M a M_pasts' M_typed M_ways' M_z' M_why M_rows M_wide M_column M_found, ai (a 36) cI 244 M_s', ai (a 37) cI 976 M_past', ai (a 39) cI 48 M_one', ai (a 40) cI 48 M_other', ai (a 43) cI 144 M_made']) A) args s 0 0 A) (F0 m 75 ls []) := by
    intro y28 y29 y32 y33 y34
    refine zl4_ind (fun rec75 ih75 y27 y30 y31 y35 hm => ?_)
    intro H locs hP hD hS ls hl
    unfold m_X10_make_b75 at hm
    refine lv_iload_n hx hb dX10_make_75 rfl (lv_at hl 2 rfl) ?_
    refine lv_sipush (v := 200) hx hb dX10_make_76 (by decide) ?_
    refine lv_icmp_ge (tgt := 147) hx hb dX10_make_79 (by decide) (fun c79 => ?_) (fun c79 => ?_)
    · have hm := ip c79 hm
      exact h147 y28 y29 y30 y31 y32 y33 y34 y35 hm _ _ hP hD hS ls (lv_sub hl [0] rfl)
    · have hm := ine c79 hm
      refine lv_aload_n hx hb dX10_make_82 rfl (lv_at hl 0 rfl) ?_
      obtain ⟨v82, h_v82, hm⟩ := bd1_inv hm
      refine cVs ⟨hx, hb, hml, hown, hts⟩ (c_X10_islands l D cI cJ cS cB a y28 M_typed y29 y30 M_why M_rows M_wide M_column M_found y31 N v82 h_v82) (cwV 0 hts gX10_make_X10_islands rfl rfl rfl hd_X10_islands ⟨(Nat.le_of_ble_eq_true rfl), (Nat.le_of_ble_eq_true rfl)⟩) hK hP hD hS hA [0, 1] rfl rfl rfl hl.1 (Nat.le_of_ble_eq_true rfl) ⟨Nat.zero_le _, Nat.zero_le _⟩ 0 rfl rfl rfl rfl dX10_make_83 (fun H locs hP hD hS => ?_)
      refine lv_iload_n hx hb dX10_make_86 rfl (lv_at hl 1 rfl) ?_
      refine lv_icmp_ge (tgt := 147) hx hb dX10_make_87 (by decide) (fun c87 => ?_) (fun c87 => ?_)
      · have hm := ip c87 hm
        exact h147 y28 y29 y30 y31 y32 y33 y34 y35 hm _ _ hP hD hS ls (lv_sub hl [0] rfl)
      · have hm := ine c87 hm
        refine lv_aload_n hx hb dX10_make_90 rfl (lv_at hl 0 rfl) ?_
        refine lv_aload_n hx hb dX10_make_91 rfl (lv_at hl 0 rfl) ?_
        refine lv_aload_n hx hb dX10_make_92 rfl (lv_at hl 0 rfl) ?_
        obtain ⟨v83, h_v83, hm⟩ := bd1_inv hm
        refine cVs ⟨hx, hb, hml, hown, hts⟩ (c_X10_islands l D cI cJ cS cB a y28 M_typed y29 y30 M_why M_rows M_wide M_column M_found y31 N v83 h_v83) (cwV 0 hts gX10_make_X10_islands rfl rfl rfl hd_X10_islands ⟨(Nat.le_of_ble_eq_true rfl), (Nat.le_of_ble_eq_true rfl)⟩) hK hP hD hS hA [0, 1] rfl rfl rfl hl.1 (Nat.le_of_ble_eq_true rfl) ⟨Nat.zero_le _, Nat.zero_le _⟩ 0 rfl rfl rfl rfl dX10_make_93 (fun H locs hP hD hS => ?_)
        obtain ⟨v84, v85, h_v84, hm⟩ := bd2_inv hm
        refine cVx ⟨hx, hb, hml, hown, hts⟩ (c_X10_draw l D cI cJ cS cB a y28 M_typed y29 y30 M_why M_rows M_wide M_column M_found v83 v84 v85 h_v84) (cwV 1 hts gX10_make_X10_draw rfl rfl rfl hd_X10_draw ⟨(Nat.le_of_ble_eq_true rfl), (Nat.le_of_ble_eq_true rfl)⟩) hK hP hD hS hA [0] rfl rfl [o_M a y28 M_typed y29 v85 M_why M_rows M_wide M_column M_found, ai (a 36) cI 244 y31, ai (a 37) cI 976 y32, ai (a 39) cI 48 y33, ai (a 40) cI 48 y34, ai (a 43) cI 144 y35] [(true, 0), (false, 1), (false, 2), (false, 3), (false, 4), (false, 5)] rfl rfl rfl hl.1 (Nat.le_of_ble_eq_true rfl) ⟨Nat.zero_le _, Nat.zero_le _⟩ 0 rfl rfl rfl rfl dX10_make_96 (fun H locs hP hD hS => ?_)
        obtain ⟨v86, h_v86, hm⟩ := bd1_inv hm
        refine cVs ⟨hx, hb, hml, hown, hts⟩ (c_X10_islandAt l D cI cJ cS cB a y28 M_typed y29 v85 M_why M_rows M_wide M_column M_found y31 v84 N v86 h_v86) (cwV 1 hts gX10_make_X10_islandAt rfl rfl rfl hd_X10_islandAt ⟨(Nat.le_of_ble_eq_true rfl), (Nat.le_of_ble_eq_true rfl)⟩) hK hP hD hS hA [0, 1] rfl rfl rfl hl.1 (Nat.le_of_ble_eq_true rfl) ⟨Nat.zero_le _, Nat.zero_le _⟩ 0 rfl rfl rfl rfl dX10_make_99 (fun H locs hP hD hS => ?_)
        refine lv_istore (lv' := [(4, .int v86), (0, .ref (a 35)), (2, .int x2), (3, .int y27)]) hx hb dX10_make_102 hl (by decide) rfl (fun ls hl => ?_)
        refine lv_aload_n hx hb dX10_make_104 rfl (lv_at hl 1 rfl) ?_
        refine lv_iconst (v := 4) hx hb dX10_make_105 (by decide) ?_
        obtain ⟨v87, v88, h_v87, hm⟩ := bd2_inv hm
        refine cVx ⟨hx, hb, hml, hown, hts⟩ (c_X10_draw l D cI cJ cS cB a y28 M_typed y29 v85 M_why M_rows M_wide M_column M_found 4 v87 v88 h_v87) (cwV 1 hts gX10_make_X10_draw rfl rfl rfl hd_X10_draw ⟨(Nat.le_of_ble_eq_true rfl), (Nat.le_of_ble_eq_true rfl)⟩) hK hP hD hS hA [0] rfl rfl [o_M a y28 M_typed y29 v88 M_why M_rows M_wide M_column M_found, ai (a 36) cI 244 y31, ai (a 37) cI 976 y32, ai (a 39) cI 48 y33, ai (a 40) cI 48 y34, ai (a 43) cI 144 y35] [(true, 0), (false, 1), (false, 2), (false, 3), (false, 4), (false, 5)] rfl rfl rfl hl.1 (Nat.le_of_ble_eq_true rfl) ⟨Nat.zero_le _, Nat.zero_le _⟩ 0 rfl rfl rfl rfl dX10_make_106 (fun H locs hP hD hS => ?_)
        refine lv_istore (lv' := [(5, .int v87), (4, .int v86), (0, .ref (a 35)), (2, .int x2), (3, .int y27)]) hx hb dX10_make_109 hl (by decide) rfl (fun ls hl => ?_)
        refine lv_iconst (v := 2) hx hb dX10_make_111 (by decide) ?_
        refine lv_aload_n hx hb dX10_make_112 rfl (lv_at hl 2 rfl) ?_
        refine lv_iconst (v := 4) hx hb dX10_make_113 (by decide) ?_
        obtain ⟨v89, v90, h_v89, hm⟩ := bd2_inv hm
        refine cVx ⟨hx, hb, hml, hown, hts⟩ (c_X10_draw l D cI cJ cS cB a y28 M_typed y29 v88 M_why M_rows M_wide M_column M_found 4 v89 v90 h_v89) (cwV 1 hts gX10_make_X10_draw rfl rfl rfl hd_X10_draw ⟨(Nat.le_of_ble_eq_true rfl), (Nat.le_of_ble_eq_true rfl)⟩) hK hP hD hS hA [0] rfl rfl [o_M a y28 M_typed y29 v90 M_why M_rows M_wide M_column M_found, ai (a 36) cI 244 y31, ai (a 37) cI 976 y32, ai (a 39) cI 48 y33, ai (a 40) cI 48 y34, ai (a 43) cI 144 y35] [(true, 0), (false, 1), (false, 2), (false, 3), (false, 4), (false, 5)] rfl rfl rfl hl.1 (Nat.le_of_ble_eq_true rfl) ⟨Nat.zero_le _, Nat.zero_le _⟩ 0 rfl rfl rfl rfl dX10_make_114 (fun H locs hP hD hS => ?_)
        refine lv_iadd hx hb dX10_make_117 ?_
        obtain ⟨v91, ev91, hm⟩ := lt1_inv hm
        refine ltop ev91 ?_
        refine lv_istore (lv' := [(6, .int v91), (5, .int v87), (4, .int v86), (0, .ref (a 35)), (2, .int x2), (3, .int y27)]) hx hb dX10_make_118 hl (by decide) rfl (fun ls hl => ?_)
        refine lv_iconst (v := 1) hx hb dX10_make_120 (by decide) ?_
        refine lv_aload_n hx hb dX10_make_121 rfl (lv_at hl 3 rfl) ?_
        refine lv_iconst (v := 2) hx hb dX10_make_122 (by decide) ?_
        obtain ⟨v92, v93, h_v92, hm⟩ := bd2_inv hm
        refine cVx ⟨hx, hb, hml, hown, hts⟩ (c_X10_draw l D cI cJ cS cB a y28 M_typed y29 v90 M_why M_rows M_wide M_column M_found 2 v92 v93 h_v92) (cwV 1 hts gX10_make_X10_draw rfl rfl rfl hd_X10_draw ⟨(Nat.le_of_ble_eq_true rfl), (Nat.le_of_ble_eq_true rfl)⟩) hK hP hD hS hA [0] rfl rfl [o_M a y28 M_typed y29 v93 M_why M_rows M_wide M_column M_found, ai (a 36) cI 244 y31, ai (a 37) cI 976 y32, ai (a 39) cI 48 y33, ai (a 40) cI 48 y34, ai (a 43) cI 144 y35] [(true, 0), (false, 1), (false, 2), (false, 3), (false, 4), (false, 5)] rfl rfl rfl hl.1 (Nat.le_of_ble_eq_true rfl) ⟨Nat.zero_le _, Nat.zero_le _⟩ 0 rfl rfl rfl rfl dX10_make_123 (fun H locs hP hD hS => ?_)
        refine lv_iadd hx hb dX10_make_126 ?_
        obtain ⟨v94, ev94, hm⟩ := lt1_inv hm
        refine ltop ev94 ?_
        refine lv_istore (lv' := [(7, .int v94), (6, .int v91), (5, .int v87), (4, .int v86), (0, .ref (a 35)), (2, .int x2), (3, .int y27)]) hx hb dX10_make_127 hl (by decide) rfl (fun ls hl => ?_)
        refine lv_aload_n hx hb dX10_make_129 rfl (lv_at hl 4 rfl) ?_
        refine lv_iload hx hb dX10_make_130 (lv_at hl 3 rfl) ?_
        refine lv_iload hx hb dX10_make_132 (lv_at hl 2 rfl) ?_
        refine lv_iload hx hb dX10_make_134 (lv_at hl 1 rfl) ?_
        refine lv_iload hx hb dX10_make_136 (lv_at hl 0 rfl) ?_
        obtain ⟨v95, v96, h_v95, hm⟩ := bd2_inv hm
        refine cVx ⟨hx, hb, hml, hown, hts⟩ (c_X10_grows l D cI cJ cS cB a y28 M_typed y29 v93 M_why M_rows M_wide M_column M_found y31 y35 v86 v87 v91 v94 N v95 v96 h_v95) (cwV 4 hts gX10_make_X10_grows rfl rfl rfl hd_X10_grows ⟨(Nat.le_of_ble_eq_true rfl), (Nat.le_of_ble_eq_true rfl)⟩) hK hP hD hS hA [0, 1, 5] rfl rfl [o_M a y28 M_typed y29 v93 M_why M_rows M_wide M_column M_found, ai (a 36) cI 244 v95, ai (a 37) cI 976 y32, ai (a 39) cI 48 y33, ai (a 40) cI 48 y34, ai (a 43) cI 144 v96] [(true, 0), (true, 1), (false, 2), (false, 3), (false, 4), (true, 2)] rfl rfl rfl hl.1 (Nat.le_of_ble_eq_true rfl) ⟨Nat.zero_le _, Nat.zero_le _⟩ 0 rfl rfl rfl rfl dX10_make_138 (fun H locs hP hD hS => ?_)
        obtain ⟨v97, ev97, hm⟩ := lt1_inv hm
        refine lv_iinc (v := v97) (lv' := [(3, .int v97), (7, .int v94), (6, .int v91), (5, .int v87), (4, .int v86), (0, .ref (a 35)), (2, .int x2)]) hx hb dX10_make_141 hl (k := 6) rfl ev97 (by decide) rfl (fun ls hl => ?_)
        refine lv_goto (tgt := 75) hx hb dX10_make_144 (by decide) ?_
        exact ih75 v97 v93 v95 v96 hm _ _ hP hD hS ls (lv_sub hl [5, 6, 0] rfl)
  have h52 : ∀ (y15 : Int32) (y16 : Int32) (y17 : Int32) (y18 : Nat → Int32) (y19 : Nat → Int32) (y20 : Nat → Int32) (y21 : Nat → Int32) (y22 : Nat → Int32), m_X10_make_j52 N x1 x2 y15 y18 y19 y20 y21 y22 = some (r0, M_pasts', M_ways', M_z', M_s', M_past', M_one', M_other', M_made') → ∀ (H : Heap) (locs : List Loc), va_P D vwCl [o_M a y15 M_typed y16 y17 M_why M_rows M_wide M_column M_found, ai (a 36) cI 244 y18, ai (a 37) cI 976 y19, ai (a 39) cI 48 y20, ai (a 40) cI 48 y21, ai (a 43) cI 144 y22] H → va_D A [o_M a y15 M_typed y16 y17 M_why M_rows M_wide M_column M_found, ai (a 36) cI 244 y18, ai (a 37) cI 976 y19, ai (a 39) cI 48 y20, ai (a 40) cI 48 y21, ai (a 43) cI 144 y22] → va_S A s.heap H locs → ∀ ls : Array Slot, lv_has ls 8 [(0, .ref (a 35)), (1, .int x1), (2, .int x2)] → W p l e { frames := 3, cells := 0, slots := 0, locals := 65 } s m args below meth c H locs 0 0 (MQ below (eQ D (some (.int r0)) (fun _ : Unit => [o_M a M_pasts' M_typed M_ways' M_z' M_why M_rows M_wide M_column M_found, ai (a 36) cI 244 M_s', ai (a 37) cI 976 M_past', ai (a 39) cI 48 M_one', ai (a 40) cI 48 M_other', ai (a 43) cI 144 M_made']) A) args s 0 0 A) (F0 m 52 ls []) := by
    intro y15 y16 y17 y18 y19 y20 y21 y22 hm H locs hP hD hS ls hl
    unfold m_X10_make_j52 at hm
    refine lv_aload_n hx hb dX10_make_52 rfl (lv_at hl 0 rfl) ?_
    refine lv_iload_n hx hb dX10_make_53 rfl (lv_at hl 1 rfl) ?_
    refine va_put (D := D) (ci := 10) (v := .int x1) (ty := .int) (C := RX10) (T := TX10) (N := 17) hx hb hts hiX10 tyX10 tyX10_ok nmX10 hown hK.1 hP hD hS 0 rfl rfl 10 (by decide) (hts (.fieldLink RX10 182 "IslandBridgesModel" "z" "I") (List.mem_of_getElem? (i := 3) rfl)) (fun _ h9 => h9) rfl (by decide +kernel) rfl rfl (Nat.le_of_ble_eq_true rfl) dX10_make_54 (fun H locs hP hD hS => ?_)
    have hP : va_P D vwCl [o_M a y15 M_typed y16 x1 M_why M_rows M_wide M_column M_found, ai (a 36) cI 244 y18, ai (a 37) cI 976 y19, ai (a 39) cI 48 y20, ai (a 40) cI 48 y21, ai (a 43) cI 144 y22] H := hP
    have hD : va_D A [o_M a y15 M_typed y16 x1 M_why M_rows M_wide M_column M_found, ai (a 36) cI 244 y18, ai (a 37) cI 976 y19, ai (a 39) cI 48 y20, ai (a 40) cI 48 y21, ai (a 43) cI 144 y22] := hD
    refine lv_aload_n hx hb dX10_make_57 rfl (lv_at hl 0 rfl) ?_
    refine va_get (D := D) (ci := 10) (v := .ref (a 36)) (C := RX10) (T := TX10) (N := 17) hx hb hts hiX10 hown hK.1 hP 0 rfl rfl 0 (by decide) (hts (.fieldLink RX10 7 "IslandBridgesModel" "s" "[I") (List.mem_of_getElem? (i := 4) rfl)) (fun _ h9 => h9) rfl dX10_make_58 ?_
    refine lv_iconst (v := 4) hx hb dX10_make_61 (by decide) ?_
    refine lv_aload_n hx hb dX10_make_62 rfl (lv_at hl 0 rfl) ?_
    refine lv_aload_n hx hb dX10_make_63 rfl (lv_at hl 0 rfl) ?_
    obtain ⟨v23, h_v23, hm⟩ := bd1_inv hm
    refine cVs ⟨hx, hb, hml, hown, hts⟩ (c_X10_cells l D cI cJ cS cB a y15 M_typed y16 x1 M_why M_rows M_wide M_column M_found y18 v23 h_v23) (cwV 0 hts gX10_make_X10_cells rfl rfl rfl hd_X10_cells ⟨(Nat.le_of_ble_eq_true rfl), (Nat.le_of_ble_eq_true rfl)⟩) hK hP hD hS hA [0, 1] rfl rfl rfl hl.1 (Nat.le_of_ble_eq_true rfl) ⟨Nat.zero_le _, Nat.zero_le _⟩ 0 rfl rfl rfl rfl dX10_make_64 (fun H locs hP hD hS => ?_)
    obtain ⟨v24, v25, h_v24, hm⟩ := bd2_inv hm
    refine cVx ⟨hx, hb, hml, hown, hts⟩ (c_X10_draw l D cI cJ cS cB a y15 M_typed y16 x1 M_why M_rows M_wide M_column M_found v23 v24 v25 h_v24) (cwV 1 hts gX10_make_X10_draw rfl rfl rfl hd_X10_draw ⟨(Nat.le_of_ble_eq_true rfl), (Nat.le_of_ble_eq_true rfl)⟩) hK hP hD hS hA [0] rfl rfl [o_M a y15 M_typed y16 v25 M_why M_rows M_wide M_column M_found, ai (a 36) cI 244 y18, ai (a 37) cI 976 y19, ai (a 39) cI 48 y20, ai (a 40) cI 48 y21, ai (a 43) cI 144 y22] [(true, 0), (false, 1), (false, 2), (false, 3), (false, 4), (false, 5)] rfl rfl rfl hl.1 (Nat.le_of_ble_eq_true rfl) ⟨Nat.zero_le _, Nat.zero_le _⟩ 0 rfl rfl rfl rfl dX10_make_67 (fun H locs hP hD hS => ?_)
    refine lv_iadd hx hb dX10_make_70 ?_
    refine lv_iconst (v := 1) hx hb dX10_make_71 (by decide) ?_
    obtain ⟨v26, nv26, ev26, hm⟩ := wr_inv hm
    refine va_iast hx hb hK.1 hP hD hS 1 0 rfl rfl nv26 dX10_make_72 (fun H locs hP hD hS => ?_)
    have hP : va_P D vwCl [o_M a y15 M_typed y16 v25 M_why M_rows M_wide M_column M_found, ai (a 36) cI 244 v26, ai (a 37) cI 976 y19, ai (a 39) cI 48 y20, ai (a 40) cI 48 y21, ai (a 43) cI 144 y22] H := by rw [← ev26]; exact hP
    have hD : va_D A [o_M a y15 M_typed y16 v25 M_why M_rows M_wide M_column M_found, ai (a 36) cI 244 v26, ai (a 37) cI 976 y19, ai (a 39) cI 48 y20, ai (a 40) cI 48 y21, ai (a 43) cI 144 y22] := by rw [← ev26]; exact hD
    refine lv_iconst (v := 0) hx hb dX10_make_73 (by decide) ?_
    refine lv_istore_n (lv' := [(3, .int 0), (0, .ref (a 35)), (1, .int x1), (2, .int x2)]) hx hb dX10_make_74 rfl hl (by decide) rfl (fun ls hl => ?_)
    exact h75 y15 y16 y19 y20 y21 N 0 v25 v26 y22 hm _ _ hP hD hS ls (lv_sub hl [1, 3, 0] rfl)
  have h32 : ∀ (y7 : Int32) (y8 : Int32) (y9 : Int32) (y10 : Nat → Int32) (y11 : Nat → Int32) (y12 : Nat → Int32) (y13 : Nat → Int32), ∀ (n : Nat) (y6 : Int32) (y14 : Nat → Int32), zl2 (m_X10_make_b32 N x1 x2 y7 y10 y11 y12 y13) n y6 y14 = some (r0, M_pasts', M_ways', M_z', M_s', M_past', M_one', M_other', M_made') → ∀ (H : Heap) (locs : List Loc), va_P D vwCl [o_M a y7 M_typed y8 y9 M_why M_rows M_wide M_column M_found, ai (a 36) cI 244 y10, ai (a 37) cI 976 y11, ai (a 39) cI 48 y12, ai (a 40) cI 48 y13, ai (a 43) cI 144 y14] H → va_D A [o_M a y7 M_typed y8 y9 M_why M_rows M_wide M_column M_found, ai (a 36) cI 244 y10, ai (a 37) cI 976 y11, ai (a 39) cI 48 y12, ai (a 40) cI 48 y13, ai (a 43) cI 144 y14] → va_S A s.heap H locs → ∀ ls : Array Slot, lv_has ls 8 [(0, .ref (a 35)), (1, .int x1), (2, .int x2), (3, .int y6)] → W p l e { frames := 3, cells := 0, slots := 0, locals := 65 } s m args below meth c H locs 0 0 (MQ below (eQ D (some (.int r0)) (fun _ : Unit => [o_M a M_pasts' M_typed M_ways' M_z' M_why M_rows M_wide M_column M_found, ai (a 36) cI 244 M_s', ai (a 37) cI 976 M_past', ai (a 39) cI 48 M_one', ai (a 40) cI 48 M_other', ai (a 43) cI 144 M_made']) A) args s 0 0 A) (F0 m 32 ls []) := by
    intro y7 y8 y9 y10 y11 y12 y13
    refine zl2_ind (fun rec32 ih32 y6 y14 hm => ?_)
    intro H locs hP hD hS ls hl
    unfold m_X10_make_b32 at hm
    refine lv_iload_n hx hb dX10_make_32 rfl (lv_at hl 3 rfl) ?_
    refine lv_sipush (v := 144) hx hb dX10_make_33 (by decide) ?_
    refine lv_icmp_ge (tgt := 52) hx hb dX10_make_36 (by decide) (fun c36 => ?_) (fun c36 => ?_)
    · have hm := ip c36 hm
      exact h52 y7 y8 y9 y10 y11 y12 y13 y14 hm _ _ hP hD hS ls (lv_sub hl [0, 1, 2] rfl)
    · have hm := ine c36 hm
      refine lv_aload_n hx hb dX10_make_39 rfl (lv_at hl 0 rfl) ?_
      refine va_get (D := D) (ci := 10) (v := .ref (a 43)) (C := RX10) (T := TX10) (N := 17) hx hb hts hiX10 hown hK.1 hP 0 rfl rfl 11 (by decide) (hts (.fieldLink RX10 32 "IslandBridgesModel" "made" "[I") (List.mem_of_getElem? (i := 2) rfl)) (fun _ h9 => h9) rfl dX10_make_40 ?_
      refine lv_iload_n hx hb dX10_make_43 rfl (lv_at hl 3 rfl) ?_
      refine lv_iconst (v := 0) hx hb dX10_make_44 (by decide) ?_
      obtain ⟨v98, nv98, ev98, hm⟩ := wr_inv hm
      refine va_iast hx hb hK.1 hP hD hS 5 0 rfl rfl nv98 dX10_make_45 (fun H locs hP hD hS => ?_)
      have hP : va_P D vwCl [o_M a y7 M_typed y8 y9 M_why M_rows M_wide M_column M_found, ai (a 36) cI 244 y10, ai (a 37) cI 976 y11, ai (a 39) cI 48 y12, ai (a 40) cI 48 y13, ai (a 43) cI 144 v98] H := by rw [← ev98]; exact hP
      have hD : va_D A [o_M a y7 M_typed y8 y9 M_why M_rows M_wide M_column M_found, ai (a 36) cI 244 y10, ai (a 37) cI 976 y11, ai (a 39) cI 48 y12, ai (a 40) cI 48 y13, ai (a 43) cI 144 v98] := by rw [← ev98]; exact hD
      obtain ⟨v99, ev99, hm⟩ := lt1_inv hm
      refine lv_iinc (v := v99) (lv' := [(3, .int v99), (0, .ref (a 35)), (1, .int x1), (2, .int x2)]) hx hb dX10_make_46 hl (k := 3) rfl ev99 (by decide) rfl (fun ls hl => ?_)
      refine lv_goto (tgt := 32) hx hb dX10_make_49 (by decide) ?_
      exact ih32 v99 v98 hm _ _ hP hD hS ls (lv_sub hl [1, 2, 3, 0] rfl)
  refine lv_iload_n hx hb dX10_make_0 rfl (lv_at hl 1 rfl) ?_
  refine lv_iconst (v := 0) hx hb dX10_make_1 (by decide) ?_
  refine lv_ldc (v := 65535) hx hb hown (hts (.constant RX10 186 (65535)) (List.mem_of_getElem? (i := 1) rfl)) dX10_make_2 ?_
  obtain ⟨v1, h_v1, hm⟩ := lt1_inv hm
  refine cSs ⟨hx, hb, hml, hown, hts⟩ (c_X10_in l D cI cJ cS cB a  x1 0 65535 v1 h_v1) (va_cwS 3 hts gX10_make_X10_in rfl rfl rfl hd_X10_in ⟨(Nat.le_of_ble_eq_true rfl), (Nat.le_of_ble_eq_true rfl)⟩) hK hP hD hS hA [] rfl rfl rfl hl.1 (Nat.le_of_ble_eq_true rfl) ⟨Nat.zero_le _, Nat.zero_le _⟩ rfl dX10_make_4 (fun H locs hP hD hS => ?_)
  refine lv_if_eq (tgt := 20) hx hb dX10_make_7 (by decide) (fun c7 => ?_) (fun c7 => ?_)
  · have hm := ip c7 hm
    refine lv_iconst (v := (-1)) hx hb dX10_make_20 (by decide) ?_
    cases hm
    exact rI () hx hb hr hlk hP hD hS dX10_make_21
  · have hm := ine c7 hm
    refine lv_iload_n hx hb dX10_make_10 rfl (lv_at hl 2 rfl) ?_
    refine lv_iconst (v := 2) hx hb dX10_make_11 (by decide) ?_
    refine lv_bipush (v := 24) hx hb dX10_make_12 (by decide) ?_
    obtain ⟨v2, h_v2, hm⟩ := lt1_inv hm
    refine cSs ⟨hx, hb, hml, hown, hts⟩ (c_X10_in l D cI cJ cS cB a  x2 2 24 v2 h_v2) (va_cwS 3 hts gX10_make_X10_in rfl rfl rfl hd_X10_in ⟨(Nat.le_of_ble_eq_true rfl), (Nat.le_of_ble_eq_true rfl)⟩) hK hP hD hS hA [] rfl rfl rfl hl.1 (Nat.le_of_ble_eq_true rfl) ⟨Nat.zero_le _, Nat.zero_le _⟩ rfl dX10_make_14 (fun H locs hP hD hS => ?_)
    refine lv_if_ne (tgt := 22) hx hb dX10_make_17 (by decide) (fun c17 => ?_) (fun c17 => ?_)
    · have hm := ine c17 hm
      refine lv_aload_n hx hb dX10_make_22 rfl (lv_at hl 0 rfl) ?_
      obtain ⟨v3, v4, h_v3, hm⟩ := bd2_inv hm
      refine cVx ⟨hx, hb, hml, hown, hts⟩ (c_X10_notes l D cI cJ cS cB a M_pasts M_typed M_ways M_z M_why M_rows M_wide M_column M_found M_s M_past N v3 v4 h_v3) (cwV 0 hts gX10_make_X10_notes rfl rfl rfl hd_X10_notes ⟨(Nat.le_of_ble_eq_true rfl), (Nat.le_of_ble_eq_true rfl)⟩) hK hP hD hS hA [0, 1, 2] rfl rfl [o_M a v3 M_typed M_ways M_z M_why M_rows M_wide M_column M_found, ai (a 36) cI 244 M_s, ai (a 37) cI 976 v4, ai (a 39) cI 48 M_one, ai (a 40) cI 48 M_other, ai (a 43) cI 144 M_made] [(true, 0), (true, 1), (true, 2), (false, 3), (false, 4), (false, 5)] rfl rfl rfl hl.1 (Nat.le_of_ble_eq_true rfl) ⟨Nat.zero_le _, Nat.zero_le _⟩ 0 rfl rfl rfl rfl dX10_make_23 (fun H locs hP hD hS => ?_)
      refine lv_aload_n hx hb dX10_make_26 rfl (lv_at hl 0 rfl) ?_
      obtain ⟨v5, h_v5, hm⟩ := bd1_inv hm
      refine cVx ⟨hx, hb, hml, hown, hts⟩ (c_X10_empties l D cI cJ cS cB a v3 M_typed M_ways M_z M_why M_rows M_wide M_column M_found M_s N v5 h_v5) (cwV 0 hts gX10_make_X10_empties rfl rfl rfl hd_X10_empties ⟨(Nat.le_of_ble_eq_true rfl), (Nat.le_of_ble_eq_true rfl)⟩) hK hP hD hS hA [0, 1] rfl rfl [o_M a v3 M_typed M_ways M_z M_why M_rows M_wide M_column M_found, ai (a 36) cI 244 v5, ai (a 37) cI 976 v4, ai (a 39) cI 48 M_one, ai (a 40) cI 48 M_other, ai (a 43) cI 144 M_made] [(true, 0), (true, 1), (false, 2), (false, 3), (false, 4), (false, 5)] rfl rfl rfl hl.1 (Nat.le_of_ble_eq_true rfl) ⟨Nat.zero_le _, Nat.zero_le _⟩ 0 rfl rfl rfl rfl dX10_make_27 (fun H locs hP hD hS => ?_)
      refine lv_iconst (v := 0) hx hb dX10_make_30 (by decide) ?_
      refine lv_istore_n (lv' := [(3, .int 0), (0, .ref (a 35)), (1, .int x1), (2, .int x2)]) hx hb dX10_make_31 rfl hl (by decide) rfl (fun ls hl => ?_)
      exact h32 v3 M_ways M_z v5 v4 M_one M_other N 0 M_made hm _ _ hP hD hS ls (lv_sub hl [1, 2, 3, 0] rfl)
    · have hm := ip c17 hm
      refine lv_iconst (v := (-1)) hx hb dX10_make_20 (by decide) ?_
      cases hm
      exact rI () hx hb hr hlk hP hD hS dX10_make_21
theorem hd_X10_type : yX10_type.cls = RX10 ∧ yX10_type.cls ≠ "java/lang/invoke/MethodHandle" ∧ yX10_type.cls ≠ "java/lang/invoke/VarHandle" ∧ (parseMethodDescriptor yX10_type.desc).map (fun d => d.parameters.length) = some 1 := by decide +kernel
def m_X10_type (M_typed : Int32) (M_text : Nat → Int32) (x1 : Int32) : Option (Int32 × Int32 × (Nat → Int32)) :=
  lt1 (m_X10_in x1 32 126) (fun v1 => if v1 = 0 then (some (((-1), M_typed, M_text))) else (if M_typed = 160 then (some (((-3), M_typed, M_text))) else (wr 160 M_text M_typed (vp_nar .byte x1.toInt8.toInt32) (fun v2 => lt1 (M_typed + 1) (fun v3 => some ((v3, v3, v2)))))))
set_option maxHeartbeats 4000000 in
set_option maxRecDepth 100000 in
theorem c_X10_type (l : Launch) (D : va_G) (cI cJ cS cB : ClassId) (a : Nat → Nat) (M_pasts : Int32) (M_typed : Int32) (M_ways : Int32) (M_z : Int32) (M_why : Int32) (M_rows : Int32) (M_wide : Int32) (M_column : Int32) (M_found : Int32) (M_text : Nat → Int32) (x1 : Int32) (r0 : Int32) (M_typed' : Int32) (M_text' : Nat → Int32) (hm : m_X10_type M_typed M_text x1 = some (r0, M_typed', M_text')) :
    mU l D (TYs cI cJ cS cB) yX10_type wsX10_type { frames := 1, cells := 0, slots := 0, locals := 22 } [.ref (a 35), .int x1] [o_M a M_pasts M_typed M_ways M_z M_why M_rows M_wide M_column M_found, ai (a 38) cB 160 M_text] [o_M a M_pasts M_typed' M_ways M_z M_why M_rows M_wide M_column M_found, ai (a 38) cB 160 M_text'] (some (.int r0)) := by
  refine mG_of (cc := cX10_type) (maxL := 2) (ret := (some .int)) (by decide) rfl rfl (Nat.le_of_ble_eq_true rfl) ?_
  intro p e s m args below meth c A hx hb hr hml hlk hnm hts hown hK hP hD hA hS ls hl
  have hl : lv_has ls 2 [(0, .ref (a 35)), (1, .int x1)] := hl
  have hiX10 : ∀ w ∈ wsX100, w ∈ wsX10_type := fun w h => List.mem_cons_of_mem _ (List.mem_append_right _ h)
  unfold m_X10_type at hm
  refine lv_iload_n hx hb dX10_type_0 rfl (lv_at hl 1 rfl) ?_
  refine lv_bipush (v := 32) hx hb dX10_type_1 (by decide) ?_
  refine lv_bipush (v := 126) hx hb dX10_type_3 (by decide) ?_
  obtain ⟨v1, h_v1, hm⟩ := lt1_inv hm
  refine cSs ⟨hx, hb, hml, hown, hts⟩ (c_X10_in l D cI cJ cS cB a  x1 32 126 v1 h_v1) (va_cwS 3 hts gX10_type_X10_in rfl rfl rfl hd_X10_in ⟨(Nat.le_of_ble_eq_true rfl), (Nat.le_of_ble_eq_true rfl)⟩) hK hP hD hS hA [] rfl rfl rfl hl.1 (Nat.le_of_ble_eq_true rfl) ⟨Nat.zero_le _, Nat.zero_le _⟩ rfl dX10_type_5 (fun H locs hP hD hS => ?_)
  refine lv_if_ne (tgt := 13) hx hb dX10_type_8 (by decide) (fun c8 => ?_) (fun c8 => ?_)
  · have hm := ine c8 hm
    refine lv_aload_n hx hb dX10_type_13 rfl (lv_at hl 0 rfl) ?_
    refine va_get (D := D) (ci := 10) (v := .int M_typed) (C := RX10) (T := TX10) (N := 17) hx hb hts hiX10 hown hK.1 hP 0 rfl rfl 4 (by decide) (hts (.fieldLink RX10 147 "IslandBridgesModel" "typed" "I") (List.mem_of_getElem? (i := 1) rfl)) (fun _ h9 => h9) rfl dX10_type_14 ?_
    refine lv_sipush (v := 160) hx hb dX10_type_17 (by decide) ?_
    refine lv_icmp_ne (tgt := 26) hx hb dX10_type_20 (by decide) (fun c20 => ?_) (fun c20 => ?_)
    · have hm := ine c20 hm
      refine lv_aload_n hx hb dX10_type_26 rfl (lv_at hl 0 rfl) ?_
      refine va_get (D := D) (ci := 10) (v := .ref (a 38)) (C := RX10) (T := TX10) (N := 17) hx hb hts hiX10 hown hK.1 hP 0 rfl rfl 3 (by decide) (hts (.fieldLink RX10 16 "IslandBridgesModel" "text" "[B") (List.mem_of_getElem? (i := 2) rfl)) (fun _ h9 => h9) rfl dX10_type_27 ?_
      refine lv_aload_n hx hb dX10_type_30 rfl (lv_at hl 0 rfl) ?_
      refine va_get (D := D) (ci := 10) (v := .int M_typed) (C := RX10) (T := TX10) (N := 17) hx hb hts hiX10 hown hK.1 hP 0 rfl rfl 4 (by decide) (hts (.fieldLink RX10 147 "IslandBridgesModel" "typed" "I") (List.mem_of_getElem? (i := 1) rfl)) (fun _ h9 => h9) rfl dX10_type_31 ?_
      refine lv_iload_n hx hb dX10_type_34 rfl (lv_at hl 1 rfl) ?_
      refine lv_i2b hx hb dX10_type_35 (v := x1.toInt8.toInt32) rfl ?_
      obtain ⟨v2, nv2, ev2, hm⟩ := wr_inv hm
      refine va_bast hx hb hK.1 hP hD hS 1 3 rfl rfl nv2 dX10_type_36 (fun H locs hP hD hS => ?_)
      have hP : va_P D vwCl [o_M a M_pasts M_typed M_ways M_z M_why M_rows M_wide M_column M_found, ai (a 38) cB 160 v2] H := by rw [← ev2]; exact hP
      have hD : va_D A [o_M a M_pasts M_typed M_ways M_z M_why M_rows M_wide M_column M_found, ai (a 38) cB 160 v2] := by rw [← ev2]; exact hD
      refine lv_aload_n hx hb dX10_type_37 rfl (lv_at hl 0 rfl) ?_
      refine lv_dup hx hb dX10_type_38 rfl ?_
      refine va_get (D := D) (ci := 10) (v := .int M_typed) (C := RX10) (T := TX10) (N := 17) hx hb hts hiX10 hown hK.1 hP 0 rfl rfl 4 (by decide) (hts (.fieldLink RX10 147 "IslandBridgesModel" "typed" "I") (List.mem_of_getElem? (i := 1) rfl)) (fun _ h9 => h9) rfl dX10_type_39 ?_
      refine lv_iconst (v := 1) hx hb dX10_type_42 (by decide) ?_
      refine lv_iadd hx hb dX10_type_43 ?_
      obtain ⟨v3, ev3, hm⟩ := lt1_inv hm
      refine ltop ev3 ?_
      refine va_put (D := D) (ci := 10) (v := .int v3) (ty := .int) (C := RX10) (T := TX10) (N := 17) hx hb hts hiX10 tyX10 tyX10_ok nmX10 hown hK.1 hP hD hS 0 rfl rfl 4 (by decide) (hts (.fieldLink RX10 147 "IslandBridgesModel" "typed" "I") (List.mem_of_getElem? (i := 1) rfl)) (fun _ h9 => h9) rfl (by decide +kernel) rfl rfl (Nat.le_of_ble_eq_true rfl) dX10_type_44 (fun H locs hP hD hS => ?_)
      have hP : va_P D vwCl [o_M a M_pasts v3 M_ways M_z M_why M_rows M_wide M_column M_found, ai (a 38) cB 160 v2] H := hP
      have hD : va_D A [o_M a M_pasts v3 M_ways M_z M_why M_rows M_wide M_column M_found, ai (a 38) cB 160 v2] := hD
      refine lv_aload_n hx hb dX10_type_47 rfl (lv_at hl 0 rfl) ?_
      refine va_get (D := D) (ci := 10) (v := .int v3) (C := RX10) (T := TX10) (N := 17) hx hb hts hiX10 hown hK.1 hP 0 rfl rfl 4 (by decide) (hts (.fieldLink RX10 147 "IslandBridgesModel" "typed" "I") (List.mem_of_getElem? (i := 1) rfl)) (fun _ h9 => h9) rfl dX10_type_48 ?_
      cases hm
      exact rI () hx hb hr hlk hP hD hS dX10_type_51
    · have hm := ip c20 hm
      refine lv_bipush (v := (-3)) hx hb dX10_type_23 (by decide) ?_
      cases hm
      exact rI () hx hb hr hlk hP hD hS dX10_type_25
  · have hm := ip c8 hm
    refine lv_iconst (v := (-1)) hx hb dX10_type_11 (by decide) ?_
    cases hm
    exact rI () hx hb hr hlk hP hD hS dX10_type_12
theorem hd_X10_clearText : yX10_clearText.cls = RX10 ∧ yX10_clearText.cls ≠ "java/lang/invoke/MethodHandle" ∧ yX10_clearText.cls ≠ "java/lang/invoke/VarHandle" ∧ (parseMethodDescriptor yX10_clearText.desc).map (fun d => d.parameters.length) = some 0 := by decide +kernel
def m_X10_clearText (M_typed : Int32) : Int32 × Int32 :=
  (M_typed, 0)
set_option maxHeartbeats 4000000 in
set_option maxRecDepth 100000 in
theorem c_X10_clearText (l : Launch) (D : va_G) (cI cJ cS cB : ClassId) (a : Nat → Nat) (M_pasts : Int32) (M_typed : Int32) (M_ways : Int32) (M_z : Int32) (M_why : Int32) (M_rows : Int32) (M_wide : Int32) (M_column : Int32) (M_found : Int32)  (r0 : Int32) (M_typed' : Int32) (hm : m_X10_clearText M_typed = (r0, M_typed')) :
    mU l D (TYs cI cJ cS cB) yX10_clearText wsX10_clearText { frames := 0, cells := 0, slots := 0, locals := 0 } [.ref (a 35)] [o_M a M_pasts M_typed M_ways M_z M_why M_rows M_wide M_column M_found] [o_M a M_pasts M_typed' M_ways M_z M_why M_rows M_wide M_column M_found] (some (.int r0)) := by
  refine mG_of (cc := cX10_clearText) (maxL := 2) (ret := (some .int)) (by decide) rfl rfl (Nat.le_of_ble_eq_true rfl) ?_
  intro p e s m args below meth c A hx hb hr hml hlk hnm hts hown hK hP hD hA hS ls hl
  have hl : lv_has ls 2 [(0, .ref (a 35))] := hl
  have hiX10 : ∀ w ∈ wsX100, w ∈ wsX10_clearText := fun w h => List.mem_cons_of_mem _ (List.mem_append_right _ h)
  unfold m_X10_clearText at hm
  refine lv_aload_n hx hb dX10_clearText_0 rfl (lv_at hl 0 rfl) ?_
  refine va_get (D := D) (ci := 10) (v := .int M_typed) (C := RX10) (T := TX10) (N := 17) hx hb hts hiX10 hown hK.1 hP 0 rfl rfl 4 (by decide) (hts (.fieldLink RX10 147 "IslandBridgesModel" "typed" "I") (List.mem_of_getElem? (i := 1) rfl)) (fun _ h9 => h9) rfl dX10_clearText_1 ?_
  refine lv_istore_n (lv' := [(1, .int M_typed), (0, .ref (a 35))]) hx hb dX10_clearText_4 rfl hl (by decide) rfl (fun ls hl => ?_)
  refine lv_aload_n hx hb dX10_clearText_5 rfl (lv_at hl 1 rfl) ?_
  refine lv_iconst (v := 0) hx hb dX10_clearText_6 (by decide) ?_
  refine va_put (D := D) (ci := 10) (v := .int 0) (ty := .int) (C := RX10) (T := TX10) (N := 17) hx hb hts hiX10 tyX10 tyX10_ok nmX10 hown hK.1 hP hD hS 0 rfl rfl 4 (by decide) (hts (.fieldLink RX10 147 "IslandBridgesModel" "typed" "I") (List.mem_of_getElem? (i := 1) rfl)) (fun _ h9 => h9) rfl (by decide +kernel) rfl rfl (Nat.le_of_ble_eq_true rfl) dX10_clearText_7 (fun H locs hP hD hS => ?_)
  have hP : va_P D vwCl [o_M a M_pasts 0 M_ways M_z M_why M_rows M_wide M_column M_found] H := hP
  have hD : va_D A [o_M a M_pasts 0 M_ways M_z M_why M_rows M_wide M_column M_found] := hD
  refine lv_iload_n hx hb dX10_clearText_10 rfl (lv_at hl 0 rfl) ?_
  cases hm
  exact rI () hx hb hr hlk hP hD hS dX10_clearText_11
theorem hd_X10_reads : yX10_reads.cls = RX10 ∧ yX10_reads.cls ≠ "java/lang/invoke/MethodHandle" ∧ yX10_reads.cls ≠ "java/lang/invoke/VarHandle" ∧ (parseMethodDescriptor yX10_reads.desc).map (fun d => d.parameters.length) = some 1 := by decide +kernel
def m_X10_reads_j158 (y21 : Int32) (y22 : Int32) (y23 : Int32) (y25 : Int32) (y26 : Int32) : Int32 × Int32 × Int32 × Int32 × Int32 :=
  lt1 (y25 + y26) (fun v27 => lt1 (y23 + 1) (fun v28 => (0, y21, y22, v28, v27)))
def m_X10_reads_j142 (x1 : Int32) (y17 : Int32) (y18 : Int32) (y19 : Int32) (y20 : Int32) : Int32 × Int32 × Int32 × Int32 × Int32 :=
  if x1 = 46 then (m_X10_reads_j158 y17 y18 y19 y20 0) else (m_X10_reads_j158 y17 y18 y19 y20 1)
def m_X10_reads_j120 (x1 : Int32) (y11 : Int32) (y12 : Int32) (y13 : Int32) (y14 : Int32) (y15 : Int32) (y16 : Int32) : Int32 × Int32 × Int32 × Int32 × Int32 :=
  if y15 = y16 then ((2, y11, y12, y13, y14)) else (if x1 = 46 then (m_X10_reads_j142 x1 y11 y12 y13 y14) else (if y14 = 24 then ((4, y11, y12, y13, y14)) else (m_X10_reads_j142 x1 y11 y12 y13 y14)))
def m_X10_reads_j103 (x1 : Int32) (y6 : Int32) (y7 : Int32) (y8 : Int32) (y9 : Int32) (y10 : Int32) : Int32 × Int32 × Int32 × Int32 × Int32 :=
  if y6 = 0 then (m_X10_reads_j120 x1 y7 y8 y9 y10 y9 y8) else (m_X10_reads_j120 x1 y7 y8 y9 y10 y9 12)
def m_X10_reads_j48 (y30 : Int32) (y31 : Int32) (y32 : Int32) (y33 : Int32) : Int32 × Int32 × Int32 × Int32 × Int32 :=
  if y30 = 12 then ((3, y30, y31, y32, y33)) else (lt1 (y30 + 1) (fun v34 => (0, v34, y32, 0, y33)))
def m_X10_reads_j13 (x1 : Int32) (y1 : Int32) (y2 : Int32) (y3 : Int32) (y4 : Int32) (y5 : Int32) : Int32 × Int32 × Int32 × Int32 × Int32 :=
  if x1 = 47 then (if y5 = 0 then (if y2 ≤ y3 then (m_X10_reads_j48 y1 y2 y3 y4) else ((2, y1, y2, y3, y4))) else (if 3 ≤ y3 then (m_X10_reads_j48 y1 y2 y3 y4) else ((2, y1, y2, y3, y4)))) else (if x1 = 46 then (m_X10_reads_j103 x1 y5 y1 y2 y3 y4) else (lt1 (m_X10_in x1 49 56) (fun v29 => if v29 = 0 then ((1, y1, y2, y3, y4)) else (m_X10_reads_j103 x1 y5 y1 y2 y3 y4))))
def m_X10_reads (M_rows : Int32) (M_wide : Int32) (M_column : Int32) (M_found : Int32) (x1 : Int32) : Int32 × Int32 × Int32 × Int32 × Int32 :=
  if M_rows = 1 then (m_X10_reads_j13 x1 M_rows M_wide M_column M_found 1) else (m_X10_reads_j13 x1 M_rows M_wide M_column M_found 0)
set_option maxHeartbeats 4000000 in
set_option maxRecDepth 100000 in
theorem c_X10_reads (l : Launch) (D : va_G) (cI cJ cS cB : ClassId) (a : Nat → Nat) (M_pasts : Int32) (M_typed : Int32) (M_ways : Int32) (M_z : Int32) (M_why : Int32) (M_rows : Int32) (M_wide : Int32) (M_column : Int32) (M_found : Int32) (x1 : Int32) (r0 : Int32) (M_rows' : Int32) (M_wide' : Int32) (M_column' : Int32) (M_found' : Int32) (hm : m_X10_reads M_rows M_wide M_column M_found x1 = (r0, M_rows', M_wide', M_column', M_found')) :
    mU l D (TYs cI cJ cS cB) yX10_reads wsX10_reads { frames := 1, cells := 0, slots := 0, locals := 22 } [.ref (a 35), .int x1] [o_M a M_pasts M_typed M_ways M_z M_why M_rows M_wide M_column M_found] [o_M a M_pasts M_typed M_ways M_z M_why M_rows' M_wide' M_column' M_found'] (some (.int r0)) := by
  refine mG_of (cc := cX10_reads) (maxL := 3) (ret := (some .int)) (by decide) rfl rfl (Nat.le_of_ble_eq_true rfl) ?_
  intro p e s m args below meth c A hx hb hr hml hlk hnm hts hown hK hP hD hA hS ls hl
  have hl : lv_has ls 3 [(0, .ref (a 35)), (1, .int x1)] := hl
  have hiX10 : ∀ w ∈ wsX100, w ∈ wsX10_reads := fun w h => List.mem_cons_of_mem _ (List.mem_append_right _ h)
  unfold m_X10_reads at hm
  have h158 : ∀ (y21 : Int32) (y22 : Int32) (y23 : Int32) (y24 : Int32) (y25 : Int32) (y26 : Int32), m_X10_reads_j158 y21 y22 y23 y25 y26 = (r0, M_rows', M_wide', M_column', M_found') → ∀ (H : Heap) (locs : List Loc), va_P D vwCl [o_M a M_pasts M_typed M_ways M_z M_why y21 y22 y23 y24] H → va_D A [o_M a M_pasts M_typed M_ways M_z M_why y21 y22 y23 y24] → va_S A s.heap H locs → ∀ ls : Array Slot, lv_has ls 3 [(0, .ref (a 35))] → W p l e { frames := 1, cells := 0, slots := 0, locals := 22 } s m args below meth c H locs 0 0 (MQ below (eQ D (some (.int r0)) (fun _ : Unit => [o_M a M_pasts M_typed M_ways M_z M_why M_rows' M_wide' M_column' M_found']) A) args s 0 0 A) (F0 m 158 ls [.int y26, .int y25, .ref (a 35)]) := by
    intro y21 y22 y23 y24 y25 y26 hm H locs hP hD hS ls hl
    unfold m_X10_reads_j158 at hm
    refine lv_iadd hx hb dX10_reads_158 ?_
    obtain ⟨v27, ev27, hm⟩ := lt1_inv hm
    refine ltop ev27 ?_
    refine va_put (D := D) (ci := 10) (v := .int v27) (ty := .int) (C := RX10) (T := TX10) (N := 17) hx hb hts hiX10 tyX10 tyX10_ok nmX10 hown hK.1 hP hD hS 0 rfl rfl 16 (by decide) (hts (.fieldLink RX10 206 "IslandBridgesModel" "found" "I") (List.mem_of_getElem? (i := 4) rfl)) (fun _ h9 => h9) rfl (by decide +kernel) rfl rfl (Nat.le_of_ble_eq_true rfl) dX10_reads_159 (fun H locs hP hD hS => ?_)
    have hP : va_P D vwCl [o_M a M_pasts M_typed M_ways M_z M_why y21 y22 y23 v27] H := hP
    have hD : va_D A [o_M a M_pasts M_typed M_ways M_z M_why y21 y22 y23 v27] := hD
    refine lv_aload_n hx hb dX10_reads_162 rfl (lv_at hl 0 rfl) ?_
    refine lv_dup hx hb dX10_reads_163 rfl ?_
    refine va_get (D := D) (ci := 10) (v := .int y23) (C := RX10) (T := TX10) (N := 17) hx hb hts hiX10 hown hK.1 hP 0 rfl rfl 15 (by decide) (hts (.fieldLink RX10 200 "IslandBridgesModel" "column" "I") (List.mem_of_getElem? (i := 2) rfl)) (fun _ h9 => h9) rfl dX10_reads_164 ?_
    refine lv_iconst (v := 1) hx hb dX10_reads_167 (by decide) ?_
    refine lv_iadd hx hb dX10_reads_168 ?_
    obtain ⟨v28, ev28, hm⟩ := lt1_inv hm
    refine ltop ev28 ?_
    refine va_put (D := D) (ci := 10) (v := .int v28) (ty := .int) (C := RX10) (T := TX10) (N := 17) hx hb hts hiX10 tyX10 tyX10_ok nmX10 hown hK.1 hP hD hS 0 rfl rfl 15 (by decide) (hts (.fieldLink RX10 200 "IslandBridgesModel" "column" "I") (List.mem_of_getElem? (i := 2) rfl)) (fun _ h9 => h9) rfl (by decide +kernel) rfl rfl (Nat.le_of_ble_eq_true rfl) dX10_reads_169 (fun H locs hP hD hS => ?_)
    have hP : va_P D vwCl [o_M a M_pasts M_typed M_ways M_z M_why y21 y22 v28 v27] H := hP
    have hD : va_D A [o_M a M_pasts M_typed M_ways M_z M_why y21 y22 v28 v27] := hD
    refine lv_iconst (v := 0) hx hb dX10_reads_172 (by decide) ?_
    cases hm
    exact rI () hx hb hr hlk hP hD hS dX10_reads_173
  have h142 : ∀ (y17 : Int32) (y18 : Int32) (y19 : Int32) (y20 : Int32), m_X10_reads_j142 x1 y17 y18 y19 y20 = (r0, M_rows', M_wide', M_column', M_found') → ∀ (H : Heap) (locs : List Loc), va_P D vwCl [o_M a M_pasts M_typed M_ways M_z M_why y17 y18 y19 y20] H → va_D A [o_M a M_pasts M_typed M_ways M_z M_why y17 y18 y19 y20] → va_S A s.heap H locs → ∀ ls : Array Slot, lv_has ls 3 [(0, .ref (a 35)), (1, .int x1)] → W p l e { frames := 1, cells := 0, slots := 0, locals := 22 } s m args below meth c H locs 0 0 (MQ below (eQ D (some (.int r0)) (fun _ : Unit => [o_M a M_pasts M_typed M_ways M_z M_why M_rows' M_wide' M_column' M_found']) A) args s 0 0 A) (F0 m 142 ls []) := by
    intro y17 y18 y19 y20 hm H locs hP hD hS ls hl
    unfold m_X10_reads_j142 at hm
    refine lv_aload_n hx hb dX10_reads_142 rfl (lv_at hl 0 rfl) ?_
    refine lv_dup hx hb dX10_reads_143 rfl ?_
    refine va_get (D := D) (ci := 10) (v := .int y20) (C := RX10) (T := TX10) (N := 17) hx hb hts hiX10 hown hK.1 hP 0 rfl rfl 16 (by decide) (hts (.fieldLink RX10 206 "IslandBridgesModel" "found" "I") (List.mem_of_getElem? (i := 4) rfl)) (fun _ h9 => h9) rfl dX10_reads_144 ?_
    refine lv_iload_n hx hb dX10_reads_147 rfl (lv_at hl 1 rfl) ?_
    refine lv_bipush (v := 46) hx hb dX10_reads_148 (by decide) ?_
    refine lv_icmp_ne (tgt := 157) hx hb dX10_reads_150 (by decide) (fun c150 => ?_) (fun c150 => ?_)
    · have hm := ine c150 hm
      refine lv_iconst (v := 1) hx hb dX10_reads_157 (by decide) ?_
      exact h158 y17 y18 y19 y20 y20 1 hm _ _ hP hD hS ls (lv_sub hl [0] rfl)
    · have hm := ip c150 hm
      refine lv_iconst (v := 0) hx hb dX10_reads_153 (by decide) ?_
      refine lv_goto (tgt := 158) hx hb dX10_reads_154 (by decide) ?_
      exact h158 y17 y18 y19 y20 y20 0 hm _ _ hP hD hS ls (lv_sub hl [0] rfl)
  have h120 : ∀ (y11 : Int32) (y12 : Int32) (y13 : Int32) (y14 : Int32) (y15 : Int32) (y16 : Int32), m_X10_reads_j120 x1 y11 y12 y13 y14 y15 y16 = (r0, M_rows', M_wide', M_column', M_found') → ∀ (H : Heap) (locs : List Loc), va_P D vwCl [o_M a M_pasts M_typed M_ways M_z M_why y11 y12 y13 y14] H → va_D A [o_M a M_pasts M_typed M_ways M_z M_why y11 y12 y13 y14] → va_S A s.heap H locs → ∀ ls : Array Slot, lv_has ls 3 [(0, .ref (a 35)), (1, .int x1)] → W p l e { frames := 1, cells := 0, slots := 0, locals := 22 } s m args below meth c H locs 0 0 (MQ below (eQ D (some (.int r0)) (fun _ : Unit => [o_M a M_pasts M_typed M_ways M_z M_why M_rows' M_wide' M_column' M_found']) A) args s 0 0 A) (F0 m 120 ls [.int y16, .int y15]) := by
    intro y11 y12 y13 y14 y15 y16 hm H locs hP hD hS ls hl
    unfold m_X10_reads_j120 at hm
    refine lv_icmp_ne (tgt := 125) hx hb dX10_reads_120 (by decide) (fun c120 => ?_) (fun c120 => ?_)
    · have hm := ine c120 hm
      refine lv_iload_n hx hb dX10_reads_125 rfl (lv_at hl 1 rfl) ?_
      refine lv_bipush (v := 46) hx hb dX10_reads_126 (by decide) ?_
      refine lv_icmp_eq (tgt := 142) hx hb dX10_reads_128 (by decide) (fun c128 => ?_) (fun c128 => ?_)
      · have hm := ip c128 hm
        exact h142 y11 y12 y13 y14 hm _ _ hP hD hS ls (lv_sub hl [0, 1] rfl)
      · have hm := ine c128 hm
        refine lv_aload_n hx hb dX10_reads_131 rfl (lv_at hl 0 rfl) ?_
        refine va_get (D := D) (ci := 10) (v := .int y14) (C := RX10) (T := TX10) (N := 17) hx hb hts hiX10 hown hK.1 hP 0 rfl rfl 16 (by decide) (hts (.fieldLink RX10 206 "IslandBridgesModel" "found" "I") (List.mem_of_getElem? (i := 4) rfl)) (fun _ h9 => h9) rfl dX10_reads_132 ?_
        refine lv_bipush (v := 24) hx hb dX10_reads_135 (by decide) ?_
        refine lv_icmp_ne (tgt := 142) hx hb dX10_reads_137 (by decide) (fun c137 => ?_) (fun c137 => ?_)
        · have hm := ine c137 hm
          exact h142 y11 y12 y13 y14 hm _ _ hP hD hS ls (lv_sub hl [0, 1] rfl)
        · have hm := ip c137 hm
          refine lv_iconst (v := 4) hx hb dX10_reads_140 (by decide) ?_
          cases hm
          exact rI () hx hb hr hlk hP hD hS dX10_reads_141
    · have hm := ip c120 hm
      refine lv_iconst (v := 2) hx hb dX10_reads_123 (by decide) ?_
      cases hm
      exact rI () hx hb hr hlk hP hD hS dX10_reads_124
  have h103 : ∀ (y6 : Int32) (y7 : Int32) (y8 : Int32) (y9 : Int32) (y10 : Int32), m_X10_reads_j103 x1 y6 y7 y8 y9 y10 = (r0, M_rows', M_wide', M_column', M_found') → ∀ (H : Heap) (locs : List Loc), va_P D vwCl [o_M a M_pasts M_typed M_ways M_z M_why y7 y8 y9 y10] H → va_D A [o_M a M_pasts M_typed M_ways M_z M_why y7 y8 y9 y10] → va_S A s.heap H locs → ∀ ls : Array Slot, lv_has ls 3 [(0, .ref (a 35)), (1, .int x1), (2, .int y6)] → W p l e { frames := 1, cells := 0, slots := 0, locals := 22 } s m args below meth c H locs 0 0 (MQ below (eQ D (some (.int r0)) (fun _ : Unit => [o_M a M_pasts M_typed M_ways M_z M_why M_rows' M_wide' M_column' M_found']) A) args s 0 0 A) (F0 m 103 ls []) := by
    intro y6 y7 y8 y9 y10 hm H locs hP hD hS ls hl
    unfold m_X10_reads_j103 at hm
    refine lv_aload_n hx hb dX10_reads_103 rfl (lv_at hl 0 rfl) ?_
    refine va_get (D := D) (ci := 10) (v := .int y9) (C := RX10) (T := TX10) (N := 17) hx hb hts hiX10 hown hK.1 hP 0 rfl rfl 15 (by decide) (hts (.fieldLink RX10 200 "IslandBridgesModel" "column" "I") (List.mem_of_getElem? (i := 2) rfl)) (fun _ h9 => h9) rfl dX10_reads_104 ?_
    refine lv_iload_n hx hb dX10_reads_107 rfl (lv_at hl 2 rfl) ?_
    refine lv_if_eq (tgt := 116) hx hb dX10_reads_108 (by decide) (fun c108 => ?_) (fun c108 => ?_)
    · have hm := ip c108 hm
      refine lv_aload_n hx hb dX10_reads_116 rfl (lv_at hl 0 rfl) ?_
      refine va_get (D := D) (ci := 10) (v := .int y8) (C := RX10) (T := TX10) (N := 17) hx hb hts hiX10 hown hK.1 hP 0 rfl rfl 14 (by decide) (hts (.fieldLink RX10 203 "IslandBridgesModel" "wide" "I") (List.mem_of_getElem? (i := 3) rfl)) (fun _ h9 => h9) rfl dX10_reads_117 ?_
      exact h120 y7 y8 y9 y10 y9 y8 hm _ _ hP hD hS ls (lv_sub hl [0, 1] rfl)
    · have hm := ine c108 hm
      refine lv_bipush (v := 12) hx hb dX10_reads_111 (by decide) ?_
      refine lv_goto (tgt := 120) hx hb dX10_reads_113 (by decide) ?_
      exact h120 y7 y8 y9 y10 y9 12 hm _ _ hP hD hS ls (lv_sub hl [0, 1] rfl)
  have h48 : ∀ (y30 : Int32) (y31 : Int32) (y32 : Int32) (y33 : Int32), m_X10_reads_j48 y30 y31 y32 y33 = (r0, M_rows', M_wide', M_column', M_found') → ∀ (H : Heap) (locs : List Loc), va_P D vwCl [o_M a M_pasts M_typed M_ways M_z M_why y30 y31 y32 y33] H → va_D A [o_M a M_pasts M_typed M_ways M_z M_why y30 y31 y32 y33] → va_S A s.heap H locs → ∀ ls : Array Slot, lv_has ls 3 [(0, .ref (a 35))] → W p l e { frames := 1, cells := 0, slots := 0, locals := 22 } s m args below meth c H locs 0 0 (MQ below (eQ D (some (.int r0)) (fun _ : Unit => [o_M a M_pasts M_typed M_ways M_z M_why M_rows' M_wide' M_column' M_found']) A) args s 0 0 A) (F0 m 48 ls []) := by
    intro y30 y31 y32 y33 hm H locs hP hD hS ls hl
    unfold m_X10_reads_j48 at hm
    refine lv_aload_n hx hb dX10_reads_48 rfl (lv_at hl 0 rfl) ?_
    refine va_get (D := D) (ci := 10) (v := .int y30) (C := RX10) (T := TX10) (N := 17) hx hb hts hiX10 hown hK.1 hP 0 rfl rfl 13 (by decide) (hts (.fieldLink RX10 197 "IslandBridgesModel" "rows" "I") (List.mem_of_getElem? (i := 1) rfl)) (fun _ h9 => h9) rfl dX10_reads_49 ?_
    refine lv_bipush (v := 12) hx hb dX10_reads_52 (by decide) ?_
    refine lv_icmp_ne (tgt := 59) hx hb dX10_reads_54 (by decide) (fun c54 => ?_) (fun c54 => ?_)
    · have hm := ine c54 hm
      refine lv_aload_n hx hb dX10_reads_59 rfl (lv_at hl 0 rfl) ?_
      refine lv_aload_n hx hb dX10_reads_60 rfl (lv_at hl 0 rfl) ?_
      refine va_get (D := D) (ci := 10) (v := .int y32) (C := RX10) (T := TX10) (N := 17) hx hb hts hiX10 hown hK.1 hP 0 rfl rfl 15 (by decide) (hts (.fieldLink RX10 200 "IslandBridgesModel" "column" "I") (List.mem_of_getElem? (i := 2) rfl)) (fun _ h9 => h9) rfl dX10_reads_61 ?_
      refine va_put (D := D) (ci := 10) (v := .int y32) (ty := .int) (C := RX10) (T := TX10) (N := 17) hx hb hts hiX10 tyX10 tyX10_ok nmX10 hown hK.1 hP hD hS 0 rfl rfl 14 (by decide) (hts (.fieldLink RX10 203 "IslandBridgesModel" "wide" "I") (List.mem_of_getElem? (i := 3) rfl)) (fun _ h9 => h9) rfl (by decide +kernel) rfl rfl (Nat.le_of_ble_eq_true rfl) dX10_reads_64 (fun H locs hP hD hS => ?_)
      have hP : va_P D vwCl [o_M a M_pasts M_typed M_ways M_z M_why y30 y32 y32 y33] H := hP
      have hD : va_D A [o_M a M_pasts M_typed M_ways M_z M_why y30 y32 y32 y33] := hD
      refine lv_aload_n hx hb dX10_reads_67 rfl (lv_at hl 0 rfl) ?_
      refine lv_iconst (v := 0) hx hb dX10_reads_68 (by decide) ?_
      refine va_put (D := D) (ci := 10) (v := .int 0) (ty := .int) (C := RX10) (T := TX10) (N := 17) hx hb hts hiX10 tyX10 tyX10_ok nmX10 hown hK.1 hP hD hS 0 rfl rfl 15 (by decide) (hts (.fieldLink RX10 200 "IslandBridgesModel" "column" "I") (List.mem_of_getElem? (i := 2) rfl)) (fun _ h9 => h9) rfl (by decide +kernel) rfl rfl (Nat.le_of_ble_eq_true rfl) dX10_reads_69 (fun H locs hP hD hS => ?_)
      have hP : va_P D vwCl [o_M a M_pasts M_typed M_ways M_z M_why y30 y32 0 y33] H := hP
      have hD : va_D A [o_M a M_pasts M_typed M_ways M_z M_why y30 y32 0 y33] := hD
      refine lv_aload_n hx hb dX10_reads_72 rfl (lv_at hl 0 rfl) ?_
      refine lv_dup hx hb dX10_reads_73 rfl ?_
      refine va_get (D := D) (ci := 10) (v := .int y30) (C := RX10) (T := TX10) (N := 17) hx hb hts hiX10 hown hK.1 hP 0 rfl rfl 13 (by decide) (hts (.fieldLink RX10 197 "IslandBridgesModel" "rows" "I") (List.mem_of_getElem? (i := 1) rfl)) (fun _ h9 => h9) rfl dX10_reads_74 ?_
      refine lv_iconst (v := 1) hx hb dX10_reads_77 (by decide) ?_
      refine lv_iadd hx hb dX10_reads_78 ?_
      obtain ⟨v34, ev34, hm⟩ := lt1_inv hm
      refine ltop ev34 ?_
      refine va_put (D := D) (ci := 10) (v := .int v34) (ty := .int) (C := RX10) (T := TX10) (N := 17) hx hb hts hiX10 tyX10 tyX10_ok nmX10 hown hK.1 hP hD hS 0 rfl rfl 13 (by decide) (hts (.fieldLink RX10 197 "IslandBridgesModel" "rows" "I") (List.mem_of_getElem? (i := 1) rfl)) (fun _ h9 => h9) rfl (by decide +kernel) rfl rfl (Nat.le_of_ble_eq_true rfl) dX10_reads_79 (fun H locs hP hD hS => ?_)
      have hP : va_P D vwCl [o_M a M_pasts M_typed M_ways M_z M_why v34 y32 0 y33] H := hP
      have hD : va_D A [o_M a M_pasts M_typed M_ways M_z M_why v34 y32 0 y33] := hD
      refine lv_iconst (v := 0) hx hb dX10_reads_82 (by decide) ?_
      cases hm
      exact rI () hx hb hr hlk hP hD hS dX10_reads_83
    · have hm := ip c54 hm
      refine lv_iconst (v := 3) hx hb dX10_reads_57 (by decide) ?_
      cases hm
      exact rI () hx hb hr hlk hP hD hS dX10_reads_58
  have h13 : ∀ (y1 : Int32) (y2 : Int32) (y3 : Int32) (y4 : Int32) (y5 : Int32), m_X10_reads_j13 x1 y1 y2 y3 y4 y5 = (r0, M_rows', M_wide', M_column', M_found') → ∀ (H : Heap) (locs : List Loc), va_P D vwCl [o_M a M_pasts M_typed M_ways M_z M_why y1 y2 y3 y4] H → va_D A [o_M a M_pasts M_typed M_ways M_z M_why y1 y2 y3 y4] → va_S A s.heap H locs → ∀ ls : Array Slot, lv_has ls 3 [(0, .ref (a 35)), (1, .int x1)] → W p l e { frames := 1, cells := 0, slots := 0, locals := 22 } s m args below meth c H locs 0 0 (MQ below (eQ D (some (.int r0)) (fun _ : Unit => [o_M a M_pasts M_typed M_ways M_z M_why M_rows' M_wide' M_column' M_found']) A) args s 0 0 A) (F0 m 13 ls [.int y5]) := by
    intro y1 y2 y3 y4 y5 hm H locs hP hD hS ls hl
    unfold m_X10_reads_j13 at hm
    refine lv_istore_n (lv' := [(2, .int y5), (0, .ref (a 35)), (1, .int x1)]) hx hb dX10_reads_13 rfl hl (by decide) rfl (fun ls hl => ?_)
    refine lv_iload_n hx hb dX10_reads_14 rfl (lv_at hl 2 rfl) ?_
    refine lv_bipush (v := 47) hx hb dX10_reads_15 (by decide) ?_
    refine lv_icmp_ne (tgt := 84) hx hb dX10_reads_17 (by decide) (fun c17 => ?_) (fun c17 => ?_)
    · have hm := ine c17 hm
      refine lv_iload_n hx hb dX10_reads_84 rfl (lv_at hl 2 rfl) ?_
      refine lv_bipush (v := 46) hx hb dX10_reads_85 (by decide) ?_
      refine lv_icmp_eq (tgt := 103) hx hb dX10_reads_87 (by decide) (fun c87 => ?_) (fun c87 => ?_)
      · have hm := ip c87 hm
        exact h103 y5 y1 y2 y3 y4 hm _ _ hP hD hS ls (lv_sub hl [1, 2, 0] rfl)
      · have hm := ine c87 hm
        refine lv_iload_n hx hb dX10_reads_90 rfl (lv_at hl 2 rfl) ?_
        refine lv_bipush (v := 49) hx hb dX10_reads_91 (by decide) ?_
        refine lv_bipush (v := 56) hx hb dX10_reads_93 (by decide) ?_
        obtain ⟨v29, h_v29, hm⟩ := lt1_inv hm
        refine cSs ⟨hx, hb, hml, hown, hts⟩ (c_X10_in l D cI cJ cS cB a  x1 49 56 v29 h_v29) (va_cwS 3 hts gX10_reads_X10_in rfl rfl rfl hd_X10_in ⟨(Nat.le_of_ble_eq_true rfl), (Nat.le_of_ble_eq_true rfl)⟩) hK hP hD hS hA [] rfl rfl rfl hl.1 (Nat.le_of_ble_eq_true rfl) ⟨Nat.zero_le _, Nat.zero_le _⟩ rfl dX10_reads_95 (fun H locs hP hD hS => ?_)
        refine lv_if_ne (tgt := 103) hx hb dX10_reads_98 (by decide) (fun c98 => ?_) (fun c98 => ?_)
        · have hm := ine c98 hm
          exact h103 y5 y1 y2 y3 y4 hm _ _ hP hD hS ls (lv_sub hl [1, 2, 0] rfl)
        · have hm := ip c98 hm
          refine lv_iconst (v := 1) hx hb dX10_reads_101 (by decide) ?_
          cases hm
          exact rI () hx hb hr hlk hP hD hS dX10_reads_102
    · have hm := ip c17 hm
      refine lv_iload_n hx hb dX10_reads_20 rfl (lv_at hl 0 rfl) ?_
      refine lv_if_eq (tgt := 35) hx hb dX10_reads_21 (by decide) (fun c21 => ?_) (fun c21 => ?_)
      · have hm := ip c21 hm
        refine lv_aload_n hx hb dX10_reads_35 rfl (lv_at hl 1 rfl) ?_
        refine va_get (D := D) (ci := 10) (v := .int y3) (C := RX10) (T := TX10) (N := 17) hx hb hts hiX10 hown hK.1 hP 0 rfl rfl 15 (by decide) (hts (.fieldLink RX10 200 "IslandBridgesModel" "column" "I") (List.mem_of_getElem? (i := 2) rfl)) (fun _ h9 => h9) rfl dX10_reads_36 ?_
        refine lv_aload_n hx hb dX10_reads_39 rfl (lv_at hl 1 rfl) ?_
        refine va_get (D := D) (ci := 10) (v := .int y2) (C := RX10) (T := TX10) (N := 17) hx hb hts hiX10 hown hK.1 hP 0 rfl rfl 14 (by decide) (hts (.fieldLink RX10 203 "IslandBridgesModel" "wide" "I") (List.mem_of_getElem? (i := 3) rfl)) (fun _ h9 => h9) rfl dX10_reads_40 ?_
        refine lv_icmp_ge (tgt := 48) hx hb dX10_reads_43 (by decide) (fun c43 => ?_) (fun c43 => ?_)
        · have hm := ip c43 hm
          exact h48 y1 y2 y3 y4 hm _ _ hP hD hS ls (lv_sub hl [1] rfl)
        · have hm := ine c43 hm
          refine lv_iconst (v := 2) hx hb dX10_reads_46 (by decide) ?_
          cases hm
          exact rI () hx hb hr hlk hP hD hS dX10_reads_47
      · have hm := ine c21 hm
        refine lv_aload_n hx hb dX10_reads_24 rfl (lv_at hl 1 rfl) ?_
        refine va_get (D := D) (ci := 10) (v := .int y3) (C := RX10) (T := TX10) (N := 17) hx hb hts hiX10 hown hK.1 hP 0 rfl rfl 15 (by decide) (hts (.fieldLink RX10 200 "IslandBridgesModel" "column" "I") (List.mem_of_getElem? (i := 2) rfl)) (fun _ h9 => h9) rfl dX10_reads_25 ?_
        refine lv_iconst (v := 3) hx hb dX10_reads_28 (by decide) ?_
        refine lv_icmp_ge (tgt := 48) hx hb dX10_reads_29 (by decide) (fun c29 => ?_) (fun c29 => ?_)
        · have hm := ip c29 hm
          exact h48 y1 y2 y3 y4 hm _ _ hP hD hS ls (lv_sub hl [1] rfl)
        · have hm := ine c29 hm
          refine lv_goto (tgt := 46) hx hb dX10_reads_32 (by decide) ?_
          refine lv_iconst (v := 2) hx hb dX10_reads_46 (by decide) ?_
          cases hm
          exact rI () hx hb hr hlk hP hD hS dX10_reads_47
  refine lv_aload_n hx hb dX10_reads_0 rfl (lv_at hl 0 rfl) ?_
  refine va_get (D := D) (ci := 10) (v := .int M_rows) (C := RX10) (T := TX10) (N := 17) hx hb hts hiX10 hown hK.1 hP 0 rfl rfl 13 (by decide) (hts (.fieldLink RX10 197 "IslandBridgesModel" "rows" "I") (List.mem_of_getElem? (i := 1) rfl)) (fun _ h9 => h9) rfl dX10_reads_1 ?_
  refine lv_iconst (v := 1) hx hb dX10_reads_4 (by decide) ?_
  refine lv_icmp_ne (tgt := 12) hx hb dX10_reads_5 (by decide) (fun c5 => ?_) (fun c5 => ?_)
  · have hm := ine c5 hm
    refine lv_iconst (v := 0) hx hb dX10_reads_12 (by decide) ?_
    exact h13 M_rows M_wide M_column M_found 0 hm _ _ hP hD hS ls (lv_sub hl [0, 1] rfl)
  · have hm := ip c5 hm
    refine lv_iconst (v := 1) hx hb dX10_reads_8 (by decide) ?_
    refine lv_goto (tgt := 13) hx hb dX10_reads_9 (by decide) ?_
    exact h13 M_rows M_wide M_column M_found 1 hm _ _ hP hD hS ls (lv_sub hl [0, 1] rfl)
theorem hd_X10_wrongAt : yX10_wrongAt.cls = RX10 ∧ yX10_wrongAt.cls ≠ "java/lang/invoke/MethodHandle" ∧ yX10_wrongAt.cls ≠ "java/lang/invoke/VarHandle" ∧ (parseMethodDescriptor yX10_wrongAt.desc).map (fun d => d.parameters.length) = some 0 := by decide +kernel
def m_X10_wrongAt_j89 (M_typed : Int32) (y18 : Int32) (y19 : Int32) (y20 : Int32) (y21 : Int32) (y22 : Int32) : Option (Int32 × Int32 × Int32 × Int32 × Int32 × Int32) :=
  if y22 = 0 then (some (((-4), y22, y18, y19, y20, y21))) else (some ((M_typed, y22, y18, y19, y20, y21)))
def m_X10_wrongAt_j84 (M_typed : Int32) (y13 : Int32) (y14 : Int32) (y15 : Int32) (y16 : Int32) : Option (Int32 × Int32 × Int32 × Int32 × Int32 × Int32) :=
  m_X10_wrongAt_j89 M_typed y13 y14 y15 y16 5
def m_X10_wrongAt_j64 (M_typed : Int32) (y8 : Int32) (y9 : Int32) (y10 : Int32) (y11 : Int32) : Option (Int32 × Int32 × Int32 × Int32 × Int32 × Int32) :=
  if y8 < 3 then (m_X10_wrongAt_j84 M_typed y8 y9 y10 y11) else (if y9 ≤ y10 then (m_X10_wrongAt_j89 M_typed y8 y9 y10 y11 0) else (m_X10_wrongAt_j84 M_typed y8 y9 y10 y11))
def m_X10_wrongAt_b27 (M_typed : Int32) (M_text : Nat → Int32) (rec27 : Int32 → Int32 → Int32 → Int32 → Int32 → Int32 → Option (Int32 × Int32 × Int32 × Int32 × Int32 × Int32)) (y1 : Int32) (y2 : Int32) (y3 : Int32) (y4 : Int32) (y5 : Int32) (y6 : Int32) : Option (Int32 × Int32 × Int32 × Int32 × Int32 × Int32) :=
  if M_typed ≤ y1 then (m_X10_wrongAt_j64 M_typed y3 y4 y5 y6) else (rd 160 M_text y1 (fun v23 => lt5 (m_X10_reads y3 y4 y5 y6 v23) (fun v24 v25 v26 v27 v28 => if v24 = 0 then (lt1 (y1 + 1) (fun v29 => rec27 v29 v24 v25 v26 v27 v28)) else (some ((y1, v24, v25, v26, v27, v28))))))
def m_X10_wrongAt (N : Nat) (M_typed : Int32) (M_text : Nat → Int32) : Option (Int32 × Int32 × Int32 × Int32 × Int32 × Int32) :=
  zl6 (m_X10_wrongAt_b27 M_typed M_text) N 0 0 1 0 0 0
set_option maxHeartbeats 4000000 in
set_option maxRecDepth 100000 in
theorem c_X10_wrongAt (l : Launch) (D : va_G) (cI cJ cS cB : ClassId) (a : Nat → Nat) (M_pasts : Int32) (M_typed : Int32) (M_ways : Int32) (M_z : Int32) (M_why : Int32) (M_rows : Int32) (M_wide : Int32) (M_column : Int32) (M_found : Int32) (M_text : Nat → Int32)  (N : Nat) (r0 : Int32) (M_why' : Int32) (M_rows' : Int32) (M_wide' : Int32) (M_column' : Int32) (M_found' : Int32) (hm : m_X10_wrongAt N M_typed M_text = some (r0, M_why', M_rows', M_wide', M_column', M_found')) :
    mU l D (TYs cI cJ cS cB) yX10_wrongAt wsX10_wrongAt { frames := 2, cells := 0, slots := 0, locals := 44 } [.ref (a 35)] [o_M a M_pasts M_typed M_ways M_z M_why M_rows M_wide M_column M_found, ai (a 38) cB 160 M_text] [o_M a M_pasts M_typed M_ways M_z M_why' M_rows' M_wide' M_column' M_found', ai (a 38) cB 160 M_text] (some (.int r0)) := by
  refine mG_of (cc := cX10_wrongAt) (maxL := 2) (ret := (some .int)) (by decide) rfl rfl (Nat.le_of_ble_eq_true rfl) ?_
  intro p e s m args below meth c A hx hb hr hml hlk hnm hts hown hK hP hD hA hS ls hl
  have hl : lv_has ls 2 [(0, .ref (a 35))] := hl
  have hiX10 : ∀ w ∈ wsX100, w ∈ wsX10_wrongAt := fun w h => List.mem_cons_of_mem _ (List.mem_append_right _ h)
  unfold m_X10_wrongAt at hm
  have h89 : ∀ (y17 : Int32) (y18 : Int32) (y19 : Int32) (y20 : Int32) (y21 : Int32) (y22 : Int32), m_X10_wrongAt_j89 M_typed y18 y19 y20 y21 y22 = some (r0, M_why', M_rows', M_wide', M_column', M_found') → ∀ (H : Heap) (locs : List Loc), va_P D vwCl [o_M a M_pasts M_typed M_ways M_z y17 y18 y19 y20 y21, ai (a 38) cB 160 M_text] H → va_D A [o_M a M_pasts M_typed M_ways M_z y17 y18 y19 y20 y21, ai (a 38) cB 160 M_text] → va_S A s.heap H locs → ∀ ls : Array Slot, lv_has ls 2 [(0, .ref (a 35))] → W p l e { frames := 2, cells := 0, slots := 0, locals := 44 } s m args below meth c H locs 0 0 (MQ below (eQ D (some (.int r0)) (fun _ : Unit => [o_M a M_pasts M_typed M_ways M_z M_why' M_rows' M_wide' M_column' M_found', ai (a 38) cB 160 M_text]) A) args s 0 0 A) (F0 m 89 ls [.int y22, .ref (a 35)]) := by
    intro y17 y18 y19 y20 y21 y22 hm H locs hP hD hS ls hl
    unfold m_X10_wrongAt_j89 at hm
    refine va_put (D := D) (ci := 10) (v := .int y22) (ty := .int) (C := RX10) (T := TX10) (N := 17) hx hb hts hiX10 tyX10 tyX10_ok nmX10 hown hK.1 hP hD hS 0 rfl rfl 12 (by decide) (hts (.fieldLink RX10 209 "IslandBridgesModel" "why" "I") (List.mem_of_getElem? (i := 5) rfl)) (fun _ h9 => h9) rfl (by decide +kernel) rfl rfl (Nat.le_of_ble_eq_true rfl) dX10_wrongAt_89 (fun H locs hP hD hS => ?_)
    have hP : va_P D vwCl [o_M a M_pasts M_typed M_ways M_z y22 y18 y19 y20 y21, ai (a 38) cB 160 M_text] H := hP
    have hD : va_D A [o_M a M_pasts M_typed M_ways M_z y22 y18 y19 y20 y21, ai (a 38) cB 160 M_text] := hD
    refine lv_aload_n hx hb dX10_wrongAt_92 rfl (lv_at hl 0 rfl) ?_
    refine va_get (D := D) (ci := 10) (v := .int y22) (C := RX10) (T := TX10) (N := 17) hx hb hts hiX10 hown hK.1 hP 0 rfl rfl 12 (by decide) (hts (.fieldLink RX10 209 "IslandBridgesModel" "why" "I") (List.mem_of_getElem? (i := 5) rfl)) (fun _ h9 => h9) rfl dX10_wrongAt_93 ?_
    refine lv_if_ne (tgt := 104) hx hb dX10_wrongAt_96 (by decide) (fun c96 => ?_) (fun c96 => ?_)
    · have hm := ine c96 hm
      refine lv_aload_n hx hb dX10_wrongAt_104 rfl (lv_at hl 0 rfl) ?_
      refine va_get (D := D) (ci := 10) (v := .int M_typed) (C := RX10) (T := TX10) (N := 17) hx hb hts hiX10 hown hK.1 hP 0 rfl rfl 4 (by decide) (hts (.fieldLink RX10 147 "IslandBridgesModel" "typed" "I") (List.mem_of_getElem? (i := 6) rfl)) (fun _ h9 => h9) rfl dX10_wrongAt_105 ?_
      cases hm
      exact rI () hx hb hr hlk hP hD hS dX10_wrongAt_108
    · have hm := ip c96 hm
      refine lv_bipush (v := (-4)) hx hb dX10_wrongAt_99 (by decide) ?_
      refine lv_goto (tgt := 108) hx hb dX10_wrongAt_101 (by decide) ?_
      cases hm
      exact rI () hx hb hr hlk hP hD hS dX10_wrongAt_108
  have h84 : ∀ (y12 : Int32) (y13 : Int32) (y14 : Int32) (y15 : Int32) (y16 : Int32), m_X10_wrongAt_j84 M_typed y13 y14 y15 y16 = some (r0, M_why', M_rows', M_wide', M_column', M_found') → ∀ (H : Heap) (locs : List Loc), va_P D vwCl [o_M a M_pasts M_typed M_ways M_z y12 y13 y14 y15 y16, ai (a 38) cB 160 M_text] H → va_D A [o_M a M_pasts M_typed M_ways M_z y12 y13 y14 y15 y16, ai (a 38) cB 160 M_text] → va_S A s.heap H locs → ∀ ls : Array Slot, lv_has ls 2 [(0, .ref (a 35))] → W p l e { frames := 2, cells := 0, slots := 0, locals := 44 } s m args below meth c H locs 0 0 (MQ below (eQ D (some (.int r0)) (fun _ : Unit => [o_M a M_pasts M_typed M_ways M_z M_why' M_rows' M_wide' M_column' M_found', ai (a 38) cB 160 M_text]) A) args s 0 0 A) (F0 m 84 ls [.ref (a 35)]) := by
    intro y12 y13 y14 y15 y16 hm H locs hP hD hS ls hl
    unfold m_X10_wrongAt_j84 at hm
    refine lv_iconst (v := 5) hx hb dX10_wrongAt_84 (by decide) ?_
    refine lv_goto (tgt := 89) hx hb dX10_wrongAt_85 (by decide) ?_
    exact h89 y12 y13 y14 y15 y16 5 hm _ _ hP hD hS ls (lv_sub hl [0] rfl)
  have h64 : ∀ (y7 : Int32) (y8 : Int32) (y9 : Int32) (y10 : Int32) (y11 : Int32), m_X10_wrongAt_j64 M_typed y8 y9 y10 y11 = some (r0, M_why', M_rows', M_wide', M_column', M_found') → ∀ (H : Heap) (locs : List Loc), va_P D vwCl [o_M a M_pasts M_typed M_ways M_z y7 y8 y9 y10 y11, ai (a 38) cB 160 M_text] H → va_D A [o_M a M_pasts M_typed M_ways M_z y7 y8 y9 y10 y11, ai (a 38) cB 160 M_text] → va_S A s.heap H locs → ∀ ls : Array Slot, lv_has ls 2 [(0, .ref (a 35))] → W p l e { frames := 2, cells := 0, slots := 0, locals := 44 } s m args below meth c H locs 0 0 (MQ below (eQ D (some (.int r0)) (fun _ : Unit => [o_M a M_pasts M_typed M_ways M_z M_why' M_rows' M_wide' M_column' M_found', ai (a 38) cB 160 M_text]) A) args s 0 0 A) (F0 m 64 ls []) := by
    intro y7 y8 y9 y10 y11 hm H locs hP hD hS ls hl
    unfold m_X10_wrongAt_j64 at hm
    refine lv_aload_n hx hb dX10_wrongAt_64 rfl (lv_at hl 0 rfl) ?_
    refine lv_aload_n hx hb dX10_wrongAt_65 rfl (lv_at hl 0 rfl) ?_
    refine va_get (D := D) (ci := 10) (v := .int y8) (C := RX10) (T := TX10) (N := 17) hx hb hts hiX10 hown hK.1 hP 0 rfl rfl 13 (by decide) (hts (.fieldLink RX10 197 "IslandBridgesModel" "rows" "I") (List.mem_of_getElem? (i := 1) rfl)) (fun _ h9 => h9) rfl dX10_wrongAt_66 ?_
    refine lv_iconst (v := 3) hx hb dX10_wrongAt_69 (by decide) ?_
    refine lv_icmp_lt (tgt := 84) hx hb dX10_wrongAt_70 (by decide) (fun c70 => ?_) (fun c70 => ?_)
    · have hm := ip c70 hm
      exact h84 y7 y8 y9 y10 y11 hm _ _ hP hD hS ls (lv_sub hl [0] rfl)
    · have hm := ine c70 hm
      refine lv_aload_n hx hb dX10_wrongAt_73 rfl (lv_at hl 0 rfl) ?_
      refine va_get (D := D) (ci := 10) (v := .int y10) (C := RX10) (T := TX10) (N := 17) hx hb hts hiX10 hown hK.1 hP 0 rfl rfl 15 (by decide) (hts (.fieldLink RX10 200 "IslandBridgesModel" "column" "I") (List.mem_of_getElem? (i := 3) rfl)) (fun _ h9 => h9) rfl dX10_wrongAt_74 ?_
      refine lv_aload_n hx hb dX10_wrongAt_77 rfl (lv_at hl 0 rfl) ?_
      refine va_get (D := D) (ci := 10) (v := .int y9) (C := RX10) (T := TX10) (N := 17) hx hb hts hiX10 hown hK.1 hP 0 rfl rfl 14 (by decide) (hts (.fieldLink RX10 203 "IslandBridgesModel" "wide" "I") (List.mem_of_getElem? (i := 2) rfl)) (fun _ h9 => h9) rfl dX10_wrongAt_78 ?_
      refine lv_icmp_ge (tgt := 88) hx hb dX10_wrongAt_81 (by decide) (fun c81 => ?_) (fun c81 => ?_)
      · have hm := ip c81 hm
        refine lv_iconst (v := 0) hx hb dX10_wrongAt_88 (by decide) ?_
        exact h89 y7 y8 y9 y10 y11 0 hm _ _ hP hD hS ls (lv_sub hl [0] rfl)
      · have hm := ine c81 hm
        exact h84 y7 y8 y9 y10 y11 hm _ _ hP hD hS ls (lv_sub hl [0] rfl)
  have h27 : ∀ (n : Nat) (y1 : Int32) (y2 : Int32) (y3 : Int32) (y4 : Int32) (y5 : Int32) (y6 : Int32), zl6 (m_X10_wrongAt_b27 M_typed M_text) n y1 y2 y3 y4 y5 y6 = some (r0, M_why', M_rows', M_wide', M_column', M_found') → ∀ (H : Heap) (locs : List Loc), va_P D vwCl [o_M a M_pasts M_typed M_ways M_z y2 y3 y4 y5 y6, ai (a 38) cB 160 M_text] H → va_D A [o_M a M_pasts M_typed M_ways M_z y2 y3 y4 y5 y6, ai (a 38) cB 160 M_text] → va_S A s.heap H locs → ∀ ls : Array Slot, lv_has ls 2 [(0, .ref (a 35)), (1, .int y1)] → W p l e { frames := 2, cells := 0, slots := 0, locals := 44 } s m args below meth c H locs 0 0 (MQ below (eQ D (some (.int r0)) (fun _ : Unit => [o_M a M_pasts M_typed M_ways M_z M_why' M_rows' M_wide' M_column' M_found', ai (a 38) cB 160 M_text]) A) args s 0 0 A) (F0 m 27 ls []) := by
    refine zl6_ind (fun rec27 ih27 y1 y2 y3 y4 y5 y6 hm => ?_)
    intro H locs hP hD hS ls hl
    unfold m_X10_wrongAt_b27 at hm
    refine lv_iload_n hx hb dX10_wrongAt_27 rfl (lv_at hl 1 rfl) ?_
    refine lv_aload_n hx hb dX10_wrongAt_28 rfl (lv_at hl 0 rfl) ?_
    refine va_get (D := D) (ci := 10) (v := .int M_typed) (C := RX10) (T := TX10) (N := 17) hx hb hts hiX10 hown hK.1 hP 0 rfl rfl 4 (by decide) (hts (.fieldLink RX10 147 "IslandBridgesModel" "typed" "I") (List.mem_of_getElem? (i := 6) rfl)) (fun _ h9 => h9) rfl dX10_wrongAt_29 ?_
    refine lv_icmp_ge (tgt := 64) hx hb dX10_wrongAt_32 (by decide) (fun c32 => ?_) (fun c32 => ?_)
    · have hm := ip c32 hm
      exact h64 y2 y3 y4 y5 y6 hm _ _ hP hD hS ls (lv_sub hl [0] rfl)
    · have hm := ine c32 hm
      refine lv_aload_n hx hb dX10_wrongAt_35 rfl (lv_at hl 0 rfl) ?_
      refine lv_aload_n hx hb dX10_wrongAt_36 rfl (lv_at hl 0 rfl) ?_
      refine lv_aload_n hx hb dX10_wrongAt_37 rfl (lv_at hl 0 rfl) ?_
      refine va_get (D := D) (ci := 10) (v := .ref (a 38)) (C := RX10) (T := TX10) (N := 17) hx hb hts hiX10 hown hK.1 hP 0 rfl rfl 3 (by decide) (hts (.fieldLink RX10 16 "IslandBridgesModel" "text" "[B") (List.mem_of_getElem? (i := 7) rfl)) (fun _ h9 => h9) rfl dX10_wrongAt_38 ?_
      refine lv_iload_n hx hb dX10_wrongAt_41 rfl (lv_at hl 1 rfl) ?_
      obtain ⟨v23, nv23, ev23, hm⟩ := rd_inv hm
      refine va_bald hx hb hK.1 hP 1 3 rfl rfl nv23 dX10_wrongAt_42 ?_
      refine ltop ev23 ?_
      obtain ⟨v24, v25, v26, v27, v28, h_v24, hm⟩ := lt5_inv hm
      refine cVx ⟨hx, hb, hml, hown, hts⟩ (c_X10_reads l D cI cJ cS cB a M_pasts M_typed M_ways M_z y2 y3 y4 y5 y6 v23 v24 v25 v26 v27 v28 h_v24) (cwV 1 hts gX10_wrongAt_X10_reads rfl rfl rfl hd_X10_reads ⟨(Nat.le_of_ble_eq_true rfl), (Nat.le_of_ble_eq_true rfl)⟩) hK hP hD hS hA [0] rfl rfl [o_M a M_pasts M_typed M_ways M_z y2 v25 v26 v27 v28, ai (a 38) cB 160 M_text] [(true, 0), (false, 1)] rfl rfl rfl hl.1 (Nat.le_of_ble_eq_true rfl) ⟨Nat.zero_le _, Nat.zero_le _⟩ 0 rfl rfl rfl rfl dX10_wrongAt_43 (fun H locs hP hD hS => ?_)
      refine va_put (D := D) (ci := 10) (v := .int v24) (ty := .int) (C := RX10) (T := TX10) (N := 17) hx hb hts hiX10 tyX10 tyX10_ok nmX10 hown hK.1 hP hD hS 0 rfl rfl 12 (by decide) (hts (.fieldLink RX10 209 "IslandBridgesModel" "why" "I") (List.mem_of_getElem? (i := 5) rfl)) (fun _ h9 => h9) rfl (by decide +kernel) rfl rfl (Nat.le_of_ble_eq_true rfl) dX10_wrongAt_46 (fun H locs hP hD hS => ?_)
      have hP : va_P D vwCl [o_M a M_pasts M_typed M_ways M_z v24 v25 v26 v27 v28, ai (a 38) cB 160 M_text] H := hP
      have hD : va_D A [o_M a M_pasts M_typed M_ways M_z v24 v25 v26 v27 v28, ai (a 38) cB 160 M_text] := hD
      refine lv_aload_n hx hb dX10_wrongAt_49 rfl (lv_at hl 0 rfl) ?_
      refine va_get (D := D) (ci := 10) (v := .int v24) (C := RX10) (T := TX10) (N := 17) hx hb hts hiX10 hown hK.1 hP 0 rfl rfl 12 (by decide) (hts (.fieldLink RX10 209 "IslandBridgesModel" "why" "I") (List.mem_of_getElem? (i := 5) rfl)) (fun _ h9 => h9) rfl dX10_wrongAt_50 ?_
      refine lv_if_eq (tgt := 58) hx hb dX10_wrongAt_53 (by decide) (fun c53 => ?_) (fun c53 => ?_)
      · have hm := ip c53 hm
        obtain ⟨v29, ev29, hm⟩ := lt1_inv hm
        refine lv_iinc (v := v29) (lv' := [(1, .int v29), (0, .ref (a 35))]) hx hb dX10_wrongAt_58 hl (k := 1) rfl ev29 (by decide) rfl (fun ls hl => ?_)
        refine lv_goto (tgt := 27) hx hb dX10_wrongAt_61 (by decide) ?_
        exact ih27 v29 v24 v25 v26 v27 v28 hm _ _ hP hD hS ls (lv_sub hl [1, 0] rfl)
      · have hm := ine c53 hm
        refine lv_iload_n hx hb dX10_wrongAt_56 rfl (lv_at hl 1 rfl) ?_
        cases hm
        exact rI () hx hb hr hlk hP hD hS dX10_wrongAt_57
  refine lv_aload_n hx hb dX10_wrongAt_0 rfl (lv_at hl 0 rfl) ?_
  refine lv_iconst (v := 1) hx hb dX10_wrongAt_1 (by decide) ?_
  refine va_put (D := D) (ci := 10) (v := .int 1) (ty := .int) (C := RX10) (T := TX10) (N := 17) hx hb hts hiX10 tyX10 tyX10_ok nmX10 hown hK.1 hP hD hS 0 rfl rfl 13 (by decide) (hts (.fieldLink RX10 197 "IslandBridgesModel" "rows" "I") (List.mem_of_getElem? (i := 1) rfl)) (fun _ h9 => h9) rfl (by decide +kernel) rfl rfl (Nat.le_of_ble_eq_true rfl) dX10_wrongAt_2 (fun H locs hP hD hS => ?_)
  have hP : va_P D vwCl [o_M a M_pasts M_typed M_ways M_z M_why 1 M_wide M_column M_found, ai (a 38) cB 160 M_text] H := hP
  have hD : va_D A [o_M a M_pasts M_typed M_ways M_z M_why 1 M_wide M_column M_found, ai (a 38) cB 160 M_text] := hD
  refine lv_aload_n hx hb dX10_wrongAt_5 rfl (lv_at hl 0 rfl) ?_
  refine lv_iconst (v := 0) hx hb dX10_wrongAt_6 (by decide) ?_
  refine va_put (D := D) (ci := 10) (v := .int 0) (ty := .int) (C := RX10) (T := TX10) (N := 17) hx hb hts hiX10 tyX10 tyX10_ok nmX10 hown hK.1 hP hD hS 0 rfl rfl 14 (by decide) (hts (.fieldLink RX10 203 "IslandBridgesModel" "wide" "I") (List.mem_of_getElem? (i := 2) rfl)) (fun _ h9 => h9) rfl (by decide +kernel) rfl rfl (Nat.le_of_ble_eq_true rfl) dX10_wrongAt_7 (fun H locs hP hD hS => ?_)
  have hP : va_P D vwCl [o_M a M_pasts M_typed M_ways M_z M_why 1 0 M_column M_found, ai (a 38) cB 160 M_text] H := hP
  have hD : va_D A [o_M a M_pasts M_typed M_ways M_z M_why 1 0 M_column M_found, ai (a 38) cB 160 M_text] := hD
  refine lv_aload_n hx hb dX10_wrongAt_10 rfl (lv_at hl 0 rfl) ?_
  refine lv_iconst (v := 0) hx hb dX10_wrongAt_11 (by decide) ?_
  refine va_put (D := D) (ci := 10) (v := .int 0) (ty := .int) (C := RX10) (T := TX10) (N := 17) hx hb hts hiX10 tyX10 tyX10_ok nmX10 hown hK.1 hP hD hS 0 rfl rfl 15 (by decide) (hts (.fieldLink RX10 200 "IslandBridgesModel" "column" "I") (List.mem_of_getElem? (i := 3) rfl)) (fun _ h9 => h9) rfl (by decide +kernel) rfl rfl (Nat.le_of_ble_eq_true rfl) dX10_wrongAt_12 (fun H locs hP hD hS => ?_)
  have hP : va_P D vwCl [o_M a M_pasts M_typed M_ways M_z M_why 1 0 0 M_found, ai (a 38) cB 160 M_text] H := hP
  have hD : va_D A [o_M a M_pasts M_typed M_ways M_z M_why 1 0 0 M_found, ai (a 38) cB 160 M_text] := hD
  refine lv_aload_n hx hb dX10_wrongAt_15 rfl (lv_at hl 0 rfl) ?_
  refine lv_iconst (v := 0) hx hb dX10_wrongAt_16 (by decide) ?_
  refine va_put (D := D) (ci := 10) (v := .int 0) (ty := .int) (C := RX10) (T := TX10) (N := 17) hx hb hts hiX10 tyX10 tyX10_ok nmX10 hown hK.1 hP hD hS 0 rfl rfl 16 (by decide) (hts (.fieldLink RX10 206 "IslandBridgesModel" "found" "I") (List.mem_of_getElem? (i := 4) rfl)) (fun _ h9 => h9) rfl (by decide +kernel) rfl rfl (Nat.le_of_ble_eq_true rfl) dX10_wrongAt_17 (fun H locs hP hD hS => ?_)
  have hP : va_P D vwCl [o_M a M_pasts M_typed M_ways M_z M_why 1 0 0 0, ai (a 38) cB 160 M_text] H := hP
  have hD : va_D A [o_M a M_pasts M_typed M_ways M_z M_why 1 0 0 0, ai (a 38) cB 160 M_text] := hD
  refine lv_aload_n hx hb dX10_wrongAt_20 rfl (lv_at hl 0 rfl) ?_
  refine lv_iconst (v := 0) hx hb dX10_wrongAt_21 (by decide) ?_
  refine va_put (D := D) (ci := 10) (v := .int 0) (ty := .int) (C := RX10) (T := TX10) (N := 17) hx hb hts hiX10 tyX10 tyX10_ok nmX10 hown hK.1 hP hD hS 0 rfl rfl 12 (by decide) (hts (.fieldLink RX10 209 "IslandBridgesModel" "why" "I") (List.mem_of_getElem? (i := 5) rfl)) (fun _ h9 => h9) rfl (by decide +kernel) rfl rfl (Nat.le_of_ble_eq_true rfl) dX10_wrongAt_22 (fun H locs hP hD hS => ?_)
  have hP : va_P D vwCl [o_M a M_pasts M_typed M_ways M_z 0 1 0 0 0, ai (a 38) cB 160 M_text] H := hP
  have hD : va_D A [o_M a M_pasts M_typed M_ways M_z 0 1 0 0 0, ai (a 38) cB 160 M_text] := hD
  refine lv_iconst (v := 0) hx hb dX10_wrongAt_25 (by decide) ?_
  refine lv_istore_n (lv' := [(1, .int 0), (0, .ref (a 35))]) hx hb dX10_wrongAt_26 rfl hl (by decide) rfl (fun ls hl => ?_)
  exact h27  N 0 0 1 0 0 0 hm _ _ hP hD hS ls (lv_sub hl [1, 0] rfl)
theorem hd_X10_fault : yX10_fault.cls = RX10 ∧ yX10_fault.cls ≠ "java/lang/invoke/MethodHandle" ∧ yX10_fault.cls ≠ "java/lang/invoke/VarHandle" ∧ (parseMethodDescriptor yX10_fault.desc).map (fun d => d.parameters.length) = some 1 := by decide +kernel
def m_X10_fault_j24 (y8 : Int32) (y9 : Int32) (y10 : Int32) (y11 : Int32) (y12 : Int32) (y13 : Int32) : Option (Int32 × Int32 × Int32 × Int32 × Int32 × Int32) :=
  some ((y8, y9, y10, y11, y12, y13))
def m_X10_fault (N : Nat) (M_typed : Int32) (M_why : Int32) (M_rows : Int32) (M_wide : Int32) (M_column : Int32) (M_found : Int32) (M_text : Nat → Int32) (x1 : Int32) : Option (Int32 × Int32 × Int32 × Int32 × Int32 × Int32) :=
  lt1 (m_X10_in x1 0 1) (fun v1 => if v1 = 0 then (some (((-1), M_why, M_rows, M_wide, M_column, M_found))) else (bd6 (m_X10_wrongAt N M_typed M_text) (fun v2 v3 v4 v5 v6 v7 => if v2 < 0 then (m_X10_fault_j24 v2 v3 v4 v5 v6 v7) else (if x1 = 0 then (m_X10_fault_j24 v2 v3 v4 v5 v6 v7) else (some ((v3, v3, v4, v5, v6, v7)))))))
set_option maxHeartbeats 4000000 in
set_option maxRecDepth 100000 in
theorem c_X10_fault (l : Launch) (D : va_G) (cI cJ cS cB : ClassId) (a : Nat → Nat) (M_pasts : Int32) (M_typed : Int32) (M_ways : Int32) (M_z : Int32) (M_why : Int32) (M_rows : Int32) (M_wide : Int32) (M_column : Int32) (M_found : Int32) (M_text : Nat → Int32) (x1 : Int32) (N : Nat) (r0 : Int32) (M_why' : Int32) (M_rows' : Int32) (M_wide' : Int32) (M_column' : Int32) (M_found' : Int32) (hm : m_X10_fault N M_typed M_why M_rows M_wide M_column M_found M_text x1 = some (r0, M_why', M_rows', M_wide', M_column', M_found')) :
    mU l D (TYs cI cJ cS cB) yX10_fault wsX10_fault { frames := 3, cells := 0, slots := 0, locals := 65 } [.ref (a 35), .int x1] [o_M a M_pasts M_typed M_ways M_z M_why M_rows M_wide M_column M_found, ai (a 38) cB 160 M_text] [o_M a M_pasts M_typed M_ways M_z M_why' M_rows' M_wide' M_column' M_found', ai (a 38) cB 160 M_text] (some (.int r0)) := by
  refine mG_of (cc := cX10_fault) (maxL := 3) (ret := (some .int)) (by decide) rfl rfl (Nat.le_of_ble_eq_true rfl) ?_
  intro p e s m args below meth c A hx hb hr hml hlk hnm hts hown hK hP hD hA hS ls hl
  have hl : lv_has ls 3 [(0, .ref (a 35)), (1, .int x1)] := hl
  have hiX10 : ∀ w ∈ wsX100, w ∈ wsX10_fault := fun w h => List.mem_cons_of_mem _ (List.mem_append_right _ h)
  unfold m_X10_fault at hm
  have h24 : ∀ (y8 : Int32) (y9 : Int32) (y10 : Int32) (y11 : Int32) (y12 : Int32) (y13 : Int32), m_X10_fault_j24 y8 y9 y10 y11 y12 y13 = some (r0, M_why', M_rows', M_wide', M_column', M_found') → ∀ (H : Heap) (locs : List Loc), va_P D vwCl [o_M a M_pasts M_typed M_ways M_z y9 y10 y11 y12 y13, ai (a 38) cB 160 M_text] H → va_D A [o_M a M_pasts M_typed M_ways M_z y9 y10 y11 y12 y13, ai (a 38) cB 160 M_text] → va_S A s.heap H locs → ∀ ls : Array Slot, lv_has ls 3 [(2, .int y8)] → W p l e { frames := 3, cells := 0, slots := 0, locals := 65 } s m args below meth c H locs 0 0 (MQ below (eQ D (some (.int r0)) (fun _ : Unit => [o_M a M_pasts M_typed M_ways M_z M_why' M_rows' M_wide' M_column' M_found', ai (a 38) cB 160 M_text]) A) args s 0 0 A) (F0 m 24 ls []) := by
    intro y8 y9 y10 y11 y12 y13 hm H locs hP hD hS ls hl
    unfold m_X10_fault_j24 at hm
    refine lv_iload_n hx hb dX10_fault_24 rfl (lv_at hl 0 rfl) ?_
    refine lv_goto (tgt := 32) hx hb dX10_fault_25 (by decide) ?_
    cases hm
    exact rI () hx hb hr hlk hP hD hS dX10_fault_32
  refine lv_iload_n hx hb dX10_fault_0 rfl (lv_at hl 1 rfl) ?_
  refine lv_iconst (v := 0) hx hb dX10_fault_1 (by decide) ?_
  refine lv_iconst (v := 1) hx hb dX10_fault_2 (by decide) ?_
  obtain ⟨v1, h_v1, hm⟩ := lt1_inv hm
  refine cSs ⟨hx, hb, hml, hown, hts⟩ (c_X10_in l D cI cJ cS cB a  x1 0 1 v1 h_v1) (va_cwS 3 hts gX10_fault_X10_in rfl rfl rfl hd_X10_in ⟨(Nat.le_of_ble_eq_true rfl), (Nat.le_of_ble_eq_true rfl)⟩) hK hP hD hS hA [] rfl rfl rfl hl.1 (Nat.le_of_ble_eq_true rfl) ⟨Nat.zero_le _, Nat.zero_le _⟩ rfl dX10_fault_3 (fun H locs hP hD hS => ?_)
  refine lv_if_ne (tgt := 11) hx hb dX10_fault_6 (by decide) (fun c6 => ?_) (fun c6 => ?_)
  · have hm := ine c6 hm
    refine lv_aload_n hx hb dX10_fault_11 rfl (lv_at hl 0 rfl) ?_
    obtain ⟨v2, v3, v4, v5, v6, v7, h_v2, hm⟩ := bd6_inv hm
    refine cVx ⟨hx, hb, hml, hown, hts⟩ (c_X10_wrongAt l D cI cJ cS cB a M_pasts M_typed M_ways M_z M_why M_rows M_wide M_column M_found M_text N v2 v3 v4 v5 v6 v7 h_v2) (cwV 0 hts gX10_fault_X10_wrongAt rfl rfl rfl hd_X10_wrongAt ⟨(Nat.le_of_ble_eq_true rfl), (Nat.le_of_ble_eq_true rfl)⟩) hK hP hD hS hA [0, 1] rfl rfl [o_M a M_pasts M_typed M_ways M_z v3 v4 v5 v6 v7, ai (a 38) cB 160 M_text] [(true, 0), (true, 1)] rfl rfl rfl hl.1 (Nat.le_of_ble_eq_true rfl) ⟨Nat.zero_le _, Nat.zero_le _⟩ 0 rfl rfl rfl rfl dX10_fault_12 (fun H locs hP hD hS => ?_)
    refine lv_istore_n (lv' := [(2, .int v2), (0, .ref (a 35)), (1, .int x1)]) hx hb dX10_fault_15 rfl hl (by decide) rfl (fun ls hl => ?_)
    refine lv_iload_n hx hb dX10_fault_16 rfl (lv_at hl 0 rfl) ?_
    refine lv_if_lt (tgt := 24) hx hb dX10_fault_17 (by decide) (fun c17 => ?_) (fun c17 => ?_)
    · have hm := ip c17 hm
      exact h24 v2 v3 v4 v5 v6 v7 hm _ _ hP hD hS ls (lv_sub hl [0] rfl)
    · have hm := ine c17 hm
      refine lv_iload_n hx hb dX10_fault_20 rfl (lv_at hl 2 rfl) ?_
      refine lv_if_ne (tgt := 28) hx hb dX10_fault_21 (by decide) (fun c21 => ?_) (fun c21 => ?_)
      · have hm := ine c21 hm
        refine lv_aload_n hx hb dX10_fault_28 rfl (lv_at hl 1 rfl) ?_
        refine va_get (D := D) (ci := 10) (v := .int v3) (C := RX10) (T := TX10) (N := 17) hx hb hts hiX10 hown hK.1 hP 0 rfl rfl 12 (by decide) (hts (.fieldLink RX10 209 "IslandBridgesModel" "why" "I") (List.mem_of_getElem? (i := 1) rfl)) (fun _ h9 => h9) rfl dX10_fault_29 ?_
        cases hm
        exact rI () hx hb hr hlk hP hD hS dX10_fault_32
      · have hm := ip c21 hm
        exact h24 v2 v3 v4 v5 v6 v7 hm _ _ hP hD hS ls (lv_sub hl [0] rfl)
  · have hm := ip c6 hm
    refine lv_iconst (v := (-1)) hx hb dX10_fault_9 (by decide) ?_
    cases hm
    exact rI () hx hb hr hlk hP hD hS dX10_fault_10
theorem hd_X10_load : yX10_load.cls = RX10 ∧ yX10_load.cls ≠ "java/lang/invoke/MethodHandle" ∧ yX10_load.cls ≠ "java/lang/invoke/VarHandle" ∧ (parseMethodDescriptor yX10_load.desc).map (fun d => d.parameters.length) = some 0 := by decide +kernel
def m_X10_load_j102 (N : Nat) (y25 : Int32) (y27 : Int32) (y28 : Int32) (y29 : Int32) (y30 : Int32) (y31 : Int32) (y32 : Nat → Int32) (y33 : Nat → Int32) (y34 : Nat → Int32) (y35 : Nat → Int32) : Option (Int32 × Int32 × Int32 × Int32 × Int32 × Int32 × Int32 × Int32 × (Nat → Int32) × (Nat → Int32) × (Nat → Int32) × (Nat → Int32)) :=
  bd4 (m_X10_anew N y32 y34 y35) (fun v36 v37 v38 v39 => bd1 (m_X10_islands N v37) (fun v40 => some ((v40, y25, v36, y27, y28, y29, y30, y31, v37, y33, v38, v39))))
def m_X10_load_j96 (rec42 : Int32 → Int32 → (Nat → Int32) → Option (Int32 × Int32 × Int32 × Int32 × Int32 × Int32 × Int32 × Int32 × (Nat → Int32) × (Nat → Int32) × (Nat → Int32) × (Nat → Int32))) (y42 : Int32) (y43 : Int32) (y44 : Nat → Int32) : Option (Int32 × Int32 × Int32 × Int32 × Int32 × Int32 × Int32 × Int32 × (Nat → Int32) × (Nat → Int32) × (Nat → Int32) × (Nat → Int32)) :=
  lt1 (y43 + 1) (fun v45 => rec42 y42 v45 y44)
def m_X10_load_j92 (rec42 : Int32 → Int32 → (Nat → Int32) → Option (Int32 × Int32 × Int32 × Int32 × Int32 × Int32 × Int32 × Int32 × (Nat → Int32) × (Nat → Int32) × (Nat → Int32) × (Nat → Int32))) (y48 : Int32) (y49 : Int32) (y50 : Nat → Int32) (y51 : Int32) (y52 : Int32) : Option (Int32 × Int32 × Int32 × Int32 × Int32 × Int32 × Int32 × Int32 × (Nat → Int32) × (Nat → Int32) × (Nat → Int32) × (Nat → Int32)) :=
  wr 244 y50 y51 y52 (fun v53 => lt1 (y48 + 1) (fun v54 => m_X10_load_j96 rec42 v54 y49 v53))
def m_X10_load_b42 (N : Nat) (M_typed : Int32) (M_text : Nat → Int32) (y14 : Int32) (y16 : Int32) (y17 : Int32) (y18 : Int32) (y19 : Int32) (y20 : Int32) (y22 : Nat → Int32) (y23 : Nat → Int32) (y24 : Nat → Int32) (rec42 : Int32 → Int32 → (Nat → Int32) → Option (Int32 × Int32 × Int32 × Int32 × Int32 × Int32 × Int32 × Int32 × (Nat → Int32) × (Nat → Int32) × (Nat → Int32) × (Nat → Int32))) (y12 : Int32) (y13 : Int32) (y21 : Nat → Int32) : Option (Int32 × Int32 × Int32 × Int32 × Int32 × Int32 × Int32 × Int32 × (Nat → Int32) × (Nat → Int32) × (Nat → Int32) × (Nat → Int32)) :=
  if M_typed ≤ y13 then (m_X10_load_j102 N y14 y16 y17 y18 y19 y20 y21 y22 y23 y24) else (rd 160 M_text y13 (fun v41 => if v41 = 47 then (m_X10_load_j96 rec42 y12 y13 y21) else (rd 160 M_text y13 (fun v46 => if v46 = 46 then (m_X10_load_j92 rec42 y12 y13 y21 (4 + y12) 0) else (rd 160 M_text y13 (fun v47 => m_X10_load_j92 rec42 y12 y13 y21 (4 + y12) (v47 - 48)))))))
def m_X10_load (N : Nat) (M_pasts : Int32) (M_typed : Int32) (M_ways : Int32) (M_s : Nat → Int32) (M_past : Nat → Int32) (M_text : Nat → Int32) (M_one : Nat → Int32) (M_other : Nat → Int32) : Option (Int32 × Int32 × Int32 × Int32 × Int32 × Int32 × Int32 × Int32 × (Nat → Int32) × (Nat → Int32) × (Nat → Int32) × (Nat → Int32)) :=
  bd6 (m_X10_wrongAt N M_typed M_text) (fun v1 v2 v3 v4 v5 v6 => if v1 < 0 then (bd2 (m_X10_notes N M_pasts M_s M_past) (fun v7 v8 => wr 244 M_s 0 v4 (fun v9 => wr 244 v9 1 v3 (fun v10 => bd1 (m_X10_empties N v10) (fun v11 => zl3 (m_X10_load_b42 N M_typed M_text v7 v2 v3 v4 v5 v6 v8 M_one M_other) N 0 0 v11))))) else (some (((-2), M_pasts, M_ways, v2, v3, v4, v5, v6, M_s, M_past, M_one, M_other))))
set_option maxHeartbeats 4000000 in
set_option maxRecDepth 100000 in
theorem c_X10_load (l : Launch) (D : va_G) (cI cJ cS cB : ClassId) (a : Nat → Nat) (M_pasts : Int32) (M_typed : Int32) (M_ways : Int32) (M_z : Int32) (M_why : Int32) (M_rows : Int32) (M_wide : Int32) (M_column : Int32) (M_found : Int32) (M_s : Nat → Int32) (M_past : Nat → Int32) (M_text : Nat → Int32) (M_one : Nat → Int32) (M_other : Nat → Int32)  (N : Nat) (r0 : Int32) (M_pasts' : Int32) (M_ways' : Int32) (M_why' : Int32) (M_rows' : Int32) (M_wide' : Int32) (M_column' : Int32) (M_found' : Int32) (M_s' : Nat → Int32) (M_past' : Nat → Int32) (M_one' : Nat → Int32) (M_other' : Nat → Int32) (hm : m_X10_load N M_pasts M_typed M_ways M_s M_past M_text M_one M_other = some (r0, M_pasts', M_ways', M_why', M_rows', M_wide', M_column', M_found', M_s', M_past', M_one', M_other')) :
    mU l D (TYs cI cJ cS cB) yX10_load wsX10_load { frames := 3, cells := 0, slots := 0, locals := 65 } [.ref (a 35)] [o_M a M_pasts M_typed M_ways M_z M_why M_rows M_wide M_column M_found, ai (a 36) cI 244 M_s, ai (a 37) cI 976 M_past, ai (a 38) cB 160 M_text, ai (a 39) cI 48 M_one, ai (a 40) cI 48 M_other] [o_M a M_pasts' M_typed M_ways' M_z M_why' M_rows' M_wide' M_column' M_found', ai (a 36) cI 244 M_s', ai (a 37) cI 976 M_past', ai (a 38) cB 160 M_text, ai (a 39) cI 48 M_one', ai (a 40) cI 48 M_other'] (some (.int r0)) := by
  refine mG_of (cc := cX10_load) (maxL := 3) (ret := (some .int)) (by decide) rfl rfl (Nat.le_of_ble_eq_true rfl) ?_
  intro p e s m args below meth c A hx hb hr hml hlk hnm hts hown hK hP hD hA hS ls hl
  have hl : lv_has ls 3 [(0, .ref (a 35))] := hl
  have hiX10 : ∀ w ∈ wsX100, w ∈ wsX10_load := fun w h => List.mem_cons_of_mem _ (List.mem_append_right _ h)
  unfold m_X10_load at hm
  have h102 : ∀ (y25 : Int32) (y26 : Int32) (y27 : Int32) (y28 : Int32) (y29 : Int32) (y30 : Int32) (y31 : Int32) (y32 : Nat → Int32) (y33 : Nat → Int32) (y34 : Nat → Int32) (y35 : Nat → Int32), m_X10_load_j102 N y25 y27 y28 y29 y30 y31 y32 y33 y34 y35 = some (r0, M_pasts', M_ways', M_why', M_rows', M_wide', M_column', M_found', M_s', M_past', M_one', M_other') → ∀ (H : Heap) (locs : List Loc), va_P D vwCl [o_M a y25 M_typed y26 M_z y27 y28 y29 y30 y31, ai (a 36) cI 244 y32, ai (a 37) cI 976 y33, ai (a 38) cB 160 M_text, ai (a 39) cI 48 y34, ai (a 40) cI 48 y35] H → va_D A [o_M a y25 M_typed y26 M_z y27 y28 y29 y30 y31, ai (a 36) cI 244 y32, ai (a 37) cI 976 y33, ai (a 38) cB 160 M_text, ai (a 39) cI 48 y34, ai (a 40) cI 48 y35] → va_S A s.heap H locs → ∀ ls : Array Slot, lv_has ls 3 [(0, .ref (a 35))] → W p l e { frames := 3, cells := 0, slots := 0, locals := 65 } s m args below meth c H locs 0 0 (MQ below (eQ D (some (.int r0)) (fun _ : Unit => [o_M a M_pasts' M_typed M_ways' M_z M_why' M_rows' M_wide' M_column' M_found', ai (a 36) cI 244 M_s', ai (a 37) cI 976 M_past', ai (a 38) cB 160 M_text, ai (a 39) cI 48 M_one', ai (a 40) cI 48 M_other']) A) args s 0 0 A) (F0 m 102 ls []) := by
    intro y25 y26 y27 y28 y29 y30 y31 y32 y33 y34 y35 hm H locs hP hD hS ls hl
    unfold m_X10_load_j102 at hm
    refine lv_aload_n hx hb dX10_load_102 rfl (lv_at hl 0 rfl) ?_
    obtain ⟨v36, v37, v38, v39, h_v36, hm⟩ := bd4_inv hm
    refine cVx ⟨hx, hb, hml, hown, hts⟩ (c_X10_anew l D cI cJ cS cB a y25 M_typed y26 M_z y27 y28 y29 y30 y31 y32 y34 y35 N v36 v37 v38 v39 h_v36) (cwV 0 hts gX10_load_X10_anew rfl rfl rfl hd_X10_anew ⟨(Nat.le_of_ble_eq_true rfl), (Nat.le_of_ble_eq_true rfl)⟩) hK hP hD hS hA [0, 1, 4, 5] rfl rfl [o_M a y25 M_typed v36 M_z y27 y28 y29 y30 y31, ai (a 36) cI 244 v37, ai (a 37) cI 976 y33, ai (a 38) cB 160 M_text, ai (a 39) cI 48 v38, ai (a 40) cI 48 v39] [(true, 0), (true, 1), (false, 2), (false, 3), (true, 2), (true, 3)] rfl rfl rfl hl.1 (Nat.le_of_ble_eq_true rfl) ⟨Nat.zero_le _, Nat.zero_le _⟩ 0 rfl rfl rfl rfl dX10_load_103 (fun H locs hP hD hS => ?_)
    refine lv_aload_n hx hb dX10_load_106 rfl (lv_at hl 0 rfl) ?_
    obtain ⟨v40, h_v40, hm⟩ := bd1_inv hm
    refine cVs ⟨hx, hb, hml, hown, hts⟩ (c_X10_islands l D cI cJ cS cB a y25 M_typed v36 M_z y27 y28 y29 y30 y31 v37 N v40 h_v40) (cwV 0 hts gX10_load_X10_islands rfl rfl rfl hd_X10_islands ⟨(Nat.le_of_ble_eq_true rfl), (Nat.le_of_ble_eq_true rfl)⟩) hK hP hD hS hA [0, 1] rfl rfl rfl hl.1 (Nat.le_of_ble_eq_true rfl) ⟨Nat.zero_le _, Nat.zero_le _⟩ 0 rfl rfl rfl rfl dX10_load_107 (fun H locs hP hD hS => ?_)
    cases hm
    exact rI () hx hb hr hlk hP hD hS dX10_load_110
  have h42 : ∀ (y14 : Int32) (y15 : Int32) (y16 : Int32) (y17 : Int32) (y18 : Int32) (y19 : Int32) (y20 : Int32) (y22 : Nat → Int32) (y23 : Nat → Int32) (y24 : Nat → Int32), ∀ (n : Nat) (y12 : Int32) (y13 : Int32) (y21 : Nat → Int32), zl3 (m_X10_load_b42 N M_typed M_text y14 y16 y17 y18 y19 y20 y22 y23 y24) n y12 y13 y21 = some (r0, M_pasts', M_ways', M_why', M_rows', M_wide', M_column', M_found', M_s', M_past', M_one', M_other') → ∀ (H : Heap) (locs : List Loc), va_P D vwCl [o_M a y14 M_typed y15 M_z y16 y17 y18 y19 y20, ai (a 36) cI 244 y21, ai (a 37) cI 976 y22, ai (a 38) cB 160 M_text, ai (a 39) cI 48 y23, ai (a 40) cI 48 y24] H → va_D A [o_M a y14 M_typed y15 M_z y16 y17 y18 y19 y20, ai (a 36) cI 244 y21, ai (a 37) cI 976 y22, ai (a 38) cB 160 M_text, ai (a 39) cI 48 y23, ai (a 40) cI 48 y24] → va_S A s.heap H locs → ∀ ls : Array Slot, lv_has ls 3 [(0, .ref (a 35)), (1, .int y12), (2, .int y13)] → W p l e { frames := 3, cells := 0, slots := 0, locals := 65 } s m args below meth c H locs 0 0 (MQ below (eQ D (some (.int r0)) (fun _ : Unit => [o_M a M_pasts' M_typed M_ways' M_z M_why' M_rows' M_wide' M_column' M_found', ai (a 36) cI 244 M_s', ai (a 37) cI 976 M_past', ai (a 38) cB 160 M_text, ai (a 39) cI 48 M_one', ai (a 40) cI 48 M_other']) A) args s 0 0 A) (F0 m 42 ls []) := by
    intro y14 y15 y16 y17 y18 y19 y20 y22 y23 y24
    refine zl3_ind (fun rec42 ih42 y12 y13 y21 hm => ?_)
    have h96 : ∀ (y42 : Int32) (y43 : Int32) (y44 : Nat → Int32), m_X10_load_j96 rec42 y42 y43 y44 = some (r0, M_pasts', M_ways', M_why', M_rows', M_wide', M_column', M_found', M_s', M_past', M_one', M_other') → ∀ (H : Heap) (locs : List Loc), va_P D vwCl [o_M a y14 M_typed y15 M_z y16 y17 y18 y19 y20, ai (a 36) cI 244 y44, ai (a 37) cI 976 y22, ai (a 38) cB 160 M_text, ai (a 39) cI 48 y23, ai (a 40) cI 48 y24] H → va_D A [o_M a y14 M_typed y15 M_z y16 y17 y18 y19 y20, ai (a 36) cI 244 y44, ai (a 37) cI 976 y22, ai (a 38) cB 160 M_text, ai (a 39) cI 48 y23, ai (a 40) cI 48 y24] → va_S A s.heap H locs → ∀ ls : Array Slot, lv_has ls 3 [(0, .ref (a 35)), (1, .int y42), (2, .int y43)] → W p l e { frames := 3, cells := 0, slots := 0, locals := 65 } s m args below meth c H locs 0 0 (MQ below (eQ D (some (.int r0)) (fun _ : Unit => [o_M a M_pasts' M_typed M_ways' M_z M_why' M_rows' M_wide' M_column' M_found', ai (a 36) cI 244 M_s', ai (a 37) cI 976 M_past', ai (a 38) cB 160 M_text, ai (a 39) cI 48 M_one', ai (a 40) cI 48 M_other']) A) args s 0 0 A) (F0 m 96 ls []) := by
      intro y42 y43 y44 hm H locs hP hD hS ls hl
      unfold m_X10_load_j96 at hm
      obtain ⟨v45, ev45, hm⟩ := lt1_inv hm
      refine lv_iinc (v := v45) (lv' := [(2, .int v45), (0, .ref (a 35)), (1, .int y42)]) hx hb dX10_load_96 hl (k := 2) rfl ev45 (by decide) rfl (fun ls hl => ?_)
      refine lv_goto (tgt := 42) hx hb dX10_load_99 (by decide) ?_
      exact ih42 y42 v45 y44 hm _ _ hP hD hS ls (lv_sub hl [1, 2, 0] rfl)
    have h92 : ∀ (y48 : Int32) (y49 : Int32) (y50 : Nat → Int32) (y51 : Int32) (y52 : Int32), m_X10_load_j92 rec42 y48 y49 y50 y51 y52 = some (r0, M_pasts', M_ways', M_why', M_rows', M_wide', M_column', M_found', M_s', M_past', M_one', M_other') → ∀ (H : Heap) (locs : List Loc), va_P D vwCl [o_M a y14 M_typed y15 M_z y16 y17 y18 y19 y20, ai (a 36) cI 244 y50, ai (a 37) cI 976 y22, ai (a 38) cB 160 M_text, ai (a 39) cI 48 y23, ai (a 40) cI 48 y24] H → va_D A [o_M a y14 M_typed y15 M_z y16 y17 y18 y19 y20, ai (a 36) cI 244 y50, ai (a 37) cI 976 y22, ai (a 38) cB 160 M_text, ai (a 39) cI 48 y23, ai (a 40) cI 48 y24] → va_S A s.heap H locs → ∀ ls : Array Slot, lv_has ls 3 [(0, .ref (a 35)), (1, .int y48), (2, .int y49)] → W p l e { frames := 3, cells := 0, slots := 0, locals := 65 } s m args below meth c H locs 0 0 (MQ below (eQ D (some (.int r0)) (fun _ : Unit => [o_M a M_pasts' M_typed M_ways' M_z M_why' M_rows' M_wide' M_column' M_found', ai (a 36) cI 244 M_s', ai (a 37) cI 976 M_past', ai (a 38) cB 160 M_text, ai (a 39) cI 48 M_one', ai (a 40) cI 48 M_other']) A) args s 0 0 A) (F0 m 92 ls [.int y52, .int y51, .ref (a 36)]) := by
      intro y48 y49 y50 y51 y52 hm H locs hP hD hS ls hl
      unfold m_X10_load_j92 at hm
      obtain ⟨v53, nv53, ev53, hm⟩ := wr_inv hm
      refine va_iast hx hb hK.1 hP hD hS 1 0 rfl rfl nv53 dX10_load_92 (fun H locs hP hD hS => ?_)
      have hP : va_P D vwCl [o_M a y14 M_typed y15 M_z y16 y17 y18 y19 y20, ai (a 36) cI 244 v53, ai (a 37) cI 976 y22, ai (a 38) cB 160 M_text, ai (a 39) cI 48 y23, ai (a 40) cI 48 y24] H := by rw [← ev53]; exact hP
      have hD : va_D A [o_M a y14 M_typed y15 M_z y16 y17 y18 y19 y20, ai (a 36) cI 244 v53, ai (a 37) cI 976 y22, ai (a 38) cB 160 M_text, ai (a 39) cI 48 y23, ai (a 40) cI 48 y24] := by rw [← ev53]; exact hD
      obtain ⟨v54, ev54, hm⟩ := lt1_inv hm
      refine lv_iinc (v := v54) (lv' := [(1, .int v54), (0, .ref (a 35)), (2, .int y49)]) hx hb dX10_load_93 hl (k := 1) rfl ev54 (by decide) rfl (fun ls hl => ?_)
      exact h96 v54 y49 v53 hm _ _ hP hD hS ls (lv_sub hl [1, 0, 2] rfl)
    intro H locs hP hD hS ls hl
    unfold m_X10_load_b42 at hm
    refine lv_iload_n hx hb dX10_load_42 rfl (lv_at hl 2 rfl) ?_
    refine lv_aload_n hx hb dX10_load_43 rfl (lv_at hl 0 rfl) ?_
    refine va_get (D := D) (ci := 10) (v := .int M_typed) (C := RX10) (T := TX10) (N := 17) hx hb hts hiX10 hown hK.1 hP 0 rfl rfl 4 (by decide) (hts (.fieldLink RX10 147 "IslandBridgesModel" "typed" "I") (List.mem_of_getElem? (i := 4) rfl)) (fun _ h9 => h9) rfl dX10_load_44 ?_
    refine lv_icmp_ge (tgt := 102) hx hb dX10_load_47 (by decide) (fun c47 => ?_) (fun c47 => ?_)
    · have hm := ip c47 hm
      exact h102 y14 y15 y16 y17 y18 y19 y20 y21 y22 y23 y24 hm _ _ hP hD hS ls (lv_sub hl [0] rfl)
    · have hm := ine c47 hm
      refine lv_aload_n hx hb dX10_load_50 rfl (lv_at hl 0 rfl) ?_
      refine va_get (D := D) (ci := 10) (v := .ref (a 38)) (C := RX10) (T := TX10) (N := 17) hx hb hts hiX10 hown hK.1 hP 0 rfl rfl 3 (by decide) (hts (.fieldLink RX10 16 "IslandBridgesModel" "text" "[B") (List.mem_of_getElem? (i := 5) rfl)) (fun _ h9 => h9) rfl dX10_load_51 ?_
      refine lv_iload_n hx hb dX10_load_54 rfl (lv_at hl 2 rfl) ?_
      obtain ⟨v41, nv41, ev41, hm⟩ := rd_inv hm
      refine va_bald hx hb hK.1 hP 3 3 rfl rfl nv41 dX10_load_55 ?_
      refine ltop ev41 ?_
      refine lv_bipush (v := 47) hx hb dX10_load_56 (by decide) ?_
      refine lv_icmp_eq (tgt := 96) hx hb dX10_load_58 (by decide) (fun c58 => ?_) (fun c58 => ?_)
      · have hm := ip c58 hm
        exact h96 y12 y13 y21 hm _ _ hP hD hS ls (lv_sub hl [0, 1, 2] rfl)
      · have hm := ine c58 hm
        refine lv_aload_n hx hb dX10_load_61 rfl (lv_at hl 0 rfl) ?_
        refine va_get (D := D) (ci := 10) (v := .ref (a 36)) (C := RX10) (T := TX10) (N := 17) hx hb hts hiX10 hown hK.1 hP 0 rfl rfl 0 (by decide) (hts (.fieldLink RX10 7 "IslandBridgesModel" "s" "[I") (List.mem_of_getElem? (i := 1) rfl)) (fun _ h9 => h9) rfl dX10_load_62 ?_
        refine lv_iconst (v := 4) hx hb dX10_load_65 (by decide) ?_
        refine lv_iload_n hx hb dX10_load_66 rfl (lv_at hl 1 rfl) ?_
        refine lv_iadd hx hb dX10_load_67 ?_
        refine lv_aload_n hx hb dX10_load_68 rfl (lv_at hl 0 rfl) ?_
        refine va_get (D := D) (ci := 10) (v := .ref (a 38)) (C := RX10) (T := TX10) (N := 17) hx hb hts hiX10 hown hK.1 hP 0 rfl rfl 3 (by decide) (hts (.fieldLink RX10 16 "IslandBridgesModel" "text" "[B") (List.mem_of_getElem? (i := 5) rfl)) (fun _ h9 => h9) rfl dX10_load_69 ?_
        refine lv_iload_n hx hb dX10_load_72 rfl (lv_at hl 2 rfl) ?_
        obtain ⟨v46, nv46, ev46, hm⟩ := rd_inv hm
        refine va_bald hx hb hK.1 hP 3 3 rfl rfl nv46 dX10_load_73 ?_
        refine ltop ev46 ?_
        refine lv_bipush (v := 46) hx hb dX10_load_74 (by decide) ?_
        refine lv_icmp_ne (tgt := 83) hx hb dX10_load_76 (by decide) (fun c76 => ?_) (fun c76 => ?_)
        · have hm := ine c76 hm
          refine lv_aload_n hx hb dX10_load_83 rfl (lv_at hl 0 rfl) ?_
          refine va_get (D := D) (ci := 10) (v := .ref (a 38)) (C := RX10) (T := TX10) (N := 17) hx hb hts hiX10 hown hK.1 hP 0 rfl rfl 3 (by decide) (hts (.fieldLink RX10 16 "IslandBridgesModel" "text" "[B") (List.mem_of_getElem? (i := 5) rfl)) (fun _ h9 => h9) rfl dX10_load_84 ?_
          refine lv_iload_n hx hb dX10_load_87 rfl (lv_at hl 2 rfl) ?_
          obtain ⟨v47, nv47, ev47, hm⟩ := rd_inv hm
          refine va_bald hx hb hK.1 hP 3 3 rfl rfl nv47 dX10_load_88 ?_
          refine ltop ev47 ?_
          refine lv_bipush (v := 48) hx hb dX10_load_89 (by decide) ?_
          refine lv_isub hx hb dX10_load_91 ?_
          exact h92 y12 y13 y21 (4 + y12) (v47 - 48) hm _ _ hP hD hS ls (lv_sub hl [0, 1, 2] rfl)
        · have hm := ip c76 hm
          refine lv_iconst (v := 0) hx hb dX10_load_79 (by decide) ?_
          refine lv_goto (tgt := 92) hx hb dX10_load_80 (by decide) ?_
          exact h92 y12 y13 y21 (4 + y12) 0 hm _ _ hP hD hS ls (lv_sub hl [0, 1, 2] rfl)
  refine lv_aload_n hx hb dX10_load_0 rfl (lv_at hl 0 rfl) ?_
  obtain ⟨v1, v2, v3, v4, v5, v6, h_v1, hm⟩ := bd6_inv hm
  refine cVx ⟨hx, hb, hml, hown, hts⟩ (c_X10_wrongAt l D cI cJ cS cB a M_pasts M_typed M_ways M_z M_why M_rows M_wide M_column M_found M_text N v1 v2 v3 v4 v5 v6 h_v1) (cwV 0 hts gX10_load_X10_wrongAt rfl rfl rfl hd_X10_wrongAt ⟨(Nat.le_of_ble_eq_true rfl), (Nat.le_of_ble_eq_true rfl)⟩) hK hP hD hS hA [0, 3] rfl rfl [o_M a M_pasts M_typed M_ways M_z v2 v3 v4 v5 v6, ai (a 36) cI 244 M_s, ai (a 37) cI 976 M_past, ai (a 38) cB 160 M_text, ai (a 39) cI 48 M_one, ai (a 40) cI 48 M_other] [(true, 0), (false, 1), (false, 2), (true, 1), (false, 4), (false, 5)] rfl rfl rfl hl.1 (Nat.le_of_ble_eq_true rfl) ⟨Nat.zero_le _, Nat.zero_le _⟩ 0 rfl rfl rfl rfl dX10_load_1 (fun H locs hP hD hS => ?_)
  refine lv_if_lt (tgt := 10) hx hb dX10_load_4 (by decide) (fun c4 => ?_) (fun c4 => ?_)
  · have hm := ip c4 hm
    refine lv_aload_n hx hb dX10_load_10 rfl (lv_at hl 0 rfl) ?_
    obtain ⟨v7, v8, h_v7, hm⟩ := bd2_inv hm
    refine cVx ⟨hx, hb, hml, hown, hts⟩ (c_X10_notes l D cI cJ cS cB a M_pasts M_typed M_ways M_z v2 v3 v4 v5 v6 M_s M_past N v7 v8 h_v7) (cwV 0 hts gX10_load_X10_notes rfl rfl rfl hd_X10_notes ⟨(Nat.le_of_ble_eq_true rfl), (Nat.le_of_ble_eq_true rfl)⟩) hK hP hD hS hA [0, 1, 2] rfl rfl [o_M a v7 M_typed M_ways M_z v2 v3 v4 v5 v6, ai (a 36) cI 244 M_s, ai (a 37) cI 976 v8, ai (a 38) cB 160 M_text, ai (a 39) cI 48 M_one, ai (a 40) cI 48 M_other] [(true, 0), (true, 1), (true, 2), (false, 3), (false, 4), (false, 5)] rfl rfl rfl hl.1 (Nat.le_of_ble_eq_true rfl) ⟨Nat.zero_le _, Nat.zero_le _⟩ 0 rfl rfl rfl rfl dX10_load_11 (fun H locs hP hD hS => ?_)
    refine lv_aload_n hx hb dX10_load_14 rfl (lv_at hl 0 rfl) ?_
    refine va_get (D := D) (ci := 10) (v := .ref (a 36)) (C := RX10) (T := TX10) (N := 17) hx hb hts hiX10 hown hK.1 hP 0 rfl rfl 0 (by decide) (hts (.fieldLink RX10 7 "IslandBridgesModel" "s" "[I") (List.mem_of_getElem? (i := 1) rfl)) (fun _ h9 => h9) rfl dX10_load_15 ?_
    refine lv_iconst (v := 0) hx hb dX10_load_18 (by decide) ?_
    refine lv_aload_n hx hb dX10_load_19 rfl (lv_at hl 0 rfl) ?_
    refine va_get (D := D) (ci := 10) (v := .int v4) (C := RX10) (T := TX10) (N := 17) hx hb hts hiX10 hown hK.1 hP 0 rfl rfl 14 (by decide) (hts (.fieldLink RX10 203 "IslandBridgesModel" "wide" "I") (List.mem_of_getElem? (i := 2) rfl)) (fun _ h9 => h9) rfl dX10_load_20 ?_
    obtain ⟨v9, nv9, ev9, hm⟩ := wr_inv hm
    refine va_iast hx hb hK.1 hP hD hS 1 0 rfl rfl nv9 dX10_load_23 (fun H locs hP hD hS => ?_)
    have hP : va_P D vwCl [o_M a v7 M_typed M_ways M_z v2 v3 v4 v5 v6, ai (a 36) cI 244 v9, ai (a 37) cI 976 v8, ai (a 38) cB 160 M_text, ai (a 39) cI 48 M_one, ai (a 40) cI 48 M_other] H := by rw [← ev9]; exact hP
    have hD : va_D A [o_M a v7 M_typed M_ways M_z v2 v3 v4 v5 v6, ai (a 36) cI 244 v9, ai (a 37) cI 976 v8, ai (a 38) cB 160 M_text, ai (a 39) cI 48 M_one, ai (a 40) cI 48 M_other] := by rw [← ev9]; exact hD
    refine lv_aload_n hx hb dX10_load_24 rfl (lv_at hl 0 rfl) ?_
    refine va_get (D := D) (ci := 10) (v := .ref (a 36)) (C := RX10) (T := TX10) (N := 17) hx hb hts hiX10 hown hK.1 hP 0 rfl rfl 0 (by decide) (hts (.fieldLink RX10 7 "IslandBridgesModel" "s" "[I") (List.mem_of_getElem? (i := 1) rfl)) (fun _ h9 => h9) rfl dX10_load_25 ?_
    refine lv_iconst (v := 1) hx hb dX10_load_28 (by decide) ?_
    refine lv_aload_n hx hb dX10_load_29 rfl (lv_at hl 0 rfl) ?_
    refine va_get (D := D) (ci := 10) (v := .int v3) (C := RX10) (T := TX10) (N := 17) hx hb hts hiX10 hown hK.1 hP 0 rfl rfl 13 (by decide) (hts (.fieldLink RX10 197 "IslandBridgesModel" "rows" "I") (List.mem_of_getElem? (i := 3) rfl)) (fun _ h9 => h9) rfl dX10_load_30 ?_
    obtain ⟨v10, nv10, ev10, hm⟩ := wr_inv hm
    refine va_iast hx hb hK.1 hP hD hS 1 0 rfl rfl nv10 dX10_load_33 (fun H locs hP hD hS => ?_)
    have hP : va_P D vwCl [o_M a v7 M_typed M_ways M_z v2 v3 v4 v5 v6, ai (a 36) cI 244 v10, ai (a 37) cI 976 v8, ai (a 38) cB 160 M_text, ai (a 39) cI 48 M_one, ai (a 40) cI 48 M_other] H := by rw [← ev10]; exact hP
    have hD : va_D A [o_M a v7 M_typed M_ways M_z v2 v3 v4 v5 v6, ai (a 36) cI 244 v10, ai (a 37) cI 976 v8, ai (a 38) cB 160 M_text, ai (a 39) cI 48 M_one, ai (a 40) cI 48 M_other] := by rw [← ev10]; exact hD
    refine lv_aload_n hx hb dX10_load_34 rfl (lv_at hl 0 rfl) ?_
    obtain ⟨v11, h_v11, hm⟩ := bd1_inv hm
    refine cVx ⟨hx, hb, hml, hown, hts⟩ (c_X10_empties l D cI cJ cS cB a v7 M_typed M_ways M_z v2 v3 v4 v5 v6 v10 N v11 h_v11) (cwV 0 hts gX10_load_X10_empties rfl rfl rfl hd_X10_empties ⟨(Nat.le_of_ble_eq_true rfl), (Nat.le_of_ble_eq_true rfl)⟩) hK hP hD hS hA [0, 1] rfl rfl [o_M a v7 M_typed M_ways M_z v2 v3 v4 v5 v6, ai (a 36) cI 244 v11, ai (a 37) cI 976 v8, ai (a 38) cB 160 M_text, ai (a 39) cI 48 M_one, ai (a 40) cI 48 M_other] [(true, 0), (true, 1), (false, 2), (false, 3), (false, 4), (false, 5)] rfl rfl rfl hl.1 (Nat.le_of_ble_eq_true rfl) ⟨Nat.zero_le _, Nat.zero_le _⟩ 0 rfl rfl rfl rfl dX10_load_35 (fun H locs hP hD hS => ?_)
    refine lv_iconst (v := 0) hx hb dX10_load_38 (by decide) ?_
    refine lv_istore_n (lv' := [(1, .int 0), (0, .ref (a 35))]) hx hb dX10_load_39 rfl hl (by decide) rfl (fun ls hl => ?_)
    refine lv_iconst (v := 0) hx hb dX10_load_40 (by decide) ?_
    refine lv_istore_n (lv' := [(2, .int 0), (1, .int 0), (0, .ref (a 35))]) hx hb dX10_load_41 rfl hl (by decide) rfl (fun ls hl => ?_)
    exact h42 v7 M_ways v2 v3 v4 v5 v6 v8 M_one M_other N 0 0 v11 hm _ _ hP hD hS ls (lv_sub hl [2, 1, 0] rfl)
  · have hm := ine c4 hm
    refine lv_bipush (v := (-2)) hx hb dX10_load_7 (by decide) ?_
    cases hm
    exact rI () hx hb hr hlk hP hD hS dX10_load_9
