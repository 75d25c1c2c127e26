/-! the law's loop and its start -/
set_option maxHeartbeats 4000000 in
set_option maxRecDepth 100000 in
theorem law_out {p : Program} {l : Launch} {e : Env} {s : State} {m : MethodId} {below : List Frame} {meth : Method} {c : Code} {b L : Nat} {xs : Nat → Int32} {a am : Nat → Nat} {i : Nat} (C0 : lw_At p s m meth c b L xs) (hL : L ≤ 1536) (hi : L < i + 3) (hi2 : i ≤ 2000) {H : Heap} {locs : List Loc} (hS : va_S (fun q : Nat => s.heap.size ≤ q) s.heap H locs) {ls : Array Slot} (hl : lv_has ls 4 [(0, .ref b), (1, .ref (a 0)), (2, .ref (am 35)), (3, .int (nI i))]) : W p l e room_1 s m #[Value.ref b] below meth c H locs 60 4264 (lw_Z below #[Value.ref b] s) (F0 m 18 ls []) := by
  obtain ⟨hx, hb, hr, hml, hown, hts, hX, hbl, hlocks, hgv⟩ := id C0
  have hA : ∀ q : Nat, s.heap.size ≤ q → (fun q : Nat => s.heap.size ≤ q) q := fun _ h => h
  have hbA : ¬ (fun q : Nat => s.heap.size ≤ q) b := Nat.not_le.mpr hbl
  refine lv_iload_n hx hb dL_law_18 rfl (lv_at hl 3 rfl) ?_
  refine lv_aload_n hx hb dL_law_19 rfl (lv_at hl 0 rfl) ?_
  refine va_slen hx hb hX hbl hbA hS dL_law_20 ?_
  refine lv_iconst (v := 3) hx hb dL_law_21 (by decide) ?_
  refine lv_isub hx hb dL_law_22 ?_
  have hlt : nI L - nI 3 < nI i := by
    by_cases q : 3 ≤ L
    · rw [pk_sub q]; exact nI_lt (by omega) (by omega)
    · exact Int32.lt_of_lt_of_le (nI_sub_neg (by omega) (by omega)) (kk0_le (Nat.zero_le _) (by omega))
  refine lv_icmp_gt (tgt := 675) hx hb dL_law_23 (by decide) (fun _ => ?_) (fun c9 => absurd hlt c9)
  refine lv_iconst (v := 1) hx hb dL_law_675 (by decide) ?_
  refine va_forget (fun q hq => hS.2.2 q hq) ?_
  refine W.widen (k := 600000) (n := 7302250) (Nat.le_of_ble_eq_true rfl) (Nat.le_of_ble_eq_true rfl) ?_
  exact lw_ret hx hb hr hlocks dL_law_676
set_option maxHeartbeats 4000000 in
set_option maxRecDepth 100000 in
theorem law_loop {p : Program} {l : Launch} {e : Env} {s : State} {m : MethodId} {below : List Frame} {meth : Method} {c : Code} {D : va_G} {cI cJ cS cB : ClassId} {b L : Nat} {xs : Nat → Int32} {a am : Nat → Nat} (C0 : lw_At p s m meth c b L xs) (hK : kK D (TYs cI cJ cS cB) s) (hL : L ≤ 1536) : ∀ (n i : Nat), L < i + n → i ≤ 1600 → ∀ {S_columns : Int32} {S_rows : Int32} {S_grade : Int32} {S_stepsMade : Int32} {S_numbers : Nat → Int32} {S_bridges : Nat → Int32} {S_caps : Nat → Int32} {Y_islands : Int32} {Y_ways : Int32} {Y_cellOf : Nat → Int32} {Y_islandAfter : Nat → Int32} {Y_firstOf : Nat → Int32} {Y_secondOf : Nat → Int32} {Y_firstCellOf : Nat → Int32} {Y_secondCellOf : Nat → Int32} {Y_strideOf : Nat → Int32} {Y_waysOf : Nat → Int32} {Y_crossings : Nat → Int64} {U_numbers : Nat → Int32} {U_bridges : Nat → Int32} {U_caps : Nat → Int32} {U_lacks : Nat → Int32} {G_leaders : Nat → Int32} {R_built : Int64} {E_built : Int64} {E_most : Int32} {E_watched : Int32} {E_found : Int32} {E_common : Int32} {E_differs : Int32} {E_bridges : Nat → Int32} {E_lacks : Nat → Int32} {E_open : Nat → Int32} {K_columns : Int32} {K_rows : Int32} {K_islands : Int32} {K_z : Int32} {K_taken : Nat → Int32} {K_numbers : Nat → Int32} {K_cellOf : Nat → Int32} {H_size : Int32} {T_length : Int32} {T_columns : Int32} {T_rows : Int32} {T_inRow : Int32} {T_islands : Int32} {T_faultIndex : Int32} {T_faultReason : Int32} {T_characters : Nat → Int32} {HN : Nat → Nat → Int32} {HB : Nat → Nat → Int32} {HC : Nat → Nat → Int32} {Hc : Nat → Int32} {Hr : Nat → Int32} {Hg : Nat → Int32} {Hs : Nat → Int32} {M_pasts : Int32} {M_typed : Int32} {M_ways : Int32} {M_z : Int32} {M_why : Int32} {M_rows : Int32} {M_wide : Int32} {M_column : Int32} {M_found : Int32} {M_s : Nat → Int32} {M_past : Nat → Int32} {M_text : Nat → Int32} {M_one : Nat → Int32} {M_other : Nat → Int32} {M_group : Nat → Int32} {M_tried : Nat → Int32} {M_made : Nat → Int32} {Hb : Nat → Nat} {H : Heap} {locs : List Loc}, LR S_columns S_rows S_grade S_stepsMade S_numbers S_bridges S_caps Y_islands Y_ways Y_cellOf Y_islandAfter Y_firstOf Y_secondOf Y_firstCellOf Y_secondCellOf Y_strideOf Y_waysOf Y_crossings U_numbers U_bridges U_caps U_lacks G_leaders R_built E_built E_most E_watched E_found E_common E_differs E_bridges E_lacks E_open K_columns K_rows K_islands K_z K_taken K_numbers K_cellOf H_size T_length T_columns T_rows T_inRow T_islands T_faultIndex T_faultReason T_characters HN HB HC Hc Hr Hg Hs M_pasts M_typed M_ways M_z M_why M_rows M_wide M_column M_found M_s M_past M_text M_one M_other M_group M_tried M_made Hb → va_P D vwCl [o_X a , o_S a S_columns S_rows S_grade S_stepsMade, ai (a 2) cI 144 S_numbers, ai (a 3) cI 48 S_bridges, ai (a 4) cI 48 S_caps, o_Y a Y_islands Y_ways, ai (a 6) cI 24 Y_cellOf, ai (a 7) cI 144 Y_islandAfter, ai (a 8) cI 48 Y_firstOf, ai (a 9) cI 48 Y_secondOf, ai (a 10) cI 48 Y_firstCellOf, ai (a 11) cI 48 Y_secondCellOf, ai (a 12) cI 48 Y_strideOf, ai (a 13) cI 24 Y_waysOf, aj (a 14) cJ 48 Y_crossings, o_U a , ai (a 16) cI 24 U_numbers, ai (a 17) cI 24 U_bridges, ai (a 18) cI 24 U_caps, ai (a 19) cI 24 U_lacks, o_G a , ai (a 21) cI 24 G_leaders, o_R a R_built, o_E a E_built E_most E_watched E_found E_common E_differs, ai (a 24) cI 48 E_bridges, ai (a 25) cI 24 E_lacks, ai (a 26) cI 24 E_open, o_K a K_columns K_rows K_islands K_z, ai (a 28) cI 144 K_taken, ai (a 29) cI 144 K_numbers, ai (a 30) cI 24 K_cellOf, o_H a H_size, o_T a T_length T_columns T_rows T_inRow T_islands T_faultIndex T_faultReason, ai (a 34) cI 160 T_characters, aq (a 32) cS 4 (hq Hb), o_h (Hb 0) (Hb 1) (Hb 2) (Hb 3) (Hc 0) (Hr 0) (Hg 0) (Hs 0), ai (Hb 1) cI 144 (HN 0), ai (Hb 2) cI 48 (HB 0), ai (Hb 3) cI 48 (HC 0), o_h (Hb 4) (Hb 5) (Hb 6) (Hb 7) (Hc 1) (Hr 1) (Hg 1) (Hs 1), ai (Hb 5) cI 144 (HN 1), ai (Hb 6) cI 48 (HB 1), ai (Hb 7) cI 48 (HC 1), o_h (Hb 8) (Hb 9) (Hb 10) (Hb 11) (Hc 2) (Hr 2) (Hg 2) (Hs 2), ai (Hb 9) cI 144 (HN 2), ai (Hb 10) cI 48 (HB 2), ai (Hb 11) cI 48 (HC 2), o_h (Hb 12) (Hb 13) (Hb 14) (Hb 15) (Hc 3) (Hr 3) (Hg 3) (Hs 3), ai (Hb 13) cI 144 (HN 3), ai (Hb 14) cI 48 (HB 3), ai (Hb 15) cI 48 (HC 3), o_M am M_pasts M_typed M_ways M_z M_why M_rows M_wide M_column M_found, ai (am 36) cI 244 M_s, ai (am 37) cI 976 M_past, ai (am 38) cB 160 M_text, ai (am 39) cI 48 M_one, ai (am 40) cI 48 M_other, ai (am 41) cI 144 M_group, ai (am 42) cI 14 M_tried, ai (am 43) cI 144 M_made] H → va_D (fun q : Nat => s.heap.size ≤ q) [o_X a , o_S a S_columns S_rows S_grade S_stepsMade, ai (a 2) cI 144 S_numbers, ai (a 3) cI 48 S_bridges, ai (a 4) cI 48 S_caps, o_Y a Y_islands Y_ways, ai (a 6) cI 24 Y_cellOf, ai (a 7) cI 144 Y_islandAfter, ai (a 8) cI 48 Y_firstOf, ai (a 9) cI 48 Y_secondOf, ai (a 10) cI 48 Y_firstCellOf, ai (a 11) cI 48 Y_secondCellOf, ai (a 12) cI 48 Y_strideOf, ai (a 13) cI 24 Y_waysOf, aj (a 14) cJ 48 Y_crossings, o_U a , ai (a 16) cI 24 U_numbers, ai (a 17) cI 24 U_bridges, ai (a 18) cI 24 U_caps, ai (a 19) cI 24 U_lacks, o_G a , ai (a 21) cI 24 G_leaders, o_R a R_built, o_E a E_built E_most E_watched E_found E_common E_differs, ai (a 24) cI 48 E_bridges, ai (a 25) cI 24 E_lacks, ai (a 26) cI 24 E_open, o_K a K_columns K_rows K_islands K_z, ai (a 28) cI 144 K_taken, ai (a 29) cI 144 K_numbers, ai (a 30) cI 24 K_cellOf, o_H a H_size, o_T a T_length T_columns T_rows T_inRow T_islands T_faultIndex T_faultReason, ai (a 34) cI 160 T_characters, aq (a 32) cS 4 (hq Hb), o_h (Hb 0) (Hb 1) (Hb 2) (Hb 3) (Hc 0) (Hr 0) (Hg 0) (Hs 0), ai (Hb 1) cI 144 (HN 0), ai (Hb 2) cI 48 (HB 0), ai (Hb 3) cI 48 (HC 0), o_h (Hb 4) (Hb 5) (Hb 6) (Hb 7) (Hc 1) (Hr 1) (Hg 1) (Hs 1), ai (Hb 5) cI 144 (HN 1), ai (Hb 6) cI 48 (HB 1), ai (Hb 7) cI 48 (HC 1), o_h (Hb 8) (Hb 9) (Hb 10) (Hb 11) (Hc 2) (Hr 2) (Hg 2) (Hs 2), ai (Hb 9) cI 144 (HN 2), ai (Hb 10) cI 48 (HB 2), ai (Hb 11) cI 48 (HC 2), o_h (Hb 12) (Hb 13) (Hb 14) (Hb 15) (Hc 3) (Hr 3) (Hg 3) (Hs 3), ai (Hb 13) cI 144 (HN 3), ai (Hb 14) cI 48 (HB 3), ai (Hb 15) cI 48 (HC 3), o_M am M_pasts M_typed M_ways M_z M_why M_rows M_wide M_column M_found, ai (am 36) cI 244 M_s, ai (am 37) cI 976 M_past, ai (am 38) cB 160 M_text, ai (am 39) cI 48 M_one, ai (am 40) cI 48 M_other, ai (am 41) cI 144 M_group, ai (am 42) cI 14 M_tried, ai (am 43) cI 144 M_made] → va_S (fun q : Nat => s.heap.size ≤ q) s.heap H locs → ∀ {ls : Array Slot}, lv_has ls 4 [(0, .ref b), (1, .ref (a 0)), (2, .ref (am 35)), (3, .int (nI i))] → W p l e room_1 s m #[Value.ref b] below meth c H locs 60 4264 (lw_Z below #[Value.ref b] s) (F0 m 18 ls []) := by
  obtain ⟨hx, hb, hr, hml, hown, hts, hX, hbl, hlocks, hgv⟩ := id C0
  have hA : ∀ q : Nat, s.heap.size ≤ q → (fun q : Nat => s.heap.size ≤ q) q := fun _ h => h
  have hbA : ¬ (fun q : Nat => s.heap.size ≤ q) b := Nat.not_le.mpr hbl
  intro n
  induction n with
  | zero =>
    intro i h1 h0 S_columns S_rows S_grade S_stepsMade S_numbers S_bridges S_caps Y_islands Y_ways Y_cellOf Y_islandAfter Y_firstOf Y_secondOf Y_firstCellOf Y_secondCellOf Y_strideOf Y_waysOf Y_crossings U_numbers U_bridges U_caps U_lacks G_leaders R_built E_built E_most E_watched E_found E_common E_differs E_bridges E_lacks E_open K_columns K_rows K_islands K_z K_taken K_numbers K_cellOf H_size T_length T_columns T_rows T_inRow T_islands T_faultIndex T_faultReason T_characters HN HB HC Hc Hr Hg Hs M_pasts M_typed M_ways M_z M_why M_rows M_wide M_column M_found M_s M_past M_text M_one M_other M_group M_tried M_made Hb H locs hR hP hD hS ls hl
    exact law_out C0 hL (by omega) (by omega) hS hl
  | succ n ih =>
    intro i h1 h0 S_columns S_rows S_grade S_stepsMade S_numbers S_bridges S_caps Y_islands Y_ways Y_cellOf Y_islandAfter Y_firstOf Y_secondOf Y_firstCellOf Y_secondCellOf Y_strideOf Y_waysOf Y_crossings U_numbers U_bridges U_caps U_lacks G_leaders R_built E_built E_most E_watched E_found E_common E_differs E_bridges E_lacks E_open K_columns K_rows K_islands K_z K_taken K_numbers K_cellOf H_size T_length T_columns T_rows T_inRow T_islands T_faultIndex T_faultReason T_characters HN HB HC Hc Hr Hg Hs M_pasts M_typed M_ways M_z M_why M_rows M_wide M_column M_found M_s M_past M_text M_one M_other M_group M_tried M_made Hb H locs hR hP hD hS ls hl
    by_cases hend : L < i + 3
    · exact law_out C0 hL hend (by omega) hS hl
    have kn : KN p l e s m below meth c D cI cJ cS cB b a am i := by
      intro S_columns9 S_rows9 S_grade9 S_stepsMade9 S_numbers9 S_bridges9 S_caps9 Y_islands9 Y_ways9 Y_cellOf9 Y_islandAfter9 Y_firstOf9 Y_secondOf9 Y_firstCellOf9 Y_secondCellOf9 Y_strideOf9 Y_waysOf9 Y_crossings9 U_numbers9 U_bridges9 U_caps9 U_lacks9 G_leaders9 R_built9 E_built9 E_most9 E_watched9 E_found9 E_common9 E_differs9 E_bridges9 E_lacks9 E_open9 K_columns9 K_rows9 K_islands9 K_z9 K_taken9 K_numbers9 K_cellOf9 H_size9 T_length9 T_columns9 T_rows9 T_inRow9 T_islands9 T_faultIndex9 T_faultReason9 T_characters9 HN9 HB9 HC9 Hc9 Hr9 Hg9 Hs9 M_pasts9 M_typed9 M_ways9 M_z9 M_why9 M_rows9 M_wide9 M_column9 M_found9 M_s9 M_past9 M_text9 M_one9 M_other9 M_group9 M_tried9 M_made9 Hb9 H9 locs9 hR hP hD hS ls9 hl
      refine lv_iinc (v := nI (i + 3)) (lv' := [(3, .int (nI (i + 3))), (0, .ref b), (1, .ref (a 0)), (2, .ref (am 35))]) hx hb dL_law_669 hl (k := 3) rfl (nI_add i 3) (by decide) rfl (fun ls hl => ?_)
      refine lv_goto (tgt := 18) hx hb dL_law_672 (by decide) ?_
      exact ih (i + 3) (by omega) (by omega) hR hP hD hS (lv_sub hl [1, 2, 3, 0] rfl)
    refine lv_iload_n hx hb dL_law_18 rfl (lv_at hl 3 rfl) ?_
    refine lv_aload_n hx hb dL_law_19 rfl (lv_at hl 0 rfl) ?_
    refine va_slen hx hb hX hbl hbA hS dL_law_20 ?_
    refine lv_iconst (v := 3) hx hb dL_law_21 (by decide) ?_
    refine lv_isub hx hb dL_law_22 ?_
    have hnlt : ¬ nI L - nI 3 < nI i := by
      rw [pk_sub (by omega)]
      exact nI_nlt (by omega) (by omega)
    refine lv_icmp_gt (tgt := 675) hx hb dL_law_23 (by decide) (fun c9 => absurd c9 hnlt) (fun _ => ?_)
    refine lv_aload_n hx hb dL_law_26 rfl (lv_at hl 0 rfl) ?_
    refine lv_iload_n hx hb dL_law_27 rfl (lv_at hl 3 rfl) ?_
    refine va_sld hx hb hX hbl hbA hS (vp_in_nI (show i < L by omega) (by omega)) dL_law_28 ?_
    refine lv_bipush (v := 31) hx hb dL_law_29 (by decide) ?_
    refine lv_iand hx hb dL_law_31 ?_
    generalize xs (nI i).toNatClampNeg &&& 31 = v
    by_cases q0 : v = 0
    · refine lv_tableIn (off := 108) (tgt := 140) hx hb dL_law_32 (by rw [q0]; decide) (by rw [q0]; decide) (by rw [q0]; rfl) (by decide) ?_
      exact law_begin C0 hK (by omega) hL kn hR hP hD hS hl
    by_cases q1 : v = 1
    · refine lv_tableIn (off := 141) (tgt := 173) hx hb dL_law_32 (by rw [q1]; decide) (by rw [q1]; decide) (by rw [q1]; rfl) (by decide) ?_
      exact law_island C0 hK (by omega) hL kn hR hP hD hS hl
    by_cases q2 : v = 2
    · refine lv_tableIn (off := 174) (tgt := 206) hx hb dL_law_32 (by rw [q2]; decide) (by rw [q2]; decide) (by rw [q2]; rfl) (by decide) ?_
      exact law_removeIsland C0 hK (by omega) hL kn hR hP hD hS hl
    by_cases q3 : v = 3
    · refine lv_tableIn (off := 197) (tgt := 229) hx hb dL_law_32 (by rw [q3]; decide) (by rw [q3]; decide) (by rw [q3]; rfl) (by decide) ?_
      exact law_at C0 hK (by omega) hL kn hR hP hD hS hl
    by_cases q4 : v = 4
    · refine lv_tableIn (off := 220) (tgt := 252) hx hb dL_law_32 (by rw [q4]; decide) (by rw [q4]; decide) (by rw [q4]; rfl) (by decide) ?_
      exact law_islandInfo C0 hK (by omega) hL kn hR hP hD hS hl
    by_cases q5 : v = 5
    · refine lv_tableIn (off := 253) (tgt := 285) hx hb dL_law_32 (by rw [q5]; decide) (by rw [q5]; decide) (by rw [q5]; rfl) (by decide) ?_
      exact law_way C0 hK (by omega) hL kn hR hP hD hS hl
    by_cases q6 : v = 6
    · refine lv_tableIn (off := 286) (tgt := 318) hx hb dL_law_32 (by rw [q6]; decide) (by rw [q6]; decide) (by rw [q6]; rfl) (by decide) ?_
      exact law_between C0 hK (by omega) hL kn hR hP hD hS hl
    by_cases q7 : v = 7
    · refine lv_tableIn (off := 319) (tgt := 351) hx hb dL_law_32 (by rw [q7]; decide) (by rw [q7]; decide) (by rw [q7]; rfl) (by decide) ?_
      exact law_count C0 hK (by omega) hL kn hR hP hD hS hl
    by_cases q8 : v = 8
    · refine lv_tableIn (off := 342) (tgt := 374) hx hb dL_law_32 (by rw [q8]; decide) (by rw [q8]; decide) (by rw [q8]; rfl) (by decide) ?_
      exact law_build C0 hK (by omega) hL kn hR hP hD hS hl
    by_cases q9 : v = 9
    · refine lv_tableIn (off := 365) (tgt := 397) hx hb dL_law_32 (by rw [q9]; decide) (by rw [q9]; decide) (by rw [q9]; rfl) (by decide) ?_
      exact law_take C0 hK (by omega) hL kn hR hP hD hS hl
    by_cases q10 : v = 10
    · refine lv_tableIn (off := 388) (tgt := 420) hx hb dL_law_32 (by rw [q10]; decide) (by rw [q10]; decide) (by rw [q10]; rfl) (by decide) ?_
      exact law_cap C0 hK (by omega) hL kn hR hP hD hS hl
    by_cases q11 : v = 11
    · refine lv_tableIn (off := 421) (tgt := 453) hx hb dL_law_32 (by rw [q11]; decide) (by rw [q11]; decide) (by rw [q11]; rfl) (by decide) ?_
      exact law_clear C0 hK (by omega) hL kn hR hP hD hS hl
    by_cases q12 : v = 12
    · refine lv_tableIn (off := 434) (tgt := 466) hx hb dL_law_32 (by rw [q12]; decide) (by rw [q12]; decide) (by rw [q12]; rfl) (by decide) ?_
      exact law_step C0 hK (by omega) hL kn hR hP hD hS hl
    by_cases q13 : v = 13
    · refine lv_tableIn (off := 447) (tgt := 479) hx hb dL_law_32 (by rw [q13]; decide) (by rw [q13]; decide) (by rw [q13]; rfl) (by decide) ?_
      exact law_hint C0 hK (by omega) hL kn hR hP hD hS hl
    by_cases q14 : v = 14
    · refine lv_tableIn (off := 460) (tgt := 492) hx hb dL_law_32 (by rw [q14]; decide) (by rw [q14]; decide) (by rw [q14]; rfl) (by decide) ?_
      exact law_steps C0 hK (by omega) hL kn hR hP hD hS hl
    by_cases q15 : v = 15
    · refine lv_tableIn (off := 483) (tgt := 515) hx hb dL_law_32 (by rw [q15]; decide) (by rw [q15]; decide) (by rw [q15]; rfl) (by decide) ?_
      exact law_solutions C0 hK (by omega) hL kn hR hP hD hS hl
    by_cases q16 : v = 16
    · refine lv_tableIn (off := 496) (tgt := 528) hx hb dL_law_32 (by rw [q16]; decide) (by rw [q16]; decide) (by rw [q16]; rfl) (by decide) ?_
      exact law_inAll C0 hK (by omega) hL kn hR hP hD hS hl
    by_cases q17 : v = 17
    · refine lv_tableIn (off := 519) (tgt := 551) hx hb dL_law_32 (by rw [q17]; decide) (by rw [q17]; decide) (by rw [q17]; rfl) (by decide) ?_
      exact law_make C0 hK (by omega) hL kn hR hP hD hS hl
    by_cases q18 : v = 18
    · refine lv_tableIn (off := 552) (tgt := 584) hx hb dL_law_32 (by rw [q18]; decide) (by rw [q18]; decide) (by rw [q18]; rfl) (by decide) ?_
      exact law_undo C0 hK (by omega) hL kn hR hP hD hS hl
    by_cases q19 : v = 19
    · refine lv_tableIn (off := 565) (tgt := 597) hx hb dL_law_32 (by rw [q19]; decide) (by rw [q19]; decide) (by rw [q19]; rfl) (by decide) ?_
      exact law_type C0 hK (by omega) hL kn hR hP hD hS hl
    by_cases q20 : v = 20
    · refine lv_tableIn (off := 588) (tgt := 620) hx hb dL_law_32 (by rw [q20]; decide) (by rw [q20]; decide) (by rw [q20]; rfl) (by decide) ?_
      exact law_clearText C0 hK (by omega) hL kn hR hP hD hS hl
    by_cases q21 : v = 21
    · refine lv_tableIn (off := 601) (tgt := 633) hx hb dL_law_32 (by rw [q21]; decide) (by rw [q21]; decide) (by rw [q21]; rfl) (by decide) ?_
      exact law_fault C0 hK (by omega) hL kn hR hP hD hS hl
    by_cases q22 : v = 22
    · refine lv_tableIn (off := 624) (tgt := 656) hx hb dL_law_32 (by rw [q22]; decide) (by rw [q22]; decide) (by rw [q22]; rfl) (by decide) ?_
      exact law_load C0 hK (by omega) hL kn hR hP hD hS hl
    have w0 : v.toInt ≠ 0 := fun h9 => q0 (Int32.toInt_inj.mp (h9.trans rfl))
    have w1 : v.toInt ≠ 1 := fun h9 => q1 (Int32.toInt_inj.mp (h9.trans rfl))
    have w2 : v.toInt ≠ 2 := fun h9 => q2 (Int32.toInt_inj.mp (h9.trans rfl))
    have w3 : v.toInt ≠ 3 := fun h9 => q3 (Int32.toInt_inj.mp (h9.trans rfl))
    have w4 : v.toInt ≠ 4 := fun h9 => q4 (Int32.toInt_inj.mp (h9.trans rfl))
    have w5 : v.toInt ≠ 5 := fun h9 => q5 (Int32.toInt_inj.mp (h9.trans rfl))
    have w6 : v.toInt ≠ 6 := fun h9 => q6 (Int32.toInt_inj.mp (h9.trans rfl))
    have w7 : v.toInt ≠ 7 := fun h9 => q7 (Int32.toInt_inj.mp (h9.trans rfl))
    have w8 : v.toInt ≠ 8 := fun h9 => q8 (Int32.toInt_inj.mp (h9.trans rfl))
    have w9 : v.toInt ≠ 9 := fun h9 => q9 (Int32.toInt_inj.mp (h9.trans rfl))
    have w10 : v.toInt ≠ 10 := fun h9 => q10 (Int32.toInt_inj.mp (h9.trans rfl))
    have w11 : v.toInt ≠ 11 := fun h9 => q11 (Int32.toInt_inj.mp (h9.trans rfl))
    have w12 : v.toInt ≠ 12 := fun h9 => q12 (Int32.toInt_inj.mp (h9.trans rfl))
    have w13 : v.toInt ≠ 13 := fun h9 => q13 (Int32.toInt_inj.mp (h9.trans rfl))
    have w14 : v.toInt ≠ 14 := fun h9 => q14 (Int32.toInt_inj.mp (h9.trans rfl))
    have w15 : v.toInt ≠ 15 := fun h9 => q15 (Int32.toInt_inj.mp (h9.trans rfl))
    have w16 : v.toInt ≠ 16 := fun h9 => q16 (Int32.toInt_inj.mp (h9.trans rfl))
    have w17 : v.toInt ≠ 17 := fun h9 => q17 (Int32.toInt_inj.mp (h9.trans rfl))
    have w18 : v.toInt ≠ 18 := fun h9 => q18 (Int32.toInt_inj.mp (h9.trans rfl))
    have w19 : v.toInt ≠ 19 := fun h9 => q19 (Int32.toInt_inj.mp (h9.trans rfl))
    have w20 : v.toInt ≠ 20 := fun h9 => q20 (Int32.toInt_inj.mp (h9.trans rfl))
    have w21 : v.toInt ≠ 21 := fun h9 => q21 (Int32.toInt_inj.mp (h9.trans rfl))
    have w22 : v.toInt ≠ 22 := fun h9 => q22 (Int32.toInt_inj.mp (h9.trans rfl))
    refine lv_tableOut (tgt := 669) hx hb dL_law_32 (by omega) (by decide) ?_
    exact kn hR hP hD hS hl
theorem empty0 {N : Nat} {num br cp : Nat → Int32} {x y : Int32} (hN : 144 < N) : ∃ num' br' cp', m_X6_empty N num br cp x y = some (x, y, 0, 0, num', br', cp') ∧ ∀ c, c < 144 → num' c = 0 := by
  have : Ev (m_X6_empty N num br cp x y) (fun t => t.1 = x ∧ t.2.1 = y ∧ t.2.2.1 = 0 ∧ t.2.2.2.1 = 0 ∧ ∀ c, c < 144 → t.2.2.2.2.1 c = 0) := by
    unfold m_X6_empty
    refine zl2c0 144 (fun i z => ∀ c, c < i → z c = 0) ?_ ?_ N 0 _ (by omega) (by omega) (fun c hc => by omega)
    · intro rec i z hi hP
      refine Or.inr ⟨upd z i 0, ?_, fun c hc => ?_⟩
      · unfold m_X6_empty_b12
        rw [if_neg (kk144_ge hi), vPut_nI hi (by omega)]
        simp only [lt1, nI_s]
      · rcases Nat.lt_succ_iff_lt_or_eq.mp hc with q | q
        · rw [upd_n (by omega)]; exact hP c q
        · rw [q]; exact upd_s
    · intro rec z hP
      unfold m_X6_empty_b12 m_X6_empty_j34
      rw [if_pos (kk144_le (Nat.le_refl _) (by omega))]
      obtain ⟨⟨g', s', br', cp'⟩, e1, ⟨q1, q2⟩, -⟩ := takeAll_ev (N := N) (br := br) (cp := cp) hN
      rw [e1, bd4_some]
      exact Ev.some ⟨rfl, rfl, q1, q2, hP⟩
  obtain ⟨⟨a, b, g', s', num', br', cp'⟩, e, e1, e2, e3, e4, e5⟩ := this
  replace e1 : a = x := e1
  replace e2 : b = y := e2
  replace e3 : g' = 0 := e3
  replace e4 : s' = 0 := e4
  subst e1 e2 e3 e4
  exact ⟨_, _, _, e, e5⟩
theorem LR_0 {nu br cp : Nat → Int32} {Hb : Nat → Nat} (hz : ∀ c, c < 144 → nu c = 0) : LR 7 7 0 0 nu br cp 0 0 (fun _ => 0) (fun _ => 0) (fun _ => 0) (fun _ => 0) (fun _ => 0) (fun _ => 0) (fun _ => 0) (fun _ => 0) (fun _ => 0) (fun _ => 0) (fun _ => 0) (fun _ => 0) (fun _ => 0) (fun _ => 0) 0 0 0 0 0 0 0 (fun _ => 0) (fun _ => 0) (fun _ => 0) 0 0 0 0 (fun _ => 0) (fun _ => 0) (fun _ => 0) 0 0 0 0 0 0 0 0 (fun _ => 0) (fun _ => nu) (fun _ => br) (fun _ => cp) (fun _ => 7) (fun _ => 7) (fun _ => 0) (fun _ => 0) 0 0 0 0 0 0 0 0 0 (upd (upd (fun _ => 0) 0 7) 1 7) (fun _ => 0) (fun _ => 0) (fun _ => 0) (fun _ => 0) (fun _ => 0) (fun _ => 0) (fun _ => 0) Hb := by
  have hB : BD 7 7 nu := BD.zero ⟨by omega, by omega⟩ ⟨by omega, by omega⟩ hz
  have hr : rk nu (7 * 7) = 0 := by
    rw [rk_z (Nat.zero_le _) (fun c _ h2 => hz c (by omega))]; rfl
  have hl : WL 7 7 nu = [] := by
    have : (WL 7 7 nu).length ≤ 2 * rk nu (7 * 7) := wL_len 7 7 nu (7 * 7)
    rw [hr] at this
    exact List.length_eq_zero_iff.mp (by omega)
  have hlen : (WL 7 7 nu).length = 0 := by rw [hl]; rfl
  refine ⟨⟨7, 7, ⟨rfl, rfl⟩, hB, ⟨by rw [hr]; rfl, fun c hc hp => ?_, fun c hc => ?_, ⟨by rw [hlen]; rfl, fun k hk => by omega⟩, fun c hc hp => ?_, fun k hk => by omega⟩, ⟨rfl, rfl, fun c hc => ?_⟩, ⟨by rw [hlen]; rfl, fun k hk => by omega⟩, fun k hk => by omega, fun k hk => by omega, fun i j hi => by omega, rfl, rfl⟩, ⟨0, by omega, rfl, fun i hi => by omega⟩, ⟨0, by omega, rfl, fun i hi => by omega⟩, rfl, rfl⟩
  · rw [hz c (by omega)] at hp; exact absurd hp (by decide)
  · rw [hz c hc]; rfl
  · rw [hz c (by omega)] at hp; exact absurd hp (by decide)
  · rw [upd_n (by omega), upd_n (by omega), hz c hc]
set_option maxHeartbeats 4000000 in
set_option maxRecDepth 100000 in
theorem whole_start {p : Program} {e : Env} {s : State} {m : MethodId} {below : List Frame} {meth : Method} {c : Code} (l : Launch) (hflags : l.flags = flags0) {b L : Nat} {xs : Nat → Int32} (hL : L ≤ 1536) (C0 : lw_At p s m meth c b L xs) : W p l e room_1 s m #[Value.ref b] below meth c s.heap [] 0 0 (lw_Z below #[Value.ref b] s) (entryFrame m ([Value.ref b] : List Value).toArray 4) := by
  obtain ⟨hx, hb, hr, hml, hown, hts, hX, hbl, hlocks, hgv⟩ := id C0
  have hA : ∀ q : Nat, s.heap.size ≤ q → (fun q : Nat => s.heap.size ≤ q) q := fun _ h => h
  have hbA : ¬ (fun q : Nat => s.heap.size ≤ q) b := Nat.not_le.mpr hbl
  have htsL : ∀ w ∈ wsL_law, w.before #[Value.ref b] s = true := fun w h => hts w (wsL_law_in w h)
  obtain ⟨k0, iS0, hk0⟩ := u_known (C := RX0) (T := TX0) (N := 2) (n := 2) hts inX0 (hts (.instantiable RX0 2) (List.mem_of_getElem? (i := 246) (by decide +kernel)))
  obtain ⟨k1, iS1, hk1⟩ := u_known (C := RX1) (T := TX1) (N := 2) (n := 2) hts inX1 (hts (.instantiable RX1 2) (List.mem_of_getElem? (i := 355) (by decide +kernel)))
  obtain ⟨k2, iS2, hk2⟩ := u_known (C := RX2) (T := TX2) (N := 11) (n := 11) hts inX2 (hts (.instantiable RX2 11) (List.mem_of_getElem? (i := 164) (by decide +kernel)))
  obtain ⟨k3, iS3, hk3⟩ := u_known (C := RX3) (T := TX3) (N := 7) (n := 7) hts inX3 (hts (.instantiable RX3 7) (List.mem_of_getElem? (i := 327) (by decide +kernel)))
  obtain ⟨k4, iS4, hk4⟩ := u_known (C := RX4) (T := TX4) (N := 5) (n := 5) hts inX4 (hts (.instantiable RX4 5) (List.mem_of_getElem? (i := 259) (by decide +kernel)))
  obtain ⟨k5, iS5, hk5⟩ := u_known (C := RX5) (T := TX5) (N := 12) (n := 12) hts inX5 (hts (.instantiable RX5 12) (List.mem_of_getElem? (i := 281) (by decide +kernel)))
  obtain ⟨k6, iS6, hk6⟩ := u_known (C := RX6) (T := TX6) (N := 7) (n := 7) hts inX6 (hts (.instantiable RX6 7) (List.mem_of_getElem? (i := 105) (by decide +kernel)))
  obtain ⟨k7, iS7, hk7⟩ := u_known (C := RX7) (T := TX7) (N := 6) (n := 6) hts inX7 (hts (.instantiable RX7 6) (List.mem_of_getElem? (i := 217) (by decide +kernel)))
  obtain ⟨k8, iS8, hk8⟩ := u_known (C := RX8) (T := TX8) (N := 8) (n := 8) hts inX8 (hts (.instantiable RX8 8) (List.mem_of_getElem? (i := 372) (by decide +kernel)))
  obtain ⟨k9, iS9, hk9⟩ := u_known (C := RX9) (T := TX9) (N := 9) (n := 9) hts inX9 (hts (.instantiable RX9 9) (List.mem_of_getElem? (i := 97) (by decide +kernel)))
  obtain ⟨k10, iS10, hk10⟩ := u_known (C := RX10) (T := TX10) (N := 17) (n := 17) hts inX10 (hts (.instantiable RX10 17) (List.mem_of_getElem? (i := 888) (by decide +kernel)))
  obtain ⟨dC, dI, hKc⟩ : ∃ (dC : Nat → ClassId) (dI : Nat → Nat → Nat), ∀ (k : Nat) (q : vw_C), vwCl[k]? = some q → u_Kn s q.1 q.2.1 q.2.2 (dC k) (dI k) := by
    refine ⟨fun k => match k with | 0 => k0 | 1 => k1 | 2 => k2 | 3 => k3 | 4 => k4 | 5 => k5 | 6 => k6 | 7 => k7 | 8 => k8 | 9 => k9 | _ => k10, fun k => match k with | 0 => iS0 | 1 => iS1 | 2 => iS2 | 3 => iS3 | 4 => iS4 | 5 => iS5 | 6 => iS6 | 7 => iS7 | 8 => iS8 | 9 => iS9 | _ => iS10, ?_⟩
    intro k q hq
    match k, hq with
    | 0, hq => cases hq; exact hk0
    | 1, hq => cases hq; exact hk1
    | 2, hq => cases hq; exact hk2
    | 3, hq => cases hq; exact hk3
    | 4, hq => cases hq; exact hk4
    | 5, hq => cases hq; exact hk5
    | 6, hq => cases hq; exact hk6
    | 7, hq => cases hq; exact hk7
    | 8, hq => cases hq; exact hk8
    | 9, hq => cases hq; exact hk9
    | 10, hq => cases hq; exact hk10
    | k + 11, hq => simp [vwCl] at hq
  obtain ⟨cI, xI, yI, zI1, zI2, zI3⟩ := Cond.arrayClass_spec (hts (.arrayClass .int) (List.mem_of_getElem? (i := 162) (by decide +kernel)))
  obtain ⟨cJ, xJ, yJ, zJ1, zJ2, zJ3⟩ := Cond.arrayClass_spec (hts (.arrayClass .long) (List.mem_of_getElem? (i := 215) (by decide +kernel)))
  obtain ⟨cB, xB, yB, zB1, zB2, zB3⟩ := Cond.arrayClass_spec (hts (.arrayClass .byte) (List.mem_of_getElem? (i := 945) (by decide +kernel)))
  have hAO := hts (.arrayOver (.object "IslandBridges$State")) (List.mem_of_getElem? (i := 361) (by decide +kernel))
  obtain ⟨yS, cS, xS, zS1, zS2, zS3, zS4, zS5⟩ := Cond.arrayOver_spec hAO
  have hTY : ∀ (k : Nat) (q : ClassId × FieldType), (TYs cI cJ cS cB)[k]? = some q → ArrOfT s q.1 q.2 ∧ va_RA s q.1 q.2 := by
    intro k q hq
    match k, hq with
    | 0, hq => cases hq; exact ⟨fun n z => ⟨fun k h => (by cases h), xI, zI2, yI, zI3⟩, zI1⟩
    | 1, hq => cases hq; exact ⟨fun n z => ⟨fun k h => (by cases h), xJ, zJ2, yJ, zJ3⟩, zJ1⟩
    | 2, hq => cases hq; exact ⟨fun n z => ⟨fun k h => (by cases h), xS, zS3, yS, zS4⟩, ⟨xS, yS, zS3, zS4, zS1, zS5⟩⟩
    | 3, hq => cases hq; exact ⟨fun n z => ⟨fun k h => (by cases h), xB, zB2, yB, zB3⟩, zB1⟩
    | k + 4, hq => simp [TYs] at hq
  have hNi : ∀ q ∈ nsL, Cond.methodLinkNest q.1 q.2.1 q.2.2 "IslandBridges" ∈ lw_tbl := List.forall_mem_cons.mpr ⟨(List.mem_of_getElem? (i := 114) (by decide +kernel)), List.forall_mem_cons.mpr ⟨(List.mem_of_getElem? (i := 165) (by decide +kernel)), List.forall_mem_cons.mpr ⟨(List.mem_of_getElem? (i := 328) (by decide +kernel)), List.forall_mem_cons.mpr ⟨(List.mem_of_getElem? (i := 373) (by decide +kernel)), List.forall_mem_cons.mpr ⟨(List.mem_of_getElem? (i := 483) (by decide +kernel)), List.forall_mem_cons.mpr ⟨(List.mem_of_getElem? (i := 486) (by decide +kernel)), List.forall_mem_cons.mpr ⟨(List.mem_of_getElem? (i := 507) (by decide +kernel)), List.forall_mem_cons.mpr ⟨(List.mem_of_getElem? (i := 560) (by decide +kernel)), List.forall_mem_cons.mpr ⟨(List.mem_of_getElem? (i := 569) (by decide +kernel)), List.forall_mem_cons.mpr ⟨(List.mem_of_getElem? (i := 570) (by decide +kernel)), List.forall_mem_cons.mpr ⟨(List.mem_of_getElem? (i := 580) (by decide +kernel)), List.forall_mem_cons.mpr ⟨(List.mem_of_getElem? (i := 581) (by decide +kernel)), List.forall_mem_cons.mpr ⟨(List.mem_of_getElem? (i := 721) (by decide +kernel)), List.forall_mem_cons.mpr ⟨(List.mem_of_getElem? (i := 744) (by decide +kernel)), List.forall_mem_cons.mpr ⟨(List.mem_of_getElem? (i := 745) (by decide +kernel)), List.forall_mem_cons.mpr ⟨(List.mem_of_getElem? (i := 763) (by decide +kernel)), List.forall_mem_cons.mpr ⟨(List.mem_of_getElem? (i := 769) (by decide +kernel)), List.forall_mem_cons.mpr ⟨(List.mem_of_getElem? (i := 789) (by decide +kernel)), List.forall_mem_cons.mpr ⟨(List.mem_of_getElem? (i := 814) (by decide +kernel)), List.forall_mem_cons.mpr ⟨(List.mem_of_getElem? (i := 824) (by decide +kernel)), List.forall_mem_cons.mpr ⟨(List.mem_of_getElem? (i := 833) (by decide +kernel)), List.forall_mem_cons.mpr ⟨(List.mem_of_getElem? (i := 854) (by decide +kernel)), List.forall_mem_cons.mpr ⟨(List.mem_of_getElem? (i := 867) (by decide +kernel)), fun _ h => absurd h List.not_mem_nil⟩⟩⟩⟩⟩⟩⟩⟩⟩⟩⟩⟩⟩⟩⟩⟩⟩⟩⟩⟩⟩⟩⟩
  have hK : kK (dC, dI) (TYs cI cJ cS cB) s := ⟨⟨hKc, hTY⟩, fun q hq => va_Nw.of rfl (hts _ (hNi q hq)), va_AO.of hAO⟩
  have hS : va_S (fun q : Nat => s.heap.size ≤ q) s.heap s.heap [] := va_S.rf
  have hP : va_P (dC, dI) vwCl [] s.heap := fun k q h => by simp at h
  have hD : va_D (fun q : Nat => s.heap.size ≤ q) [] := ⟨fun i j p q h => by simp at h, fun k q h => by simp at h⟩
  have hl := lv_entry ([.ref b]) (n := 4) (Nat.le_of_ble_eq_true rfl)
  rw [lg_entry_eq]
  generalize (lg_sl ([.ref b]) ++ List.replicate (4 - (lg_sl ([.ref b])).length) Slot.unset).toArray = ls at hl ⊢
  have hl : lv_has ls 4 [(0, .ref b)] := hl
  obtain ⟨nu, br, cp, hE, hz⟩ := empty0 (N := 100000000) (num := fun _ => 0) (br := fun _ => 0) (cp := fun _ => 0) (x := 7) (y := 7) (by omega)
  refine va_new (ci := 9) (fs := [.null, .null, .null, .null, .null, .null, .null, .null, .null]) (C := RX9) (T := TX9) (N := 9) hx hb hts inX9 tyX9 tyX9_ok hown (hts (.classLink RL 7 RX9) (List.mem_of_getElem? (i := 96) (by decide +kernel))) (hts (.instantiable RX9 9) (List.mem_of_getElem? (i := 97) (by decide +kernel))) (hts (.initialized RX9) (List.mem_of_getElem? (i := 82) (by decide +kernel))) hK.1 hP hD hS hA rfl (fun j hj => by rcases (show j = 0 ∨ j = 1 ∨ j = 2 ∨ j = 3 ∨ j = 4 ∨ j = 5 ∨ j = 6 ∨ j = 7 ∨ j = 8 by omega) with rfl | rfl | rfl | rfl | rfl | rfl | rfl | rfl | rfl <;> rfl) (Nat.le_of_ble_eq_true rfl) (Nat.le_of_ble_eq_true rfl) dL_law_0 (fun n1 H hP hD hS => ?_)
  have hP : va_P (dC, dI) vwCl [(n1, .inr (9, [.null, .null, .null, .null, .null, .null, .null, .null, .null]))] H := hP
  have hD : va_D (fun q : Nat => s.heap.size ≤ q) [(n1, .inr (9, [.null, .null, .null, .null, .null, .null, .null, .null, .null]))] := hD
  refine W.widen (k := 1) (n := 9) (Nat.le_of_ble_eq_true rfl) (Nat.le_of_ble_eq_true rfl) ?_
  refine lv_dup hx hb dL_law_3 rfl ?_
  refine cIx ⟨hx, hb, hml, hown, htsL⟩ (c_X9_init l (dC, dI) cI cJ cS cB n1 100000000 7 7 0 0 nu br cp hE) (cwI 0 htsL gL_law_X9_init rfl rfl rfl (hts (.initialized RX9) (List.mem_of_getElem? (i := 82) (by decide +kernel))) (hts (.methodLink RL 9 yX9_init) (List.mem_of_getElem? (i := 98) (by decide +kernel))) (hts (.instanceMethod yX9_init) (List.mem_of_getElem? (i := 99) (by decide +kernel))) rfl hd_X9_init ⟨(Nat.le_of_ble_eq_true rfl), (Nat.le_of_ble_eq_true rfl)⟩) hK hP hD hS hA [0] rfl rfl (fun u => [o_X u.1.1 , o_S u.1.1 7 7 0 0, ai (u.1.1 2) cI 144 nu, ai (u.1.1 3) cI 48 br, ai (u.1.1 4) cI 48 cp, o_Y u.1.1 0 0, ai (u.1.1 6) cI 24 ((fun _ => 0)), ai (u.1.1 7) cI 144 ((fun _ => 0)), ai (u.1.1 8) cI 48 ((fun _ => 0)), ai (u.1.1 9) cI 48 ((fun _ => 0)), ai (u.1.1 10) cI 48 ((fun _ => 0)), ai (u.1.1 11) cI 48 ((fun _ => 0)), ai (u.1.1 12) cI 48 ((fun _ => 0)), ai (u.1.1 13) cI 24 ((fun _ => 0)), aj (u.1.1 14) cJ 48 ((fun _ => 0)), o_U u.1.1 , ai (u.1.1 16) cI 24 ((fun _ => 0)), ai (u.1.1 17) cI 24 ((fun _ => 0)), ai (u.1.1 18) cI 24 ((fun _ => 0)), ai (u.1.1 19) cI 24 ((fun _ => 0)), o_G u.1.1 , ai (u.1.1 21) cI 24 ((fun _ => 0)), o_R u.1.1 0, o_E u.1.1 0 0 0 0 0 0, ai (u.1.1 24) cI 48 ((fun _ => 0)), ai (u.1.1 25) cI 24 ((fun _ => 0)), ai (u.1.1 26) cI 24 ((fun _ => 0)), o_K u.1.1 0 0 0 0, ai (u.1.1 28) cI 144 ((fun _ => 0)), ai (u.1.1 29) cI 144 ((fun _ => 0)), ai (u.1.1 30) cI 24 ((fun _ => 0)), o_H u.1.1 0, o_T u.1.1 0 0 0 0 0 0 0, ai (u.1.1 34) cI 160 ((fun _ => 0)), aq (u.1.1 32) cS 4 (hq u.1.2), o_h (u.1.2 0) (u.1.2 1) (u.1.2 2) (u.1.2 3) (((fun _ => 7)) 0) (((fun _ => 7)) 0) (((fun _ => 0)) 0) (((fun _ => 0)) 0), ai (u.1.2 1) cI 144 (((fun _ => nu)) 0), ai (u.1.2 2) cI 48 (((fun _ => br)) 0), ai (u.1.2 3) cI 48 (((fun _ => cp)) 0), o_h (u.1.2 4) (u.1.2 5) (u.1.2 6) (u.1.2 7) (((fun _ => 7)) 1) (((fun _ => 7)) 1) (((fun _ => 0)) 1) (((fun _ => 0)) 1), ai (u.1.2 5) cI 144 (((fun _ => nu)) 1), ai (u.1.2 6) cI 48 (((fun _ => br)) 1), ai (u.1.2 7) cI 48 (((fun _ => cp)) 1), o_h (u.1.2 8) (u.1.2 9) (u.1.2 10) (u.1.2 11) (((fun _ => 7)) 2) (((fun _ => 7)) 2) (((fun _ => 0)) 2) (((fun _ => 0)) 2), ai (u.1.2 9) cI 144 (((fun _ => nu)) 2), ai (u.1.2 10) cI 48 (((fun _ => br)) 2), ai (u.1.2 11) cI 48 (((fun _ => cp)) 2), o_h (u.1.2 12) (u.1.2 13) (u.1.2 14) (u.1.2 15) (((fun _ => 7)) 3) (((fun _ => 7)) 3) (((fun _ => 0)) 3) (((fun _ => 0)) 3), ai (u.1.2 13) cI 144 (((fun _ => nu)) 3), ai (u.1.2 14) cI 48 (((fun _ => br)) 3), ai (u.1.2 15) cI 48 (((fun _ => cp)) 3)]) [(true, 0), (true, 1), (true, 2), (true, 3), (true, 4), (true, 5), (true, 6), (true, 7), (true, 8), (true, 9), (true, 10), (true, 11), (true, 12), (true, 13), (true, 14), (true, 15), (true, 16), (true, 17), (true, 18), (true, 19), (true, 20), (true, 21), (true, 22), (true, 23), (true, 24), (true, 25), (true, 26), (true, 27), (true, 28), (true, 29), (true, 30), (true, 31), (true, 32), (true, 33), (true, 34), (true, 35), (true, 36), (true, 37), (true, 38), (true, 39), (true, 40), (true, 41), (true, 42), (true, 43), (true, 44), (true, 45), (true, 46), (true, 47), (true, 48), (true, 49), (true, 50)] (fun _ => rfl) rfl rfl hl.1 (Nat.le_of_ble_eq_true rfl) ⟨(Nat.le_of_ble_eq_true rfl), (Nat.le_of_ble_eq_true rfl)⟩ rfl dL_law_4 (fun u H locs hP hD hS => ?_)
  obtain ⟨⟨a, Hb⟩, ha⟩ := u
  have ha : a 0 = n1 := ha
  subst ha
  have hP : va_P (dC, dI) vwCl [o_X a , o_S a 7 7 0 0, ai (a 2) cI 144 nu, ai (a 3) cI 48 br, ai (a 4) cI 48 cp, o_Y a 0 0, ai (a 6) cI 24 ((fun _ => 0)), ai (a 7) cI 144 ((fun _ => 0)), ai (a 8) cI 48 ((fun _ => 0)), ai (a 9) cI 48 ((fun _ => 0)), ai (a 10) cI 48 ((fun _ => 0)), ai (a 11) cI 48 ((fun _ => 0)), ai (a 12) cI 48 ((fun _ => 0)), ai (a 13) cI 24 ((fun _ => 0)), aj (a 14) cJ 48 ((fun _ => 0)), o_U a , ai (a 16) cI 24 ((fun _ => 0)), ai (a 17) cI 24 ((fun _ => 0)), ai (a 18) cI 24 ((fun _ => 0)), ai (a 19) cI 24 ((fun _ => 0)), o_G a , ai (a 21) cI 24 ((fun _ => 0)), o_R a 0, o_E a 0 0 0 0 0 0, ai (a 24) cI 48 ((fun _ => 0)), ai (a 25) cI 24 ((fun _ => 0)), ai (a 26) cI 24 ((fun _ => 0)), o_K a 0 0 0 0, ai (a 28) cI 144 ((fun _ => 0)), ai (a 29) cI 144 ((fun _ => 0)), ai (a 30) cI 24 ((fun _ => 0)), o_H a 0, o_T a 0 0 0 0 0 0 0, ai (a 34) cI 160 ((fun _ => 0)), aq (a 32) cS 4 (hq Hb), o_h (Hb 0) (Hb 1) (Hb 2) (Hb 3) (((fun _ => 7)) 0) (((fun _ => 7)) 0) (((fun _ => 0)) 0) (((fun _ => 0)) 0), ai (Hb 1) cI 144 (((fun _ => nu)) 0), ai (Hb 2) cI 48 (((fun _ => br)) 0), ai (Hb 3) cI 48 (((fun _ => cp)) 0), o_h (Hb 4) (Hb 5) (Hb 6) (Hb 7) (((fun _ => 7)) 1) (((fun _ => 7)) 1) (((fun _ => 0)) 1) (((fun _ => 0)) 1), ai (Hb 5) cI 144 (((fun _ => nu)) 1), ai (Hb 6) cI 48 (((fun _ => br)) 1), ai (Hb 7) cI 48 (((fun _ => cp)) 1), o_h (Hb 8) (Hb 9) (Hb 10) (Hb 11) (((fun _ => 7)) 2) (((fun _ => 7)) 2) (((fun _ => 0)) 2) (((fun _ => 0)) 2), ai (Hb 9) cI 144 (((fun _ => nu)) 2), ai (Hb 10) cI 48 (((fun _ => br)) 2), ai (Hb 11) cI 48 (((fun _ => cp)) 2), o_h (Hb 12) (Hb 13) (Hb 14) (Hb 15) (((fun _ => 7)) 3) (((fun _ => 7)) 3) (((fun _ => 0)) 3) (((fun _ => 0)) 3), ai (Hb 13) cI 144 (((fun _ => nu)) 3), ai (Hb 14) cI 48 (((fun _ => br)) 3), ai (Hb 15) cI 48 (((fun _ => cp)) 3)] H := hP
  have hD : va_D (fun q : Nat => s.heap.size ≤ q) [o_X a , o_S a 7 7 0 0, ai (a 2) cI 144 nu, ai (a 3) cI 48 br, ai (a 4) cI 48 cp, o_Y a 0 0, ai (a 6) cI 24 ((fun _ => 0)), ai (a 7) cI 144 ((fun _ => 0)), ai (a 8) cI 48 ((fun _ => 0)), ai (a 9) cI 48 ((fun _ => 0)), ai (a 10) cI 48 ((fun _ => 0)), ai (a 11) cI 48 ((fun _ => 0)), ai (a 12) cI 48 ((fun _ => 0)), ai (a 13) cI 24 ((fun _ => 0)), aj (a 14) cJ 48 ((fun _ => 0)), o_U a , ai (a 16) cI 24 ((fun _ => 0)), ai (a 17) cI 24 ((fun _ => 0)), ai (a 18) cI 24 ((fun _ => 0)), ai (a 19) cI 24 ((fun _ => 0)), o_G a , ai (a 21) cI 24 ((fun _ => 0)), o_R a 0, o_E a 0 0 0 0 0 0, ai (a 24) cI 48 ((fun _ => 0)), ai (a 25) cI 24 ((fun _ => 0)), ai (a 26) cI 24 ((fun _ => 0)), o_K a 0 0 0 0, ai (a 28) cI 144 ((fun _ => 0)), ai (a 29) cI 144 ((fun _ => 0)), ai (a 30) cI 24 ((fun _ => 0)), o_H a 0, o_T a 0 0 0 0 0 0 0, ai (a 34) cI 160 ((fun _ => 0)), aq (a 32) cS 4 (hq Hb), o_h (Hb 0) (Hb 1) (Hb 2) (Hb 3) (((fun _ => 7)) 0) (((fun _ => 7)) 0) (((fun _ => 0)) 0) (((fun _ => 0)) 0), ai (Hb 1) cI 144 (((fun _ => nu)) 0), ai (Hb 2) cI 48 (((fun _ => br)) 0), ai (Hb 3) cI 48 (((fun _ => cp)) 0), o_h (Hb 4) (Hb 5) (Hb 6) (Hb 7) (((fun _ => 7)) 1) (((fun _ => 7)) 1) (((fun _ => 0)) 1) (((fun _ => 0)) 1), ai (Hb 5) cI 144 (((fun _ => nu)) 1), ai (Hb 6) cI 48 (((fun _ => br)) 1), ai (Hb 7) cI 48 (((fun _ => cp)) 1), o_h (Hb 8) (Hb 9) (Hb 10) (Hb 11) (((fun _ => 7)) 2) (((fun _ => 7)) 2) (((fun _ => 0)) 2) (((fun _ => 0)) 2), ai (Hb 9) cI 144 (((fun _ => nu)) 2), ai (Hb 10) cI 48 (((fun _ => br)) 2), ai (Hb 11) cI 48 (((fun _ => cp)) 2), o_h (Hb 12) (Hb 13) (Hb 14) (Hb 15) (((fun _ => 7)) 3) (((fun _ => 7)) 3) (((fun _ => 0)) 3) (((fun _ => 0)) 3), ai (Hb 13) cI 144 (((fun _ => nu)) 3), ai (Hb 14) cI 48 (((fun _ => br)) 3), ai (Hb 15) cI 48 (((fun _ => cp)) 3)] := hD
  refine W.widen (k := 51) (n := 2469) (Nat.le_of_ble_eq_true rfl) (Nat.le_of_ble_eq_true rfl) ?_
  refine lv_astore_n (lv' := [(1, .ref (a 0)), (0, .ref b)]) hx hb dL_law_7 rfl hl (by decide) rfl (fun ls hl => ?_)
  refine va_new (ci := 10) (fs := [.null, .null, .int 0, .null, .int 0, .int 0, .null, .null, .null, .null, .int 0, .null, .int 0, .int 0, .int 0, .int 0, .int 0]) (C := RX10) (T := TX10) (N := 17) hx hb hts inX10 tyX10 tyX10_ok hown (hts (.classLink RL 10 RX10) (List.mem_of_getElem? (i := 887) (by decide +kernel))) (hts (.instantiable RX10 17) (List.mem_of_getElem? (i := 888) (by decide +kernel))) (hts (.initialized RX10) (List.mem_of_getElem? (i := 92) (by decide +kernel))) hK.1 hP hD hS hA rfl (fun j hj => by rcases (show j = 0 ∨ j = 1 ∨ j = 2 ∨ j = 3 ∨ j = 4 ∨ j = 5 ∨ j = 6 ∨ j = 7 ∨ j = 8 ∨ j = 9 ∨ j = 10 ∨ j = 11 ∨ j = 12 ∨ j = 13 ∨ j = 14 ∨ j = 15 ∨ j = 16 by omega) with rfl | rfl | rfl | rfl | rfl | rfl | rfl | rfl | rfl | rfl | rfl | rfl | rfl | rfl | rfl | rfl | rfl <;> rfl) (Nat.le_of_ble_eq_true rfl) (Nat.le_of_ble_eq_true rfl) dL_law_8 (fun n2 H hP hD hS => ?_)
  have hP : va_P (dC, dI) vwCl [o_X a , o_S a 7 7 0 0, ai (a 2) cI 144 nu, ai (a 3) cI 48 br, ai (a 4) cI 48 cp, o_Y a 0 0, ai (a 6) cI 24 ((fun _ => 0)), ai (a 7) cI 144 ((fun _ => 0)), ai (a 8) cI 48 ((fun _ => 0)), ai (a 9) cI 48 ((fun _ => 0)), ai (a 10) cI 48 ((fun _ => 0)), ai (a 11) cI 48 ((fun _ => 0)), ai (a 12) cI 48 ((fun _ => 0)), ai (a 13) cI 24 ((fun _ => 0)), aj (a 14) cJ 48 ((fun _ => 0)), o_U a , ai (a 16) cI 24 ((fun _ => 0)), ai (a 17) cI 24 ((fun _ => 0)), ai (a 18) cI 24 ((fun _ => 0)), ai (a 19) cI 24 ((fun _ => 0)), o_G a , ai (a 21) cI 24 ((fun _ => 0)), o_R a 0, o_E a 0 0 0 0 0 0, ai (a 24) cI 48 ((fun _ => 0)), ai (a 25) cI 24 ((fun _ => 0)), ai (a 26) cI 24 ((fun _ => 0)), o_K a 0 0 0 0, ai (a 28) cI 144 ((fun _ => 0)), ai (a 29) cI 144 ((fun _ => 0)), ai (a 30) cI 24 ((fun _ => 0)), o_H a 0, o_T a 0 0 0 0 0 0 0, ai (a 34) cI 160 ((fun _ => 0)), aq (a 32) cS 4 (hq Hb), o_h (Hb 0) (Hb 1) (Hb 2) (Hb 3) (((fun _ => 7)) 0) (((fun _ => 7)) 0) (((fun _ => 0)) 0) (((fun _ => 0)) 0), ai (Hb 1) cI 144 (((fun _ => nu)) 0), ai (Hb 2) cI 48 (((fun _ => br)) 0), ai (Hb 3) cI 48 (((fun _ => cp)) 0), o_h (Hb 4) (Hb 5) (Hb 6) (Hb 7) (((fun _ => 7)) 1) (((fun _ => 7)) 1) (((fun _ => 0)) 1) (((fun _ => 0)) 1), ai (Hb 5) cI 144 (((fun _ => nu)) 1), ai (Hb 6) cI 48 (((fun _ => br)) 1), ai (Hb 7) cI 48 (((fun _ => cp)) 1), o_h (Hb 8) (Hb 9) (Hb 10) (Hb 11) (((fun _ => 7)) 2) (((fun _ => 7)) 2) (((fun _ => 0)) 2) (((fun _ => 0)) 2), ai (Hb 9) cI 144 (((fun _ => nu)) 2), ai (Hb 10) cI 48 (((fun _ => br)) 2), ai (Hb 11) cI 48 (((fun _ => cp)) 2), o_h (Hb 12) (Hb 13) (Hb 14) (Hb 15) (((fun _ => 7)) 3) (((fun _ => 7)) 3) (((fun _ => 0)) 3) (((fun _ => 0)) 3), ai (Hb 13) cI 144 (((fun _ => nu)) 3), ai (Hb 14) cI 48 (((fun _ => br)) 3), ai (Hb 15) cI 48 (((fun _ => cp)) 3), (n2, .inr (10, [.null, .null, .int 0, .null, .int 0, .int 0, .null, .null, .null, .null, .int 0, .null, .int 0, .int 0, .int 0, .int 0, .int 0]))] H := hP
  have hD : va_D (fun q : Nat => s.heap.size ≤ q) [o_X a , o_S a 7 7 0 0, ai (a 2) cI 144 nu, ai (a 3) cI 48 br, ai (a 4) cI 48 cp, o_Y a 0 0, ai (a 6) cI 24 ((fun _ => 0)), ai (a 7) cI 144 ((fun _ => 0)), ai (a 8) cI 48 ((fun _ => 0)), ai (a 9) cI 48 ((fun _ => 0)), ai (a 10) cI 48 ((fun _ => 0)), ai (a 11) cI 48 ((fun _ => 0)), ai (a 12) cI 48 ((fun _ => 0)), ai (a 13) cI 24 ((fun _ => 0)), aj (a 14) cJ 48 ((fun _ => 0)), o_U a , ai (a 16) cI 24 ((fun _ => 0)), ai (a 17) cI 24 ((fun _ => 0)), ai (a 18) cI 24 ((fun _ => 0)), ai (a 19) cI 24 ((fun _ => 0)), o_G a , ai (a 21) cI 24 ((fun _ => 0)), o_R a 0, o_E a 0 0 0 0 0 0, ai (a 24) cI 48 ((fun _ => 0)), ai (a 25) cI 24 ((fun _ => 0)), ai (a 26) cI 24 ((fun _ => 0)), o_K a 0 0 0 0, ai (a 28) cI 144 ((fun _ => 0)), ai (a 29) cI 144 ((fun _ => 0)), ai (a 30) cI 24 ((fun _ => 0)), o_H a 0, o_T a 0 0 0 0 0 0 0, ai (a 34) cI 160 ((fun _ => 0)), aq (a 32) cS 4 (hq Hb), o_h (Hb 0) (Hb 1) (Hb 2) (Hb 3) (((fun _ => 7)) 0) (((fun _ => 7)) 0) (((fun _ => 0)) 0) (((fun _ => 0)) 0), ai (Hb 1) cI 144 (((fun _ => nu)) 0), ai (Hb 2) cI 48 (((fun _ => br)) 0), ai (Hb 3) cI 48 (((fun _ => cp)) 0), o_h (Hb 4) (Hb 5) (Hb 6) (Hb 7) (((fun _ => 7)) 1) (((fun _ => 7)) 1) (((fun _ => 0)) 1) (((fun _ => 0)) 1), ai (Hb 5) cI 144 (((fun _ => nu)) 1), ai (Hb 6) cI 48 (((fun _ => br)) 1), ai (Hb 7) cI 48 (((fun _ => cp)) 1), o_h (Hb 8) (Hb 9) (Hb 10) (Hb 11) (((fun _ => 7)) 2) (((fun _ => 7)) 2) (((fun _ => 0)) 2) (((fun _ => 0)) 2), ai (Hb 9) cI 144 (((fun _ => nu)) 2), ai (Hb 10) cI 48 (((fun _ => br)) 2), ai (Hb 11) cI 48 (((fun _ => cp)) 2), o_h (Hb 12) (Hb 13) (Hb 14) (Hb 15) (((fun _ => 7)) 3) (((fun _ => 7)) 3) (((fun _ => 0)) 3) (((fun _ => 0)) 3), ai (Hb 13) cI 144 (((fun _ => nu)) 3), ai (Hb 14) cI 48 (((fun _ => br)) 3), ai (Hb 15) cI 48 (((fun _ => cp)) 3), (n2, .inr (10, [.null, .null, .int 0, .null, .int 0, .int 0, .null, .null, .null, .null, .int 0, .null, .int 0, .int 0, .int 0, .int 0, .int 0]))] := hD
  refine W.widen (k := 52) (n := 2486) (Nat.le_of_ble_eq_true rfl) (Nat.le_of_ble_eq_true rfl) ?_
  refine lv_dup hx hb dL_law_11 rfl ?_
  refine cIx ⟨hx, hb, hml, hown, htsL⟩ (c_X10_init l (dC, dI) cI cJ cS cB n2) (cwI 0 htsL gL_law_X10_init rfl rfl rfl (hts (.initialized RX10) (List.mem_of_getElem? (i := 92) (by decide +kernel))) (hts (.methodLink RL 12 yX10_init) (List.mem_of_getElem? (i := 889) (by decide +kernel))) (hts (.instanceMethod yX10_init) (List.mem_of_getElem? (i := 890) (by decide +kernel))) rfl hd_X10_init ⟨(Nat.le_of_ble_eq_true rfl), (Nat.le_of_ble_eq_true rfl)⟩) hK hP hD hS hA [51] rfl rfl (fun u => [o_X a , o_S a 7 7 0 0, ai (a 2) cI 144 nu, ai (a 3) cI 48 br, ai (a 4) cI 48 cp, o_Y a 0 0, ai (a 6) cI 24 ((fun _ => 0)), ai (a 7) cI 144 ((fun _ => 0)), ai (a 8) cI 48 ((fun _ => 0)), ai (a 9) cI 48 ((fun _ => 0)), ai (a 10) cI 48 ((fun _ => 0)), ai (a 11) cI 48 ((fun _ => 0)), ai (a 12) cI 48 ((fun _ => 0)), ai (a 13) cI 24 ((fun _ => 0)), aj (a 14) cJ 48 ((fun _ => 0)), o_U a , ai (a 16) cI 24 ((fun _ => 0)), ai (a 17) cI 24 ((fun _ => 0)), ai (a 18) cI 24 ((fun _ => 0)), ai (a 19) cI 24 ((fun _ => 0)), o_G a , ai (a 21) cI 24 ((fun _ => 0)), o_R a 0, o_E a 0 0 0 0 0 0, ai (a 24) cI 48 ((fun _ => 0)), ai (a 25) cI 24 ((fun _ => 0)), ai (a 26) cI 24 ((fun _ => 0)), o_K a 0 0 0 0, ai (a 28) cI 144 ((fun _ => 0)), ai (a 29) cI 144 ((fun _ => 0)), ai (a 30) cI 24 ((fun _ => 0)), o_H a 0, o_T a 0 0 0 0 0 0 0, ai (a 34) cI 160 ((fun _ => 0)), aq (a 32) cS 4 (hq Hb), o_h (Hb 0) (Hb 1) (Hb 2) (Hb 3) (((fun _ => 7)) 0) (((fun _ => 7)) 0) (((fun _ => 0)) 0) (((fun _ => 0)) 0), ai (Hb 1) cI 144 (((fun _ => nu)) 0), ai (Hb 2) cI 48 (((fun _ => br)) 0), ai (Hb 3) cI 48 (((fun _ => cp)) 0), o_h (Hb 4) (Hb 5) (Hb 6) (Hb 7) (((fun _ => 7)) 1) (((fun _ => 7)) 1) (((fun _ => 0)) 1) (((fun _ => 0)) 1), ai (Hb 5) cI 144 (((fun _ => nu)) 1), ai (Hb 6) cI 48 (((fun _ => br)) 1), ai (Hb 7) cI 48 (((fun _ => cp)) 1), o_h (Hb 8) (Hb 9) (Hb 10) (Hb 11) (((fun _ => 7)) 2) (((fun _ => 7)) 2) (((fun _ => 0)) 2) (((fun _ => 0)) 2), ai (Hb 9) cI 144 (((fun _ => nu)) 2), ai (Hb 10) cI 48 (((fun _ => br)) 2), ai (Hb 11) cI 48 (((fun _ => cp)) 2), o_h (Hb 12) (Hb 13) (Hb 14) (Hb 15) (((fun _ => 7)) 3) (((fun _ => 7)) 3) (((fun _ => 0)) 3) (((fun _ => 0)) 3), ai (Hb 13) cI 144 (((fun _ => nu)) 3), ai (Hb 14) cI 48 (((fun _ => br)) 3), ai (Hb 15) cI 48 (((fun _ => cp)) 3), o_M u.1 0 0 0 0 0 0 0 0 0, ai (u.1 36) cI 244 ((upd (upd (fun _ => 0) 0 7) 1 7)), ai (u.1 37) cI 976 ((fun _ => 0)), ai (u.1 38) cB 160 ((fun _ => 0)), ai (u.1 39) cI 48 ((fun _ => 0)), ai (u.1 40) cI 48 ((fun _ => 0)), ai (u.1 41) cI 144 ((fun _ => 0)), ai (u.1 42) cI 14 ((fun _ => 0)), ai (u.1 43) cI 144 ((fun _ => 0))]) [(false, 0), (false, 1), (false, 2), (false, 3), (false, 4), (false, 5), (false, 6), (false, 7), (false, 8), (false, 9), (false, 10), (false, 11), (false, 12), (false, 13), (false, 14), (false, 15), (false, 16), (false, 17), (false, 18), (false, 19), (false, 20), (false, 21), (false, 22), (false, 23), (false, 24), (false, 25), (false, 26), (false, 27), (false, 28), (false, 29), (false, 30), (false, 31), (false, 32), (false, 33), (false, 34), (false, 35), (false, 36), (false, 37), (false, 38), (false, 39), (false, 40), (false, 41), (false, 42), (false, 43), (false, 44), (false, 45), (false, 46), (false, 47), (false, 48), (false, 49), (false, 50), (true, 0), (true, 1), (true, 2), (true, 3), (true, 4), (true, 5), (true, 6), (true, 7), (true, 8)] (fun _ => rfl) rfl rfl hl.1 (Nat.le_of_ble_eq_true rfl) ⟨(Nat.le_of_ble_eq_true rfl), (Nat.le_of_ble_eq_true rfl)⟩ rfl dL_law_12 (fun u H locs hP hD hS => ?_)
  obtain ⟨am, ham⟩ := u
  have ham : am 35 = n2 := ham
  subst ham
  have hP : va_P (dC, dI) vwCl [o_X a , o_S a 7 7 0 0, ai (a 2) cI 144 nu, ai (a 3) cI 48 br, ai (a 4) cI 48 cp, o_Y a 0 0, ai (a 6) cI 24 ((fun _ => 0)), ai (a 7) cI 144 ((fun _ => 0)), ai (a 8) cI 48 ((fun _ => 0)), ai (a 9) cI 48 ((fun _ => 0)), ai (a 10) cI 48 ((fun _ => 0)), ai (a 11) cI 48 ((fun _ => 0)), ai (a 12) cI 48 ((fun _ => 0)), ai (a 13) cI 24 ((fun _ => 0)), aj (a 14) cJ 48 ((fun _ => 0)), o_U a , ai (a 16) cI 24 ((fun _ => 0)), ai (a 17) cI 24 ((fun _ => 0)), ai (a 18) cI 24 ((fun _ => 0)), ai (a 19) cI 24 ((fun _ => 0)), o_G a , ai (a 21) cI 24 ((fun _ => 0)), o_R a 0, o_E a 0 0 0 0 0 0, ai (a 24) cI 48 ((fun _ => 0)), ai (a 25) cI 24 ((fun _ => 0)), ai (a 26) cI 24 ((fun _ => 0)), o_K a 0 0 0 0, ai (a 28) cI 144 ((fun _ => 0)), ai (a 29) cI 144 ((fun _ => 0)), ai (a 30) cI 24 ((fun _ => 0)), o_H a 0, o_T a 0 0 0 0 0 0 0, ai (a 34) cI 160 ((fun _ => 0)), aq (a 32) cS 4 (hq Hb), o_h (Hb 0) (Hb 1) (Hb 2) (Hb 3) (((fun _ => 7)) 0) (((fun _ => 7)) 0) (((fun _ => 0)) 0) (((fun _ => 0)) 0), ai (Hb 1) cI 144 (((fun _ => nu)) 0), ai (Hb 2) cI 48 (((fun _ => br)) 0), ai (Hb 3) cI 48 (((fun _ => cp)) 0), o_h (Hb 4) (Hb 5) (Hb 6) (Hb 7) (((fun _ => 7)) 1) (((fun _ => 7)) 1) (((fun _ => 0)) 1) (((fun _ => 0)) 1), ai (Hb 5) cI 144 (((fun _ => nu)) 1), ai (Hb 6) cI 48 (((fun _ => br)) 1), ai (Hb 7) cI 48 (((fun _ => cp)) 1), o_h (Hb 8) (Hb 9) (Hb 10) (Hb 11) (((fun _ => 7)) 2) (((fun _ => 7)) 2) (((fun _ => 0)) 2) (((fun _ => 0)) 2), ai (Hb 9) cI 144 (((fun _ => nu)) 2), ai (Hb 10) cI 48 (((fun _ => br)) 2), ai (Hb 11) cI 48 (((fun _ => cp)) 2), o_h (Hb 12) (Hb 13) (Hb 14) (Hb 15) (((fun _ => 7)) 3) (((fun _ => 7)) 3) (((fun _ => 0)) 3) (((fun _ => 0)) 3), ai (Hb 13) cI 144 (((fun _ => nu)) 3), ai (Hb 14) cI 48 (((fun _ => br)) 3), ai (Hb 15) cI 48 (((fun _ => cp)) 3), o_M am 0 0 0 0 0 0 0 0 0, ai (am 36) cI 244 ((upd (upd (fun _ => 0) 0 7) 1 7)), ai (am 37) cI 976 ((fun _ => 0)), ai (am 38) cB 160 ((fun _ => 0)), ai (am 39) cI 48 ((fun _ => 0)), ai (am 40) cI 48 ((fun _ => 0)), ai (am 41) cI 144 ((fun _ => 0)), ai (am 42) cI 14 ((fun _ => 0)), ai (am 43) cI 144 ((fun _ => 0))] H := hP
  have hD : va_D (fun q : Nat => s.heap.size ≤ q) [o_X a , o_S a 7 7 0 0, ai (a 2) cI 144 nu, ai (a 3) cI 48 br, ai (a 4) cI 48 cp, o_Y a 0 0, ai (a 6) cI 24 ((fun _ => 0)), ai (a 7) cI 144 ((fun _ => 0)), ai (a 8) cI 48 ((fun _ => 0)), ai (a 9) cI 48 ((fun _ => 0)), ai (a 10) cI 48 ((fun _ => 0)), ai (a 11) cI 48 ((fun _ => 0)), ai (a 12) cI 48 ((fun _ => 0)), ai (a 13) cI 24 ((fun _ => 0)), aj (a 14) cJ 48 ((fun _ => 0)), o_U a , ai (a 16) cI 24 ((fun _ => 0)), ai (a 17) cI 24 ((fun _ => 0)), ai (a 18) cI 24 ((fun _ => 0)), ai (a 19) cI 24 ((fun _ => 0)), o_G a , ai (a 21) cI 24 ((fun _ => 0)), o_R a 0, o_E a 0 0 0 0 0 0, ai (a 24) cI 48 ((fun _ => 0)), ai (a 25) cI 24 ((fun _ => 0)), ai (a 26) cI 24 ((fun _ => 0)), o_K a 0 0 0 0, ai (a 28) cI 144 ((fun _ => 0)), ai (a 29) cI 144 ((fun _ => 0)), ai (a 30) cI 24 ((fun _ => 0)), o_H a 0, o_T a 0 0 0 0 0 0 0, ai (a 34) cI 160 ((fun _ => 0)), aq (a 32) cS 4 (hq Hb), o_h (Hb 0) (Hb 1) (Hb 2) (Hb 3) (((fun _ => 7)) 0) (((fun _ => 7)) 0) (((fun _ => 0)) 0) (((fun _ => 0)) 0), ai (Hb 1) cI 144 (((fun _ => nu)) 0), ai (Hb 2) cI 48 (((fun _ => br)) 0), ai (Hb 3) cI 48 (((fun _ => cp)) 0), o_h (Hb 4) (Hb 5) (Hb 6) (Hb 7) (((fun _ => 7)) 1) (((fun _ => 7)) 1) (((fun _ => 0)) 1) (((fun _ => 0)) 1), ai (Hb 5) cI 144 (((fun _ => nu)) 1), ai (Hb 6) cI 48 (((fun _ => br)) 1), ai (Hb 7) cI 48 (((fun _ => cp)) 1), o_h (Hb 8) (Hb 9) (Hb 10) (Hb 11) (((fun _ => 7)) 2) (((fun _ => 7)) 2) (((fun _ => 0)) 2) (((fun _ => 0)) 2), ai (Hb 9) cI 144 (((fun _ => nu)) 2), ai (Hb 10) cI 48 (((fun _ => br)) 2), ai (Hb 11) cI 48 (((fun _ => cp)) 2), o_h (Hb 12) (Hb 13) (Hb 14) (Hb 15) (((fun _ => 7)) 3) (((fun _ => 7)) 3) (((fun _ => 0)) 3) (((fun _ => 0)) 3), ai (Hb 13) cI 144 (((fun _ => nu)) 3), ai (Hb 14) cI 48 (((fun _ => br)) 3), ai (Hb 15) cI 48 (((fun _ => cp)) 3), o_M am 0 0 0 0 0 0 0 0 0, ai (am 36) cI 244 ((upd (upd (fun _ => 0) 0 7) 1 7)), ai (am 37) cI 976 ((fun _ => 0)), ai (am 38) cB 160 ((fun _ => 0)), ai (am 39) cI 48 ((fun _ => 0)), ai (am 40) cI 48 ((fun _ => 0)), ai (am 41) cI 144 ((fun _ => 0)), ai (am 42) cI 14 ((fun _ => 0)), ai (am 43) cI 144 ((fun _ => 0))] := hD
  refine W.widen (k := 60) (n := 4264) (Nat.le_of_ble_eq_true rfl) (Nat.le_of_ble_eq_true rfl) ?_
  refine lv_astore_n (lv' := [(2, .ref (am 35)), (1, .ref (a 0)), (0, .ref b)]) hx hb dL_law_15 rfl hl (by decide) rfl (fun ls hl => ?_)
  refine lv_iconst (v := nI 0) hx hb dL_law_16 (by decide) ?_
  refine lv_istore_n (lv' := [(3, .int (nI 0)), (2, .ref (am 35)), (1, .ref (a 0)), (0, .ref b)]) hx hb dL_law_17 rfl hl (by decide) rfl (fun ls hl => ?_)
  exact law_loop C0 hK hL (L + 1) 0 (by omega) (by omega) (LR_0 (Hb := Hb) hz) hP hD hS (lv_sub hl [3, 2, 1, 0] rfl)
