/-! the reference's mirrors: values alone -/
def m_X10_in (x0 : Int32) (x1 : Int32) (x2 : Int32) : Int32 :=
  if x0 < x1 then (0) else (if x2 < x0 then (0) else (1))
def m_X10_lesser (x0 : Int32) (x1 : Int32) : Int32 :=
  if x1 ≤ x0 then (x1) else (x0)
def m_X10_greater (x0 : Int32) (x1 : Int32) : Int32 :=
  if x0 ≤ x1 then (x1) else (x0)
def m_X10_notes_j85 (y6 : Int32) (y7 : Nat → Int32) : Option (Int32 × (Nat → Int32)) :=
  lt1 (y6 + 1) (fun v8 => some ((v8, y7)))
def m_X10_notes_b51 (M_s : Nat → Int32) (y4 : Int32) (rec51 : Int32 → (Nat → Int32) → Option (Int32 × (Nat → Int32))) (y3 : Int32) (y5 : Nat → Int32) : Option (Int32 × (Nat → Int32)) :=
  if 244 ≤ y3 then (m_X10_notes_j85 y4 y5) else (rd 244 M_s y3 (fun v9 => wr 976 y5 ((244 * y4) + y3) v9 (fun v10 => lt1 (y3 + 1) (fun v11 => rec51 v11 v10))))
def m_X10_notes_j49 (N : Nat) (M_s : Nat → Int32) (y1 : Int32) (y2 : Nat → Int32) : Option (Int32 × (Nat → Int32)) :=
  zl2 (m_X10_notes_b51 M_s y1) N 0 y2
def m_X10_notes_j39 (N : Nat) (M_s : Nat → Int32) (y15 : Int32) (y16 : Nat → Int32) : Option (Int32 × (Nat → Int32)) :=
  lt1 (y15 - 1) (fun v17 => m_X10_notes_j49 N M_s v17 y16)
def m_X10_notes_b10 (N : Nat) (M_s : Nat → Int32) (y13 : Int32) (rec10 : Int32 → (Nat → Int32) → Option (Int32 × (Nat → Int32))) (y12 : Int32) (y14 : Nat → Int32) : Option (Int32 × (Nat → Int32)) :=
  if 732 ≤ y12 then (m_X10_notes_j39 N M_s y13 y14) else (rd 976 y14 (y12 + 244) (fun v18 => wr 976 y14 y12 v18 (fun v19 => lt1 (y12 + 1) (fun v20 => rec10 v20 v19))))
def m_X10_notes (N : Nat) (M_pasts : Int32) (M_s : Nat → Int32) (M_past : Nat → Int32) : Option (Int32 × (Nat → Int32)) :=
  if M_pasts = 4 then (zl2 (m_X10_notes_b10 N M_s M_pasts) N 0 M_past) else (m_X10_notes_j49 N M_s M_pasts M_past)
def m_X10_cells (M_s : Nat → Int32) : Option (Int32) :=
  rd 244 M_s 0 (fun v1 => rd 244 M_s 1 (fun v2 => some (v1 * v2)))
def m_X10_number (M_s : Nat → Int32) (x1 : Int32) : Option (Int32) :=
  rd 244 M_s (4 + x1) (fun v1 => some v1)
def m_X10_joins (M_ways : Int32) (M_one : Nat → Int32) (M_other : Nat → Int32) (x1 : Int32) (x2 : Int32) : Option (Int32 × (Nat → Int32) × (Nat → Int32)) :=
  wr 48 M_one M_ways x1 (fun v1 => wr 48 M_other M_ways x2 (fun v2 => lt1 (M_ways + 1) (fun v3 => some ((v3, v1, v2)))))
def m_X10_findWays_j120 (rec7 : Int32 → Int32 → (Nat → Int32) → (Nat → Int32) → Option (Int32 × (Nat → Int32) × (Nat → Int32))) (y7 : Int32) (y8 : Int32) (y9 : Nat → Int32) (y10 : Nat → Int32) : Option (Int32 × (Nat → Int32) × (Nat → Int32)) :=
  lt1 (y7 + 1) (fun v11 => rec7 v11 y8 y9 y10)
def m_X10_findWays_j106 (M_s : Nat → Int32) (rec7 : Int32 → Int32 → (Nat → Int32) → (Nat → Int32) → Option (Int32 × (Nat → Int32) × (Nat → Int32))) (y39 : Int32) (y40 : Int32) (y41 : Int32) (y42 : Nat → Int32) (y43 : Nat → Int32) : Option (Int32 × (Nat → Int32) × (Nat → Int32)) :=
  bd1 (m_X10_cells M_s) (fun v44 => if v44 ≤ y40 then (m_X10_findWays_j120 rec7 y39 y41 y42 y43) else (bd3 (m_X10_joins y41 y42 y43 y39 y40) (fun v45 v46 v47 => m_X10_findWays_j120 rec7 y39 v45 v46 v47)))
def m_X10_findWays_b78 (M_s : Nat → Int32) (rec7 : Int32 → Int32 → (Nat → Int32) → (Nat → Int32) → Option (Int32 × (Nat → Int32) × (Nat → Int32))) (y33 : Int32) (y35 : Int32) (y36 : Nat → Int32) (y37 : Nat → Int32) (rec78 : Int32 → Option (Int32 × (Nat → Int32) × (Nat → Int32))) (y34 : Int32) : Option (Int32 × (Nat → Int32) × (Nat → Int32)) :=
  bd1 (m_X10_cells M_s) (fun v38 => if v38 ≤ y34 then (m_X10_findWays_j106 M_s rec7 y33 y34 y35 y36 y37) else (bd1 (m_X10_number M_s y34) (fun v48 => if v48 = 0 then (rd 244 M_s 0 (fun v49 => lt1 (y34 + v49) (fun v50 => rec78 v50))) else (m_X10_findWays_j106 M_s rec7 y33 y34 y35 y36 y37))))
def m_X10_findWays_j69 (N : Nat) (M_s : Nat → Int32) (rec7 : Int32 → Int32 → (Nat → Int32) → (Nat → Int32) → Option (Int32 × (Nat → Int32) × (Nat → Int32))) (y27 : Int32) (y28 : Int32) (y29 : Nat → Int32) (y30 : Nat → Int32) : Option (Int32 × (Nat → Int32) × (Nat → Int32)) :=
  rd 244 M_s 0 (fun v31 => lt1 (y27 + v31) (fun v32 => zl1 (m_X10_findWays_b78 M_s rec7 y27 y28 y29 y30) N v32))
def m_X10_findWays_j52 (N : Nat) (M_s : Nat → Int32) (rec7 : Int32 → Int32 → (Nat → Int32) → (Nat → Int32) → Option (Int32 × (Nat → Int32) × (Nat → Int32))) (y20 : Int32) (y21 : Int32) (y22 : Int32) (y23 : Nat → Int32) (y24 : Nat → Int32) : Option (Int32 × (Nat → Int32) × (Nat → Int32)) :=
  rd 244 M_s 0 (fun v25 => rmd y21 v25 (fun v26 => if v26 = 0 then (m_X10_findWays_j69 N M_s rec7 y20 y22 y23 y24) else (bd3 (m_X10_joins y22 y23 y24 y20 y21) (fun v51 v52 v53 => m_X10_findWays_j69 N M_s rec7 y20 v51 v52 v53))))
def m_X10_findWays_b27 (N : Nat) (M_s : Nat → Int32) (rec7 : Int32 → Int32 → (Nat → Int32) → (Nat → Int32) → Option (Int32 × (Nat → Int32) × (Nat → Int32))) (y13 : Int32) (y15 : Int32) (y16 : Nat → Int32) (y17 : Nat → Int32) (rec27 : Int32 → Option (Int32 × (Nat → Int32) × (Nat → Int32))) (y14 : Int32) : Option (Int32 × (Nat → Int32) × (Nat → Int32)) :=
  rd 244 M_s 0 (fun v18 => rmd y14 v18 (fun v19 => if v19 = 0 then (m_X10_findWays_j52 N M_s rec7 y13 y14 y15 y16 y17) else (bd1 (m_X10_number M_s y14) (fun v54 => if v54 = 0 then (lt1 (y14 + 1) (fun v55 => rec27 v55)) else (m_X10_findWays_j52 N M_s rec7 y13 y14 y15 y16 y17)))))
def m_X10_findWays_b7 (N : Nat) (M_s : Nat → Int32) (rec7 : Int32 → Int32 → (Nat → Int32) → (Nat → Int32) → Option (Int32 × (Nat → Int32) × (Nat → Int32))) (y1 : Int32) (y2 : Int32) (y3 : Nat → Int32) (y4 : Nat → Int32) : Option (Int32 × (Nat → Int32) × (Nat → Int32)) :=
  bd1 (m_X10_cells M_s) (fun v5 => if v5 ≤ y1 then (some ((y2, y3, y4))) else (bd1 (m_X10_number M_s y1) (fun v6 => if v6 ≤ 0 then (m_X10_findWays_j120 rec7 y1 y2 y3 y4) else (lt1 (y1 + 1) (fun v12 => zl1 (m_X10_findWays_b27 N M_s rec7 y1 y2 y3 y4) N v12)))))
def m_X10_findWays (N : Nat) (M_s : Nat → Int32) (M_one : Nat → Int32) (M_other : Nat → Int32) : Option (Int32 × (Nat → Int32) × (Nat → Int32)) :=
  zl4 (m_X10_findWays_b7 N M_s) N 0 0 M_one M_other
def m_X10_undo_j56 (N : Nat) (y8 : Int32) (y10 : Nat → Int32) (y11 : Nat → Int32) (y12 : Nat → Int32) : Option (Int32 × Int32 × Int32 × (Nat → Int32) × (Nat → Int32) × (Nat → Int32)) :=
  bd3 (m_X10_findWays N y10 y11 y12) (fun v13 v14 v15 => some ((y8, y8, v13, y10, v14, v15)))
def m_X10_undo_b22 (N : Nat) (M_past : Nat → Int32) (y3 : Int32) (y6 : Nat → Int32) (y7 : Nat → Int32) (rec22 : Int32 → (Nat → Int32) → Option (Int32 × Int32 × Int32 × (Nat → Int32) × (Nat → Int32) × (Nat → Int32))) (y2 : Int32) (y5 : Nat → Int32) : Option (Int32 × Int32 × Int32 × (Nat → Int32) × (Nat → Int32) × (Nat → Int32)) :=
  if 244 ≤ y2 then (m_X10_undo_j56 N y3 y5 y6 y7) else (rd 976 M_past ((244 * y3) + y2) (fun v16 => wr 244 y5 y2 v16 (fun v17 => lt1 (y2 + 1) (fun v18 => rec22 v18 v17))))
def m_X10_undo (N : Nat) (M_pasts : Int32) (M_ways : Int32) (M_s : Nat → Int32) (M_past : Nat → Int32) (M_one : Nat → Int32) (M_other : Nat → Int32) : Option (Int32 × Int32 × Int32 × (Nat → Int32) × (Nat → Int32) × (Nat → Int32)) :=
  if M_pasts = 0 then (some (((-2), M_pasts, M_ways, M_s, M_one, M_other))) else (lt1 (M_pasts - 1) (fun v1 => zl2 (m_X10_undo_b22 N M_past v1 M_one M_other) N 0 M_s))
def m_X10_isCell (M_s : Nat → Int32) (x1 : Int32) : Option (Int32) :=
  bd1 (m_X10_cells M_s) (fun v1 => lt1 (m_X10_in x1 0 (v1 - 1)) (fun v2 => ckb v2 (some v2)))
def m_X10_islands_j26 (rec4 : Int32 → Int32 → Option (Int32)) (y5 : Int32) (y6 : Int32) (y7 : Int32) : Option (Int32) :=
  lt1 (y6 + y7) (fun v8 => lt1 (y5 + 1) (fun v9 => rec4 v8 v9))
def m_X10_islands_b4 (M_s : Nat → Int32) (rec4 : Int32 → Int32 → Option (Int32)) (y1 : Int32) (y2 : Int32) : Option (Int32) :=
  bd1 (m_X10_cells M_s) (fun v3 => if v3 ≤ y2 then (some y1) else (bd1 (m_X10_number M_s y2) (fun v4 => if v4 ≤ 0 then (m_X10_islands_j26 rec4 y2 y1 0) else (m_X10_islands_j26 rec4 y2 y1 1))))
def m_X10_islands (N : Nat) (M_s : Nat → Int32) : Option (Int32) :=
  zl2 (m_X10_islands_b4 M_s) N 0 0
def m_X10_clears_j36 (y3 : Nat → Int32) : Option ((Nat → Int32)) :=
  wr 244 y3 2 0 (fun v4 => wr 244 v4 3 0 (fun v5 => some v5))
def m_X10_clears_b2  (rec2 : Int32 → (Nat → Int32) → Option ((Nat → Int32))) (y1 : Int32) (y2 : Nat → Int32) : Option ((Nat → Int32)) :=
  if 48 ≤ y1 then (m_X10_clears_j36 y2) else (wr 244 y2 (148 + y1) 0 (fun v6 => wr 244 v6 (196 + y1) 2 (fun v7 => lt1 (y1 + 1) (fun v8 => rec2 v8 v7))))
def m_X10_clears (N : Nat) (M_s : Nat → Int32) : Option ((Nat → Int32)) :=
  zl2 (m_X10_clears_b2) N 0 M_s
def m_X10_anew (N : Nat) (M_s : Nat → Int32) (M_one : Nat → Int32) (M_other : Nat → Int32) : Option (Int32 × (Nat → Int32) × (Nat → Int32) × (Nat → Int32)) :=
  bd3 (m_X10_findWays N M_s M_one M_other) (fun v1 v2 v3 => bd1 (m_X10_clears N M_s) (fun v4 => some ((v1, v4, v2, v3))))
def m_X10_empties_b2  (rec2 : Int32 → (Nat → Int32) → Option ((Nat → Int32))) (y1 : Int32) (y2 : Nat → Int32) : Option ((Nat → Int32)) :=
  if 144 ≤ y1 then (some y2) else (wr 244 y2 (4 + y1) 0 (fun v3 => lt1 (y1 + 1) (fun v4 => rec2 v4 v3)))
def m_X10_empties (N : Nat) (M_s : Nat → Int32) : Option ((Nat → Int32)) :=
  zl2 (m_X10_empties_b2) N 0 M_s
def m_X10_begin (N : Nat) (M_pasts : Int32) (M_ways : Int32) (M_s : Nat → Int32) (M_past : Nat → Int32) (M_one : Nat → Int32) (M_other : Nat → Int32) (x1 : Int32) (x2 : Int32) : Option (Int32 × Int32 × Int32 × (Nat → Int32) × (Nat → Int32) × (Nat → Int32) × (Nat → Int32)) :=
  lt1 (m_X10_in x1 3 12) (fun v1 => if v1 = 0 then (some (((-1), M_pasts, M_ways, M_s, M_past, M_one, M_other))) else (lt1 (m_X10_in x2 3 12) (fun v2 => if v2 = 0 then (some (((-1), M_pasts, M_ways, M_s, M_past, M_one, M_other))) else (bd2 (m_X10_notes N M_pasts M_s M_past) (fun v3 v4 => bd1 (m_X10_islands N M_s) (fun v5 => wr 244 M_s 0 x1 (fun v6 => wr 244 v6 1 x2 (fun v7 => bd1 (m_X10_empties N v7) (fun v8 => bd4 (m_X10_anew N v8 M_one M_other) (fun v9 v10 v11 v12 => some ((v5, v3, v9, v10, v4, v11, v12))))))))))))
def m_X10_island_j40 (N : Nat) (x1 : Int32) (x2 : Int32) (y4 : Int32) (y6 : Nat → Int32) (y7 : Nat → Int32) (y8 : Nat → Int32) (y9 : Nat → Int32) : Option (Int32 × Int32 × Int32 × (Nat → Int32) × (Nat → Int32) × (Nat → Int32) × (Nat → Int32)) :=
  bd2 (m_X10_notes N y4 y6 y7) (fun v10 v11 => wr 244 y6 (4 + x1) x2 (fun v12 => bd4 (m_X10_anew N v12 y8 y9) (fun v13 v14 v15 v16 => some ((v13, v10, v13, v14, v11, v15, v16)))))
def m_X10_island (N : Nat) (M_pasts : Int32) (M_ways : Int32) (M_s : Nat → Int32) (M_past : Nat → Int32) (M_one : Nat → Int32) (M_other : Nat → Int32) (x1 : Int32) (x2 : Int32) : Option (Int32 × Int32 × Int32 × (Nat → Int32) × (Nat → Int32) × (Nat → Int32) × (Nat → Int32)) :=
  bd1 (m_X10_isCell M_s x1) (fun v1 => if v1 = 0 then (some (((-1), M_pasts, M_ways, M_s, M_past, M_one, M_other))) else (lt1 (m_X10_in x2 1 8) (fun v2 => if v2 = 0 then (some (((-1), M_pasts, M_ways, M_s, M_past, M_one, M_other))) else (bd1 (m_X10_number M_s x1) (fun v3 => if v3 = 0 then (bd1 (m_X10_islands N M_s) (fun v17 => if v17 = 24 then (some (((-3), M_pasts, M_ways, M_s, M_past, M_one, M_other))) else (m_X10_island_j40 N x1 x2 M_pasts M_s M_past M_one M_other))) else (m_X10_island_j40 N x1 x2 M_pasts M_s M_past M_one M_other))))))
def m_X10_removeIsland (N : Nat) (M_pasts : Int32) (M_ways : Int32) (M_s : Nat → Int32) (M_past : Nat → Int32) (M_one : Nat → Int32) (M_other : Nat → Int32) (x1 : Int32) : Option (Int32 × Int32 × Int32 × (Nat → Int32) × (Nat → Int32) × (Nat → Int32) × (Nat → Int32)) :=
  bd1 (m_X10_isCell M_s x1) (fun v1 => if v1 = 0 then (some (((-1), M_pasts, M_ways, M_s, M_past, M_one, M_other))) else (bd1 (m_X10_number M_s x1) (fun v2 => if v2 = 0 then (some (((-4), M_pasts, M_ways, M_s, M_past, M_one, M_other))) else (bd2 (m_X10_notes N M_pasts M_s M_past) (fun v3 v4 => wr 244 M_s (4 + x1) 0 (fun v5 => bd4 (m_X10_anew N v5 M_one M_other) (fun v6 v7 v8 v9 => some ((v2, v3, v6, v7, v4, v8, v9)))))))))
def m_X10_isAcross (M_s : Nat → Int32) (M_one : Nat → Int32) (M_other : Nat → Int32) (x1 : Int32) : Option (Int32) :=
  rd 48 M_one x1 (fun v1 => rd 244 M_s 0 (fun v2 => dvd v1 v2 (fun v3 => rd 48 M_other x1 (fun v4 => rd 244 M_s 0 (fun v5 => dvd v4 v5 (fun v6 => if v3 = v6 then (some 1) else (some 0)))))))
def m_X10_isBetween_j69 (M_one : Nat → Int32) (M_other : Nat → Int32) (x1 : Int32) (x2 : Int32) (y7 : Int32) : Option (Int32) :=
  if y7 = 0 then (some 0) else (rd 48 M_one x2 (fun v8 => if x1 ≤ v8 then (some 0) else (rd 48 M_other x2 (fun v9 => if v9 ≤ x1 then (some 0) else (some 1)))))
def m_X10_isBetween (M_s : Nat → Int32) (M_one : Nat → Int32) (M_other : Nat → Int32) (x1 : Int32) (x2 : Int32) : Option (Int32) :=
  bd1 (m_X10_isAcross M_s M_one M_other x2) (fun v1 => if v1 = 0 then (rd 244 M_s 0 (fun v2 => rmd x1 v2 (fun v3 => rd 48 M_one x2 (fun v4 => rd 244 M_s 0 (fun v5 => rmd v4 v5 (fun v6 => if v3 = v6 then (m_X10_isBetween_j69 M_one M_other x1 x2 1) else (m_X10_isBetween_j69 M_one M_other x1 x2 0))))))) else (rd 244 M_s 0 (fun v10 => dvd x1 v10 (fun v11 => rd 48 M_one x2 (fun v12 => rd 244 M_s 0 (fun v13 => dvd v12 v13 (fun v14 => if v11 = v14 then (m_X10_isBetween_j69 M_one M_other x1 x2 1) else (m_X10_isBetween_j69 M_one M_other x1 x2 0))))))))
def m_X10_cross_j28 (M_s : Nat → Int32) (M_one : Nat → Int32) (M_other : Nat → Int32) (x1 : Int32) (x2 : Int32) (y4 : Int32) : Option (Int32) :=
  lt1 ((x1 + x2) - y4) (fun v5 => rd 48 M_one y4 (fun v6 => rd 244 M_s 0 (fun v7 => dvd v6 v7 (fun v8 => rd 244 M_s 0 (fun v9 => rd 48 M_one v5 (fun v10 => rd 244 M_s 0 (fun v11 => rmd v10 v11 (fun v12 => lt1 ((v8 * v9) + v12) (fun v13 => bd1 (m_X10_isBetween M_s M_one M_other v13 y4) (fun v14 => if v14 = 0 then (some 0) else (bd1 (m_X10_isBetween M_s M_one M_other v13 v5) (fun v15 => if v15 = 0 then (some 0) else (some 1)))))))))))))
def m_X10_cross (M_s : Nat → Int32) (M_one : Nat → Int32) (M_other : Nat → Int32) (x1 : Int32) (x2 : Int32) : Option (Int32) :=
  bd1 (m_X10_isAcross M_s M_one M_other x1) (fun v1 => bd1 (m_X10_isAcross M_s M_one M_other x2) (fun v2 => if v1 = v2 then (some 0) else (bd1 (m_X10_isAcross M_s M_one M_other x1) (fun v3 => if v3 = 0 then (m_X10_cross_j28 M_s M_one M_other x1 x2 x2) else (m_X10_cross_j28 M_s M_one M_other x1 x2 x1)))))
def m_X10_bridges (M_s : Nat → Int32) (x1 : Int32) : Option (Int32) :=
  rd 244 M_s (148 + x1) (fun v1 => some v1)
def m_X10_capOf (M_s : Nat → Int32) (x1 : Int32) : Option (Int32) :=
  rd 244 M_s (196 + x1) (fun v1 => some v1)
def m_X10_crossings_j43 (rec5 : Int32 → Int32 → Option (Int32)) (y6 : Int32) (y7 : Int32) (y8 : Int32) : Option (Int32) :=
  lt1 (y7 + y8) (fun v9 => lt1 (y6 + 1) (fun v10 => rec5 v9 v10))
def m_X10_crossings_j42 (rec5 : Int32 → Int32 → Option (Int32)) (y4 : Int32) (y5 : Int32) : Option (Int32) :=
  m_X10_crossings_j43 rec5 y4 y5 0
def m_X10_crossings_j38 (rec5 : Int32 → Int32 → Option (Int32)) (y11 : Int32) (y12 : Int32) : Option (Int32) :=
  m_X10_crossings_j43 rec5 y11 y12 1
def m_X10_crossings_b5 (M_ways : Int32) (M_s : Nat → Int32) (M_one : Nat → Int32) (M_other : Nat → Int32) (x1 : Int32) (x2 : Int32) (rec5 : Int32 → Int32 → Option (Int32)) (y1 : Int32) (y2 : Int32) : Option (Int32) :=
  if M_ways ≤ y2 then (some y1) else (bd1 (m_X10_cross M_s M_one M_other x1 y2) (fun v3 => if v3 = 0 then (m_X10_crossings_j42 rec5 y2 y1) else (if x2 = 0 then (m_X10_crossings_j38 rec5 y2 y1) else (bd1 (m_X10_bridges M_s y2) (fun v13 => if v13 ≤ 0 then (m_X10_crossings_j42 rec5 y2 y1) else (m_X10_crossings_j38 rec5 y2 y1))))))
def m_X10_crossings (N : Nat) (M_ways : Int32) (M_s : Nat → Int32) (M_one : Nat → Int32) (M_other : Nat → Int32) (x1 : Int32) (x2 : Int32) : Option (Int32) :=
  zl2 (m_X10_crossings_b5 M_ways M_s M_one M_other x1 x2) N 0 0
def m_X10_isOf_j20  : Option (Int32) :=
  some 1
def m_X10_isOf (M_one : Nat → Int32) (M_other : Nat → Int32) (x1 : Int32) (x2 : Int32) : Option (Int32) :=
  rd 48 M_one x1 (fun v1 => if v1 = x2 then (m_X10_isOf_j20) else (rd 48 M_other x1 (fun v2 => if v2 = x2 then (m_X10_isOf_j20) else (some 0))))
def m_X10_bridgesOf_j31 (rec4 : Int32 → Int32 → Option (Int32)) (y4 : Int32) (y5 : Int32) (y6 : Int32) : Option (Int32) :=
  lt1 (y5 + y6) (fun v7 => lt1 (y4 + 1) (fun v8 => rec4 v7 v8))
def m_X10_bridgesOf_b4 (M_ways : Int32) (M_s : Nat → Int32) (M_one : Nat → Int32) (M_other : Nat → Int32) (x1 : Int32) (rec4 : Int32 → Int32 → Option (Int32)) (y1 : Int32) (y2 : Int32) : Option (Int32) :=
  if M_ways ≤ y2 then (some y1) else (bd1 (m_X10_isOf M_one M_other y2 x1) (fun v3 => if v3 = 0 then (m_X10_bridgesOf_j31 rec4 y2 y1 0) else (bd1 (m_X10_bridges M_s y2) (fun v9 => m_X10_bridgesOf_j31 rec4 y2 y1 v9))))
def m_X10_bridgesOf (N : Nat) (M_ways : Int32) (M_s : Nat → Int32) (M_one : Nat → Int32) (M_other : Nat → Int32) (x1 : Int32) : Option (Int32) :=
  zl2 (m_X10_bridgesOf_b4 M_ways M_s M_one M_other x1) N 0 0
def m_X10_capsOf_j31 (rec4 : Int32 → Int32 → Option (Int32)) (y4 : Int32) (y5 : Int32) (y6 : Int32) : Option (Int32) :=
  lt1 (y5 + y6) (fun v7 => lt1 (y4 + 1) (fun v8 => rec4 v7 v8))
def m_X10_capsOf_b4 (M_ways : Int32) (M_s : Nat → Int32) (M_one : Nat → Int32) (M_other : Nat → Int32) (x1 : Int32) (rec4 : Int32 → Int32 → Option (Int32)) (y1 : Int32) (y2 : Int32) : Option (Int32) :=
  if M_ways ≤ y2 then (some y1) else (bd1 (m_X10_isOf M_one M_other y2 x1) (fun v3 => if v3 = 0 then (m_X10_capsOf_j31 rec4 y2 y1 0) else (bd1 (m_X10_capOf M_s y2) (fun v9 => m_X10_capsOf_j31 rec4 y2 y1 v9))))
def m_X10_capsOf (N : Nat) (M_ways : Int32) (M_s : Nat → Int32) (M_one : Nat → Int32) (M_other : Nat → Int32) (x1 : Int32) : Option (Int32) :=
  zl2 (m_X10_capsOf_b4 M_ways M_s M_one M_other x1) N 0 0
def m_X10_lacks (N : Nat) (M_ways : Int32) (M_s : Nat → Int32) (M_one : Nat → Int32) (M_other : Nat → Int32) (x1 : Int32) : Option (Int32) :=
  bd1 (m_X10_number M_s x1) (fun v1 => bd1 (m_X10_bridgesOf N M_ways M_s M_one M_other x1) (fun v2 => some (v1 - v2)))
def m_X10_findGroups_j122 (rec25 : Int32 → (Nat → Int32) → Option ((Nat → Int32))) (y10 : Int32) (y11 : Nat → Int32) : Option ((Nat → Int32)) :=
  rec25 y10 y11
def m_X10_findGroups_j116 (rec33 : Int32 → Int32 → (Nat → Int32) → Option ((Nat → Int32))) (y17 : Int32) (y18 : Int32) (y19 : Nat → Int32) : Option ((Nat → Int32)) :=
  lt1 (y18 + 1) (fun v20 => rec33 y17 v20 y19)
def m_X10_findGroups_b33 (M_ways : Int32) (M_s : Nat → Int32) (M_one : Nat → Int32) (M_other : Nat → Int32) (rec25 : Int32 → (Nat → Int32) → Option ((Nat → Int32))) (rec33 : Int32 → Int32 → (Nat → Int32) → Option ((Nat → Int32))) (y7 : Int32) (y8 : Int32) (y9 : Nat → Int32) : Option ((Nat → Int32)) :=
  if M_ways ≤ y8 then (m_X10_findGroups_j122 rec25 y7 y9) else (rd 48 M_one y8 (fun v12 => rd 144 y9 v12 (fun v13 => rd 48 M_other y8 (fun v14 => rd 144 y9 v14 (fun v15 => bd1 (m_X10_bridges M_s y8) (fun v16 => if v16 ≤ 0 then (m_X10_findGroups_j116 rec33 y7 y8 y9) else (if v13 = v15 then (m_X10_findGroups_j116 rec33 y7 y8 y9) else (rd 48 M_one y8 (fun v21 => lt1 (m_X10_lesser v13 v15) (fun v22 => wr 144 y9 v21 v22 (fun v23 => rd 48 M_other y8 (fun v24 => lt1 (m_X10_lesser v13 v15) (fun v25 => wr 144 v23 v24 v25 (fun v26 => m_X10_findGroups_j116 rec33 1 y8 v26))))))))))))))
def m_X10_findGroups_b25 (N : Nat) (M_ways : Int32) (M_s : Nat → Int32) (M_one : Nat → Int32) (M_other : Nat → Int32) (rec25 : Int32 → (Nat → Int32) → Option ((Nat → Int32))) (y5 : Int32) (y6 : Nat → Int32) : Option ((Nat → Int32)) :=
  if y5 = 0 then (some y6) else (zl3 (m_X10_findGroups_b33 M_ways M_s M_one M_other rec25) N 0 0 y6)
def m_X10_findGroups_j23 (N : Nat) (M_ways : Int32) (M_s : Nat → Int32) (M_one : Nat → Int32) (M_other : Nat → Int32) (y4 : Nat → Int32) : Option ((Nat → Int32)) :=
  zl2 (m_X10_findGroups_b25 N M_ways M_s M_one M_other) N 1 y4
def m_X10_findGroups_b2 (N : Nat) (M_ways : Int32) (M_s : Nat → Int32) (M_one : Nat → Int32) (M_other : Nat → Int32) (rec2 : Int32 → (Nat → Int32) → Option ((Nat → Int32))) (y1 : Int32) (y2 : Nat → Int32) : Option ((Nat → Int32)) :=
  bd1 (m_X10_cells M_s) (fun v3 => if v3 ≤ y1 then (m_X10_findGroups_j23 N M_ways M_s M_one M_other y2) else (wr 144 y2 y1 y1 (fun v27 => lt1 (y1 + 1) (fun v28 => rec2 v28 v27))))
def m_X10_findGroups (N : Nat) (M_ways : Int32) (M_s : Nat → Int32) (M_one : Nat → Int32) (M_other : Nat → Int32) (M_group : Nat → Int32) : Option ((Nat → Int32)) :=
  zl2 (m_X10_findGroups_b2 N M_ways M_s M_one M_other) N 0 M_group
def m_X10_groupsBelow_j33 (rec4 : Int32 → Int32 → Option (Int32)) (y6 : Int32) (y7 : Int32) (y8 : Int32) : Option (Int32) :=
  lt1 (y7 + y8) (fun v9 => lt1 (y6 + 1) (fun v10 => rec4 v9 v10))
def m_X10_groupsBelow_j32 (rec4 : Int32 → Int32 → Option (Int32)) (y4 : Int32) (y5 : Int32) : Option (Int32) :=
  m_X10_groupsBelow_j33 rec4 y4 y5 0
def m_X10_groupsBelow_b4 (M_s : Nat → Int32) (M_group : Nat → Int32) (x1 : Int32) (rec4 : Int32 → Int32 → Option (Int32)) (y1 : Int32) (y2 : Int32) : Option (Int32) :=
  if x1 ≤ y2 then (some y1) else (bd1 (m_X10_number M_s y2) (fun v3 => if v3 ≤ 0 then (m_X10_groupsBelow_j32 rec4 y2 y1) else (rd 144 M_group y2 (fun v11 => if v11 = y2 then (m_X10_groupsBelow_j33 rec4 y2 y1 1) else (m_X10_groupsBelow_j32 rec4 y2 y1)))))
def m_X10_groupsBelow (N : Nat) (M_s : Nat → Int32) (M_group : Nat → Int32) (x1 : Int32) : Option (Int32) :=
  zl2 (m_X10_groupsBelow_b4 M_s M_group x1) N 0 0
def m_X10_groups (N : Nat) (M_ways : Int32) (M_s : Nat → Int32) (M_one : Nat → Int32) (M_other : Nat → Int32) (M_group : Nat → Int32) : Option (Int32 × (Nat → Int32)) :=
  bd1 (m_X10_findGroups N M_ways M_s M_one M_other M_group) (fun v1 => bd1 (m_X10_cells M_s) (fun v2 => bd1 (m_X10_groupsBelow N M_s v1 v2) (fun v3 => some ((v3, v1)))))
def m_X10_complete_j34 (rec4 : Int32 → Int32 → Option (Int32)) (y7 : Int32) (y8 : Int32) (y9 : Int32) : Option (Int32) :=
  lt1 (y8 + y9) (fun v10 => lt1 (y7 + 1) (fun v11 => rec4 v10 v11))
def m_X10_complete_j33 (rec4 : Int32 → Int32 → Option (Int32)) (y5 : Int32) (y6 : Int32) : Option (Int32) :=
  m_X10_complete_j34 rec4 y5 y6 0
def m_X10_complete_b4 (N : Nat) (M_ways : Int32) (M_s : Nat → Int32) (M_one : Nat → Int32) (M_other : Nat → Int32) (rec4 : Int32 → Int32 → Option (Int32)) (y1 : Int32) (y2 : Int32) : Option (Int32) :=
  bd1 (m_X10_cells M_s) (fun v3 => if v3 ≤ y2 then (some y1) else (bd1 (m_X10_number M_s y2) (fun v4 => if v4 ≤ 0 then (m_X10_complete_j33 rec4 y2 y1) else (bd1 (m_X10_lacks N M_ways M_s M_one M_other y2) (fun v12 => if v12 = 0 then (m_X10_complete_j34 rec4 y2 y1 1) else (m_X10_complete_j33 rec4 y2 y1))))))
def m_X10_complete (N : Nat) (M_ways : Int32) (M_s : Nat → Int32) (M_one : Nat → Int32) (M_other : Nat → Int32) : Option (Int32) :=
  zl2 (m_X10_complete_b4 N M_ways M_s M_one M_other) N 0 0
def m_X10_isSolved (N : Nat) (M_ways : Int32) (M_s : Nat → Int32) (M_one : Nat → Int32) (M_other : Nat → Int32) (M_group : Nat → Int32) : Option (Int32 × (Nat → Int32)) :=
  bd1 (m_X10_islands N M_s) (fun v1 => if v1 ≤ 0 then (some ((0, M_group))) else (bd1 (m_X10_complete N M_ways M_s M_one M_other) (fun v2 => bd1 (m_X10_islands N M_s) (fun v3 => if v2 = v3 then (bd2 (m_X10_groups N M_ways M_s M_one M_other M_group) (fun v4 v5 => if v4 = 1 then (some ((1, v5))) else (some ((0, v5))))) else (some ((0, M_group)))))))
def m_X10_isBroken_j50 (rec4 : Int32 → Int32 → Option (Int32)) (y5 : Int32) (y6 : Int32) : Option (Int32) :=
  lt1 (y5 + 1) (fun v7 => rec4 y6 v7)
def m_X10_isBroken_j45 (rec4 : Int32 → Int32 → Option (Int32)) (y4 : Int32) : Option (Int32) :=
  m_X10_isBroken_j50 rec4 y4 1
def m_X10_isBroken_j49 (rec4 : Int32 → Int32 → Option (Int32)) (y9 : Int32) : Option (Int32) :=
  m_X10_isBroken_j50 rec4 y9 0
def m_X10_isBroken_b4 (N : Nat) (M_ways : Int32) (M_s : Nat → Int32) (M_one : Nat → Int32) (M_other : Nat → Int32) (rec4 : Int32 → Int32 → Option (Int32)) (y1 : Int32) (y2 : Int32) : Option (Int32) :=
  bd1 (m_X10_cells M_s) (fun v3 => if v3 ≤ y2 then (ckb y1 (some y1)) else (if y1 = 0 then (bd1 (m_X10_number M_s y2) (fun v8 => if v8 ≤ 0 then (m_X10_isBroken_j49 rec4 y2) else (bd1 (m_X10_capsOf N M_ways M_s M_one M_other y2) (fun v10 => bd1 (m_X10_number M_s y2) (fun v11 => if v10 < v11 then (m_X10_isBroken_j45 rec4 y2) else (bd1 (m_X10_lacks N M_ways M_s M_one M_other y2) (fun v12 => if 0 ≤ v12 then (m_X10_isBroken_j49 rec4 y2) else (m_X10_isBroken_j45 rec4 y2)))))))) else (m_X10_isBroken_j45 rec4 y2)))
def m_X10_isBroken (N : Nat) (M_ways : Int32) (M_s : Nat → Int32) (M_one : Nat → Int32) (M_other : Nat → Int32) : Option (Int32) :=
  zl2 (m_X10_isBroken_b4 N M_ways M_s M_one M_other) N 0 0
def m_X10_reason_j63  : Option (Int32) :=
  some 4
def m_X10_reason (N : Nat) (M_ways : Int32) (M_s : Nat → Int32) (M_one : Nat → Int32) (M_other : Nat → Int32) (x1 : Int32) : Option (Int32) :=
  bd1 (m_X10_bridges M_s x1) (fun v1 => if v1 = 2 then (some 1) else (bd1 (m_X10_capOf M_s x1) (fun v2 => bd1 (m_X10_bridges M_s x1) (fun v3 => if v2 = v3 then (some 2) else (bd1 (m_X10_crossings N M_ways M_s M_one M_other x1 1) (fun v4 => if v4 ≤ 0 then (rd 48 M_one x1 (fun v5 => bd1 (m_X10_lacks N M_ways M_s M_one M_other v5) (fun v6 => if v6 ≤ 0 then (m_X10_reason_j63) else (rd 48 M_other x1 (fun v7 => bd1 (m_X10_lacks N M_ways M_s M_one M_other v7) (fun v8 => if 0 < v8 then (some 0) else (m_X10_reason_j63))))))) else (some 3)))))))
def m_X10_at_j95 (rec18 : Int32 → Int32 → Option (Int32)) (y16 : Int32) (y17 : Int32) : Option (Int32) :=
  lt1 (y16 + 1) (fun v18 => rec18 y17 v18)
def m_X10_at_j94 (rec18 : Int32 → Int32 → Option (Int32)) (y14 : Int32) (y15 : Int32) : Option (Int32) :=
  m_X10_at_j95 rec18 y15 y14
def m_X10_at_j74 (M_s : Nat → Int32) (rec18 : Int32 → Int32 → Option (Int32)) (y11 : Int32) (y12 : Int32) (y13 : Int32) : Option (Int32) :=
  if y13 = 0 then (m_X10_at_j94 rec18 y11 y12) else (if y11 = 0 then (bd1 (m_X10_bridges M_s y12) (fun v19 => m_X10_at_j95 rec18 y12 (20 + v19))) else (m_X10_at_j94 rec18 y11 y12))
def m_X10_at_j48 (M_s : Nat → Int32) (M_one : Nat → Int32) (M_other : Nat → Int32) (rec18 : Int32 → Int32 → Option (Int32)) (y8 : Int32) (y9 : Int32) (y10 : Int32) : Option (Int32) :=
  if y10 = 0 then (m_X10_at_j74 M_s rec18 y8 y9 y10) else (bd1 (m_X10_isAcross M_s M_one M_other y9) (fun v20 => if v20 = 0 then (m_X10_at_j74 M_s rec18 y8 y9 y10) else (bd1 (m_X10_bridges M_s y9) (fun v21 => m_X10_at_j95 rec18 y9 (10 + v21)))))
def m_X10_at_j47 (M_s : Nat → Int32) (M_one : Nat → Int32) (M_other : Nat → Int32) (rec18 : Int32 → Int32 → Option (Int32)) (y6 : Int32) (y7 : Int32) : Option (Int32) :=
  m_X10_at_j48 M_s M_one M_other rec18 y6 y7 0
def m_X10_at_b18 (M_ways : Int32) (M_s : Nat → Int32) (M_one : Nat → Int32) (M_other : Nat → Int32) (x1 : Int32) (rec18 : Int32 → Int32 → Option (Int32)) (y3 : Int32) (y4 : Int32) : Option (Int32) :=
  if M_ways ≤ y4 then (some y3) else (bd1 (m_X10_bridges M_s y4) (fun v5 => if v5 ≤ 0 then (m_X10_at_j47 M_s M_one M_other rec18 y3 y4) else (bd1 (m_X10_isBetween M_s M_one M_other x1 y4) (fun v22 => if v22 = 0 then (m_X10_at_j47 M_s M_one M_other rec18 y3 y4) else (m_X10_at_j48 M_s M_one M_other rec18 y3 y4 1)))))
def m_X10_at (N : Nat) (M_ways : Int32) (M_s : Nat → Int32) (M_one : Nat → Int32) (M_other : Nat → Int32) (x1 : Int32) : Option (Int32) :=
  bd1 (m_X10_isCell M_s x1) (fun v1 => if v1 = 0 then (some ((-1))) else (bd1 (m_X10_number M_s x1) (fun v2 => zl2 (m_X10_at_b18 M_ways M_s M_one M_other x1) N v2 0)))
def m_X10_waysOf_j27 (rec4 : Int32 → Int32 → Option (Int32)) (y4 : Int32) (y5 : Int32) (y6 : Int32) : Option (Int32) :=
  lt1 (y5 + y6) (fun v7 => lt1 (y4 + 1) (fun v8 => rec4 v7 v8))
def m_X10_waysOf_b4 (M_ways : Int32) (M_one : Nat → Int32) (M_other : Nat → Int32) (x1 : Int32) (rec4 : Int32 → Int32 → Option (Int32)) (y1 : Int32) (y2 : Int32) : Option (Int32) :=
  if M_ways ≤ y2 then (some y1) else (bd1 (m_X10_isOf M_one M_other y2 x1) (fun v3 => if v3 = 0 then (m_X10_waysOf_j27 rec4 y2 y1 0) else (m_X10_waysOf_j27 rec4 y2 y1 1)))
def m_X10_waysOf (N : Nat) (M_ways : Int32) (M_one : Nat → Int32) (M_other : Nat → Int32) (x1 : Int32) : Option (Int32) :=
  zl2 (m_X10_waysOf_b4 M_ways M_one M_other x1) N 0 0
def m_X10_islandInfo (N : Nat) (M_ways : Int32) (M_s : Nat → Int32) (M_one : Nat → Int32) (M_other : Nat → Int32) (M_group : Nat → Int32) (x1 : Int32) (x2 : Int32) : Option (Int32 × (Nat → Int32)) :=
  bd1 (m_X10_isCell M_s x1) (fun v1 => if v1 = 0 then (some (((-1), M_group))) else (lt1 (m_X10_in x2 0 5) (fun v2 => if v2 = 0 then (some (((-1), M_group))) else (bd1 (m_X10_number M_s x1) (fun v3 => if v3 = 0 then (some (((-4), M_group))) else (if x2 = 0 then (bd1 (m_X10_number M_s x1) (fun v4 => some ((v4, M_group)))) else (if x2 = 1 then (bd1 (m_X10_bridgesOf N M_ways M_s M_one M_other x1) (fun v5 => some ((v5, M_group)))) else (if x2 = 2 then (bd1 (m_X10_lacks N M_ways M_s M_one M_other x1) (fun v6 => some ((v6, M_group)))) else (if x2 = 3 then (bd1 (m_X10_waysOf N M_ways M_one M_other x1) (fun v7 => some ((v7, M_group)))) else (if x2 = 4 then (bd1 (m_X10_capsOf N M_ways M_s M_one M_other x1) (fun v8 => some ((v8, M_group)))) else (bd1 (m_X10_findGroups N M_ways M_s M_one M_other M_group) (fun v9 => rd 144 v9 x1 (fun v10 => bd1 (m_X10_groupsBelow N M_s v9 v10) (fun v11 => some ((v11, v9))))))))))))))))
def m_X10_isWay (M_ways : Int32) (x1 : Int32) : Option (Int32) :=
  lt1 (m_X10_in x1 0 (M_ways - 1)) (fun v1 => ckb v1 (some v1))
def m_X10_way_j121 (y11 : Int32) (y12 : Int32) : Option (Int32) :=
  dvd y11 y12 (fun v13 => some (v13 - 1))
def m_X10_way (N : Nat) (M_ways : Int32) (M_s : Nat → Int32) (M_one : Nat → Int32) (M_other : Nat → Int32) (x1 : Int32) (x2 : Int32) : Option (Int32) :=
  bd1 (m_X10_isWay M_ways x1) (fun v1 => if v1 = 0 then (some ((-1))) else (lt1 (m_X10_in x2 0 7) (fun v2 => if v2 = 0 then (some ((-1))) else (if x2 = 0 then (rd 48 M_one x1 (fun v3 => some v3)) else (if x2 = 1 then (rd 48 M_other x1 (fun v4 => some v4)) else (if x2 = 2 then (bd1 (m_X10_bridges M_s x1) (fun v5 => some v5)) else (if x2 = 3 then (bd1 (m_X10_capOf M_s x1) (fun v6 => some v6)) else (if x2 = 4 then (rd 48 M_other x1 (fun v7 => rd 48 M_one x1 (fun v8 => bd1 (m_X10_isAcross M_s M_one M_other x1) (fun v9 => if v9 = 0 then (rd 244 M_s 0 (fun v10 => m_X10_way_j121 (v7 - v8) v10)) else (m_X10_way_j121 (v7 - v8) 1))))) else (if x2 = 5 then (bd1 (m_X10_crossings N M_ways M_s M_one M_other x1 0) (fun v14 => some v14)) else (if x2 = 6 then (bd1 (m_X10_crossings N M_ways M_s M_one M_other x1 1) (fun v15 => some v15)) else (bd1 (m_X10_reason N M_ways M_s M_one M_other x1) (fun v16 => some v16))))))))))))
def m_X10_between_j53 (rec20 : Int32 → Option (Int32)) (y4 : Int32) : Option (Int32) :=
  lt1 (y4 + 1) (fun v5 => rec20 v5)
def m_X10_between_b20 (M_ways : Int32) (M_one : Nat → Int32) (M_other : Nat → Int32) (x1 : Int32) (x2 : Int32) (rec20 : Int32 → Option (Int32)) (y3 : Int32) : Option (Int32) :=
  if M_ways ≤ y3 then (some ((-4))) else (if x1 = x2 then (m_X10_between_j53 rec20 y3) else (bd1 (m_X10_isOf M_one M_other y3 x1) (fun v6 => if v6 = 0 then (m_X10_between_j53 rec20 y3) else (bd1 (m_X10_isOf M_one M_other y3 x2) (fun v7 => if v7 = 0 then (m_X10_between_j53 rec20 y3) else (some y3))))))
def m_X10_between (N : Nat) (M_ways : Int32) (M_s : Nat → Int32) (M_one : Nat → Int32) (M_other : Nat → Int32) (x1 : Int32) (x2 : Int32) : Option (Int32) :=
  bd1 (m_X10_isCell M_s x1) (fun v1 => if v1 = 0 then (some ((-1))) else (bd1 (m_X10_isCell M_s x2) (fun v2 => if v2 = 0 then (some ((-1))) else (zl1 (m_X10_between_b20 M_ways M_one M_other x1 x2) N 0))))
def m_X10_allBridges_b4 (M_ways : Int32) (M_s : Nat → Int32) (rec4 : Int32 → Int32 → Option (Int32)) (y1 : Int32) (y2 : Int32) : Option (Int32) :=
  if M_ways ≤ y2 then (some y1) else (bd1 (m_X10_bridges M_s y2) (fun v3 => lt1 (y1 + v3) (fun v4 => lt1 (y2 + 1) (fun v5 => rec4 v4 v5))))
def m_X10_allBridges (N : Nat) (M_ways : Int32) (M_s : Nat → Int32) : Option (Int32) :=
  zl2 (m_X10_allBridges_b4 M_ways M_s) N 0 0
def m_X10_count_b132 (M_s : Nat → Int32) (y13 : Nat → Int32) (rec132 : Int32 → Int32 → Option (Int32 × (Nat → Int32))) (y11 : Int32) (y12 : Int32) : Option (Int32 × (Nat → Int32)) :=
  bd1 (m_X10_cells M_s) (fun v14 => if v14 ≤ y12 then (some ((y11, y13))) else (bd1 (m_X10_number M_s y12) (fun v15 => lt1 (y11 + v15) (fun v16 => lt1 (y12 + 1) (fun v17 => rec132 v16 v17)))))
def m_X10_count (N : Nat) (M_pasts : Int32) (M_typed : Int32) (M_ways : Int32) (M_s : Nat → Int32) (M_one : Nat → Int32) (M_other : Nat → Int32) (M_group : Nat → Int32) (x1 : Int32) : Option (Int32 × (Nat → Int32)) :=
  if x1 = 0 then (rd 244 M_s x1 (fun v1 => some ((v1, M_group)))) else (if x1 = 1 then (rd 244 M_s x1 (fun v2 => some ((v2, M_group)))) else (if x1 = 2 then (bd1 (m_X10_islands N M_s) (fun v3 => some ((v3, M_group)))) else (if x1 = 3 then (some ((M_ways, M_group))) else (if x1 = 4 then (bd1 (m_X10_allBridges N M_ways M_s) (fun v4 => some ((v4, M_group)))) else (if x1 = 5 then (bd1 (m_X10_complete N M_ways M_s M_one M_other) (fun v5 => some ((v5, M_group)))) else (if x1 = 6 then (bd2 (m_X10_groups N M_ways M_s M_one M_other M_group) (fun v6 v7 => some ((v6, v7)))) else (if x1 = 7 then (bd2 (m_X10_isSolved N M_ways M_s M_one M_other M_group) (fun v8 v9 => if v8 = 0 then (some ((0, v9))) else (some ((1, v9))))) else (if x1 = 8 then (bd1 (m_X10_isBroken N M_ways M_s M_one M_other) (fun v10 => if v10 = 0 then (some ((0, M_group))) else (some ((1, M_group))))) else (if x1 = 9 then (zl2 (m_X10_count_b132 M_s M_group) N 0 0) else (if x1 = 10 then (rd 244 M_s 2 (fun v18 => some ((v18, M_group)))) else (if x1 = 11 then (rd 244 M_s 3 (fun v19 => some ((v19, M_group)))) else (if x1 = 12 then (some ((M_pasts, M_group))) else (if x1 = 13 then (some ((M_typed, M_group))) else (some (((-1), M_group))))))))))))))))
def m_X10_build (N : Nat) (M_pasts : Int32) (M_ways : Int32) (M_s : Nat → Int32) (M_past : Nat → Int32) (M_one : Nat → Int32) (M_other : Nat → Int32) (x1 : Int32) : Option (Int32 × Int32 × (Nat → Int32) × (Nat → Int32)) :=
  bd1 (m_X10_isWay M_ways x1) (fun v1 => if v1 = 0 then (some (((-1), M_pasts, M_s, M_past))) else (bd1 (m_X10_reason N M_ways M_s M_one M_other x1) (fun v2 => if v2 = 0 then (bd2 (m_X10_notes N M_pasts M_s M_past) (fun v3 v4 => rd 244 M_s (148 + x1) (fun v5 => wr 244 M_s (148 + x1) (v5 + 1) (fun v6 => bd1 (m_X10_bridges v6 x1) (fun v7 => some ((v7, v3, v6, v4))))))) else (some (((-2), M_pasts, M_s, M_past))))))
def m_X10_take (N : Nat) (M_pasts : Int32) (M_ways : Int32) (M_s : Nat → Int32) (M_past : Nat → Int32) (x1 : Int32) : Option (Int32 × Int32 × (Nat → Int32) × (Nat → Int32)) :=
  bd1 (m_X10_isWay M_ways x1) (fun v1 => if v1 = 0 then (some (((-1), M_pasts, M_s, M_past))) else (bd1 (m_X10_bridges M_s x1) (fun v2 => if v2 = 0 then (some (((-2), M_pasts, M_s, M_past))) else (bd2 (m_X10_notes N M_pasts M_s M_past) (fun v3 v4 => rd 244 M_s (148 + x1) (fun v5 => wr 244 M_s (148 + x1) (v5 - 1) (fun v6 => bd1 (m_X10_bridges v6 x1) (fun v7 => some ((v7, v3, v6, v4))))))))))
def m_X10_cap (N : Nat) (M_pasts : Int32) (M_ways : Int32) (M_s : Nat → Int32) (M_past : Nat → Int32) (x1 : Int32) (x2 : Int32) : Option (Int32 × Int32 × (Nat → Int32) × (Nat → Int32)) :=
  bd1 (m_X10_isWay M_ways x1) (fun v1 => if v1 = 0 then (some (((-1), M_pasts, M_s, M_past))) else (lt1 (m_X10_in x2 0 2) (fun v2 => if v2 = 0 then (some (((-1), M_pasts, M_s, M_past))) else (bd1 (m_X10_bridges M_s x1) (fun v3 => if v3 ≤ x2 then (bd2 (m_X10_notes N M_pasts M_s M_past) (fun v4 v5 => bd1 (m_X10_capOf M_s x1) (fun v6 => wr 244 M_s (196 + x1) x2 (fun v7 => some ((v6, v4, v7, v5)))))) else (some (((-2), M_pasts, M_s, M_past))))))))
def m_X10_clear (N : Nat) (M_pasts : Int32) (M_ways : Int32) (M_s : Nat → Int32) (M_past : Nat → Int32) : Option (Int32 × Int32 × (Nat → Int32) × (Nat → Int32)) :=
  bd2 (m_X10_notes N M_pasts M_s M_past) (fun v1 v2 => bd1 (m_X10_allBridges N M_ways M_s) (fun v3 => bd1 (m_X10_clears N M_s) (fun v4 => some ((v3, v1, v4, v2)))))
def m_X10_due (N : Nat) (M_ways : Int32) (M_s : Nat → Int32) (M_one : Nat → Int32) (M_other : Nat → Int32) (x1 : Int32) (x2 : Int32) : Option (Int32) :=
  bd1 (m_X10_number M_s x2) (fun v1 => bd1 (m_X10_capsOf N M_ways M_s M_one M_other x2) (fun v2 => bd1 (m_X10_capOf M_s x1) (fun v3 => some (v1 - (v2 - v3)))))
def m_X10_closes_j150 (x1 : Int32) (y14 : Int32) (y15 : Int32) (y16 : Int32) (y17 : Nat → Int32) (y18 : Nat → Int32) : Option (Int32 × (Nat → Int32) × (Nat → Int32)) :=
  wr 244 y17 (148 + x1) y14 (fun v19 => if y15 = 0 then (some ((0, v19, y18))) else (if y16 = 0 then (some ((0, v19, y18))) else (some ((1, v19, y18)))))
def m_X10_closes_j142 (rec48 : Int32 → Int32 → Int32 → Option (Int32 × (Nat → Int32) × (Nat → Int32))) (y36 : Int32) (y37 : Int32) (y38 : Int32) : Option (Int32 × (Nat → Int32) × (Nat → Int32)) :=
  lt1 (y37 + 1) (fun v39 => rec48 y36 y38 v39)
def m_X10_closes_j137 (rec48 : Int32 → Int32 → Int32 → Option (Int32 × (Nat → Int32) × (Nat → Int32))) (y34 : Int32) (y35 : Int32) : Option (Int32 × (Nat → Int32) × (Nat → Int32)) :=
  m_X10_closes_j142 rec48 y34 y35 1
def m_X10_closes_j141 (rec48 : Int32 → Int32 → Int32 → Option (Int32 × (Nat → Int32) × (Nat → Int32))) (y41 : Int32) (y42 : Int32) : Option (Int32 × (Nat → Int32) × (Nat → Int32)) :=
  m_X10_closes_j142 rec48 y41 y42 0
def m_X10_closes_j117 (y11 : Nat → Int32) (rec48 : Int32 → Int32 → Int32 → Option (Int32 × (Nat → Int32) × (Nat → Int32))) (y30 : Int32) (y31 : Int32) (y32 : Int32) (y33 : Int32) : Option (Int32 × (Nat → Int32) × (Nat → Int32)) :=
  if y30 = 0 then (bd1 (m_X10_number y11 y31) (fun v40 => if v40 ≤ 0 then (m_X10_closes_j141 rec48 y33 y31) else (if y32 = 0 then (m_X10_closes_j137 rec48 y33 y31) else (m_X10_closes_j141 rec48 y33 y31)))) else (m_X10_closes_j137 rec48 y33 y31)
def m_X10_closes_j116 (y11 : Nat → Int32) (rec48 : Int32 → Int32 → Int32 → Option (Int32 × (Nat → Int32) × (Nat → Int32))) (y27 : Int32) (y28 : Int32) (y29 : Int32) : Option (Int32 × (Nat → Int32) × (Nat → Int32)) :=
  m_X10_closes_j117 y11 rec48 y27 y28 y29 0
def m_X10_closes_j112 (y11 : Nat → Int32) (rec48 : Int32 → Int32 → Int32 → Option (Int32 × (Nat → Int32) × (Nat → Int32))) (y44 : Int32) (y45 : Int32) (y46 : Int32) : Option (Int32 × (Nat → Int32) × (Nat → Int32)) :=
  m_X10_closes_j117 y11 rec48 y44 y45 y46 1
def m_X10_closes_j83 (N : Nat) (M_ways : Int32) (M_one : Nat → Int32) (M_other : Nat → Int32) (y11 : Nat → Int32) (rec48 : Int32 → Int32 → Int32 → Option (Int32 × (Nat → Int32) × (Nat → Int32))) (y23 : Int32) (y24 : Int32) (y25 : Int32) (y26 : Int32) : Option (Int32 × (Nat → Int32) × (Nat → Int32)) :=
  if y23 = 0 then (m_X10_closes_j116 y11 rec48 y24 y25 y26) else (bd1 (m_X10_number y11 y25) (fun v43 => if v43 = 0 then (m_X10_closes_j112 y11 rec48 y24 y25 y26) else (if y26 = 0 then (m_X10_closes_j112 y11 rec48 y24 y25 y26) else (bd1 (m_X10_lacks N M_ways y11 M_one M_other y25) (fun v47 => if v47 = 0 then (m_X10_closes_j112 y11 rec48 y24 y25 y26) else (m_X10_closes_j116 y11 rec48 y24 y25 y26))))))
def m_X10_closes_b48 (N : Nat) (M_ways : Int32) (M_one : Nat → Int32) (M_other : Nat → Int32) (x1 : Int32) (y7 : Int32) (y11 : Nat → Int32) (y12 : Nat → Int32) (rec48 : Int32 → Int32 → Int32 → Option (Int32 × (Nat → Int32) × (Nat → Int32))) (y8 : Int32) (y9 : Int32) (y10 : Int32) : Option (Int32 × (Nat → Int32) × (Nat → Int32)) :=
  bd1 (m_X10_cells y11) (fun v13 => if v13 ≤ y10 then (m_X10_closes_j150 x1 y7 y8 y9 y11 y12) else (rd 144 y12 y10 (fun v20 => rd 48 M_one x1 (fun v21 => rd 144 y12 v21 (fun v22 => if v20 = v22 then (m_X10_closes_j83 N M_ways M_one M_other y11 rec48 y8 y9 y10 1) else (m_X10_closes_j83 N M_ways M_one M_other y11 rec48 y8 y9 y10 0))))))
def m_X10_closes (N : Nat) (M_ways : Int32) (M_s : Nat → Int32) (M_one : Nat → Int32) (M_other : Nat → Int32) (M_group : Nat → Int32) (x1 : Int32) : Option (Int32 × (Nat → Int32) × (Nat → Int32)) :=
  bd1 (m_X10_capOf M_s x1) (fun v1 => bd1 (m_X10_bridges M_s x1) (fun v2 => if v2 < v1 then (bd1 (m_X10_bridges M_s x1) (fun v3 => bd1 (m_X10_capOf M_s x1) (fun v4 => wr 244 M_s (148 + x1) v4 (fun v5 => bd1 (m_X10_findGroups N M_ways v5 M_one M_other M_group) (fun v6 => zl3 (m_X10_closes_b48 N M_ways M_one M_other x1 v3 v5 v6) N 1 0 0))))) else (some ((0, M_s, M_group)))))
def m_X10_applies (N : Nat) (M_ways : Int32) (M_s : Nat → Int32) (M_one : Nat → Int32) (M_other : Nat → Int32) (M_group : Nat → Int32) (x1 : Int32) (x2 : Int32) : Option (Int32 × (Nat → Int32) × (Nat → Int32)) :=
  rd 48 M_one x2 (fun v1 => bd1 (m_X10_lacks N M_ways M_s M_one M_other v1) (fun v2 => rd 48 M_other x2 (fun v3 => bd1 (m_X10_lacks N M_ways M_s M_one M_other v3) (fun v4 => lt1 (m_X10_lesser v2 v4) (fun v5 => if x1 = 1 then (bd1 (m_X10_bridges M_s x2) (fun v6 => if v6 = 0 then (bd1 (m_X10_capOf M_s x2) (fun v7 => if v7 ≤ 0 then (some ((0, M_s, M_group))) else (bd1 (m_X10_crossings N M_ways M_s M_one M_other x2 1) (fun v8 => if v8 ≤ 0 then (some ((0, M_s, M_group))) else (some ((1, M_s, M_group))))))) else (some ((0, M_s, M_group))))) else (if x1 = 2 then (bd1 (m_X10_capOf M_s x2) (fun v9 => bd1 (m_X10_bridges M_s x2) (fun v10 => if v9 ≤ (v10 + v5) then (some ((0, M_s, M_group))) else (some ((1, M_s, M_group)))))) else (if x1 = 3 then (bd1 (m_X10_bridges M_s x2) (fun v11 => rd 48 M_one x2 (fun v12 => bd1 (m_X10_due N M_ways M_s M_one M_other x2 v12) (fun v13 => rd 48 M_other x2 (fun v14 => bd1 (m_X10_due N M_ways M_s M_one M_other x2 v14) (fun v15 => lt1 (m_X10_greater v13 v15) (fun v16 => if v16 ≤ v11 then (some ((0, M_s, M_group))) else (some ((1, M_s, M_group)))))))))) else (bd3 (m_X10_closes N M_ways M_s M_one M_other M_group x2) (fun v17 v18 v19 => ckb v17 (some ((v17, v18, v19))))))))))))
def m_X10_next_j49 (rec12 : Int32 → (Nat → Int32) → (Nat → Int32) → Option (Int32 × (Nat → Int32) × (Nat → Int32))) (y9 : Int32) (y10 : Nat → Int32) (y11 : Nat → Int32) : Option (Int32 × (Nat → Int32) × (Nat → Int32)) :=
  lt1 (y9 + 1) (fun v12 => rec12 v12 y10 y11)
def m_X10_next_j36 (y17 : Int32) (y18 : Int32) (y19 : Nat → Int32) (y20 : Nat → Int32) : Option (Int32 × (Nat → Int32) × (Nat → Int32)) :=
  some (((100 * y17) + y18, y19, y20))
def m_X10_next_b19 (N : Nat) (M_ways : Int32) (M_one : Nat → Int32) (M_other : Nat → Int32) (rec12 : Int32 → (Nat → Int32) → (Nat → Int32) → Option (Int32 × (Nat → Int32) × (Nat → Int32))) (y5 : Int32) (rec19 : Int32 → (Nat → Int32) → (Nat → Int32) → Option (Int32 × (Nat → Int32) × (Nat → Int32))) (y6 : Int32) (y7 : Nat → Int32) (y8 : Nat → Int32) : Option (Int32 × (Nat → Int32) × (Nat → Int32)) :=
  if M_ways ≤ y6 then (m_X10_next_j49 rec12 y5 y7 y8) else (bd3 (m_X10_applies N M_ways y7 M_one M_other y8 y5 y6) (fun v13 v14 v15 => if v13 = 0 then (lt1 (y6 + 1) (fun v16 => rec19 v16 v14 v15)) else (m_X10_next_j36 y5 y6 v14 v15)))
def m_X10_next_b12 (N : Nat) (M_ways : Int32) (M_one : Nat → Int32) (M_other : Nat → Int32) (rec12 : Int32 → (Nat → Int32) → (Nat → Int32) → Option (Int32 × (Nat → Int32) × (Nat → Int32))) (y2 : Int32) (y3 : Nat → Int32) (y4 : Nat → Int32) : Option (Int32 × (Nat → Int32) × (Nat → Int32)) :=
  if 4 < y2 then (some (((-4), y3, y4))) else (zl3 (m_X10_next_b19 N M_ways M_one M_other rec12 y2) N 0 y3 y4)
def m_X10_next (N : Nat) (M_ways : Int32) (M_s : Nat → Int32) (M_one : Nat → Int32) (M_other : Nat → Int32) (M_group : Nat → Int32) : Option (Int32 × (Nat → Int32) × (Nat → Int32)) :=
  bd1 (m_X10_isBroken N M_ways M_s M_one M_other) (fun v1 => if v1 = 0 then (zl3 (m_X10_next_b12 N M_ways M_one M_other) N 1 M_s M_group) else (some (((-2), M_s, M_group))))
def m_X10_makes_j144 (y4 : Int32) (y5 : Nat → Int32) : Option ((Nat → Int32)) :=
  rd 244 y5 2 (fun v6 => lt1 (m_X10_greater v6 y4) (fun v7 => wr 244 y5 2 v7 (fun v8 => rd 244 v8 3 (fun v9 => wr 244 v8 3 (v9 + 1) (fun v10 => some v10)))))
def m_X10_makes (N : Nat) (M_ways : Int32) (M_s : Nat → Int32) (M_one : Nat → Int32) (M_other : Nat → Int32) (x1 : Int32) : Option ((Nat → Int32)) :=
  lt1 (x1 / 100) (fun v1 => lt1 (x1 - x1 / 100 * 100) (fun v2 => if v1 = 1 then (wr 244 M_s (196 + v2) 0 (fun v3 => m_X10_makes_j144 v1 v3)) else (if v1 = 2 then (bd1 (m_X10_bridges M_s v2) (fun v11 => rd 48 M_one v2 (fun v12 => bd1 (m_X10_lacks N M_ways M_s M_one M_other v12) (fun v13 => rd 48 M_other v2 (fun v14 => bd1 (m_X10_lacks N M_ways M_s M_one M_other v14) (fun v15 => lt1 (m_X10_lesser v13 v15) (fun v16 => wr 244 M_s (196 + v2) (v11 + v16) (fun v17 => m_X10_makes_j144 v1 v17)))))))) else (if v1 = 3 then (rd 48 M_one v2 (fun v18 => bd1 (m_X10_due N M_ways M_s M_one M_other v2 v18) (fun v19 => rd 48 M_other v2 (fun v20 => bd1 (m_X10_due N M_ways M_s M_one M_other v2 v20) (fun v21 => lt1 (m_X10_greater v19 v21) (fun v22 => wr 244 M_s (148 + v2) v22 (fun v23 => m_X10_makes_j144 v1 v23))))))) else (rd 244 M_s (196 + v2) (fun v24 => wr 244 M_s (196 + v2) (v24 - 1) (fun v25 => m_X10_makes_j144 v1 v25)))))))
def m_X10_step (N : Nat) (M_pasts : Int32) (M_ways : Int32) (M_s : Nat → Int32) (M_past : Nat → Int32) (M_one : Nat → Int32) (M_other : Nat → Int32) (M_group : Nat → Int32) : Option (Int32 × Int32 × (Nat → Int32) × (Nat → Int32) × (Nat → Int32)) :=
  bd3 (m_X10_next N M_ways M_s M_one M_other M_group) (fun v1 v2 v3 => if v1 < 0 then (some ((v1, M_pasts, v2, M_past, v3))) else (bd2 (m_X10_notes N M_pasts v2 M_past) (fun v4 v5 => bd1 (m_X10_makes N M_ways v2 M_one M_other v1) (fun v6 => some ((v1, v4, v6, v5, v3))))))
def m_X10_hint (N : Nat) (M_ways : Int32) (M_s : Nat → Int32) (M_one : Nat → Int32) (M_other : Nat → Int32) (M_group : Nat → Int32) : Option (Int32 × (Nat → Int32) × (Nat → Int32)) :=
  bd3 (m_X10_next N M_ways M_s M_one M_other M_group) (fun v1 v2 v3 => some ((v1, v2, v3)))
def m_X10_steps_b24 (N : Nat) (M_ways : Int32) (M_one : Nat → Int32) (M_other : Nat → Int32) (x1 : Int32) (y9 : Int32) (y11 : Nat → Int32) (rec24 : Int32 → Int32 → (Nat → Int32) → (Nat → Int32) → Option (Int32 × Int32 × (Nat → Int32) × (Nat → Int32) × (Nat → Int32))) (y7 : Int32) (y8 : Int32) (y10 : Nat → Int32) (y12 : Nat → Int32) : Option (Int32 × Int32 × (Nat → Int32) × (Nat → Int32) × (Nat → Int32)) :=
  if y8 < 0 then (some ((y7, y9, y10, y11, y12))) else (if x1 ≤ y7 then (some ((y7, y9, y10, y11, y12))) else (bd1 (m_X10_makes N M_ways y10 M_one M_other y8) (fun v13 => lt1 (y7 + 1) (fun v14 => bd3 (m_X10_next N M_ways v13 M_one M_other y12) (fun v15 v16 v17 => rec24 v14 v15 v16 v17)))))
def m_X10_steps (N : Nat) (M_pasts : Int32) (M_ways : Int32) (M_s : Nat → Int32) (M_past : Nat → Int32) (M_one : Nat → Int32) (M_other : Nat → Int32) (M_group : Nat → Int32) (x1 : Int32) : Option (Int32 × Int32 × (Nat → Int32) × (Nat → Int32) × (Nat → Int32)) :=
  lt1 (m_X10_in x1 1 200) (fun v1 => if v1 = 0 then (some (((-1), M_pasts, M_s, M_past, M_group))) else (bd2 (m_X10_notes N M_pasts M_s M_past) (fun v2 v3 => bd3 (m_X10_next N M_ways M_s M_one M_other M_group) (fun v4 v5 v6 => zl4 (m_X10_steps_b24 N M_ways M_one M_other x1 v2 v3) N 0 v4 v5 v6))))
def m_X10_couldBe_j69 (M_s : Nat → Int32) (x1 : Int32) (y4 : Int32) (y5 : Int32) : Option (Int32) :=
  bd1 (m_X10_number M_s x1) (fun v6 => if v6 < y4 then (some 0) else (bd1 (m_X10_number M_s x1) (fun v7 => if (y4 + y5) < v7 then (some 0) else (some 1))))
def m_X10_couldBe_j63 (rec8 : Int32 → Int32 → Int32 → Option (Int32)) (y9 : Int32) (y10 : Int32) (y11 : Int32) : Option (Int32) :=
  lt1 (y11 + 1) (fun v12 => rec8 y9 y10 v12)
def m_X10_couldBe_j60 (rec8 : Int32 → Int32 → Int32 → Option (Int32)) (y18 : Int32) (y19 : Int32) (y20 : Int32) (y21 : Int32) : Option (Int32) :=
  lt1 (y20 + y21) (fun v22 => m_X10_couldBe_j63 rec8 y18 v22 y19)
def m_X10_couldBe_j45 (x2 : Int32) (rec8 : Int32 → Int32 → Int32 → Option (Int32)) (y13 : Int32) (y14 : Int32) (y15 : Int32) (y16 : Int32) : Option (Int32) :=
  lt1 (y15 + y16) (fun v17 => if y14 ≤ x2 then (m_X10_couldBe_j60 rec8 v17 y14 y13 0) else (m_X10_couldBe_j60 rec8 v17 y14 y13 2))
def m_X10_couldBe_b8 (M_ways : Int32) (M_s : Nat → Int32) (M_one : Nat → Int32) (M_other : Nat → Int32) (M_tried : Nat → Int32) (x1 : Int32) (x2 : Int32) (rec8 : Int32 → Int32 → Int32 → Option (Int32)) (y1 : Int32) (y2 : Int32) (y3 : Int32) : Option (Int32) :=
  if M_ways ≤ y3 then (m_X10_couldBe_j69 M_s x1 y1 y2) else (bd1 (m_X10_isOf M_one M_other y3 x1) (fun v8 => if v8 = 0 then (m_X10_couldBe_j63 rec8 y1 y2 y3) else (if x2 < y3 then (m_X10_couldBe_j45 x2 rec8 y2 y3 y1 0) else (rd 14 M_tried y3 (fun v23 => m_X10_couldBe_j45 x2 rec8 y2 y3 y1 v23)))))
def m_X10_couldBe (N : Nat) (M_ways : Int32) (M_s : Nat → Int32) (M_one : Nat → Int32) (M_other : Nat → Int32) (M_tried : Nat → Int32) (x1 : Int32) (x2 : Int32) : Option (Int32) :=
  zl3 (m_X10_couldBe_b8 M_ways M_s M_one M_other M_tried x1 x2) N 0 0 0
def m_X10_could_j52 (N : Nat) (M_ways : Int32) (M_s : Nat → Int32) (M_one : Nat → Int32) (M_other : Nat → Int32) (M_tried : Nat → Int32) (x1 : Int32) (y3 : Int32) : Option (Int32) :=
  if y3 = 0 then (some 0) else (rd 48 M_one x1 (fun v4 => bd1 (m_X10_couldBe N M_ways M_s M_one M_other M_tried v4 x1) (fun v5 => if v5 = 0 then (some 0) else (rd 48 M_other x1 (fun v6 => bd1 (m_X10_couldBe N M_ways M_s M_one M_other M_tried v6 x1) (fun v7 => if v7 = 0 then (some 0) else (some 1)))))))
def m_X10_could_j45 (rec4 : Int32 → Int32 → Option (Int32)) (y9 : Int32) (y10 : Int32) : Option (Int32) :=
  lt1 (y9 + 1) (fun v11 => rec4 y10 v11)
def m_X10_could_j44 (rec4 : Int32 → Int32 → Option (Int32)) (y8 : Int32) : Option (Int32) :=
  m_X10_could_j45 rec4 y8 0
def m_X10_could_j40 (rec4 : Int32 → Int32 → Option (Int32)) (y13 : Int32) : Option (Int32) :=
  m_X10_could_j45 rec4 y13 1
def m_X10_could_b4 (N : Nat) (M_ways : Int32) (M_s : Nat → Int32) (M_one : Nat → Int32) (M_other : Nat → Int32) (M_tried : Nat → Int32) (x1 : Int32) (rec4 : Int32 → Int32 → Option (Int32)) (y1 : Int32) (y2 : Int32) : Option (Int32) :=
  if x1 ≤ y2 then (m_X10_could_j52 N M_ways M_s M_one M_other M_tried x1 y1) else (if y1 = 0 then (m_X10_could_j44 rec4 y2) else (rd 14 M_tried x1 (fun v12 => if v12 = 0 then (m_X10_could_j40 rec4 y2) else (rd 14 M_tried y2 (fun v14 => if v14 = 0 then (m_X10_could_j40 rec4 y2) else (bd1 (m_X10_cross M_s M_one M_other x1 y2) (fun v15 => if v15 = 0 then (m_X10_could_j40 rec4 y2) else (m_X10_could_j44 rec4 y2))))))))
def m_X10_could (N : Nat) (M_ways : Int32) (M_s : Nat → Int32) (M_one : Nat → Int32) (M_other : Nat → Int32) (M_tried : Nat → Int32) (x1 : Int32) : Option (Int32) :=
  zl2 (m_X10_could_b4 N M_ways M_s M_one M_other M_tried x1) N 1 0
def m_X10_isWhole_j158 (N : Nat) (M_s : Nat → Int32) (y10 : Int32) (y11 : Nat → Int32) : Option (Int32 × (Nat → Int32)) :=
  if y10 = 0 then (some ((0, y11))) else (bd1 (m_X10_cells M_s) (fun v12 => bd1 (m_X10_groupsBelow N M_s y11 v12) (fun v13 => if v13 = 1 then (some ((1, y11))) else (some ((0, y11))))))
def m_X10_isWhole_j155 (rec53 : Int32 → (Nat → Int32) → Option (Int32 × (Nat → Int32))) (y17 : Int32) (y18 : Nat → Int32) : Option (Int32 × (Nat → Int32)) :=
  rec53 y17 y18
def m_X10_isWhole_j149 (rec61 : Int32 → Int32 → (Nat → Int32) → Option (Int32 × (Nat → Int32))) (y24 : Int32) (y25 : Int32) (y26 : Nat → Int32) : Option (Int32 × (Nat → Int32)) :=
  lt1 (y25 + 1) (fun v27 => rec61 y24 v27 y26)
def m_X10_isWhole_b61 (M_ways : Int32) (M_one : Nat → Int32) (M_other : Nat → Int32) (M_tried : Nat → Int32) (rec53 : Int32 → (Nat → Int32) → Option (Int32 × (Nat → Int32))) (rec61 : Int32 → Int32 → (Nat → Int32) → Option (Int32 × (Nat → Int32))) (y14 : Int32) (y15 : Int32) (y16 : Nat → Int32) : Option (Int32 × (Nat → Int32)) :=
  if M_ways ≤ y15 then (m_X10_isWhole_j155 rec53 y14 y16) else (rd 48 M_one y15 (fun v19 => rd 144 y16 v19 (fun v20 => rd 48 M_other y15 (fun v21 => rd 144 y16 v21 (fun v22 => rd 14 M_tried y15 (fun v23 => if v23 ≤ 0 then (m_X10_isWhole_j149 rec61 y14 y15 y16) else (if v20 = v22 then (m_X10_isWhole_j149 rec61 y14 y15 y16) else (rd 48 M_one y15 (fun v28 => lt1 (m_X10_lesser v20 v22) (fun v29 => wr 144 y16 v28 v29 (fun v30 => rd 48 M_other y15 (fun v31 => lt1 (m_X10_lesser v20 v22) (fun v32 => wr 144 v30 v31 v32 (fun v33 => m_X10_isWhole_j149 rec61 1 y15 v33))))))))))))))
def m_X10_isWhole_b53 (N : Nat) (M_ways : Int32) (M_s : Nat → Int32) (M_one : Nat → Int32) (M_other : Nat → Int32) (M_tried : Nat → Int32) (y7 : Int32) (rec53 : Int32 → (Nat → Int32) → Option (Int32 × (Nat → Int32))) (y8 : Int32) (y9 : Nat → Int32) : Option (Int32 × (Nat → Int32)) :=
  if y8 = 0 then (m_X10_isWhole_j158 N M_s y7 y9) else (zl3 (m_X10_isWhole_b61 M_ways M_one M_other M_tried rec53) N 0 0 y9)
def m_X10_isWhole_j51 (N : Nat) (M_ways : Int32) (M_s : Nat → Int32) (M_one : Nat → Int32) (M_other : Nat → Int32) (M_tried : Nat → Int32) (y5 : Int32) (y6 : Nat → Int32) : Option (Int32 × (Nat → Int32)) :=
  zl2 (m_X10_isWhole_b53 N M_ways M_s M_one M_other M_tried y5) N 1 y6
def m_X10_isWhole_j37 (rec4 : Int32 → Int32 → (Nat → Int32) → Option (Int32 × (Nat → Int32))) (y36 : Int32) (y37 : Nat → Int32) (y38 : Int32) : Option (Int32 × (Nat → Int32)) :=
  wr 144 y37 y36 y36 (fun v39 => lt1 (y36 + 1) (fun v40 => rec4 y38 v40 v39))
def m_X10_isWhole_j36 (rec4 : Int32 → Int32 → (Nat → Int32) → Option (Int32 × (Nat → Int32))) (y34 : Int32) (y35 : Nat → Int32) : Option (Int32 × (Nat → Int32)) :=
  m_X10_isWhole_j37 rec4 y34 y35 0
def m_X10_isWhole_j32 (rec4 : Int32 → Int32 → (Nat → Int32) → Option (Int32 × (Nat → Int32))) (y42 : Int32) (y43 : Nat → Int32) : Option (Int32 × (Nat → Int32)) :=
  m_X10_isWhole_j37 rec4 y42 y43 1
def m_X10_isWhole_b4 (N : Nat) (M_ways : Int32) (M_s : Nat → Int32) (M_one : Nat → Int32) (M_other : Nat → Int32) (M_tried : Nat → Int32) (rec4 : Int32 → Int32 → (Nat → Int32) → Option (Int32 × (Nat → Int32))) (y1 : Int32) (y2 : Int32) (y3 : Nat → Int32) : Option (Int32 × (Nat → Int32)) :=
  bd1 (m_X10_cells M_s) (fun v4 => if v4 ≤ y2 then (m_X10_isWhole_j51 N M_ways M_s M_one M_other M_tried y1 y3) else (if y1 = 0 then (m_X10_isWhole_j36 rec4 y2 y3) else (bd1 (m_X10_number M_s y2) (fun v41 => if v41 = 0 then (m_X10_isWhole_j32 rec4 y2 y3) else (bd1 (m_X10_waysOf N M_ways M_one M_other y2) (fun v44 => if v44 ≤ 0 then (m_X10_isWhole_j36 rec4 y2 y3) else (m_X10_isWhole_j32 rec4 y2 y3)))))))
def m_X10_isWhole (N : Nat) (M_ways : Int32) (M_s : Nat → Int32) (M_one : Nat → Int32) (M_other : Nat → Int32) (M_group : Nat → Int32) (M_tried : Nat → Int32) : Option (Int32 × (Nat → Int32)) :=
  zl3 (m_X10_isWhole_b4 N M_ways M_s M_one M_other M_tried) N 1 0 M_group
def m_X10_solves_j132 (y6 : Int32) (y7 : Nat → Int32) (y8 : Nat → Int32) : Option (Int32 × (Nat → Int32) × (Nat → Int32)) :=
  some ((y6, y7, y8))
def m_X10_solves_j112 (rec22 : Int32 → Int32 → (Nat → Int32) → (Nat → Int32) → Option (Int32 × (Nat → Int32) × (Nat → Int32))) (y21 : Int32) (y22 : Nat → Int32) (y23 : Nat → Int32) (y24 : Int32) (y25 : Int32) : Option (Int32 × (Nat → Int32) × (Nat → Int32)) :=
  lt1 (y24 + y25) (fun v26 => rec22 v26 y21 y22 y23)
def m_X10_solves_j78 (N : Nat) (M_ways : Int32) (M_s : Nat → Int32) (M_one : Nat → Int32) (M_other : Nat → Int32) (rec22 : Int32 → Int32 → (Nat → Int32) → (Nat → Int32) → Option (Int32 × (Nat → Int32) × (Nat → Int32))) (y12 : Int32) (y13 : Int32) (y14 : Nat → Int32) (y15 : Nat → Int32) : Option (Int32 × (Nat → Int32) × (Nat → Int32)) :=
  bd1 (m_X10_could N M_ways M_s M_one M_other y15 y13) (fun v16 => if v16 = 0 then (rec22 y12 y13 y14 y15) else (if y13 = (M_ways - 1) then (bd2 (m_X10_isWhole N M_ways M_s M_one M_other y14 y15) (fun v19 v20 => if v19 = 0 then (m_X10_solves_j112 rec22 y13 v20 y15 y12 0) else (m_X10_solves_j112 rec22 y13 v20 y15 y12 1))) else (lt1 (y13 + 1) (fun v17 => wr 14 y15 v17 ((-1)) (fun v18 => rec22 y12 v17 y14 v18)))))
def m_X10_solves_b22 (N : Nat) (M_ways : Int32) (M_s : Nat → Int32) (M_one : Nat → Int32) (M_other : Nat → Int32) (x1 : Int32) (x2 : Int32) (x3 : Int32) (rec22 : Int32 → Int32 → (Nat → Int32) → (Nat → Int32) → Option (Int32 × (Nat → Int32) × (Nat → Int32))) (y2 : Int32) (y3 : Int32) (y4 : Nat → Int32) (y5 : Nat → Int32) : Option (Int32 × (Nat → Int32) × (Nat → Int32)) :=
  if y3 < 0 then (m_X10_solves_j132 y2 y4 y5) else (if x1 ≤ y2 then (m_X10_solves_j132 y2 y4 y5) else (rd 14 y5 y3 (fun v9 => wr 14 y5 y3 (v9 + 1) (fun v10 => rd 14 v10 y3 (fun v11 => if v11 ≤ 2 then (if y3 = x2 then (rd 14 v10 y3 (fun v27 => if v27 = x3 then (m_X10_solves_j78 N M_ways M_s M_one M_other rec22 y2 y3 y4 v10) else (rec22 y2 y3 y4 v10))) else (m_X10_solves_j78 N M_ways M_s M_one M_other rec22 y2 y3 y4 v10)) else (lt1 (y3 + (-1)) (fun v28 => rec22 y2 v28 y4 v10)))))))
def m_X10_solves (N : Nat) (M_ways : Int32) (M_s : Nat → Int32) (M_one : Nat → Int32) (M_other : Nat → Int32) (M_group : Nat → Int32) (M_tried : Nat → Int32) (x1 : Int32) (x2 : Int32) (x3 : Int32) : Option (Int32 × (Nat → Int32) × (Nat → Int32)) :=
  wr 14 M_tried 0 ((-1)) (fun v1 => if M_ways = 0 then (some ((0, M_group, v1))) else (zl4 (m_X10_solves_b22 N M_ways M_s M_one M_other x1 x2 x3) N 0 0 M_group v1))
def m_X10_solutions (N : Nat) (M_ways : Int32) (M_s : Nat → Int32) (M_one : Nat → Int32) (M_other : Nat → Int32) (M_group : Nat → Int32) (M_tried : Nat → Int32) : Option (Int32 × (Nat → Int32) × (Nat → Int32)) :=
  bd1 (m_X10_islands N M_s) (fun v1 => if v1 = 0 then (some (((-2), M_group, M_tried))) else (if M_ways ≤ 14 then (bd3 (m_X10_solves N M_ways M_s M_one M_other M_group M_tried 50 ((-1)) 0) (fun v2 v3 v4 => some ((v2, v3, v4)))) else (some (((-3), M_group, M_tried)))))
def m_X10_inAll_j86 (y7 : Int32) (y8 : Int32) (y9 : Nat → Int32) (y10 : Nat → Int32) : Option (Int32 × (Nat → Int32) × (Nat → Int32)) :=
  if y8 = 1 then (some ((y7, y9, y10))) else (some (((-4), y9, y10)))
def m_X10_inAll_j78 (rec30 : Int32 → Int32 → Int32 → (Nat → Int32) → (Nat → Int32) → Option (Int32 × (Nat → Int32) × (Nat → Int32))) (y26 : Int32) (y27 : Int32) (y28 : Nat → Int32) (y29 : Nat → Int32) (y30 : Int32) (y31 : Int32) : Option (Int32 × (Nat → Int32) × (Nat → Int32)) :=
  lt1 (y30 + y31) (fun v32 => lt1 (y27 + 1) (fun v33 => rec30 y26 v32 v33 y28 y29))
def m_X10_inAll_j66 (rec30 : Int32 → Int32 → Int32 → (Nat → Int32) → (Nat → Int32) → Option (Int32 × (Nat → Int32) × (Nat → Int32))) (y20 : Int32) (y21 : Int32) (y22 : Int32) (y23 : Nat → Int32) (y24 : Nat → Int32) (y25 : Int32) : Option (Int32 × (Nat → Int32) × (Nat → Int32)) :=
  if y22 = 0 then (m_X10_inAll_j78 rec30 y25 y21 y23 y24 y20 0) else (m_X10_inAll_j78 rec30 y25 y21 y23 y24 y20 1)
def m_X10_inAll_j53 (rec30 : Int32 → Int32 → Int32 → (Nat → Int32) → (Nat → Int32) → Option (Int32 × (Nat → Int32) × (Nat → Int32))) (y14 : Int32) (y15 : Int32) (y16 : Int32) (y17 : Nat → Int32) (y18 : Nat → Int32) (y19 : Int32) : Option (Int32 × (Nat → Int32) × (Nat → Int32)) :=
  if y19 = 0 then (m_X10_inAll_j66 rec30 y15 y16 y19 y17 y18 y14) else (m_X10_inAll_j66 rec30 y15 y16 y19 y17 y18 y16)
def m_X10_inAll_b30 (N : Nat) (M_ways : Int32) (M_s : Nat → Int32) (M_one : Nat → Int32) (M_other : Nat → Int32) (x1 : Int32) (rec30 : Int32 → Int32 → Int32 → (Nat → Int32) → (Nat → Int32) → Option (Int32 × (Nat → Int32) × (Nat → Int32))) (y2 : Int32) (y3 : Int32) (y4 : Int32) (y5 : Nat → Int32) (y6 : Nat → Int32) : Option (Int32 × (Nat → Int32) × (Nat → Int32)) :=
  if 3 ≤ y4 then (m_X10_inAll_j86 y2 y3 y5 y6) else (bd3 (m_X10_solves N M_ways M_s M_one M_other y5 y6 1 x1 y4) (fun v11 v12 v13 => if v11 = 1 then (m_X10_inAll_j53 rec30 y2 y3 y4 v12 v13 1) else (m_X10_inAll_j53 rec30 y2 y3 y4 v12 v13 0)))
def m_X10_inAll (N : Nat) (M_ways : Int32) (M_s : Nat → Int32) (M_one : Nat → Int32) (M_other : Nat → Int32) (M_group : Nat → Int32) (M_tried : Nat → Int32) (x1 : Int32) : Option (Int32 × (Nat → Int32) × (Nat → Int32)) :=
  bd1 (m_X10_isWay M_ways x1) (fun v1 => if v1 = 0 then (some (((-1), M_group, M_tried))) else (if M_ways ≤ 14 then (zl5 (m_X10_inAll_b30 N M_ways M_s M_one M_other x1) N ((-4)) 0 0 M_group M_tried) else (some (((-3), M_group, M_tried)))))
def m_X10_draw (M_z : Int32) (x1 : Int32) : Option (Int32 × Int32) :=
  lt1 (((75 * M_z) + 74) - ((75 * M_z) + 74) / 65537 * 65537) (fun v1 => rmd v1 x1 (fun v2 => some ((v2, v1))))
def m_X10_islandAt_j30 (rec4 : Int32 → Int32 → Option (Int32)) (y7 : Int32) (y8 : Int32) (y9 : Int32) : Option (Int32) :=
  lt1 (y8 - y9) (fun v10 => lt1 (y7 + 1) (fun v11 => rec4 v10 v11))
def m_X10_islandAt_j16 (M_s : Nat → Int32) (rec4 : Int32 → Int32 → Option (Int32)) (y4 : Int32) (y5 : Int32) : Option (Int32) :=
  bd1 (m_X10_number M_s y5) (fun v6 => if v6 ≤ 0 then (m_X10_islandAt_j30 rec4 y5 y4 0) else (m_X10_islandAt_j30 rec4 y5 y4 1))
def m_X10_islandAt_b4 (M_s : Nat → Int32) (rec4 : Int32 → Int32 → Option (Int32)) (y1 : Int32) (y2 : Int32) : Option (Int32) :=
  bd1 (m_X10_number M_s y2) (fun v3 => if v3 = 0 then (m_X10_islandAt_j16 M_s rec4 y1 y2) else (if y1 ≤ 0 then (some y2) else (m_X10_islandAt_j16 M_s rec4 y1 y2)))
def m_X10_islandAt (N : Nat) (M_s : Nat → Int32) (x1 : Int32) : Option (Int32) :=
  zl2 (m_X10_islandAt_b4 M_s) N x1 0
def m_X10_grows_j212 (x1 : Int32) (x3 : Int32) (x4 : Int32) (y35 : Int32) (y36 : Nat → Int32) (y37 : Nat → Int32) : Option ((Nat → Int32) × (Nat → Int32)) :=
  rd 244 y36 (4 + x1) (fun v38 => wr 244 y36 (4 + x1) (v38 + x4) (fun v39 => wr 244 v39 ((4 + x1) + (x3 * y35)) (1 + x4) (fun v40 => some ((v40, y37)))))
def m_X10_grows_b187 (x1 : Int32) (x3 : Int32) (x4 : Int32) (y31 : Int32) (y33 : Nat → Int32) (rec187 : Int32 → (Nat → Int32) → Option ((Nat → Int32) × (Nat → Int32))) (y32 : Int32) (y34 : Nat → Int32) : Option ((Nat → Int32) × (Nat → Int32)) :=
  if x3 ≤ y32 then (m_X10_grows_j212 x1 x3 x4 y31 y33 y34) else (wr 144 y34 (x1 + (y32 * y31)) 1 (fun v41 => lt1 (y32 + 1) (fun v42 => rec187 v42 v41)))
def m_X10_grows_j179 (N : Nat) (x1 : Int32) (x3 : Int32) (x4 : Int32) (y27 : Int32) (y28 : Int32) (y29 : Nat → Int32) (y30 : Nat → Int32) : Option ((Nat → Int32) × (Nat → Int32)) :=
  if y27 = 0 then (some ((y29, y30))) else (zl2 (m_X10_grows_b187 x1 x3 x4 y28 y29) N 1 y30)
def m_X10_grows_j171 (rec126 : Int32 → Int32 → Option ((Nat → Int32) × (Nat → Int32))) (y44 : Int32) (y45 : Int32) : Option ((Nat → Int32) × (Nat → Int32)) :=
  lt1 (y44 + 1) (fun v46 => rec126 y45 v46)
def m_X10_grows_j170 (rec126 : Int32 → Int32 → Option ((Nat → Int32) × (Nat → Int32))) (y43 : Int32) : Option ((Nat → Int32) × (Nat → Int32)) :=
  m_X10_grows_j171 rec126 y43 0
def m_X10_grows_b126 (N : Nat) (x1 : Int32) (x3 : Int32) (x4 : Int32) (y23 : Int32) (y25 : Nat → Int32) (y26 : Nat → Int32) (rec126 : Int32 → Int32 → Option ((Nat → Int32) × (Nat → Int32))) (y22 : Int32) (y24 : Int32) : Option ((Nat → Int32) × (Nat → Int32)) :=
  if x3 < y24 then (m_X10_grows_j179 N x1 x3 x4 y22 y23 y25 y26) else (if y22 = 0 then (m_X10_grows_j170 rec126 y24) else (bd1 (m_X10_number y25 (x1 + (y24 * y23))) (fun v47 => if v47 = 0 then (rd 144 y26 (x1 + (y24 * y23)) (fun v48 => if v48 = 0 then (m_X10_grows_j171 rec126 y24 1) else (m_X10_grows_j170 rec126 y24))) else (m_X10_grows_j170 rec126 y24))))
def m_X10_grows_j59 (N : Nat) (x1 : Int32) (x3 : Int32) (x4 : Int32) (y10 : Int32) (y11 : Int32) (y12 : Int32) (y13 : Nat → Int32) (y14 : Nat → Int32) (y15 : Int32) : Option ((Nat → Int32) × (Nat → Int32)) :=
  rd 244 y13 0 (fun v16 => lt1 (m_X10_in (y10 + (x3 * y12)) 0 (v16 - 1)) (fun v17 => if v17 = 0 then (some ((y13, y14))) else (rd 244 y13 1 (fun v18 => lt1 (m_X10_in (y11 + (x3 * y15)) 0 (v18 - 1)) (fun v19 => if v19 = 0 then (some ((y13, y14))) else (rd 244 y13 0 (fun v20 => lt1 (y12 + (v20 * y15)) (fun v21 => zl2 (m_X10_grows_b126 N x1 x3 x4 v21 y13 y14) N 1 1))))))))
def m_X10_grows_j38 (N : Nat) (x1 : Int32) (x2 : Int32) (x3 : Int32) (x4 : Int32) (y5 : Int32) (y6 : Int32) (y7 : Nat → Int32) (y8 : Nat → Int32) (y9 : Int32) : Option ((Nat → Int32) × (Nat → Int32)) :=
  if x2 = 1 then (m_X10_grows_j59 N x1 x3 x4 y5 y6 y9 y7 y8 1) else (if x2 = 3 then (m_X10_grows_j59 N x1 x3 x4 y5 y6 y9 y7 y8 ((-1))) else (m_X10_grows_j59 N x1 x3 x4 y5 y6 y9 y7 y8 0))
def m_X10_grows (N : Nat) (M_s : Nat → Int32) (M_made : Nat → Int32) (x1 : Int32) (x2 : Int32) (x3 : Int32) (x4 : Int32) : Option ((Nat → Int32) × (Nat → Int32)) :=
  rd 244 M_s 0 (fun v1 => rmd x1 v1 (fun v2 => rd 244 M_s 0 (fun v3 => dvd x1 v3 (fun v4 => if x2 = 0 then (m_X10_grows_j38 N x1 x2 x3 x4 v2 v4 M_s M_made 1) else (if x2 = 2 then (m_X10_grows_j38 N x1 x2 x3 x4 v2 v4 M_s M_made ((-1))) else (m_X10_grows_j38 N x1 x2 x3 x4 v2 v4 M_s M_made 0))))))
def m_X10_make_j201 (N : Nat) (y56 : Int32) (y57 : Int32) (y59 : Int32) (y60 : Nat → Int32) (y61 : Nat → Int32) (y62 : Nat → Int32) (y63 : Nat → Int32) (y64 : Nat → Int32) : Option (Int32 × Int32 × Int32 × Int32 × (Nat → Int32) × (Nat → Int32) × (Nat → Int32) × (Nat → Int32) × (Nat → Int32)) :=
  bd4 (m_X10_anew N y60 y62 y63) (fun v65 v66 v67 v68 => some ((y56, y57, v65, y59, v66, y61, v67, v68, y64)))
def m_X10_make_j193 (rec155 : Int32 → (Nat → Int32) → Option (Int32 × Int32 × Int32 × Int32 × (Nat → Int32) × (Nat → Int32) × (Nat → Int32) × (Nat → Int32) × (Nat → Int32))) (y75 : Int32) (y76 : Nat → Int32) (y77 : Int32) (y78 : Int32) (y79 : Int32) : Option (Int32 × Int32 × Int32 × Int32 × (Nat → Int32) × (Nat → Int32) × (Nat → Int32) × (Nat → Int32) × (Nat → Int32)) :=
  wr 244 y76 y77 (y78 - y79) (fun v80 => lt1 (y75 + 1) (fun v81 => rec155 v81 v80))
def m_X10_make_j192 (rec155 : Int32 → (Nat → Int32) → Option (Int32 × Int32 × Int32 × Int32 × (Nat → Int32) × (Nat → Int32) × (Nat → Int32) × (Nat → Int32) × (Nat → Int32))) (y71 : Int32) (y72 : Nat → Int32) (y73 : Int32) (y74 : Int32) : Option (Int32 × Int32 × Int32 × Int32 × (Nat → Int32) × (Nat → Int32) × (Nat → Int32) × (Nat → Int32) × (Nat → Int32)) :=
  m_X10_make_j193 rec155 y71 y72 y73 y74 0
def m_X10_make_b155 (N : Nat) (y45 : Int32) (y47 : Int32) (y49 : Int32) (y51 : Nat → Int32) (y52 : Nat → Int32) (y53 : Nat → Int32) (y54 : Nat → Int32) (rec155 : Int32 → (Nat → Int32) → Option (Int32 × Int32 × Int32 × Int32 × (Nat → Int32) × (Nat → Int32) × (Nat → Int32) × (Nat → Int32) × (Nat → Int32))) (y46 : Int32) (y50 : Nat → Int32) : Option (Int32 × Int32 × Int32 × Int32 × (Nat → Int32) × (Nat → Int32) × (Nat → Int32) × (Nat → Int32) × (Nat → Int32)) :=
  bd1 (m_X10_cells y50) (fun v55 => if v55 ≤ y46 then (m_X10_make_j201 N y45 y47 y49 y50 y51 y52 y53 y54) else (rd 244 y50 (4 + y46) (fun v69 => bd1 (m_X10_number y50 y46) (fun v70 => if v70 ≤ 0 then (m_X10_make_j192 rec155 y46 y50 (4 + y46) v69) else (if y45 ≤ 1 then (m_X10_make_j192 rec155 y46 y50 (4 + y46) v69) else (m_X10_make_j193 rec155 y46 y50 (4 + y46) v69 1))))))
def m_X10_make_j147 (N : Nat) (y36 : Int32) (y38 : Int32) (y39 : Nat → Int32) (y40 : Nat → Int32) (y41 : Nat → Int32) (y42 : Nat → Int32) (y43 : Nat → Int32) : Option (Int32 × Int32 × Int32 × Int32 × (Nat → Int32) × (Nat → Int32) × (Nat → Int32) × (Nat → Int32) × (Nat → Int32)) :=
  bd1 (m_X10_islands N y39) (fun v44 => zl2 (m_X10_make_b155 N v44 y36 y38 y40 y41 y42 y43) N 0 y39)
def m_X10_make_b75 (N : Nat) (x2 : Int32) (y28 : Int32) (y32 : Nat → Int32) (y33 : Nat → Int32) (y34 : Nat → Int32) (rec75 : Int32 → Int32 → (Nat → Int32) → (Nat → Int32) → Option (Int32 × Int32 × Int32 × Int32 × (Nat → Int32) × (Nat → Int32) × (Nat → Int32) × (Nat → Int32) × (Nat → Int32))) (y27 : Int32) (y30 : Int32) (y31 : Nat → Int32) (y35 : Nat → Int32) : Option (Int32 × Int32 × Int32 × Int32 × (Nat → Int32) × (Nat → Int32) × (Nat → Int32) × (Nat → Int32) × (Nat → Int32)) :=
  if 200 ≤ y27 then (m_X10_make_j147 N y28 y30 y31 y32 y33 y34 y35) else (bd1 (m_X10_islands N y31) (fun v82 => if x2 ≤ v82 then (m_X10_make_j147 N y28 y30 y31 y32 y33 y34 y35) else (bd1 (m_X10_islands N y31) (fun v83 => bd2 (m_X10_draw y30 v83) (fun v84 v85 => bd1 (m_X10_islandAt N y31 v84) (fun v86 => bd2 (m_X10_draw v85 4) (fun v87 v88 => bd2 (m_X10_draw v88 4) (fun v89 v90 => lt1 (2 + v89) (fun v91 => bd2 (m_X10_draw v90 2) (fun v92 v93 => lt1 (1 + v92) (fun v94 => bd2 (m_X10_grows N y31 y35 v86 v87 v91 v94) (fun v95 v96 => lt1 (y27 + 1) (fun v97 => rec75 v97 v93 v95 v96)))))))))))))
def m_X10_make_j52 (N : Nat) (x1 : Int32) (x2 : Int32) (y15 : Int32) (y18 : Nat → Int32) (y19 : Nat → Int32) (y20 : Nat → Int32) (y21 : Nat → Int32) (y22 : Nat → Int32) : Option (Int32 × Int32 × Int32 × Int32 × (Nat → Int32) × (Nat → Int32) × (Nat → Int32) × (Nat → Int32) × (Nat → Int32)) :=
  bd1 (m_X10_cells y18) (fun v23 => bd2 (m_X10_draw x1 v23) (fun v24 v25 => wr 244 y18 (4 + v24) 1 (fun v26 => zl4 (m_X10_make_b75 N x2 y15 y19 y20 y21) N 0 v25 v26 y22)))
def m_X10_make_b32 (N : Nat) (x1 : Int32) (x2 : Int32) (y7 : Int32) (y10 : Nat → Int32) (y11 : Nat → Int32) (y12 : Nat → Int32) (y13 : Nat → Int32) (rec32 : Int32 → (Nat → Int32) → Option (Int32 × Int32 × Int32 × Int32 × (Nat → Int32) × (Nat → Int32) × (Nat → Int32) × (Nat → Int32) × (Nat → Int32))) (y6 : Int32) (y14 : Nat → Int32) : Option (Int32 × Int32 × Int32 × Int32 × (Nat → Int32) × (Nat → Int32) × (Nat → Int32) × (Nat → Int32) × (Nat → Int32)) :=
  if 144 ≤ y6 then (m_X10_make_j52 N x1 x2 y7 y10 y11 y12 y13 y14) else (wr 144 y14 y6 0 (fun v98 => lt1 (y6 + 1) (fun v99 => rec32 v99 v98)))
def m_X10_make (N : Nat) (M_pasts : Int32) (M_ways : Int32) (M_z : Int32) (M_s : Nat → Int32) (M_past : Nat → Int32) (M_one : Nat → Int32) (M_other : Nat → Int32) (M_made : Nat → Int32) (x1 : Int32) (x2 : Int32) : Option (Int32 × Int32 × Int32 × Int32 × (Nat → Int32) × (Nat → Int32) × (Nat → Int32) × (Nat → Int32) × (Nat → Int32)) :=
  lt1 (m_X10_in x1 0 65535) (fun v1 => if v1 = 0 then (some (((-1), M_pasts, M_ways, M_z, M_s, M_past, M_one, M_other, M_made))) else (lt1 (m_X10_in x2 2 24) (fun v2 => if v2 = 0 then (some (((-1), M_pasts, M_ways, M_z, M_s, M_past, M_one, M_other, M_made))) else (bd2 (m_X10_notes N M_pasts M_s M_past) (fun v3 v4 => bd1 (m_X10_empties N M_s) (fun v5 => zl2 (m_X10_make_b32 N x1 x2 v3 v5 v4 M_one M_other) N 0 M_made))))))
def m_X10_type (M_typed : Int32) (M_text : Nat → Int32) (x1 : Int32) : Option (Int32 × Int32 × (Nat → Int32)) :=
  lt1 (m_X10_in x1 32 126) (fun v1 => if v1 = 0 then (some (((-1), M_typed, M_text))) else (if M_typed = 160 then (some (((-3), M_typed, M_text))) else (wr 160 M_text M_typed (vp_nar .byte x1.toInt8.toInt32) (fun v2 => lt1 (M_typed + 1) (fun v3 => some ((v3, v3, v2)))))))
def m_X10_clearText (M_typed : Int32) : Int32 × Int32 :=
  (M_typed, 0)
def m_X10_reads_j158 (y21 : Int32) (y22 : Int32) (y23 : Int32) (y25 : Int32) (y26 : Int32) : Int32 × Int32 × Int32 × Int32 × Int32 :=
  lt1 (y25 + y26) (fun v27 => lt1 (y23 + 1) (fun v28 => (0, y21, y22, v28, v27)))
def m_X10_reads_j142 (x1 : Int32) (y17 : Int32) (y18 : Int32) (y19 : Int32) (y20 : Int32) : Int32 × Int32 × Int32 × Int32 × Int32 :=
  if x1 = 46 then (m_X10_reads_j158 y17 y18 y19 y20 0) else (m_X10_reads_j158 y17 y18 y19 y20 1)
def m_X10_reads_j120 (x1 : Int32) (y11 : Int32) (y12 : Int32) (y13 : Int32) (y14 : Int32) (y15 : Int32) (y16 : Int32) : Int32 × Int32 × Int32 × Int32 × Int32 :=
  if y15 = y16 then ((2, y11, y12, y13, y14)) else (if x1 = 46 then (m_X10_reads_j142 x1 y11 y12 y13 y14) else (if y14 = 24 then ((4, y11, y12, y13, y14)) else (m_X10_reads_j142 x1 y11 y12 y13 y14)))
def m_X10_reads_j103 (x1 : Int32) (y6 : Int32) (y7 : Int32) (y8 : Int32) (y9 : Int32) (y10 : Int32) : Int32 × Int32 × Int32 × Int32 × Int32 :=
  if y6 = 0 then (m_X10_reads_j120 x1 y7 y8 y9 y10 y9 y8) else (m_X10_reads_j120 x1 y7 y8 y9 y10 y9 12)
def m_X10_reads_j48 (y30 : Int32) (y31 : Int32) (y32 : Int32) (y33 : Int32) : Int32 × Int32 × Int32 × Int32 × Int32 :=
  if y30 = 12 then ((3, y30, y31, y32, y33)) else (lt1 (y30 + 1) (fun v34 => (0, v34, y32, 0, y33)))
def m_X10_reads_j13 (x1 : Int32) (y1 : Int32) (y2 : Int32) (y3 : Int32) (y4 : Int32) (y5 : Int32) : Int32 × Int32 × Int32 × Int32 × Int32 :=
  if x1 = 47 then (if y5 = 0 then (if y2 ≤ y3 then (m_X10_reads_j48 y1 y2 y3 y4) else ((2, y1, y2, y3, y4))) else (if 3 ≤ y3 then (m_X10_reads_j48 y1 y2 y3 y4) else ((2, y1, y2, y3, y4)))) else (if x1 = 46 then (m_X10_reads_j103 x1 y5 y1 y2 y3 y4) else (lt1 (m_X10_in x1 49 56) (fun v29 => if v29 = 0 then ((1, y1, y2, y3, y4)) else (m_X10_reads_j103 x1 y5 y1 y2 y3 y4))))
def m_X10_reads (M_rows : Int32) (M_wide : Int32) (M_column : Int32) (M_found : Int32) (x1 : Int32) : Int32 × Int32 × Int32 × Int32 × Int32 :=
  if M_rows = 1 then (m_X10_reads_j13 x1 M_rows M_wide M_column M_found 1) else (m_X10_reads_j13 x1 M_rows M_wide M_column M_found 0)
def m_X10_wrongAt_j89 (M_typed : Int32) (y18 : Int32) (y19 : Int32) (y20 : Int32) (y21 : Int32) (y22 : Int32) : Option (Int32 × Int32 × Int32 × Int32 × Int32 × Int32) :=
  if y22 = 0 then (some (((-4), y22, y18, y19, y20, y21))) else (some ((M_typed, y22, y18, y19, y20, y21)))
def m_X10_wrongAt_j84 (M_typed : Int32) (y13 : Int32) (y14 : Int32) (y15 : Int32) (y16 : Int32) : Option (Int32 × Int32 × Int32 × Int32 × Int32 × Int32) :=
  m_X10_wrongAt_j89 M_typed y13 y14 y15 y16 5
def m_X10_wrongAt_j64 (M_typed : Int32) (y8 : Int32) (y9 : Int32) (y10 : Int32) (y11 : Int32) : Option (Int32 × Int32 × Int32 × Int32 × Int32 × Int32) :=
  if y8 < 3 then (m_X10_wrongAt_j84 M_typed y8 y9 y10 y11) else (if y9 ≤ y10 then (m_X10_wrongAt_j89 M_typed y8 y9 y10 y11 0) else (m_X10_wrongAt_j84 M_typed y8 y9 y10 y11))
def m_X10_wrongAt_b27 (M_typed : Int32) (M_text : Nat → Int32) (rec27 : Int32 → Int32 → Int32 → Int32 → Int32 → Int32 → Option (Int32 × Int32 × Int32 × Int32 × Int32 × Int32)) (y1 : Int32) (y2 : Int32) (y3 : Int32) (y4 : Int32) (y5 : Int32) (y6 : Int32) : Option (Int32 × Int32 × Int32 × Int32 × Int32 × Int32) :=
  if M_typed ≤ y1 then (m_X10_wrongAt_j64 M_typed y3 y4 y5 y6) else (rd 160 M_text y1 (fun v23 => lt5 (m_X10_reads y3 y4 y5 y6 v23) (fun v24 v25 v26 v27 v28 => if v24 = 0 then (lt1 (y1 + 1) (fun v29 => rec27 v29 v24 v25 v26 v27 v28)) else (some ((y1, v24, v25, v26, v27, v28))))))
def m_X10_wrongAt (N : Nat) (M_typed : Int32) (M_text : Nat → Int32) : Option (Int32 × Int32 × Int32 × Int32 × Int32 × Int32) :=
  zl6 (m_X10_wrongAt_b27 M_typed M_text) N 0 0 1 0 0 0
def m_X10_fault_j24 (y8 : Int32) (y9 : Int32) (y10 : Int32) (y11 : Int32) (y12 : Int32) (y13 : Int32) : Option (Int32 × Int32 × Int32 × Int32 × Int32 × Int32) :=
  some ((y8, y9, y10, y11, y12, y13))
def m_X10_fault (N : Nat) (M_typed : Int32) (M_why : Int32) (M_rows : Int32) (M_wide : Int32) (M_column : Int32) (M_found : Int32) (M_text : Nat → Int32) (x1 : Int32) : Option (Int32 × Int32 × Int32 × Int32 × Int32 × Int32) :=
  lt1 (m_X10_in x1 0 1) (fun v1 => if v1 = 0 then (some (((-1), M_why, M_rows, M_wide, M_column, M_found))) else (bd6 (m_X10_wrongAt N M_typed M_text) (fun v2 v3 v4 v5 v6 v7 => if v2 < 0 then (m_X10_fault_j24 v2 v3 v4 v5 v6 v7) else (if x1 = 0 then (m_X10_fault_j24 v2 v3 v4 v5 v6 v7) else (some ((v3, v3, v4, v5, v6, v7)))))))
def m_X10_load_j102 (N : Nat) (y25 : Int32) (y27 : Int32) (y28 : Int32) (y29 : Int32) (y30 : Int32) (y31 : Int32) (y32 : Nat → Int32) (y33 : Nat → Int32) (y34 : Nat → Int32) (y35 : Nat → Int32) : Option (Int32 × Int32 × Int32 × Int32 × Int32 × Int32 × Int32 × Int32 × (Nat → Int32) × (Nat → Int32) × (Nat → Int32) × (Nat → Int32)) :=
  bd4 (m_X10_anew N y32 y34 y35) (fun v36 v37 v38 v39 => bd1 (m_X10_islands N v37) (fun v40 => some ((v40, y25, v36, y27, y28, y29, y30, y31, v37, y33, v38, v39))))
def m_X10_load_j96 (rec42 : Int32 → Int32 → (Nat → Int32) → Option (Int32 × Int32 × Int32 × Int32 × Int32 × Int32 × Int32 × Int32 × (Nat → Int32) × (Nat → Int32) × (Nat → Int32) × (Nat → Int32))) (y42 : Int32) (y43 : Int32) (y44 : Nat → Int32) : Option (Int32 × Int32 × Int32 × Int32 × Int32 × Int32 × Int32 × Int32 × (Nat → Int32) × (Nat → Int32) × (Nat → Int32) × (Nat → Int32)) :=
  lt1 (y43 + 1) (fun v45 => rec42 y42 v45 y44)
def m_X10_load_j92 (rec42 : Int32 → Int32 → (Nat → Int32) → Option (Int32 × Int32 × Int32 × Int32 × Int32 × Int32 × Int32 × Int32 × (Nat → Int32) × (Nat → Int32) × (Nat → Int32) × (Nat → Int32))) (y48 : Int32) (y49 : Int32) (y50 : Nat → Int32) (y51 : Int32) (y52 : Int32) : Option (Int32 × Int32 × Int32 × Int32 × Int32 × Int32 × Int32 × Int32 × (Nat → Int32) × (Nat → Int32) × (Nat → Int32) × (Nat → Int32)) :=
  wr 244 y50 y51 y52 (fun v53 => lt1 (y48 + 1) (fun v54 => m_X10_load_j96 rec42 v54 y49 v53))
def m_X10_load_b42 (N : Nat) (M_typed : Int32) (M_text : Nat → Int32) (y14 : Int32) (y16 : Int32) (y17 : Int32) (y18 : Int32) (y19 : Int32) (y20 : Int32) (y22 : Nat → Int32) (y23 : Nat → Int32) (y24 : Nat → Int32) (rec42 : Int32 → Int32 → (Nat → Int32) → Option (Int32 × Int32 × Int32 × Int32 × Int32 × Int32 × Int32 × Int32 × (Nat → Int32) × (Nat → Int32) × (Nat → Int32) × (Nat → Int32))) (y12 : Int32) (y13 : Int32) (y21 : Nat → Int32) : Option (Int32 × Int32 × Int32 × Int32 × Int32 × Int32 × Int32 × Int32 × (Nat → Int32) × (Nat → Int32) × (Nat → Int32) × (Nat → Int32)) :=
  if M_typed ≤ y13 then (m_X10_load_j102 N y14 y16 y17 y18 y19 y20 y21 y22 y23 y24) else (rd 160 M_text y13 (fun v41 => if v41 = 47 then (m_X10_load_j96 rec42 y12 y13 y21) else (rd 160 M_text y13 (fun v46 => if v46 = 46 then (m_X10_load_j92 rec42 y12 y13 y21 (4 + y12) 0) else (rd 160 M_text y13 (fun v47 => m_X10_load_j92 rec42 y12 y13 y21 (4 + y12) (v47 - 48)))))))
def m_X10_load (N : Nat) (M_pasts : Int32) (M_typed : Int32) (M_ways : Int32) (M_s : Nat → Int32) (M_past : Nat → Int32) (M_text : Nat → Int32) (M_one : Nat → Int32) (M_other : Nat → Int32) : Option (Int32 × Int32 × Int32 × Int32 × Int32 × Int32 × Int32 × Int32 × (Nat → Int32) × (Nat → Int32) × (Nat → Int32) × (Nat → Int32)) :=
  bd6 (m_X10_wrongAt N M_typed M_text) (fun v1 v2 v3 v4 v5 v6 => if v1 < 0 then (bd2 (m_X10_notes N M_pasts M_s M_past) (fun v7 v8 => wr 244 M_s 0 v4 (fun v9 => wr 244 v9 1 v3 (fun v10 => bd1 (m_X10_empties N v10) (fun v11 => zl3 (m_X10_load_b42 N M_typed M_text v7 v2 v3 v4 v5 v6 v8 M_one M_other) N 0 0 v11))))) else (some (((-2), M_pasts, M_ways, v2, v3, v4, v5, v6, M_s, M_past, M_one, M_other))))