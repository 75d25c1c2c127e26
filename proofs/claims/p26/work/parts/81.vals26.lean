/-! the class's answers, each by its value -/
section
variable {W H N : Nat} {num br cp cO iA fi se fC sC st wO s one other un ub uc ul ld : Nat → Int32} {cols rows grade steps Yi Yw Mw hz tl : Int32} {cr : Nat → Int64} {rb : Int64}
theorem cnt0 (h : Cur W H num br cp cols rows grade steps Yi Yw Mw cO iA fi se fC sC st wO s one other cr) (hN : 100000 < N) : Ev (m_X9_count N cols rows grade steps num br cp Yi Yw cO fi se un ub uc ul ld hz tl 0) (fun t => t.1 = nI W) := by
  obtain ⟨⟨rfl, rfl⟩, hB, hL, hs, hm, hb, hbo, hx, hg, hst⟩ := h
  have hM := hB.M
  have hl := hB.wls
  have hsm := hl.2.2.1
  have h4 := hL.2.2.2.1
  have hn := hsm.1
  unfold m_X9_count
  simp (decide := true) only [↓reduceIte]
  exact Ev.some rfl
theorem cnt1 (h : Cur W H num br cp cols rows grade steps Yi Yw Mw cO iA fi se fC sC st wO s one other cr) (hN : 100000 < N) : Ev (m_X9_count N cols rows grade steps num br cp Yi Yw cO fi se un ub uc ul ld hz tl 1) (fun t => t.1 = nI H) := by
  obtain ⟨⟨rfl, rfl⟩, hB, hL, hs, hm, hb, hbo, hx, hg, hst⟩ := h
  have hM := hB.M
  have hl := hB.wls
  have hsm := hl.2.2.1
  have h4 := hL.2.2.2.1
  have hn := hsm.1
  unfold m_X9_count
  simp (decide := true) only [↓reduceIte]
  exact Ev.some rfl
theorem cnt2 (h : Cur W H num br cp cols rows grade steps Yi Yw Mw cO iA fi se fC sC st wO s one other cr) (hN : 100000 < N) : Ev (m_X9_count N cols rows grade steps num br cp Yi Yw cO fi se un ub uc ul ld hz tl 2) (fun t => t.1 = nI (rk num (W * H))) := by
  obtain ⟨⟨rfl, rfl⟩, hB, hL, hs, hm, hb, hbo, hx, hg, hst⟩ := h
  have hM := hB.M
  have hl := hB.wls
  have hsm := hl.2.2.1
  have h4 := hL.2.2.2.1
  have hn := hsm.1
  unfold m_X9_count
  simp (decide := true) only [↓reduceIte]
  exact Ev.some hL.1
theorem cnt3 (h : Cur W H num br cp cols rows grade steps Yi Yw Mw cO iA fi se fC sC st wO s one other cr) (hN : 100000 < N) : Ev (m_X9_count N cols rows grade steps num br cp Yi Yw cO fi se un ub uc ul ld hz tl 3) (fun t => t.1 = nI (WL W H num).length) := by
  obtain ⟨⟨rfl, rfl⟩, hB, hL, hs, hm, hb, hbo, hx, hg, hst⟩ := h
  have hM := hB.M
  have hl := hB.wls
  have hsm := hl.2.2.1
  have h4 := hL.2.2.2.1
  have hn := hsm.1
  unfold m_X9_count
  simp (decide := true) only [↓reduceIte]
  exact Ev.some h4.1
theorem cnt4 (h : Cur W H num br cp cols rows grade steps Yi Yw Mw cO iA fi se fC sC st wO s one other cr) (hN : 100000 < N) : Ev (m_X9_count N cols rows grade steps num br cp Yi Yw cO fi se un ub uc ul ld hz tl 4) (fun t => t.1 = iS br (WL W H num).length) := by
  obtain ⟨⟨rfl, rfl⟩, hB, hL, hs, hm, hb, hbo, hx, hg, hst⟩ := h
  have hM := hB.M
  have hl := hB.wls
  have hsm := hl.2.2.1
  have h4 := hL.2.2.2.1
  have hn := hsm.1
  unfold m_X9_count
  simp (decide := true) only [↓reduceIte]
  rw [h4.1, allBridges_c hn (by omega), bd1_some]
  exact Ev.some rfl
theorem cnt5 (h : Cur W H num br cp cols rows grade steps Yi Yw Mw cO iA fi se fC sC st wO s one other cr) (hN : 100000 < N) : Ev (m_X9_count N cols rows grade steps num br cp Yi Yw cO fi se un ub uc ul ld hz tl 5) (fun t => t.1 = cmp (W * H) num (WL W H num) br) := by
  obtain ⟨⟨rfl, rfl⟩, hB, hL, hs, hm, hb, hbo, hx, hg, hst⟩ := h
  have hM := hB.M
  have hl := hB.wls
  have hsm := hl.2.2.1
  have h4 := hL.2.2.2.1
  have hn := hsm.1
  unfold m_X9_count
  simp (decide := true) only [↓reduceIte]
  exact evc5 (complete_c hB hL (by omega)) (fun v0 v1 v2 v3 v4 q => Ev.some q)
theorem cnt6 (h : Cur W H num br cp cols rows grade steps Yi Yw Mw cO iA fi se fC sC st wO s one other cr) (hN : 100000 < N) : Ev (m_X9_count N cols rows grade steps num br cp Yi Yw cO fi se un ub uc ul ld hz tl 6) (fun t => grp W H num br t.1) := by
  obtain ⟨⟨rfl, rfl⟩, hB, hL, hs, hm, hb, hbo, hx, hg, hst⟩ := h
  have hM := hB.M
  have hl := hB.wls
  have hsm := hl.2.2.1
  have h4 := hL.2.2.2.1
  have hn := hsm.1
  unfold m_X9_count
  simp (decide := true) only [↓reduceIte]
  exact Ev.bd2 (groups_c hB hL.1 h4 (by omega)) (fun t q => Ev.some q)
theorem cnt7 (h : Cur W H num br cp cols rows grade steps Yi Yw Mw cO iA fi se fC sC st wO s one other cr) (hN : 100000 < N) : Ev (m_X9_count N cols rows grade steps num br cp Yi Yw cO fi se un ub uc ul ld hz tl 7) (fun t => (t.1 = 1 ∧ slv W H num br) ∨ (t.1 = 0 ∧ ¬ slv W H num br)) := by
  obtain ⟨⟨rfl, rfl⟩, hB, hL, hs, hm, hb, hbo, hx, hg, hst⟩ := h
  have hM := hB.M
  have hl := hB.wls
  have hsm := hl.2.2.1
  have h4 := hL.2.2.2.1
  have hn := hsm.1
  unfold m_X9_count
  simp (decide := true) only [↓reduceIte]
  refine evc6 (solved_c hB hL (by omega)) (fun v0 v1 v2 v3 v4 v5 q => ?_)
  rcases q with ⟨q1, q⟩ | ⟨q1, q⟩
  · replace q1 : v0 = 1 := q1
    rw [if_neg (by rw [q1]; decide)]
    exact Ev.some (Or.inl ⟨rfl, q⟩)
  · replace q1 : v0 = 0 := q1
    rw [if_pos q1]
    exact Ev.some (Or.inr ⟨rfl, q⟩)
theorem cnt8 (h : Cur W H num br cp cols rows grade steps Yi Yw Mw cO iA fi se fC sC st wO s one other cr) (hN : 100000 < N) : Ev (m_X9_count N cols rows grade steps num br cp Yi Yw cO fi se un ub uc ul ld hz tl 8) (fun t => (t.1 = 1 ∧ brk W H num (WL W H num) br cp) ∨ (t.1 = 0 ∧ ¬ brk W H num (WL W H num) br cp)) := by
  obtain ⟨⟨rfl, rfl⟩, hB, hL, hs, hm, hb, hbo, hx, hg, hst⟩ := h
  have hM := hB.M
  have hl := hB.wls
  have hsm := hl.2.2.1
  have h4 := hL.2.2.2.1
  have hn := hsm.1
  unfold m_X9_count
  simp (decide := true) only [↓reduceIte]
  refine evc5 (broken_c hB hL (by omega)) (fun v0 v1 v2 v3 v4 q => ?_)
  rcases q.1 with ⟨q1, q⟩ | ⟨q1, q⟩
  · replace q1 : v0 = 1 := q1
    rw [if_neg (by rw [q1]; decide)]
    exact Ev.some (Or.inl ⟨rfl, q⟩)
  · replace q1 : v0 = 0 := q1
    rw [if_pos q1]
    exact Ev.some (Or.inr ⟨rfl, q⟩)
theorem cnt9 (h : Cur W H num br cp cols rows grade steps Yi Yw Mw cO iA fi se fC sC st wO s one other cr) (hN : 100000 < N) : Ev (m_X9_count N cols rows grade steps num br cp Yi Yw cO fi se un ub uc ul ld hz tl 9) (fun t => t.1 = iS num (W * H)) := by
  obtain ⟨⟨rfl, rfl⟩, hB, hL, hs, hm, hb, hbo, hx, hg, hst⟩ := h
  have hM := hB.M
  have hl := hB.wls
  have hsm := hl.2.2.1
  have h4 := hL.2.2.2.1
  have hn := hsm.1
  unfold m_X9_count
  simp (decide := true) only [↓reduceIte]
  have e1 : m_X9_allNumbers N num = some (iS num 144) := by
    unfold m_X9_allNumbers
    refine zl2g1 (fun o => o = some (iS num 144)) 144 (fun i v => v = iS num i) ?_ ?_ N 0 _ (by omega) (by omega) rfl
    · intro rec i v hi hv
      refine Or.inr ⟨_, ?_, rfl⟩
      unfold m_X9_allNumbers_b4
      rw [if_neg (kk144_ge hi), vAt_nI hi (by omega), hv]
      simp only [lt1, nI_s]
      rfl
    · intro rec v hv
      unfold m_X9_allNumbers_b4
      rw [if_pos (kk144_le (Nat.le_refl _) (by omega)), hv]
  have e3 := iS_z (f := num) (a := W * H) (k := 144 - W * H) (fun c h1 h2 => hB.2.2.2.1 c h1 (by omega))
  rw [show W * H + (144 - W * H) = 144 by omega] at e3
  rw [e1, bd1_some, e3]
  exact Ev.some rfl
theorem cnt10 (h : Cur W H num br cp cols rows grade steps Yi Yw Mw cO iA fi se fC sC st wO s one other cr) (hN : 100000 < N) : Ev (m_X9_count N cols rows grade steps num br cp Yi Yw cO fi se un ub uc ul ld hz tl 10) (fun t => t.1 = grade) := by
  obtain ⟨⟨rfl, rfl⟩, hB, hL, hs, hm, hb, hbo, hx, hg, hst⟩ := h
  have hM := hB.M
  have hl := hB.wls
  have hsm := hl.2.2.1
  have h4 := hL.2.2.2.1
  have hn := hsm.1
  unfold m_X9_count
  simp (decide := true) only [↓reduceIte]
  exact Ev.some rfl
theorem cnt11 (h : Cur W H num br cp cols rows grade steps Yi Yw Mw cO iA fi se fC sC st wO s one other cr) (hN : 100000 < N) : Ev (m_X9_count N cols rows grade steps num br cp Yi Yw cO fi se un ub uc ul ld hz tl 11) (fun t => t.1 = steps) := by
  obtain ⟨⟨rfl, rfl⟩, hB, hL, hs, hm, hb, hbo, hx, hg, hst⟩ := h
  have hM := hB.M
  have hl := hB.wls
  have hsm := hl.2.2.1
  have h4 := hL.2.2.2.1
  have hn := hsm.1
  unfold m_X9_count
  simp (decide := true) only [↓reduceIte]
  exact Ev.some rfl
theorem cnt12 (h : Cur W H num br cp cols rows grade steps Yi Yw Mw cO iA fi se fC sC st wO s one other cr) (hN : 100000 < N) : Ev (m_X9_count N cols rows grade steps num br cp Yi Yw cO fi se un ub uc ul ld hz tl 12) (fun t => t.1 = hz) := by
  obtain ⟨⟨rfl, rfl⟩, hB, hL, hs, hm, hb, hbo, hx, hg, hst⟩ := h
  have hM := hB.M
  have hl := hB.wls
  have hsm := hl.2.2.1
  have h4 := hL.2.2.2.1
  have hn := hsm.1
  unfold m_X9_count
  simp (decide := true) only [↓reduceIte]
  exact Ev.some rfl
theorem way0 (h : Cur W H num br cp cols rows grade steps Yi Yw Mw cO iA fi se fC sC st wO s one other cr) {k : Nat} (hk : k < (WL W H num).length) (hN : 100000 < N) : Ev (m_X9_way N num br cp Yi Yw cO fi se fC sC st cr un ub uc ul (nI k) 0) (fun t => t.1 = nI (gw (WL W H num) k).1) := by
  obtain ⟨⟨rfl, rfl⟩, hB, hL, hs, hm, hb, hbo, hx, hg, hst⟩ := h
  have hM := hB.M
  have hl := hB.wls
  have hsm := hl.2.2.1
  have h4 := hL.2.2.2.1
  have hn := hsm.1
  unfold m_X9_way
  rw [h4.1, isWay_c (by omega) hk]
  simp (decide := true) only [lt1, ↓reduceIte]
  rw [firstCell_nI h4 hsm hk]
  exact Ev.some rfl
theorem way1 (h : Cur W H num br cp cols rows grade steps Yi Yw Mw cO iA fi se fC sC st wO s one other cr) {k : Nat} (hk : k < (WL W H num).length) (hN : 100000 < N) : Ev (m_X9_way N num br cp Yi Yw cO fi se fC sC st cr un ub uc ul (nI k) 1) (fun t => t.1 = nI (gw (WL W H num) k).2.1) := by
  obtain ⟨⟨rfl, rfl⟩, hB, hL, hs, hm, hb, hbo, hx, hg, hst⟩ := h
  have hM := hB.M
  have hl := hB.wls
  have hsm := hl.2.2.1
  have h4 := hL.2.2.2.1
  have hn := hsm.1
  unfold m_X9_way
  rw [h4.1, isWay_c (by omega) hk]
  simp (decide := true) only [lt1, ↓reduceIte]
  rw [secondCell_nI h4 hsm hk]
  exact Ev.some rfl
theorem way2 (h : Cur W H num br cp cols rows grade steps Yi Yw Mw cO iA fi se fC sC st wO s one other cr) {k : Nat} (hk : k < (WL W H num).length) (hN : 100000 < N) : Ev (m_X9_way N num br cp Yi Yw cO fi se fC sC st cr un ub uc ul (nI k) 2) (fun t => t.1 = br k) := by
  obtain ⟨⟨rfl, rfl⟩, hB, hL, hs, hm, hb, hbo, hx, hg, hst⟩ := h
  have hM := hB.M
  have hl := hB.wls
  have hsm := hl.2.2.1
  have h4 := hL.2.2.2.1
  have hn := hsm.1
  unfold m_X9_way
  rw [h4.1, isWay_c (by omega) hk]
  simp (decide := true) only [lt1, ↓reduceIte]
  rw [vAt_nI (by omega) (by omega)]
  exact Ev.some rfl
theorem way3 (h : Cur W H num br cp cols rows grade steps Yi Yw Mw cO iA fi se fC sC st wO s one other cr) {k : Nat} (hk : k < (WL W H num).length) (hN : 100000 < N) : Ev (m_X9_way N num br cp Yi Yw cO fi se fC sC st cr un ub uc ul (nI k) 3) (fun t => t.1 = cp k) := by
  obtain ⟨⟨rfl, rfl⟩, hB, hL, hs, hm, hb, hbo, hx, hg, hst⟩ := h
  have hM := hB.M
  have hl := hB.wls
  have hsm := hl.2.2.1
  have h4 := hL.2.2.2.1
  have hn := hsm.1
  unfold m_X9_way
  rw [h4.1, isWay_c (by omega) hk]
  simp (decide := true) only [lt1, ↓reduceIte]
  rw [vAt_nI (by omega) (by omega)]
  exact Ev.some rfl
theorem way5 (h : Cur W H num br cp cols rows grade steps Yi Yw Mw cO iA fi se fC sC st wO s one other cr) {k : Nat} (hk : k < (WL W H num).length) (hN : 100000 < N) : Ev (m_X9_way N num br cp Yi Yw cO fi se fC sC st cr un ub uc ul (nI k) 5) (fun t => t.1 = nI (nS (fun j => if crs W (gw (WL W H num) k) (gw (WL W H num) j) = true then 1 else 0) (WL W H num).length)) := by
  obtain ⟨⟨rfl, rfl⟩, hB, hL, hs, hm, hb, hbo, hx, hg, hst⟩ := h
  have hM := hB.M
  have hl := hB.wls
  have hsm := hl.2.2.1
  have h4 := hL.2.2.2.1
  have hn := hsm.1
  unfold m_X9_way
  rw [h4.1, isWay_c (by omega) hk]
  simp (decide := true) only [lt1, ↓reduceIte]
  rw [crossingsOf_nI (by omega), bd1_some, hL.2.2.2.2.2 k hk, pc_msk _ hn]
  refine Ev.some ?_
  exact iS_nS fun j hj => by
    by_cases c : crs W (gw (WL W H num) k) (gw (WL W H num) j) = true
    · rw [if_pos c, if_pos c]; rfl
    · rw [if_neg c, if_neg c]; rfl
theorem way6 (h : Cur W H num br cp cols rows grade steps Yi Yw Mw cO iA fi se fC sC st wO s one other cr) {k : Nat} (hk : k < (WL W H num).length) (hN : 100000 < N) : Ev (m_X9_way N num br cp Yi Yw cO fi se fC sC st cr un ub uc ul (nI k) 6) (fun t => t.1 = nI (nS (fun j => if crs W (gw (WL W H num) k) (gw (WL W H num) j) = true ∧ 0 < br j then 1 else 0) (WL W H num).length)) := by
  obtain ⟨⟨rfl, rfl⟩, hB, hL, hs, hm, hb, hbo, hx, hg, hst⟩ := h
  have hM := hB.M
  have hl := hB.wls
  have hsm := hl.2.2.1
  have h4 := hL.2.2.2.1
  have hn := hsm.1
  unfold m_X9_way
  rw [h4.1, isWay_c (by omega) hk]
  simp (decide := true) only [lt1, ↓reduceIte]
  rw [crossingsOf_nI (by omega), bd1_some, hL.2.2.2.2.2 k hk, waysWith_nI hn (by omega), bd1_some, lN_and, msk_and, pc_msk _ hn]
  refine Ev.some ?_
  exact iS_nS fun j hj => by
    have z : (crs W (gw (WL W H num) k) (gw (WL W H num) j) && bm br j) = true ↔ crs W (gw (WL W H num) k) (gw (WL W H num) j) = true ∧ 0 < br j := by
      rw [Bool.and_eq_true]
      unfold bm
      rw [decide_eq_true_iff]
    by_cases c : crs W (gw (WL W H num) k) (gw (WL W H num) j) = true ∧ 0 < br j
    · rw [if_pos (z.mpr c), if_pos c]; rfl
    · rw [if_neg (fun y => c (z.mp y)), if_neg c]; rfl
theorem way7 (h : Cur W H num br cp cols rows grade steps Yi Yw Mw cO iA fi se fC sC st wO s one other cr) {k : Nat} (hk : k < (WL W H num).length) (hN : 100000 < N) : Ev (m_X9_way N num br cp Yi Yw cO fi se fC sC st cr un ub uc ul (nI k) 7) (fun t => rsn W num (WL W H num) br cp k t.1) := by
  obtain ⟨⟨rfl, rfl⟩, hB, hL, hs, hm, hb, hbo, hx, hg, hst⟩ := h
  have hM := hB.M
  have hl := hB.wls
  have hsm := hl.2.2.1
  have h4 := hL.2.2.2.1
  have hn := hsm.1
  unfold m_X9_way
  rw [h4.1, isWay_c (by omega) hk]
  simp (decide := true) only [lt1, ↓reduceIte]
  have q1 := reason_c (N := N) (un := un) (ub := ub) (uc := uc) (ul := ul) hB hL hbo hk (by omega)
  rw [h4.1] at q1
  exact evc5 q1 (fun v0 v1 v2 v3 v4 q => Ev.some q)
theorem isW_same {x y : Wy} (hW : 3 ≤ W) (hx : isW W H num x) (hy : isW W H num y) (e1 : x.1 = y.1) (e2 : x.2.1 = y.2.1) : x = y := by
  have a1 := isW_div hW hx
  have a2 := isW_div hW hy
  have e3 : x.2.2 = y.2.2 := by
    by_cases c : x.2.2 = 1
    · rw [c, a2.mp (by rw [← e1, ← e2]; exact a1.mpr c)]
    · rw [isW_st hx c, isW_st hy (fun z => c (a1.mp (by rw [e1, e2]; exact a2.mpr z)))]
  obtain ⟨x1, x2, x3⟩ := x
  obtain ⟨y1, y2, y3⟩ := y
  replace e1 : x1 = y1 := e1
  replace e2 : x2 = y2 := e2
  replace e3 : x3 = y3 := e3
  rw [e1, e2, e3]
theorem btw (h : Cur W H num br cp cols rows grade steps Yi Yw Mw cO iA fi se fC sC st wO s one other cr) {k : Nat} (hk : k < (WL W H num).length) (hN : 100000 < N) : Ev (m_X9_between N cols rows Yw fC sC (nI (gw (WL W H num) k).1) (nI (gw (WL W H num) k).2.1)) (fun t => t = nI k) := by
  obtain ⟨⟨rfl, rfl⟩, hB, hL, hs, hm, hb, hbo, hx, hg, hst⟩ := h
  have hM := hB.M
  have hl := hB.wls
  have hsm := hl.2.2.1
  have h4 := hL.2.2.2.1
  have hn := hsm.1
  have hnd := wL_nodup (num := num) hB.1.1 (Nat.le_refl (W * H))
  obtain ⟨w1, w2, w3, w4⟩ := hsm.2 k hk
  have hk2 := (hl.2.2.2 k hk).2.1
  unfold m_X9_between
  rw [isCell_c (by omega) (show (gw (WL W H num) k).1 < W * H by omega), isCell_c (by omega) hk2]
  simp (decide := true) only [lt1, ↓reduceIte]
  rw [mn_nI (by omega) (by omega), mx_nI (by omega) (by omega), Nat.min_eq_left (Nat.le_of_lt w1), Nat.max_eq_right (Nat.le_of_lt w1), h4.1]
  have uq : ∀ j, j < (WL W H num).length → (gw (WL W H num) j).1 = (gw (WL W H num) k).1 → (gw (WL W H num) j).2.1 = (gw (WL W H num) k).2.1 → j = k := fun j hj a b => gw_inj hnd hj hk (isW_same hB.1.1 (hl.2.2.2 j hj) (hl.2.2.2 k hk) a b)
  refine zl1c0 (WL W H num).length (fun i => i ≤ k) ?_ ?_ N 0 (by omega) (by omega) (Nat.zero_le _)
  · intro rec i hi hP
    have e : m_X9_between_j76 rec (nI i) = rec (nI (i + 1)) := by
      unfold m_X9_between_j76
      simp only [lt1, nI_s]
    obtain ⟨a1, a2, a3, a4⟩ := hsm.2 i hi
    unfold m_X9_between_b34
    rw [if_neg (nI_ge hi (by omega)), firstCell_nI h4 hsm hi, secondCell_nI h4 hsm hi, e]
    simp only [lt1]
    by_cases q1 : (gw (WL W H num) i).1 = (gw (WL W H num) k).1
    · rw [if_pos (by rw [q1])]
      by_cases q2 : (gw (WL W H num) i).2.1 = (gw (WL W H num) k).2.1
      · rw [if_pos (by rw [q2])]
        have := uq i hi q1 q2
        subst this
        exact Or.inl (Ev.some rfl)
      · rw [if_neg (fun z => q2 (nI_i (by omega) (by omega) z))]
        exact Or.inr ⟨rfl, by
          rcases Nat.lt_or_ge i k with r | r
          · omega
          · exact absurd (by rw [show i = k by omega]) q2⟩
    · rw [if_neg (fun z => q1 (nI_i (by omega) (by omega) z))]
      exact Or.inr ⟨rfl, by
        rcases Nat.lt_or_ge i k with r | r
        · omega
        · exact absurd (by rw [show i = k by omega]) q1⟩
  · intro rec hP
    omega
theorem isl0 (h : Cur W H num br cp cols rows grade steps Yi Yw Mw cO iA fi se fC sC st wO s one other cr) {c : Nat} (hc : c < W * H) (hN : 100000 < N) : Ev (m_X9_islandInfo N cols rows num br cp Yi Yw cO iA fi se wO un ub uc ul ld (nI c) 0) (fun t => t.1 = if 0 < num c then num c else -4) := by
  obtain ⟨⟨rfl, rfl⟩, hB, hL, hs, hm, hb, hbo, hx, hg, hst⟩ := h
  have hM := hB.M
  have hl := hB.wls
  have hsm := hl.2.2.1
  have h4 := hL.2.2.2.1
  have hn := hsm.1
  unfold m_X9_islandInfo
  rw [isCell_c (by omega) hc, islandOn_nI hL.2.2.1 (by omega)]
  simp (decide := true) only [lt1, ↓reduceIte]
  by_cases hp : 0 < num c
  · have hr := hB.r hc hp
    rw [if_pos hp, if_pos hp, if_neg (nI_nm1 (by omega)), vAt_nI (by omega) (by omega)]
    exact evc4 (sums_ev hB hL (by omega)) (fun v0 v1 v2 v3 q => Ev.some rfl)
  · rw [if_neg hp, if_neg hp, if_pos rfl]
    exact Ev.some rfl
theorem isl2 (h : Cur W H num br cp cols rows grade steps Yi Yw Mw cO iA fi se fC sC st wO s one other cr) {c : Nat} (hc : c < W * H) (hp : 0 < num c) (hN : 100000 < N) : Ev (m_X9_islandInfo N cols rows num br cp Yi Yw cO iA fi se wO un ub uc ul ld (nI c) 2) (fun t => t.1 = num c - sI (WL W H num) br c) := by
  obtain ⟨⟨rfl, rfl⟩, hB, hL, hs, hm, hb, hbo, hx, hg, hst⟩ := h
  have hM := hB.M
  have hl := hB.wls
  have hsm := hl.2.2.1
  have h4 := hL.2.2.2.1
  have hn := hsm.1
  unfold m_X9_islandInfo
  rw [isCell_c (by omega) hc, islandOn_nI hL.2.2.1 (by omega)]
  simp (decide := true) only [lt1, ↓reduceIte]
  have hr := hB.r hc hp
  rw [if_pos hp, if_neg (nI_nm1 (by omega))]
  refine evc4 (sums_ev hB hL (by omega)) (fun v0 v1 v2 v3 q => ?_)
  rw [vAt_nI (by omega) (by omega)]
  exact Ev.some (q c hc hp).2.2.2
/-- what hint and step tell -/
def stpE (W H : Nat) (num br cp : Nat → Int32) (z : Int32) : Prop := ∃ gC, LabG (WL W H num).length (pF num (WL W H num)) (qF num (WL W H num)) (onB br) gC ∧ stp W H num br cp gC z
theorem stpE_uniq {y z : Int32} (h1 : stpE W H num br cp y) (h2 : stpE W H num br cp z) : y = z := by
  obtain ⟨g1, a1, b1⟩ := h1
  obtain ⟨g2, a2, b2⟩ := h2
  have e : g1 = g2 := funext fun c => a1.uniq a2 c
  subst e
  exact stp_uniq b1 b2
theorem hint_ev (h : Cur W H num br cp cols rows grade steps Yi Yw Mw cO iA fi se fC sC st wO s one other cr) (hN : 100000 < N) : Ev (m_X9_hint N num br cp Yi Yw cO fi se cr un ub uc ul ld rb) (fun t => stpE W H num br cp t.1) := by
  obtain ⟨⟨rfl, rfl⟩, hB, hL, hs, hm, hb, hbo, hx, hg, hst⟩ := h
  have hM := hB.M
  have hl := hB.wls
  have hsm := hl.2.2.1
  have h4 := hL.2.2.2.1
  have hn := hsm.1
  obtain ⟨gC, g1, q⟩ := find_c (N := N) (br := br) (cp := cp) (un := un) (ub := ub) (uc := uc) (ul := ul) (ld := ld) (rb := rb) hB hL (by omega)
  unfold m_X9_hint
  exact evc7 q (fun v0 v1 v2 v3 v4 v5 v6 q => Ev.some ⟨gC, g1, q.1⟩)
theorem stpE_brk {z : Int32} (h : stpE W H num br cp z) (hb : brk W H num (WL W H num) br cp) : z = -2 := by
  obtain ⟨g, -, a⟩ := h
  rcases a with ⟨-, a⟩ | ⟨a, -⟩ | ⟨a, -⟩
  · exact a
  · exact absurd hb a
  · exact absurd hb a
end
