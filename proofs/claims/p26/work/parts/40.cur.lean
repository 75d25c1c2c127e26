/-! the class's current state and layout against the reference's -/
/-- no two ways that cross both have bridges -/
def NX (W : Nat) (l : List Wy) (br : Nat → Int32) : Prop := ∀ i j, i < l.length → j < l.length → crs W (gw l i) (gw l j) = true → ¬ (0 < br i ∧ 0 < br j)
def Cur (W H : Nat) (num br cp : Nat → Int32) (cols rows grade steps Yi Yw Mw : Int32) (cO iA fi se fC sC st wO s one other : Nat → Int32) (cr : Nat → Int64) : Prop :=
  (cols = nI W ∧ rows = nI H) ∧ BD W H num ∧ LO W H num Yi Yw cO iA fi se fC sC st wO cr ∧ MS W H num s ∧ mrep (WL W H num) Mw one other ∧ MB (WL W H num).length br cp s ∧ bo (WL W H num).length br cp ∧ NX W (WL W H num) br ∧ s 2 = grade ∧ s 3 = steps
theorem wAt_nodup {W H c : Nat} {num : Nat → Int32} (hW : 3 ≤ W) : (wAt W H num c).Nodup := by
  unfold wAt
  by_cases h : 0 < num c
  · rw [if_pos h]
    cases nx num 1 (W - 1 - c % W) c <;> cases nx num W (H - 1 - c / W) c <;> simp [oL]
    omega
  · rw [if_neg h]; exact List.nodup_nil
theorem wL_nodup {W H : Nat} {num : Nat → Int32} (hW : 3 ≤ W) : ∀ {m : Nat}, m ≤ W * H → (wL W H num m).Nodup := by
  intro m
  induction m with
  | zero => intro _; exact List.nodup_nil
  | succ m ih =>
    intro hm
    show (wL W H num m ++ wAt W H num m).Nodup
    rw [List.nodup_append]
    refine ⟨ih (by omega), wAt_nodup hW, fun x hx y hy e => ?_⟩
    subst e
    have h1 := (wL_isW (W := W) (H := H) (by omega) (by omega) hx).2
    have h2 := (wAt_isW (W := W) (H := H) (by omega) (show m < W * H by omega) hy).2
    omega
theorem gw_inj {l : List Wy} (h : l.Nodup) {i j : Nat} (hi : i < l.length) (hj : j < l.length) (e : gw l i = gw l j) : i = j := by
  unfold gw at e
  rw [List.getD_eq_getElem?_getD, List.getD_eq_getElem?_getD, List.getElem?_eq_getElem hi, List.getElem?_eq_getElem hj] at e
  have e : l[i] = l[j] := e
  have h2 := List.pairwise_iff_getElem.mp h
  rcases Nat.lt_trichotomy i j with q | q | q
  · exact absurd e (h2 i j hi hj q)
  · exact q
  · exact absurd e.symm (h2 j i hj hi q)
theorem ov_iff {x : Wy} {c : Nat} : ov x c = true ↔ x.1 < c ∧ c < x.2.1 ∧ (c - x.1) % x.2.2 = 0 := by
  unfold ov
  rw [Bool.and_eq_true, Bool.and_eq_true, decide_eq_true_iff, decide_eq_true_iff, decide_eq_true_iff]
theorem mod_sub {W a c : Nat} (hW : 0 < W) (h : a < c) : (c - a) % W = 0 ↔ c % W = a % W := by
  have e0 : c = a + (c - a) := by omega
  generalize hd : c - a = d at e0 ⊢
  have a1 := Nat.div_add_mod d W
  constructor
  · intro e
    rw [e0, show d = W * (d / W) by omega, Nat.add_mul_mod_self_left]
  · intro e
    have b1 := Nat.div_add_mod c W
    have b2 := Nat.div_add_mod a W
    have : d = W * (c / W) - W * (a / W) := by omega
    rw [this, ← Nat.mul_sub, Nat.mul_mod_right]
/-- a way runs over no island -/
theorem ov_isl {W H c : Nat} {num : Nat → Int32} {x : Wy} (hW : 3 ≤ W) (h : isW W H num x) (ho : ov x c = true) : ¬ 0 < num c := by
  obtain ⟨o1, o2, o3⟩ := ov_iff.mp ho
  obtain ⟨h1, h2, h3, h4, ⟨h5, h6, h7⟩ | ⟨h5, h6, h7⟩⟩ := h
  · exact h7 c o1 o2
  · rw [h5] at o3
    exact h7 c o1 o2 ((mod_sub (by omega) o1).mp o3)
theorem ov_row {W H c : Nat} {num : Nat → Int32} {x : Wy} (hW : 3 ≤ W) (h : isW W H num x) (hs : x.2.2 = 1) (h1 : x.1 ≤ c) (h2 : c ≤ x.2.1) : c / W = x.1 / W := by
  have hh := h.2.2.2.2
  have hr : x.1 / W = x.2.1 / W := by
    rcases hh with ⟨-, z, -⟩ | ⟨z1, z2, -⟩
    · exact z
    · omega
  have a1 := Nat.div_le_div_right (c := W) h1
  have a2 := Nat.div_le_div_right (c := W) h2
  omega
/-- one way at most of a direction runs over a cell -/
theorem ov_same {W H c : Nat} {num : Nat → Int32} {x y : Wy} (hW : 3 ≤ W) (hx : isW W H num x) (hy : isW W H num y) (ox : ov x c = true) (oy : ov y c = true) (e : x.2.2 = y.2.2) : x = y := by
  obtain ⟨o1, o2, o3⟩ := ov_iff.mp ox
  obtain ⟨p1, p2, p3⟩ := ov_iff.mp oy
  obtain ⟨x1, x2, x3, x4, hx5⟩ := hx
  obtain ⟨y1, y2, y3, y4, hy5⟩ := hy
  have key : x.1 = y.1 ∧ x.2.1 = y.2.1 := by
    rcases hx5 with ⟨a1, a2, a3⟩ | ⟨a1, a2, a3⟩
    · rcases hy5 with ⟨b1, b2, b3⟩ | ⟨b1, b2, b3⟩
      · refine ⟨?_, ?_⟩
        · rcases Nat.lt_trichotomy x.1 y.1 with q | q | q
          · exact absurd y3 (a3 _ q (by omega))
          · exact q
          · exact absurd x3 (b3 _ q (by omega))
        · rcases Nat.lt_trichotomy x.2.1 y.2.1 with q | q | q
          · exact absurd x4 (b3 _ (by omega) q)
          · exact q
          · exact absurd y4 (a3 _ (by omega) q)
      · omega
    · rcases hy5 with ⟨b1, b2, b3⟩ | ⟨b1, b2, b3⟩
      · omega
      · rw [a1] at o3
        rw [b1] at p3
        have m1 := (mod_sub (show 0 < W by omega) o1).mp o3
        have m2 := (mod_sub (show 0 < W by omega) p1).mp p3
        refine ⟨?_, ?_⟩
        · rcases Nat.lt_trichotomy x.1 y.1 with q | q | q
          · exact absurd y3 (a3 _ q (by omega) (by rw [← m1, m2]))
          · exact q
          · exact absurd x3 (b3 _ q (by omega) (by rw [← m1, m2]))
        · rcases Nat.lt_trichotomy x.2.1 y.2.1 with q | q | q
          · exact absurd x4 (b3 _ (by omega) q (by rw [← a2, ← m1, m2]))
          · exact q
          · exact absurd y4 (a3 _ (by omega) q (by rw [← b2, ← m2, m1]))
  exact Prod.ext key.1 (Prod.ext key.2 e)
theorem isW_st {W H : Nat} {num : Nat → Int32} {x : Wy} (h : isW W H num x) (hs : x.2.2 ≠ 1) : x.2.2 = W := by
  rcases h.2.2.2.2 with ⟨z, -⟩ | ⟨z, -⟩
  · exact absurd z hs
  · exact z
/-- ways of both directions over one cell cross -/
theorem ov_crs {W H c : Nat} {num : Nat → Int32} {x y : Wy} (hW : 3 ≤ W) (hx : isW W H num x) (hy : isW W H num y) (ox : ov x c = true) (oy : ov y c = true) (sx : x.2.2 = 1) (sy : y.2.2 ≠ 1) : crs W x y = true ∧ crs W y x = true := by
  obtain ⟨o1, o2, o3⟩ := ov_iff.mp ox
  obtain ⟨p1, p2, p3⟩ := ov_iff.mp oy
  rw [isW_st hy sy] at p3
  have m2 := (mod_sub (show 0 < W by omega) p1).mp p3
  have r := ov_row hW hx sx (Nat.le_of_lt o1) (Nat.le_of_lt o2)
  have d1 := Nat.div_add_mod c W
  have d2 := Nat.div_add_mod x.1 W
  have e : x.1 - x.1 % W + y.1 % W = c := by
    rw [← m2]
    rw [r] at d1
    omega
  have e1 : mt W x y = c := by unfold mt; rw [if_pos sx]; exact e
  have e2 : mt W y x = c := by unfold mt; rw [if_neg sy]; exact e
  unfold crs
  rw [e1, e2, ox, oy, decide_eq_true sx, decide_eq_false sy]
  exact ⟨rfl, rfl⟩
/-- one way at most with bridges runs over a cell -/
theorem ov_uniq {W H c i j : Nat} {num br : Nat → Int32} (hB : BD W H num) (hx : NX W (WL W H num) br) (hi : i < (WL W H num).length) (hj : j < (WL W H num).length) (bi : 0 < br i) (bj : 0 < br j) (oi : ov (gw (WL W H num) i) c = true) (oj : ov (gw (WL W H num) j) c = true) : i = j := by
  have hW := hB.1.1
  have wi := hB.wls.2.2.2 i hi
  have wj := hB.wls.2.2.2 j hj
  by_cases si : (gw (WL W H num) i).2.2 = 1
  · by_cases sj : (gw (WL W H num) j).2.2 = 1
    · exact gw_inj (wL_nodup hW (Nat.le_refl _)) hi hj (ov_same hW wi wj oi oj (si.trans sj.symm))
    · exact absurd ⟨bi, bj⟩ (hx i j hi hj (ov_crs hW wi wj oi oj si sj).1)
  · by_cases sj : (gw (WL W H num) j).2.2 = 1
    · exact absurd ⟨bi, bj⟩ (hx i j hi hj (ov_crs hW wj wi oj oi sj si).2)
    · exact gw_inj (wL_nodup hW (Nat.le_refl _)) hi hj (ov_same hW wi wj oi oj ((isW_st wi si).trans (isW_st wj sj).symm))
/-! cells and ways told apart from other numbers -/
theorem nI_ex {x : Int32} (h : 0 ≤ x) : ∃ c, x = nI c ∧ c < 2 ^ 31 := by
  rw [Int32.le_iff_toInt_le] at h
  have h0 : (0 : Int32).toInt = 0 := rfl
  have h2 := Int32.toInt_lt x
  have h3 : x.toInt.toNat < 2 ^ 31 := by omega
  refine ⟨x.toInt.toNat, Int32.toInt_inj.mp ?_, h3⟩
  rw [nI_toInt h3]
  omega
theorem cell_or {M : Nat} (hM : M < 2 ^ 31) (x : Int32) : (∃ c, c < M ∧ x = nI c) ∨ x < 0 ∨ nI M ≤ x := by
  by_cases h : x < 0
  · exact Or.inr (Or.inl h)
  · by_cases h2 : nI M ≤ x
    · exact Or.inr (Or.inr h2)
    · obtain ⟨c, e, hc⟩ := nI_ex (Int32.not_lt.mp h)
      subst e
      refine Or.inl ⟨c, ?_, rfl⟩
      rcases Nat.lt_or_ge c M with q | q
      · exact q
      · exact absurd (nI_le q hc) h2
theorem cell_out {M : Nat} (hM : M < 2 ^ 31) {x : Int32} (h : x < 0 ∨ nI M ≤ x) {c : Nat} (hc : c < M) : x ≠ nI c := by
  rintro rfl
  rcases h with h | h
  · exact nI_pos (by omega) h
  · exact nI_ge hc hM h
theorem in_1 {M c : Nat} (hM : M < 2 ^ 31) (hc : c < M) : m_X10_in (nI c) 0 (nI M - 1) = 1 := by
  unfold m_X10_in
  rw [if_neg (nI_pos (by omega)), show (1 : Int32) = nI 1 from rfl, pk_sub (by omega), if_neg (nI_nlt (by omega) (by omega))]
theorem in_0 {M : Nat} (hM : M < 2 ^ 31) {x : Int32} (h : x < 0 ∨ nI M ≤ x) : m_X10_in x 0 (nI M - 1) = 0 := by
  unfold m_X10_in
  by_cases c : x < 0
  · rw [if_pos c]
  · rw [if_neg c]
    rcases h with h | h
    · exact absurd h c
    · refine if_pos ?_
      rw [Int32.le_iff_toInt_le, nI_toInt hM] at h
      rw [Int32.lt_iff_toInt_lt]
      cases M with
      | zero => rw [show nI 0 - 1 = -1 from rfl, show (-1 : Int32).toInt = -1 from rfl]; omega
      | succ M =>
        rw [show (1 : Int32) = nI 1 from rfl, pk_sub (by omega), Nat.add_sub_cancel, nI_toInt (by omega)]
        omega
theorem isCell_c {W H c : Nat} (hM : W * H < 2 ^ 31) (hc : c < W * H) : m_X9_isCell (nI W) (nI H) (nI c) = 1 := by
  unfold m_X9_isCell
  rw [if_neg (nI_pos (by omega)), cells_nI]
  exact if_neg (nI_ge hc hM)
theorem isCell_c0 {W H : Nat} {x : Int32} (h : x < 0 ∨ nI (W * H) ≤ x) : m_X9_isCell (nI W) (nI H) x = 0 := by
  unfold m_X9_isCell
  by_cases c : x < 0
  · rw [if_pos c]
  · rw [if_neg c, cells_nI]
    rcases h with h | h
    · exact absurd h c
    · exact if_pos h
theorem isCell_m {W H c : Nat} {num s : Nat → Int32} (hM : W * H < 2 ^ 31) (hs : MS W H num s) (hc : c < W * H) : m_X10_isCell s (nI c) = some 1 := by
  unfold m_X10_isCell
  rw [cells_m hs, bd1_some]
  simp only [lt1]
  rw [in_1 hM hc]; rfl
theorem isCell_m0 {W H : Nat} {num s : Nat → Int32} {x : Int32} (hM : W * H < 2 ^ 31) (hs : MS W H num s) (h : x < 0 ∨ nI (W * H) ≤ x) : m_X10_isCell s x = some 0 := by
  unfold m_X10_isCell
  rw [cells_m hs, bd1_some]
  simp only [lt1]
  rw [in_0 hM h]; rfl
theorem isWay_c {n k : Nat} (hn : n < 2 ^ 31) (hk : k < n) : m_X9_isWay (nI n) (nI k) = 1 := by
  unfold m_X9_isWay
  rw [if_neg (nI_pos (by omega)), if_neg (nI_ge hk hn)]
theorem isWay_c0 {n : Nat} {x : Int32} (h : x < 0 ∨ nI n ≤ x) : m_X9_isWay (nI n) x = 0 := by
  unfold m_X9_isWay
  by_cases c : x < 0
  · rw [if_pos c]
  · rw [if_neg c]
    rcases h with h | h
    · exact absurd h c
    · exact if_pos h
theorem isWay_m {n k : Nat} (hn : n < 2 ^ 31) (hk : k < n) : m_X10_isWay (nI n) (nI k) = some 1 := by
  unfold m_X10_isWay
  simp only [lt1]
  rw [in_1 hn hk]; rfl
theorem isWay_m0 {n : Nat} {x : Int32} (hn : n < 2 ^ 31) (h : x < 0 ∨ nI n ≤ x) : m_X10_isWay (nI n) x = some 0 := by
  unfold m_X10_isWay
  simp only [lt1]
  rw [in_0 hn h]; rfl
