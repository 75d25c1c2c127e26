/-! make: directions -/
theorem m1_mul (x : Int32) : (-1 : Int32) * x = -x := by
  rw [Int32.neg_mul, Int32.one_mul]
theorem add_neg' (a x : Int32) : a + -x = a - x := (Int32.sub_eq_add_neg a x).symm
theorem onb_p {a d L : Nat} (ha : a < L) (hL : L ≤ 12) (hd : d ≤ 5) : (m_X3_isOnBoard_j54 (nI a + nI d) (nI L) = some (bI (decide (a + d < L))) ∧ ¬ nI a + nI d < 0) := by
  unfold m_X3_isOnBoard_j54
  rw [nI_add]
  refine ⟨?_, nI_pos (by omega)⟩
  by_cases h : a + d < L
  · rw [if_neg (nI_ge h (by omega)), decide_eq_true h]; rfl
  · rw [if_pos (nI_le (by omega) (by omega)), decide_eq_false h]; rfl
theorem inP {a d L : Nat} (ha : a < L) (hL : L ≤ 12) (hd : d ≤ 5) : m_X10_in (nI a + nI d) 0 (nI L - 1) = bI (decide (a + d < L)) := by
  rw [nI_add]
  by_cases h : a + d < L
  · rw [in_1 (by omega) h, decide_eq_true h]; rfl
  · rw [in_0 (by omega) (Or.inr (nI_le (by omega) (by omega))), decide_eq_false h]; rfl
theorem inM {a d L : Nat} (ha : a < L) (hL : L ≤ 12) (hd : d ≤ 5) : m_X10_in (nI a - nI d) 0 (nI L - 1) = bI (decide (d ≤ a)) := by
  by_cases h : d ≤ a
  · rw [pk_sub h, in_1 (by omega) (by omega), decide_eq_true h]; rfl
  · rw [in_0 (by omega) (Or.inl (nI_sub_neg (by omega) (by omega))), decide_eq_false h]; rfl
theorem in_0c {a L : Nat} (ha : a < L) (hL : L ≤ 12) : m_X10_in (nI a) 0 (nI L - 1) = 1 := in_1 (by omega) ha
/-- on the board or not, in the class -/
theorem isOn_p {W H c d : Nat} (hW : 3 ≤ W ∧ W ≤ 12) (hH : H ≤ 12) (hc : c < W * H) (hd : d ≤ 5) (hz : Bool) : m_X3_isOnBoard (nI W) (nI H) (nI c) (bI hz) (1 * nI d) = some (bI (if hz then decide (c % W + d < W) else decide (c / W + d < H))) := by
  have hcW : c / W < H := by rw [Nat.div_lt_iff_lt_mul (by omega), Nat.mul_comm]; exact hc
  have hcw : c % W < W := Nat.mod_lt _ (by omega)
  have hM : W * H ≤ 144 := Nat.mul_le_mul hW.2 hH
  unfold m_X3_isOnBoard m_X3_isOnBoard_j28
  rw [if_neg (show ¬ nI W = 0 from fun e => by have := (kk0_eq (by omega)).mp e; omega), dvd_nI (by omega) (by omega) (by omega), rmd_nI (by omega) (by omega) (by omega), Int32.one_mul]
  simp only [lt1]
  cases hz
  · rw [if_pos bI_f, if_pos bI_f, if_neg (onb_p hcW hH hd).2, (onb_p hcW hH hd).1]; rfl
  · rw [if_neg (show ¬ bI true = 0 by decide), if_neg (show ¬ bI true = 0 by decide), if_neg (onb_p hcw hW.2 hd).2, (onb_p hcw hW.2 hd).1]; rfl
theorem isOn_m {W H c d : Nat} (hW : 3 ≤ W ∧ W ≤ 12) (hH : H ≤ 12) (hc : c < W * H) (hd : d ≤ 5) (hz : Bool) : m_X3_isOnBoard (nI W) (nI H) (nI c) (bI hz) (-1 * nI d) = some (bI (if hz then decide (d ≤ c % W) else decide (d ≤ c / W))) := by
  have hcW : c / W < H := by rw [Nat.div_lt_iff_lt_mul (by omega), Nat.mul_comm]; exact hc
  have hcw : c % W < W := Nat.mod_lt _ (by omega)
  have hM : W * H ≤ 144 := Nat.mul_le_mul hW.2 hH
  unfold m_X3_isOnBoard m_X3_isOnBoard_j28
  rw [if_neg (show ¬ nI W = 0 from fun e => by have := (kk0_eq (by omega)).mp e; omega), dvd_nI (by omega) (by omega) (by omega), rmd_nI (by omega) (by omega) (by omega), m1_mul]
  simp only [lt1]
  rw [add_neg', add_neg']
  have key : ∀ a L, a < L → L ≤ 12 → (if nI a - nI d < 0 then some 0 else m_X3_isOnBoard_j54 (nI a - nI d) (nI L)) = some (bI (decide (d ≤ a))) := fun a L ha hL => by
    by_cases h : d ≤ a
    · rw [pk_sub h, if_neg (nI_pos (by omega)), decide_eq_true h]
      unfold m_X3_isOnBoard_j54
      rw [if_neg (nI_ge (by omega) (by omega))]; rfl
    · rw [if_pos (nI_sub_neg (by omega) (by omega)), decide_eq_false h]; rfl
  cases hz
  · rw [if_pos bI_f, if_pos bI_f]; exact key _ _ hcW hH
  · rw [if_neg (show ¬ bI true = 0 by decide), if_neg (show ¬ bI true = 0 by decide)]; exact key _ _ hcw hW.2
def dirC (N : Nat) (W H c R d b n z : Nat) (tk mn kC : Nat → Int32) : Option (Int32 × Int32 × (Nat → Int32) × (Nat → Int32) × (Nat → Int32)) := if 2 ≤ nI R then (m_X3_tryIsland_j49 N (nI W) (nI H) (nI c) (nI R) (nI d) (nI b) (nI n) (nI z) tk mn kC ((-1))) else (m_X3_tryIsland_j49 N (nI W) (nI H) (nI c) (nI R) (nI d) (nI b) (nI n) (nI z) tk mn kC 1)
theorem j62_e {N : Nat} {A B c d b sg n z hz : Int32} {tk mn kC : Nat → Int32} : m_X3_tryIsland_j62 N A B c d b sg n z tk mn kC hz = bd1 (m_X3_isOnBoard A B c hz (sg * d)) (fun v33 => if v33 = 0 then some (n, z, tk, mn, kC) else if hz = 0 then zl1 (m_X3_tryIsland_b100 N c d b (sg * A) n z tk mn kC) N 1 else zl1 (m_X3_tryIsland_b100 N c d b (sg * 1) n z tk mn kC) N 1) := rfl
theorem j49_e {N : Nat} {A B c R d b sg n z : Int32} {tk mn kC : Nat → Int32} : m_X3_tryIsland_j49 N A B c R d b n z tk mn kC sg = if R - R / 2 * 2 = 0 then m_X3_tryIsland_j62 N A B c d b sg n z tk mn kC 1 else m_X3_tryIsland_j62 N A B c d b sg n z tk mn kC 0 := rfl
theorem j59_e {N : Nat} {x1 x3 x4 a e dx dy : Int32} {s md : Nat → Int32} : m_X10_grows_j59 N x1 x3 x4 a e dx s md dy = rd 244 s 0 (fun v16 => if m_X10_in (a + x3 * dx) 0 (v16 - 1) = 0 then some (s, md) else rd 244 s 1 (fun v18 => if m_X10_in (e + x3 * dy) 0 (v18 - 1) = 0 then some (s, md) else rd 244 s 0 (fun v20 => zl2 (m_X10_grows_b126 N x1 x3 x4 (dx + v20 * dy) s md) N 1 1))) := rfl
theorem j59_s {W H N : Nat} {x1 x3 x4 a e dx dy : Int32} {q s md : Nat → Int32} (h2 : MS W H q s) : m_X10_grows_j59 N x1 x3 x4 a e dx s md dy = if m_X10_in (a + x3 * dx) 0 (nI W - 1) = 0 then some (s, md) else if m_X10_in (e + x3 * dy) 0 (nI H - 1) = 0 then some (s, md) else zl2 (m_X10_grows_b126 N x1 x3 x4 (dx + nI W * dy) s md) N 1 1 := by
  have hs0 : ∀ {Z : Type} (k : Int32 → Option Z), rd 244 s 0 k = k (nI W) := fun k => by rw [rd0 (by omega) (by omega), h2.1]
  have hs1 : ∀ {Z : Type} (k : Int32 → Option Z), rd 244 s 1 k = k (nI H) := fun k => by rw [show (1 : Int32) = nI 1 from rfl, rd_nI (by omega) (by omega), h2.2.1]
  rw [j59_e, hs0, hs1, hs0]
def dxF (R : Nat) : Int32 := if R = 0 then 1 else if R = 2 then -1 else 0
def dyF (R : Nat) : Int32 := if R = 1 then 1 else if R = 3 then -1 else 0
theorem grows_d {W H N c R : Nat} {d b : Int32} {q s md : Nat → Int32} (h2 : MS W H q s) (hW : 3 ≤ W ∧ W ≤ 12) (hc : c < 144) (hR : R < 4) : m_X10_grows N s md (nI c) (nI R) d b = m_X10_grows_j59 N (nI c) d b (nI (c % W)) (nI (c / W)) (dxF R) s md (dyF R) := by
  unfold m_X10_grows
  rw [rd0 (by omega) (by omega), h2.1, rmd_nI (by omega) (by omega) (by omega), rd0 (by omega) (by omega), h2.1, dvd_nI (by omega) (by omega) (by omega)]
  have j38 : ∀ dx, m_X10_grows_j38 N (nI c) (nI R) d b (nI (c % W)) (nI (c / W)) s md dx = m_X10_grows_j59 N (nI c) d b (nI (c % W)) (nI (c / W)) dx s md (dyF R) := fun dx => by
    unfold m_X10_grows_j38 dyF
    by_cases c1 : R = 1
    · rw [if_pos ((kk1_eq (by omega)).mpr c1), if_pos c1]
    · rw [if_neg (fun z => c1 ((kk1_eq (by omega)).mp z)), if_neg c1]
      by_cases c3 : R = 3
      · rw [if_pos ((kk3_eq (by omega)).mpr c3), if_pos c3]
      · rw [if_neg (fun z => c3 ((kk3_eq (by omega)).mp z)), if_neg c3]
  rw [j38, j38, j38]
  unfold dxF
  by_cases c0 : R = 0
  · rw [if_pos ((kk0_eq (by omega)).mpr c0), if_pos c0]
  · rw [if_neg (fun z => c0 ((kk0_eq (by omega)).mp z)), if_neg c0]
    by_cases c2 : R = 2
    · rw [if_pos ((kk2_eq (by omega)).mpr c2), if_pos c2]
    · rw [if_neg (fun z => c2 ((kk2_eq (by omega)).mp z)), if_neg c2]
theorem dir_fin {W H n it N c d b z : Nat} {tk mn kC q s md : Nat → Int32} {sp : Int32} {tg : Nat → Nat} {C : Option (Int32 × Int32 × (Nat → Int32) × (Nat → Int32) × (Nat → Int32))} {M : Option ((Nat → Int32) × (Nat → Int32))} (on : Prop) [Decidable on] (h : KR W H n it tk mn kC q s md) (hn : n < 24) (hit : it < 200) (hc : c < W * H) (hp : 0 < q c) (hd : 2 ≤ d ∧ d ≤ 5) (hb : b = 1 ∨ b = 2) (hN : 1000 < N) (ht : on → ∀ i, 1 ≤ i → i ≤ d → nI c + nI i * sp = nI (tg i) ∧ tg i < W * H)
    (eC : C = if on then zl1 (m_X3_tryIsland_b100 N (nI c) (nI d) (nI b) sp (nI n) (nI z) tk mn kC) N 1 else some (nI n, nI z, tk, mn, kC)) (eM : M = if on then zl2 (m_X10_grows_b126 N (nI c) (nI d) (nI b) sp s md) N 1 1 else some (s, md)) :
    ∃ n' tk' mn' kC' q' s' md', C = some (nI n', nI z, tk', mn', kC') ∧ M = some (s', md') ∧ KR W H n' (it + 1) tk' mn' kC' q' s' md' ∧ n' ≤ 24 := by
  rw [eC, eM]
  by_cases o : on
  · rw [if_pos o, if_pos o]
    exact grow_ev h hn hit hc hp hd hb (ht o) hN
  · rw [if_neg o, if_neg o]
    exact ⟨n, tk, mn, kC, q, s, md, rfl, rfl, h.more, by omega⟩
theorem cls_fin {Z : Type} {on : Prop} [Decidable on] {a e : Option Z} {k : Int32 → Option Z} (h0 : k 0 = e) (h1 : k 1 = a) : bd1 (some (bI (decide on))) k = if on then a else e := by
  rw [bd1_some]
  by_cases o : on
  · rw [if_pos o, decide_eq_true o]; exact h1
  · rw [if_neg o, decide_eq_false o]; exact h0
theorem mdl_fin {Z : Type} {on : Prop} [Decidable on] {a e : Z} : (if bI (decide on) = 0 then e else a) = if on then a else e := by
  by_cases o : on
  · rw [if_pos o, decide_eq_true o, if_neg (show ¬ bI true = 0 by decide)]
  · rw [if_neg o, decide_eq_false o, if_pos bI_f]
theorem dir_ev {W H n it N c d b z R : Nat} {tk mn kC q s md : Nat → Int32} (h : KR W H n it tk mn kC q s md) (hn : n < 24) (hit : it < 200) (hc : c < W * H) (hp : 0 < q c) (hd : 2 ≤ d ∧ d ≤ 5) (hb : b = 1 ∨ b = 2) (hR : R < 4) (hN : 1000 < N) :
    ∃ n' tk' mn' kC' q' s' md', dirC N W H c R d b n z tk mn kC = some (nI n', nI z, tk', mn', kC') ∧ m_X10_grows N s md (nI c) (nI R) (nI d) (nI b) = some (s', md') ∧ KR W H n' (it + 1) tk' mn' kC' q' s' md' ∧ n' ≤ 24 := by
  obtain ⟨h1, h2, h3, h4, h5, h6, h7, h8⟩ := id h
  have hM := h1.M
  have hW := h1.1
  have hH := h1.2.1
  have hcW : c / W < H := by rw [Nat.div_lt_iff_lt_mul (by omega), Nat.mul_comm]; exact hc
  have hcw : c % W < W := Nat.mod_lt _ (by omega)
  have hcm : c % W ≤ c := Nat.mod_le _ _
  have hx0 : ∀ x : Int32, x + nI d * 0 = x := fun x => by rw [Int32.mul_zero, Int32.add_zero]
  have hdm : nI d * -1 = -(nI d) := by rw [Int32.mul_comm, m1_mul]
  rw [grows_d h2 hW (by omega) hR, j59_s h2]
  unfold dirC
  have hR4 : R = 0 ∨ R = 1 ∨ R = 2 ∨ R = 3 := by omega
  rcases hR4 with rfl | rfl | rfl | rfl
  · refine dir_fin (c % W + d < W) (sp := 1) (tg := fun i => c + i) h hn hit hc hp hd hb hN (fun o i i1 i2 => ⟨by rw [Int32.mul_one, nI_add], (row_in (by omega) hc (by omega)).2.1⟩) ?_ ?_
    · rw [if_neg (show ¬ (2 : Int32) ≤ nI 0 by decide), j49_e, if_pos (show nI 0 - nI 0 / 2 * 2 = 0 by decide), j62_e, show m_X3_isOnBoard (nI W) (nI H) (nI c) 1 (1 * nI d) = some (bI (decide (c % W + d < W))) from isOn_p (d := d) hW hH.2 hc (by omega) true]
      refine cls_fin rfl ?_
      rw [if_neg (show ¬ (1 : Int32) = 0 by decide), if_neg (show ¬ (1 : Int32) = 0 by decide), Int32.mul_one]
    · show (if m_X10_in (nI (c % W) + nI d * 1) 0 (nI W - 1) = 0 then _ else if m_X10_in (nI (c / W) + nI d * 0) 0 (nI H - 1) = 0 then _ else zl2 (m_X10_grows_b126 N (nI c) (nI d) (nI b) (1 + nI W * 0) s md) N 1 1) = _
      rw [Int32.mul_one, hx0, inP (d := d) hcw hW.2 (by omega), in_0c hcW hH.2, mdl_fin, Int32.mul_zero, Int32.add_zero]
      rfl
  · refine dir_fin (c / W + d < H) (sp := nI W) (tg := fun i => c + i * W) h hn hit hc hp hd hb hN (fun o i i1 i2 => ⟨by rw [pk_mul, nI_add], (col_in (by omega) hc (by omega)).2.1⟩) ?_ ?_
    · rw [if_neg (show ¬ (2 : Int32) ≤ nI 1 by decide), j49_e, if_neg (show ¬ nI 1 - nI 1 / 2 * 2 = 0 by decide), j62_e, show m_X3_isOnBoard (nI W) (nI H) (nI c) 0 (1 * nI d) = some (bI (decide (c / W + d < H))) from isOn_p (d := d) hW hH.2 hc (by omega) false]
      refine cls_fin rfl ?_
      rw [if_neg (show ¬ (1 : Int32) = 0 by decide), if_pos (show (0 : Int32) = 0 from rfl), Int32.one_mul]
    · show (if m_X10_in (nI (c % W) + nI d * 0) 0 (nI W - 1) = 0 then _ else if m_X10_in (nI (c / W) + nI d * 1) 0 (nI H - 1) = 0 then _ else zl2 (m_X10_grows_b126 N (nI c) (nI d) (nI b) (0 + nI W * 1) s md) N 1 1) = _
      rw [hx0, in_0c hcw hW.2, show nI d * 1 = nI d from Int32.mul_one _, inP (d := d) hcW hH.2 (by omega), mdl_fin, Int32.mul_one, Int32.zero_add]
      rfl
  · refine dir_fin (d ≤ c % W) (sp := -1) (tg := fun i => c - i) h hn hit hc hp hd hb hN (fun o i i1 i2 => ⟨by rw [Int32.mul_comm, m1_mul, add_neg', pk_sub (by omega)], by show c - i < W * H; omega⟩) ?_ ?_
    · rw [if_pos (show (2 : Int32) ≤ nI 2 by decide), j49_e, if_pos (show nI 2 - nI 2 / 2 * 2 = 0 by decide), j62_e, show m_X3_isOnBoard (nI W) (nI H) (nI c) 1 (-1 * nI d) = some (bI (decide (d ≤ c % W))) from isOn_m (d := d) hW hH.2 hc (by omega) true]
      refine cls_fin rfl ?_
      rw [if_neg (show ¬ (1 : Int32) = 0 by decide), if_neg (show ¬ (1 : Int32) = 0 by decide), Int32.mul_one]
    · show (if m_X10_in (nI (c % W) + nI d * -1) 0 (nI W - 1) = 0 then _ else if m_X10_in (nI (c / W) + nI d * 0) 0 (nI H - 1) = 0 then _ else zl2 (m_X10_grows_b126 N (nI c) (nI d) (nI b) (-1 + nI W * 0) s md) N 1 1) = _
      rw [hx0, in_0c hcW hH.2, hdm, add_neg' (nI (c % W)) (nI d), inM (d := d) hcw hW.2 (by omega), mdl_fin, Int32.mul_zero, Int32.add_zero]
      rfl
  · refine dir_fin (d ≤ c / W) (sp := -1 * nI W) (tg := fun i => c - i * W) h hn hit hc hp hd hb hN (fun o i i1 i2 => ⟨?_, by show c - i * W < W * H; omega⟩) ?_ ?_
    · have : i * W ≤ c := Nat.le_trans (Nat.mul_le_mul_right W (show i ≤ c / W by omega)) (Nat.div_mul_le_self c W)
      rw [m1_mul, Int32.mul_neg, add_neg', pk_mul, pk_sub this]
    · rw [if_pos (show (2 : Int32) ≤ nI 3 by decide), j49_e, if_neg (show ¬ nI 3 - nI 3 / 2 * 2 = 0 by decide), j62_e, show m_X3_isOnBoard (nI W) (nI H) (nI c) 0 (-1 * nI d) = some (bI (decide (d ≤ c / W))) from isOn_m (d := d) hW hH.2 hc (by omega) false]
      refine cls_fin rfl ?_
      rw [if_neg (show ¬ (1 : Int32) = 0 by decide), if_pos (show (0 : Int32) = 0 from rfl)]
    · show (if m_X10_in (nI (c % W) + nI d * 0) 0 (nI W - 1) = 0 then _ else if m_X10_in (nI (c / W) + nI d * -1) 0 (nI H - 1) = 0 then _ else zl2 (m_X10_grows_b126 N (nI c) (nI d) (nI b) (0 + nI W * -1) s md) N 1 1) = _
      rw [hx0, in_0c hcw hW.2, hdm, add_neg' (nI (c / W)) (nI d), inM (d := d) hcW hH.2 (by omega), mdl_fin, Int32.mul_comm (nI W), Int32.zero_add]
      rfl
