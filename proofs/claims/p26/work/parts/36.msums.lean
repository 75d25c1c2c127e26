/-! the ways of the reference: along, between, crossing, sums at an island -/
def WLs (W H : Nat) (num : Nat → Int32) (l : List Wy) : Prop := (3 ≤ W ∧ W ≤ 12) ∧ W * H ≤ 144 ∧ wsm l ∧ ∀ k, k < l.length → isW W H num (gw l k)
theorem WL_s {W H : Nat} {num : Nat → Int32} (hW : 3 ≤ W ∧ W ≤ 12) (hH : 3 ≤ H ∧ H ≤ 12) (hk : rk num (W * H) ≤ 24) : WLs W H num (WL W H num) :=
  ⟨hW, Nat.mul_le_mul hW.2 hH.2, WL_sm hW hH hk, fun k hk2 => (wL_isW (W := W) (H := H) (num := num) (by omega) (Nat.le_refl _) (gw_mem hk2)).1⟩
theorem isW_div {W H : Nat} {num : Nat → Int32} {x : Wy} (hW : 3 ≤ W) (h : isW W H num x) : (x.1 / W = x.2.1 / W ↔ x.2.2 = 1) := by
  obtain ⟨h1, h2, h3, h4, ⟨h5, h6, h7⟩ | ⟨h5, h6, h7⟩⟩ := h
  · exact ⟨fun _ => h5, fun _ => h6⟩
  · refine ⟨fun e => ?_, fun e => by omega⟩
    have a1 := Nat.div_add_mod x.1 W
    have a2 := Nat.div_add_mod x.2.1 W
    rw [e, h6] at a1
    omega
theorem across_m {W H : Nat} {num s one other : Nat → Int32} {l : List Wy} {Mw : Int32} (hs : MS W H num s) (hl : WLs W H num l) (h : mrep l Mw one other) {k : Nat} (hk : k < l.length) : m_X10_isAcross s one other (nI k) = some (bI (decide ((gw l k).2.2 = 1))) := by
  obtain ⟨hW, hM, hsm, hw⟩ := hl
  obtain ⟨g1, g2⟩ := h.2 k hk
  obtain ⟨q1, q2, q3, q4⟩ := hsm.2 k hk
  have hk48 : k < 48 := by have := hsm.1; omega
  unfold m_X10_isAcross
  rw [rd_nI hk48 (by omega), rd0 (by omega) (by omega), g1, hs.1, dvd_nI (by omega) (by omega) (by omega), rd_nI hk48 (by omega), rd0 (by omega) (by omega), g2, hs.1, dvd_nI (by omega) (by omega) (by omega)]
  have hd1 := Nat.div_le_self (gw l k).1 W
  have hd2 := Nat.div_le_self (gw l k).2.1 W
  by_cases c : (gw l k).2.2 = 1
  · rw [decide_eq_true c, if_pos (by rw [(isW_div hW.1 (hw k hk)).mpr c])]; rfl
  · rw [decide_eq_false c, if_neg (fun z => c ((isW_div hW.1 (hw k hk)).mp (nI_i (by omega) (by omega) z)))]; rfl
theorem between_m {W H : Nat} {num s one other : Nat → Int32} {l : List Wy} {Mw : Int32} (hs : MS W H num s) (hl : WLs W H num l) (h : mrep l Mw one other) {k c : Nat} (hk : k < l.length) (hc : c < 144) : m_X10_isBetween s one other (nI c) (nI k) = some (bI (ov (gw l k) c)) := by
  obtain ⟨hW, hM, hsm, hw⟩ := id hl
  obtain ⟨g1, g2⟩ := h.2 k hk
  obtain ⟨q1, q2, q3, q4⟩ := hsm.2 k hk
  have hk48 : k < 48 := by have := hsm.1; omega
  have j69 : ∀ b : Bool, m_X10_isBetween_j69 one other (nI c) (nI k) (bI b) = some (bI (b && (decide ((gw l k).1 < c) && decide (c < (gw l k).2.1)))) := by
    intro b
    unfold m_X10_isBetween_j69
    cases b with
    | false => rfl
    | true =>
      rw [if_neg (by decide), rd_nI hk48 (by omega), g1]
      by_cases c1 : (gw l k).1 < c
      · rw [if_neg (nI_ge c1 (by omega)), rd_nI hk48 (by omega), g2, decide_eq_true c1]
        by_cases c2 : c < (gw l k).2.1
        · rw [if_neg (nI_ge c2 (by omega)), decide_eq_true c2]; rfl
        · rw [if_pos (nI_le (by omega) (by omega)), decide_eq_false c2]; rfl
      · rw [if_pos (nI_le (by omega) (by omega)), decide_eq_false c1]; rfl
  unfold m_X10_isBetween
  rw [across_m hs hl h hk, bd1_some]
  have t1 := j69 true
  have t0 := j69 false
  rw [bI_t] at t1
  rw [bI_f] at t0
  by_cases c1 : (gw l k).2.2 = 1
  · rw [decide_eq_true c1, if_neg (by decide), rd0 (by omega) (by omega), hs.1, dvd_nI (by omega) (by omega) (by omega), rd_nI hk48 (by omega), g1, rd0 (by omega) (by omega), hs.1, dvd_nI (by omega) (by omega) (by omega), t1, t0]
    have hd1 := Nat.div_le_self (gw l k).1 W
    have hd2 := Nat.div_le_self c W
    have hrow := (isW_div hW.1 (hw k hk)).mpr c1
    unfold ov
    rw [c1, Nat.mod_one, decide_eq_true (rfl : 0 = 0), Bool.and_true]
    by_cases c2 : c / W = (gw l k).1 / W
    · rw [if_pos (by rw [c2]), Bool.true_and]
    · rw [if_neg (fun z => c2 (nI_i (by omega) (by omega) z)), Bool.false_and]
      congr 2
      by_cases c3 : (gw l k).1 < c
      · by_cases c4 : c < (gw l k).2.1
        · have z1 := Nat.div_le_div_right (c := W) (Nat.le_of_lt c3)
          have z2 := Nat.div_le_div_right (c := W) (Nat.le_of_lt c4)
          exact absurd (by omega) c2
        · rw [decide_eq_false c4, Bool.and_false]
      · rw [decide_eq_false c3, Bool.false_and]
  · rw [decide_eq_false c1, if_pos (by decide), rd0 (by omega) (by omega), hs.1, rmd_nI (by omega) (by omega) (by omega), rd_nI hk48 (by omega), g1, rd0 (by omega) (by omega), hs.1, rmd_nI (by omega) (by omega) (by omega), t1, t0]
    have hd1 := Nat.mod_le (gw l k).1 W
    have hd2 := Nat.mod_le c W
    have hWs : (gw l k).2.2 = W := by
      rcases (hw k hk).2.2.2.2 with ⟨z, -⟩ | ⟨z, -⟩
      · exact absurd z c1
      · exact z
    unfold ov
    rw [hWs]
    by_cases c3 : (gw l k).1 < c
    · have key : c % W = (gw l k).1 % W ↔ (c - (gw l k).1) % W = 0 := by
        have e0 : c = (gw l k).1 + (c - (gw l k).1) := by omega
        generalize hd : c - (gw l k).1 = d at e0 ⊢
        have a1 := Nat.div_add_mod d W
        have a2 := Nat.mod_lt d (show 0 < W by omega)
        constructor
        · intro e
          have b1 := Nat.div_add_mod c W
          have b2 := Nat.div_add_mod (gw l k).1 W
          have : d = W * (c / W) - W * ((gw l k).1 / W) := by omega
          rw [this, ← Nat.mul_sub, Nat.mul_mod_right]
        · intro e
          rw [e0, show d = W * (d / W) by omega, Nat.add_mul_mod_self_left]
      by_cases c2 : c % W = (gw l k).1 % W
      · rw [if_pos (by rw [c2]), Bool.true_and, decide_eq_true (key.mp c2), Bool.and_true]
      · rw [if_neg (fun z => c2 (nI_i (by omega) (by omega) z)), Bool.false_and, decide_eq_false (fun z => c2 (key.mpr z)), Bool.and_false, Bool.and_false]
    · simp [c3]
theorem cross_m {W H : Nat} {num s one other : Nat → Int32} {l : List Wy} {Mw : Int32} (hs : MS W H num s) (hl : WLs W H num l) (h : mrep l Mw one other) {i j : Nat} (hi : i < l.length) (hj : j < l.length) : m_X10_cross s one other (nI i) (nI j) = some (bI (crs W (gw l i) (gw l j))) := by
  obtain ⟨hW, hM, hsm, hw⟩ := id hl
  have h48 := hsm.1
  have meet : ∀ x y : Nat, x < l.length → y < l.length → nI i + nI j - nI x = nI y → m_X10_cross_j28 s one other (nI i) (nI j) (nI x) = some (bI (ov (gw l x) ((gw l x).1 - (gw l x).1 % W + (gw l y).1 % W) && ov (gw l y) ((gw l x).1 - (gw l x).1 % W + (gw l y).1 % W))) := by
    intro x y hx hy e
    have hxs := hsm.2 x hx
    have hys := hsm.2 y hy
    have hx1 : (gw l x).1 < W * H := Nat.lt_trans (hw x hx).1 (hw x hx).2.1
    have hm : (gw l x).1 - (gw l x).1 % W + (gw l y).1 % W < 144 := by
      have h1 := Nat.mod_lt (gw l y).1 (show 0 < W by omega)
      have h2 := Nat.mod_lt (gw l x).1 (show 0 < W by omega)
      have := (row_in (W := W) (H := H) (c := (gw l x).1) (k := W - 1 - (gw l x).1 % W) (by omega) hx1 (Nat.le_refl _)).2.1
      have := Nat.mod_le (gw l x).1 W
      generalize (gw l x).1 % W = r at *
      generalize (gw l y).1 % W = r2 at *
      omega
    unfold m_X10_cross_j28
    simp only [lt1]
    rw [e, rd_nI (by omega) (by omega), rd0 (by omega) (by omega), hs.1, (h.2 x hx).1, dvd_nI (by omega) (by omega) (by omega), rd0 (by omega) (by omega), hs.1, rd_nI (by omega) (by omega), (h.2 y hy).1, rd0 (by omega) (by omega), hs.1, rmd_nI (by omega) (by omega) (by omega), pk_mul, nI_add]
    have hdm := Nat.div_add_mod (gw l x).1 W
    rw [Nat.mul_comm] at hdm
    rw [show (gw l x).1 / W * W + (gw l y).1 % W = (gw l x).1 - (gw l x).1 % W + (gw l y).1 % W by omega, between_m hs hl h hx hm, between_m hs hl h hy hm]
    simp only [bd1_some]
    cases ov (gw l x) _ <;> cases ov (gw l y) _ <;> rfl
  unfold m_X10_cross
  rw [across_m hs hl h hi, bd1_some, across_m hs hl h hj, bd1_some]
  unfold crs mt
  by_cases c1 : (gw l i).2.2 = 1
  · rw [decide_eq_true c1, if_pos c1]
    by_cases c2 : (gw l j).2.2 = 1
    · rw [decide_eq_true c2]; rfl
    · rw [decide_eq_false c2, if_neg (show ¬ bI true = bI false by decide), bd1_some, if_neg (show ¬ bI true = 0 by decide), meet i j hi hj (by rw [nI_add, pk_sub (by omega), Nat.add_sub_cancel_left])]; rfl
  · rw [decide_eq_false c1, if_neg c1]
    by_cases c2 : (gw l j).2.2 = 1
    · rw [decide_eq_true c2, if_neg (show ¬ bI false = bI true by decide), bd1_some, if_pos (show bI false = 0 by decide), meet j i hj hi (by rw [nI_add, pk_sub (by omega), Nat.add_sub_cancel])]
      rw [Bool.and_comm]; rfl
    · rw [decide_eq_false c2]; rfl
theorem isOf_m {W H : Nat} {num one other : Nat → Int32} {l : List Wy} {Mw : Int32} (hl : WLs W H num l) (h : mrep l Mw one other) {k c : Nat} (hk : k < l.length) (hc : c < 2 ^ 31) : m_X10_isOf one other (nI k) (nI c) = some (bI (decide ((gw l k).1 = c ∨ (gw l k).2.1 = c))) := by
  obtain ⟨hW, hM, hsm, hw⟩ := hl
  obtain ⟨g1, g2⟩ := h.2 k hk
  obtain ⟨q1, q2, q3, q4⟩ := hsm.2 k hk
  have hk48 : k < 48 := by have := hsm.1; omega
  unfold m_X10_isOf
  rw [rd_nI hk48 (by omega), g1]
  by_cases c1 : (gw l k).1 = c
  · rw [if_pos (by rw [c1]), decide_eq_true (Or.inl c1)]; rfl
  · rw [if_neg (fun z => c1 (nI_i (by omega) hc z)), rd_nI hk48 (by omega), g2]
    by_cases c2 : (gw l k).2.1 = c
    · rw [if_pos (by rw [c2]), decide_eq_true (Or.inr c2)]; rfl
    · rw [if_neg (fun z => c2 (nI_i (by omega) hc z)), decide_eq_false (by rintro (z | z) <;> contradiction)]; rfl
/-- bridges and caps of the ways, in the reference's row -/
def MB (n : Nat) (br cp s : Nat → Int32) : Prop := ∀ k, k < n → s (148 + k) = br k ∧ s (196 + k) = cp k
theorem bridges_m {n : Nat} {br cp s : Nat → Int32} (h : MB n br cp s) (hn : n ≤ 48) {k : Nat} (hk : k < n) : m_X10_bridges s (nI k) = some (br k) := by
  unfold m_X10_bridges
  rw [show (148 : Int32) = nI 148 from rfl, nI_add, rd_nI (by omega) (by omega), (h k hk).1]
theorem capOf_m {n : Nat} {br cp s : Nat → Int32} (h : MB n br cp s) (hn : n ≤ 48) {k : Nat} (hk : k < n) : m_X10_capOf s (nI k) = some (cp k) := by
  unfold m_X10_capOf
  rw [show (196 : Int32) = nI 196 from rfl, nI_add, rd_nI (by omega) (by omega), (h k hk).2]
/-- the sum of a row over an island's ways -/
def sI (l : List Wy) (f : Nat → Int32) (c : Nat) : Int32 := iS (fun k => if (gw l k).1 = c ∨ (gw l k).2.1 = c then f k else 0) l.length
theorem bI_dec (p : Prop) [Decidable p] : bI (decide p) = if p then 1 else 0 := by
  by_cases c : p
  · rw [decide_eq_true c, if_pos c]; rfl
  · rw [decide_eq_false c, if_neg c]; rfl
theorem bridgesOf_m {W H N : Nat} {num s one other br cp : Nat → Int32} {l : List Wy} {Mw : Int32} (hl : WLs W H num l) (h : mrep l Mw one other) (hb : MB l.length br cp s) {c : Nat} (hc : c < 2 ^ 31) (hN : 144 < N) : m_X10_bridgesOf N Mw s one other (nI c) = some (sI l br c) := by
  have h48 := hl.2.2.1.1
  have hMw := h.1
  subst hMw
  unfold m_X10_bridgesOf
  refine zl2g1 (fun o => o = some (sI l br c)) l.length (fun i v => v = iS (fun k => if (gw l k).1 = c ∨ (gw l k).2.1 = c then br k else 0) i) ?_ ?_ N 0 _ (by omega) (by omega) rfl
  · intro rec i v hi hv
    refine Or.inr ⟨_, ?_, rfl⟩
    unfold m_X10_bridgesOf_b4
    rw [if_neg (nI_ge hi (by omega)), isOf_m hl h hi hc, bd1_some, hv]
    show _ = rec (_ + (if (gw l i).1 = c ∨ (gw l i).2.1 = c then br i else 0)) _
    by_cases c1 : (gw l i).1 = c ∨ (gw l i).2.1 = c
    · rw [decide_eq_true c1, if_neg (by decide), if_pos c1, bridges_m hb h48 hi, bd1_some]
      unfold m_X10_bridgesOf_j31
      simp only [lt1, nI_s]
    · rw [decide_eq_false c1, if_pos (by decide), if_neg c1]
      unfold m_X10_bridgesOf_j31
      simp only [lt1, nI_s]
  · intro rec v hv
    unfold m_X10_bridgesOf_b4
    rw [if_pos (nI_le (Nat.le_refl _) (by omega)), hv]; rfl
theorem capsOf_m {W H N : Nat} {num s one other br cp : Nat → Int32} {l : List Wy} {Mw : Int32} (hl : WLs W H num l) (h : mrep l Mw one other) (hb : MB l.length br cp s) {c : Nat} (hc : c < 2 ^ 31) (hN : 144 < N) : m_X10_capsOf N Mw s one other (nI c) = some (sI l cp c) := by
  have h48 := hl.2.2.1.1
  have hMw := h.1
  subst hMw
  unfold m_X10_capsOf
  refine zl2g1 (fun o => o = some (sI l cp c)) l.length (fun i v => v = iS (fun k => if (gw l k).1 = c ∨ (gw l k).2.1 = c then cp k else 0) i) ?_ ?_ N 0 _ (by omega) (by omega) rfl
  · intro rec i v hi hv
    refine Or.inr ⟨_, ?_, rfl⟩
    unfold m_X10_capsOf_b4
    rw [if_neg (nI_ge hi (by omega)), isOf_m hl h hi hc, bd1_some, hv]
    show _ = rec (_ + (if (gw l i).1 = c ∨ (gw l i).2.1 = c then cp i else 0)) _
    by_cases c1 : (gw l i).1 = c ∨ (gw l i).2.1 = c
    · rw [decide_eq_true c1, if_neg (by decide), if_pos c1, capOf_m hb h48 hi, bd1_some]
      unfold m_X10_capsOf_j31
      simp only [lt1, nI_s]
    · rw [decide_eq_false c1, if_pos (by decide), if_neg c1]
      unfold m_X10_capsOf_j31
      simp only [lt1, nI_s]
  · intro rec v hv
    unfold m_X10_capsOf_b4
    rw [if_pos (nI_le (Nat.le_refl _) (by omega)), hv]; rfl
theorem waysOf_m {W H N : Nat} {num one other : Nat → Int32} {l : List Wy} {Mw : Int32} (hl : WLs W H num l) (h : mrep l Mw one other) {c : Nat} (hc : c < 2 ^ 31) (hN : 144 < N) : m_X10_waysOf N Mw one other (nI c) = some (icnt l c) := by
  have h48 := hl.2.2.1.1
  have hMw := h.1
  subst hMw
  unfold m_X10_waysOf
  refine zl2g1 (fun o => o = some (icnt l c)) l.length (fun i v => v = iS (fun k => if (gw l k).1 = c ∨ (gw l k).2.1 = c then 1 else 0) i) ?_ ?_ N 0 _ (by omega) (by omega) rfl
  · intro rec i v hi hv
    refine Or.inr ⟨_, ?_, rfl⟩
    unfold m_X10_waysOf_b4
    rw [if_neg (nI_ge hi (by omega)), isOf_m hl h hi hc, bd1_some, hv]
    show _ = rec (_ + (if (gw l i).1 = c ∨ (gw l i).2.1 = c then 1 else 0)) _
    by_cases c1 : (gw l i).1 = c ∨ (gw l i).2.1 = c
    · rw [decide_eq_true c1, if_neg (by decide), if_pos c1]
      unfold m_X10_waysOf_j27
      simp only [lt1, nI_s]
    · rw [decide_eq_false c1, if_pos (by decide), if_neg c1]
      unfold m_X10_waysOf_j27
      simp only [lt1, nI_s]
  · intro rec v hv
    unfold m_X10_waysOf_b4
    rw [if_pos (nI_le (Nat.le_refl _) (by omega)), hv]; rfl
theorem lacks_m {W H N : Nat} {num s one other br cp : Nat → Int32} {l : List Wy} {Mw : Int32} (hs : MS W H num s) (hl : WLs W H num l) (h : mrep l Mw one other) (hb : MB l.length br cp s) {c : Nat} (hc : c < 144) (hN : 144 < N) : m_X10_lacks N Mw s one other (nI c) = some (num c - sI l br c) := by
  unfold m_X10_lacks
  rw [number_m hs hc, bd1_some, bridgesOf_m hl h hb (by omega) hN, bd1_some]
/-- how many ways cross one: all (b false), or those with bridges -/
def xI (W : Nat) (l : List Wy) (br : Nat → Int32) (k : Nat) (b : Bool) : Int32 := iS (fun j => if crs W (gw l k) (gw l j) = true ∧ (b = true → 0 < br j) then 1 else 0) l.length
theorem crossings_m {W H N : Nat} {num s one other br cp : Nat → Int32} {l : List Wy} {Mw : Int32} (hs : MS W H num s) (hl : WLs W H num l) (h : mrep l Mw one other) (hb : MB l.length br cp s) {k : Nat} (hk : k < l.length) (b : Bool) (hN : 144 < N) : m_X10_crossings N Mw s one other (nI k) (bI b) = some (xI W l br k b) := by
  have h48 := hl.2.2.1.1
  have hMw := h.1
  subst hMw
  unfold m_X10_crossings
  refine zl2g1 (fun o => o = some (xI W l br k b)) l.length (fun i v => v = iS (fun j => if crs W (gw l k) (gw l j) = true ∧ (b = true → 0 < br j) then 1 else 0) i) ?_ ?_ N 0 _ (by omega) (by omega) rfl
  · intro rec i v hi hv
    refine Or.inr ⟨_, ?_, rfl⟩
    unfold m_X10_crossings_b5
    rw [if_neg (nI_ge hi (by omega)), cross_m hs hl h hk hi, bd1_some, hv]
    show _ = rec (_ + (if crs W (gw l k) (gw l i) = true ∧ (b = true → 0 < br i) then 1 else 0)) _
    have e0 : ∀ w : Int32, m_X10_crossings_j42 rec (nI i) w = rec (w + 0) (nI (i + 1)) := by
      intro w
      unfold m_X10_crossings_j42 m_X10_crossings_j43
      simp only [lt1, nI_s]
    have e1 : ∀ w : Int32, m_X10_crossings_j38 rec (nI i) w = rec (w + 1) (nI (i + 1)) := by
      intro w
      unfold m_X10_crossings_j38 m_X10_crossings_j43
      simp only [lt1, nI_s]
    cases c1 : crs W (gw l k) (gw l i) with
    | false => rw [if_pos bI_f, e0, if_neg (by rintro ⟨z, -⟩; cases z)]
    | true =>
      rw [if_neg (by decide)]
      cases b with
      | false => rw [if_pos bI_f, e1, if_pos ⟨rfl, fun z => by cases z⟩]
      | true =>
        rw [if_neg (by decide), bridges_m hb h48 hi, bd1_some]
        by_cases c2 : 0 < br i
        · rw [if_neg (fun z => absurd c2 (Int32.not_lt.mpr z)), e1, if_pos ⟨rfl, fun _ => c2⟩]
        · rw [if_pos (Int32.not_lt.mp c2), e0, if_neg (fun z => c2 (z.2 rfl))]
  · intro rec v hv
    unfold m_X10_crossings_b5
    rw [if_pos (nI_le (Nat.le_refl _) (by omega)), hv]; rfl
