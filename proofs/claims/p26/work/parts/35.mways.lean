/-! the reference's cells, numbers, ways -/
theorem pos_ne {x : Int32} (h : 0 ≤ x) (h2 : ¬ x = 0) : 0 < x := by
  rw [Int32.lt_iff_toInt_lt]
  rw [Int32.le_iff_toInt_le] at h
  have h3 : x.toInt ≠ (0 : Int32).toInt := fun e => h2 (Int32.toInt_inj.mp e)
  omega
theorem ne_pos {x : Int32} (h : 0 < x) : ¬ x = 0 := fun e => by rw [e] at h; exact absurd h (by decide)
theorem z_np {x : Int32} (h : x = 0) : ¬ 0 < x := fun e => ne_pos e h
def nn (num : Nat → Int32) : Prop := ∀ c, c < 144 → 0 ≤ num c
theorem np_z {num : Nat → Int32} (hn : nn num) {c : Nat} (hc : c < 144) (h : ¬ 0 < num c) : num c = 0 := by
  by_cases e : num c = 0
  · exact e
  · exact absurd (pos_ne (hn c hc) e) h
def MS (W H : Nat) (num s : Nat → Int32) : Prop := s 0 = nI W ∧ s 1 = nI H ∧ ∀ c, c < 144 → s (4 + c) = num c
def mrep (l : List Wy) (Mw : Int32) (one other : Nat → Int32) : Prop := Mw = nI l.length ∧ ∀ k, k < l.length → one k = nI (gw l k).1 ∧ other k = nI (gw l k).2.1
theorem rd0 {Z : Type} {n : Nat} {f : Nat → Int32} {k : Int32 → Option Z} (hn : 0 < n) (h2 : n < 2 ^ 31) : rd n f 0 k = k (f 0) := rd_nI (i := 0) hn h2
theorem cells_m {W H : Nat} {num s : Nat → Int32} (h : MS W H num s) : m_X10_cells s = some (nI (W * H)) := by
  unfold m_X10_cells
  rw [rd0 (by omega) (by omega), show (1 : Int32) = nI 1 from rfl, rd_nI (by omega) (by omega), h.1, h.2.1, pk_mul]
theorem number_m {W H : Nat} {num s : Nat → Int32} (h : MS W H num s) {c : Nat} (hc : c < 144) : m_X10_number s (nI c) = some (num c) := by
  unfold m_X10_number
  rw [show (4 : Int32) = nI 4 from rfl, nI_add, rd_nI (by omega) (by omega), h.2.2 c hc]
theorem joins_m {l : List Wy} {Mw : Int32} {one other : Nat → Int32} (h : mrep l Mw one other) (hl : l.length < 48) (a d s : Nat) : ∃ Mw' one' other', m_X10_joins Mw one other (nI a) (nI d) = some (Mw', one', other') ∧ mrep (l ++ [(a, d, s)]) Mw' one' other' := by
  obtain ⟨rfl, h⟩ := h
  unfold m_X10_joins
  rw [wr_nI hl (by omega), wr_nI hl (by omega)]
  simp only [lt1, nI_s]
  refine ⟨_, _, _, rfl, by rw [List.length_append]; rfl, fun k hk => ?_⟩
  rw [List.length_append] at hk
  have hk : k < l.length + 1 := hk
  rcases Nat.lt_or_ge k l.length with q | q
  · rw [gw_l q, upd_n (by omega), upd_n (by omega)]; exact h k q
  · have : k = l.length := by omega
    subst this
    rw [gw_e, upd_s, upd_s]; exact ⟨rfl, rfl⟩
/-- where the search to the right, and downward, comes to -/
def rE (W : Nat) (num : Nat → Int32) (a : Nat) : Nat := match nx num 1 (W - 1 - a % W) a with
  | some d => d
  | none => a - a % W + W
def dE (W H : Nat) (num : Nat → Int32) (n c : Nat) : Nat := match nx num W n c with
  | some d => d
  | none => c + (n + 1) * W
theorem right_m {W H N N2 : Nat} {num s : Nat → Int32} (hW : 3 ≤ W ∧ W ≤ 12) (hM : W * H ≤ 144) (hn : nn num) (h : MS W H num s) {a : Nat} (ha : a < W * H) {rec : Int32 → Int32 → (Nat → Int32) → (Nat → Int32) → Option (Int32 × (Nat → Int32) × (Nat → Int32))} {y2 : Int32} {y3 y4 : Nat → Int32} (hN : 144 < N) : zl1 (m_X10_findWays_b27 N2 s rec (nI a) y2 y3 y4) N (nI (a + 1)) = m_X10_findWays_j52 N2 s rec (nI a) (nI (rE W num a)) y2 y3 y4 := by
  have hW0 : 0 < W := by omega
  have hmod := Nat.mod_lt a hW0
  have hle := Nat.mod_le a W
  have hdm := Nat.div_add_mod a W
  have hro := (row_in (W := W) (H := H) (c := a) (k := W - 1 - a % W) hW0 ha (Nat.le_refl _)).2.1
  refine zl1g0 (fun o => o = m_X10_findWays_j52 N2 s rec (nI a) (nI (rE W num a)) y2 y3 y4) (a - a % W + W) (fun i => a + 1 ≤ i ∧ nx num 1 (W - 1 - a % W) a = nx num 1 (a - a % W + W - i) (i - 1)) ?_ ?_ N (a + 1) (by omega) (by omega) ⟨Nat.le_refl _, by rw [show a - a % W + W - (a + 1) = W - 1 - a % W by omega, Nat.add_sub_cancel]⟩
  · rintro rec2 i hi ⟨h1, h2⟩
    have him := (row_in (W := W) (H := H) (c := a) (k := i - a) hW0 ha (by omega)).2.2
    rw [show a + (i - a) = i by omega] at him
    have e2 : nx num 1 (a - a % W + W - i) (i - 1) = if 0 < num i then some i else nx num 1 (a - a % W + W - (i + 1)) i := by
      rw [show a - a % W + W - i = (a - a % W + W - (i + 1)) + 1 by omega]
      show (if 0 < num (i - 1 + 1) then some (i - 1 + 1) else nx num 1 (a - a % W + W - (i + 1)) (i - 1 + 1)) = _
      rw [show i - 1 + 1 = i by omega]
    unfold m_X10_findWays_b27
    rw [rd0 (by omega) (by omega), h.1, rmd_nI (by omega) hW0 (by omega), if_neg (by rw [kk0_eq (by omega)]; omega), number_m h (by omega), bd1_some]
    by_cases hp : num i = 0
    · rw [if_pos hp]
      simp only [lt1, nI_s]
      refine Or.inr ⟨trivial, by omega, ?_⟩
      rw [h2, e2, if_neg (z_np hp), Nat.add_sub_cancel]
    · rw [if_neg hp]
      refine Or.inl ?_
      have : rE W num a = i := by
        unfold rE
        rw [h2, e2, if_pos (pos_ne (hn i (by omega)) hp)]
      rw [this]
  · rintro rec2 ⟨h1, h2⟩
    rw [Nat.sub_self] at h2
    have : rE W num a = a - a % W + W := by
      unfold rE
      rw [h2]; rfl
    rw [this]
    unfold m_X10_findWays_b27
    have hz : (a - a % W + W) % W = 0 := by
      rw [Nat.add_mod_right, show a - a % W = W * (a / W) by omega, Nat.mul_mod_right]
    rw [rd0 (by omega) (by omega), h.1, rmd_nI (by omega) hW0 (by omega), hz, if_pos (show nI 0 = 0 from rfl)]
theorem down_m {W H : Nat} {num s : Nat → Int32} (hW : 3 ≤ W ∧ W ≤ 12) (hM : W * H ≤ 144) (hn : nn num) (h : MS W H num s) {a : Nat} {rec : Int32 → Int32 → (Nat → Int32) → (Nat → Int32) → Option (Int32 × (Nat → Int32) × (Nat → Int32))} {y2 : Int32} {y3 y4 : Nat → Int32} : ∀ (n c N : Nat), n < N → c + n * W < W * H → W * H ≤ c + (n + 1) * W → zl1 (m_X10_findWays_b78 s rec (nI a) y2 y3 y4) N (nI (c + W)) = m_X10_findWays_j106 s rec (nI a) (nI (dE W H num n c)) y2 y3 y4 := by
  intro n
  induction n with
  | zero =>
    intro c N hN h1 h2
    match N, hN with
    | N + 1, _ =>
      rw [zl1_s]
      unfold m_X10_findWays_b78
      rw [cells_m h, bd1_some, if_pos (nI_le (by omega) (by omega))]
      show _ = m_X10_findWays_j106 s rec (nI a) (nI (c + (0 + 1) * W)) y2 y3 y4
      rw [Nat.zero_add, Nat.one_mul]
  | succ n ih =>
    intro c N hN h1 h2
    match N, hN with
    | N + 1, hN =>
      have e1 : (n + 1) * W = n * W + W := Nat.succ_mul n W
      have e2 : (n + 1 + 1) * W = (n + 1) * W + W := Nat.succ_mul (n + 1) W
      rw [zl1_s]
      generalize hg : zl1 (m_X10_findWays_b78 s rec (nI a) y2 y3 y4) N = g
      unfold m_X10_findWays_b78
      rw [cells_m h, bd1_some, if_neg (nI_ge (by omega) (by omega)), number_m h (by omega), bd1_some]
      by_cases hp : num (c + W) = 0
      · rw [if_pos hp, rd0 (by omega) (by omega), h.1]
        simp only [lt1]
        rw [nI_add, ← hg, ih (c + W) N (by omega) (by omega) (by omega)]
        have : dE W H num (n + 1) c = dE W H num n (c + W) := by
          unfold dE
          have : nx num W (n + 1) c = nx num W n (c + W) := by
            show (if 0 < num (c + W) then some (c + W) else nx num W n (c + W)) = _
            rw [if_neg (z_np hp)]
          rw [this]
          cases nx num W n (c + W) with
          | some d => rfl
          | none => show c + (n + 1 + 1) * W = c + W + (n + 1) * W; omega
        rw [this]
      · rw [if_neg hp]
        have : dE W H num (n + 1) c = c + W := by
          unfold dE
          have : nx num W (n + 1) c = some (c + W) := by
            show (if 0 < num (c + W) then some (c + W) else nx num W n (c + W)) = _
            rw [if_pos (pos_ne (hn _ (by omega)) hp)]
          rw [this]
        rw [this]
theorem findWays_ev {W H N : Nat} {num s one other : Nat → Int32} (hW : 3 ≤ W ∧ W ≤ 12) (hH : 3 ≤ H ∧ H ≤ 12) (hn : nn num) (hk : rk num (W * H) ≤ 24) (h : MS W H num s) (hN : 144 < N) : Ev (m_X10_findWays N s one other) (fun t => mrep (WL W H num) t.1 t.2.1 t.2.2) := by
  have hM : W * H ≤ 144 := Nat.mul_le_mul hW.2 hH.2
  have hW0 : 0 < W := by omega
  unfold m_X10_findWays
  refine zl4c0 (W * H) (fun i y2 y3 y4 => mrep (wL W H num i) y2 y3 y4) ?_ ?_ N 0 _ _ _ (by omega) (by omega) ⟨rfl, fun k hk => absurd hk (Nat.not_lt_zero _)⟩
  · intro rec a y2 y3 y4 ha hr
    refine Or.inr ?_
    unfold m_X10_findWays_b7
    rw [cells_m h, bd1_some, if_neg (nI_ge ha (by omega)), number_m h (by omega), bd1_some]
    by_cases hp : 0 < num a
    · rw [if_neg (fun z => absurd hp (Int32.not_lt.mpr z))]
      simp only [lt1, nI_s]
      rw [right_m hW hM hn h ha hN]
      have hmod := Nat.mod_lt a hW0
      have hdiv : a / W < H := Nat.div_lt_of_lt_mul ha
      have hdm := Nat.div_add_mod a W
      have hro := (row_in (W := W) (H := H) (c := a) (k := W - 1 - a % W) hW0 ha (Nat.le_refl _)).2.1
      have hsz := wL_len W H num (a + 1)
      have hsz2 : rk num (a + 1) ≤ rk num (W * H) := rk_mono num ha
      have e3 : wL W H num (a + 1) = wL W H num a ++ oL (nx num 1 (W - 1 - a % W) a) a 1 ++ oL (nx num W (H - 1 - a / W) a) a W := by
        show wL W H num a ++ wAt W H num a = _
        unfold wAt
        rw [if_pos hp, List.append_assoc]
      have hsz3 : (wL W H num (a + 1)).length = (wL W H num a).length + (oL (nx num 1 (W - 1 - a % W) a) a 1).length + (oL (nx num W (H - 1 - a / W) a) a W).length := by
        rw [e3, List.length_append, List.length_append]
      have hcol := (col_in (W := W) (H := H) (c := a) (k := H - 1 - a / W) hW0 ha (Nat.le_refl _)).2.1
      have hcol2 : W * H ≤ a + (H - 1 - a / W + 1) * W := by
        have e1 : H - 1 - a / W + 1 = H - a / W := by
          generalize a / W = q at *
          omega
        rw [e1, Nat.sub_mul, Nat.mul_comm H W, Nat.mul_comm (a / W) W]
        have := Nat.mul_le_mul_left W (Nat.le_of_lt hdiv)
        omega
      -- the second half, from a list with the way to the right
      have j69 : ∀ (l : List Wy) (z2 : Int32) (z3 z4 : Nat → Int32), mrep l z2 z3 z4 → l.length + (oL (nx num W (H - 1 - a / W) a) a W).length ≤ 48 → ∃ w2 w3 w4, m_X10_findWays_j69 N s rec (nI a) z2 z3 z4 = rec (nI (a + 1)) w2 w3 w4 ∧ mrep (l ++ oL (nx num W (H - 1 - a / W) a) a W) w2 w3 w4 := by
        intro l z2 z3 z4 hl hlen
        unfold m_X10_findWays_j69
        rw [rd0 (by omega) (by omega), h.1]
        simp only [lt1]
        rw [nI_add, down_m hW hM hn h (H - 1 - a / W) a N (Nat.lt_of_le_of_lt (Nat.le_trans (Nat.sub_le _ _) (Nat.sub_le _ _)) (by omega)) hcol hcol2]
        unfold m_X10_findWays_j106
        rw [cells_m h, bd1_some]
        unfold dE
        cases e : nx num W (H - 1 - a / W) a with
        | none =>
          have hz : a + (H - 1 - a / W + 1) * W < 2 ^ 31 := by
            have : (H - 1 - a / W + 1) * W ≤ 13 * 12 := Nat.mul_le_mul (by have := Nat.sub_le (H - 1) (a / W); omega) hW.2
            omega
          show ∃ w2 w3 w4, (if nI (W * H) ≤ nI (a + (H - 1 - a / W + 1) * W) then _ else _) = _ ∧ _
          rw [if_pos (nI_le hcol2 hz)]
          unfold m_X10_findWays_j120
          simp only [lt1, nI_s]
          exact ⟨_, _, _, rfl, by rw [show l ++ oL none a W = l from List.append_nil l]; exact hl⟩
        | some d =>
          obtain ⟨k, g1, g2, g3, g4, -⟩ := nx_some e
          have hd := (col_in (W := W) (H := H) hW0 ha g2).2.1
          rw [← g3] at hd
          show ∃ w2 w3 w4, (if nI (W * H) ≤ nI d then _ else _) = _ ∧ _
          rw [if_neg (nI_ge hd (by omega))]
          rw [e] at hlen
          obtain ⟨b1, b2, b3, e1, e2⟩ := joins_m hl (by have : (oL (some d) a W).length = 1 := rfl; omega) a d W
          rw [e1, bd3_some]
          unfold m_X10_findWays_j120
          simp only [lt1, nI_s]
          exact ⟨_, _, _, rfl, e2⟩
      have hb := wL_len W H num (a + 1)
      unfold m_X10_findWays_j52
      rw [rd0 (by omega) (by omega), h.1]
      rw [e3]
      unfold rE
      cases e : nx num 1 (W - 1 - a % W) a with
      | none =>
        show ∃ w2 w3 w4, rmd (nI (a - a % W + W)) (nI W) _ = _ ∧ _
        have hz : (a - a % W + W) % W = 0 := by
          rw [Nat.add_mod_right, show a - a % W = W * (a / W) by omega, Nat.mul_mod_right]
        rw [rmd_nI (by omega) hW0 (by omega), hz, if_pos (show nI 0 = 0 from rfl)]
        rw [e] at hsz3
        have := j69 (wL W H num a) y2 y3 y4 hr (by omega)
        rw [show wL W H num a ++ oL none a 1 = wL W H num a from List.append_nil _]
        exact this
      | some d =>
        obtain ⟨k, g1, g2, g3, g4, -⟩ := nx_some e
        rw [Nat.mul_one] at g3
        have hd := row_in (W := W) (H := H) hW0 ha g2
        rw [← g3] at hd
        show ∃ w2 w3 w4, rmd (nI d) (nI W) _ = _ ∧ _
        rw [rmd_nI (by omega) hW0 (by omega), if_neg (by rw [kk0_eq (by omega)]; omega)]
        rw [e] at hsz3
        have ho : (oL (some d) a 1).length = 1 := rfl
        obtain ⟨b1, b2, b3, e1, e2⟩ := joins_m hr (by omega) a d 1
        rw [e1, bd3_some]
        exact j69 _ _ _ _ e2 (by rw [List.length_append]; show _ + 1 + _ ≤ _; omega)
    · rw [if_pos (Int32.not_lt.mp hp)]
      unfold m_X10_findWays_j120
      simp only [lt1, nI_s]
      refine ⟨_, _, _, rfl, ?_⟩
      rw [← wL_rk (Nat.le_succ a) (rk_s0 hp).symm]
      exact hr
  · intro rec y2 y3 y4 hr
    unfold m_X10_findWays_b7
    rw [cells_m h, bd1_some, if_pos (nI_le (Nat.le_refl _) (by omega))]
    exact Ev.some hr
