/-! way, between, islandInfo -/
theorem in_or {m : Nat} (hm : m < 2 ^ 31) (x : Int32) : (m_X10_in x 0 (nI m) = 0 ∧ ∀ c, c ≤ m → x ≠ nI c) ∨ (m_X10_in x 0 (nI m) = 1 ∧ ∃ c, c ≤ m ∧ x = nI c) := by
  by_cases h : x < 0
  · left
    refine ⟨by unfold m_X10_in; rw [if_pos h], fun c hc e => ?_⟩
    subst e
    exact nI_pos (by omega) h
  · obtain ⟨c, e, hc⟩ := nI_ex (Int32.not_lt.mp h)
    subst e
    by_cases h2 : c ≤ m
    · right
      refine ⟨?_, c, h2, rfl⟩
      unfold m_X10_in
      rw [if_neg h, if_neg (nI_nlt h2 hm)]
    · left
      refine ⟨?_, fun d hd e => ?_⟩
      · unfold m_X10_in
        rw [if_neg h, if_pos (nI_lt (by omega) hc)]
      · have := nI_i hc (by omega) e
        omega
theorem ite_iff {α : Type} {a b : Prop} [Decidable a] [Decidable b] {x y : α} (h : a ↔ b) : (if a then x else y) = (if b then x else y) := by
  by_cases c : a
  · rw [if_pos c, if_pos (h.mp c)]
  · rw [if_neg c, if_neg (fun z => c (h.mpr z))]
theorem secondCell_nI {num : Nat → Int32} {l : List Wy} {Yw : Int32} {fi se fC sC st : Nat → Int32} (h : wrep num l Yw fi se fC sC st) (hs : wsm l) {k : Nat} (hk : k < l.length) : m_X2_secondCell sC (nI k) = nI (gw l k).2.1 := by
  unfold m_X2_secondCell
  simp only [lt1]
  rw [vAt_nI (by have := hs.1; omega) (by omega), (h.2 k hk).2.2.2.1]
theorem cellsBetween_nI {num : Nat → Int32} {l : List Wy} {Yw : Int32} {fi se fC sC st : Nat → Int32} (h : wrep num l Yw fi se fC sC st) (hs : wsm l) {k : Nat} (hk : k < l.length) : m_X2_cellsBetween fC sC st (nI k) = some (nI (((gw l k).2.1 - (gw l k).1) / (gw l k).2.2) - 1) := by
  obtain ⟨a1, a2, a3, a4⟩ := hs.2 k hk
  unfold m_X2_cellsBetween
  rw [vAt_nI (by have := hs.1; omega) (by omega), (h.2 k hk).2.2.2.2, secondCell_nI h hs hk, firstCell_nI h hs hk]
  simp only [lt1]
  rw [if_neg (fun e => by have := (nI_eq (b := 0) (by omega) (by omega)).mp e; omega), pk_sub (by omega), dvd_nI (by omega) (by omega) (by omega)]
theorem sim_way {W H N : Nat} {num br cp cO iA fi se fC sC st wO s one other : Nat → Int32} {cols rows grade steps Yi Yw Mw : Int32} {cr : Nat → Int64} (h : Cur W H num br cp cols rows grade steps Yi Yw Mw cO iA fi se fC sC st wO s one other cr) (un ub uc ul : Nat → Int32) (x y : Int32) (hN : 144 < N) : ∃ t r, m_X9_way N num br cp Yi Yw cO fi se fC sC st cr un ub uc ul x y = some t ∧ m_X10_way N Mw s one other x y = some r ∧ t.1 = r := by
  obtain ⟨⟨rfl, rfl⟩, hB, hL, hs, hm, hb, hbo, hx, hg, hst⟩ := h
  have hM := hB.M
  have hl := hB.wls
  have hsm := hl.2.2.1
  have h4 := hL.2.2.2.1
  have hn := hsm.1
  rcases cell_or (show (WL W H num).length < 2 ^ 31 by omega) x with ⟨k, hk, rfl⟩ | ho
  · have hwk := hl.2.2.2 k hk
    obtain ⟨a1, a2, a3, a4⟩ := hsm.2 k hk
    unfold m_X9_way m_X10_way
    rw [h4.1, hm.1, isWay_c (by omega) hk, isWay_m (by omega) hk, bd1_some]
    simp only [lt1]
    rw [if_neg (show ¬ (1 : Int32) = 0 by decide), if_neg (show ¬ (1 : Int32) = 0 by decide)]
    rcases in_or (m := 7) (by omega) y with ⟨e, hy⟩ | ⟨e, c, hc, rfl⟩
    · rw [show m_X10_in y 0 7 = 0 from e, if_pos rfl]
      simp only [show (y = (0 : Int32)) = False from eq_false (hy 0 (by omega)), show (y = (1 : Int32)) = False from eq_false (hy 1 (by omega)), show (y = (2 : Int32)) = False from eq_false (hy 2 (by omega)), show (y = (3 : Int32)) = False from eq_false (hy 3 (by omega)), show (y = (4 : Int32)) = False from eq_false (hy 4 (by omega)), show (y = (5 : Int32)) = False from eq_false (hy 5 (by omega)), show (y = (6 : Int32)) = False from eq_false (hy 6 (by omega)), show (y = (7 : Int32)) = False from eq_false (hy 7 (by omega)), if_false]
      exact ⟨_, _, rfl, rfl, rfl⟩
    · rw [if_neg (show ¬ m_X10_in (nI c) 0 7 = 0 by rw [show (7 : Int32) = nI 7 from rfl, e]; decide)]
      have hc8 : c = 0 ∨ c = 1 ∨ c = 2 ∨ c = 3 ∨ c = 4 ∨ c = 5 ∨ c = 6 ∨ c = 7 := by omega
      rcases hc8 with rfl | rfl | rfl | rfl | rfl | rfl | rfl | rfl
      · simp (decide := true) only [↓reduceIte]
        rw [firstCell_nI h4 hsm hk, rd_nI (by omega) (by omega), (hm.2 k hk).1]
        exact ⟨_, _, rfl, rfl, rfl⟩
      · simp (decide := true) only [↓reduceIte]
        rw [secondCell_nI h4 hsm hk, rd_nI (by omega) (by omega), (hm.2 k hk).2]
        exact ⟨_, _, rfl, rfl, rfl⟩
      · simp (decide := true) only [↓reduceIte]
        rw [vAt_nI (by omega) (by omega), bridges_m hb (by omega) hk]
        exact ⟨_, _, rfl, rfl, rfl⟩
      · simp (decide := true) only [↓reduceIte]
        rw [vAt_nI (by omega) (by omega), capOf_m hb (by omega) hk]
        exact ⟨_, _, rfl, rfl, rfl⟩
      · simp (decide := true) only [↓reduceIte]
        rw [cellsBetween_nI h4 hsm hk, bd1_some,
          rd_nI (by omega) (by omega), rd_nI (by omega) (by omega), (hm.2 k hk).1, (hm.2 k hk).2, pk_sub (by omega), across_m hs hl hm hk, bd1_some]
        refine ⟨_, nI (((gw (WL W H num) k).2.1 - (gw (WL W H num) k).1) / (gw (WL W H num) k).2.2) - 1, rfl, ?_, rfl⟩
        by_cases hst : (gw (WL W H num) k).2.2 = 1
        · rw [decide_eq_true hst, if_neg (show ¬ bI true = 0 by decide)]
          unfold m_X10_way_j121
          rw [show (1 : Int32) = nI 1 from rfl, dvd_nI (by omega) (by omega) (by omega), hst]
        · rw [decide_eq_false hst, if_pos (show bI false = 0 by decide), rd0 (by omega) (by omega), hs.1]
          unfold m_X10_way_j121
          rw [isW_st hwk hst, dvd_nI (by omega) (by have := hB.1; omega) (by have := hB.1; omega)]
      · simp (decide := true) only [↓reduceIte]
        rw [crossingsOf_nI (by omega), bd1_some, hL.2.2.2.2.2 k hk, pc_msk _ hn, show m_X10_crossings N (nI (WL W H num).length) s one other (nI k) 0 = some (xI W (WL W H num) br k false) by rw [← hm.1]; exact crossings_m hs hl hm hb hk false hN, bd1_some]
        refine ⟨_, _, rfl, rfl, iS_congr fun j hj => ?_⟩
        show (if _ then _ else _) = (if _ then _ else _)
        exact ite_iff ⟨fun z => ⟨z, fun w => absurd w (by decide)⟩, fun z => z.1⟩
      · simp (decide := true) only [↓reduceIte]
        rw [crossingsOf_nI (by omega), bd1_some, hL.2.2.2.2.2 k hk, waysWith_nI hn hN, bd1_some, lN_and, msk_and, pc_msk _ hn, show m_X10_crossings N (nI (WL W H num).length) s one other (nI k) 1 = some (xI W (WL W H num) br k true) by rw [← hm.1]; exact crossings_m hs hl hm hb hk true hN, bd1_some]
        refine ⟨_, _, rfl, rfl, iS_congr fun j hj => ?_⟩
        show (if _ then _ else _) = (if _ then _ else _)
        refine ite_iff ?_
        rw [Bool.and_eq_true]
        unfold bm
        rw [decide_eq_true_iff]
        exact ⟨fun z => ⟨z.1, fun _ => z.2⟩, fun z => ⟨z.1, z.2 rfl⟩⟩
      · simp (decide := true) only [↓reduceIte]
        obtain ⟨t, e1, q1⟩ := reason_c (N := N) (un := un) (ub := ub) (uc := uc) (ul := ul) hB hL hbo hk hN
        obtain ⟨z, e2, q2⟩ := reason_m (N := N) hs hl hm hb hk hN
        rw [h4.1] at e1
        rw [hm.1] at e2
        rw [e1, e2]
        exact ⟨_, _, rfl, rfl, rsn_uniq q1 q2⟩
  · unfold m_X9_way m_X10_way
    rw [h4.1, hm.1, isWay_c0 ho, isWay_m0 (by omega) ho, bd1_some]
    exact ⟨_, _, rfl, rfl, rfl⟩
/-- the first of n numbers with P, -4 if there is none -/
def fP (P : Nat → Prop) (n : Nat) (z : Int32) : Prop := (∃ k, k < n ∧ P k ∧ (∀ j, j < k → ¬ P j) ∧ z = nI k) ∨ ((∀ j, j < n → ¬ P j) ∧ z = -4)
theorem fP_uniq {P Q : Nat → Prop} {n : Nat} {y z : Int32} (he : ∀ k, k < n → (P k ↔ Q k)) (h1 : fP P n y) (h2 : fP Q n z) : y = z := by
  rcases h1 with ⟨k, a1, a2, a3, rfl⟩ | ⟨a1, rfl⟩
  · rcases h2 with ⟨j, b1, b2, b3, rfl⟩ | ⟨b1, rfl⟩
    · rcases Nat.lt_trichotomy j k with q | q | q
      · exact absurd ((he j b1).mpr b2) (a3 j q)
      · rw [q]
      · exact absurd ((he k a1).mp a2) (b3 k q)
    · exact absurd ((he k a1).mp a2) (b1 k a1)
  · rcases h2 with ⟨j, b1, b2, b3, rfl⟩ | ⟨b1, rfl⟩
    · exact absurd ((he j b1).mpr b2) (a1 j b1)
    · rfl
theorem sim_between {W H N : Nat} {num br cp cO iA fi se fC sC st wO s one other : Nat → Int32} {cols rows grade steps Yi Yw Mw : Int32} {cr : Nat → Int64} (h : Cur W H num br cp cols rows grade steps Yi Yw Mw cO iA fi se fC sC st wO s one other cr) (x y : Int32) (hN : 144 < N) : ∃ r, m_X9_between N cols rows Yw fC sC x y = some r ∧ m_X10_between N Mw s one other x y = some r := by
  obtain ⟨⟨rfl, rfl⟩, hB, hL, hs, hm, hb, hbo, hx, hg, hst⟩ := h
  have hM := hB.M
  have hl := hB.wls
  have hsm := hl.2.2.1
  have h4 := hL.2.2.2.1
  have hn := hsm.1
  unfold m_X9_between m_X10_between
  rcases cell_or (show W * H < 2 ^ 31 by omega) x with ⟨a, ha, rfl⟩ | ho
  · rw [isCell_c (by omega) ha, isCell_m (by omega) hs ha, bd1_some]
    simp only [lt1]
    rw [if_neg (show ¬ (1 : Int32) = 0 by decide), if_neg (show ¬ (1 : Int32) = 0 by decide)]
    rcases cell_or (show W * H < 2 ^ 31 by omega) y with ⟨b, hb', rfl⟩ | ho
    · rw [isCell_c (by omega) hb', isCell_m (by omega) hs hb', bd1_some]
      rw [if_neg (show ¬ (1 : Int32) = 0 by decide), if_neg (show ¬ (1 : Int32) = 0 by decide), mn_nI (by omega) (by omega), mx_nI (by omega) (by omega), h4.1, hm.1]
      have c1 : Ev (zl1 (m_X9_between_b34 (nI (WL W H num).length) fC sC (nI (min a b)) (nI (max a b))) N (nI 0)) (fP (fun k => (gw (WL W H num) k).1 = min a b ∧ (gw (WL W H num) k).2.1 = max a b) (WL W H num).length) := by
        refine zl1c0 (WL W H num).length (fun i => ∀ j, j < i → ¬ ((gw (WL W H num) j).1 = min a b ∧ (gw (WL W H num) j).2.1 = max a b)) ?_ ?_ N 0 (by omega) (by omega) (fun j hj => by omega)
        · intro rec i hi hP
          have e : m_X9_between_j76 rec (nI i) = rec (nI (i + 1)) := by
            unfold m_X9_between_j76
            simp only [lt1, nI_s]
          obtain ⟨a1, a2, a3, a4⟩ := hsm.2 i hi
          unfold m_X9_between_b34
          rw [if_neg (nI_ge hi (by omega)), firstCell_nI h4 hsm hi, secondCell_nI h4 hsm hi, e]
          simp only [lt1]
          have nxt : ¬ ((gw (WL W H num) i).1 = min a b ∧ (gw (WL W H num) i).2.1 = max a b) → ∀ j, j < i + 1 → ¬ ((gw (WL W H num) j).1 = min a b ∧ (gw (WL W H num) j).2.1 = max a b) := fun hn j hj => by
            rcases Nat.lt_succ_iff_lt_or_eq.mp hj with q | q
            · exact hP j q
            · rw [q]; exact hn
          by_cases q1 : (gw (WL W H num) i).1 = min a b
          · rw [if_pos (by rw [q1])]
            by_cases q2 : (gw (WL W H num) i).2.1 = max a b
            · rw [if_pos (by rw [q2])]
              exact Or.inl (Ev.some (Or.inl ⟨i, hi, ⟨q1, q2⟩, hP, rfl⟩))
            · rw [if_neg (fun z => q2 (nI_i (by omega) (by omega) z))]
              exact Or.inr ⟨rfl, nxt (fun z => q2 z.2)⟩
          · rw [if_neg (fun z => q1 (nI_i (by omega) (by omega) z))]
            exact Or.inr ⟨rfl, nxt (fun z => q1 z.1)⟩
        · intro rec hP
          unfold m_X9_between_b34
          rw [if_pos (nI_le (Nat.le_refl _) (by omega))]
          exact Ev.some (Or.inr ⟨hP, rfl⟩)
      have c2 : Ev (zl1 (m_X10_between_b20 (nI (WL W H num).length) one other (nI a) (nI b)) N (nI 0)) (fP (fun k => a ≠ b ∧ ((gw (WL W H num) k).1 = a ∨ (gw (WL W H num) k).2.1 = a) ∧ ((gw (WL W H num) k).1 = b ∨ (gw (WL W H num) k).2.1 = b)) (WL W H num).length) := by
        refine zl1c0 (WL W H num).length (fun i => ∀ j, j < i → ¬ (a ≠ b ∧ ((gw (WL W H num) j).1 = a ∨ (gw (WL W H num) j).2.1 = a) ∧ ((gw (WL W H num) j).1 = b ∨ (gw (WL W H num) j).2.1 = b))) ?_ ?_ N 0 (by omega) (by omega) (fun j hj => by omega)
        · intro rec i hi hP
          have e : m_X10_between_j53 rec (nI i) = rec (nI (i + 1)) := by
            unfold m_X10_between_j53
            simp only [lt1, nI_s]
          unfold m_X10_between_b20
          rw [if_neg (nI_ge hi (by omega)), e]
          have nxt : ¬ (a ≠ b ∧ ((gw (WL W H num) i).1 = a ∨ (gw (WL W H num) i).2.1 = a) ∧ ((gw (WL W H num) i).1 = b ∨ (gw (WL W H num) i).2.1 = b)) → ∀ j, j < i + 1 → ¬ (a ≠ b ∧ ((gw (WL W H num) j).1 = a ∨ (gw (WL W H num) j).2.1 = a) ∧ ((gw (WL W H num) j).1 = b ∨ (gw (WL W H num) j).2.1 = b)) := fun hn j hj => by
            rcases Nat.lt_succ_iff_lt_or_eq.mp hj with q | q
            · exact hP j q
            · rw [q]; exact hn
          by_cases q0 : a = b
          · rw [if_pos (by rw [q0])]
            exact Or.inr ⟨rfl, nxt (fun z => z.1 q0)⟩
          rw [if_neg (fun z => q0 (nI_i (by omega) (by omega) z)), isOf_m hl hm hi (by omega), bd1_some]
          by_cases q1 : (gw (WL W H num) i).1 = a ∨ (gw (WL W H num) i).2.1 = a
          · rw [decide_eq_true q1, if_neg (show ¬ bI true = 0 by decide), isOf_m hl hm hi (by omega), bd1_some]
            by_cases q2 : (gw (WL W H num) i).1 = b ∨ (gw (WL W H num) i).2.1 = b
            · rw [decide_eq_true q2, if_neg (show ¬ bI true = 0 by decide)]
              exact Or.inl (Ev.some (Or.inl ⟨i, hi, ⟨q0, q1, q2⟩, hP, rfl⟩))
            · rw [decide_eq_false q2, if_pos (show bI false = 0 by decide)]
              exact Or.inr ⟨rfl, nxt (fun z => q2 z.2.2)⟩
          · rw [decide_eq_false q1, if_pos (show bI false = 0 by decide)]
            exact Or.inr ⟨rfl, nxt (fun z => q1 z.2.1)⟩
        · intro rec hP
          unfold m_X10_between_b20
          rw [if_pos (nI_le (Nat.le_refl _) (by omega))]
          exact Ev.some (Or.inr ⟨hP, rfl⟩)
      obtain ⟨y, e1, p1⟩ := c1
      obtain ⟨z, e2, p2⟩ := c2
      have := fP_uniq (fun k hk => by obtain ⟨a1, -⟩ := hsm.2 k hk; show _ ∧ _ ↔ _ ∧ _ ∧ _; omega) p1 p2
      subst this
      exact ⟨y, e1, e2⟩
    · rw [isCell_c0 ho, isCell_m0 (by omega) hs ho, bd1_some]
      exact ⟨_, rfl, rfl⟩
  · rw [isCell_c0 ho, isCell_m0 (by omega) hs ho, bd1_some]
    exact ⟨_, rfl, rfl⟩
theorem sim_islandInfo {W H N : Nat} {num br cp cO iA fi se fC sC st wO s one other : Nat → Int32} {cols rows grade steps Yi Yw Mw : Int32} {cr : Nat → Int64} (h : Cur W H num br cp cols rows grade steps Yi Yw Mw cO iA fi se fC sC st wO s one other cr) (un ub uc ul ld gr : Nat → Int32) (x y : Int32) (hN : 100000 < N) : ∃ t r, m_X9_islandInfo N cols rows num br cp Yi Yw cO iA fi se wO un ub uc ul ld x y = some t ∧ m_X10_islandInfo N Mw s one other gr x y = some r ∧ t.1 = r.1 := by
  obtain ⟨⟨rfl, rfl⟩, hB, hL, hs, hm, hb, hbo, hx, hg, hst⟩ := h
  have hM := hB.M
  have hl := hB.wls
  have hsm := hl.2.2.1
  have h4 := hL.2.2.2.1
  have hn := hsm.1
  unfold m_X9_islandInfo m_X10_islandInfo
  rcases cell_or (show W * H < 2 ^ 31 by omega) x with ⟨c, hc, rfl⟩ | ho
  · rw [isCell_c (by omega) hc, isCell_m (by omega) hs hc, bd1_some]
    simp only [lt1]
    rw [if_neg (show ¬ (1 : Int32) = 0 by decide), if_neg (show ¬ (1 : Int32) = 0 by decide)]
    rcases in_or (m := 5) (by omega) y with ⟨e, hy⟩ | ⟨e, d, hd, rfl⟩
    · rw [show m_X10_in y 0 5 = 0 from e, if_pos rfl]
      by_cases hy0 : y < 0
      · rw [if_pos hy0]
        exact ⟨_, _, rfl, rfl, rfl⟩
      · rw [if_neg hy0, if_neg (fun z => by
          obtain ⟨d, e2, hd⟩ := nI_ex (Int32.not_lt.mp hy0)
          subst e2
          exact hy d ((kk5_Ile hd).mp z) rfl)]
        exact ⟨_, _, rfl, rfl, rfl⟩
    · rw [show m_X10_in (nI d) 0 5 = 1 from e, if_neg (show ¬ (1 : Int32) = 0 by decide), if_neg (nI_pos (by omega)), if_pos ((kk5_Ile (by omega)).mpr hd), islandOn_nI hL.2.2.1 (by omega), number_m hs (by omega), bd1_some]
      by_cases hp : 0 < num c
      · have hr := hB.r hc hp
        rw [if_pos hp, if_neg (nI_nm1 (by omega)), if_neg (ne_pos hp)]
        obtain ⟨t, e1, q⟩ := sums_ev (N := N) (br := br) (cp := cp) (un := un) (ub := ub) (uc := uc) (ul := ul) hB hL (by omega)
        obtain ⟨t3, t4, t5, t6⟩ := t
        obtain ⟨q1, q2, q3, q4⟩ := q c hc hp
        rw [e1, bd4_some]
        have hd6 : d = 0 ∨ d = 1 ∨ d = 2 ∨ d = 3 ∨ d = 4 ∨ d = 5 := by omega
        rcases hd6 with rfl | rfl | rfl | rfl | rfl | rfl
        · simp (decide := true) only [↓reduceIte]
          rw [vAt_nI (by omega) (by omega)]
          exact ⟨_, _, rfl, rfl, rfl⟩
        · simp (decide := true) only [↓reduceIte]
          rw [vAt_nI (by omega) (by omega), bridgesOf_m hl hm hb (by omega) (by omega)]
          exact ⟨_, _, rfl, rfl, q2⟩
        · simp (decide := true) only [↓reduceIte]
          rw [vAt_nI (by omega) (by omega), lacks_m hs hl hm hb (by omega) (by omega)]
          exact ⟨_, _, rfl, rfl, q4⟩
        · simp (decide := true) only [↓reduceIte]
          rw [vAt_nI (by omega) (by omega), waysOf_m hl hm (by omega) (by omega)]
          exact ⟨_, _, rfl, rfl, hL.2.2.2.2.1 c hc hp⟩
        · simp (decide := true) only [↓reduceIte]
          rw [vAt_nI (by omega) (by omega), capsOf_m hl hm hb (by omega) (by omega)]
          exact ⟨_, _, rfl, rfl, q3⟩
        · simp (decide := true) only [↓reduceIte]
          obtain ⟨z1, f1, gC, g1, g2⟩ := groups_ev (N := N) (br := br) (ld := ld) hB h4 (by omega)
          obtain ⟨z2, f2, gM, g3, g4⟩ := findGroups_ev (N := N) (gr := gr) hs hl hm hb hN
          obtain ⟨b1, b2, b3⟩ := lab_both hB g2 g4 hc hp
          have b4 := g2.2.1 (rk num c)
          rw [hL.1, f1, f2, bd1_some, bd1_some, rd_nI (by omega) (by omega), g3 c hc, groupsBelow_m (gC := gC) hM hs g3 g4.2.1 (fun c hc hp => by obtain ⟨b1, b2, b3⟩ := lab_both hB g2 g4 hc hp; exact ⟨b1, b3⟩) (by omega) (by omega), bd1_some]
          unfold m_X0_numberOf m_X0_leader
          simp only [lt1]
          rw [vAt_nI (by omega) (by omega), g1 _ (by omega), leadersAhead_c g1 g2.2.1 (by omega) (by omega)]
          refine ⟨_, _, rfl, rfl, ?_⟩
          show iS _ _ = iS _ _
          rw [b3]
      · rw [if_neg hp, if_pos rfl, if_pos (np_z hB.2.2.1 (by omega) hp)]
        exact ⟨_, _, rfl, rfl, rfl⟩
  · rw [isCell_c0 ho, isCell_m0 (by omega) hs ho, bd1_some]
    exact ⟨_, _, rfl, rfl, rfl⟩
