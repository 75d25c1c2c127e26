/-! count -/
/-- the number of the groups -/
def grp (W H : Nat) (num br : Nat → Int32) (z : Int32) : Prop := ∃ gC, LabG (WL W H num).length (pF num (WL W H num)) (qF num (WL W H num)) (onB br) gC ∧ z = gB num gC (W * H)
theorem grp_uniq {W H : Nat} {num br : Nat → Int32} {y z : Int32} (h1 : grp W H num br y) (h2 : grp W H num br z) : y = z := by
  obtain ⟨g, a1, rfl⟩ := h1
  obtain ⟨g', b1, rfl⟩ := h2
  unfold gB
  refine iS_congr fun i _ => ?_
  rw [a1.uniq b1]
theorem groups_c {W H N : Nat} {num br fi se fC sC st ld : Nat → Int32} {Yi Yw : Int32} (hB : BD W H num) (hi : Yi = nI (rk num (W * H))) (h4 : wrep num (WL W H num) Yw fi se fC sC st) (hN : 144 < N) : Ev (m_X9_groupsInAll N br Yi Yw fi se ld) (fun t => grp W H num br t.1) := by
  unfold m_X9_groupsInAll
  subst hi
  obtain ⟨z, e, gC, g1, g2⟩ := groups_ev (N := N) (br := br) (ld := ld) hB h4 hN
  rw [e, bd1_some]
  unfold m_X0_total
  rw [leadersAhead_c g1 g2.2.1 hB.2.2.2.2 hN, bd1_some, bd1_some]
  exact Ev.some ⟨gC, g2, rfl⟩
theorem groups_m {W H N : Nat} {num br cp fi se fC sC st s one other gr : Nat → Int32} {Yw Mw : Int32} (hB : BD W H num) (h4 : wrep num (WL W H num) Yw fi se fC sC st) (hs : MS W H num s) (hm : mrep (WL W H num) Mw one other) (hb : MB (WL W H num).length br cp s) (hN : 100000 < N) : Ev (m_X10_groups N Mw s one other gr) (fun t => grp W H num br t.1) := by
  unfold m_X10_groups
  have hM := hB.M
  obtain ⟨z1, f1, gC, g1, g2⟩ := groups_ev (N := N) (br := br) (ld := gr) hB h4 (by omega)
  obtain ⟨z2, f2, gM, g3, g4⟩ := findGroups_ev (N := N) (gr := gr) hs hB.wls hm hb hN
  rw [f2, bd1_some, cells_m hs, bd1_some, groupsBelow_m (gC := gC) hM hs g3 g4.2.1 (fun c hc hp => by obtain ⟨b1, b2, b3⟩ := lab_both hB g2 g4 hc hp; exact ⟨b1, b3⟩) (by omega) (by omega), bd1_some]
  exact Ev.some ⟨gC, g2, rfl⟩
def slv (W H : Nat) (num br : Nat → Int32) : Prop := 0 < rk num (W * H) ∧ cmp (W * H) num (WL W H num) br = nI (rk num (W * H)) ∧ grp W H num br 1
theorem solved_c {W H N : Nat} {num br cp cO iA fi se fC sC st wO un ub uc ul ld : Nat → Int32} {Yi Yw : Int32} {cr : Nat → Int64} (hB : BD W H num) (hL : LO W H num Yi Yw cO iA fi se fC sC st wO cr) (hN : 144 < N) : Ev (m_X9_isSolved N num br cp Yi Yw cO fi se un ub uc ul ld) (fun t => (t.1 = 1 ∧ slv W H num br) ∨ (t.1 = 0 ∧ ¬ slv W H num br)) := by
  have hr := hB.2.2.2.2
  unfold m_X9_isSolved
  have hi := hL.1
  by_cases h0 : rk num (W * H) = 0
  · rw [hi, if_pos ((kk0_Ile (by omega)).mpr (by omega))]
    exact Ev.some (Or.inr ⟨rfl, fun z => absurd z.1 (by omega)⟩)
  rw [if_neg (by rw [hi]; exact fun z => h0 (by have := (kk0_Ile (by omega)).mp z; omega))]
  obtain ⟨⟨v1, v2, v3, v4, v5⟩, e, q⟩ := complete_c (N := N) (br := br) (cp := cp) (un := un) (ub := ub) (uc := uc) (ul := ul) hB hL hN
  rw [e, bd5_some]
  replace q : v1 = _ := q
  by_cases h1 : v1 = Yi
  · rw [if_pos h1]
    obtain ⟨⟨v6, v7⟩, e2, q2⟩ := groups_c (N := N) (br := br) (ld := ld) hB hi hL.2.2.2.1 hN
    rw [e2, bd2_some]
    replace q2 : grp W H num br v6 := q2
    by_cases h2 : v6 = 1
    · rw [if_pos h2]
      exact Ev.some (Or.inl ⟨rfl, by omega, by rw [← q, h1, hi], h2 ▸ q2⟩)
    · rw [if_neg h2]
      exact Ev.some (Or.inr ⟨rfl, fun z => h2 (grp_uniq q2 z.2.2)⟩)
  · rw [if_neg h1]
    exact Ev.some (Or.inr ⟨rfl, fun z => h1 (by rw [q, z.2.1, hi])⟩)
theorem solved_m {W H N : Nat} {num br cp fi se fC sC st s one other gr : Nat → Int32} {Yw Mw : Int32} (hB : BD W H num) (h4 : wrep num (WL W H num) Yw fi se fC sC st) (hs : MS W H num s) (hm : mrep (WL W H num) Mw one other) (hb : MB (WL W H num).length br cp s) (hN : 100000 < N) : Ev (m_X10_isSolved N Mw s one other gr) (fun t => (t.1 = 1 ∧ slv W H num br) ∨ (t.1 = 0 ∧ ¬ slv W H num br)) := by
  have hr := hB.2.2.2.2
  unfold m_X10_isSolved
  rw [islands_m hB.M hs (by omega), bd1_some]
  by_cases h0 : rk num (W * H) = 0
  · rw [if_pos ((kk0_Ile (by omega)).mpr (by omega))]
    exact Ev.some (Or.inr ⟨rfl, fun z => absurd z.1 (by omega)⟩)
  rw [if_neg (fun z => h0 (by have := (kk0_Ile (by omega)).mp z; omega)), complete_m hs hB.wls hm hb (by omega), bd1_some, bd1_some]
  by_cases h1 : cmp (W * H) num (WL W H num) br = nI (rk num (W * H))
  · rw [if_pos h1]
    obtain ⟨⟨v6, v7⟩, e2, q2⟩ := groups_m (N := N) (gr := gr) hB h4 hs hm hb hN
    rw [e2, bd2_some]
    replace q2 : grp W H num br v6 := q2
    by_cases h2 : v6 = 1
    · rw [if_pos h2]
      exact Ev.some (Or.inl ⟨rfl, by omega, h1, h2 ▸ q2⟩)
    · rw [if_neg h2]
      exact Ev.some (Or.inr ⟨rfl, fun z => h2 (grp_uniq q2 z.2.2)⟩)
  · rw [if_neg h1]
    exact Ev.some (Or.inr ⟨rfl, fun z => h1 z.2.1⟩)
theorem broken_c {W H N : Nat} {num br cp cO iA fi se fC sC st wO un ub uc ul : Nat → Int32} {Yi Yw : Int32} {cr : Nat → Int64} (hB : BD W H num) (hL : LO W H num Yi Yw cO iA fi se fC sC st wO cr) (hN : 144 < N) : Ev (m_X9_isBroken N num br cp Yi Yw cO fi se un ub uc ul) (fun t => ((t.1 = 1 ∧ brk W H num (WL W H num) br cp) ∨ (t.1 = 0 ∧ ¬ brk W H num (WL W H num) br cp)) ∧ SU W H num (WL W H num) br cp t.2.1 t.2.2.1 t.2.2.2.1 t.2.2.2.2) := by
  unfold m_X9_isBroken
  obtain ⟨⟨v1, v2, v3, v4⟩, e, q⟩ := sums_ev (N := N) (br := br) (cp := cp) (un := un) (ub := ub) (uc := uc) (ul := ul) hB hL hN
  rw [e, bd4_some, hL.1]
  obtain ⟨z, e2, q2⟩ := areBroken_ev hB q hN
  rw [e2, bd1_some]
  rcases q2 with ⟨rfl, q2⟩ | ⟨rfl, q2⟩
  · exact Ev.some ⟨Or.inl ⟨rfl, q2⟩, q⟩
  · exact Ev.some ⟨Or.inr ⟨rfl, q2⟩, q⟩
theorem allBridges_c {N n : Nat} {br : Nat → Int32} (hn : n ≤ 48) (hN : 144 < N) : m_X9_allBridges N br (nI n) = some (iS br n) := by
  unfold m_X9_allBridges
  refine zl2g1 (fun o => o = some (iS br n)) n (fun i v => v = iS br i) ?_ ?_ N 0 _ (by omega) (by omega) rfl
  · intro rec i v hi hv
    refine Or.inr ⟨_, ?_, rfl⟩
    unfold m_X9_allBridges_b4
    rw [if_neg (nI_ge hi (by omega)), vAt_nI (by omega) (by omega), hv]
    simp only [lt1, nI_s]
    rfl
  · intro rec v hv
    unfold m_X9_allBridges_b4
    rw [if_pos (nI_le (Nat.le_refl _) (by omega)), hv]
theorem allBridges_m {N n : Nat} {br cp s : Nat → Int32} (hb : MB n br cp s) (hn : n ≤ 48) (hN : 144 < N) : m_X10_allBridges N (nI n) s = some (iS br n) := by
  unfold m_X10_allBridges
  refine zl2g1 (fun o => o = some (iS br n)) n (fun i v => v = iS br i) ?_ ?_ N 0 _ (by omega) (by omega) rfl
  · intro rec i v hi hv
    refine Or.inr ⟨_, ?_, rfl⟩
    unfold m_X10_allBridges_b4
    rw [if_neg (nI_ge hi (by omega)), bridges_m hb hn hi, bd1_some, hv]
    simp only [lt1, nI_s]
    rfl
  · intro rec v hv
    unfold m_X10_allBridges_b4
    rw [if_pos (nI_le (Nat.le_refl _) (by omega)), hv]
theorem iS_z {f : Nat → Int32} {a : Nat} : ∀ {k : Nat}, (∀ c, a ≤ c → c < a + k → f c = 0) → iS f (a + k) = iS f a := by
  intro k
  induction k with
  | zero => intro _; rfl
  | succ k ih =>
    intro h
    show iS f (a + k) + f (a + k) = _
    rw [ih (fun c h1 h2 => h c h1 (by omega)), h _ (by omega) (by omega), Int32.add_zero]
theorem sim_count {W H N : Nat} {num br cp cO iA fi se fC sC st wO s one other : Nat → Int32} {cols rows grade steps Yi Yw Mw : Int32} {cr : Nat → Int64} (h : Cur W H num br cp cols rows grade steps Yi Yw Mw cO iA fi se fC sC st wO s one other cr) (un ub uc ul ld gr : Nat → Int32) (hz tl x : Int32) (hN : 100000 < N) : ∃ t r, m_X9_count N cols rows grade steps num br cp Yi Yw cO fi se un ub uc ul ld hz tl x = some t ∧ m_X10_count N hz tl Mw s one other gr x = some r ∧ t.1 = r.1 := by
  obtain ⟨⟨rfl, rfl⟩, hB, hL, hs, hm, hb, hbo, hx, hg, hst⟩ := h
  have hM := hB.M
  have hl := hB.wls
  have hsm := hl.2.2.1
  have h4 := hL.2.2.2.1
  have hn := hsm.1
  unfold m_X9_count m_X10_count
  rcases in_or (m := 13) (by omega) x with ⟨-, hy⟩ | ⟨-, d, hd, rfl⟩
  · simp only [show (x = (0 : Int32)) = False from eq_false (hy 0 (by omega)), show (x = (1 : Int32)) = False from eq_false (hy 1 (by omega)), show (x = (2 : Int32)) = False from eq_false (hy 2 (by omega)), show (x = (3 : Int32)) = False from eq_false (hy 3 (by omega)), show (x = (4 : Int32)) = False from eq_false (hy 4 (by omega)), show (x = (5 : Int32)) = False from eq_false (hy 5 (by omega)), show (x = (6 : Int32)) = False from eq_false (hy 6 (by omega)), show (x = (7 : Int32)) = False from eq_false (hy 7 (by omega)), show (x = (8 : Int32)) = False from eq_false (hy 8 (by omega)), show (x = (9 : Int32)) = False from eq_false (hy 9 (by omega)), show (x = (10 : Int32)) = False from eq_false (hy 10 (by omega)), show (x = (11 : Int32)) = False from eq_false (hy 11 (by omega)), show (x = (12 : Int32)) = False from eq_false (hy 12 (by omega)), show (x = (13 : Int32)) = False from eq_false (hy 13 (by omega)), if_false]
    exact ⟨_, _, rfl, rfl, rfl⟩
  · by_cases c0 : d = 0
    · subst c0
      simp (decide := true) only [↓reduceIte]
      rw [rd_nI (by omega) (by omega)]
      exact ⟨_, _, rfl, rfl, hs.1.symm⟩
    rw [if_neg (fun z => c0 ((kk0_eq (by omega)).mp z)), if_neg (fun z => c0 ((kk0_eq (by omega)).mp z))]
    by_cases c1 : d = 1
    · subst c1
      simp (decide := true) only [↓reduceIte]
      rw [rd_nI (by omega) (by omega)]
      exact ⟨_, _, rfl, rfl, hs.2.1.symm⟩
    rw [if_neg (fun z => c1 ((kk1_eq (by omega)).mp z)), if_neg (fun z => c1 ((kk1_eq (by omega)).mp z))]
    by_cases c2 : d = 2
    · subst c2
      simp (decide := true) only [↓reduceIte]
      rw [islands_m hM hs (by omega), bd1_some]
      exact ⟨_, _, rfl, rfl, hL.1⟩
    rw [if_neg (fun z => c2 ((kk2_eq (by omega)).mp z)), if_neg (fun z => c2 ((kk2_eq (by omega)).mp z))]
    by_cases c3 : d = 3
    · subst c3
      simp (decide := true) only [↓reduceIte]
      exact ⟨_, _, rfl, rfl, h4.1.trans hm.1.symm⟩
    rw [if_neg (fun z => c3 ((kk3_eq (by omega)).mp z)), if_neg (fun z => c3 ((kk3_eq (by omega)).mp z))]
    by_cases c4 : d = 4
    · subst c4
      simp (decide := true) only [↓reduceIte]
      rw [h4.1, hm.1, allBridges_c hn (by omega), allBridges_m hb hn (by omega)]
      exact ⟨_, _, rfl, rfl, rfl⟩
    rw [if_neg (fun z => c4 ((kk4_eq (by omega)).mp z)), if_neg (fun z => c4 ((kk4_eq (by omega)).mp z))]
    by_cases c5 : d = 5
    · subst c5
      obtain ⟨t, e, q⟩ := complete_c (N := N) (br := br) (cp := cp) (un := un) (ub := ub) (uc := uc) (ul := ul) hB hL (by omega)
      simp (decide := true) only [↓reduceIte]
      rw [e, complete_m hs hl hm hb (by omega)]
      exact ⟨_, _, rfl, rfl, q⟩
    rw [if_neg (fun z => c5 ((kk5_eq (by omega)).mp z)), if_neg (fun z => c5 ((kk5_eq (by omega)).mp z))]
    by_cases c6 : d = 6
    · subst c6
      obtain ⟨t, e, q⟩ := groups_c (N := N) (br := br) (ld := ld) hB hL.1 h4 (by omega)
      obtain ⟨r, e2, q2⟩ := groups_m (N := N) (gr := gr) hB h4 hs hm hb hN
      simp (decide := true) only [↓reduceIte]
      rw [e, e2]
      exact ⟨_, _, rfl, rfl, grp_uniq q q2⟩
    rw [if_neg (fun z => c6 ((kk6_eq (by omega)).mp z)), if_neg (fun z => c6 ((kk6_eq (by omega)).mp z))]
    by_cases c7 : d = 7
    · subst c7
      obtain ⟨⟨t1, t⟩, e, q⟩ := solved_c (N := N) (br := br) (cp := cp) (un := un) (ub := ub) (uc := uc) (ul := ul) (ld := ld) hB hL (by omega)
      obtain ⟨⟨r1, r⟩, e2, q2⟩ := solved_m (N := N) (gr := gr) hB h4 hs hm hb hN
      simp (decide := true) only [↓reduceIte]
      rw [e, e2]
      rcases q with ⟨q1, q⟩ | ⟨q1, q⟩
      · rcases q2 with ⟨q3, q2⟩ | ⟨q3, q2⟩
        · replace q1 : t1 = 1 := q1
          replace q3 : r1 = 1 := q3
          subst q1 q3
          exact ⟨_, _, rfl, rfl, rfl⟩
        · exact absurd q q2
      · rcases q2 with ⟨q3, q2⟩ | ⟨q3, q2⟩
        · exact absurd q2 q
        · replace q1 : t1 = 0 := q1
          replace q3 : r1 = 0 := q3
          subst q1 q3
          exact ⟨_, _, rfl, rfl, rfl⟩
    rw [if_neg (fun z => c7 ((kk7_eq (by omega)).mp z)), if_neg (fun z => c7 ((kk7_eq (by omega)).mp z))]
    by_cases c8 : d = 8
    · subst c8
      obtain ⟨⟨t1, t⟩, e, q, -⟩ := broken_c (N := N) (br := br) (cp := cp) (un := un) (ub := ub) (uc := uc) (ul := ul) hB hL (by omega)
      obtain ⟨r1, e2, q2⟩ := isBroken_m (N := N) hs hl hm hb (by omega)
      simp (decide := true) only [↓reduceIte]
      rw [e, e2]
      rcases q with ⟨q1, q⟩ | ⟨q1, q⟩
      · rcases q2 with ⟨q3, q2⟩ | ⟨q3, q2⟩
        · replace q1 : t1 = 1 := q1
          subst q1 q3
          exact ⟨_, _, rfl, rfl, rfl⟩
        · exact absurd q q2
      · rcases q2 with ⟨q3, q2⟩ | ⟨q3, q2⟩
        · exact absurd q2 q
        · replace q1 : t1 = 0 := q1
          subst q1 q3
          exact ⟨_, _, rfl, rfl, rfl⟩
    rw [if_neg (fun z => c8 ((kk8_eq (by omega)).mp z)), if_neg (fun z => c8 ((kk8_eq (by omega)).mp z))]
    by_cases c9 : d = 9
    · subst c9
      simp (decide := true) only [↓reduceIte]
      have e1 : m_X9_allNumbers N num = some (iS num 144) := by
        unfold m_X9_allNumbers
        refine zl2g1 (fun o => o = some (iS num 144)) 144 (fun i v => v = iS num i) ?_ ?_ N 0 _ (by omega) (by omega) rfl
        · intro rec i v hi hv
          refine Or.inr ⟨_, ?_, rfl⟩
          unfold m_X9_allNumbers_b4
          rw [if_neg (kk144_ge hi), vAt_nI hi (by omega), hv]
          simp only [lt1, nI_s]
          rfl
        · intro rec v hv
          unfold m_X9_allNumbers_b4
          rw [if_pos (kk144_le (Nat.le_refl _) (by omega)), hv]
      have e2 : zl2 (m_X10_count_b132 s gr) N 0 0 = some (iS num (W * H), gr) := by
        refine zl2g1 (fun o => o = some (iS num (W * H), gr)) (W * H) (fun i v => v = iS num i) ?_ ?_ N 0 _ (by omega) (by omega) rfl
        · intro rec i v hi hv
          refine Or.inr ⟨_, ?_, rfl⟩
          unfold m_X10_count_b132
          rw [cells_m hs, bd1_some, if_neg (nI_ge hi (by omega)), number_m hs (by omega), bd1_some, hv]
          simp only [lt1, nI_s]
          rfl
        · intro rec v hv
          unfold m_X10_count_b132
          rw [cells_m hs, bd1_some, if_pos (nI_le (Nat.le_refl _) (by omega)), hv]
      have e3 := iS_z (f := num) (a := W * H) (k := 144 - W * H) (fun c h1 h2 => hB.2.2.2.1 c h1 (by omega))
      rw [show W * H + (144 - W * H) = 144 by omega] at e3
      rw [e1, e2, e3]
      exact ⟨_, _, rfl, rfl, rfl⟩
    rw [if_neg (fun z => c9 ((kk9_eq (by omega)).mp z)), if_neg (fun z => c9 ((kk9_eq (by omega)).mp z))]
    by_cases c10 : d = 10
    · subst c10
      simp (decide := true) only [↓reduceIte]
      rw [show (2 : Int32) = nI 2 from rfl, rd_nI (by omega) (by omega)]
      exact ⟨_, _, rfl, rfl, hg.symm⟩
    rw [if_neg (fun z => c10 ((kk10_eq (by omega)).mp z)), if_neg (fun z => c10 ((kk10_eq (by omega)).mp z))]
    by_cases c11 : d = 11
    · subst c11
      simp (decide := true) only [↓reduceIte]
      rw [show (3 : Int32) = nI 3 from rfl, rd_nI (by omega) (by omega)]
      exact ⟨_, _, rfl, rfl, hst.symm⟩
    rw [if_neg (fun z => c11 ((kk11_eq (by omega)).mp z)), if_neg (fun z => c11 ((kk11_eq (by omega)).mp z))]
    have c12 : d = 12 ∨ d = 13 := by omega
    rcases c12 with rfl | rfl
    · simp (decide := true) only [↓reduceIte]
      exact ⟨_, _, rfl, rfl, rfl⟩
    · simp (decide := true) only [↓reduceIte]
      exact ⟨_, _, rfl, rfl, rfl⟩
