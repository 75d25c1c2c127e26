/-! the calls step, hint, steps -/
theorem stp_neg {W H : Nat} {num br cp : Nat → Int32} {gC : Nat → Nat} {z : Int32} (hn : (WL W H num).length ≤ 48) (h : stp W H num br cp gC z) : (0 ≤ z ∧ ¬ z < 0 ∧ ¬ brk W H num (WL W H num) br cp ∧ ∃ R k, stR W H num br cp gC z R k) ∨ (¬ 0 ≤ z ∧ z < 0) := by
  rcases h with ⟨a, rfl⟩ | ⟨a, R, k, a1⟩ | ⟨a, a1, rfl⟩
  · exact Or.inr ⟨by decide, by decide⟩
  · refine Or.inl ⟨?_, ?_, a, R, k, a1⟩
    · rw [a1.2.2.2.2.2]; exact kk0_le (Nat.zero_le _) (by have := a1.1; have := a1.2.1; omega)
    · rw [a1.2.2.2.2.2]; exact nI_pos (by have := a1.1; have := a1.2.1; omega)
  · exact Or.inr ⟨by decide, by decide⟩
theorem sim_hint {W H N : Nat} {num br cp cO iA fi se fC sC st wO s one other : Nat → Int32} {cols rows grade steps Yi Yw Mw : Int32} {cr : Nat → Int64} (h : Cur W H num br cp cols rows grade steps Yi Yw Mw cO iA fi se fC sC st wO s one other cr) (un ub uc ul ld gr : Nat → Int32) (rb : Int64) (hN : 100000 < N) : ∃ r un' ub' uc' ul' ld' rb' gr', m_X9_hint N num br cp Yi Yw cO fi se cr un ub uc ul ld rb = some (r, un', ub', uc', ul', ld', rb') ∧ m_X10_hint N Mw s one other gr = some (r, s, gr') := by
  obtain ⟨h0, hB, hL, hs, hm, hb, hbo, hx, hg, hst⟩ := h
  obtain ⟨gC, g1, ⟨t, un', ub', uc', ul', ld', rb'⟩, e1, q1, -⟩ := find_c (N := N) (br := br) (cp := cp) (un := un) (ub := ub) (uc := uc) (ul := ul) (ld := ld) (rb := rb) hB hL (by omega)
  obtain ⟨⟨z, s', gr'⟩, e2, q2, q3⟩ := next_m (N := N) (gr := gr) hB hs hm hb hbo g1 hN
  have e : t = z := stp_uniq q1 q2
  subst e
  replace q3 : s' = s := q3
  subst q3
  unfold m_X9_hint m_X10_hint
  rw [e1, e2, bd7_some, bd3_some]
  exact ⟨_, _, _, _, _, _, _, _, rfl, rfl⟩
theorem sim_step {N W H : Nat} {num br cp cO iA fi se fC sC st wO s one other past : Nat → Int32} {cols rows grade steps Yi Yw Mw hz : Int32} {cr : Nat → Int64} {Hb : Nat → Nat} {HN HB HC : Nat → Nat → Int32} {Hc Hr Hg Hs : Nat → Int32} (h : Cur W H num br cp cols rows grade steps Yi Yw Mw cO iA fi se fC sC st wO s one other cr) (hh : HR hz HN HB HC Hc Hr Hg Hs past) (un ub uc ul ld gr : Nat → Int32) (rb : Int64) (hN : 100000 < N) :
    ∃ r grade' steps' br' cp' un' ub' uc' ul' ld' rb' hz' Hb' HN' HB' HC' Hc' Hr' Hg' Hs' s' past' gr', m_X9_step N cols rows grade steps num br cp Yi Yw cO fi se cr un ub uc ul ld rb hz Hb HN HB HC Hc Hr Hg Hs = some (r, grade', steps', br', cp', un', ub', uc', ul', ld', rb', hz', Hb', HN', HB', HC', Hc', Hr', Hg', Hs') ∧ m_X10_step N hz Mw s past one other gr = some (r, hz', s', past', gr') ∧ Cur W H num br' cp' cols rows grade' steps' Yi Yw Mw cO iA fi se fC sC st wO s' one other cr ∧ HR hz' HN' HB' HC' Hc' Hr' Hg' Hs' past' := by
  obtain ⟨h0, hB, hL, hs, hm, hb, hbo, hx, hg, hst⟩ := id h
  obtain ⟨gC, g1, ⟨t, un', ub', uc', ul', ld', rb'⟩, e1, q1, hS⟩ := find_c (N := N) (br := br) (cp := cp) (un := un) (ub := ub) (uc := uc) (ul := ul) (ld := ld) (rb := rb) hB hL (by omega)
  obtain ⟨⟨z, s', gr'⟩, e2, q2, q3⟩ := next_m (N := N) (gr := gr) hB hs hm hb hbo g1 hN
  have e : t = z := stp_uniq q1 q2
  subst e
  replace q3 : s' = s := q3
  subst q3
  unfold m_X9_step m_X10_step
  rw [e1, e2, bd7_some, bd3_some]
  rcases stp_neg hB.wls.2.2.1.1 q1 with ⟨p1, p2, p3, R, k, p4⟩ | ⟨p1, p2⟩
  · rw [if_pos p1, if_neg p2]
    obtain ⟨hz', Hb', HN', HB', HC', Hc', Hr', Hg', Hs', past', f1, f2, f3⟩ := record_ev (Hb := Hb) h.sr hh (show 1000 < N by omega)
    obtain ⟨br', cp', s2, c1, c2, c3⟩ := carry_ev (N := N) h hS p3 p4 (by omega)
    rw [f1, f2, bd9_some, bd2_some, c2, bd1_some, show m_X4_carryOut grade steps br cp fi se un' uc' ul' t = _ from c1]
    exact ⟨_, _, _, _, _, _, _, _, _, _, _, _, _, _, _, _, _, _, _, _, _, _, _, rfl, rfl, c3, f3⟩
  · rw [if_neg p1, if_pos p2]
    exact ⟨_, _, _, _, _, _, _, _, _, _, _, _, _, _, _, _, _, _, _, _, _, _, _, rfl, rfl, h, hh⟩
theorem steps_loop {N W H X : Nat} {num cO iA fi se fC sC st wO one other past : Nat → Int32} {cols rows Yi Yw Mw hz : Int32} {cr : Nat → Int64} {Hb : Nat → Nat} {HN HB HC : Nat → Nat → Int32} {Hc Hr Hg Hs : Nat → Int32} (hX : X ≤ 200) (hN : 100000 < N) : ∀ (m i N1 N2 : Nat) (br cp s un ub uc ul ld gr : Nat → Int32) (grade steps z : Int32) (rb : Int64), i + m = X → m < N1 → m < N2 → Cur W H num br cp cols rows grade steps Yi Yw Mw cO iA fi se fC sC st wO s one other cr → (∃ gC, LabG (WL W H num).length (pF num (WL W H num)) (qF num (WL W H num)) (onB br) gC ∧ stp W H num br cp gC z) →
    ∃ r grade' steps' br' cp' un' ub' uc' ul' ld' rb' s' gr', zl11 (m_X9_steps_b27 N num Yi Yw cO fi se cr (nI X) hz Hb HN HB HC Hc Hr Hg Hs) N1 (nI i) grade steps br cp un ub uc ul ld rb = some (r, grade', steps', br', cp', un', ub', uc', ul', ld', rb', hz, Hb, HN, HB, HC, Hc, Hr, Hg, Hs) ∧ zl4 (m_X10_steps_b24 N Mw one other (nI X) hz past) N2 (nI i) z s gr = some (r, hz, s', past, gr') ∧ Cur W H num br' cp' cols rows grade' steps' Yi Yw Mw cO iA fi se fC sC st wO s' one other cr := by
  intro m
  induction m with
  | zero =>
    intro i N1 N2 br cp s un ub uc ul ld gr grade steps z rb hi h1 h2 h hzz
    obtain ⟨N1, rfl⟩ : ∃ n, N1 = n + 1 := ⟨N1 - 1, by omega⟩
    obtain ⟨N2, rfl⟩ : ∃ n, N2 = n + 1 := ⟨N2 - 1, by omega⟩
    have hi2 : i = X := by omega
    subst hi2
    have a1 : ∀ F, m_X9_steps_b27 N num Yi Yw cO fi se cr (nI i) hz Hb HN HB HC Hc Hr Hg Hs F (nI i) grade steps br cp un ub uc ul ld rb = some (nI i, grade, steps, br, cp, un, ub, uc, ul, ld, rb, hz, Hb, HN, HB, HC, Hc, Hr, Hg, Hs) := fun F => by
      unfold m_X9_steps_b27
      rw [if_pos (nI_le (Nat.le_refl _) (by omega))]
    have a2 : ∀ F, m_X10_steps_b24 N Mw one other (nI i) hz past F (nI i) z s gr = some (nI i, hz, s, past, gr) := fun F => by
      unfold m_X10_steps_b24
      by_cases c : z < 0
      · rw [if_pos c]
      · rw [if_neg c, if_pos (nI_le (Nat.le_refl _) (by omega))]
    exact ⟨_, _, _, _, _, _, _, _, _, _, _, _, _, a1 _, a2 _, h⟩
  | succ m ih =>
    intro i N1 N2 br cp s un ub uc ul ld gr grade steps z rb hi h1 h2 h hzz
    obtain ⟨N1, rfl⟩ : ∃ n, N1 = n + 1 := ⟨N1 - 1, by omega⟩
    obtain ⟨N2, rfl⟩ : ∃ n, N2 = n + 1 := ⟨N2 - 1, by omega⟩
    obtain ⟨h0, hB, hL, hs, hm, hb, hbo, hx, hg, hst⟩ := id h
    obtain ⟨gC, g1, q1⟩ := hzz
    obtain ⟨gC', g1', ⟨t, un', ub', uc', ul', ld', rb'⟩, e1, q1', hS⟩ := find_c (N := N) (br := br) (cp := cp) (un := un) (ub := ub) (uc := uc) (ul := ul) (ld := ld) (rb := rb) hB hL (by omega)
    have eg : gC' = gC := funext (fun c => g1'.uniq g1 c)
    subst eg
    have e : t = z := stp_uniq q1' q1
    subst e
    show ∃ r grade' steps' br' cp' un' ub' uc' ul' ld' rb' s' gr', m_X9_steps_b27 N num Yi Yw cO fi se cr (nI X) hz Hb HN HB HC Hc Hr Hg Hs (zl11 (m_X9_steps_b27 N num Yi Yw cO fi se cr (nI X) hz Hb HN HB HC Hc Hr Hg Hs) N1) (nI i) grade steps br cp un ub uc ul ld rb = _ ∧ m_X10_steps_b24 N Mw one other (nI X) hz past (zl4 (m_X10_steps_b24 N Mw one other (nI X) hz past) N2) (nI i) t s gr = _ ∧ _
    rw [m_X9_steps_b27, m_X10_steps_b24, if_neg (show ¬ nI X ≤ nI i from nI_ge (by omega) (by omega)), e1, bd7_some, if_neg (show ¬ nI X ≤ nI i from nI_ge (by omega) (by omega))]
    rcases stp_neg hB.wls.2.2.1.1 q1 with ⟨p1, p2, p3, R, k, p4⟩ | ⟨p1, p2⟩
    · rw [if_pos p1, if_neg p2]
      obtain ⟨br', cp', s2, c1, c2, c3⟩ := carry_ev (N := N) h hS p3 p4 (by omega)
      obtain ⟨h0', hB', hL', hs', hm', hb', hbo', hx', hg', hst'⟩ := id c3
      obtain ⟨z2, f2, gD, d1, d2⟩ := groups_ev (N := N) (br := br') (ld := ld) hB hL.2.2.2.1 (by omega)
      obtain ⟨⟨z3, s3, gr3⟩, e3, q3, q4⟩ := next_m (N := N) (gr := gr) hB' hs' hm' hb' hbo' d2 hN
      replace q4 : s3 = s2 := q4
      subst q4
      rw [c2, bd1_some, show m_X4_carryOut grade steps br cp fi se un' uc' ul' t = _ from c1, e3]
      simp only [lt1, lt4, nI_s]
      rw [bd3_some]
      exact ih (i + 1) N1 N2 br' cp' s3 un' ub' uc' ul' ld' gr3 _ _ z3 rb' (by omega) (by omega) (by omega) c3 ⟨gD, d2, q3⟩
    · rw [if_neg p1, if_pos p2]
      exact ⟨_, _, _, _, _, _, _, _, _, _, _, _, _, rfl, rfl, h⟩
theorem sim_steps {N W H : Nat} {num br cp cO iA fi se fC sC st wO s one other past : Nat → Int32} {cols rows grade steps Yi Yw Mw hz : Int32} {cr : Nat → Int64} {Hb : Nat → Nat} {HN HB HC : Nat → Nat → Int32} {Hc Hr Hg Hs : Nat → Int32} (h : Cur W H num br cp cols rows grade steps Yi Yw Mw cO iA fi se fC sC st wO s one other cr) (hh : HR hz HN HB HC Hc Hr Hg Hs past) (un ub uc ul ld gr : Nat → Int32) (rb : Int64) (x : Int32) (hN : 100000 < N) :
    ∃ r grade' steps' br' cp' un' ub' uc' ul' ld' rb' hz' Hb' HN' HB' HC' Hc' Hr' Hg' Hs' s' past' gr', m_X9_steps N cols rows grade steps num br cp Yi Yw cO fi se cr un ub uc ul ld rb hz Hb HN HB HC Hc Hr Hg Hs x = some (r, grade', steps', br', cp', un', ub', uc', ul', ld', rb', hz', Hb', HN', HB', HC', Hc', Hr', Hg', Hs') ∧ m_X10_steps N hz Mw s past one other gr x = some (r, hz', s', past', gr') ∧ Cur W H num br' cp' cols rows grade' steps' Yi Yw Mw cO iA fi se fC sC st wO s' one other cr ∧ HR hz' HN' HB' HC' Hc' Hr' Hg' Hs' past' := by
  unfold m_X9_steps m_X10_steps
  rcases in_rng (lo := 1) (hi := 200) (by omega) (by omega) x with ⟨e, hy⟩ | ⟨e, y1, y2, d, d1, d2, rfl⟩
  · rw [show m_X10_in x 1 200 = 0 from e]
    by_cases hy1 : x < 1
    · rw [if_pos hy1]
      exact ⟨_, _, _, _, _, _, _, _, _, _, _, _, _, _, _, _, _, _, _, _, _, _, _, rfl, rfl, h, hh⟩
    · rw [if_neg hy1, if_neg (show ¬ x ≤ 200 from fun z => by rcases hy with q | q; exact hy1 q; exact q z)]
      exact ⟨_, _, _, _, _, _, _, _, _, _, _, _, _, _, _, _, _, _, _, _, _, _, _, rfl, rfl, h, hh⟩
  · rw [show m_X10_in (nI d) 1 200 = 1 from e, if_neg (show ¬ nI d < 1 from y1), if_pos (show nI d ≤ 200 from y2)]
    simp only [lt1]
    rw [if_neg (show ¬ (1 : Int32) = 0 by decide)]
    obtain ⟨h0, hB, hL, hs, hm, hb, hbo, hx, hg, hst⟩ := id h
    obtain ⟨hz', Hb', HN', HB', HC', Hc', Hr', Hg', Hs', past', f1, f2, f3⟩ := record_ev (Hb := Hb) h.sr hh (show 1000 < N by omega)
    obtain ⟨z2, f4, gD, g1, g2⟩ := groups_ev (N := N) (br := br) (ld := ld) hB hL.2.2.2.1 (by omega)
    obtain ⟨⟨z3, s3, gr3⟩, e3, q3, q4⟩ := next_m (N := N) (gr := gr) hB hs hm hb hbo g2 hN
    replace q4 : s3 = s := q4
    subst q4
    rw [f1, f2, bd9_some, bd2_some, e3, bd3_some]
    obtain ⟨r, grade', steps', br', cp', un', ub', uc', ul', ld', rb', s', gr', l1, l2, l3⟩ := steps_loop (X := d) (hz := hz') (Hb := Hb') (HN := HN') (HB := HB') (HC := HC') (Hc := Hc') (Hr := Hr') (Hg := Hg') (Hs := Hs') (past := past') d2 hN d 0 N N br cp s3 un ub uc ul ld gr3 grade steps z3 rb (by omega) (by omega) (by omega) h ⟨gD, g2, q3⟩
    exact ⟨_, _, _, _, _, _, _, _, _, _, _, _, _, _, _, _, _, _, _, _, _, _, _, l1, l2, l3, f3⟩
