/-! a call of does: what it may do -/
def DP (W H h B : Nat) (cols : Int32) (rows : Int32) (grade : Int32) (steps : Int32) (num : Nat → Int32) (br : Nat → Int32) (cp : Nat → Int32) (Yi : Int32) (Yw : Int32) (cO : Nat → Int32) (iA : Nat → Int32) (fi : Nat → Int32) (se : Nat → Int32) (fC : Nat → Int32) (sC : Nat → Int32) (st : Nat → Int32) (wO : Nat → Int32) (cr : Nat → Int64) (hz : Int32) (HN : Nat → Nat → Int32) (HB : Nat → Nat → Int32) (HC : Nat → Nat → Int32) (Hc : Nat → Int32) (Hr : Nat → Int32) (Hg : Nat → Int32) (Hs : Nat → Int32) (v : Int32) (r : Int32) (cols' : Int32) (rows' : Int32) (grade' : Int32) (steps' : Int32) (num' : Nat → Int32) (br' : Nat → Int32) (cp' : Nat → Int32) (Yi' : Int32) (Yw' : Int32) (cO' : Nat → Int32) (iA' : Nat → Int32) (fi' : Nat → Int32) (se' : Nat → Int32) (fC' : Nat → Int32) (sC' : Nat → Int32) (st' : Nat → Int32) (wO' : Nat → Int32) (cr' : Nat → Int64) (hz' : Int32) (HN' : Nat → Nat → Int32) (HB' : Nat → Nat → Int32) (HC' : Nat → Nat → Int32) (Hc' : Nat → Int32) (Hr' : Nat → Int32) (Hg' : Nat → Int32) (Hs' : Nat → Int32) : Prop :=
  (v &&& 15 = 9 → stpE W H num br cp r) ∧ ((r < 0 ∧ cols' = cols ∧ rows' = rows ∧ grade' = grade ∧ steps' = steps ∧ num' = num ∧ br' = br ∧ cp' = cp ∧ Yi' = Yi ∧ Yw' = Yw ∧ cO' = cO ∧ iA' = iA ∧ fi' = fi ∧ se' = se ∧ fC' = fC ∧ sC' = sC ∧ st' = st ∧ wO' = wO ∧ cr' = cr ∧ hz' = hz ∧ HN' = HN ∧ HB' = HB ∧ HC' = HC ∧ Hc' = Hc ∧ Hr' = Hr ∧ Hg' = Hg ∧ Hs' = Hs) ∨ (0 ≤ r ∧ PU num br cp cols rows grade steps h Hg Hs hz' HN' HB' HC' Hc' Hr' Hg' Hs' ∧ GI (B + 200) grade' steps' ∧ ∃ W' H' Mw' s' one' other' past', Cur W' H' num' br' cp' cols' rows' grade' steps' Yi' Yw' Mw' cO' iA' fi' se' fC' sC' st' wO' s' one' other' cr' ∧ HR hz' HN' HB' HC' Hc' Hr' Hg' Hs' past'))
theorem low_ok {a b : Int32} (h : ¬ b = 0) : ∃ v, m_L_low a b = some v := by
  unfold m_L_low rmd
  rw [if_neg h]
  exact ⟨_, rfl⟩
set_option maxHeartbeats 2000000 in
theorem does_ev {W H N B : Nat} {cols : Int32} {rows : Int32} {grade : Int32} {steps : Int32} {num : Nat → Int32} {br : Nat → Int32} {cp : Nat → Int32} {Yi : Int32} {Yw : Int32} {cO : Nat → Int32} {iA : Nat → Int32} {fi : Nat → Int32} {se : Nat → Int32} {fC : Nat → Int32} {sC : Nat → Int32} {st : Nat → Int32} {wO : Nat → Int32} {cr : Nat → Int64} {s : Nat → Int32} {one : Nat → Int32} {other : Nat → Int32} {past : Nat → Int32} {Mw : Int32} {hz : Int32} {Hb : Nat → Nat} {HN : Nat → Nat → Int32} {HB : Nat → Nat → Int32} {HC : Nat → Nat → Int32} {Hc : Nat → Int32} {Hr : Nat → Int32} {Hg : Nat → Int32} {Hs : Nat → Int32} (h : Cur W H num br cp cols rows grade steps Yi Yw Mw cO iA fi se fC sC st wO s one other cr) (hh : HR hz HN HB HC Hc Hr Hg Hs past) {hn : Nat} (h0 : hz = nI hn) (hh4 : hn ≤ 4) (hB9 : B ≤ 100000) (hg : GI B grade steps) (un : Nat → Int32) (ub : Nat → Int32) (uc : Nat → Int32) (ul : Nat → Int32) (ld : Nat → Int32) (rb : Int64) (kc : Int32) (kr : Int32) (ki : Int32) (kz : Int32) (tk : Nat → Int32) (mn : Nat → Int32) (kC : Nat → Int32) (tl : Int32) (v : Int32) (hN : 100000 < N) :
    ∃ r cols' rows' grade' steps' num' br' cp' Yi' Yw' cO' iA' fi' se' fC' sC' st' wO' cr' un' ub' uc' ul' ld' rb' kc' kr' ki' kz' tk' mn' kC' hz' Hb' HN' HB' HC' Hc' Hr' Hg' Hs', m_L_does N cols rows grade steps num br cp Yi Yw cO iA fi se fC sC st wO cr un ub uc ul ld rb kc kr ki kz tk mn kC hz tl Hb HN HB HC Hc Hr Hg Hs v = some (r, cols', rows', grade', steps', num', br', cp', Yi', Yw', cO', iA', fi', se', fC', sC', st', wO', cr', un', ub', uc', ul', ld', rb', kc', kr', ki', kz', tk', mn', kC', hz', Hb', HN', HB', HC', Hc', Hr', Hg', Hs') ∧ DP W H hn B cols rows grade steps num br cp Yi Yw cO iA fi se fC sC st wO cr hz HN HB HC Hc Hr Hg Hs v r cols' rows' grade' steps' num' br' cp' Yi' Yw' cO' iA' fi' se' fC' sC' st' wO' cr' hz' HN' HB' HC' Hc' Hr' Hg' Hs' := by
  obtain ⟨⟨q0, un1, ub1, uc1, ul1, ld1⟩, e0, q1⟩ := cnt3 (un := un) (ub := ub) (uc := uc) (ul := ul) (ld := ld) (hz := hz) (tl := tl) h hN
  replace q1 : q0 = nI (WL W H num).length := q1
  have hn48 := h.2.1.wls.2.2.1.1
  subst h0
  unfold m_L_does
  rw [e0, bd6_some]
  obtain ⟨kk, ek⟩ := low_ok (a := v >>> (4 &&& 31)) (b := q0 + 1) (by rw [q1, nI_s]; exact nI_ne0 (by omega) (by omega))
  rw [ek, bd1_some]
  by_cases c0 : v &&& 15 = 0
  · rw [if_pos c0]
    obtain ⟨a1, ea1⟩ := low_ok (a := v >>> (4 &&& 31)) (b := 49) (by decide)
    rw [ea1, bd1_some]
    obtain ⟨a2, ea2⟩ := low_ok (a := v >>> (10 &&& 31)) (b := 4) (by decide)
    rw [ea2, bd1_some]
    obtain ⟨r', grade', steps', num', br', cp', Yi', Yw', cO', iA', fi', se', fC', sC', st', wO', cr', hz', Hb', HN', HB', HC', Hc', Hr', Hg', Hs', Mw', s', past', one', other', e1, -, m1, m2⟩ := sim_island (N := N) h hh  a1 (1 + a2) (by omega)
    have po := island_po (by omega) e1
    rw [e1, bd26_some]
    refine ⟨_, _, _, _, _, _, _, _, _, _, _, _, _, _, _, _, _, _, _, _, _, _, _, _, _, _, _, _, _, _, _, _, _, _, _, _, _, _, _, _, _, rfl, ?_⟩
    obtain ⟨p1, rfl, rfl, rfl, rfl, rfl, rfl, rfl, rfl, rfl, rfl, rfl, rfl, rfl, rfl, rfl, rfl, rfl, rfl, rfl, rfl, rfl, rfl, rfl, rfl⟩ | ⟨p1, p2, p3, p4⟩ := po
    · exact ⟨fun z => absurd z (fun z9 => absurd (c0.symm.trans z9) (by decide)), Or.inl ⟨p1, rfl, rfl, rfl, rfl, rfl, rfl, rfl, rfl, rfl, rfl, rfl, rfl, rfl, rfl, rfl, rfl, rfl, rfl, rfl, rfl, rfl, rfl, rfl, rfl, rfl, rfl⟩⟩
    · subst p3 p4
      exact ⟨fun z => absurd z (fun z9 => absurd (c0.symm.trans z9) (by decide)), Or.inr ⟨by rw [p1, (m1.2.2.1.2.2.2.1).1]; exact nI_pos' (by have := m1.2.1.wls.2.2.1.1; omega), record_PU hh4 p2, GI.zero, ⟨_, _, _, _, _, _, _, m1, m2⟩⟩⟩
  rw [if_neg c0]
  by_cases c1 : v &&& 15 = 1
  · rw [if_pos c1]
    obtain ⟨a1, ea1⟩ := low_ok (a := v >>> (4 &&& 31)) (b := 49) (by decide)
    rw [ea1, bd1_some]
    obtain ⟨a2, ea2⟩ := low_ok (a := v >>> (10 &&& 31)) (b := 4) (by decide)
    rw [ea2, bd1_some]
    obtain ⟨r', grade', steps', num', br', cp', Yi', Yw', cO', iA', fi', se', fC', sC', st', wO', cr', hz', Hb', HN', HB', HC', Hc', Hr', Hg', Hs', Mw', s', past', one', other', e1, -, m1, m2⟩ := sim_island (N := N) h hh  a1 (1 + a2) (by omega)
    have po := island_po (by omega) e1
    rw [e1, bd26_some]
    refine ⟨_, _, _, _, _, _, _, _, _, _, _, _, _, _, _, _, _, _, _, _, _, _, _, _, _, _, _, _, _, _, _, _, _, _, _, _, _, _, _, _, _, rfl, ?_⟩
    obtain ⟨p1, rfl, rfl, rfl, rfl, rfl, rfl, rfl, rfl, rfl, rfl, rfl, rfl, rfl, rfl, rfl, rfl, rfl, rfl, rfl, rfl, rfl, rfl, rfl, rfl⟩ | ⟨p1, p2, p3, p4⟩ := po
    · exact ⟨fun z => absurd z (fun z9 => absurd (c1.symm.trans z9) (by decide)), Or.inl ⟨p1, rfl, rfl, rfl, rfl, rfl, rfl, rfl, rfl, rfl, rfl, rfl, rfl, rfl, rfl, rfl, rfl, rfl, rfl, rfl, rfl, rfl, rfl, rfl, rfl, rfl, rfl⟩⟩
    · subst p3 p4
      exact ⟨fun z => absurd z (fun z9 => absurd (c1.symm.trans z9) (by decide)), Or.inr ⟨by rw [p1, (m1.2.2.1.2.2.2.1).1]; exact nI_pos' (by have := m1.2.1.wls.2.2.1.1; omega), record_PU hh4 p2, GI.zero, ⟨_, _, _, _, _, _, _, m1, m2⟩⟩⟩
  rw [if_neg c1]
  by_cases c2 : v &&& 15 = 2
  · rw [if_pos c2]
    obtain ⟨a1, ea1⟩ := low_ok (a := v >>> (4 &&& 31)) (b := 49) (by decide)
    rw [ea1, bd1_some]
    obtain ⟨a2, ea2⟩ := low_ok (a := v >>> (10 &&& 31)) (b := 4) (by decide)
    rw [ea2, bd1_some]
    obtain ⟨r', grade', steps', num', br', cp', Yi', Yw', cO', iA', fi', se', fC', sC', st', wO', cr', hz', Hb', HN', HB', HC', Hc', Hr', Hg', Hs', Mw', s', past', one', other', e1, -, m1, m2⟩ := sim_island (N := N) h hh  a1 (1 + a2) (by omega)
    have po := island_po (by omega) e1
    rw [e1, bd26_some]
    refine ⟨_, _, _, _, _, _, _, _, _, _, _, _, _, _, _, _, _, _, _, _, _, _, _, _, _, _, _, _, _, _, _, _, _, _, _, _, _, _, _, _, _, rfl, ?_⟩
    obtain ⟨p1, rfl, rfl, rfl, rfl, rfl, rfl, rfl, rfl, rfl, rfl, rfl, rfl, rfl, rfl, rfl, rfl, rfl, rfl, rfl, rfl, rfl, rfl, rfl, rfl⟩ | ⟨p1, p2, p3, p4⟩ := po
    · exact ⟨fun z => absurd z (fun z9 => absurd (c2.symm.trans z9) (by decide)), Or.inl ⟨p1, rfl, rfl, rfl, rfl, rfl, rfl, rfl, rfl, rfl, rfl, rfl, rfl, rfl, rfl, rfl, rfl, rfl, rfl, rfl, rfl, rfl, rfl, rfl, rfl, rfl, rfl⟩⟩
    · subst p3 p4
      exact ⟨fun z => absurd z (fun z9 => absurd (c2.symm.trans z9) (by decide)), Or.inr ⟨by rw [p1, (m1.2.2.1.2.2.2.1).1]; exact nI_pos' (by have := m1.2.1.wls.2.2.1.1; omega), record_PU hh4 p2, GI.zero, ⟨_, _, _, _, _, _, _, m1, m2⟩⟩⟩
  rw [if_neg c2]
  by_cases c3 : v &&& 15 = 3
  · rw [if_pos c3]
    obtain ⟨a1, ea1⟩ := low_ok (a := v >>> (4 &&& 31)) (b := 49) (by decide)
    rw [ea1, bd1_some]
    obtain ⟨r', grade', steps', num', br', cp', Yi', Yw', cO', iA', fi', se', fC', sC', st', wO', cr', hz', Hb', HN', HB', HC', Hc', Hr', Hg', Hs', Mw', s', past', one', other', e1, -, m1, m2⟩ := sim_removeIsland (N := N) h hh  a1 (by omega)
    have po := remove_po h (by omega) e1
    rw [e1, bd26_some]
    refine ⟨_, _, _, _, _, _, _, _, _, _, _, _, _, _, _, _, _, _, _, _, _, _, _, _, _, _, _, _, _, _, _, _, _, _, _, _, _, _, _, _, _, rfl, ?_⟩
    obtain ⟨p1, rfl, rfl, rfl, rfl, rfl, rfl, rfl, rfl, rfl, rfl, rfl, rfl, rfl, rfl, rfl, rfl, rfl, rfl, rfl, rfl, rfl, rfl, rfl, rfl⟩ | ⟨p1, p2, p3, p4⟩ := po
    · exact ⟨fun z => absurd z (fun z9 => absurd (c3.symm.trans z9) (by decide)), Or.inl ⟨p1, rfl, rfl, rfl, rfl, rfl, rfl, rfl, rfl, rfl, rfl, rfl, rfl, rfl, rfl, rfl, rfl, rfl, rfl, rfl, rfl, rfl, rfl, rfl, rfl, rfl, rfl⟩⟩
    · subst p3 p4
      exact ⟨fun z => absurd z (fun z9 => absurd (c3.symm.trans z9) (by decide)), Or.inr ⟨p1, record_PU hh4 p2, GI.zero, ⟨_, _, _, _, _, _, _, m1, m2⟩⟩⟩
  rw [if_neg c3]
  by_cases c4 : v &&& 15 = 4
  · rw [if_pos c4]
    obtain ⟨a1, ea1⟩ := low_ok (a := v >>> (4 &&& 31)) (b := 5) (by decide)
    rw [ea1, bd1_some]
    obtain ⟨a2, ea2⟩ := low_ok (a := v >>> (8 &&& 31)) (b := 5) (by decide)
    rw [ea2, bd1_some]
    obtain ⟨W', H', r', cols', rows', grade', steps', num', br', cp', Yi', Yw', cO', iA', fi', se', fC', sC', st', wO', cr', hz', Hb', HN', HB', HC', Hc', Hr', Hg', Hs', Mw', s', past', one', other', e1, -, m1, m2⟩ := sim_begin (N := N) h hh  (3 + a1) (3 + a2) (by omega)
    have po := begin_po h (by omega) e1
    rw [e1, bd28_some]
    refine ⟨_, _, _, _, _, _, _, _, _, _, _, _, _, _, _, _, _, _, _, _, _, _, _, _, _, _, _, _, _, _, _, _, _, _, _, _, _, _, _, _, _, rfl, ?_⟩
    obtain ⟨p1, rfl, rfl, rfl, rfl, rfl, rfl, rfl, rfl, rfl, rfl, rfl, rfl, rfl, rfl, rfl, rfl, rfl, rfl, rfl, rfl, rfl, rfl, rfl, rfl, rfl, rfl⟩ | ⟨p1, p2, p3, p4⟩ := po
    · exact ⟨fun z => absurd z (fun z9 => absurd (c4.symm.trans z9) (by decide)), Or.inl ⟨p1, rfl, rfl, rfl, rfl, rfl, rfl, rfl, rfl, rfl, rfl, rfl, rfl, rfl, rfl, rfl, rfl, rfl, rfl, rfl, rfl, rfl, rfl, rfl, rfl, rfl, rfl⟩⟩
    · subst p3 p4
      exact ⟨fun z => absurd z (fun z9 => absurd (c4.symm.trans z9) (by decide)), Or.inr ⟨p1, record_PU hh4 p2, GI.zero, ⟨_, _, _, _, _, _, _, m1, m2⟩⟩⟩
  rw [if_neg c4]
  by_cases c5 : v &&& 15 = 5
  · rw [if_pos c5]
    obtain ⟨r', grade', steps', br', cp', hz', Hb', HN', HB', HC', Hc', Hr', Hg', Hs', s', past', e1, -, m1, m2⟩ := sim_clear (N := N) h hh   (by omega)
    have po := clear_po h (by omega) e1
    rw [e1, bd14_some]
    refine ⟨_, _, _, _, _, _, _, _, _, _, _, _, _, _, _, _, _, _, _, _, _, _, _, _, _, _, _, _, _, _, _, _, _, _, _, _, _, _, _, _, _, rfl, ?_⟩
    obtain ⟨p1, p2, p3, p4⟩ := po
    subst p3 p4
    exact ⟨fun z => absurd z (fun z9 => absurd (c5.symm.trans z9) (by decide)), Or.inr ⟨p1, record_PU hh4 p2, GI.zero, ⟨_, _, _, _, _, _, _, m1, m2⟩⟩⟩
  rw [if_neg c5]
  by_cases c6 : v &&& 15 = 6
  · rw [if_pos c6]
    obtain ⟨r', br', hz', Hb', HN', HB', HC', Hc', Hr', Hg', Hs', s', past', e1, -, m1, m2⟩ := sim_take (N := N) h hh  kk (by omega)
    have po := take_po h e1
    rw [e1, bd11_some]
    refine ⟨_, _, _, _, _, _, _, _, _, _, _, _, _, _, _, _, _, _, _, _, _, _, _, _, _, _, _, _, _, _, _, _, _, _, _, _, _, _, _, _, _, rfl, ?_⟩
    obtain ⟨p1, rfl, rfl, rfl, rfl, rfl, rfl, rfl, rfl, rfl⟩ | ⟨p1, p2⟩ := po
    · exact ⟨fun z => absurd z (fun z9 => absurd (c6.symm.trans z9) (by decide)), Or.inl ⟨p1, rfl, rfl, rfl, rfl, rfl, rfl, rfl, rfl, rfl, rfl, rfl, rfl, rfl, rfl, rfl, rfl, rfl, rfl, rfl, rfl, rfl, rfl, rfl, rfl, rfl, rfl⟩⟩
    · exact ⟨fun z => absurd z (fun z9 => absurd (c6.symm.trans z9) (by decide)), Or.inr ⟨p1, record_PU hh4 p2, hg.mono (by omega), ⟨_, _, _, _, _, _, _, m1, m2⟩⟩⟩
  rw [if_neg c6]
  by_cases c7 : v &&& 15 = 7
  · rw [if_pos c7]
    obtain ⟨a1, ea1⟩ := low_ok (a := v >>> (10 &&& 31)) (b := 3) (by decide)
    rw [ea1, bd1_some]
    obtain ⟨r', cp', hz', Hb', HN', HB', HC', Hc', Hr', Hg', Hs', s', past', e1, -, m1, m2⟩ := sim_cap (N := N) h hh  kk a1 (by omega)
    have po := cap_po h e1
    rw [e1, bd11_some]
    refine ⟨_, _, _, _, _, _, _, _, _, _, _, _, _, _, _, _, _, _, _, _, _, _, _, _, _, _, _, _, _, _, _, _, _, _, _, _, _, _, _, _, _, rfl, ?_⟩
    obtain ⟨p1, rfl, rfl, rfl, rfl, rfl, rfl, rfl, rfl, rfl⟩ | ⟨p1, p2⟩ := po
    · exact ⟨fun z => absurd z (fun z9 => absurd (c7.symm.trans z9) (by decide)), Or.inl ⟨p1, rfl, rfl, rfl, rfl, rfl, rfl, rfl, rfl, rfl, rfl, rfl, rfl, rfl, rfl, rfl, rfl, rfl, rfl, rfl, rfl, rfl, rfl, rfl, rfl, rfl, rfl⟩⟩
    · exact ⟨fun z => absurd z (fun z9 => absurd (c7.symm.trans z9) (by decide)), Or.inr ⟨p1, record_PU hh4 p2, hg.mono (by omega), ⟨_, _, _, _, _, _, _, m1, m2⟩⟩⟩
  rw [if_neg c7]
  by_cases c8 : v &&& 15 = 8
  · rw [if_pos c8]
    obtain ⟨a1, ea1⟩ := low_ok (a := v >>> (4 &&& 31)) (b := 5) (by decide)
    rw [ea1, bd1_some]
    obtain ⟨r', grade', steps', br', cp', un', ub', uc', ul', ld', rb', hz', Hb', HN', HB', HC', Hc', Hr', Hg', Hs', s', past', gr', e1, -, m1, m2⟩ := sim_steps (N := N) h hh un1 ub1 uc1 ul1 ld1 (fun _ => 0) rb (1 + a1) (by omega)
    have po := steps_po hB9 hg e1
    rw [e1, bd20_some]
    refine ⟨_, _, _, _, _, _, _, _, _, _, _, _, _, _, _, _, _, _, _, _, _, _, _, _, _, _, _, _, _, _, _, _, _, _, _, _, _, _, _, _, _, rfl, ?_⟩
    obtain ⟨p1, rfl, rfl, rfl, rfl, rfl, rfl, rfl, rfl, rfl, rfl, rfl, rfl⟩ | ⟨p1, p2, p3⟩ := po
    · exact ⟨fun z => absurd z (fun z9 => absurd (c8.symm.trans z9) (by decide)), Or.inl ⟨p1, rfl, rfl, rfl, rfl, rfl, rfl, rfl, rfl, rfl, rfl, rfl, rfl, rfl, rfl, rfl, rfl, rfl, rfl, rfl, rfl, rfl, rfl, rfl, rfl, rfl, rfl⟩⟩
    · exact ⟨fun z => absurd z (fun z9 => absurd (c8.symm.trans z9) (by decide)), Or.inr ⟨p1, record_PU hh4 p2, p3, ⟨_, _, _, _, _, _, _, m1, m2⟩⟩⟩
  rw [if_neg c8]
  by_cases c9 : v &&& 15 = 9
  · rw [if_pos c9]
    obtain ⟨r', grade', steps', br', cp', un', ub', uc', ul', ld', rb', hz', Hb', HN', HB', HC', Hc', Hr', Hg', Hs', s', past', gr', e1, -, m1, m2⟩ := sim_step (N := N) h hh un1 ub1 uc1 ul1 ld1 (fun _ => 0) rb  (by omega)
    have po := step_po h (by omega) e1
    rw [e1, bd20_some]
    refine ⟨_, _, _, _, _, _, _, _, _, _, _, _, _, _, _, _, _, _, _, _, _, _, _, _, _, _, _, _, _, _, _, _, _, _, _, _, _, _, _, _, _, rfl, ?_⟩
    obtain ⟨p0, ⟨p1, rfl, rfl, rfl, rfl, rfl, rfl, rfl, rfl, rfl, rfl, rfl, rfl⟩ | ⟨p1, p2, p3⟩⟩ := po
    · exact ⟨fun _ => p0, Or.inl ⟨p1, rfl, rfl, rfl, rfl, rfl, rfl, rfl, rfl, rfl, rfl, rfl, rfl, rfl, rfl, rfl, rfl, rfl, rfl, rfl, rfl, rfl, rfl, rfl, rfl, rfl, rfl⟩⟩
    · subst p3
      exact ⟨fun _ => p0, Or.inr ⟨p1, record_PU hh4 p2, hg.step.mono (by omega), ⟨_, _, _, _, _, _, _, m1, m2⟩⟩⟩
  rw [if_neg c9]
  by_cases c10 : v &&& 15 = 10
  · rw [if_pos c10]
    obtain ⟨a1, ea1⟩ := low_ok (a := v >>> (20 &&& 31)) (b := 8) (by decide)
    rw [ea1, bd1_some]
    obtain ⟨r', grade', steps', num', br', cp', Yi', Yw', cO', iA', fi', se', fC', sC', st', wO', cr', kc', kr', ki', kz', tk', mn', kC', hz', Hb', HN', HB', HC', Hc', Hr', Hg', Hs', Mw', mz', s', past', one', other', md', e1, -, m1, m2⟩ := sim_make (N := N) h hh kc kr ki kz 0 tk mn kC (fun _ => 0) ((v >>> (4 &&& 31)) &&& 65535) (2 + a1) (by omega)
    have po := make_po (by omega) e1
    rw [e1, bd33_some]
    refine ⟨_, _, _, _, _, _, _, _, _, _, _, _, _, _, _, _, _, _, _, _, _, _, _, _, _, _, _, _, _, _, _, _, _, _, _, _, _, _, _, _, _, rfl, ?_⟩
    obtain ⟨p1, rfl, rfl, rfl, rfl, rfl, rfl, rfl, rfl, rfl, rfl, rfl, rfl, rfl, rfl, rfl, rfl, rfl, rfl, rfl, rfl, rfl, rfl, rfl, rfl⟩ | ⟨p1, p2, p3, p4⟩ := po
    · exact ⟨fun z => absurd z (fun z9 => absurd (c10.symm.trans z9) (by decide)), Or.inl ⟨p1, rfl, rfl, rfl, rfl, rfl, rfl, rfl, rfl, rfl, rfl, rfl, rfl, rfl, rfl, rfl, rfl, rfl, rfl, rfl, rfl, rfl, rfl, rfl, rfl, rfl, rfl⟩⟩
    · subst p3 p4
      exact ⟨fun z => absurd z (fun z9 => absurd (c10.symm.trans z9) (by decide)), Or.inr ⟨by rw [p1, m1.2.2.1.1]; exact nI_pos' (by have := m1.2.1.2.2.2.2; omega), record_PU hh4 p2, GI.zero, ⟨_, _, _, _, _, _, _, m1, m2⟩⟩⟩
  rw [if_neg c10]
  by_cases c11 : v &&& 15 = 11
  · rw [if_pos c11]
    obtain ⟨a1, ea1⟩ := low_ok (a := v >>> (20 &&& 31)) (b := 8) (by decide)
    rw [ea1, bd1_some]
    obtain ⟨r', grade', steps', num', br', cp', Yi', Yw', cO', iA', fi', se', fC', sC', st', wO', cr', kc', kr', ki', kz', tk', mn', kC', hz', Hb', HN', HB', HC', Hc', Hr', Hg', Hs', Mw', mz', s', past', one', other', md', e1, -, m1, m2⟩ := sim_make (N := N) h hh kc kr ki kz 0 tk mn kC (fun _ => 0) ((v >>> (4 &&& 31)) &&& 65535) (2 + a1) (by omega)
    have po := make_po (by omega) e1
    rw [e1, bd33_some]
    refine ⟨_, _, _, _, _, _, _, _, _, _, _, _, _, _, _, _, _, _, _, _, _, _, _, _, _, _, _, _, _, _, _, _, _, _, _, _, _, _, _, _, _, rfl, ?_⟩
    obtain ⟨p1, rfl, rfl, rfl, rfl, rfl, rfl, rfl, rfl, rfl, rfl, rfl, rfl, rfl, rfl, rfl, rfl, rfl, rfl, rfl, rfl, rfl, rfl, rfl, rfl⟩ | ⟨p1, p2, p3, p4⟩ := po
    · exact ⟨fun z => absurd z (fun z9 => absurd (c11.symm.trans z9) (by decide)), Or.inl ⟨p1, rfl, rfl, rfl, rfl, rfl, rfl, rfl, rfl, rfl, rfl, rfl, rfl, rfl, rfl, rfl, rfl, rfl, rfl, rfl, rfl, rfl, rfl, rfl, rfl, rfl, rfl⟩⟩
    · subst p3 p4
      exact ⟨fun z => absurd z (fun z9 => absurd (c11.symm.trans z9) (by decide)), Or.inr ⟨by rw [p1, m1.2.2.1.1]; exact nI_pos' (by have := m1.2.1.2.2.2.2; omega), record_PU hh4 p2, GI.zero, ⟨_, _, _, _, _, _, _, m1, m2⟩⟩⟩
  rw [if_neg c11]
  obtain ⟨r', br', un', ub', uc', ul', hz', Hb', HN', HB', HC', Hc', Hr', Hg', Hs', s', past', e1, -, m1, m2⟩ := sim_build (N := N) h hh un1 ub1 uc1 ul1 kk (by omega)
  have po := build_po h e1
  rw [e1, bd15_some]
  refine ⟨_, _, _, _, _, _, _, _, _, _, _, _, _, _, _, _, _, _, _, _, _, _, _, _, _, _, _, _, _, _, _, _, _, _, _, _, _, _, _, _, _, rfl, ?_⟩
  obtain ⟨p1, rfl, rfl, rfl, rfl, rfl, rfl, rfl, rfl, rfl⟩ | ⟨p1, p2⟩ := po
  · exact ⟨fun z => absurd z c9, Or.inl ⟨p1, rfl, rfl, rfl, rfl, rfl, rfl, rfl, rfl, rfl, rfl, rfl, rfl, rfl, rfl, rfl, rfl, rfl, rfl, rfl, rfl, rfl, rfl, rfl, rfl, rfl, rfl⟩⟩
  · exact ⟨fun z => absurd z c9, Or.inr ⟨p1, record_PU hh4 p2, hg.mono (by omega), ⟨_, _, _, _, _, _, _, m1, m2⟩⟩⟩
