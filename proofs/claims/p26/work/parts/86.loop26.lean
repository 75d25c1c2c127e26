/-! the law's loop -/
def INV (i : Nat) (sv : Int32) (cols : Int32) (rows : Int32) (grade : Int32) (steps : Int32) (num : Nat → Int32) (br : Nat → Int32) (cp : Nat → Int32) (Yi : Int32) (Yw : Int32) (cO : Nat → Int32) (iA : Nat → Int32) (fi : Nat → Int32) (se : Nat → Int32) (fC : Nat → Int32) (sC : Nat → Int32) (st : Nat → Int32) (wO : Nat → Int32) (cr : Nat → Int64) (un : Nat → Int32) (ub : Nat → Int32) (uc : Nat → Int32) (ul : Nat → Int32) (ld : Nat → Int32) (rb : Int64) (kc : Int32) (kr : Int32) (ki : Int32) (kz : Int32) (tk : Nat → Int32) (mn : Nat → Int32) (kC : Nat → Int32) (hz : Int32) (Hb : Nat → Nat) (HN : Nat → Nat → Int32) (HB : Nat → Nat → Int32) (HC : Nat → Nat → Int32) (Hc : Nat → Int32) (Hr : Nat → Int32) (Hg : Nat → Int32) (Hs : Nat → Int32) : Prop := ∃ W H Mw s one other past n, Cur W H num br cp cols rows grade steps Yi Yw Mw cO iA fi se fC sC st wO s one other cr ∧ HR hz HN HB HC Hc Hr Hg Hs past ∧ hz = nI n ∧ n ≤ 4 ∧ sv = nI n ∧ GI (200 * i) grade steps ∧ ∀ j, j < n → GI (200 * i) (Hg j) (Hs j)
theorem back_cur {W H W' H' : Nat} {num : Nat → Int32} {br : Nat → Int32} {cp : Nat → Int32} {cO : Nat → Int32} {iA : Nat → Int32} {fi : Nat → Int32} {se : Nat → Int32} {fC : Nat → Int32} {sC : Nat → Int32} {st : Nat → Int32} {wO : Nat → Int32} {s : Nat → Int32} {one : Nat → Int32} {other : Nat → Int32} {cols : Int32} {rows : Int32} {grade : Int32} {steps : Int32} {Yi : Int32} {Yw : Int32} {Mw : Int32} {cr : Nat → Int64} {num' : Nat → Int32} {br' : Nat → Int32} {cp' : Nat → Int32} {cO' : Nat → Int32} {iA' : Nat → Int32} {fi' : Nat → Int32} {se' : Nat → Int32} {fC' : Nat → Int32} {sC' : Nat → Int32} {st' : Nat → Int32} {wO' : Nat → Int32} {s' : Nat → Int32} {one' : Nat → Int32} {other' : Nat → Int32} {cols' : Int32} {rows' : Int32} {grade' : Int32} {steps' : Int32} {Yi' : Int32} {Yw' : Int32} {Mw' : Int32} {cr' : Nat → Int64} (h : Cur W H num br cp cols rows grade steps Yi Yw Mw cO iA fi se fC sC st wO s one other cr) (h2 : Cur W' H' num' br' cp' cols' rows' grade' steps' Yi' Yw' Mw' cO' iA' fi' se' fC' sC' st' wO' s' one' other' cr') (e1 : cols' = cols) (e2 : rows' = rows) (e3 : grade' = grade) (e4 : steps' = steps) (en : ∀ k, k < 144 → num' k = num k) (eb : ∀ k, k < 48 → br' k = br k) (ec : ∀ k, k < 48 → cp' k = cp k) : Cur W H num' br' cp' cols' rows' grade' steps' Yi' Yw' Mw cO' iA' fi' se' fC' sC' st' wO' s one other cr' := by
  subst e1 e2 e3 e4
  have hB := h.2.1
  have hB2 := h2.2.1
  have hW : W' = W := nI_i (by have := hB2.1; omega) (by have := hB.1; omega) (h2.1.1.symm.trans h.1.1)
  have hH : H' = H := nI_i (by have := hB2.2.1; omega) (by have := hB.2.1; omega) (h2.1.2.symm.trans h.1.2)
  subst hW hH
  have hs := h.sr.congr (nm := num') (b := br') (c := cp') (z := s) (fun k hk => (en k hk).symm) (fun k hk => (eb k hk).symm) (fun k hk => (ec k hk).symm) (fun _ _ => rfl)
  have e := WL_congr (by have := hB.1.1; omega) hB.M (fun c hc => (en c hc).symm)
  exact hs.cur h2.2.2.1 (by rw [← e]; exact h.2.2.2.2.1)
theorem saved_next {n m : Nat} (hn : n ≤ 4) (hm : m + 1 = min (n + 1) 4) : (if 4 ≤ nI n then (4 : Int32) else nI n + 1) = nI (m + 1) := by
  by_cases c : n = 4
  · subst c
    rw [if_pos (by decide), show m + 1 = 4 by omega]
    rfl
  · rw [if_neg (show ¬ (4 : Int32) ≤ nI n from nI_ge (b := 4) (by omega) (by omega)), nI_s, show n + 1 = m + 1 by omega]
set_option maxHeartbeats 2000000 in
theorem turn {N i : Nat} {tl : Int32} {cel : Int32 → Option Int32} {rc : Int32 → Int32 → Int32 → Int32 → Int32 → Int32 → (Nat → Int32) → (Nat → Int32) → (Nat → Int32) → Int32 → Int32 → (Nat → Int32) → (Nat → Int32) → (Nat → Int32) → (Nat → Int32) → (Nat → Int32) → (Nat → Int32) → (Nat → Int32) → (Nat → Int32) → (Nat → Int64) → (Nat → Int32) → (Nat → Int32) → (Nat → Int32) → (Nat → Int32) → (Nat → Int32) → Int64 → Int32 → Int32 → Int32 → Int32 → (Nat → Int32) → (Nat → Int32) → (Nat → Int32) → Int32 → (Nat → Nat) → (Nat → Nat → Int32) → (Nat → Nat → Int32) → (Nat → Nat → Int32) → (Nat → Int32) → (Nat → Int32) → (Nat → Int32) → (Nat → Int32) → Option Int32} (hN : 100000 < N) (hi : i < 40) (hcel : Ev (cel (nI i)) (fun _ => True)) {sv : Int32} {cols : Int32} {rows : Int32} {grade : Int32} {steps : Int32} {num : Nat → Int32} {br : Nat → Int32} {cp : Nat → Int32} {Yi : Int32} {Yw : Int32} {cO : Nat → Int32} {iA : Nat → Int32} {fi : Nat → Int32} {se : Nat → Int32} {fC : Nat → Int32} {sC : Nat → Int32} {st : Nat → Int32} {wO : Nat → Int32} {cr : Nat → Int64} {un : Nat → Int32} {ub : Nat → Int32} {uc : Nat → Int32} {ul : Nat → Int32} {ld : Nat → Int32} {rb : Int64} {kc : Int32} {kr : Int32} {ki : Int32} {kz : Int32} {tk : Nat → Int32} {mn : Nat → Int32} {kC : Nat → Int32} {hz : Int32} {Hb : Nat → Nat} {HN : Nat → Nat → Int32} {HB : Nat → Nat → Int32} {HC : Nat → Nat → Int32} {Hc : Nat → Int32} {Hr : Nat → Int32} {Hg : Nat → Int32} {Hs : Nat → Int32} (hI : INV i sv cols rows grade steps num br cp Yi Yw cO iA fi se fC sC st wO cr un ub uc ul ld rb kc kr ki kz tk mn kC hz Hb HN HB HC Hc Hr Hg Hs) (k : ∀ (sv : Int32) (cols : Int32) (rows : Int32) (grade : Int32) (steps : Int32) (num : Nat → Int32) (br : Nat → Int32) (cp : Nat → Int32) (Yi : Int32) (Yw : Int32) (cO : Nat → Int32) (iA : Nat → Int32) (fi : Nat → Int32) (se : Nat → Int32) (fC : Nat → Int32) (sC : Nat → Int32) (st : Nat → Int32) (wO : Nat → Int32) (cr : Nat → Int64) (un : Nat → Int32) (ub : Nat → Int32) (uc : Nat → Int32) (ul : Nat → Int32) (ld : Nat → Int32) (rb : Int64) (kc : Int32) (kr : Int32) (ki : Int32) (kz : Int32) (tk : Nat → Int32) (mn : Nat → Int32) (kC : Nat → Int32) (hz : Int32) (Hb : Nat → Nat) (HN : Nat → Nat → Int32) (HB : Nat → Nat → Int32) (HC : Nat → Nat → Int32) (Hc : Nat → Int32) (Hr : Nat → Int32) (Hg : Nat → Int32) (Hs : Nat → Int32), INV (i + 1) sv cols rows grade steps num br cp Yi Yw cO iA fi se fC sC st wO cr un ub uc ul ld rb kc kr ki kz tk mn kC hz Hb HN HB HC Hc Hr Hg Hs → Ev (rc sv (nI (i + 1)) cols rows grade steps num br cp Yi Yw cO iA fi se fC sC st wO cr un ub uc ul ld rb kc kr ki kz tk mn kC hz Hb HN HB HC Hc Hr Hg Hs) (fun t => t = 1)) : Ev (m_L_law_b12 N tl cel rc sv (nI i) cols rows grade steps num br cp Yi Yw cO iA fi se fC sC st wO cr un ub uc ul ld rb kc kr ki kz tk mn kC hz Hb HN HB HC Hc Hr Hg Hs) (fun t => t = 1) := by
  obtain ⟨W, H, Mw, s, one, other, past, n, h, hh, h0, hn4, hs, hg, hgs⟩ := hI
  have hB9 : 200 * i ≤ 100000 := by omega
  unfold m_L_law_b12
  rw [if_neg (show ¬ (40 : Int32) ≤ nI i from nI_ge (b := 40) hi (by omega))]
  refine evc1 hcel (fun v _ => ?_)
  refine evc6 (tale_ev h hN) (fun a0 a1 a2 a3 a4 a5 qa => ?_)
  replace qa : a0 = TLv N tl Mw s one other := qa
  refine evc7 (hint_ev h hN) (fun b0 b1 b2 b3 b4 b5 b6 qb => ?_)
  replace qb : stpE W H num br cp b0 := qb
  obtain ⟨r, cols', rows', grade', steps', num', br', cp', Yi', Yw', cO', iA', fi', se', fC', sC', st', wO', cr', un', ub', uc', ul', ld', rb', kc', kr', ki', kz', tk', mn', kC', hz', Hb', HN', HB', HC', Hc', Hr', Hg', Hs', e1, d9, dp⟩ := does_ev h hh h0 hn4 hB9 hg b1 b2 b3 b4 b5 b6 kc kr ki kz tk mn kC tl v hN
  rw [e1, bd41_some]
  have j60 : ∀ {rc2 : Int32 → Int32 → Int32 → Int32 → Int32 → Int32 → (Nat → Int32) → (Nat → Int32) → (Nat → Int32) → Int32 → Int32 → (Nat → Int32) → (Nat → Int32) → (Nat → Int32) → (Nat → Int32) → (Nat → Int32) → (Nat → Int32) → (Nat → Int32) → (Nat → Int32) → (Nat → Int64) → (Nat → Int32) → (Nat → Int32) → (Nat → Int32) → (Nat → Int32) → (Nat → Int32) → Int64 → Int32 → Int32 → Int32 → Int32 → (Nat → Int32) → (Nat → Int32) → (Nat → Int32) → Int32 → (Nat → Nat) → (Nat → Nat → Int32) → (Nat → Nat → Int32) → (Nat → Nat → Int32) → (Nat → Int32) → (Nat → Int32) → (Nat → Int32) → (Nat → Int32) → Option Int32} {c1 c2 c3 c4 c5 : Nat → Int32}, Ev (m_L_law_j79 N tl rc2 sv (nI i) v a0 r cols' rows' grade' steps' num' br' cp' Yi' Yw' cO' iA' fi' se' fC' sC' st' wO' cr' c1 c2 c3 c4 c5 rb' kc' kr' ki' kz' tk' mn' kC' hz' Hb' HN' HB' HC' Hc' Hr' Hg' Hs') (fun t => t = 1) → Ev (m_L_law_j60 N tl rc2 sv (nI i) v a0 b0 r cols' rows' grade' steps' num' br' cp' Yi' Yw' cO' iA' fi' se' fC' sC' st' wO' cr' c1 c2 c3 c4 c5 rb' kc' kr' ki' kz' tk' mn' kC' hz' Hb' HN' HB' HC' Hc' Hr' Hg' Hs') (fun t => t = 1) := by
    intro rc2 c1 c2 c3 c4 c5 hz9
    unfold m_L_law_j60
    by_cases c : v &&& 15 = 9
    · rw [if_pos c, if_pos (stpE_uniq (d9 c) qb)]
      exact hz9
    · rw [if_neg c]
      exact hz9
  rcases dp with ⟨p1, rfl, rfl, rfl, rfl, rfl, rfl, rfl, rfl, rfl, rfl, rfl, rfl, rfl, rfl, rfl, rfl, rfl, rfl, rfl, rfl, rfl, rfl, rfl, rfl, rfl, rfl⟩ | ⟨p1, pu, hg2, W', H', Mw', s', one', other', past', h2, hh2⟩
  · -- an error: all is as it was
    rw [if_neg (Int32.not_le.mpr p1)]
    refine evc6 (tale_ev h hN) (fun c0 c1 c2 c3 c4 c5 qc => ?_)
    replace qc : c0 = TLv N tl Mw s one other := qc
    rw [if_pos (by rw [qc, qa]; exact lg_same _)]
    refine j60 ?_
    unfold m_L_law_j79
    rw [if_neg (Int32.not_le.mpr p1)]
    unfold m_L_law_j100
    rw [if_pos p1]
    exact L141 h hN hg hB9 (fun un ub uc ul ld rb => k _ _ _ _ _ _ _ _ _ _ _ _ _ _ _ _ _ _ _ _ _ _ _ _ _ _ _ _ _ _ _ _ _ _ _ _ _ _ _ _ _ ⟨W, H, Mw, s, one, other, past, n, h, hh, h0, hn4, hs, hg.mono (by omega), fun j hj => (hgs j hj).mono (by omega)⟩) (hs.trans h0.symm)
  · -- a change
    obtain ⟨m, m3, mz, mm, en, eb, ec, eC, eR, eG, eS, eO⟩ := pu
    have hge : ∀ j, j < m → GI (200 * i) (Hg' j) (Hs' j) := fun j hj => by
      obtain ⟨q, q1, q2, q3⟩ := eO j hj
      rw [q2, q3]
      exact hgs q q1
    rw [if_pos p1]
    refine j60 ?_
    unfold m_L_law_j79
    rw [if_pos p1]
    have j100 : Ev (m_L_law_j100 N tl rc (nI i) v a0 r cols' rows' grade' steps' num' br' cp' Yi' Yw' cO' iA' fi' se' fC' sC' st' wO' cr' un' ub' uc' ul' ld' rb' kc' kr' ki' kz' tk' mn' kC' hz' Hb' HN' HB' HC' Hc' Hr' Hg' Hs' (nI (m + 1))) (fun t => t = 1) := by
      unfold m_L_law_j100
      rw [if_neg (Int32.not_lt.mpr p1)]
      by_cases c : ((v >>> (27 &&& 31)) &&& 3) = 0
      · rw [if_pos c]
        subst mz
        obtain ⟨r2, cols2, rows2, grade2, steps2, num2, br2, cp2, Yi2, Yw2, cO2, iA2, fi2, se2, fC2, sC2, st2, wO2, cr2, hz2, Mw2, s2, one2, other2, W2, H2, e2, -, h3, hh3⟩ := sim_undo (N := N) h2 hh2 (by omega)
        have up := undo_po (by omega) e2
        rw [e2, bd20_some]
        obtain ⟨u1, u2, u3, u4, u5, u6, u7, u8, u9⟩ := up
        rw [if_pos (by rw [u1, show (1 : Int32) = nI 1 from rfl, pk_sub (by omega), Nat.add_sub_cancel])]
        have h4 := back_cur h h3 (u3.trans eC) (u4.trans eR) (u5.trans eG) (u6.trans eS) (fun k hk => (u7 k hk).trans (en k hk)) (fun k hk => (u8 k hk).trans (eb k hk)) (fun k hk => (u9 k hk).trans (ec k hk))
        refine evc6 (tale_ev h4 hN) (fun c0 c1 c2 c3 c4 c5 qc => ?_)
        replace qc : c0 = TLv N tl Mw s one other := qc
        rw [if_pos (by rw [qc, qa]; exact lg_same _)]
        simp only [lt1]
        have e9 : nI (m + 1) + (-1) = nI m := by
          rw [show nI (m + 1) + (-1) = nI (m + 1) - nI 1 from (Int32.sub_eq_add_neg _ _).symm, pk_sub (by omega), Nat.add_sub_cancel]
        rw [e9]
        have hg4 : GI (200 * i) grade2 steps2 := by rw [u5, u6, eG, eS]; exact hg
        exact L141 h4 hN hg4 hB9 (fun un ub uc ul ld rb => k _ _ _ _ _ _ _ _ _ _ _ _ _ _ _ _ _ _ _ _ _ _ _ _ _ _ _ _ _ _ _ _ _ _ _ _ _ _ _ _ _ ⟨_, _, _, _, _, _, _, m, h3, hh3, u2, by omega, rfl, hg4.mono (by omega), fun j hj => (hge j hj).mono (by omega)⟩) u2.symm
      · rw [if_neg c]
        exact L141 h2 hN hg2 (by omega) (fun un ub uc ul ld rb => k _ _ _ _ _ _ _ _ _ _ _ _ _ _ _ _ _ _ _ _ _ _ _ _ _ _ _ _ _ _ _ _ _ _ _ _ _ _ _ _ _ ⟨_, _, _, _, _, _, _, m + 1, h2, hh2, mz, by omega, rfl, hg2.mono (by omega), fun j hj => by
          rcases Nat.lt_succ_iff_lt_or_eq.mp hj with q | q
          · exact (hge j q).mono (by omega)
          · rw [q, eG, eS]; exact hg.mono (by omega)⟩) mz.symm
    have sn := saved_next hn4 mm
    rw [hs]
    by_cases c4 : 4 ≤ nI n
    · rw [if_pos c4]
      rw [if_pos c4] at sn
      rw [sn]
      exact j100
    · rw [if_neg c4]
      rw [if_neg c4] at sn
      rw [sn]
      exact j100
theorem last {N : Nat} {sv : Int32} {cols : Int32} {rows : Int32} {grade : Int32} {steps : Int32} {num : Nat → Int32} {br : Nat → Int32} {cp : Nat → Int32} {Yi : Int32} {Yw : Int32} {cO : Nat → Int32} {iA : Nat → Int32} {fi : Nat → Int32} {se : Nat → Int32} {fC : Nat → Int32} {sC : Nat → Int32} {st : Nat → Int32} {wO : Nat → Int32} {cr : Nat → Int64} {un : Nat → Int32} {ub : Nat → Int32} {uc : Nat → Int32} {ul : Nat → Int32} {ld : Nat → Int32} {rb : Int64} {kc : Int32} {kr : Int32} {ki : Int32} {kz : Int32} {tk : Nat → Int32} {mn : Nat → Int32} {kC : Nat → Int32} {hz : Int32} {Hb : Nat → Nat} {HN : Nat → Nat → Int32} {HB : Nat → Nat → Int32} {HC : Nat → Nat → Int32} {Hc : Nat → Int32} {Hr : Nat → Int32} {Hg : Nat → Int32} {Hs : Nat → Int32} (hN : 100000 < N) (hI : INV 40 sv cols rows grade steps num br cp Yi Yw cO iA fi se fC sC st wO cr un ub uc ul ld rb kc kr ki kz tk mn kC hz Hb HN HB HC Hc Hr Hg Hs) : Ev (m_L_law_j512 N sv cols rows grade steps num br cp Yi Yw cO iA fi se fC sC st wO cr hz HN HB HC Hc Hr Hg Hs) (fun t => t = 1) := by
  obtain ⟨W, H, Mw, s, one, other, past, n, h, hh, h0, hn4, hs, hg, hgs⟩ := hI
  unfold m_L_law_j512
  obtain ⟨r2, cols2, rows2, grade2, steps2, num2, br2, cp2, Yi2, Yw2, cO2, iA2, fi2, se2, fC2, sC2, st2, wO2, cr2, hz2, Mw2, s2, one2, other2, W2, H2, e2, -, h3, hh3⟩ := sim_undo (N := N) h hh (by omega)
  rw [e2, bd20_some]
  subst h0
  unfold m_L_law_j528
  cases n with
  | zero =>
    rw [if_pos (by rw [hs]; rfl), if_pos (undo_0 e2)]
    exact Ev.some rfl
  | succ n =>
    have up := undo_po (by omega) e2
    rw [if_neg (by rw [hs]; exact nI_ne0 (by omega) (by omega)), if_pos (by rw [hs, up.1, show (1 : Int32) = nI 1 from rfl, pk_sub (by omega), Nat.add_sub_cancel])]
    exact Ev.some rfl
theorem law_true {N : Nat} {tl : Int32} {cel : Int32 → Option Int32} (hN : 100000 < N) (hcel : ∀ i, i < 40 → Ev (cel (nI i)) (fun _ => True)) {cols : Int32} {rows : Int32} {grade : Int32} {steps : Int32} {num : Nat → Int32} {br : Nat → Int32} {cp : Nat → Int32} {Yi : Int32} {Yw : Int32} {cO : Nat → Int32} {iA : Nat → Int32} {fi : Nat → Int32} {se : Nat → Int32} {fC : Nat → Int32} {sC : Nat → Int32} {st : Nat → Int32} {wO : Nat → Int32} {cr : Nat → Int64} {un : Nat → Int32} {ub : Nat → Int32} {uc : Nat → Int32} {ul : Nat → Int32} {ld : Nat → Int32} {rb : Int64} {kc : Int32} {kr : Int32} {ki : Int32} {kz : Int32} {tk : Nat → Int32} {mn : Nat → Int32} {kC : Nat → Int32} {hz : Int32} {Hb : Nat → Nat} {HN : Nat → Nat → Int32} {HB : Nat → Nat → Int32} {HC : Nat → Nat → Int32} {Hc : Nat → Int32} {Hr : Nat → Int32} {Hg : Nat → Int32} {Hs : Nat → Int32} (hI : INV 0 0 cols rows grade steps num br cp Yi Yw cO iA fi se fC sC st wO cr un ub uc ul ld rb kc kr ki kz tk mn kC hz Hb HN HB HC Hc Hr Hg Hs) : m_L_law N cols rows grade steps num br cp Yi Yw cO iA fi se fC sC st wO cr un ub uc ul ld rb kc kr ki kz tk mn kC hz tl Hb HN HB HC Hc Hr Hg Hs cel = some 1 := by
  refine Ev.eq ?_
  unfold m_L_law
  refine zl42e1 40 INV ?_ ?_ N 0 _ _ _ _ _ _ _ _ _ _ _ _ _ _ _ _ _ _ _ _ _ _ _ _ _ _ _ _ _ _ _ _ _ _ _ _ _ _ _ _ _ (by omega) (by omega) hI
  · intro rc i sv cols rows grade steps num br cp Yi Yw cO iA fi se fC sC st wO cr un ub uc ul ld rb kc kr ki kz tk mn kC hz Hb HN HB HC Hc Hr Hg Hs hi hI k
    exact turn hN hi (hcel i hi) hI k
  · intro rc sv cols rows grade steps num br cp Yi Yw cO iA fi se fC sC st wO cr un ub uc ul ld rb kc kr ki kz tk mn kC hz Hb HN HB HC Hc Hr Hg Hs hI
    unfold m_L_law_b12
    rw [if_pos (by decide)]
    exact last hN hI
