/-! make: the call -/
theorem run_0 {N : Nat} {A B X sd : Int32} {tk mn kC : Nat → Int32} (hN : 1000 < N) : ∃ tk' mn', m_X3_run N tk mn kC A B sd X = m_X3_run_j57 N X A B 0 sd tk' mn' kC ∧ ∀ c, c < 144 → tk' c = 0 ∧ mn' c = 0 := by
  unfold m_X3_run
  refine zl3g0 (fun o => ∃ tk' mn', o = m_X3_run_j57 N X A B 0 sd tk' mn' kC ∧ ∀ c, c < 144 → tk' c = 0 ∧ mn' c = 0) 144 (fun i a b => ∀ c, c < i → a c = 0 ∧ b c = 0) ?_ ?_ N 0 _ _ (by omega) (by omega) (fun c hc => by omega)
  · intro rec i a b hi hP
    refine Or.inr ⟨upd a i 0, upd b i 0, ?_, fun c hc => ?_⟩
    · unfold m_X3_run_b23
      rw [if_neg (kk144_ge hi), vPut_nI hi (by omega), vPut_nI hi (by omega)]
      simp only [lt1, nI_s]
    · rcases Nat.lt_succ_iff_lt_or_eq.mp hc with r | r
      · rw [upd_n (by omega), upd_n (by omega)]; exact hP c r
      · rw [r, upd_s, upd_s]; exact ⟨rfl, rfl⟩
  · intro rec a b hP
    unfold m_X3_run_b23
    rw [if_pos (kk144_le (Nat.le_refl _) (by omega))]
    exact ⟨a, b, rfl, hP⟩
theorem made_0 {N : Nat} {x1 x2 p : Int32} {s a o t md : Nat → Int32} (hN : 1000 < N) : ∃ md', zl2 (m_X10_make_b32 N x1 x2 p s a o t) N 0 md = m_X10_make_j52 N x1 x2 p s a o t md' ∧ ∀ c, c < 144 → md' c = 0 := by
  refine zl2g0 (fun w => ∃ md', w = m_X10_make_j52 N x1 x2 p s a o t md' ∧ ∀ c, c < 144 → md' c = 0) 144 (fun i a => ∀ c, c < i → a c = 0) ?_ ?_ N 0 _ (by omega) (by omega) (fun c hc => by omega)
  · intro rec i b hi hP
    refine Or.inr ⟨upd b i 0, ?_, fun c hc => ?_⟩
    · unfold m_X10_make_b32
      rw [if_neg (kk144_ge hi), wr_nI hi (by omega)]
      simp only [lt1, nI_s]
    · rcases Nat.lt_succ_iff_lt_or_eq.mp hc with r | r
      · rw [upd_n (by omega)]; exact hP c r
      · rw [r, upd_s]
  · intro rec b hP
    unfold m_X10_make_b32
    rw [if_pos (kk144_le (Nat.le_refl _) (by omega))]
    exact ⟨b, rfl, hP⟩
theorem sim_make {N W H : Nat} {num br cp cO iA fi se fC sC st wO s one other past : Nat → Int32} {cols rows grade steps Yi Yw Mw hz : Int32} {cr : Nat → Int64} {Hb : Nat → Nat} {HN HB HC : Nat → Nat → Int32} {Hc Hr Hg Hs : Nat → Int32} (h : Cur W H num br cp cols rows grade steps Yi Yw Mw cO iA fi se fC sC st wO s one other cr) (hh : HR hz HN HB HC Hc Hr Hg Hs past) (kc kr ki kz mz : Int32) (tk mn kC md : Nat → Int32) (x y : Int32) (hN : 1000 < N) :
    ∃ r grade' steps' num' br' cp' Yi' Yw' cO' iA' fi' se' fC' sC' st' wO' cr' kc' kr' ki' kz' tk' mn' kC' hz' Hb' HN' HB' HC' Hc' Hr' Hg' Hs' Mw' mz' s' past' one' other' md', m_X9_make N cols rows grade steps num br cp Yi Yw cO iA fi se fC sC st wO cr kc kr ki kz tk mn kC hz Hb HN HB HC Hc Hr Hg Hs x y = some (r, grade', steps', num', br', cp', Yi', Yw', cO', iA', fi', se', fC', sC', st', wO', cr', kc', kr', ki', kz', tk', mn', kC', hz', Hb', HN', HB', HC', Hc', Hr', Hg', Hs') ∧ m_X10_make N hz Mw mz s past one other md x y = some (r, hz', Mw', mz', s', past', one', other', md') ∧ Cur W H num' br' cp' cols rows grade' steps' Yi' Yw' Mw' cO' iA' fi' se' fC' sC' st' wO' s' one' other' cr' ∧ HR hz' HN' HB' HC' Hc' Hr' Hg' Hs' past' := by
  obtain ⟨⟨rfl, rfl⟩, hB, hL, hs, hm, hb, hbo, hx, hg, hst⟩ := id h
  have hM := hB.M
  have hWH : 0 < W * H := Nat.mul_pos (by have := hB.1; omega) (by have := hB.2.1; omega)
  unfold m_X9_make m_X10_make
  rcases in_rng (lo := 0) (hi := 65535) (by omega) (by omega) x with ⟨e, hy⟩ | ⟨e, y1, y2, sd, d1, d2, rfl⟩
  · rw [show m_X10_in x 0 65535 = 0 from e]
    by_cases hy1 : x < 0
    · rw [if_pos hy1]
      exact ⟨_, _, _, _, _, _, _, _, _, _, _, _, _, _, _, _, _, _, _, _, _, _, _, _, _, _, _, _, _, _, _, _, _, _, _, _, _, _, _, _, rfl, rfl, h, hh⟩
    · rw [if_neg hy1, if_pos (show (65535 : Int32) < x from Int32.not_le.mp (by rcases hy with q | q; exact absurd q hy1; exact q))]
      exact ⟨_, _, _, _, _, _, _, _, _, _, _, _, _, _, _, _, _, _, _, _, _, _, _, _, _, _, _, _, _, _, _, _, _, _, _, _, _, _, _, _, rfl, rfl, h, hh⟩
  · rw [show m_X10_in (nI sd) 0 65535 = 1 from e, if_neg (show ¬ nI sd < 0 from y1), if_neg (show ¬ (65535 : Int32) < nI sd from Int32.not_lt.mpr y2), lt1_e, if_neg (show ¬ (1 : Int32) = 0 by decide)]
    rcases in_rng (lo := 2) (hi := 24) (by omega) (by omega) y with ⟨e, hy⟩ | ⟨e, y3, y4, X, d3, d4, rfl⟩
    · rw [show m_X10_in y 2 24 = 0 from e]
      by_cases hy1 : y < 2
      · rw [if_pos hy1]
        exact ⟨_, _, _, _, _, _, _, _, _, _, _, _, _, _, _, _, _, _, _, _, _, _, _, _, _, _, _, _, _, _, _, _, _, _, _, _, _, _, _, _, rfl, rfl, h, hh⟩
      · rw [if_neg hy1, if_neg (show ¬ y ≤ 24 from by rcases hy with q | q; exact absurd q hy1; exact q)]
        exact ⟨_, _, _, _, _, _, _, _, _, _, _, _, _, _, _, _, _, _, _, _, _, _, _, _, _, _, _, _, _, _, _, _, _, _, _, _, _, _, _, _, rfl, rfl, h, hh⟩
    · rw [show m_X10_in (nI X) 2 24 = 1 from e, if_neg (show ¬ nI X < 2 from y3), if_pos (show nI X ≤ 24 from y4), lt1_e, if_neg (show ¬ (1 : Int32) = 0 by decide)]
      obtain ⟨hz', Hb', HN', HB', HC', Hc', Hr', Hg', Hs', past', f1, f2, f3⟩ := record_ev (Hb := Hb) h.sr hh hN
      obtain ⟨tk1, mn1, g1, g2⟩ := run_0 (N := N) (A := nI W) (B := nI H) (X := nI X) (sd := nI sd) (tk := tk) (mn := mn) (kC := kC) hN
      obtain ⟨s1, g3, p0, p1, p2⟩ := empties_ev (N := N) (s := s) (by omega)
      obtain ⟨md1, g4, g5⟩ := made_0 (N := N) (x1 := nI sd) (x2 := nI X) (p := hz') (s := s1) (a := past') (o := one) (t := other) (md := md) hN
      rw [f1, f2, bd9_some, bd2_some, g1, g3, bd1_some, g4]
      unfold m_X3_run_j57 m_X10_make_j52
      have hs1 : MS W H (fun _ => 0) s1 := ⟨by rw [p0]; exact hs.1, by rw [p1]; exact hs.2.1, fun c hc => p2 c hc⟩
      have hB0 : BD W H (fun _ => 0) := BD.zero hB.1 hB.2.1 (fun _ _ => rfl)
      have hc0 : zn sd % (W * H) < W * H := Nat.mod_lt _ hWH
      have hrk0 : ∀ m, rk (fun _ => (0 : Int32)) m = 0 := fun m => by
        rw [rk_z (Nat.zero_le m) (fun c _ _ => rfl)]; rfl
      obtain ⟨k, e3, k1⟩ := ins_c (N := N) (M := W * H) (c := zn sd % (W * H)) (q := fun _ => 0) (tk := tk1) (kC := kC) hM (by rw [hrk0]; omega) hc0 (by decide) (fun d _ hd => absurd hd (by decide)) (by omega)
      rw [hrk0] at e3
      replace e3 : m_X3_addIsland N 0 tk1 kC (nI (zn sd % (W * H))) = some (nI 1, upd tk1 (zn sd % (W * H)) 1, k) := e3
      have hK : KR W H 1 0 (upd tk1 (zn sd % (W * H)) 1) mn1 k (upd (fun _ => 0) (zn sd % (W * H)) 1) (upd s1 (4 + zn sd % (W * H)) 1) md1 := by
        refine ⟨hB0.upd hc0 (by decide) (Or.inl (by rw [hrk0]; omega)), hs1.upd (by omega), ?_, Nat.le_refl _, fun d hd hp => k1 1 (by decide) d hd hp, fun d hd => ?_, fun d hd => ?_, fun d hd hp => ?_⟩
        · rw [rk_updx (by decide) (by decide), hrk0, if_pos hc0]
        · rw [(g2 d hd).2]
          by_cases ed : d = zn sd % (W * H)
          · subst ed; rw [upd_s]; decide
          · rw [upd_n ed]; rfl
        · by_cases ed : d = zn sd % (W * H)
          · subst ed; rw [upd_s, upd_s, if_pos (Or.inl (by decide))]
          · rw [upd_n ed, upd_n ed, (g2 d hd).1, g5 d hd]; rfl
        · by_cases ed : d = zn sd % (W * H)
          · subst ed; rw [upd_s]; exact ⟨1, rfl, by omega, fun _ => rfl, fun z => by omega⟩
          · rw [upd_n ed] at hp; exact absurd hp (by decide)
      obtain ⟨n', z', it', tk', mn', kC', q', s', md', l1, l2, l3, l4, l5⟩ := make_loop (N := N) (W := W) (H := H) (X := X) (p := hz') (a := past') (o := one) (t := other) d4 hN 200 0 N N 1 (zn sd) _ _ _ _ _ _ (by omega) (by omega) (by omega) (zn_lt sd) hK (by omega)
      obtain ⟨F, m1, m2⟩ := give3 (num := num) l3 l4 hN
      obtain ⟨s2, m3, m4⟩ := take_m (p := hz') (z := nI z') (a := past') (o := one) (t := other) l3 l4 hN
      obtain ⟨m5, m6⟩ := fin_1 l3 l5
      have m7 : BD W H F := m5.congr (fun c hc => (m2 c hc).symm)
      have m8 : MS W H F s2 := ⟨m4.1, m4.2.1, fun c hc => by rw [m4.2.2 c hc, m2 c hc]⟩
      have m9 : rk F (W * H) = n' := by rw [rk_congr (fun c (hc : c < W * H) => m2 c (by omega)), m6]
      obtain ⟨br', cp', Yi', Yw', cO', iA', fi', se', fC', sC', st', wO', cr', n3, q1, hL2⟩ := renew_ev (N := N) (br := br) (cp := cp) (cO := cO) (iA := iA) (fi := fi) (se := se) (fC := fC) (sC := sC) (st := st) (wO := wO) (cr := cr) m7 (by omega)
      obtain ⟨Mw', s', one', other', n4, hm2, hs3, r1, r2⟩ := anew_ev (N := N) (one := one) (other := other) m7 m8 (by omega)
      rw [pk_mul, draw_c (by omega) hWH (by omega), bd2_some, e3, bd3_some, cells_m hs1, bd1_some, draw_m (by omega) hWH (by omega), bd2_some, show (4 : Int32) = nI 4 from rfl, nI_add, wr_nI (by omega) (by omega)]
      rw [show zl6 (m_X3_run_b77 N (nI X) (nI W) (nI H)) N 0 (nI 1) (nI (zn sd)) (upd tk1 (zn sd % (W * H)) 1) mn1 k = _ from l1, bd7_some, m1, bd1_some, n3, bd15_some, show zl4 (m_X10_make_b75 N (nI X) hz' past' one other) N 0 (nI (zn sd)) (upd s1 (4 + zn sd % (W * H)) 1) md1 = _ from l2, m3]
      unfold m_X10_make_j201
      rw [n4, bd4_some, show nI n' = Yi' by rw [hL2.1, m9]]
      exact ⟨_, _, _, _, _, _, _, _, _, _, _, _, _, _, _, _, _, _, _, _, _, _, _, _, _, _, _, _, _, _, _, _, _, _, _, _, _, _, _, _, rfl, rfl, Cur.new ⟨rfl, rfl⟩ m7 hL2 hs3 hm2 q1 r1 ⟨rfl, rfl⟩ r2, f3⟩
