/-! load -/
theorem give_m {N t : Nat} {ch tx f s : Nat → Int32} {a1 a2 a3 a4 a5 a6 : Int32} {p one other : Nat → Int32} (ht : t ≤ 160) (hc : ∀ i, i < t → ch i = tx i ∧ ch i = nI (vN ch i) ∧ vN ch i < 2 ^ 31) (hok : ∀ i, i < t → okc (vN ch i)) (hcn : ccn ch t ≤ 144) (hs : ∀ c, c < 144 → s (4 + c) = f c) (hN : 1000 < N) : ∃ z, zl3 (m_X10_load_b42 N (nI t) tx a1 a2 a3 a4 a5 a6 p one other) N 0 0 s = m_X10_load_j102 N a1 a2 a3 a4 a5 a6 z p one other ∧ z 0 = s 0 ∧ z 1 = s 1 ∧ ∀ c, c < 144 → z (4 + c) = gvf ch f t c := by
  refine zl3g1 (fun o => ∃ z, o = m_X10_load_j102 N a1 a2 a3 a4 a5 a6 z p one other ∧ z 0 = s 0 ∧ z 1 = s 1 ∧ ∀ c, c < 144 → z (4 + c) = gvf ch f t c) t (fun i a z => a = nI (ccn ch i) ∧ z 0 = s 0 ∧ z 1 = s 1 ∧ ∀ c, c < 144 → z (4 + c) = gvf ch f i c) ?_ ?_ N 0 _ _ (by omega) (by omega) ⟨rfl, rfl, rfl, hs⟩
  · intro rec i a z hi hP
    obtain ⟨rfl, p0, p1, p2⟩ := hP
    obtain ⟨e1, e2, e3⟩ := hc i hi
    right
    unfold m_X10_load_b42 m_X10_load_j96
    rw [if_neg (nI_ge hi (by omega)), rd_nI (by omega) (by omega), ← e1, e2]
    by_cases c1 : vN ch i = 47
    · refine ⟨nI (ccn ch i), z, ?_, ?_, p0, p1, ?_⟩
      · rw [if_pos (show nI (vN ch i) = 47 by rw [c1]; rfl)]
        simp only [lt1, nI_s]
      · show nI (ccn ch i) = nI (ccn ch i + _); rw [if_pos c1]; rfl
      · have e5 : gvf ch f (i + 1) = gvf ch f i := if_pos c1
        rw [e5]; exact p2
    · have hlt : ccn ch i < 144 := by
        have := ccn_le ch (show i + 1 ≤ t from hi)
        have e : ccn ch (i + 1) = ccn ch i + 1 := by show ccn ch i + _ = _; rw [if_neg c1]
        omega
      have e4 : ccn ch (i + 1) = ccn ch i + 1 := by show ccn ch i + _ = _; rw [if_neg c1]
      have e5 : gvf ch f (i + 1) = upd (gvf ch f i) (ccn ch i) (val (vN ch i)) := by show (if _ then _ else _) = _; rw [if_neg c1]
      refine ⟨nI (ccn ch (i + 1)), upd z (4 + ccn ch i) (val (vN ch i)), ?_, rfl, ?_, ?_, fun c hc' => ?_⟩
      · rw [if_neg (show ¬ nI (vN ch i) = 47 from nI_ne (b := 47) e3 (by omega) c1), rd_nI (by omega) (by omega), ← e1, rd_nI (by omega) (by omega), ← e1, e2, show (4 : Int32) = nI 4 from rfl, nI_add]
        unfold m_X10_load_j92 m_X10_load_j96
        rw [wr_nI (by omega) (by omega), wr_nI (by omega) (by omega)]
        simp only [lt1, nI_s]
        rw [e4]
        by_cases c2 : vN ch i = 46
        · rw [if_pos (show nI (vN ch i) = 46 by rw [c2]; rfl), c2]; rfl
        · rw [if_neg (show ¬ nI (vN ch i) = 46 from nI_ne (b := 46) e3 (by omega) c2)]
          have : 49 ≤ vN ch i := by
            rcases hok i hi with q | q | q
            · exact absurd q c1
            · exact absurd q c2
            · exact q.1
          unfold val
          rw [if_pos this, show (48 : Int32) = nI 48 from rfl, pk_sub (by omega)]
      · rw [upd_n (by omega)]; exact p0
      · rw [upd_n (by omega)]; exact p1
      · rw [e5]
        by_cases e : c = ccn ch i
        · subst e; rw [upd_s, upd_s]
        · rw [upd_n e, upd_n (by omega)]; exact p2 c hc'
  · intro rec a z hP
    unfold m_X10_load_b42
    rw [if_pos (nI_le (Nat.le_refl _) (by omega))]
    exact ⟨z, rfl, hP.2⟩
theorem sim_load {N W H : Nat} {num br cp cO iA fi se fC sC st wO s one other past ch tx : Nat → Int32} {cols rows grade steps Yi Yw Mw hz tl : Int32} {cr : Nat → Int64} {Hb : Nat → Nat} {HN HB HC : Nat → Nat → Int32} {Hc Hr Hg Hs : Nat → Int32} (h : Cur W H num br cp cols rows grade steps Yi Yw Mw cO iA fi se fC sC st wO s one other cr) (hh : HR hz HN HB HC Hc Hr Hg Hs past) (hx : TX tl ch tx) (c5 c6 : Int32) (hN : 1000 < N) :
    ∃ W' H' r cols' rows' grade' steps' num' br' cp' Yi' Yw' cO' iA' fi' se' fC' sC' st' wO' cr' hz' d1 d2 d3 d4 d5 d6 Hb' HN' HB' HC' Hc' Hr' Hg' Hs' Mw' v1 v2 v3 v4 v5 s' past' one' other', m_X9_load N cols rows grade steps num br cp Yi Yw cO iA fi se fC sC st wO cr hz tl c5 c6 ch Hb HN HB HC Hc Hr Hg Hs = some (r, cols', rows', grade', steps', num', br', cp', Yi', Yw', cO', iA', fi', se', fC', sC', st', wO', cr', hz', d1, d2, d3, d4, d5, d6, Hb', HN', HB', HC', Hc', Hr', Hg', Hs') ∧ m_X10_load N hz tl Mw s past tx one other = some (r, hz', Mw', v1, v2, v3, v4, v5, s', past', one', other') ∧ Cur W' H' num' br' cp' cols' rows' grade' steps' Yi' Yw' Mw' cO' iA' fi' se' fC' sC' st' wO' s' one' other' cr' ∧ HR hz' HN' HB' HC' Hc' Hr' Hg' Hs' past' := by
  obtain ⟨t, ht, rfl, hc⟩ := hx
  obtain ⟨co, ro, ir, is, idx, why, e1, e2, e3, e4⟩ := check_ev (N := N) (fi := c5) (fr := c6) ht hc hN
  unfold m_X9_load m_X10_load
  rw [e1, e2, bd6_some, bd6_some]
  by_cases c0 : why = 0
  · obtain ⟨C, R, rfl, rfl, w1, w2, w3, w4, w5⟩ := e4 c0
    have hM : R * C ≤ 144 := Nat.mul_le_mul w2.2 w1.2
    rw [if_pos c0, if_pos c0, if_pos (show (-4 : Int32) < 0 by decide)]
    obtain ⟨hz', Hb', HN', HB', HC', Hc', Hr', Hg', Hs', past', f1, f2, f3⟩ := record_ev (Hb := Hb) h.sr hh hN
    obtain ⟨g1, s1, num', br1, cp1, k1, hz0⟩ := empty_ev (N := N) (num := num) (br := br) (cp := cp) (x := nI C) (y := nI R) (by omega)
    have hcc := TX.c hc
    have k2 := give_c (N := N) (f := num') ht (fun i hi => ⟨(hcc i hi).2.1, (hcc i hi).2.2⟩) w5 (by omega) hN
    have hB2 : BD C R (gvf ch num' t) := gvf_BD w1 w2 hz0 w4 w5 w3
    obtain ⟨br', cp', Yi', Yw', cO', iA', fi', se', fC', sC', st', wO', cr', k3, q1, hL2⟩ := renew_ev (N := N) (br := br1) (cp := cp1) (cO := cO) (iA := iA) (fi := fi) (se := se) (fC := fC) (sC := sC) (st := st) (wO := wO) (cr := cr) hB2 (by omega)
    obtain ⟨z, k4, p0, p1, p2⟩ := empties_ev (N := N) (s := upd (upd s 0 (nI C)) 1 (nI R)) (by omega)
    obtain ⟨z2, k5, r0, r1, r2⟩ := give_m (N := N) (f := num') (s := z) (a1 := hz') (a2 := why) (a3 := nI R) (a4 := nI C) (a5 := ir) (a6 := is) (p := past') (one := one) (other := other) ht hcc w5 (by omega) (fun c hc' => by rw [p2 c hc', hz0 c hc']) hN
    have hs2 : MS C R (gvf ch num' t) z2 := ⟨by rw [r0, p0, upd_n (by omega), upd_s], by rw [r1, p1, upd_s], r2⟩
    obtain ⟨Mw', s', one', other', k6, hm2, hs3, r3, r4⟩ := anew_ev (N := N) (one := one) (other := other) hB2 hs2 (by omega)
    rw [f1, f2, bd9_some, bd2_some, k1, bd7_some, k2, bd1_some, k3, bd15_some, show (0 : Int32) = nI 0 from rfl, wr_nI (by omega) (by omega), show (1 : Int32) = nI 1 from rfl, wr_nI (by omega) (by omega), k4, bd1_some, show nI 0 = (0 : Int32) from rfl, k5]
    unfold m_X10_load_j102
    rw [k6, bd4_some, islands_m (by rw [Nat.mul_comm]; exact hM) hs3 (by omega), bd1_some, ← hL2.1]
    exact ⟨C, R, _, _, _, _, _, _, _, _, _, _, _, _, _, _, _, _, _, _, _, _, _, _, _, _, _, _, _, _, _, _, _, _, _, _, _, _, _, _, _, _, _, _, _, _, rfl, rfl, Cur.new ⟨rfl, rfl⟩ hB2 hL2 hs3 hm2 q1 r3 ⟨rfl, rfl⟩ r4, f3⟩
  · rw [if_neg c0, if_neg c0, if_neg (e3 c0)]
    exact ⟨W, H, _, _, _, _, _, _, _, _, _, _, _, _, _, _, _, _, _, _, _, _, _, _, _, _, _, _, _, _, _, _, _, _, _, _, _, _, _, _, _, _, _, _, _, _, rfl, rfl, h, hh⟩
