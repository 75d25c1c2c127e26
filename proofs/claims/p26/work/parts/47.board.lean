/-! begin, island, removeIsland -/
theorem in_rng {lo hi : Nat} (hl : lo < 2 ^ 31) (hi' : hi < 2 ^ 31) (x : Int32) : (m_X10_in x (nI lo) (nI hi) = 0 ∧ (x < nI lo ∨ ¬ x ≤ nI hi)) ∨ (m_X10_in x (nI lo) (nI hi) = 1 ∧ ¬ x < nI lo ∧ x ≤ nI hi ∧ ∃ c, lo ≤ c ∧ c ≤ hi ∧ x = nI c) := by
  unfold m_X10_in
  by_cases h : x < nI lo
  · rw [if_pos h]; exact Or.inl ⟨rfl, Or.inl h⟩
  · rw [if_neg h]
    by_cases h2 : nI hi < x
    · rw [if_pos h2]; exact Or.inl ⟨rfl, Or.inr (Int32.not_le.mpr h2)⟩
    · rw [if_neg h2]
      have h3 := Int32.not_lt.mp h
      have h4 := Int32.not_lt.mp h2
      have h0 : 0 ≤ x := by
        rw [Int32.le_iff_toInt_le] at h3 ⊢
        rw [nI_toInt hl] at h3
        rw [show (0 : Int32).toInt = 0 from rfl]
        omega
      obtain ⟨c, e, hc⟩ := nI_ex h0
      subst e
      exact Or.inr ⟨rfl, h, h4, c, (nI_leI hl hc).mp h3, (nI_leI hc hi').mp h4, rfl⟩
theorem renew_ev {W H N : Nat} {num br cp cO iA fi se fC sC st wO : Nat → Int32} {cr : Nat → Int64} (hB : BD W H num) (hN : 144 < N) :
    ∃ br' cp' Yi' Yw' cO' iA' fi' se' fC' sC' st' wO' cr', m_X9_renewWays N (nI W) (nI H) num br cp cO iA fi se fC sC st wO cr = some (0, 0, br', cp', Yi', Yw', cO', iA', fi', se', fC', sC', st', wO', cr') ∧ (∀ k, k < 48 → br' k = 0 ∧ cp' k = 2) ∧ LO W H num Yi' Yw' cO' iA' fi' se' fC' sC' st' wO' cr' := by
  obtain ⟨⟨g', s', br', cp'⟩, e1, ⟨q0, q1⟩, q2⟩ := takeAll_ev (N := N) (br := br) (cp := cp) hN
  replace q0 : g' = 0 := q0
  replace q1 : s' = 0 := q1
  subst q0 q1
  obtain ⟨⟨Yi', Yw', cO', iA', fi', se', fC', sC', st', wO', cr'⟩, e3, hL⟩ := read_ev (N := N) (cO := cO) (iA := iA) (fi := fi) (se := se) (fC := fC) (sC := sC) (st := st) (wO := wO) (cr := cr) hB.1 hB.2.1 hB.2.2.2.1 hB.2.2.2.2 hN
  unfold m_X9_renewWays
  rw [e1, bd4_some, e3, bd11_some]
  exact ⟨_, _, _, _, _, _, _, _, _, _, _, _, _, rfl, q2, hL⟩
theorem anew_ev {W H N : Nat} {num s one other : Nat → Int32} (hB : BD W H num) (hs : MS W H num s) (hN : 144 < N) :
    ∃ Mw' s' one' other', m_X10_anew N s one other = some (Mw', s', one', other') ∧ mrep (WL W H num) Mw' one' other' ∧ MS W H num s' ∧ (∀ k, k < 48 → s' (148 + k) = 0 ∧ s' (196 + k) = 2) ∧ s' 2 = 0 ∧ s' 3 = 0 := by
  obtain ⟨⟨Mw', one', other'⟩, e2, hm⟩ := findWays_ev (N := N) (one := one) (other := other) hB.1 hB.2.1 hB.2.2.1 hB.2.2.2.2 hs hN
  obtain ⟨z, e3, p1, p2, p3, p4, p5, p6⟩ := clears_ev (N := N) (s := s) hN
  unfold m_X10_anew
  rw [e2, bd3_some, e3, bd1_some]
  exact ⟨_, _, _, _, rfl, hm, ⟨by rw [p4]; exact hs.1, by rw [p5]; exact hs.2.1, fun c hc => by rw [p6 c hc]; exact hs.2.2 c hc⟩, p1, p2, p3⟩
theorem rk_upd {num : Nat → Int32} {c : Nat} {x : Int32} : ∀ m, rk (upd num c x) m ≤ rk num m + (if 0 < x ∧ ¬ 0 < num c ∧ c < m then 1 else 0) := by
  intro m
  induction m with
  | zero => exact Nat.zero_le _
  | succ m ih =>
    show rk (upd num c x) m + (if 0 < upd num c x m then 1 else 0) ≤ rk num m + (if 0 < num m then 1 else 0) + _
    by_cases e : m = c
    · subst e
      rw [upd_s]
      rw [if_neg (fun z => absurd z.2.2 (Nat.lt_irrefl _))] at ih
      by_cases h1 : 0 < x
      · by_cases h2 : 0 < num m
        · rw [if_pos h1, if_pos h2]; omega
        · rw [if_pos h1, if_neg h2, if_pos ⟨h1, h2, Nat.lt_succ_self _⟩]; omega
      · rw [if_neg h1]; omega
    · rw [upd_n e]
      by_cases h1 : 0 < x ∧ ¬ 0 < num c ∧ c < m
      · rw [if_pos h1] at ih
        rw [if_pos (show 0 < x ∧ ¬ 0 < num c ∧ c < m + 1 from ⟨h1.1, h1.2.1, by omega⟩)]
        omega
      · rw [if_neg h1] at ih
        omega
theorem BD.upd {W H c : Nat} {num : Nat → Int32} {x : Int32} (hB : BD W H num) (hc : c < W * H) (hx : 0 ≤ x) (h : rk num (W * H) < 24 ∨ ¬ 0 < x ∨ 0 < num c) : BD W H (upd num c x) := by
  refine ⟨hB.1, hB.2.1, fun k hk => ?_, fun k h1 h2 => ?_, ?_⟩
  · by_cases e : k = c
    · subst e; rw [upd_s]; exact hx
    · rw [upd_n e]; exact hB.2.2.1 k hk
  · rw [upd_n (by omega)]; exact hB.2.2.2.1 k h1 h2
  · have h1 := rk_upd (num := num) (c := c) (x := x) (W * H)
    have h2 := hB.2.2.2.2
    rcases h with h | h | h
    · split at h1 <;> omega
    · rw [if_neg (fun z => h z.1)] at h1; omega
    · rw [if_neg (fun z => z.2.1 h)] at h1; omega
theorem MS.upd {W H c : Nat} {num s : Nat → Int32} {x : Int32} (hs : MS W H num s) (hc : c < 144) : MS W H (upd num c x) (upd s (4 + c) x) := by
  refine ⟨by rw [upd_n (by omega)]; exact hs.1, by rw [upd_n (by omega)]; exact hs.2.1, fun k hk => ?_⟩
  by_cases e : k = c
  · subst e; rw [upd_s, upd_s]
  · rw [upd_n e, upd_n (by omega)]; exact hs.2.2 k hk
theorem put_go {N W H : Nat} {num br cp cO iA fi se fC sC st wO s one other : Nat → Int32} {cr : Nat → Int64} {c : Nat} {x : Int32} (hs : MS W H num s) (hc : c < 144) (hB : BD W H (upd num c x)) (hN : 1000 < N) :
    ∃ br' cp' Yi' Yw' cO' iA' fi' se' fC' sC' st' wO' cr' Mw' s' one' other', m_X9_renewWays N (nI W) (nI H) (upd num c x) br cp cO iA fi se fC sC st wO cr = some (0, 0, br', cp', Yi', Yw', cO', iA', fi', se', fC', sC', st', wO', cr') ∧ m_X10_anew N (upd s (4 + c) x) one other = some (Mw', s', one', other') ∧ Cur W H (upd num c x) br' cp' (nI W) (nI H) 0 0 Yi' Yw' Mw' cO' iA' fi' se' fC' sC' st' wO' s' one' other' cr' := by
  obtain ⟨br', cp', Yi', Yw', cO', iA', fi', se', fC', sC', st', wO', cr', e1, q1, hL⟩ := renew_ev (N := N) (br := br) (cp := cp) (cO := cO) (iA := iA) (fi := fi) (se := se) (fC := fC) (sC := sC) (st := st) (wO := wO) (cr := cr) hB (by omega)
  obtain ⟨Mw', s', one', other', e2, hm, hs', p1, p2⟩ := anew_ev (N := N) (one := one) (other := other) hB (hs.upd (x := x) hc) (by omega)
  exact ⟨_, _, _, _, _, _, _, _, _, _, _, _, _, _, _, _, _, e1, e2, Cur.new ⟨rfl, rfl⟩ hB hL hs' hm q1 p1 ⟨rfl, rfl⟩ p2⟩
theorem sim_island {N W H : Nat} {num br cp cO iA fi se fC sC st wO s one other past : Nat → Int32} {cols rows grade steps Yi Yw Mw hz : Int32} {cr : Nat → Int64} {Hb : Nat → Nat} {HN HB HC : Nat → Nat → Int32} {Hc Hr Hg Hs : Nat → Int32} (h : Cur W H num br cp cols rows grade steps Yi Yw Mw cO iA fi se fC sC st wO s one other cr) (hh : HR hz HN HB HC Hc Hr Hg Hs past) (x y : Int32) (hN : 1000 < N) :
    ∃ r grade' steps' num' br' cp' Yi' Yw' cO' iA' fi' se' fC' sC' st' wO' cr' hz' Hb' HN' HB' HC' Hc' Hr' Hg' Hs' Mw' s' past' one' other', m_X9_island N cols rows grade steps num br cp Yi Yw cO iA fi se fC sC st wO cr hz Hb HN HB HC Hc Hr Hg Hs x y = some (r, grade', steps', num', br', cp', Yi', Yw', cO', iA', fi', se', fC', sC', st', wO', cr', hz', Hb', HN', HB', HC', Hc', Hr', Hg', Hs') ∧ m_X10_island N hz Mw s past one other x y = some (r, hz', Mw', s', past', one', other') ∧ Cur W H num' br' cp' cols rows grade' steps' Yi' Yw' Mw' cO' iA' fi' se' fC' sC' st' wO' s' one' other' cr' ∧ HR hz' HN' HB' HC' Hc' Hr' Hg' Hs' past' := by
  obtain ⟨⟨rfl, rfl⟩, hB, hL, hs, hm, hb, hbo, hx, hg, hst⟩ := id h
  have hM := hB.M
  have hr24 := hB.2.2.2.2
  unfold m_X9_island m_X10_island
  rcases cell_or (show W * H < 2 ^ 31 by omega) x with ⟨c, hc, rfl⟩ | ho
  · rw [isCell_c (by omega) hc, isCell_m (by omega) hs hc, bd1_some]
    simp only [lt1]
    rw [if_neg (show ¬ (1 : Int32) = 0 by decide), if_neg (show ¬ (1 : Int32) = 0 by decide)]
    rcases in_rng (lo := 1) (hi := 8) (by omega) (by omega) y with ⟨e, hy⟩ | ⟨e, y1, y2, d, d1, d2, rfl⟩
    · rw [show m_X10_in y 1 8 = 0 from e, if_pos (show (0 : Int32) = 0 from rfl)]
      by_cases hy1 : y < 1
      · rw [if_pos hy1]
        exact ⟨_, _, _, _, _, _, _, _, _, _, _, _, _, _, _, _, _, _, _, _, _, _, _, _, _, _, _, _, _, _, _, rfl, rfl, h, hh⟩
      · rw [if_neg hy1, if_neg (show ¬ y ≤ 8 from fun z => by rcases hy with q | q; exact hy1 q; exact q z)]
        exact ⟨_, _, _, _, _, _, _, _, _, _, _, _, _, _, _, _, _, _, _, _, _, _, _, _, _, _, _, _, _, _, _, rfl, rfl, h, hh⟩
    · rw [show m_X10_in (nI d) 1 8 = 1 from e, if_neg (show ¬ (1 : Int32) = 0 by decide), if_neg (show ¬ nI d < 1 from y1), if_pos (show nI d ≤ 8 from y2), vAt_nI (by omega) (by omega), number_m hs (by omega), bd1_some]
      have go : (rk num (W * H) < 24 ∨ 0 < num c) → ∃ r grade' steps' num' br' cp' Yi' Yw' cO' iA' fi' se' fC' sC' st' wO' cr' hz' Hb' HN' HB' HC' Hc' Hr' Hg' Hs' Mw' s' past' one' other', m_X9_island_j50 N (nI W) (nI H) (nI c) (nI d) grade steps num br cp cO iA fi se fC sC st wO cr hz Hb HN HB HC Hc Hr Hg Hs = some (r, grade', steps', num', br', cp', Yi', Yw', cO', iA', fi', se', fC', sC', st', wO', cr', hz', Hb', HN', HB', HC', Hc', Hr', Hg', Hs') ∧ m_X10_island_j40 N (nI c) (nI d) hz s past one other = some (r, hz', Mw', s', past', one', other') ∧ Cur W H num' br' cp' (nI W) (nI H) grade' steps' Yi' Yw' Mw' cO' iA' fi' se' fC' sC' st' wO' s' one' other' cr' ∧ HR hz' HN' HB' HC' Hc' Hr' Hg' Hs' past' := by
        intro hgo
        obtain ⟨hz', Hb', HN', HB', HC', Hc', Hr', Hg', Hs', past', f1, f2, f3⟩ := record_ev (Hb := Hb) h.sr hh hN
        have hB2 : BD W H (upd num c (nI d)) := hB.upd hc (kk0_le (by omega) (by omega)) (by rcases hgo with q | q; exact Or.inl q; exact Or.inr (Or.inr q))
        obtain ⟨br', cp', Yi', Yw', cO', iA', fi', se', fC', sC', st', wO', cr', Mw', s', one', other', e1, e2, hc2⟩ := put_go (N := N) (br := br) (cp := cp) (cO := cO) (iA := iA) (fi := fi) (se := se) (fC := fC) (sC := sC) (st := st) (wO := wO) (cr := cr) (one := one) (other := other) hs (by omega) hB2 hN
        unfold m_X9_island_j50 m_X10_island_j40
        rw [f1, f2, bd9_some, bd2_some, vPut_nI (by omega) (by omega)]
        simp only [lt1]
        rw [e1, bd15_some, show (4 : Int32) = nI 4 from rfl, nI_add, wr_nI (by omega) (by omega), e2, bd4_some]
        have ew : Yw' = Mw' := by rw [hc2.2.2.1.2.2.2.1.1, hc2.2.2.2.2.1.1]
        subst ew
        exact ⟨_, _, _, _, _, _, _, _, _, _, _, _, _, _, _, _, _, _, _, _, _, _, _, _, _, _, _, _, _, _, _, rfl, rfl, hc2, f3⟩
      by_cases h0 : num c = 0
      · rw [if_pos h0, if_pos h0, islands_m hM hs (by omega), bd1_some, hL.1]
        by_cases h24 : rk num (W * H) < 24
        · rw [if_pos (show nI (rk num (W * H)) < 24 from nI_lt (b := 24) h24 (by omega)), if_neg (show ¬ nI (rk num (W * H)) = 24 from fun z => by have := nI_i (b := 24) (by omega) (by omega) z; omega)]
          exact go (Or.inl h24)
        · rw [if_neg (show ¬ nI (rk num (W * H)) < 24 from nI_nlt (b := 24) (by omega) (by omega)), if_pos (show nI (rk num (W * H)) = 24 by rw [show rk num (W * H) = 24 by omega]; rfl)]
          rw [← hL.1]
          exact ⟨_, _, _, _, _, _, _, _, _, _, _, _, _, _, _, _, _, _, _, _, _, _, _, _, _, _, _, _, _, _, _, rfl, rfl, h, hh⟩
      · rw [if_neg h0, if_neg h0]
        exact go (Or.inr (pos_ne (hB.2.2.1 c (by omega)) h0))
  · rw [isCell_c0 ho, isCell_m0 (by omega) hs ho, bd1_some]
    exact ⟨_, _, _, _, _, _, _, _, _, _, _, _, _, _, _, _, _, _, _, _, _, _, _, _, _, _, _, _, _, _, _, rfl, rfl, h, hh⟩
theorem sim_removeIsland {N W H : Nat} {num br cp cO iA fi se fC sC st wO s one other past : Nat → Int32} {cols rows grade steps Yi Yw Mw hz : Int32} {cr : Nat → Int64} {Hb : Nat → Nat} {HN HB HC : Nat → Nat → Int32} {Hc Hr Hg Hs : Nat → Int32} (h : Cur W H num br cp cols rows grade steps Yi Yw Mw cO iA fi se fC sC st wO s one other cr) (hh : HR hz HN HB HC Hc Hr Hg Hs past) (x : Int32) (hN : 1000 < N) :
    ∃ r grade' steps' num' br' cp' Yi' Yw' cO' iA' fi' se' fC' sC' st' wO' cr' hz' Hb' HN' HB' HC' Hc' Hr' Hg' Hs' Mw' s' past' one' other', m_X9_removeIsland N cols rows grade steps num br cp Yi Yw cO iA fi se fC sC st wO cr hz Hb HN HB HC Hc Hr Hg Hs x = some (r, grade', steps', num', br', cp', Yi', Yw', cO', iA', fi', se', fC', sC', st', wO', cr', hz', Hb', HN', HB', HC', Hc', Hr', Hg', Hs') ∧ m_X10_removeIsland N hz Mw s past one other x = some (r, hz', Mw', s', past', one', other') ∧ Cur W H num' br' cp' cols rows grade' steps' Yi' Yw' Mw' cO' iA' fi' se' fC' sC' st' wO' s' one' other' cr' ∧ HR hz' HN' HB' HC' Hc' Hr' Hg' Hs' past' := by
  obtain ⟨⟨rfl, rfl⟩, hB, hL, hs, hm, hb, hbo, hx, hg, hst⟩ := id h
  have hM := hB.M
  unfold m_X9_removeIsland m_X10_removeIsland
  rcases cell_or (show W * H < 2 ^ 31 by omega) x with ⟨c, hc, rfl⟩ | ho
  · rw [isCell_c (by omega) hc, isCell_m (by omega) hs hc, bd1_some]
    simp only [lt1]
    rw [if_neg (show ¬ (1 : Int32) = 0 by decide), if_neg (show ¬ (1 : Int32) = 0 by decide), vAt_nI (by omega) (by omega), number_m hs (by omega), bd1_some]
    by_cases h0 : num c = 0
    · rw [if_pos h0, if_pos h0]
      exact ⟨_, _, _, _, _, _, _, _, _, _, _, _, _, _, _, _, _, _, _, _, _, _, _, _, _, _, _, _, _, _, _, rfl, rfl, h, hh⟩
    · rw [if_neg h0, if_neg h0]
      obtain ⟨hz', Hb', HN', HB', HC', Hc', Hr', Hg', Hs', past', f1, f2, f3⟩ := record_ev (Hb := Hb) h.sr hh hN
      have hB2 : BD W H (upd num c 0) := hB.upd hc (by decide) (Or.inr (Or.inl (by decide)))
      obtain ⟨br', cp', Yi', Yw', cO', iA', fi', se', fC', sC', st', wO', cr', Mw', s', one', other', e1, e2, hc2⟩ := put_go (N := N) (br := br) (cp := cp) (cO := cO) (iA := iA) (fi := fi) (se := se) (fC := fC) (sC := sC) (st := st) (wO := wO) (cr := cr) (one := one) (other := other) hs (by omega) hB2 hN
      rw [f1, f2, bd9_some, bd2_some, vPut_nI (by omega) (by omega), e1, bd15_some, show (4 : Int32) = nI 4 from rfl, nI_add, wr_nI (by omega) (by omega), e2, bd4_some]
      exact ⟨_, _, _, _, _, _, _, _, _, _, _, _, _, _, _, _, _, _, _, _, _, _, _, _, _, _, _, _, _, _, _, rfl, rfl, hc2, f3⟩
  · rw [isCell_c0 ho, isCell_m0 (by omega) hs ho, bd1_some]
    exact ⟨_, _, _, _, _, _, _, _, _, _, _, _, _, _, _, _, _, _, _, _, _, _, _, _, _, _, _, _, _, _, _, rfl, rfl, h, hh⟩
theorem empty_ev {N : Nat} {num br cp : Nat → Int32} {x y : Int32} (hN : 144 < N) : ∃ g' s' num' br' cp', m_X6_empty N num br cp x y = some (x, y, g', s', num', br', cp') ∧ ∀ c, c < 144 → num' c = 0 := by
  have : Ev (m_X6_empty N num br cp x y) (fun t => t.1 = x ∧ t.2.1 = y ∧ ∀ c, c < 144 → t.2.2.2.2.1 c = 0) := by
    unfold m_X6_empty
    refine zl2c0 144 (fun i z => ∀ c, c < i → z c = 0) ?_ ?_ N 0 _ (by omega) (by omega) (fun c hc => by omega)
    · intro rec i z hi hP
      refine Or.inr ⟨upd z i 0, ?_, fun c hc => ?_⟩
      · unfold m_X6_empty_b12
        rw [if_neg (kk144_ge hi), vPut_nI hi (by omega)]
        simp only [lt1, nI_s]
      · rcases Nat.lt_succ_iff_lt_or_eq.mp hc with q | q
        · rw [upd_n (by omega)]; exact hP c q
        · rw [q]; exact upd_s
    · intro rec z hP
      unfold m_X6_empty_b12 m_X6_empty_j34
      rw [if_pos (kk144_le (Nat.le_refl _) (by omega))]
      obtain ⟨⟨g', s', br', cp'⟩, e1, -⟩ := takeAll_ev (N := N) (br := br) (cp := cp) hN
      rw [e1, bd4_some]
      exact Ev.some ⟨rfl, rfl, hP⟩
  obtain ⟨⟨a, b, g', s', num', br', cp'⟩, e, e1, e2, e3⟩ := this
  replace e1 : a = x := e1
  replace e2 : b = y := e2
  subst e1 e2
  exact ⟨_, _, _, _, _, e, e3⟩
theorem empties_ev {N : Nat} {s : Nat → Int32} (hN : 144 < N) : Ev (m_X10_empties N s) (fun z => z 0 = s 0 ∧ z 1 = s 1 ∧ ∀ c, c < 144 → z (4 + c) = 0) := by
  unfold m_X10_empties
  refine zl2c0 144 (fun i z => z 0 = s 0 ∧ z 1 = s 1 ∧ ∀ c, c < i → z (4 + c) = 0) ?_ ?_ N 0 _ (by omega) (by omega) ⟨rfl, rfl, fun c hc => by omega⟩
  · intro rec i z hi hP
    refine Or.inr ⟨upd z (4 + i) 0, ?_, ?_, ?_, fun c hc => ?_⟩
    · unfold m_X10_empties_b2
      rw [if_neg (kk144_ge hi), show (4 : Int32) = nI 4 from rfl, nI_add, wr_nI (by omega) (by omega)]
      simp only [lt1, nI_s]
    · rw [upd_n (by omega)]; exact hP.1
    · rw [upd_n (by omega)]; exact hP.2.1
    · rcases Nat.lt_succ_iff_lt_or_eq.mp hc with q | q
      · rw [upd_n (by omega)]; exact hP.2.2 c q
      · rw [q]; exact upd_s
  · intro rec z hP
    unfold m_X10_empties_b2
    rw [if_pos (kk144_le (Nat.le_refl _) (by omega))]
    exact Ev.some hP
theorem BD.zero {W H : Nat} {num : Nat → Int32} (hW : 3 ≤ W ∧ W ≤ 12) (hH : 3 ≤ H ∧ H ≤ 12) (hz : ∀ c, c < 144 → num c = 0) : BD W H num := by
  have hM : W * H ≤ 144 := Nat.mul_le_mul hW.2 hH.2
  refine ⟨hW, hH, fun c hc => by rw [hz c hc]; decide, fun c _ h2 => hz c h2, ?_⟩
  rw [rk_z (Nat.zero_le _) (fun c _ h2 => hz c (by omega))]
  exact Nat.zero_le _
theorem sim_begin {N W H : Nat} {num br cp cO iA fi se fC sC st wO s one other past : Nat → Int32} {cols rows grade steps Yi Yw Mw hz : Int32} {cr : Nat → Int64} {Hb : Nat → Nat} {HN HB HC : Nat → Nat → Int32} {Hc Hr Hg Hs : Nat → Int32} (h : Cur W H num br cp cols rows grade steps Yi Yw Mw cO iA fi se fC sC st wO s one other cr) (hh : HR hz HN HB HC Hc Hr Hg Hs past) (x y : Int32) (hN : 1000 < N) :
    ∃ W' H' r cols' rows' grade' steps' num' br' cp' Yi' Yw' cO' iA' fi' se' fC' sC' st' wO' cr' hz' Hb' HN' HB' HC' Hc' Hr' Hg' Hs' Mw' s' past' one' other', m_X9_begin N cols rows grade steps num br cp Yi Yw cO iA fi se fC sC st wO cr hz Hb HN HB HC Hc Hr Hg Hs x y = some (r, cols', rows', grade', steps', num', br', cp', Yi', Yw', cO', iA', fi', se', fC', sC', st', wO', cr', hz', Hb', HN', HB', HC', Hc', Hr', Hg', Hs') ∧ m_X10_begin N hz Mw s past one other x y = some (r, hz', Mw', s', past', one', other') ∧ Cur W' H' num' br' cp' cols' rows' grade' steps' Yi' Yw' Mw' cO' iA' fi' se' fC' sC' st' wO' s' one' other' cr' ∧ HR hz' HN' HB' HC' Hc' Hr' Hg' Hs' past' := by
  obtain ⟨h0, hB, hL, hs, hm, hb, hbo, hx, hg, hst⟩ := id h
  have hM := hB.M
  unfold m_X9_begin m_X10_begin
  simp only [lt1]
  rcases in_rng (lo := 3) (hi := 12) (by omega) (by omega) x with ⟨e, -⟩ | ⟨e, -, -, a, a1, a2, rfl⟩
  · rw [show m_X9_isSide x = 0 from e, show m_X10_in x 3 12 = 0 from e]
    exact ⟨W, H, _, _, _, _, _, _, _, _, _, _, _, _, _, _, _, _, _, _, _, _, _, _, _, _, _, _, _, _, _, _, _, _, _, rfl, rfl, h, hh⟩
  · rw [show m_X9_isSide (nI a) = 1 from e, show m_X10_in (nI a) 3 12 = 1 from e, if_neg (show ¬ (1 : Int32) = 0 by decide), if_neg (show ¬ (1 : Int32) = 0 by decide)]
    rcases in_rng (lo := 3) (hi := 12) (by omega) (by omega) y with ⟨e, -⟩ | ⟨e, -, -, b, b1, b2, rfl⟩
    · rw [show m_X9_isSide y = 0 from e, show m_X10_in y 3 12 = 0 from e]
      exact ⟨W, H, _, _, _, _, _, _, _, _, _, _, _, _, _, _, _, _, _, _, _, _, _, _, _, _, _, _, _, _, _, _, _, _, _, rfl, rfl, h, hh⟩
    · rw [show m_X9_isSide (nI b) = 1 from e, show m_X10_in (nI b) 3 12 = 1 from e, if_neg (show ¬ (1 : Int32) = 0 by decide), if_neg (show ¬ (1 : Int32) = 0 by decide)]
      obtain ⟨hz', Hb', HN', HB', HC', Hc', Hr', Hg', Hs', past', f1, f2, f3⟩ := record_ev (Hb := Hb) h.sr hh hN
      obtain ⟨g1, s1, num', br1, cp1, e1, hz0⟩ := empty_ev (N := N) (num := num) (br := br) (cp := cp) (x := nI a) (y := nI b) (by omega)
      have hB2 : BD a b num' := BD.zero ⟨a1, a2⟩ ⟨b1, b2⟩ hz0
      obtain ⟨z, e2, p0, p1, p2⟩ := empties_ev (N := N) (s := upd (upd s 0 (nI a)) 1 (nI b)) (by omega)
      have hs2 : MS a b num' z := ⟨by rw [p0, upd_n (by omega), upd_s], by rw [p1, upd_s], fun c hc => by rw [p2 c hc, hz0 c hc]⟩
      obtain ⟨br', cp', Yi', Yw', cO', iA', fi', se', fC', sC', st', wO', cr', e3, q1, hL2⟩ := renew_ev (N := N) (br := br1) (cp := cp1) (cO := cO) (iA := iA) (fi := fi) (se := se) (fC := fC) (sC := sC) (st := st) (wO := wO) (cr := cr) hB2 (by omega)
      obtain ⟨Mw', s', one', other', e4, hm2, hs3, r1, r2⟩ := anew_ev (N := N) (one := one) (other := other) hB2 hs2 (by omega)
      rw [f1, f2, bd9_some, bd2_some, e1, bd7_some, e3, bd15_some, islands_m hM hs (by omega), bd1_some, show (0 : Int32) = nI 0 from rfl, wr_nI (by omega) (by omega), show (1 : Int32) = nI 1 from rfl, wr_nI (by omega) (by omega), e2, bd1_some, e4, bd4_some, hL.1]
      exact ⟨a, b, _, _, _, _, _, _, _, _, _, _, _, _, _, _, _, _, _, _, _, _, _, _, _, _, _, _, _, _, _, _, _, _, _, rfl, rfl, Cur.new ⟨rfl, rfl⟩ hB2 hL2 hs3 hm2 q1 r1 ⟨rfl, rfl⟩ r2, f3⟩
