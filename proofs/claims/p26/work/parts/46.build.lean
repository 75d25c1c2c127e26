/-! build, take, cap, clear -/
theorem crs_sy (W : Nat) (x y : Wy) : crs W x y = crs W y x := by
  unfold crs
  by_cases hx : x.2.2 = 1
  · by_cases hy : y.2.2 = 1
    · rw [decide_eq_true hx, decide_eq_true hy]; rfl
    · have e : mt W x y = mt W y x := by unfold mt; rw [if_pos hx, if_neg hy]
      rw [e, decide_eq_true hx, decide_eq_false hy, Bool.and_comm (ov x _)]; rfl
  · by_cases hy : y.2.2 = 1
    · have e : mt W x y = mt W y x := by unfold mt; rw [if_neg hx, if_pos hy]
      rw [e, decide_eq_true hy, decide_eq_false hx, Bool.and_comm (ov x _)]; rfl
    · rw [decide_eq_false hx, decide_eq_false hy]; rfl
theorem crs_self (W : Nat) (x : Wy) : crs W x x = false := by
  unfold crs
  rw [bne_self_eq_false]; rfl
/-- another number of bridges on a way -/
theorem Cur.br {W H : Nat} {num br cp cO iA fi se fC sC st wO s one other : Nat → Int32} {cols rows grade steps Yi Yw Mw : Int32} {cr : Nat → Int64} (h : Cur W H num br cp cols rows grade steps Yi Yw Mw cO iA fi se fC sC st wO s one other cr) {k b c : Nat} (hk : k < (WL W H num).length) (hc : cp k = nI c) (h1 : b ≤ c) (h2 : c ≤ 2) (hx : 0 < b → ¬ hX W (WL W H num) br k) : Cur W H num (upd br k (nI b)) cp cols rows grade steps Yi Yw Mw cO iA fi se fC sC st wO (upd s (148 + k) (nI b)) one other cr := by
  obtain ⟨h0, hB, hL, hs, hm, hb, hbo, hX, hg, hst⟩ := h
  have hl := hB.wls.2.2.1.1
  refine ⟨h0, hB, hL, ⟨by rw [upd_n (by omega)]; exact hs.1, by rw [upd_n (by omega)]; exact hs.2.1, fun j hj => by rw [upd_n (by omega)]; exact hs.2.2 j hj⟩, hm, fun j hj => ?_, fun j hj => ?_, fun i j hi hj hcr => ?_, by rw [upd_n (by omega)]; exact hg, by rw [upd_n (by omega)]; exact hst⟩
  · by_cases e : j = k
    · subst e
      rw [upd_s, upd_s, upd_n (by omega)]
      exact ⟨rfl, (hb j hj).2⟩
    · rw [upd_n e, upd_n (by omega), upd_n (by omega)]
      exact hb j hj
  · by_cases e : j = k
    · subst e
      rw [upd_s]
      exact ⟨b, c, rfl, hc, h1, h2⟩
    · rw [upd_n e]
      exact hbo j hj
  · rintro ⟨a1, a2⟩
    by_cases e1 : i = k
    · subst e1
      rw [upd_s] at a1
      by_cases e2 : j = i
      · subst e2
        rw [crs_self] at hcr
        exact absurd hcr (by decide)
      · rw [upd_n e2] at a2
        exact hx ((kk0_ltI (by omega)).mp a1) ⟨j, hj, hcr, a2⟩
    · rw [upd_n e1] at a1
      by_cases e2 : j = k
      · subst e2
        rw [upd_s] at a2
        rw [crs_sy] at hcr
        exact hx ((kk0_ltI (by omega)).mp a2) ⟨i, hi, hcr, a1⟩
      · rw [upd_n e2] at a2
        exact hX i j hi hj hcr ⟨a1, a2⟩
/-- another cap of a way -/
theorem Cur.cp {W H : Nat} {num br cp cO iA fi se fC sC st wO s one other : Nat → Int32} {cols rows grade steps Yi Yw Mw : Int32} {cr : Nat → Int64} (h : Cur W H num br cp cols rows grade steps Yi Yw Mw cO iA fi se fC sC st wO s one other cr) {k b c : Nat} (hk : k < (WL W H num).length) (hb' : br k = nI b) (h1 : b ≤ c) (h2 : c ≤ 2) : Cur W H num br (upd cp k (nI c)) cols rows grade steps Yi Yw Mw cO iA fi se fC sC st wO (upd s (196 + k) (nI c)) one other cr := by
  obtain ⟨h0, hB, hL, hs, hm, hb, hbo, hX, hg, hst⟩ := h
  have hl := hB.wls.2.2.1.1
  refine ⟨h0, hB, hL, ⟨by rw [upd_n (by omega)]; exact hs.1, by rw [upd_n (by omega)]; exact hs.2.1, fun j hj => by rw [upd_n (by omega)]; exact hs.2.2 j hj⟩, hm, fun j hj => ?_, fun j hj => ?_, hX, by rw [upd_n (by omega)]; exact hg, by rw [upd_n (by omega)]; exact hst⟩
  · by_cases e : j = k
    · subst e
      rw [upd_s, upd_s, upd_n (by omega)]
      exact ⟨(hb j hj).1, rfl⟩
    · rw [upd_n e, upd_n (by omega), upd_n (by omega)]
      exact hb j hj
  · by_cases e : j = k
    · subst e
      rw [upd_s]
      exact ⟨b, c, hb', rfl, h1, h2⟩
    · rw [upd_n e]
      exact hbo j hj
theorem rsn_0 {W : Nat} {num : Nat → Int32} {l : List Wy} {br cp : Nat → Int32} {k : Nat} (h : rsn W num l br cp k 0) : br k ≠ 2 ∧ cp k ≠ br k ∧ ¬ hX W l br k := by
  rcases h with ⟨-, z⟩ | ⟨-, -, z⟩ | ⟨-, -, -, z⟩ | ⟨-, -, -, -, z⟩ | ⟨a, b, c, -⟩
  · exact absurd z (by decide)
  · exact absurd z (by decide)
  · exact absurd z (by decide)
  · exact absurd z (by decide)
  · exact ⟨a, b, c⟩
theorem sim_build {N W H : Nat} {num br cp cO iA fi se fC sC st wO s one other past : Nat → Int32} {cols rows grade steps Yi Yw Mw hz : Int32} {cr : Nat → Int64} {Hb : Nat → Nat} {HN HB HC : Nat → Nat → Int32} {Hc Hr Hg Hs : Nat → Int32} (h : Cur W H num br cp cols rows grade steps Yi Yw Mw cO iA fi se fC sC st wO s one other cr) (hh : HR hz HN HB HC Hc Hr Hg Hs past) (un ub uc ul : Nat → Int32) (x : Int32) (hN : 1000 < N) :
    ∃ r br' un' ub' uc' ul' hz' Hb' HN' HB' HC' Hc' Hr' Hg' Hs' s' past', m_X9_build N cols rows grade steps num br cp Yi Yw cO fi se cr un ub uc ul hz Hb HN HB HC Hc Hr Hg Hs x = some (r, br', un', ub', uc', ul', hz', Hb', HN', HB', HC', Hc', Hr', Hg', Hs') ∧ m_X10_build N hz Mw s past one other x = some (r, hz', s', past') ∧ Cur W H num br' cp cols rows grade steps Yi Yw Mw cO iA fi se fC sC st wO s' one other cr ∧ HR hz' HN' HB' HC' Hc' Hr' Hg' Hs' past' := by
  obtain ⟨h0, hB, hL, hs, hm, hb, hbo, hx, hg, hst⟩ := id h
  have hl := hB.wls
  have h4 := hL.2.2.2.1
  have hn := hl.2.2.1.1
  unfold m_X9_build m_X10_build
  rcases cell_or (show (WL W H num).length < 2 ^ 31 by omega) x with ⟨k, hk, rfl⟩ | ho
  · rw [show m_X9_isWay Yw (nI k) = 1 by rw [h4.1]; exact isWay_c (by omega) hk, show m_X10_isWay Mw (nI k) = some 1 by rw [hm.1]; exact isWay_m (by omega) hk, bd1_some]
    simp only [lt1]
    rw [if_neg (show ¬ (1 : Int32) = 0 by decide), if_neg (show ¬ (1 : Int32) = 0 by decide)]
    obtain ⟨⟨t1, un', ub', uc', ul'⟩, e1, q1⟩ := reason_c (N := N) (un := un) (ub := ub) (uc := uc) (ul := ul) hB hL hbo hk (by omega)
    obtain ⟨z, e2, q2⟩ := reason_m (N := N) hs hl hm hb hk (by omega)
    have e := rsn_uniq q1 q2
    replace e : t1 = z := e
    subst e
    rw [e1, e2, bd5_some, bd1_some]
    by_cases c0 : t1 = 0
    · subst c0
      rw [if_pos rfl, if_pos rfl]
      obtain ⟨a1, a2, a3⟩ := rsn_0 q2
      obtain ⟨b, c, b1, b2, b3, b4⟩ := hbo k hk
      have b5 : b ≠ c := fun w => a2 (by rw [b1, b2, w])
      obtain ⟨hz', Hb', HN', HB', HC', Hc', Hr', Hg', Hs', past', f1, f2, f3⟩ := record_ev (Hb := Hb) h.sr hh hN
      have hc := h.br (k := k) (b := b + 1) (c := c) hk b2 (by omega) b4 (fun _ => a3)
      rw [f1, f2, bd9_some, bd2_some, vAt_nI (by omega) (by omega), vPut_nI (by omega) (by omega), show (148 : Int32) = nI 148 from rfl, nI_add, rd_nI (by omega) (by omega), wr_nI (by omega) (by omega), (hb k hk).1, b1, nI_s, bridges_m hc.2.2.2.2.2.1 (by omega) hk, bd1_some, upd_s]
      exact ⟨_, _, _, _, _, _, _, _, _, _, _, _, _, _, _, _, _, rfl, rfl, hc, f3⟩
    · rw [if_neg c0, if_neg c0]
      exact ⟨_, _, _, _, _, _, _, _, _, _, _, _, _, _, _, _, _, rfl, rfl, h, hh⟩
  · rw [show m_X9_isWay Yw x = 0 by rw [h4.1]; exact isWay_c0 ho, show m_X10_isWay Mw x = some 0 by rw [hm.1]; exact isWay_m0 (by omega) ho, bd1_some]
    exact ⟨_, _, _, _, _, _, _, _, _, _, _, _, _, _, _, _, _, rfl, rfl, h, hh⟩
theorem sim_take {N W H : Nat} {num br cp cO iA fi se fC sC st wO s one other past : Nat → Int32} {cols rows grade steps Yi Yw Mw hz : Int32} {cr : Nat → Int64} {Hb : Nat → Nat} {HN HB HC : Nat → Nat → Int32} {Hc Hr Hg Hs : Nat → Int32} (h : Cur W H num br cp cols rows grade steps Yi Yw Mw cO iA fi se fC sC st wO s one other cr) (hh : HR hz HN HB HC Hc Hr Hg Hs past) (x : Int32) (hN : 1000 < N) :
    ∃ r br' hz' Hb' HN' HB' HC' Hc' Hr' Hg' Hs' s' past', m_X9_take cols rows grade steps num br cp Yw hz Hb HN HB HC Hc Hr Hg Hs x = some (r, br', hz', Hb', HN', HB', HC', Hc', Hr', Hg', Hs') ∧ m_X10_take N hz Mw s past x = some (r, hz', s', past') ∧ Cur W H num br' cp cols rows grade steps Yi Yw Mw cO iA fi se fC sC st wO s' one other cr ∧ HR hz' HN' HB' HC' Hc' Hr' Hg' Hs' past' := by
  obtain ⟨h0, hB, hL, hs, hm, hb, hbo, hx, hg, hst⟩ := id h
  have hl := hB.wls
  have h4 := hL.2.2.2.1
  have hn := hl.2.2.1.1
  unfold m_X9_take m_X10_take
  rcases cell_or (show (WL W H num).length < 2 ^ 31 by omega) x with ⟨k, hk, rfl⟩ | ho
  · rw [show m_X9_isWay Yw (nI k) = 1 by rw [h4.1]; exact isWay_c (by omega) hk, show m_X10_isWay Mw (nI k) = some 1 by rw [hm.1]; exact isWay_m (by omega) hk, bd1_some]
    simp only [lt1]
    rw [if_neg (show ¬ (1 : Int32) = 0 by decide), if_neg (show ¬ (1 : Int32) = 0 by decide), vAt_nI (by omega) (by omega), bridges_m hb (by omega) hk, bd1_some]
    by_cases c0 : br k = 0
    · rw [if_pos c0, if_pos c0]
      exact ⟨_, _, _, _, _, _, _, _, _, _, _, _, _, rfl, rfl, h, hh⟩
    · rw [if_neg c0, if_neg c0]
      obtain ⟨b, c, b1, b2, b3, b4⟩ := hbo k hk
      have b5 : b ≠ 0 := fun w => c0 (by rw [b1, w]; rfl)
      obtain ⟨hz', Hb', HN', HB', HC', Hc', Hr', Hg', Hs', past', f1, f2, f3⟩ := record_ev (Hb := Hb) h.sr hh hN
      have hc := h.br (k := k) (b := b - 1) (c := c) hk b2 (by omega) b4 (fun _ => by
        rintro ⟨j, j1, j2, j3⟩
        exact hx k j hk j1 j2 ⟨by rw [b1]; exact (kk0_ltI (by omega)).mpr (by omega), j3⟩)
      rw [f1, f2, bd9_some, bd2_some, vPut_nI (by omega) (by omega), show (148 : Int32) = nI 148 from rfl, nI_add, rd_nI (by omega) (by omega), wr_nI (by omega) (by omega), (hb k hk).1, b1, show (1 : Int32) = nI 1 from rfl, pk_sub (by omega), bridges_m hc.2.2.2.2.2.1 (by omega) hk, bd1_some, upd_s]
      exact ⟨_, _, _, _, _, _, _, _, _, _, _, _, _, rfl, rfl, hc, f3⟩
  · rw [show m_X9_isWay Yw x = 0 by rw [h4.1]; exact isWay_c0 ho, show m_X10_isWay Mw x = some 0 by rw [hm.1]; exact isWay_m0 (by omega) ho, bd1_some]
    exact ⟨_, _, _, _, _, _, _, _, _, _, _, _, _, rfl, rfl, h, hh⟩
theorem sim_cap {N W H : Nat} {num br cp cO iA fi se fC sC st wO s one other past : Nat → Int32} {cols rows grade steps Yi Yw Mw hz : Int32} {cr : Nat → Int64} {Hb : Nat → Nat} {HN HB HC : Nat → Nat → Int32} {Hc Hr Hg Hs : Nat → Int32} (h : Cur W H num br cp cols rows grade steps Yi Yw Mw cO iA fi se fC sC st wO s one other cr) (hh : HR hz HN HB HC Hc Hr Hg Hs past) (x y : Int32) (hN : 1000 < N) :
    ∃ r cp' hz' Hb' HN' HB' HC' Hc' Hr' Hg' Hs' s' past', m_X9_cap cols rows grade steps num br cp Yw hz Hb HN HB HC Hc Hr Hg Hs x y = some (r, cp', hz', Hb', HN', HB', HC', Hc', Hr', Hg', Hs') ∧ m_X10_cap N hz Mw s past x y = some (r, hz', s', past') ∧ Cur W H num br cp' cols rows grade steps Yi Yw Mw cO iA fi se fC sC st wO s' one other cr ∧ HR hz' HN' HB' HC' Hc' Hr' Hg' Hs' past' := by
  obtain ⟨h0, hB, hL, hs, hm, hb, hbo, hx, hg, hst⟩ := id h
  have hl := hB.wls
  have h4 := hL.2.2.2.1
  have hn := hl.2.2.1.1
  unfold m_X9_cap m_X10_cap
  rcases cell_or (show (WL W H num).length < 2 ^ 31 by omega) x with ⟨k, hk, rfl⟩ | ho
  · rw [show m_X9_isWay Yw (nI k) = 1 by rw [h4.1]; exact isWay_c (by omega) hk, show m_X10_isWay Mw (nI k) = some 1 by rw [hm.1]; exact isWay_m (by omega) hk, bd1_some]
    simp only [lt1]
    rw [if_neg (show ¬ (1 : Int32) = 0 by decide), if_neg (show ¬ (1 : Int32) = 0 by decide)]
    rcases in_or (m := 2) (by omega) y with ⟨e, hy⟩ | ⟨e, d, hd, rfl⟩
    · rw [show m_X10_in y 0 2 = 0 from e, if_pos (show (0 : Int32) = 0 from rfl)]
      by_cases hy0 : y < 0
      · rw [if_pos hy0]
        exact ⟨_, _, _, _, _, _, _, _, _, _, _, _, _, rfl, rfl, h, hh⟩
      · rw [if_neg hy0, if_neg (show ¬ y ≤ 2 from fun z => by
          obtain ⟨d, e2, hd⟩ := nI_ex (Int32.not_lt.mp hy0)
          subst e2
          exact hy d ((kk2_Ile hd).mp z) rfl)]
        exact ⟨_, _, _, _, _, _, _, _, _, _, _, _, _, rfl, rfl, h, hh⟩
    · rw [show m_X10_in (nI d) 0 2 = 1 from e, if_neg (show ¬ (1 : Int32) = 0 by decide), if_neg (nI_pos (by omega)), if_pos ((kk2_Ile (by omega)).mpr hd), vAt_nI (by omega) (by omega), bridges_m hb (by omega) hk, bd1_some]
      by_cases c0 : br k ≤ nI d
      · rw [if_pos c0, if_pos c0]
        obtain ⟨b, c, b1, b2, b3, b4⟩ := hbo k hk
        have b5 : b ≤ d := (nI_leI (by omega) (by omega)).mp (b1 ▸ c0)
        obtain ⟨hz', Hb', HN', HB', HC', Hc', Hr', Hg', Hs', past', f1, f2, f3⟩ := record_ev (Hb := Hb) h.sr hh hN
        have hc := h.cp (k := k) (b := b) (c := d) hk b1 b5 hd
        rw [f1, f2, bd9_some, bd2_some, vAt_nI (by omega) (by omega), vPut_nI (by omega) (by omega), capOf_m hb (by omega) hk, bd1_some, show (196 : Int32) = nI 196 from rfl, nI_add, wr_nI (by omega) (by omega)]
        exact ⟨_, _, _, _, _, _, _, _, _, _, _, _, _, rfl, rfl, hc, f3⟩
      · rw [if_neg c0, if_neg c0]
        exact ⟨_, _, _, _, _, _, _, _, _, _, _, _, _, rfl, rfl, h, hh⟩
  · rw [show m_X9_isWay Yw x = 0 by rw [h4.1]; exact isWay_c0 ho, show m_X10_isWay Mw x = some 0 by rw [hm.1]; exact isWay_m0 (by omega) ho, bd1_some]
    exact ⟨_, _, _, _, _, _, _, _, _, _, _, _, _, rfl, rfl, h, hh⟩
theorem takeAll_ev {N : Nat} {br cp : Nat → Int32} (hN : 144 < N) : Ev (m_X6_takeAllBridges N br cp) (fun t => (t.1 = 0 ∧ t.2.1 = 0) ∧ ∀ k, k < 48 → t.2.2.1 k = 0 ∧ t.2.2.2 k = 2) := by
  unfold m_X6_takeAllBridges
  refine zl3c0 48 (fun i b c => ∀ k, k < i → b k = 0 ∧ c k = 2) ?_ ?_ N 0 _ _ (by omega) (by omega) (fun k hk => by omega)
  · intro rec i b c hi hP
    refine Or.inr ⟨upd b i 0, upd c i 2, ?_, fun k hk => ?_⟩
    · unfold m_X6_takeAllBridges_b2
      rw [if_neg (kk48_ge hi), vPut_nI hi (by omega), vPut_nI hi (by omega)]
      simp only [lt1, nI_s]
    · rcases Nat.lt_succ_iff_lt_or_eq.mp hk with q | q
      · rw [upd_n (by omega), upd_n (by omega)]; exact hP k q
      · rw [q, upd_s, upd_s]; exact ⟨rfl, rfl⟩
  · intro rec b c hP
    unfold m_X6_takeAllBridges_b2 m_X6_takeAllBridges_j32
    rw [if_pos (kk48_le (Nat.le_refl _) (by omega))]
    exact Ev.some ⟨⟨rfl, rfl⟩, hP⟩
theorem clears_ev {N : Nat} {s : Nat → Int32} (hN : 144 < N) : Ev (m_X10_clears N s) (fun z => (∀ k, k < 48 → z (148 + k) = 0 ∧ z (196 + k) = 2) ∧ z 2 = 0 ∧ z 3 = 0 ∧ z 0 = s 0 ∧ z 1 = s 1 ∧ ∀ c, c < 144 → z (4 + c) = s (4 + c)) := by
  unfold m_X10_clears
  refine zl2c0 48 (fun i z => (∀ k, k < i → z (148 + k) = 0 ∧ z (196 + k) = 2) ∧ z 0 = s 0 ∧ z 1 = s 1 ∧ ∀ c, c < 144 → z (4 + c) = s (4 + c)) ?_ ?_ N 0 _ (by omega) (by omega) ⟨fun k hk => by omega, rfl, rfl, fun c _ => rfl⟩
  · intro rec i z hi hP
    refine Or.inr ⟨upd (upd z (148 + i) 0) (196 + i) 2, ?_, fun k hk => ?_, ?_, ?_, fun c hc => ?_⟩
    · unfold m_X10_clears_b2
      rw [if_neg (kk48_ge hi), show (148 : Int32) = nI 148 from rfl, nI_add, wr_nI (by omega) (by omega), show (196 : Int32) = nI 196 from rfl, nI_add, wr_nI (by omega) (by omega)]
      simp only [lt1, nI_s]
    · rcases Nat.lt_succ_iff_lt_or_eq.mp hk with q | q
      · rw [upd_n (by omega), upd_n (by omega), upd_n (by omega), upd_n (by omega)]; exact hP.1 k q
      · rw [q, upd_s, upd_n (by omega), upd_s]; exact ⟨rfl, rfl⟩
    · rw [upd_n (by omega), upd_n (by omega)]; exact hP.2.1
    · rw [upd_n (by omega), upd_n (by omega)]; exact hP.2.2.1
    · rw [upd_n (by omega), upd_n (by omega)]; exact hP.2.2.2 c hc
  · intro rec z hP
    unfold m_X10_clears_b2 m_X10_clears_j36
    rw [if_pos (kk48_le (Nat.le_refl _) (by omega)), show (2 : Int32) = nI 2 from rfl, wr_nI (by omega) (by omega), show (3 : Int32) = nI 3 from rfl, wr_nI (by omega) (by omega)]
    refine Ev.some ⟨fun k hk => ?_, ?_, ?_, ?_, ?_, fun c hc => ?_⟩
    · rw [upd_n (by omega), upd_n (by omega), upd_n (by omega), upd_n (by omega)]; exact hP.1 k hk
    · rw [upd_n (by omega), upd_s]
    · rw [upd_s]
    · rw [upd_n (by omega), upd_n (by omega)]; exact hP.2.1
    · rw [upd_n (by omega), upd_n (by omega)]; exact hP.2.2.1
    · rw [upd_n (by omega), upd_n (by omega)]; exact hP.2.2.2 c hc
/-- a board without bridges -/
theorem Cur.new {W H : Nat} {num br cp cO iA fi se fC sC st wO s one other : Nat → Int32} {cols rows grade steps Yi Yw Mw : Int32} {cr : Nat → Int64} (h0 : cols = nI W ∧ rows = nI H) (hB : BD W H num) (hL : LO W H num Yi Yw cO iA fi se fC sC st wO cr) (hs : MS W H num s) (hm : mrep (WL W H num) Mw one other) (hb : ∀ k, k < 48 → br k = 0 ∧ cp k = 2) (hc : ∀ k, k < 48 → s (148 + k) = 0 ∧ s (196 + k) = 2) (hg : grade = 0 ∧ steps = 0) (h2 : s 2 = 0 ∧ s 3 = 0) : Cur W H num br cp cols rows grade steps Yi Yw Mw cO iA fi se fC sC st wO s one other cr := by
  have hl := hB.wls.2.2.1.1
  refine ⟨h0, hB, hL, hs, hm, fun k hk => ?_, fun k hk => ?_, fun i j hi hj _ z => ?_, by rw [h2.1, hg.1], by rw [h2.2, hg.2]⟩
  · rw [(hb k (by omega)).1, (hb k (by omega)).2]; exact hc k (by omega)
  · rw [(hb k (by omega)).1, (hb k (by omega)).2]; exact ⟨0, 2, rfl, rfl, by omega, by omega⟩
  · rw [(hb i (by omega)).1] at z
    exact absurd z.1 (by decide)
theorem sim_clear {N W H : Nat} {num br cp cO iA fi se fC sC st wO s one other past : Nat → Int32} {cols rows grade steps Yi Yw Mw hz : Int32} {cr : Nat → Int64} {Hb : Nat → Nat} {HN HB HC : Nat → Nat → Int32} {Hc Hr Hg Hs : Nat → Int32} (h : Cur W H num br cp cols rows grade steps Yi Yw Mw cO iA fi se fC sC st wO s one other cr) (hh : HR hz HN HB HC Hc Hr Hg Hs past) (hN : 1000 < N) :
    ∃ r grade' steps' br' cp' hz' Hb' HN' HB' HC' Hc' Hr' Hg' Hs' s' past', m_X9_clear N cols rows grade steps num br cp Yw hz Hb HN HB HC Hc Hr Hg Hs = some (r, grade', steps', br', cp', hz', Hb', HN', HB', HC', Hc', Hr', Hg', Hs') ∧ m_X10_clear N hz Mw s past = some (r, hz', s', past') ∧ Cur W H num br' cp' cols rows grade' steps' Yi Yw Mw cO iA fi se fC sC st wO s' one other cr ∧ HR hz' HN' HB' HC' Hc' Hr' Hg' Hs' past' := by
  obtain ⟨h0, hB, hL, hs, hm, hb, hbo, hx, hg, hst⟩ := id h
  have hn := hB.wls.2.2.1.1
  obtain ⟨hz', Hb', HN', HB', HC', Hc', Hr', Hg', Hs', past', f1, f2, f3⟩ := record_ev (Hb := Hb) h.sr hh hN
  obtain ⟨⟨g', st', br', cp'⟩, e1, q1, q2⟩ := takeAll_ev (N := N) (br := br) (cp := cp) (by omega)
  obtain ⟨z, e2, p1, p2, p3, p4, p5, p6⟩ := clears_ev (N := N) (s := s) (by omega)
  unfold m_X9_clear m_X10_clear
  rw [show m_X9_allBridges N br Yw = some (iS br (WL W H num).length) by rw [hL.2.2.2.1.1]; exact allBridges_c hn (by omega), show m_X10_allBridges N Mw s = some (iS br (WL W H num).length) by rw [hm.1]; exact allBridges_m hb hn (by omega), f1, f2, bd1_some, bd9_some, bd2_some, e1, bd4_some, bd1_some, e2, bd1_some]
  exact ⟨_, _, _, _, _, _, _, _, _, _, _, _, _, _, _, _, rfl, rfl, Cur.new h0 hB hL ⟨by rw [p4]; exact hs.1, by rw [p5]; exact hs.2.1, fun c hc => by rw [p6 c hc]; exact hs.2.2 c hc⟩ hm q2 p1 q1 ⟨p2, p3⟩, f3⟩
