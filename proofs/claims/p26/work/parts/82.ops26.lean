/-! what a call does to the state and the history, where it answers at all -/
/-- the newest of the history's states is this one; the others are of the elder history -/
def PU (num br cp : Nat → Int32) (cols rows grade steps : Int32) (h : Nat) (Hg Hs : Nat → Int32) (hz' : Int32) (HN' HB' HC' : Nat → Nat → Int32) (Hc' Hr' Hg' Hs' : Nat → Int32) : Prop := ∃ n, n ≤ 3 ∧ hz' = nI (n + 1) ∧ n + 1 = min (h + 1) 4 ∧ (∀ k, k < 144 → HN' n k = num k) ∧ (∀ k, k < 48 → HB' n k = br k) ∧ (∀ k, k < 48 → HC' n k = cp k) ∧ Hc' n = cols ∧ Hr' n = rows ∧ Hg' n = grade ∧ Hs' n = steps ∧ ∀ i, i < n → ∃ j, j < h ∧ Hg' i = Hg j ∧ Hs' i = Hs j
theorem record_PU {num br cp : Nat → Int32} {cols rows grade steps hz' : Int32} {Hb Hb' : Nat → Nat} {HN HB HC HN' HB' HC' : Nat → Nat → Int32} {Hc Hr Hg Hs Hc' Hr' Hg' Hs' : Nat → Int32} {h : Nat} (hh : h ≤ 4) (hm : m_X1_record cols rows grade steps num br cp (nI h) Hb HN HB HC Hc Hr Hg Hs = some (hz', Hb', HN', HB', HC', Hc', Hr', Hg', Hs')) : PU num br cp cols rows grade steps h Hg Hs hz' HN' HB' HC' Hc' Hr' Hg' Hs' := by
  rcases Nat.lt_or_ge h 4 with h4 | h4
  · rw [record_lt h4] at hm
    cases hm
    exact ⟨h, by omega, rfl, by omega, fun k hk => by rw [hset_s]; exact cpN_lt hk, fun k hk => by rw [hset_s]; exact cpN_lt hk, fun k hk => by rw [hset_s]; exact cpN_lt hk, hset_s, hset_s, hset_s, hset_s, fun i hi => ⟨i, hi, hset_n (by omega), hset_n (by omega)⟩⟩
  · have e : h = 4 := by omega
    subst e
    have e2 : m_X1_record cols rows grade steps num br cp (nI 4) Hb HN HB HC Hc Hr Hg Hs = some (4, rotB Hb, hset (rotF HN) 3 (cpN 144 num (HN 0)), hset (rotF HB) 3 (cpN 48 br (HB 0)), hset (rotF HC) 3 (cpN 48 cp (HC 0)), hset (rotF Hc) 3 cols, hset (rotF Hr) 3 rows, hset (rotF Hg) 3 grade, hset (rotF Hs) 3 steps) := by
      unfold m_X1_record
      rw [if_neg (by decide), if_neg (by decide), if_neg (by decide), if_neg (by decide), if_pos (by decide)]
    rw [e2] at hm
    cases hm
    refine ⟨3, by omega, rfl, by omega, fun k hk => by rw [hset_s]; exact cpN_lt hk, fun k hk => by rw [hset_s]; exact cpN_lt hk, fun k hk => by rw [hset_s]; exact cpN_lt hk, hset_s, hset_s, hset_s, hset_s, fun i hi => ⟨i + 1, by omega, ?_, ?_⟩⟩
    · rw [hset_n (by omega)]; exact if_pos hi
    · rw [hset_n (by omega)]; exact if_pos hi
/-- steps made, at most B; without one no grade -/
def GI (B : Nat) (grade steps : Int32) : Prop := ∃ k, k ≤ B ∧ steps = nI k ∧ (k = 0 → grade = 0)
theorem GI.mono {B C : Nat} {g s : Int32} (h : GI B g s) (hBC : B ≤ C) : GI C g s := by
  obtain ⟨k, h1, h2, h3⟩ := h
  exact ⟨k, by omega, h2, h3⟩
theorem GI.zero {B : Nat} : GI B 0 0 := ⟨0, Nat.zero_le _, rfl, fun _ => rfl⟩
theorem GI.step {B : Nat} {g s g' : Int32} (h : GI B g s) : GI (B + 1) g' (s + 1) := by
  obtain ⟨k, h1, h2, h3⟩ := h
  exact ⟨k + 1, by omega, by rw [h2, nI_s], fun z => by omega⟩
theorem takeAll_00 {N : Nat} {br cp br' cp' : Nat → Int32} {a b : Int32} (hN : 144 < N) (hm : m_X6_takeAllBridges N br cp = some (a, b, br', cp')) : a = 0 ∧ b = 0 := by
  obtain ⟨t, e, q, -⟩ := takeAll_ev (N := N) (br := br) (cp := cp) hN
  rw [hm] at e
  cases e
  exact q
theorem vAt_nn {n : Nat} {f : Nat → Int32} {x : Int32} (hn : n < 2 ^ 31) (h : ∀ k, k < n → 0 ≤ f k) : 0 ≤ vAt n f x := by
  unfold vAt
  by_cases c1 : x < 0
  · rw [if_pos c1]; decide
  · rw [if_neg c1]
    by_cases c2 : nI n ≤ x
    · rw [if_pos c2]; decide
    · rw [if_neg c2]
      obtain ⟨j, hj, rfl⟩ := nI_of c1
      rw [nI_clamp hj]
      refine h j ?_
      rcases Nat.lt_or_ge j n with q | q
      · exact q
      · exact absurd (nI_le q hj) c2
theorem carry_gs {grade steps g' s' z : Int32} {br cp fi se un uc ul br' cp' : Nat → Int32} (hm : m_X4_carryOut grade steps br cp fi se un uc ul z = (g', s', br', cp')) : s' = steps + 1 := by
  unfold m_X4_carryOut at hm
  simp only [lt1] at hm
  unfold m_X4_carryOut_j119 at hm
  simp only [lt1] at hm
  split at hm
  · cases hm; rfl
  · split at hm
    · cases hm; rfl
    · split at hm
      · cases hm; rfl
      · cases hm; rfl
section
variable {W H N : Nat} {num br cp cO iA fi se fC sC st wO s one other un ub uc ul ld num' br' cp' cO' iA' fi' se' fC' sC' st' wO' un' ub' uc' ul' ld' tk mn kC tk' mn' kC' : Nat → Int32} {cols rows grade steps Yi Yw Mw hz cols' rows' grade' steps' Yi' Yw' hz' r x y kc kr ki kz kc' kr' ki' kz' : Int32} {cr cr' : Nat → Int64} {rb rb' : Int64} {Hb Hb' : Nat → Nat} {HN HB HC HN' HB' HC' : Nat → Nat → Int32} {Hc Hr Hg Hs Hc' Hr' Hg' Hs' : Nat → Int32}
theorem build_po (h : Cur W H num br cp cols rows grade steps Yi Yw Mw cO iA fi se fC sC st wO s one other cr) (hm : m_X9_build N cols rows grade steps num br cp Yi Yw cO fi se cr un ub uc ul hz Hb HN HB HC Hc Hr Hg Hs x = some (r, br', un', ub', uc', ul', hz', Hb', HN', HB', HC', Hc', Hr', Hg', Hs')) : (r < 0 ∧ br' = br ∧ hz' = hz ∧ HN' = HN ∧ HB' = HB ∧ HC' = HC ∧ Hc' = Hc ∧ Hr' = Hr ∧ Hg' = Hg ∧ Hs' = Hs) ∨ (0 ≤ r ∧ m_X1_record cols rows grade steps num br cp hz Hb HN HB HC Hc Hr Hg Hs = some (hz', Hb', HN', HB', HC', Hc', Hr', Hg', Hs')) := by
  obtain ⟨h0, hB, hL, hs, hm1, hb, hbo, hx, hg, hst⟩ := h
  have hl := hB.wls
  have h4 := hL.2.2.2.1
  have hn := hl.2.2.1.1
  have hway : ¬ m_X9_isWay Yw x = 0 → ∃ k, k < (WL W H num).length ∧ x = nI k := by
    intro hw
    rcases cell_or (show (WL W H num).length < 2 ^ 31 by omega) x with ⟨k, hk, rfl⟩ | ho
    · exact ⟨k, hk, rfl⟩
    · exact absurd (show m_X9_isWay Yw x = 0 by rw [h4.1]; exact isWay_c0 ho) hw
  unfold m_X9_build at hm
  simp only [lt1] at hm
  by_cases c1 : m_X9_isWay Yw x = 0
  · have hm := ip c1 hm
    cases hm
    exact Or.inl ⟨by decide, rfl, rfl, rfl, rfl, rfl, rfl, rfl, rfl, rfl⟩
  have hm := ine c1 hm
  obtain ⟨v2, v3, v4, v5, v6, e1, hm⟩ := bd5_inv hm
  by_cases c2 : v2 = 0
  · have hm := ip c2 hm
    obtain ⟨v7, v8, v9, v10, v11, v12, v13, v14, v15, e2, hm⟩ := bd9_inv hm
    cases hm
    obtain ⟨k, hk, rfl⟩ := hway c1
    obtain ⟨b, c, b1, b2, b3, b4⟩ := hbo k hk
    refine Or.inr ⟨?_, e2⟩
    rw [vAt_nI (by omega) (by omega), b1, nI_s]
    exact nI_pos' (by omega)
  · have hm := ine c2 hm
    cases hm
    exact Or.inl ⟨by decide, rfl, rfl, rfl, rfl, rfl, rfl, rfl, rfl, rfl⟩
theorem take_po (h : Cur W H num br cp cols rows grade steps Yi Yw Mw cO iA fi se fC sC st wO s one other cr) (hm : m_X9_take cols rows grade steps num br cp Yw hz Hb HN HB HC Hc Hr Hg Hs x = some (r, br', hz', Hb', HN', HB', HC', Hc', Hr', Hg', Hs')) : (r < 0 ∧ br' = br ∧ hz' = hz ∧ HN' = HN ∧ HB' = HB ∧ HC' = HC ∧ Hc' = Hc ∧ Hr' = Hr ∧ Hg' = Hg ∧ Hs' = Hs) ∨ (0 ≤ r ∧ m_X1_record cols rows grade steps num br cp hz Hb HN HB HC Hc Hr Hg Hs = some (hz', Hb', HN', HB', HC', Hc', Hr', Hg', Hs')) := by
  obtain ⟨h0, hB, hL, hs, hm1, hb, hbo, hx, hg, hst⟩ := h
  have hl := hB.wls
  have h4 := hL.2.2.2.1
  have hn := hl.2.2.1.1
  have hway : ¬ m_X9_isWay Yw x = 0 → ∃ k, k < (WL W H num).length ∧ x = nI k := by
    intro hw
    rcases cell_or (show (WL W H num).length < 2 ^ 31 by omega) x with ⟨k, hk, rfl⟩ | ho
    · exact ⟨k, hk, rfl⟩
    · exact absurd (show m_X9_isWay Yw x = 0 by rw [h4.1]; exact isWay_c0 ho) hw
  unfold m_X9_take at hm
  simp only [lt1] at hm
  by_cases c1 : m_X9_isWay Yw x = 0
  · have hm := ip c1 hm
    cases hm
    exact Or.inl ⟨by decide, rfl, rfl, rfl, rfl, rfl, rfl, rfl, rfl, rfl⟩
  have hm := ine c1 hm
  obtain ⟨k, hk, rfl⟩ := hway c1
  obtain ⟨b, c, b1, b2, b3, b4⟩ := hbo k hk
  rw [vAt_nI (by omega) (by omega), b1] at hm
  by_cases c2 : nI b = 0
  · have hm := ip c2 hm
    cases hm
    exact Or.inl ⟨by decide, rfl, rfl, rfl, rfl, rfl, rfl, rfl, rfl, rfl⟩
  · have hm := ine c2 hm
    obtain ⟨v7, v8, v9, v10, v11, v12, v13, v14, v15, e2, hm⟩ := bd9_inv hm
    cases hm
    refine Or.inr ⟨?_, e2⟩
    have hb0 : b ≠ 0 := fun z => c2 (by rw [z]; rfl)
    rw [show (1 : Int32) = nI 1 from rfl, pk_sub (by omega)]
    exact nI_pos' (by omega)
theorem cap_po (h : Cur W H num br cp cols rows grade steps Yi Yw Mw cO iA fi se fC sC st wO s one other cr) (hm : m_X9_cap cols rows grade steps num br cp Yw hz Hb HN HB HC Hc Hr Hg Hs x y = some (r, cp', hz', Hb', HN', HB', HC', Hc', Hr', Hg', Hs')) : (r < 0 ∧ cp' = cp ∧ hz' = hz ∧ HN' = HN ∧ HB' = HB ∧ HC' = HC ∧ Hc' = Hc ∧ Hr' = Hr ∧ Hg' = Hg ∧ Hs' = Hs) ∨ (0 ≤ r ∧ m_X1_record cols rows grade steps num br cp hz Hb HN HB HC Hc Hr Hg Hs = some (hz', Hb', HN', HB', HC', Hc', Hr', Hg', Hs')) := by
  obtain ⟨h0, hB, hL, hs, hm1, hb, hbo, hx, hg, hst⟩ := h
  have hl := hB.wls
  have h4 := hL.2.2.2.1
  have hn := hl.2.2.1.1
  have hway : ¬ m_X9_isWay Yw x = 0 → ∃ k, k < (WL W H num).length ∧ x = nI k := by
    intro hw
    rcases cell_or (show (WL W H num).length < 2 ^ 31 by omega) x with ⟨k, hk, rfl⟩ | ho
    · exact ⟨k, hk, rfl⟩
    · exact absurd (show m_X9_isWay Yw x = 0 by rw [h4.1]; exact isWay_c0 ho) hw
  unfold m_X9_cap at hm
  simp only [lt1] at hm
  by_cases c1 : m_X9_isWay Yw x = 0
  · have hm := ip c1 hm
    cases hm
    exact Or.inl ⟨by decide, rfl, rfl, rfl, rfl, rfl, rfl, rfl, rfl, rfl⟩
  have hm := ine c1 hm
  by_cases c2 : y < 0
  · have hm := ip c2 hm
    cases hm
    exact Or.inl ⟨by decide, rfl, rfl, rfl, rfl, rfl, rfl, rfl, rfl, rfl⟩
  have hm := ine c2 hm
  by_cases c3 : y ≤ 2
  · have hm := ip c3 hm
    by_cases c4 : vAt 48 br x ≤ y
    · have hm := ip c4 hm
      obtain ⟨v7, v8, v9, v10, v11, v12, v13, v14, v15, e2, hm⟩ := bd9_inv hm
      cases hm
      obtain ⟨k, hk, rfl⟩ := hway c1
      obtain ⟨b, c, b1, b2, b3, b4⟩ := hbo k hk
      refine Or.inr ⟨?_, e2⟩
      rw [vAt_nI (by omega) (by omega), b2]
      exact nI_pos' (by omega)
    · have hm := ine c4 hm
      cases hm
      exact Or.inl ⟨by decide, rfl, rfl, rfl, rfl, rfl, rfl, rfl, rfl, rfl⟩
  · have hm := ine c3 hm
    cases hm
    exact Or.inl ⟨by decide, rfl, rfl, rfl, rfl, rfl, rfl, rfl, rfl, rfl⟩
theorem clear_po (h : Cur W H num br cp cols rows grade steps Yi Yw Mw cO iA fi se fC sC st wO s one other cr) (hN : 144 < N) (hm : m_X9_clear N cols rows grade steps num br cp Yw hz Hb HN HB HC Hc Hr Hg Hs = some (r, grade', steps', br', cp', hz', Hb', HN', HB', HC', Hc', Hr', Hg', Hs')) : 0 ≤ r ∧ m_X1_record cols rows grade steps num br cp hz Hb HN HB HC Hc Hr Hg Hs = some (hz', Hb', HN', HB', HC', Hc', Hr', Hg', Hs') ∧ grade' = 0 ∧ steps' = 0 := by
  obtain ⟨h0, hB, hL, hs, hm1, hb, hbo, hx, hg, hst⟩ := h
  have hl := hB.wls
  have h4 := hL.2.2.2.1
  have hn := hl.2.2.1.1
  unfold m_X9_clear at hm
  rw [h4.1, allBridges_c hn hN, bd1_some] at hm
  obtain ⟨v7, v8, v9, v10, v11, v12, v13, v14, v15, e2, hm⟩ := bd9_inv hm
  obtain ⟨w1, w2, w3, w4, e3, hm⟩ := bd4_inv hm
  cases hm
  have hz := takeAll_00 hN e3
  refine ⟨?_, e2, hz.1, hz.2⟩
  rw [iS_nS (g := vN br) (fun k hk => (hbo.v hk).1)]
  refine nI_pos' ?_
  have := nS_le (f := vN br) (B := 2) (n := (WL W H num).length) (fun k hk => by have := hbo.v hk; omega)
  omega
theorem step_po (h : Cur W H num br cp cols rows grade steps Yi Yw Mw cO iA fi se fC sC st wO s one other cr) (hN : 144 < N) (hm : m_X9_step N cols rows grade steps num br cp Yi Yw cO fi se cr un ub uc ul ld rb hz Hb HN HB HC Hc Hr Hg Hs = some (r, grade', steps', br', cp', un', ub', uc', ul', ld', rb', hz', Hb', HN', HB', HC', Hc', Hr', Hg', Hs')) : stpE W H num br cp r ∧ ((r < 0 ∧ grade' = grade ∧ steps' = steps ∧ br' = br ∧ cp' = cp ∧ hz' = hz ∧ HN' = HN ∧ HB' = HB ∧ HC' = HC ∧ Hc' = Hc ∧ Hr' = Hr ∧ Hg' = Hg ∧ Hs' = Hs) ∨ (0 ≤ r ∧ m_X1_record cols rows grade steps num br cp hz Hb HN HB HC Hc Hr Hg Hs = some (hz', Hb', HN', HB', HC', Hc', Hr', Hg', Hs') ∧ steps' = steps + 1)) := by
  obtain ⟨h0, hB, hL, hs, hm1, hb, hbo, hx, hg, hst⟩ := h
  have hl := hB.wls
  have h4 := hL.2.2.2.1
  have hn := hl.2.2.1.1
  obtain ⟨gC, g1, ⟨t, q1⟩⟩ := find_c (N := N) (br := br) (cp := cp) (un := un) (ub := ub) (uc := uc) (ul := ul) (ld := ld) (rb := rb) hB hL hN
  unfold m_X9_step at hm
  obtain ⟨v1, v2, v3, v4, v5, v6, v7, e1, hm⟩ := bd7_inv hm
  rw [e1] at q1
  obtain ⟨q0, q1, -⟩ := q1
  cases q0
  by_cases c1 : 0 ≤ v1
  · have hm := ip c1 hm
    obtain ⟨w7, w8, w9, w10, w11, w12, w13, w14, w15, e2, hm⟩ := bd9_inv hm
    obtain ⟨u1, u2, u3, u4, e3, hm⟩ := lt4_inv hm
    cases hm
    exact ⟨⟨gC, g1, q1⟩, Or.inr ⟨c1, e2, carry_gs e3⟩⟩
  · have hm := ine c1 hm
    cases hm
    exact ⟨⟨gC, g1, q1⟩, Or.inl ⟨Int32.not_le.mp c1, rfl, rfl, rfl, rfl, rfl, rfl, rfl, rfl, rfl, rfl, rfl, rfl⟩⟩
theorem steps_lp {X : Nat} {B : Nat} (hX : X ≤ 200) (hB : B ≤ 100000) : ∀ (N1 i : Nat) (grade steps : Int32) (br cp un ub uc ul ld : Nat → Int32) (rb : Int64), i ≤ X → GI (B + i) grade steps → zl11 (m_X9_steps_b27 N num Yi Yw cO fi se cr (nI X) hz Hb HN HB HC Hc Hr Hg Hs) N1 (nI i) grade steps br cp un ub uc ul ld rb = some (r, grade', steps', br', cp', un', ub', uc', ul', ld', rb', hz', Hb', HN', HB', HC', Hc', Hr', Hg', Hs') → 0 ≤ r ∧ GI (B + 200) grade' steps' ∧ (hz, Hb, HN, HB, HC, Hc, Hr, Hg, Hs) = (hz', Hb', HN', HB', HC', Hc', Hr', Hg', Hs') := by
  intro N1
  induction N1 with
  | zero => intro i grade steps br cp un ub uc ul ld rb _ _ hm; cases hm
  | succ N1 ih =>
    intro i grade steps br cp un ub uc ul ld rb hi hg hm
    rw [zl11_s] at hm
    unfold m_X9_steps_b27 at hm
    by_cases c1 : nI X ≤ nI i
    · have hm := ip c1 hm
      cases hm
      exact ⟨nI_pos' (by omega), hg.mono (by omega), rfl⟩
    have hm := ine c1 hm
    have hi2 : i < X := by
      rcases Nat.lt_or_ge i X with q | q
      · exact q
      · exact absurd (nI_le q (by omega)) c1
    obtain ⟨v1, v2, v3, v4, v5, v6, v7, e1, hm⟩ := bd7_inv hm
    by_cases c2 : 0 ≤ v1
    · have hm := ip c2 hm
      obtain ⟨u1, u2, u3, u4, e3, hm⟩ := lt4_inv hm
      simp only [lt1, nI_s] at hm
      have e4 := carry_gs e3
      subst e4
      exact ih (i + 1) u1 _ u3 u4 v2 v3 v4 v5 v6 v7 (by omega) hg.step hm
    · have hm := ine c2 hm
      cases hm
      exact ⟨nI_pos' (by omega), hg.mono (by omega), rfl⟩
theorem steps_po {B : Nat} (hB9 : B ≤ 100000) (hg9 : GI B grade steps) (hm : m_X9_steps N cols rows grade steps num br cp Yi Yw cO fi se cr un ub uc ul ld rb hz Hb HN HB HC Hc Hr Hg Hs x = some (r, grade', steps', br', cp', un', ub', uc', ul', ld', rb', hz', Hb', HN', HB', HC', Hc', Hr', Hg', Hs')) : (r < 0 ∧ grade' = grade ∧ steps' = steps ∧ br' = br ∧ cp' = cp ∧ hz' = hz ∧ HN' = HN ∧ HB' = HB ∧ HC' = HC ∧ Hc' = Hc ∧ Hr' = Hr ∧ Hg' = Hg ∧ Hs' = Hs) ∨ (0 ≤ r ∧ m_X1_record cols rows grade steps num br cp hz Hb HN HB HC Hc Hr Hg Hs = some (hz', Hb', HN', HB', HC', Hc', Hr', Hg', Hs') ∧ GI (B + 200) grade' steps') := by
  unfold m_X9_steps at hm
  by_cases c1 : x < 1
  · have hm := ip c1 hm
    cases hm
    exact Or.inl ⟨by decide, rfl, rfl, rfl, rfl, rfl, rfl, rfl, rfl, rfl, rfl, rfl, rfl⟩
  have hm := ine c1 hm
  by_cases c2 : x ≤ 200
  · have hm := ip c2 hm
    obtain ⟨w7, w8, w9, w10, w11, w12, w13, w14, w15, e2, hm⟩ := bd9_inv hm
    obtain ⟨X, hX, rfl⟩ := nI_of (x := x) (fun z => c1 (Int32.lt_trans z (by decide)))
    have hX2 : X ≤ 200 := (kk200_Ile hX).mp c2
    obtain ⟨p1, p2, p3⟩ := steps_lp hX2 hB9 N 0 grade steps br cp un ub uc ul ld rb (Nat.zero_le _) hg9 hm
    cases p3
    exact Or.inr ⟨p1, e2, p2⟩
  · have hm := ine c2 hm
    cases hm
    exact Or.inl ⟨by decide, rfl, rfl, rfl, rfl, rfl, rfl, rfl, rfl, rfl, rfl, rfl, rfl⟩
theorem renew_00 {a b : Int32} {f g : Nat → Int32} (hN : 144 < N) (hm : m_X9_renewWays N cols rows num br cp cO iA fi se fC sC st wO cr = some (a, b, f, g, Yi', Yw', cO', iA', fi', se', fC', sC', st', wO', cr')) : a = 0 ∧ b = 0 := by
  unfold m_X9_renewWays at hm
  obtain ⟨w1, w2, w3, w4, e3, hm⟩ := bd4_inv hm
  obtain ⟨v1, v2, v3, v4, v5, v6, v7, v8, v9, v10, v11, e4, hm⟩ := bd11_inv hm
  cases hm
  exact takeAll_00 hN e3
theorem island_j (hN : 144 < N) (hm : m_X9_island_j50 N cols rows x y grade steps num br cp cO iA fi se fC sC st wO cr hz Hb HN HB HC Hc Hr Hg Hs = some (r, grade', steps', num', br', cp', Yi', Yw', cO', iA', fi', se', fC', sC', st', wO', cr', hz', Hb', HN', HB', HC', Hc', Hr', Hg', Hs')) : r = Yw' ∧ m_X1_record cols rows grade steps num br cp hz Hb HN HB HC Hc Hr Hg Hs = some (hz', Hb', HN', HB', HC', Hc', Hr', Hg', Hs') ∧ grade' = 0 ∧ steps' = 0 := by
  unfold m_X9_island_j50 at hm
  obtain ⟨w7, w8, w9, w10, w11, w12, w13, w14, w15, e2, hm⟩ := bd9_inv hm
  simp only [lt1] at hm
  obtain ⟨u1, u2, u3, u4, u5, u6, u7, u8, u9, u10, u11, u12, u13, u14, u15, e3, hm⟩ := bd15_inv hm
  cases hm
  have := renew_00 hN e3
  exact ⟨rfl, e2, this.1, this.2⟩
theorem island_po (hN : 144 < N) (hm : m_X9_island N cols rows grade steps num br cp Yi Yw cO iA fi se fC sC st wO cr hz Hb HN HB HC Hc Hr Hg Hs x y = some (r, grade', steps', num', br', cp', Yi', Yw', cO', iA', fi', se', fC', sC', st', wO', cr', hz', Hb', HN', HB', HC', Hc', Hr', Hg', Hs')) : (r < 0 ∧ grade' = grade ∧ steps' = steps ∧ num' = num ∧ br' = br ∧ cp' = cp ∧ Yi' = Yi ∧ Yw' = Yw ∧ cO' = cO ∧ iA' = iA ∧ fi' = fi ∧ se' = se ∧ fC' = fC ∧ sC' = sC ∧ st' = st ∧ wO' = wO ∧ cr' = cr ∧ hz' = hz ∧ HN' = HN ∧ HB' = HB ∧ HC' = HC ∧ Hc' = Hc ∧ Hr' = Hr ∧ Hg' = Hg ∧ Hs' = Hs) ∨ (r = Yw' ∧ m_X1_record cols rows grade steps num br cp hz Hb HN HB HC Hc Hr Hg Hs = some (hz', Hb', HN', HB', HC', Hc', Hr', Hg', Hs') ∧ grade' = 0 ∧ steps' = 0) := by
  unfold m_X9_island at hm
  simp only [lt1] at hm
  by_cases c1 : m_X9_isCell cols rows x = 0
  · have hm := ip c1 hm
    cases hm
    exact Or.inl ⟨by decide, rfl, rfl, rfl, rfl, rfl, rfl, rfl, rfl, rfl, rfl, rfl, rfl, rfl, rfl, rfl, rfl, rfl, rfl, rfl, rfl, rfl, rfl, rfl, rfl⟩
  have hm := ine c1 hm
  by_cases c2 : y < 1
  · have hm := ip c2 hm
    cases hm
    exact Or.inl ⟨by decide, rfl, rfl, rfl, rfl, rfl, rfl, rfl, rfl, rfl, rfl, rfl, rfl, rfl, rfl, rfl, rfl, rfl, rfl, rfl, rfl, rfl, rfl, rfl, rfl⟩
  have hm := ine c2 hm
  by_cases c3 : y ≤ 8
  · have hm := ip c3 hm
    by_cases c4 : vAt 144 num x = 0
    · have hm := ip c4 hm
      by_cases c5 : Yi < 24
      · have hm := ip c5 hm
        exact Or.inr (island_j hN hm)
      · have hm := ine c5 hm
        cases hm
        exact Or.inl ⟨by decide, rfl, rfl, rfl, rfl, rfl, rfl, rfl, rfl, rfl, rfl, rfl, rfl, rfl, rfl, rfl, rfl, rfl, rfl, rfl, rfl, rfl, rfl, rfl, rfl⟩
    · have hm := ine c4 hm
      exact Or.inr (island_j hN hm)
  · have hm := ine c3 hm
    cases hm
    exact Or.inl ⟨by decide, rfl, rfl, rfl, rfl, rfl, rfl, rfl, rfl, rfl, rfl, rfl, rfl, rfl, rfl, rfl, rfl, rfl, rfl, rfl, rfl, rfl, rfl, rfl, rfl⟩
theorem remove_po (h : Cur W H num br cp cols rows grade steps Yi Yw Mw cO iA fi se fC sC st wO s one other cr) (hN : 144 < N) (hm : m_X9_removeIsland N cols rows grade steps num br cp Yi Yw cO iA fi se fC sC st wO cr hz Hb HN HB HC Hc Hr Hg Hs x = some (r, grade', steps', num', br', cp', Yi', Yw', cO', iA', fi', se', fC', sC', st', wO', cr', hz', Hb', HN', HB', HC', Hc', Hr', Hg', Hs')) : (r < 0 ∧ grade' = grade ∧ steps' = steps ∧ num' = num ∧ br' = br ∧ cp' = cp ∧ Yi' = Yi ∧ Yw' = Yw ∧ cO' = cO ∧ iA' = iA ∧ fi' = fi ∧ se' = se ∧ fC' = fC ∧ sC' = sC ∧ st' = st ∧ wO' = wO ∧ cr' = cr ∧ hz' = hz ∧ HN' = HN ∧ HB' = HB ∧ HC' = HC ∧ Hc' = Hc ∧ Hr' = Hr ∧ Hg' = Hg ∧ Hs' = Hs) ∨ (0 ≤ r ∧ m_X1_record cols rows grade steps num br cp hz Hb HN HB HC Hc Hr Hg Hs = some (hz', Hb', HN', HB', HC', Hc', Hr', Hg', Hs') ∧ grade' = 0 ∧ steps' = 0) := by
  obtain ⟨h0, hB, hL, hs, hm1, hb, hbo, hx, hg, hst⟩ := h
  have hl := hB.wls
  have h4 := hL.2.2.2.1
  have hn := hl.2.2.1.1
  unfold m_X9_removeIsland at hm
  simp only [lt1] at hm
  by_cases c1 : m_X9_isCell cols rows x = 0
  · have hm := ip c1 hm
    cases hm
    exact Or.inl ⟨by decide, rfl, rfl, rfl, rfl, rfl, rfl, rfl, rfl, rfl, rfl, rfl, rfl, rfl, rfl, rfl, rfl, rfl, rfl, rfl, rfl, rfl, rfl, rfl, rfl⟩
  have hm := ine c1 hm
  by_cases c2 : vAt 144 num x = 0
  · have hm := ip c2 hm
    cases hm
    exact Or.inl ⟨by decide, rfl, rfl, rfl, rfl, rfl, rfl, rfl, rfl, rfl, rfl, rfl, rfl, rfl, rfl, rfl, rfl, rfl, rfl, rfl, rfl, rfl, rfl, rfl, rfl⟩
  have hm := ine c2 hm
  obtain ⟨w7, w8, w9, w10, w11, w12, w13, w14, w15, e2, hm⟩ := bd9_inv hm
  obtain ⟨u1, u2, u3, u4, u5, u6, u7, u8, u9, u10, u11, u12, u13, u14, u15, e3, hm⟩ := bd15_inv hm
  cases hm
  have hz := renew_00 hN e3
  exact Or.inr ⟨vAt_nn (by omega) hB.2.2.1, e2, hz.1, hz.2⟩
theorem begin_po (h : Cur W H num br cp cols rows grade steps Yi Yw Mw cO iA fi se fC sC st wO s one other cr) (hN : 144 < N) (hm : m_X9_begin N cols rows grade steps num br cp Yi Yw cO iA fi se fC sC st wO cr hz Hb HN HB HC Hc Hr Hg Hs x y = some (r, cols', rows', grade', steps', num', br', cp', Yi', Yw', cO', iA', fi', se', fC', sC', st', wO', cr', hz', Hb', HN', HB', HC', Hc', Hr', Hg', Hs')) : (r < 0 ∧ cols' = cols ∧ rows' = rows ∧ grade' = grade ∧ steps' = steps ∧ num' = num ∧ br' = br ∧ cp' = cp ∧ Yi' = Yi ∧ Yw' = Yw ∧ cO' = cO ∧ iA' = iA ∧ fi' = fi ∧ se' = se ∧ fC' = fC ∧ sC' = sC ∧ st' = st ∧ wO' = wO ∧ cr' = cr ∧ hz' = hz ∧ HN' = HN ∧ HB' = HB ∧ HC' = HC ∧ Hc' = Hc ∧ Hr' = Hr ∧ Hg' = Hg ∧ Hs' = Hs) ∨ (0 ≤ r ∧ m_X1_record cols rows grade steps num br cp hz Hb HN HB HC Hc Hr Hg Hs = some (hz', Hb', HN', HB', HC', Hc', Hr', Hg', Hs') ∧ grade' = 0 ∧ steps' = 0) := by
  obtain ⟨h0, hB, hL, hs, hm1, hb, hbo, hx, hg, hst⟩ := h
  have hl := hB.wls
  have h4 := hL.2.2.2.1
  have hn := hl.2.2.1.1
  unfold m_X9_begin at hm
  simp only [lt1] at hm
  by_cases c1 : m_X9_isSide x = 0
  · have hm := ip c1 hm
    cases hm
    exact Or.inl ⟨by decide, rfl, rfl, rfl, rfl, rfl, rfl, rfl, rfl, rfl, rfl, rfl, rfl, rfl, rfl, rfl, rfl, rfl, rfl, rfl, rfl, rfl, rfl, rfl, rfl, rfl, rfl⟩
  have hm := ine c1 hm
  by_cases c2 : m_X9_isSide y = 0
  · have hm := ip c2 hm
    cases hm
    exact Or.inl ⟨by decide, rfl, rfl, rfl, rfl, rfl, rfl, rfl, rfl, rfl, rfl, rfl, rfl, rfl, rfl, rfl, rfl, rfl, rfl, rfl, rfl, rfl, rfl, rfl, rfl, rfl, rfl⟩
  have hm := ine c2 hm
  obtain ⟨w7, w8, w9, w10, w11, w12, w13, w14, w15, e2, hm⟩ := bd9_inv hm
  obtain ⟨z1, z2, z3, z4, z5, z6, z7, e4, hm⟩ := bd7_inv hm
  obtain ⟨u1, u2, u3, u4, u5, u6, u7, u8, u9, u10, u11, u12, u13, u14, u15, e3, hm⟩ := bd15_inv hm
  cases hm
  have hz := renew_00 hN e3
  refine Or.inr ⟨?_, e2, hz.1, hz.2⟩
  rw [hL.1]
  exact nI_pos' (by have := hB.2.2.2.2; omega)
theorem make_po (hN : 144 < N) (hm : m_X9_make N cols rows grade steps num br cp Yi Yw cO iA fi se fC sC st wO cr kc kr ki kz tk mn kC hz Hb HN HB HC Hc Hr Hg Hs x y = some (r, grade', steps', num', br', cp', Yi', Yw', cO', iA', fi', se', fC', sC', st', wO', cr', kc', kr', ki', kz', tk', mn', kC', hz', Hb', HN', HB', HC', Hc', Hr', Hg', Hs')) : (r < 0 ∧ grade' = grade ∧ steps' = steps ∧ num' = num ∧ br' = br ∧ cp' = cp ∧ Yi' = Yi ∧ Yw' = Yw ∧ cO' = cO ∧ iA' = iA ∧ fi' = fi ∧ se' = se ∧ fC' = fC ∧ sC' = sC ∧ st' = st ∧ wO' = wO ∧ cr' = cr ∧ hz' = hz ∧ HN' = HN ∧ HB' = HB ∧ HC' = HC ∧ Hc' = Hc ∧ Hr' = Hr ∧ Hg' = Hg ∧ Hs' = Hs) ∨ (r = Yi' ∧ m_X1_record cols rows grade steps num br cp hz Hb HN HB HC Hc Hr Hg Hs = some (hz', Hb', HN', HB', HC', Hc', Hr', Hg', Hs') ∧ grade' = 0 ∧ steps' = 0) := by
  unfold m_X9_make at hm
  by_cases c1 : x < 0
  · have hm := ip c1 hm
    cases hm
    exact Or.inl ⟨by decide, rfl, rfl, rfl, rfl, rfl, rfl, rfl, rfl, rfl, rfl, rfl, rfl, rfl, rfl, rfl, rfl, rfl, rfl, rfl, rfl, rfl, rfl, rfl, rfl⟩
  have hm := ine c1 hm
  by_cases c2 : 65535 < x
  · have hm := ip c2 hm
    cases hm
    exact Or.inl ⟨by decide, rfl, rfl, rfl, rfl, rfl, rfl, rfl, rfl, rfl, rfl, rfl, rfl, rfl, rfl, rfl, rfl, rfl, rfl, rfl, rfl, rfl, rfl, rfl, rfl⟩
  have hm := ine c2 hm
  by_cases c3 : y < 2
  · have hm := ip c3 hm
    cases hm
    exact Or.inl ⟨by decide, rfl, rfl, rfl, rfl, rfl, rfl, rfl, rfl, rfl, rfl, rfl, rfl, rfl, rfl, rfl, rfl, rfl, rfl, rfl, rfl, rfl, rfl, rfl, rfl⟩
  have hm := ine c3 hm
  by_cases c4 : y ≤ 24
  · have hm := ip c4 hm
    obtain ⟨w7, w8, w9, w10, w11, w12, w13, w14, w15, e2, hm⟩ := bd9_inv hm
    obtain ⟨z1, z2, z3, z4, z5, z6, z7, e4, hm⟩ := bd7_inv hm
    obtain ⟨z8, e5, hm⟩ := bd1_inv hm
    obtain ⟨u1, u2, u3, u4, u5, u6, u7, u8, u9, u10, u11, u12, u13, u14, u15, e3, hm⟩ := bd15_inv hm
    cases hm
    have hz := renew_00 hN e3
    exact Or.inr ⟨rfl, e2, hz.1, hz.2⟩
  · have hm := ine c4 hm
    cases hm
    exact Or.inl ⟨by decide, rfl, rfl, rfl, rfl, rfl, rfl, rfl, rfl, rfl, rfl, rfl, rfl, rfl, rfl, rfl, rfl, rfl, rfl, rfl, rfl, rfl, rfl, rfl, rfl⟩
theorem undo_po {n : Nat} (hn : n < 4) (hm : m_X9_undo N cols rows grade steps num br cp Yi Yw cO iA fi se fC sC st wO cr (nI (n + 1)) HN HB HC Hc Hr Hg Hs = some (r, cols', rows', grade', steps', num', br', cp', Yi', Yw', cO', iA', fi', se', fC', sC', st', wO', cr', hz')) : r = nI n ∧ hz' = nI n ∧ cols' = Hc n ∧ rows' = Hr n ∧ grade' = Hg n ∧ steps' = Hs n ∧ (∀ k, k < 144 → num' k = HN n k) ∧ (∀ k, k < 48 → br' k = HB n k) ∧ ∀ k, k < 48 → cp' k = HC n k := by
  unfold m_X9_undo at hm
  have hm := ine (fun w => by have := (kk0_eq (by omega)).mp w; omega) hm
  rw [restore_lt hn, bd8_some] at hm
  obtain ⟨v1, v2, v3, v4, v5, v6, v7, v8, v9, v10, v11, e4, hm⟩ := bd11_inv hm
  cases hm
  exact ⟨rfl, rfl, rfl, rfl, rfl, rfl, fun k hk => cpN_lt hk, fun k hk => cpN_lt hk, fun k hk => cpN_lt hk⟩
theorem undo_0 (hm : m_X9_undo N cols rows grade steps num br cp Yi Yw cO iA fi se fC sC st wO cr (nI 0) HN HB HC Hc Hr Hg Hs = some (r, cols', rows', grade', steps', num', br', cp', Yi', Yw', cO', iA', fi', se', fC', sC', st', wO', cr', hz')) : r = -2 := by
  unfold m_X9_undo at hm
  have hm := ip (show nI 0 = 0 from rfl) hm
  cases hm
  rfl
end
