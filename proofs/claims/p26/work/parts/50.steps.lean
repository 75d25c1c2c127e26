/-! step, hint, steps -/
/-- what the search for a step answers -/
def stR (W H : Nat) (num br cp : Nat → Int32) (gC : Nat → Nat) (z : Int32) (R k : Nat) : Prop := (1 ≤ R ∧ R ≤ 4) ∧ k < (WL W H num).length ∧ ap W H num (WL W H num) br cp gC R k ∧ (∀ j, j < k → ¬ ap W H num (WL W H num) br cp gC R j) ∧ (∀ Q, 1 ≤ Q → Q < R → ∀ j, j < (WL W H num).length → ¬ ap W H num (WL W H num) br cp gC Q j) ∧ z = nI (100 * R + k)
def stp (W H : Nat) (num br cp : Nat → Int32) (gC : Nat → Nat) (z : Int32) : Prop :=
  (brk W H num (WL W H num) br cp ∧ z = -2) ∨ (¬ brk W H num (WL W H num) br cp ∧ ∃ R k, stR W H num br cp gC z R k) ∨ (¬ brk W H num (WL W H num) br cp ∧ (∀ Q, 1 ≤ Q → Q < 5 → ∀ j, j < (WL W H num).length → ¬ ap W H num (WL W H num) br cp gC Q j) ∧ z = -4)
theorem stR_uniq {W H : Nat} {num br cp : Nat → Int32} {gC : Nat → Nat} {y z : Int32} {R k Q j : Nat} (h1 : stR W H num br cp gC y R k) (h2 : stR W H num br cp gC z Q j) : y = z := by
  obtain ⟨a1, a2, a3, a4, a5, rfl⟩ := h1
  obtain ⟨b1, b2, b3, b4, b5, rfl⟩ := h2
  have e1 : R = Q := by
    rcases Nat.lt_trichotomy R Q with q | q | q
    · exact absurd a3 (b5 R a1.1 q k a2)
    · exact q
    · exact absurd b3 (a5 Q b1.1 q j b2)
  subst e1
  have e2 : k = j := by
    rcases Nat.lt_trichotomy k j with q | q | q
    · exact absurd a3 (b4 k q)
    · exact q
    · exact absurd b3 (a4 j q)
  subst e2
  rfl
theorem stp_uniq {W H : Nat} {num br cp : Nat → Int32} {gC : Nat → Nat} {y z : Int32} (h1 : stp W H num br cp gC y) (h2 : stp W H num br cp gC z) : y = z := by
  rcases h1 with ⟨a, rfl⟩ | ⟨a, R, k, a1⟩ | ⟨a, a1, rfl⟩
  · rcases h2 with ⟨b, rfl⟩ | ⟨b, -⟩ | ⟨b, -⟩
    · rfl
    · exact absurd a b
    · exact absurd a b
  · rcases h2 with ⟨b, -⟩ | ⟨b, Q, j, b1⟩ | ⟨b, b1, -⟩
    · exact absurd b a
    · exact stR_uniq a1 b1
    · exact absurd a1.2.2.1 (b1 R a1.1.1 (by have := a1.1; omega) k a1.2.1)
  · rcases h2 with ⟨b, -⟩ | ⟨b, Q, j, b1⟩ | ⟨b, b1, rfl⟩
    · exact absurd b a
    · exact absurd b1.2.2.1 (a1 Q b1.1.1 (by have := b1.1; omega) j b1.2.1)
    · rfl
theorem find_c {W H N : Nat} {num br cp cO iA fi se fC sC st wO un ub uc ul ld : Nat → Int32} {Yi Yw : Int32} {cr : Nat → Int64} {rb : Int64} (hB : BD W H num) (hL : LO W H num Yi Yw cO iA fi se fC sC st wO cr) (hN : 144 < N) : ∃ gC, LabG (WL W H num).length (pF num (WL W H num)) (qF num (WL W H num)) (onB br) gC ∧ Ev (m_X4_find N num br cp Yi Yw cO fi se cr un ub uc ul ld rb) (fun t => stp W H num br cp gC t.1 ∧ SU W H num (WL W H num) br cp t.2.1 t.2.2.1 t.2.2.2.1 t.2.2.2.2.1) := by
  have hn := hB.wls.2.2.1.1
  have h4 := hL.2.2.2.1
  obtain ⟨z1, f1, gC, g1, g2⟩ := groups_ev (N := N) (br := br) (ld := ld) hB h4 hN
  refine ⟨gC, g2, ?_⟩
  obtain ⟨⟨v1, v2, v3, v4⟩, e, q⟩ := sums_ev (N := N) (br := br) (cp := cp) (un := un) (ub := ub) (uc := uc) (ul := ul) hB hL hN
  replace q : SU W H num (WL W H num) br cp v1 v2 v3 v4 := q
  obtain ⟨z, e2, q2⟩ := areBroken_ev hB q hN
  unfold m_X4_find
  rw [e, bd4_some, hL.1, e2, bd1_some]
  rcases q2 with ⟨rfl, q2⟩ | ⟨rfl, q2⟩
  · rw [if_neg (show ¬ (1 : Int32) = 0 by decide)]
    exact Ev.some ⟨Or.inl ⟨q2, rfl⟩, q⟩
  · rw [if_pos rfl, f1, bd1_some, h4.1, waysWith_nI hn hN, bd1_some]
    refine zl1c0 5 (fun R => 1 ≤ R ∧ ∀ Q, 1 ≤ Q → Q < R → ∀ j, j < (WL W H num).length → ¬ ap W H num (WL W H num) br cp gC Q j) ?_ ?_ N 1 (by omega) (by omega) ⟨Nat.le_refl _, fun Q h1 h2 => by omega⟩
    · intro rec R hR hP
      unfold m_X4_find_b54
      rw [if_neg (fun z => by have := (kk4_ltI (by omega)).mp z; omega)]
      refine zl1g0 (fun o => Ev o _ ∨ (o = rec (nI (R + 1)) ∧ 1 ≤ R + 1 ∧ ∀ Q, 1 ≤ Q → Q < R + 1 → ∀ j, j < (WL W H num).length → ¬ ap W H num (WL W H num) br cp gC Q j)) (WL W H num).length (fun k => ∀ j, j < k → ¬ ap W H num (WL W H num) br cp gC R j) ?_ ?_ N 0 (by omega) (by omega) (fun j hj => by omega)
      · intro rec2 k hk hQ
        unfold m_X4_find_b61
        have hp := isPossible_c (N := N) hB hL q g1 g2 hk (show 1 ≤ R ∧ R ≤ 4 from ⟨hP.1, by omega⟩) hN
        rw [hL.1] at hp
        obtain ⟨w, e3, q3⟩ := hp
        rw [if_neg (nI_ge hk (by omega)), e3, bd1_some]
        rcases q3 with ⟨rfl, q3⟩ | ⟨rfl, q3⟩
        · rw [if_neg (show ¬ (1 : Int32) = 0 by decide)]
          left; left
          unfold m_X4_find_j81
          rw [show (100 : Int32) = nI 100 from rfl, pk_mul, nI_add]
          exact Ev.some ⟨Or.inr (Or.inl ⟨q2, R, k, ⟨hP.1, by omega⟩, hk, q3, hQ, hP.2, rfl⟩), q⟩
        · rw [if_pos rfl]
          right
          simp only [lt1, nI_s]
          refine ⟨trivial, fun j hj => ?_⟩
          rcases Nat.lt_succ_iff_lt_or_eq.mp hj with r | r
          · exact hQ j r
          · rw [r]; exact q3
      · intro rec2 hQ
        unfold m_X4_find_b61 m_X4_find_j94
        rw [if_pos (nI_le (Nat.le_refl _) (by omega))]
        simp only [lt1, nI_s]
        refine Or.inr ⟨trivial, by omega, fun Q h1 h2 j hj => ?_⟩
        rcases Nat.lt_succ_iff_lt_or_eq.mp h2 with r | r
        · exact hP.2 Q h1 r j hj
        · rw [r]; exact hQ j hj
    · intro rec hP
      unfold m_X4_find_b54
      rw [if_pos (show (4 : Int32) < nI 5 by decide)]
      exact Ev.some ⟨Or.inr (Or.inr ⟨q2, hP.2, rfl⟩), q⟩
theorem next_m {W H N : Nat} {num s one other br cp gr : Nat → Int32} {Mw : Int32} {gC : Nat → Nat} (hB : BD W H num) (hs : MS W H num s) (hm : mrep (WL W H num) Mw one other) (hb : MB (WL W H num).length br cp s) (hbo : bo (WL W H num).length br cp) (hG : LabG (WL W H num).length (pF num (WL W H num)) (qF num (WL W H num)) (onB br) gC) (hN : 100000 < N) : Ev (m_X10_next N Mw s one other gr) (fun t => stp W H num br cp gC t.1 ∧ t.2.1 = s) := by
  have hl := hB.wls
  have hn := hl.2.2.1.1
  obtain ⟨z, e2, q2⟩ := isBroken_m (N := N) hs hl hm hb (by omega)
  unfold m_X10_next
  rw [e2, bd1_some]
  rcases q2 with ⟨rfl, q2⟩ | ⟨rfl, q2⟩
  · rw [if_neg (show ¬ (1 : Int32) = 0 by decide)]
    exact Ev.some ⟨Or.inl ⟨q2, rfl⟩, rfl⟩
  · rw [if_pos rfl]
    refine zl3c0 5 (fun R a b => a = s ∧ 1 ≤ R ∧ ∀ Q, 1 ≤ Q → Q < R → ∀ j, j < (WL W H num).length → ¬ ap W H num (WL W H num) br cp gC Q j) ?_ ?_ N 1 _ _ (by omega) (by omega) ⟨rfl, Nat.le_refl _, fun Q h1 h2 => by omega⟩
    · intro rec R a b hR hP
      unfold m_X10_next_b12
      rw [if_neg (fun z => by have := (kk4_ltI (by omega)).mp z; omega)]
      refine zl3g0 (fun o => Ev o _ ∨ ∃ w1 w2, o = rec (nI (R + 1)) w1 w2 ∧ w1 = s ∧ 1 ≤ R + 1 ∧ ∀ Q, 1 ≤ Q → Q < R + 1 → ∀ j, j < (WL W H num).length → ¬ ap W H num (WL W H num) br cp gC Q j) (WL W H num).length (fun k a b => a = s ∧ ∀ j, j < k → ¬ ap W H num (WL W H num) br cp gC R j) ?_ ?_ N 0 _ _ (by omega) (by omega) ⟨hP.1, fun j hj => by omega⟩
      · intro rec2 k a b hk hQ
        unfold m_X10_next_b19
        obtain ⟨⟨w, w2, w3⟩, e3, q3, q4⟩ := applies_m (N := N) (gr := b) hB hs hm hb hbo hG hk (show 1 ≤ R ∧ R ≤ 4 from ⟨hP.2.1, by omega⟩) hN
        rw [hQ.1, if_neg (show ¬ Mw ≤ nI k by rw [hm.1]; exact nI_ge hk (by omega)), e3, bd3_some]
        replace q4 : w2 = s := q4
        rcases q3 with ⟨q5, q3⟩ | ⟨q5, q3⟩
        · replace q5 : w = 1 := q5
          subst q5
          rw [if_neg (show ¬ (1 : Int32) = 0 by decide)]
          left; left
          unfold m_X10_next_j36
          rw [show (100 : Int32) = nI 100 from rfl, pk_mul, nI_add]
          exact Ev.some ⟨Or.inr (Or.inl ⟨q2, R, k, ⟨hP.2.1, by omega⟩, hk, q3, hQ.2, hP.2.2, rfl⟩), q4⟩
        · replace q5 : w = 0 := q5
          subst q5
          rw [if_pos rfl]
          right
          simp only [lt1, nI_s]
          refine ⟨_, _, rfl, q4, fun j hj => ?_⟩
          rcases Nat.lt_succ_iff_lt_or_eq.mp hj with r | r
          · exact hQ.2 j r
          · rw [r]; exact q3
      · intro rec2 a b hQ
        unfold m_X10_next_b19 m_X10_next_j49
        rw [if_pos (show Mw ≤ nI (WL W H num).length by rw [hm.1]; exact nI_le (Nat.le_refl _) (by omega))]
        simp only [lt1, nI_s]
        refine Or.inr ⟨_, _, rfl, hQ.1, by omega, fun Q h1 h2 j hj => ?_⟩
        rcases Nat.lt_succ_iff_lt_or_eq.mp h2 with r | r
        · exact hP.2.2 Q h1 r j hj
        · rw [r]; exact hQ.2 j hj
    · intro rec a b hP
      unfold m_X10_next_b12
      rw [if_pos (show (4 : Int32) < nI 5 by decide)]
      exact Ev.some ⟨Or.inr (Or.inr ⟨q2, hP.2.2, rfl⟩), hP.1⟩

/-! what a step does -/
theorem Cur.gs {W H : Nat} {num br cp cO iA fi se fC sC st wO s one other : Nat → Int32} {cols rows grade steps Yi Yw Mw : Int32} {cr : Nat → Int64} (h : Cur W H num br cp cols rows grade steps Yi Yw Mw cO iA fi se fC sC st wO s one other cr) (g t : Int32) : Cur W H num br cp cols rows g t Yi Yw Mw cO iA fi se fC sC st wO (upd (upd s 2 g) 3 t) one other cr := by
  obtain ⟨h0, hB, hL, hs, hm, hb, hbo, hX, hg, hst⟩ := h
  refine ⟨h0, hB, hL, ⟨by rw [upd_n (by omega), upd_n (by omega)]; exact hs.1, by rw [upd_n (by omega), upd_n (by omega)]; exact hs.2.1, fun j hj => by rw [upd_n (by omega), upd_n (by omega)]; exact hs.2.2 j hj⟩, hm, fun j hj => by rw [upd_n (by omega), upd_n (by omega), upd_n (by omega), upd_n (by omega)]; exact hb j hj, hbo, hX, by rw [upd_n (by omega), upd_s], upd_s⟩
theorem nI_sub_neg {m S : Nat} (h : m < S) (hS : S ≤ 1000) : nI m - nI S < 0 := by
  rw [Int32.lt_iff_toInt_lt, Int32.toInt_sub, nI_toInt (by omega), nI_toInt (by omega), show (0 : Int32).toInt = 0 from rfl]
  unfold Int.bmod
  simp only []
  split <;> omega
theorem nI_sub_ge {m S : Nat} (hS : S ≤ 1000) (h : ¬ nI m - nI S < 0) : S ≤ m := by
  rcases Nat.lt_or_ge m S with q | q
  · exact absurd (nI_sub_neg q hS) h
  · exact q
theorem nn_nI {W H c : Nat} {num : Nat → Int32} (hB : BD W H num) (hc : c < W * H) : ∃ m, num c = nI m ∧ m < 2 ^ 31 := nI_ex (hB.2.2.1 c (by have := hB.M; omega))
/-- what is known of an island that has not broken the board -/
theorem laI_nb {W H c k : Nat} {num br cp : Nat → Int32} (hB : BD W H num) (hbo : bo (WL W H num).length br cp) (hnb : ¬ brk W H num (WL W H num) br cp) (hc : c < W * H) (hp : 0 < num c) (hk : k < (WL W H num).length) (hck : (gw (WL W H num) k).1 = c ∨ (gw (WL W H num) k).2.1 = c) :
    ∃ m a T, num c = nI m ∧ laI num (WL W H num) br c = nI a ∧ vN br k + a ≤ m ∧ m < 2 ^ 31 ∧ sI (WL W H num) cp c = nI T ∧ m ≤ T ∧ T ≤ 96 ∧ vN cp k ≤ T := by
  have hn := hB.wls.2.2.1.1
  obtain ⟨m, e, hm⟩ := nn_nI hB hc
  have h1 : ¬ (sI (WL W H num) cp c < num c) := fun z => hnb ⟨c, hc, hp, Or.inl z⟩
  have h2 : ¬ (num c - sI (WL W H num) br c < 0) := fun z => hnb ⟨c, hc, hp, Or.inr z⟩
  have b1 := sI_n (fun j hj => (hbo.v hj).1) (l := WL W H num) c
  have b2 := sI_n (fun j hj => (hbo.v hj).2.1) (l := WL W H num) c
  have l1 : sN (WL W H num) (vN br) c ≤ 2 * (WL W H num).length := sN_le (fun j hj => by have := (hbo.v hj).2.2; omega)
  have l2 : sN (WL W H num) (vN cp) c ≤ 2 * (WL W H num).length := sN_le (fun j hj => (hbo.v hj).2.2.2)
  have g1 := sN_ge (f := vN br) hk hck
  have g2 := sN_ge (f := vN cp) hk hck
  rw [e, b1] at h2
  rw [e, b2] at h1
  have h3 := nI_sub_ge (by omega) h2
  refine ⟨m, m - sN (WL W H num) (vN br) c, sN (WL W H num) (vN cp) c, e, ?_, by omega, hm, b2, ?_, by omega, g2⟩
  · unfold laI
    rw [e, b1, pk_sub h3]
  · exact Nat.not_lt.mp (fun z => h1 (nI_lt z hm))
theorem due_nb {W H c k : Nat} {num br cp : Nat → Int32} (hB : BD W H num) (hbo : bo (WL W H num).length br cp) (hnb : ¬ brk W H num (WL W H num) br cp) (hc : c < W * H) (hp : 0 < num c) (hk : k < (WL W H num).length) (hck : (gw (WL W H num) k).1 = c ∨ (gw (WL W H num) k).2.1 = c) (h : ¬ dueI num (WL W H num) cp k c ≤ br k) : ∃ v, dueI num (WL W H num) cp k c = nI v ∧ vN br k < v ∧ v ≤ vN cp k := by
  obtain ⟨m, a, T, e1, e2, e3, e4, e5, e6, e7, e8⟩ := laI_nb hB hbo hnb hc hp hk hck
  obtain ⟨q1, q2, q3, q4⟩ := hbo.v hk
  unfold dueI at h ⊢
  rw [e1, e5, q2, pk_sub e8] at h ⊢
  rcases Nat.lt_or_ge m (T - vN cp k) with r | r
  · exfalso
    apply h
    rw [q1]
    exact Int32.le_trans (Int32.le_of_lt (nI_sub_neg r (by omega))) (kk0_le (Nat.zero_le _) (by omega))
  · rw [pk_sub r] at h ⊢
    rw [q1] at h
    exact ⟨_, rfl, Nat.not_le.mp (fun z => h (nI_le z (by omega))), by omega⟩
theorem makes_144 {R : Nat} {s : Nat → Int32} : m_X10_makes_j144 (nI R) s = some (upd (upd s 2 (mxI (s 2) (nI R))) 3 (s 3 + 1)) := by
  unfold m_X10_makes_j144
  rw [show (2 : Int32) = nI 2 from rfl, rd_nI (by omega) (by omega), greater_mx]
  simp only [lt1]
  rw [wr_nI (by omega) (by omega), show (3 : Int32) = nI 3 from rfl, rd_nI (by omega) (by omega), wr_nI (by omega) (by omega), upd_n (show 3 ≠ 2 by omega)]
theorem carry_ev {N W H : Nat} {num br cp cO iA fi se fC sC st wO s one other un ub uc ul : Nat → Int32} {cols rows grade steps Yi Yw Mw z : Int32} {cr : Nat → Int64} {gC : Nat → Nat} {R k : Nat} (h : Cur W H num br cp cols rows grade steps Yi Yw Mw cO iA fi se fC sC st wO s one other cr) (hS : SU W H num (WL W H num) br cp un ub uc ul) (hnb : ¬ brk W H num (WL W H num) br cp) (hz : stR W H num br cp gC z R k) (hN : 144 < N) :
    ∃ br' cp' s', m_X4_carryOut grade steps br cp fi se un uc ul z = (mxI grade (nI R), steps + 1, br', cp') ∧ m_X10_makes N Mw s one other z = some s' ∧ Cur W H num br' cp' cols rows (mxI grade (nI R)) (steps + 1) Yi Yw Mw cO iA fi se fC sC st wO s' one other cr := by
  obtain ⟨h0, hB, hL, hs, hm, hb, hbo, hX, hg, hst⟩ := id h
  obtain ⟨hR, hk, hap, hj, hQ, rfl⟩ := hz
  have hl := hB.wls
  have hM := hB.M
  have hn := hl.2.2.1.1
  have h4 := hL.2.2.2.1
  have hwk := hl.2.2.2 k hk
  have hp1 : (gw (WL W H num) k).1 < W * H := Nat.lt_trans hwk.1 hwk.2.1
  have hp2 := hwk.2.1
  obtain ⟨q1, q2, q3, q4⟩ := hbo.v hk
  have d1 : nI (100 * R + k) / 100 = nI R := by
    rw [show (100 : Int32) = nI 100 from rfl, pk_div (by omega) (by omega) (by omega)]
    congr 1
    omega
  have d2 : nI (100 * R + k) - nI R * 100 = nI k := by
    rw [show (100 : Int32) = nI 100 from rfl, pk_mul, pk_sub (by omega)]
    congr 1
    omega
  obtain ⟨ma, a, Ta, a1, a2, a3, a4, -⟩ := laI_nb hB hbo hnb hp1 hwk.2.2.1 hk (Or.inl rfl)
  obtain ⟨mb, b, Tb, b1, b2, b3, b4, -⟩ := laI_nb hB hbo hnb hp2 hwk.2.2.2.1 hk (Or.inr rfl)
  have hmn : mnL num (WL W H num) br k = nI (min a b) := by
    unfold mnL
    rw [a2, b2, mn_nI (by omega) (by omega)]
  unfold m_X4_carryOut m_X10_makes
  simp only [lt1]
  rw [d1, d2]
  have hR4 : R = 1 ∨ R = 2 ∨ R = 3 ∨ R = 4 := by omega
  rcases hR4 with rfl | rfl | rfl | rfl
  · rw [if_pos (show nI 1 = 1 from rfl), if_pos (show nI 1 = 1 from rfl), vPut_nI (by omega) (by omega), show (196 : Int32) = nI 196 from rfl, nI_add, wr_nI (by omega) (by omega), makes_144, upd_n (by omega), upd_n (by omega), hg, hst]
    exact ⟨_, _, _, rfl, rfl, (h.cp (k := k) (b := 0) (c := 0) hk hap.1 (by omega) (by omega)).gs _ _⟩
  · rw [if_neg (show ¬ nI 2 = 1 by decide), if_pos (show nI 2 = 2 from rfl), if_neg (show ¬ nI 2 = 1 by decide), if_pos (show nI 2 = 2 from rfl), vAt_nI (by omega) (by omega), show m_X7_lesserLack fi se ul (nI k) = mnL num (WL W H num) br k from lesserLack_nI hB h4 hS hk, vPut_nI (by omega) (by omega), bridges_m hb hn hk, bd1_some,
      rd_nI (by omega) (by omega), (hm.2 k hk).1, lacks_m hs hl hm hb (by omega) (by omega), bd1_some, rd_nI (by omega) (by omega), (hm.2 k hk).2, lacks_m hs hl hm hb (by omega) (by omega), bd1_some, lesser_mn,
      show mnI (num (gw (WL W H num) k).1 - sI (WL W H num) br (gw (WL W H num) k).1) (num (gw (WL W H num) k).2.1 - sI (WL W H num) br (gw (WL W H num) k).2.1) = mnL num (WL W H num) br k from rfl, hmn, q1, nI_add, show (196 : Int32) = nI 196 from rfl, nI_add, wr_nI (by omega) (by omega), makes_144, upd_n (by omega), upd_n (by omega), hg, hst]
    have hap2 : ¬ cp k ≤ br k + mnL num (WL W H num) br k := hap
    rw [hmn, q1, q2, nI_add] at hap2
    have lt : vN br k + min a b < vN cp k := Nat.not_le.mp (fun w => hap2 (nI_le w (by omega)))
    exact ⟨_, _, _, rfl, rfl, (h.cp (k := k) (b := vN br k) (c := vN br k + min a b) hk q1 (by omega) (by omega)).gs _ _⟩
  · rw [if_neg (show ¬ nI 3 = 1 by decide), if_neg (show ¬ nI 3 = 2 by decide), if_pos (show nI 3 = 3 from rfl), if_neg (show ¬ nI 3 = 1 by decide), if_neg (show ¬ nI 3 = 2 by decide), if_pos (show nI 3 = 3 from rfl),
      show m_X7_leastBridges cp fi se un uc (nI k) = mxD num (WL W H num) cp k from leastBridges_nI hB h4 hS hk, vPut_nI (by omega) (by omega), rd_nI (by omega) (by omega), (hm.2 k hk).1, due_m hs hl hm hb (by omega) hk (by omega), bd1_some, rd_nI (by omega) (by omega), (hm.2 k hk).2, due_m hs hl hm hb (by omega) hk (by omega), bd1_some, greater_mx,
      show mxI (dueI num (WL W H num) cp k (gw (WL W H num) k).1) (dueI num (WL W H num) cp k (gw (WL W H num) k).2.1) = mxD num (WL W H num) cp k from rfl, show (148 : Int32) = nI 148 from rfl, nI_add, wr_nI (by omega) (by omega), makes_144, upd_n (by omega), upd_n (by omega), hg, hst]
    have hap3 : ¬ mxD num (WL W H num) cp k ≤ br k := hap
    have hv : ∃ v, mxD num (WL W H num) cp k = nI v ∧ vN br k < v ∧ v ≤ vN cp k := by
      unfold mxD mxI at hap3 ⊢
      by_cases c : dueI num (WL W H num) cp k (gw (WL W H num) k).1 < dueI num (WL W H num) cp k (gw (WL W H num) k).2.1
      · rw [if_pos c] at hap3 ⊢
        exact due_nb hB hbo hnb hp2 hwk.2.2.2.1 hk (Or.inr rfl) hap3
      · rw [if_neg c] at hap3 ⊢
        exact due_nb hB hbo hnb hp1 hwk.2.2.1 hk (Or.inl rfl) hap3
    obtain ⟨v, v1, v2, v3⟩ := hv
    rw [v1]
    refine ⟨_, _, _, rfl, rfl, (h.br (k := k) (b := v) (c := vN cp k) hk q2 v3 q4 (fun _ => ?_)).gs _ _⟩
    rcases Nat.eq_zero_or_pos (vN br k) with r | r
    · intro hx
      refine hQ 1 (by omega) (by omega) k hk ⟨by rw [q1, r]; rfl, by rw [q2]; exact (kk0_ltI (by omega)).mpr (by omega), hx⟩
    · rintro ⟨j, j1, j2, j3⟩
      exact hX k j hk j1 j2 ⟨by rw [q1]; exact (kk0_ltI (by omega)).mpr r, j3⟩
  · rw [if_neg (show ¬ nI 4 = 1 by decide), if_neg (show ¬ nI 4 = 2 by decide), if_neg (show ¬ nI 4 = 3 by decide), if_neg (show ¬ nI 4 = 1 by decide), if_neg (show ¬ nI 4 = 2 by decide), if_neg (show ¬ nI 4 = 3 by decide), vAdd_nI (by omega) (by omega), show (196 : Int32) = nI 196 from rfl, nI_add, rd_nI (by omega) (by omega), wr_nI (by omega) (by omega), makes_144, upd_n (by omega), upd_n (by omega), hg, hst, (hb k hk).2]
    have hap4 : ¬ cp k ≤ br k := hap.1
    rw [q1, q2] at hap4
    have lt : vN br k < vN cp k := Nat.not_le.mp (fun w => hap4 (nI_le w (by omega)))
    rw [show cp k + -1 = nI (vN cp k - 1) by rw [← Int32.sub_eq_add_neg, q2, show (1 : Int32) = nI 1 from rfl, pk_sub (by omega)], show cp k - 1 = nI (vN cp k - 1) by rw [q2, show (1 : Int32) = nI 1 from rfl, pk_sub (by omega)]]
    exact ⟨_, _, _, rfl, rfl, (h.cp (k := k) (b := vN br k) (c := vN cp k - 1) hk q1 (by omega) (by omega)).gs _ _⟩
