/-! the class's sums -/
def BD (W H : Nat) (num : Nat → Int32) : Prop := (3 ≤ W ∧ W ≤ 12) ∧ (3 ≤ H ∧ H ≤ 12) ∧ nn num ∧ (∀ c, W * H ≤ c → c < 144 → num c = 0) ∧ rk num (W * H) ≤ 24
theorem BD.M {W H : Nat} {num : Nat → Int32} (h : BD W H num) : W * H ≤ 144 := Nat.mul_le_mul h.1.2 h.2.1.2
theorem BD.wls {W H : Nat} {num : Nat → Int32} (h : BD W H num) : WLs W H num (WL W H num) := WL_s h.1 h.2.1 h.2.2.2.2
theorem BD.r {W H : Nat} {num : Nat → Int32} (h : BD W H num) {c : Nat} (hc : c < W * H) (hp : 0 < num c) : rk num c < 24 := Nat.lt_of_lt_of_le (rk_lt hp hc) h.2.2.2.2
def SU (W H : Nat) (num : Nat → Int32) (l : List Wy) (br cp un ub uc ul : Nat → Int32) : Prop := ∀ c, c < W * H → 0 < num c → un (rk num c) = num c ∧ ub (rk num c) = sI l br c ∧ uc (rk num c) = sI l cp c ∧ ul (rk num c) = num c - sI l br c
theorem vAdd2 {num f : Nat → Int32} {a b c : Nat} {x : Int32} (ha : 0 < num a) (hb : 0 < num b) (hc : 0 < num c) (hab : a ≠ b) : upd (upd f (rk num a) (f (rk num a) + x)) (rk num b) (upd f (rk num a) (f (rk num a) + x) (rk num b) + x) (rk num c) = f (rk num c) + (if a = c ∨ b = c then x else 0) := by
  have hr : rk num a ≠ rk num b := fun e => hab (rk_inj ha hb e)
  by_cases e1 : a = c
  · subst e1
    rw [if_pos (Or.inl rfl), upd_n hr, upd_s]
  · by_cases e2 : b = c
    · subst e2
      rw [if_pos (Or.inr rfl), upd_s, upd_n (fun z => hr z.symm)]
    · rw [if_neg (by rintro (z | z) <;> contradiction), upd_n (fun z => e2 (rk_inj hc hb z).symm), upd_n (fun z => e1 (rk_inj hc ha z).symm), Int32.add_zero]
theorem sums_ev {W H N : Nat} {num br cp cO iA fi se fC sC st wO un ub uc ul : Nat → Int32} {Yi Yw : Int32} {cr : Nat → Int64} (hB : BD W H num) (hL : LO W H num Yi Yw cO iA fi se fC sC st wO cr) (hN : 144 < N) : Ev (m_X7_read N num br cp Yi Yw cO fi se un ub uc ul) (fun t => SU W H num (WL W H num) br cp t.1 t.2.1 t.2.2.1 t.2.2.2) := by
  obtain ⟨h1, h2, h3, h4, h5, h6⟩ := hL
  have hM := hB.M
  have hwl := hB.wls
  have h48 := hwl.2.2.1.1
  have h24 := hB.2.2.2.2
  have hYw := h4.1
  subst h1
  subst hYw
  unfold m_X7_read
  refine zl3c0 24 (fun i y3 y4 => ∀ j, j < i → y3 j = 0 ∧ y4 j = 0) ?_ ?_ N 0 _ _ (by omega) (by omega) (fun j h => by omega)
  · intro rec i y3 y4 hi hP
    refine Or.inr ⟨upd y3 i 0, upd y4 i 0, ?_, fun j hj => ?_⟩
    · unfold m_X7_read_b2
      rw [if_neg (kk24_ge hi)]
      simp only [lt1, nI_s]
      rw [vPut_nI hi (by omega), vPut_nI hi (by omega)]
    · rcases Nat.lt_or_ge j i with q | q
      · rw [upd_n (by omega), upd_n (by omega)]; exact hP j q
      · have : j = i := by omega
        subst this; rw [upd_s, upd_s]; exact ⟨rfl, rfl⟩
  · intro rec y3 y4 hP
    unfold m_X7_read_b2
    rw [if_pos (kk24_le (Nat.le_refl _) (by omega))]
    unfold m_X7_read_j32
    refine zl3c0 (WL W H num).length (fun k y5 y6 => ∀ c, c < W * H → 0 < num c → y5 (rk num c) = iS (fun k => if (gw (WL W H num) k).1 = c ∨ (gw (WL W H num) k).2.1 = c then br k else 0) k ∧ y6 (rk num c) = iS (fun k => if (gw (WL W H num) k).1 = c ∨ (gw (WL W H num) k).2.1 = c then cp k else 0) k) ?_ ?_ N 0 _ _ (by omega) (by omega) (fun c hc hp => hP _ (hB.r hc hp))
    · intro rec2 k y5 y6 hk hP2
      obtain ⟨g1, g2, g3, g4, -⟩ := hwl.2.2.2 k hk
      obtain ⟨f1, f2, -⟩ := h4.2 k hk
      have hr1 := hB.r (Nat.lt_trans g1 g2) g3
      have hr2 := hB.r g2 g4
      refine Or.inr ⟨(upd (upd y5 (rk num (gw (WL W H num) k).1) (y5 (rk num (gw (WL W H num) k).1) + br k)) (rk num (gw (WL W H num) k).2.1) (upd y5 (rk num (gw (WL W H num) k).1) (y5 (rk num (gw (WL W H num) k).1) + br k) (rk num (gw (WL W H num) k).2.1) + br k)), (upd (upd y6 (rk num (gw (WL W H num) k).1) (y6 (rk num (gw (WL W H num) k).1) + cp k)) (rk num (gw (WL W H num) k).2.1) (upd y6 (rk num (gw (WL W H num) k).1) (y6 (rk num (gw (WL W H num) k).1) + cp k) (rk num (gw (WL W H num) k).2.1) + cp k)), ?_, fun c hc hp => ?_⟩
      · unfold m_X7_read_b34
        rw [if_neg (nI_ge hk (by omega))]
        simp only [lt1, lt2, m_X2_first, m_X2_second, m_X7_addWay]
        simp only [vAt_nI (show k < 48 by omega) (by omega), f1, f2, vAdd_nI hr1 (by omega), vAdd_nI hr2 (by omega), nI_s]
      · obtain ⟨q1, q2⟩ := hP2 c hc hp
        refine ⟨?_, ?_⟩
        · rw [vAdd2 g3 g4 hp (Nat.ne_of_lt g1), q1]; rfl
        · rw [vAdd2 g3 g4 hp (Nat.ne_of_lt g1), q2]; rfl
    · intro rec2 y5 y6 hP2
      unfold m_X7_read_b34
      rw [if_pos (nI_le (Nat.le_refl _) (by omega))]
      unfold m_X7_read_j77
      refine zl3c0 (rk num (W * H)) (fun i y7 y8 => ∀ c, c < W * H → 0 < num c → rk num c < i → y7 (rk num c) = num c ∧ y8 (rk num c) = num c - y5 (rk num c)) ?_ ?_ N 0 _ _ (by omega) (by have := hB.2.2.2.2; omega) (fun c _ _ h => absurd h (Nat.not_lt_zero _))
      · intro rec3 i y7 y8 hi hP3
        obtain ⟨c0, hc0, hp0, hr0⟩ := rk_ex hi
        subst hr0
        have hr := hB.r hc0 hp0
        refine Or.inr ⟨upd y7 (rk num c0) (num c0), upd y8 (rk num c0) (num c0 - y5 (rk num c0)), ?_, fun c hc hp hlt => ?_⟩
        · unfold m_X7_read_b79
          rw [if_neg (nI_ge hi (by omega))]
          simp only [lt1, m_X2_cellOf]
          rw [vAt_nI hr (by omega), h2 c0 hc0 hp0, vAt_nI (show c0 < 144 by omega) (by omega), vAt_nI hr (by omega), vPut_nI hr (by omega), vPut_nI hr (by omega), nI_s]
        · rcases Nat.lt_or_ge (rk num c) (rk num c0) with q | q
          · rw [upd_n (by omega), upd_n (by omega)]; exact hP3 c hc hp q
          · have : c = c0 := rk_inj hp hp0 (by omega)
            subst this
            rw [upd_s, upd_s]; exact ⟨rfl, rfl⟩
      · intro rec3 y7 y8 hP3
        unfold m_X7_read_b79
        rw [if_pos (nI_le (Nat.le_refl _) (by have := hB.2.2.2.2; omega))]
        refine Ev.some (fun c hc hp => ?_)
        obtain ⟨q1, q2⟩ := hP2 c hc hp
        obtain ⟨q3, q4⟩ := hP3 c hc hp (rk_lt hp hc)
        exact ⟨q3, q1, q2, q4.trans (by rw [q1]; rfl)⟩
/-- is some island out of reach, or over its number -/
def brk (W H : Nat) (num : Nat → Int32) (l : List Wy) (br cp : Nat → Int32) : Prop := ∃ c, c < W * H ∧ 0 < num c ∧ (sI l cp c < num c ∨ num c - sI l br c < 0)
theorem areBroken_ev {W H N : Nat} {num br cp un ub uc ul : Nat → Int32} {l : List Wy} (hB : BD W H num) (hS : SU W H num l br cp un ub uc ul) (hN : 144 < N) : Ev (m_X7_areBroken N (nI (rk num (W * H))) un uc ul) (fun z => (z = 1 ∧ brk W H num l br cp) ∨ (z = 0 ∧ ¬ brk W H num l br cp)) := by
  have hM := hB.M
  have h24 := hB.2.2.2.2
  unfold m_X7_areBroken
  refine zl1c0 (rk num (W * H)) (fun i => ∀ c, c < W * H → 0 < num c → rk num c < i → ¬ (sI l cp c < num c ∨ num c - sI l br c < 0)) ?_ ?_ N 0 (by omega) (by omega) (fun c _ _ h => absurd h (Nat.not_lt_zero _))
  · intro rec i hi hP
    obtain ⟨c0, hc0, hp0, hr0⟩ := rk_ex hi
    subst hr0
    have hr := hB.r hc0 hp0
    obtain ⟨q1, q2, q3, q4⟩ := hS c0 hc0 hp0
    unfold m_X7_areBroken_b2
    rw [if_neg (nI_ge hi (by omega))]
    simp only [lt1]
    rw [vAt_nI hr (by omega), vAt_nI hr (by omega), vAt_nI hr (by omega), q1, q3, q4]
    by_cases c1 : sI l cp c0 < num c0
    · rw [if_pos c1]
      exact Or.inl (Ev.some (Or.inl ⟨rfl, c0, hc0, hp0, Or.inl c1⟩))
    · rw [if_neg c1]
      by_cases c2 : 0 ≤ num c0 - sI l br c0
      · rw [if_pos c2, nI_s]
        refine Or.inr ⟨rfl, fun c hc hp hlt => ?_⟩
        rcases Nat.lt_or_ge (rk num c) (rk num c0) with q | q
        · exact hP c hc hp q
        · have : c = c0 := rk_inj hp hp0 (by omega)
          subst this
          rintro (z | z)
          · exact c1 z
          · exact absurd z (Int32.not_lt.mpr c2)
      · rw [if_neg c2]
        exact Or.inl (Ev.some (Or.inl ⟨rfl, c0, hc0, hp0, Or.inr (Int32.not_le.mp c2)⟩))
  · intro rec hP
    unfold m_X7_areBroken_b2
    rw [if_pos (nI_le (Nat.le_refl _) (by omega))]
    refine Ev.some (Or.inr ⟨rfl, ?_⟩)
    rintro ⟨c, hc, hp, h⟩
    exact hP c hc hp (rk_lt hp hc) h
theorem lesserLack_nI {W H : Nat} {num br cp fi se fC sC st un ub uc ul : Nat → Int32} {Yw : Int32} (hB : BD W H num) (h4 : wrep num (WL W H num) Yw fi se fC sC st) (hS : SU W H num (WL W H num) br cp un ub uc ul) {k : Nat} (hk : k < (WL W H num).length) : m_X7_lesserLack fi se ul (nI k) = mnI (num (gw (WL W H num) k).1 - sI (WL W H num) br (gw (WL W H num) k).1) (num (gw (WL W H num) k).2.1 - sI (WL W H num) br (gw (WL W H num) k).2.1) := by
  have h48 := hB.wls.2.2.1.1
  obtain ⟨g1, g2, g3, g4, -⟩ := hB.wls.2.2.2 k hk
  obtain ⟨f1, f2, -⟩ := h4.2 k hk
  unfold m_X7_lesserLack
  simp only [lt1, m_X2_first, m_X2_second]
  rw [vAt_nI (show k < 48 by omega) (by omega), vAt_nI (show k < 48 by omega) (by omega), f1, f2, vAt_nI (hB.r (Nat.lt_trans g1 g2) g3) (by omega), vAt_nI (hB.r g2 g4) (by omega), (hS _ (Nat.lt_trans g1 g2) g3).2.2.2, (hS _ g2 g4).2.2.2]
/-- what the other ways of an island leave to one -/
def dueI (num : Nat → Int32) (l : List Wy) (cp : Nat → Int32) (k c : Nat) : Int32 := num c - (sI l cp c - cp k)
theorem leastBridges_nI {W H : Nat} {num br cp fi se fC sC st un ub uc ul : Nat → Int32} {Yw : Int32} (hB : BD W H num) (h4 : wrep num (WL W H num) Yw fi se fC sC st) (hS : SU W H num (WL W H num) br cp un ub uc ul) {k : Nat} (hk : k < (WL W H num).length) : m_X7_leastBridges cp fi se un uc (nI k) = mxI (dueI num (WL W H num) cp k (gw (WL W H num) k).1) (dueI num (WL W H num) cp k (gw (WL W H num) k).2.1) := by
  have h48 := hB.wls.2.2.1.1
  obtain ⟨g1, g2, g3, g4, -⟩ := hB.wls.2.2.2 k hk
  obtain ⟨f1, f2, -⟩ := h4.2 k hk
  obtain ⟨a1, -, a3, -⟩ := hS _ (Nat.lt_trans g1 g2) g3
  obtain ⟨b1, -, b3, -⟩ := hS _ g2 g4
  have r1 := hB.r (Nat.lt_trans g1 g2) g3
  have r2 := hB.r g2 g4
  unfold m_X7_leastBridges
  simp only [lt1, m_X2_first, m_X2_second, m_X7_leastBridgesFor]
  simp only [vAt_nI (show k < 48 by omega) (by omega), f1, f2, vAt_nI r1 (by omega), vAt_nI r2 (by omega), a1, a3, b1, b3]
  rfl
/-- which ways have bridges, as a mask; those that cross one and have bridges -/
def bm (br : Nat → Int32) (j : Nat) : Bool := decide (0 < br j)
theorem waysWith_nI {N n : Nat} {br : Nat → Int32} (hn : n ≤ 48) (hN : 144 < N) : m_X2_waysWith N (nI n) br = some (lN (msk (bm br) n)) := by
  unfold m_X2_waysWith
  refine zl2g1 (fun o => o = some (lN (msk (bm br) n))) n (fun i v => v = lN (msk (bm br) i)) ?_ ?_ N 0 _ (by omega) (by omega) rfl
  · intro rec i v hi hv
    refine Or.inr ⟨_, ?_, rfl⟩
    unfold m_X2_waysWith_b5
    rw [if_neg (nI_ge hi (by omega))]
    simp only [lt1]
    rw [vAt_nI (show i < 48 by omega) (by omega), hv]
    show _ = rec (lN (if bm br i then _ else _)) _
    by_cases c : 0 < br i
    · rw [if_neg (fun z => absurd c (Int32.not_lt.mpr z)), if_pos (show bm br i = true from decide_eq_true c)]
      unfold m_X2_waysWith_j30
      simp only [lt1, nI_s]
      rw [shl_nI i (by omega), lN_or]
    · rw [if_pos (Int32.not_lt.mp c), if_neg (by rw [show bm br i = false from decide_eq_false c]; decide)]
      unfold m_X2_waysWith_j30
      simp only [lt1, nI_s]
  · intro rec v hv
    unfold m_X2_waysWith_b5
    rw [if_pos (nI_le (Nat.le_refl _) (by omega)), hv]; rfl
theorem crossingsOf_nI {cr : Nat → Int64} {k : Nat} (hk : k < 48) : m_X2_crossingsOf cr (nI k) = some (cr k) := by
  unfold m_X2_crossingsOf
  rw [if_neg (nI_pos (by omega)), if_neg (kk48_ge hk), rdL_nI hk (by omega)]
theorem msk_and (p q : Nat → Bool) (n : Nat) : msk p n &&& msk q n = msk (fun j => p j && q j) n := by
  apply Nat.eq_of_testBit_eq
  intro j
  rw [Nat.testBit_and, msk_bit, msk_bit, msk_bit]
  cases decide (j < n) <;> cases p j <;> cases q j <;> rfl
theorem msk_0 {p : Nat → Bool} {n : Nat} : msk p n = 0 ↔ ∀ j, j < n → p j = false := by
  constructor
  · intro h j hj
    have := msk_bit p j n
    rw [h, Nat.zero_testBit, decide_eq_true hj, Bool.true_and] at this
    exact this.symm
  · intro h
    apply Nat.eq_of_testBit_eq
    intro j
    rw [msk_bit, Nat.zero_testBit]
    by_cases hj : j < n
    · rw [h j hj, Bool.and_false]
    · rw [decide_eq_false hj, Bool.false_and]
theorem lg0 {m : Nat} (h : m < 2 ^ 63) : lg_cmp (lN m) 0 = 0 ↔ m = 0 := by
  unfold lg_cmp
  constructor
  · intro e
    by_cases c1 : lN m > 0
    · rw [if_pos c1] at e; exact absurd e (by decide)
    · rw [if_neg c1] at e
      by_cases c2 : lN m = 0
      · exact (pk_lEQ (b := 0) h (by omega)).mp c2
      · rw [if_neg c2] at e; exact absurd e (by decide)
  · intro e
    subst e
    rfl
/-- some way with bridges crosses it -/
def hX (W : Nat) (l : List Wy) (br : Nat → Int32) (k : Nat) : Prop := ∃ j, j < l.length ∧ crs W (gw l k) (gw l j) = true ∧ 0 < br j
theorem hX_m {W : Nat} {l : List Wy} {br : Nat → Int32} {k : Nat} (hl : l.length ≤ 48) : lg_cmp (lN (msk (fun j => crs W (gw l k) (gw l j)) l.length) &&& lN (msk (bm br) l.length)) 0 = 0 ↔ ¬ hX W l br k := by
  rw [lN_and, msk_and, lg0 (Nat.lt_of_lt_of_le (msk_lt _ _) (Nat.pow_le_pow_right (by omega) (by omega))), msk_0]
  constructor
  · rintro h ⟨j, h1, h2, h3⟩
    have := h j h1
    rw [h2, show bm br j = true from decide_eq_true h3] at this
    cases this
  · intro h j hj
    cases e1 : crs W (gw l k) (gw l j) with
    | false => rfl
    | true =>
      cases e2 : bm br j with
      | false => rfl
      | true => exact absurd ⟨j, hj, e1, of_decide_eq_true e2⟩ h
/-- a count of Int32 ones -/
theorem iS_pos {p : Nat → Prop} [DecidablePred p] : ∀ {n : Nat}, n < 2 ^ 31 → ∃ m, m ≤ n ∧ iS (fun j => if p j then 1 else 0) n = nI m ∧ (m = 0 ↔ ∀ j, j < n → ¬ p j) := by
  intro n
  induction n with
  | zero => intro _; exact ⟨0, Nat.le_refl _, rfl, ⟨fun _ j h => absurd h (Nat.not_lt_zero _), fun _ => rfl⟩⟩
  | succ n ih =>
    intro h
    obtain ⟨m, h1, h2, h3⟩ := ih (by omega)
    by_cases c : p n
    · refine ⟨m + 1, by omega, ?_, ⟨fun e => by omega, fun e => absurd c (e n (by omega))⟩⟩
      show iS _ n + (if p n then 1 else 0) = _
      rw [h2, if_pos c, nI_s]
    · refine ⟨m, by omega, ?_, ⟨fun e j hj => ?_, fun e => h3.mpr (fun j hj => e j (by omega))⟩⟩
      · show iS _ n + (if p n then 1 else 0) = _
        rw [h2, if_neg c, Int32.add_zero]
      · rcases Nat.lt_or_ge j n with q | q
        · exact h3.mp e j q
        · have : j = n := by omega
          subst this; exact c
theorem xI_pos {W : Nat} {l : List Wy} {br : Nat → Int32} {k : Nat} (hl : l.length ≤ 48) : 0 < xI W l br k true ↔ hX W l br k := by
  obtain ⟨m, h1, h2, h3⟩ := iS_pos (p := fun j => crs W (gw l k) (gw l j) = true ∧ (true = true → 0 < br j)) (n := l.length) (by omega)
  unfold xI
  rw [h2, kk0_ltI (by omega)]
  constructor
  · intro h
    by_cases c : hX W l br k
    · exact c
    · have : m = 0 := h3.mpr (fun j hj z => c ⟨j, hj, z.1, z.2 rfl⟩)
      omega
  · rintro ⟨j, g1, g2, g3⟩
    rcases Nat.eq_zero_or_pos m with q | q
    · exact absurd ⟨g2, fun _ => g3⟩ (h3.mp q j g1)
    · exact q
