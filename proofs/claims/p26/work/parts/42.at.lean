/-! at -/
/-- what is on a cell -/
def atP (W H : Nat) (num br : Nat → Int32) (c : Nat) (z : Int32) : Prop :=
  (0 < num c ∧ z = num c) ∨ (¬ 0 < num c ∧ (∃ k, k < (WL W H num).length ∧ 0 < br k ∧ ov (gw (WL W H num) k) c = true ∧ z = br k + (if (gw (WL W H num) k).2.2 = 1 then 10 else 20))) ∨ (¬ 0 < num c ∧ (∀ k, k < (WL W H num).length → ¬ (0 < br k ∧ ov (gw (WL W H num) k) c = true)) ∧ z = 0)
theorem atP_uniq {W H : Nat} {num br : Nat → Int32} (hB : BD W H num) (hx : NX W (WL W H num) br) {c : Nat} {y z : Int32} (h1 : atP W H num br c y) (h2 : atP W H num br c z) : y = z := by
  rcases h1 with ⟨a, b⟩ | ⟨a, k, hk, b1, b2, b3⟩ | ⟨a, b1, b2⟩
  · rcases h2 with ⟨d, e⟩ | ⟨d, -⟩ | ⟨d, -⟩
    · rw [b, e]
    · exact absurd a d
    · exact absurd a d
  · rcases h2 with ⟨d, e⟩ | ⟨d, j, hj, e1, e2, e3⟩ | ⟨d, e1, e2⟩
    · exact absurd d a
    · have := ov_uniq hB hx hk hj b1 e1 b2 e2
      subst this
      rw [b3, e3]
    · exact absurd ⟨b1, b2⟩ (e1 k hk)
  · rcases h2 with ⟨d, e⟩ | ⟨d, j, hj, e1, e2, e3⟩ | ⟨d, e1, e2⟩
    · exact absurd d a
    · exact absurd ⟨e1, e2⟩ (b1 j hj)
    · rw [b2, e2]
theorem at_c {W H N : Nat} {num br cO iA fi se fC sC st wO : Nat → Int32} {Yi Yw : Int32} {cr : Nat → Int64} (hB : BD W H num) (hL : LO W H num Yi Yw cO iA fi se fC sC st wO cr) {c : Nat} (hc : c < W * H) (hN : 144 < N) : Ev (m_X9_at N (nI W) (nI H) num br Yw fC sC st (nI c)) (atP W H num br c) := by
  have hM := hB.M
  have h4 := hL.2.2.2.1
  have hsm := hB.wls.2.2.1
  unfold m_X9_at
  rw [isCell_c (by omega) hc]
  simp only [lt1]
  rw [if_neg (show ¬ (1 : Int32) = 0 by decide), vAt_nI (show c < 144 by omega) (by omega)]
  by_cases hp : 0 < num c
  · rw [if_neg (Int32.not_le.mpr hp)]
    exact Ev.some (Or.inl ⟨hp, rfl⟩)
  rw [if_pos (Int32.not_lt.mp hp)]
  refine zl1c0 (WL W H num).length (fun i => ∀ k, k < i → ¬ (0 < br k ∧ ov (gw (WL W H num) k) c = true)) ?_ ?_ N 0 (by omega) (by have := hsm.1; omega) (fun k h => by omega)
  · intro rec i hi hP
    have e : m_X9_at_j93 rec (nI i) = rec (nI (i + 1)) := by
      unfold m_X9_at_j93
      simp only [lt1, nI_s]
    have nxt : ¬ (0 < br i ∧ ov (gw (WL W H num) i) c = true) → ∀ k, k < i + 1 → ¬ (0 < br k ∧ ov (gw (WL W H num) k) c = true) := fun hn k hk => by
      rcases Nat.lt_succ_iff_lt_or_eq.mp hk with q | q
      · exact hP k q
      · rw [q]; exact hn
    unfold m_X9_at_b30
    rw [h4.1, if_neg (nI_ge hi (by have := hsm.1; omega)), vAt_nI (by have := hsm.1; omega) (by omega), e]
    simp only [lt1]
    by_cases hb : 0 < br i
    · rw [if_neg (Int32.not_le.mpr hb), isOver_nI h4 hsm hi (by omega), bd1_some]
      cases ho : ov (gw (WL W H num) i) c
      · rw [if_pos bI_f]
        exact Or.inr ⟨rfl, nxt (fun z => by rw [ho] at z; exact absurd z.2 (by decide))⟩
      · rw [if_neg (show ¬ bI true = 0 by decide)]
        left
        unfold m_X9_at_j71 m_X9_at_j89
        rw [alongRow_nI h4 hsm hi]
        simp only [lt1]
        refine Ev.mono (Q := fun z => z = br i + (if (gw (WL W H num) i).2.2 = 1 then 10 else 20)) ?_ (fun z hz => Or.inr (Or.inl ⟨hp, i, hi, hb, ho, hz⟩))
        by_cases hs : (gw (WL W H num) i).2.2 = 1
        · rw [decide_eq_true hs, if_neg (show ¬ bI true = 0 by decide), if_pos hs]
          exact Ev.some (Int32.add_comm _ _)
        · rw [decide_eq_false hs, if_pos (show bI false = 0 by decide), if_neg hs]
          exact Ev.some (Int32.add_comm _ _)
    · rw [if_pos (Int32.not_lt.mp hb)]
      exact Or.inr ⟨rfl, nxt (fun z => hb z.1)⟩
  · intro rec hP
    unfold m_X9_at_b30
    rw [h4.1, if_pos (nI_le (Nat.le_refl _) (by have := hsm.1; omega))]
    exact Ev.some (Or.inr (Or.inr ⟨hp, hP, rfl⟩))
theorem at_m {W H N : Nat} {num s one other br cp : Nat → Int32} {Mw : Int32} (hB : BD W H num) (hs : MS W H num s) (h : mrep (WL W H num) Mw one other) (hb : MB (WL W H num).length br cp s) (hx : NX W (WL W H num) br) {c : Nat} (hc : c < W * H) (hN : 144 < N) : Ev (m_X10_at N Mw s one other (nI c)) (atP W H num br c) := by
  have hM := hB.M
  have hl := hB.wls
  have hsm := hl.2.2.1
  have hW3 := hB.1.1
  unfold m_X10_at
  rw [isCell_m (by omega) hs hc, bd1_some, if_neg (show ¬ (1 : Int32) = 0 by decide), number_m hs (by omega), bd1_some]
  refine zl2c1 (WL W H num).length (fun i v => (0 < num c ∧ v = num c) ∨ (¬ 0 < num c ∧ (∃ k, k < i ∧ 0 < br k ∧ ov (gw (WL W H num) k) c = true ∧ v = br k + (if (gw (WL W H num) k).2.2 = 1 then 10 else 20))) ∨ (¬ 0 < num c ∧ (∀ k, k < i → ¬ (0 < br k ∧ ov (gw (WL W H num) k) c = true)) ∧ v = 0)) ?_ ?_ N 0 _ (by omega) (by have := hsm.1; omega) ?_
  · intro rec i v hi hP
    refine Or.inr ?_
    have e1 : m_X10_at_j47 s one other rec v (nI i) = rec v (nI (i + 1)) := by
      unfold m_X10_at_j47 m_X10_at_j48 m_X10_at_j74 m_X10_at_j94 m_X10_at_j95
      rw [if_pos rfl, if_pos rfl]
      simp only [lt1, nI_s]
    unfold m_X10_at_b18
    rw [h.1, if_neg (nI_ge hi (by have := hsm.1; omega)), bridges_m hb hsm.1 hi, bd1_some]
    have stay : ¬ (0 < br i ∧ ov (gw (WL W H num) i) c = true) → ((0 < num c ∧ v = num c) ∨ (¬ 0 < num c ∧ (∃ k, k < i + 1 ∧ 0 < br k ∧ ov (gw (WL W H num) k) c = true ∧ v = br k + (if (gw (WL W H num) k).2.2 = 1 then 10 else 20))) ∨ (¬ 0 < num c ∧ (∀ k, k < i + 1 → ¬ (0 < br k ∧ ov (gw (WL W H num) k) c = true)) ∧ v = 0)) := by
      intro hn
      rcases hP with q | ⟨q, k, hk, q2⟩ | ⟨q, q2, q3⟩
      · exact Or.inl q
      · exact Or.inr (Or.inl ⟨q, k, by omega, q2⟩)
      · refine Or.inr (Or.inr ⟨q, fun k hk => ?_, q3⟩)
        rcases Nat.lt_succ_iff_lt_or_eq.mp hk with r | r
        · exact q2 k r
        · rw [r]; exact hn
    by_cases hbr : 0 < br i
    · rw [if_neg (Int32.not_le.mpr hbr), between_m hs hl h hi (by omega), bd1_some]
      cases ho : ov (gw (WL W H num) i) c
      · rw [if_pos bI_f, e1]
        exact ⟨v, rfl, stay (fun z => by rw [ho] at z; exact absurd z.2 (by decide))⟩
      · rw [if_neg (show ¬ bI true = 0 by decide)]
        have hnp := ov_isl hW3 (hl.2.2.2 i hi) ho
        have hv : v = 0 := by
          rcases hP with q | ⟨q, k, hk, q2, q3, q4⟩ | ⟨q, q2, q3⟩
          · exact absurd q.1 hnp
          · have := ov_uniq hB hx (show k < _ by omega) hi q2 hbr q3 ho
            omega
          · exact q3
        unfold m_X10_at_j48
        rw [if_neg (show ¬ (1 : Int32) = 0 by decide), across_m hs hl h hi, bd1_some]
        by_cases hst : (gw (WL W H num) i).2.2 = 1
        · rw [decide_eq_true hst, if_neg (show ¬ bI true = 0 by decide), bridges_m hb hsm.1 hi, bd1_some]
          unfold m_X10_at_j95
          simp only [lt1, nI_s]
          exact ⟨_, rfl, Or.inr (Or.inl ⟨hnp, i, by omega, hbr, ho, by rw [if_pos hst]; exact Int32.add_comm _ _⟩)⟩
        · rw [decide_eq_false hst, if_pos (show bI false = 0 by decide)]
          unfold m_X10_at_j74
          rw [if_neg (show ¬ (1 : Int32) = 0 by decide), if_pos hv, bridges_m hb hsm.1 hi, bd1_some]
          unfold m_X10_at_j95
          simp only [lt1, nI_s]
          exact ⟨_, rfl, Or.inr (Or.inl ⟨hnp, i, by omega, hbr, ho, by rw [if_neg hst]; exact Int32.add_comm _ _⟩)⟩
    · rw [if_pos (Int32.not_lt.mp hbr), e1]
      exact ⟨v, rfl, stay (fun z => hbr z.1)⟩
  · intro rec v hP
    unfold m_X10_at_b18
    rw [h.1, if_pos (nI_le (Nat.le_refl _) (by have := hsm.1; omega))]
    exact Ev.some hP
  · by_cases hp : 0 < num c
    · exact Or.inl ⟨hp, rfl⟩
    · exact Or.inr (Or.inr ⟨hp, fun k hk => by omega, np_z hB.2.2.1 (by omega) hp⟩)
theorem sim_at {W H N : Nat} {num br cp cO iA fi se fC sC st wO s one other : Nat → Int32} {cols rows grade steps Yi Yw Mw : Int32} {cr : Nat → Int64} (h : Cur W H num br cp cols rows grade steps Yi Yw Mw cO iA fi se fC sC st wO s one other cr) (x : Int32) (hN : 144 < N) : ∃ r, m_X9_at N cols rows num br Yw fC sC st x = some r ∧ m_X10_at N Mw s one other x = some r := by
  obtain ⟨⟨rfl, rfl⟩, hB, hL, hs, hm, hb, hbo, hx, hg, hst⟩ := h
  have hM := hB.M
  rcases cell_or (show W * H < 2 ^ 31 by omega) x with ⟨c, hc, rfl⟩ | ho
  · obtain ⟨y, e1, q1⟩ := at_c (br := br) hB hL hc hN
    obtain ⟨z, e2, q2⟩ := at_m hB hs hm hb hx hc hN
    have := atP_uniq hB hx q1 q2
    subst this
    exact ⟨y, e1, e2⟩
  · refine ⟨-1, ?_, ?_⟩
    · unfold m_X9_at
      rw [isCell_c0 ho]; rfl
    · unfold m_X10_at
      rw [isCell_m0 (by omega) hs ho, bd1_some]; rfl
