/-! type, clearText, fault, load -/
def TX (tl : Int32) (ch tx : Nat → Int32) : Prop := ∃ t, t ≤ 160 ∧ tl = nI t ∧ ∀ i, i < t → ch i = tx i ∧ ∃ c, 32 ≤ c ∧ c ≤ 126 ∧ ch i = nI c
theorem nar_nI : ∀ c, c < 127 → vp_nar .byte (nI c).toInt8.toInt32 = nI c := by decide +kernel
theorem sim_type {tl : Int32} {ch tx : Nat → Int32} (h : TX tl ch tx) (x : Int32) : ∃ r tl' ch' tx', m_X9_type tl ch x = (r, tl', ch') ∧ m_X10_type tl tx x = some (r, tl', tx') ∧ TX tl' ch' tx' := by
  obtain ⟨t, ht, rfl, hc⟩ := id h
  unfold m_X9_type m_X10_type
  rcases in_rng (lo := 32) (hi := 126) (by omega) (by omega) x with ⟨e, hy⟩ | ⟨e, y1, y2, d, d1, d2, rfl⟩
  · rw [show m_X10_in x 32 126 = 0 from e]
    by_cases hy1 : x < 32
    · rw [if_pos hy1]
      exact ⟨_, _, _, _, rfl, rfl, h⟩
    · rw [if_neg hy1, if_neg (show ¬ x ≤ 126 from fun z => by rcases hy with q | q; exact hy1 q; exact q z)]
      exact ⟨_, _, _, _, rfl, rfl, h⟩
  · rw [show m_X10_in (nI d) 32 126 = 1 from e, if_neg (show ¬ nI d < 32 from y1), if_pos (show nI d ≤ 126 from y2)]
    simp only [lt1]
    rw [if_neg (show ¬ (1 : Int32) = 0 by decide)]
    by_cases c : t < 160
    · rw [if_pos (show nI t < 160 from nI_lt (b := 160) c (by omega)), if_neg (show ¬ nI t = 160 from fun z => by have := nI_i (b := 160) (by omega) (by omega) z; omega)]
      unfold m_X8_append
      rw [vPut_nI c (by omega), wr_nI c (by omega), nar_nI d (by omega)]
      simp only [lt1, lt2, nI_s]
      refine ⟨_, _, _, _, rfl, rfl, t + 1, by omega, rfl, fun i hi => ?_⟩
      by_cases e1 : i = t
      · subst e1
        rw [upd_s, upd_s]
        exact ⟨rfl, d, d1, d2, rfl⟩
      · rw [upd_n e1, upd_n e1]
        exact hc i (by omega)
    · have : t = 160 := by omega
      subst this
      rw [if_neg (show ¬ nI 160 < 160 by decide), if_pos (show nI 160 = 160 from rfl)]
      exact ⟨_, _, _, _, rfl, rfl, h⟩
theorem sim_clearText {tl : Int32} {ch tx : Nat → Int32} (h : TX tl ch tx) : ∃ r tl', m_X9_clearText tl = (r, tl') ∧ m_X10_clearText tl = (r, tl') ∧ TX tl' ch tx :=
  ⟨_, _, rfl, rfl, 0, by omega, rfl, fun i hi => by omega⟩
/-! the reading of a text -/
def inv (Q C I S : Nat) : Prop := Q ≤ 11 ∧ (Q = 0 → C = 0 ∧ I ≤ 12) ∧ (1 ≤ Q → 3 ≤ C ∧ C ≤ 12 ∧ I ≤ C) ∧ S ≤ 24
def okc (c : Nat) : Prop := c = 47 ∨ c = 46 ∨ (49 ≤ c ∧ c ≤ 56)
theorem dig_1 {c : Nat} (h : 49 ≤ c) (h2 : c ≤ 56) : m_X8_isDigit (nI c) = 1 := by
  unfold m_X8_isDigit
  rw [if_neg (show ¬ nI c < 49 from nI_nlt (b := 49) h (by omega)), if_neg (show ¬ 56 < nI c from nI_nlt (a := 56) (b := c) h2 (by omega))]
theorem dig_0 {c : Nat} (hc : c < 2 ^ 31) (h : ¬ (49 ≤ c ∧ c ≤ 56)) : m_X8_isDigit (nI c) = 0 := by
  unfold m_X8_isDigit
  by_cases c1 : c < 49
  · rw [if_pos (show nI c < 49 from nI_lt (b := 49) c1 (by omega))]
  · rw [if_neg (show ¬ nI c < 49 from nI_nlt (b := 49) (by omega) hc), if_pos (show (56 : Int32) < nI c from nI_lt (a := 56) (by omega) hc)]
theorem dig_in (x : Int32) : m_X10_in x 49 56 = m_X8_isDigit x := rfl
theorem nI_ne {a b : Nat} (ha : a < 2 ^ 31) (hb : b < 2 ^ 31) (h : a ≠ b) : ¬ nI a = nI b := fun z => h (nI_i ha hb z)
theorem reads_0 {Q C I S c : Nat} (hQ : Q ≤ 11) : m_X10_reads (nI (Q + 1)) (nI C) (nI I) (nI S) (nI c) = m_X10_reads_j13 (nI c) (nI (Q + 1)) (nI C) (nI I) (nI S) (if Q = 0 then 1 else 0) := by
  unfold m_X10_reads
  by_cases h : Q = 0
  · subst h; rw [if_pos (show nI (0 + 1) = 1 from rfl), if_pos rfl]
  · rw [if_neg (show ¬ nI (Q + 1) = 1 from nI_ne (b := 1) (by omega) (by omega) (by omega)), if_neg h]
theorem rd_both {Q C I S c : Nat} (h : inv Q C I S) (hc : c < 2 ^ 31) :
    (∃ Q' C' I' S', m_X8_reasonAgainstNext (nI C) (nI (Q + 1)) (nI I) (nI S) (nI c) = 0 ∧ m_X8_readNext (nI C) (nI (Q + 1)) (nI I) (nI S) (nI c) = (nI C', nI (Q' + 1), nI I', nI S') ∧ m_X10_reads (nI (Q + 1)) (nI C) (nI I) (nI S) (nI c) = (0, nI (Q' + 1), nI C', nI I', nI S') ∧ inv Q' C' I' S' ∧ okc c ∧ Q' * C' + I' = Q * C + I + (if c = 47 then 0 else 1) ∧ S' = S + (if 49 ≤ c then 1 else 0)) ∨
    ∃ w, w ≠ 0 ∧ m_X8_reasonAgainstNext (nI C) (nI (Q + 1)) (nI I) (nI S) (nI c) = w ∧ m_X10_reads (nI (Q + 1)) (nI C) (nI I) (nI S) (nI c) = (w, nI (Q + 1), nI C, nI I, nI S) := by
  obtain ⟨h1, h2, h3, h4⟩ := h
  have hI : I ≤ 12 := by
    rcases Nat.eq_zero_or_pos Q with q | q
    · exact (h2 q).2
    · have := h3 q; omega
  have hC : C ≤ 12 := by
    rcases Nat.eq_zero_or_pos Q with q | q
    · have := (h2 q).1; omega
    · exact (h3 q).2.1
  rw [reads_0 h1]
  unfold m_X8_reasonAgainstNext m_X10_reads_j13
  by_cases c1 : c = 47
  · subst c1
    rw [if_pos (show nI 47 = 47 from rfl), if_pos (show nI 47 = 47 from rfl)]
    have key : ∀ L, L ≤ 12 → (Q = 0 → L = 3) → (1 ≤ Q → L = C) → ((∃ Q' C' I' S', m_X8_reasonAgainstNext_j26 (nI (Q + 1)) (nI I) (nI L) = 0 ∧ m_X8_readNext (nI C) (nI (Q + 1)) (nI I) (nI S) (nI 47) = (nI C', nI (Q' + 1), nI I', nI S') ∧ (if nI L ≤ nI I then m_X10_reads_j48 (nI (Q + 1)) (nI C) (nI I) (nI S) else (2, nI (Q + 1), nI C, nI I, nI S)) = (0, nI (Q' + 1), nI C', nI I', nI S') ∧ inv Q' C' I' S' ∧ okc 47 ∧ Q' * C' + I' = Q * C + I + (if 47 = 47 then 0 else 1) ∧ S' = S + (if 49 ≤ 47 then 1 else 0)) ∨
    ∃ w, w ≠ 0 ∧ m_X8_reasonAgainstNext_j26 (nI (Q + 1)) (nI I) (nI L) = w ∧ (if nI L ≤ nI I then m_X10_reads_j48 (nI (Q + 1)) (nI C) (nI I) (nI S) else (2, nI (Q + 1), nI C, nI I, nI S)) = (w, nI (Q + 1), nI C, nI I, nI S)) := by
      intro L hL l0 l1
      unfold m_X8_reasonAgainstNext_j26
      by_cases c2 : L ≤ I
      · rw [if_pos (nI_le c2 (by omega)), if_pos (nI_le c2 (by omega))]
        unfold m_X10_reads_j48
        by_cases c3 : Q = 11
        · subst c3
          rw [if_neg (show ¬ nI (11 + 1) < 12 by decide), if_pos (show nI (11 + 1) = 12 from rfl)]
          exact Or.inr ⟨3, by decide, rfl, rfl⟩
        · rw [if_pos (show nI (Q + 1) < 12 from nI_lt (b := 12) (by omega) (by omega)), if_neg (show ¬ nI (Q + 1) = 12 from nI_ne (b := 12) (by omega) (by omega) (by omega))]
          left
          simp only [lt1, nI_s]
          have hCI : (if Q = 0 then I else C) = I := by
            by_cases q : Q = 0
            · rw [if_pos q]
            · rw [if_neg q]; have := l1 (by omega); have := h3 (by omega); omega
          have er : m_X8_readNext (nI C) (nI (Q + 1)) (nI I) (nI S) (nI 47) = (nI I, nI (Q + 1 + 1), 0, nI S) := by
            unfold m_X8_readNext m_X8_readNext_j26
            rw [if_pos (show nI 47 = 47 from rfl)]
            simp only [lt1, nI_s]
            by_cases q : Q = 0
            · subst q; rw [if_pos (show nI (0 + 1) = 1 from rfl)]
            · rw [if_neg (show ¬ nI (Q + 1) = 1 from nI_ne (b := 1) (by omega) (by omega) (by omega))]
              rw [if_neg q] at hCI
              rw [hCI]
          have l3 : 3 ≤ I := by
            by_cases q : Q = 0
            · have := l0 q; omega
            · have := l1 (by omega); have := h3 (by omega); omega
          refine ⟨Q + 1, I, 0, S, trivial, er, rfl, ⟨by omega, fun q => by omega, fun _ => ⟨l3, hI, Nat.zero_le _⟩, h4⟩, Or.inl rfl, ?_, ?_⟩
          · rw [if_pos trivial, Nat.succ_mul]
            by_cases q : Q = 0
            · subst q; omega
            · rw [if_neg q] at hCI; rw [hCI]
          · rfl
      · rw [if_neg (show ¬ nI L ≤ nI I from nI_ge (by omega) (by omega)), if_neg (show ¬ nI L ≤ nI I from nI_ge (by omega) (by omega))]
        exact Or.inr ⟨2, by decide, rfl, rfl⟩
    by_cases q : Q = 0
    · subst q
      rw [if_pos (show nI (0 + 1) = 1 from rfl), if_pos rfl, if_neg (show ¬ (1 : Int32) = 0 by decide)]
      exact key 3 (by omega) (fun _ => rfl) (fun z => by omega)
    · rw [if_neg (show ¬ nI (Q + 1) = 1 from nI_ne (b := 1) (by omega) (by omega) (by omega)), if_neg q, if_pos rfl]
      exact key C (by omega) (fun z => absurd z q) (fun _ => rfl)
  · rw [if_neg (show ¬ nI c = 47 from nI_ne (b := 47) hc (by omega) c1), if_neg (show ¬ nI c = 47 from nI_ne (b := 47) hc (by omega) c1)]
    have key : ∀ L, I ≤ L → L ≤ 12 → (Q = 0 → L = 12) → (1 ≤ Q → L = C) → (c = 46 ∨ (49 ≤ c ∧ c ≤ 56)) → ((∃ Q' C' I' S', m_X8_reasonAgainstNext_j82 (nI S) (nI c) (nI I) (nI L) = 0 ∧ m_X8_readNext (nI C) (nI (Q + 1)) (nI I) (nI S) (nI c) = (nI C', nI (Q' + 1), nI I', nI S') ∧ m_X10_reads_j120 (nI c) (nI (Q + 1)) (nI C) (nI I) (nI S) (nI I) (nI L) = (0, nI (Q' + 1), nI C', nI I', nI S') ∧ inv Q' C' I' S' ∧ okc c ∧ Q' * C' + I' = Q * C + I + (if c = 47 then 0 else 1) ∧ S' = S + (if 49 ≤ c then 1 else 0)) ∨
    ∃ w, w ≠ 0 ∧ m_X8_reasonAgainstNext_j82 (nI S) (nI c) (nI I) (nI L) = w ∧ m_X10_reads_j120 (nI c) (nI (Q + 1)) (nI C) (nI I) (nI S) (nI I) (nI L) = (w, nI (Q + 1), nI C, nI I, nI S)) := by
      intro L hIL hL l0 l1 hcc
      unfold m_X8_reasonAgainstNext_j82 m_X10_reads_j120
      by_cases c2 : I < L
      · rw [if_pos (nI_lt c2 (by omega)), if_neg (nI_ne (by omega) (by omega) (by omega))]
        have hinv : ∀ S', S' ≤ 24 → inv Q C (I + 1) S' := fun S' hS => ⟨h1, fun q => ⟨(h2 q).1, by have := l0 q; omega⟩, fun q => ⟨(h3 q).1, (h3 q).2.1, by have := l1 q; omega⟩, hS⟩
        rcases hcc with c3 | c3
        · subst c3
          rw [dig_0 (by omega) (by omega), if_pos (show nI 46 = 46 from rfl), show (lt1 (0 : Int32) fun v3 => if v3 = 0 then (0 : Int32) else if nI S < 24 then 0 else 4) = 0 from rfl]
          left
          unfold m_X10_reads_j142 m_X10_reads_j158 m_X8_readNext
          rw [if_pos (show nI 46 = 46 from rfl), if_neg (show ¬ nI 46 = 47 by decide), dig_0 (by omega) (by omega)]
          simp only [lt1, nI_s, Int32.add_zero]
          exact ⟨Q, C, I + 1, S, trivial, rfl, rfl, hinv S h4, Or.inr (Or.inl rfl), by rw [if_neg (show ¬ 46 = 47 by omega)]; omega, rfl⟩
        · rw [dig_1 c3.1 c3.2, if_neg (show ¬ nI c = 46 from nI_ne (b := 46) hc (by omega) (by omega))]
          simp only [lt1]
          rw [if_neg (show ¬ (1 : Int32) = 0 by decide)]
          by_cases c4 : S < 24
          · rw [if_pos (show nI S < 24 from nI_lt (b := 24) c4 (by omega)), if_neg (show ¬ nI S = 24 from nI_ne (b := 24) (by omega) (by omega) (by omega))]
            left
            unfold m_X10_reads_j142 m_X10_reads_j158 m_X8_readNext
            rw [if_neg (show ¬ nI c = 46 from nI_ne (b := 46) hc (by omega) (by omega)), if_neg (show ¬ nI c = 47 from nI_ne (b := 47) hc (by omega) c1), dig_1 c3.1 c3.2]
            simp only [lt1, nI_s]
            rw [if_neg (show ¬ (1 : Int32) = 0 by decide)]
            exact ⟨Q, C, I + 1, S + 1, trivial, rfl, rfl, hinv (S + 1) (by omega), Or.inr (Or.inr c3), by rw [if_neg c1]; omega, by rw [if_pos c3.1]⟩
          · have : S = 24 := by omega
            subst this
            rw [if_neg (show ¬ nI 24 < 24 by decide), if_pos (show nI 24 = 24 from rfl)]
            exact Or.inr ⟨4, by decide, rfl, rfl⟩
      · have : I = L := by omega
        subst this
        rw [if_neg (show ¬ nI I < nI I from nI_nlt (Nat.le_refl _) (by omega)), if_pos rfl]
        exact Or.inr ⟨2, by decide, rfl, rfl⟩
    have key2 : (c = 46 ∨ (49 ≤ c ∧ c ≤ 56)) → ((∃ Q' C' I' S', m_X8_reasonAgainstNext_j61 (nI C) (nI (Q + 1)) (nI I) (nI S) (nI c) = 0 ∧ m_X8_readNext (nI C) (nI (Q + 1)) (nI I) (nI S) (nI c) = (nI C', nI (Q' + 1), nI I', nI S') ∧ m_X10_reads_j103 (nI c) (if Q = 0 then 1 else 0) (nI (Q + 1)) (nI C) (nI I) (nI S) = (0, nI (Q' + 1), nI C', nI I', nI S') ∧ inv Q' C' I' S' ∧ okc c ∧ Q' * C' + I' = Q * C + I + (if c = 47 then 0 else 1) ∧ S' = S + (if 49 ≤ c then 1 else 0)) ∨
    ∃ w, w ≠ 0 ∧ m_X8_reasonAgainstNext_j61 (nI C) (nI (Q + 1)) (nI I) (nI S) (nI c) = w ∧ m_X10_reads_j103 (nI c) (if Q = 0 then 1 else 0) (nI (Q + 1)) (nI C) (nI I) (nI S) = (w, nI (Q + 1), nI C, nI I, nI S)) := by
      intro hcc
      unfold m_X8_reasonAgainstNext_j61 m_X10_reads_j103
      by_cases q : Q = 0
      · subst q
        rw [if_pos (show nI (0 + 1) = 1 from rfl), if_pos rfl, if_neg (show ¬ (1 : Int32) = 0 by decide)]
        exact key 12 (by omega) (by omega) (fun _ => rfl) (fun z => by omega) hcc
      · rw [if_neg (show ¬ nI (Q + 1) = 1 from nI_ne (b := 1) (by omega) (by omega) (by omega)), if_neg q, if_pos rfl]
        exact key C (by have := h3 (by omega); omega) (by omega) (fun z => absurd z q) (fun _ => rfl) hcc
    by_cases c2 : c = 46
    · rw [if_pos (show nI c = 46 by rw [c2]; rfl), if_pos (show nI c = 46 by rw [c2]; rfl)]
      exact key2 (Or.inl c2)
    · rw [if_neg (show ¬ nI c = 46 from nI_ne (b := 46) hc (by omega) c2), if_neg (show ¬ nI c = 46 from nI_ne (b := 46) hc (by omega) c2), dig_in]
      simp only [lt1]
      by_cases c3 : 49 ≤ c ∧ c ≤ 56
      · rw [dig_1 c3.1 c3.2, if_neg (show ¬ (1 : Int32) = 0 by decide), if_neg (show ¬ (1 : Int32) = 0 by decide)]
        exact key2 (Or.inr c3)
      · rw [dig_0 hc c3, if_pos rfl, if_pos rfl]
        exact Or.inr ⟨1, by decide, rfl, rfl⟩
