/-! the check of a text, fault, load -/
def ccn (ch : Nat → Int32) : Nat → Nat
  | 0 => 0
  | i + 1 => ccn ch i + (if vN ch i = 47 then 0 else 1)
def cdg (ch : Nat → Int32) : Nat → Nat
  | 0 => 0
  | i + 1 => cdg ch i + (if 49 ≤ vN ch i then 1 else 0)
/-- a text without a fault -/
def whl (ch : Nat → Int32) (t C R : Nat) : Prop := (3 ≤ C ∧ C ≤ 12) ∧ (3 ≤ R ∧ R ≤ 12) ∧ ccn ch t = R * C ∧ cdg ch t ≤ 24 ∧ ∀ i, i < t → okc (vN ch i)
theorem check_loop {t : Nat} {ch tx : Nat → Int32} (ht : t ≤ 160) (hc : ∀ i, i < t → ch i = tx i ∧ ch i = nI (vN ch i) ∧ vN ch i < 2 ^ 31) : ∀ (m i N1 N2 Q C I S : Nat) (y6 y7 y2 : Int32), i + m = t → m < N1 → m < N2 → inv Q C I S → ccn ch i = Q * C + I → cdg ch i = S → (∀ j, j < i → okc (vN ch j)) →
    ∃ co ro ir is idx why, zl7 (m_X8_check_b22 (nI t) ch) N1 (nI i) (nI C) (nI (Q + 1)) (nI I) (nI S) y6 y7 = some (co, ro, ir, is, idx, why) ∧ zl6 (m_X10_wrongAt_b27 (nI t) tx) N2 (nI i) y2 (nI (Q + 1)) (nI C) (nI I) (nI S) = some (if why = 0 then -4 else idx, why, ro, co, ir, is) ∧ (why ≠ 0 → ¬ idx < 0) ∧ (why = 0 → ∃ C R, co = nI C ∧ ro = nI R ∧ whl ch t C R) := by
  intro m
  induction m with
  | zero =>
    intro i N1 N2 Q C I S y6 y7 y2 hi h1 h2 hv hcn hdg hok
    obtain ⟨N1, rfl⟩ : ∃ n, N1 = n + 1 := ⟨N1 - 1, by omega⟩
    obtain ⟨N2, rfl⟩ : ∃ n, N2 = n + 1 := ⟨N2 - 1, by omega⟩
    have hi2 : i = t := by omega
    subst hi2
    obtain ⟨v1, v2, v3, v4⟩ := hv
    show ∃ co ro ir is idx why, m_X8_check_b22 (nI i) ch (zl7 (m_X8_check_b22 (nI i) ch) N1) (nI i) (nI C) (nI (Q + 1)) (nI I) (nI S) y6 y7 = _ ∧ m_X10_wrongAt_b27 (nI i) tx (zl6 (m_X10_wrongAt_b27 (nI i) tx) N2) (nI i) y2 (nI (Q + 1)) (nI C) (nI I) (nI S) = _ ∧ _
    rw [m_X8_check_b22, m_X10_wrongAt_b27, if_pos (nI_le (Nat.le_refl _) (by omega)), if_pos (nI_le (Nat.le_refl _) (by omega))]
    unfold m_X8_check_j72 m_X10_wrongAt_j64 m_X8_check_j100 m_X10_wrongAt_j84 m_X8_check_j105 m_X10_wrongAt_j89
    by_cases c1 : Q + 1 < 3
    · rw [if_pos (show nI (Q + 1) < 3 from nI_lt (b := 3) c1 (by omega)), if_pos (show nI (Q + 1) < 3 from nI_lt (b := 3) c1 (by omega)), if_neg (show ¬ (5 : Int32) = 0 by decide)]
      exact ⟨_, _, _, _, _, _, rfl, rfl, fun _ => nI_pos (by omega), fun z => absurd z (by decide)⟩
    · rw [if_neg (show ¬ nI (Q + 1) < 3 from nI_nlt (b := 3) (by omega) (by omega)), if_neg (show ¬ nI (Q + 1) < 3 from nI_nlt (b := 3) (by omega) (by omega))]
      have v5 := v3 (by omega)
      by_cases c2 : C ≤ I
      · rw [if_pos (nI_le c2 (by omega)), if_pos (nI_le c2 (by omega)), if_pos rfl]
        refine ⟨_, _, _, _, _, _, rfl, rfl, fun z => absurd rfl z, fun _ => ⟨C, Q + 1, rfl, rfl, ⟨v5.1, v5.2.1⟩, ⟨by omega, by omega⟩, ?_, by omega, hok⟩⟩
        rw [hcn, Nat.succ_mul]
        omega
      · rw [if_neg (show ¬ nI C ≤ nI I from nI_ge (by omega) (by omega)), if_neg (show ¬ nI C ≤ nI I from nI_ge (by omega) (by omega)), if_neg (show ¬ (5 : Int32) = 0 by decide)]
        exact ⟨_, _, _, _, _, _, rfl, rfl, fun _ => nI_pos (by omega), fun z => absurd z (by decide)⟩
  | succ m ih =>
    intro i N1 N2 Q C I S y6 y7 y2 hi h1 h2 hv hcn hdg hok
    obtain ⟨N1, rfl⟩ : ∃ n, N1 = n + 1 := ⟨N1 - 1, by omega⟩
    obtain ⟨N2, rfl⟩ : ∃ n, N2 = n + 1 := ⟨N2 - 1, by omega⟩
    obtain ⟨e1, e2, e3⟩ := hc i (by omega)
    show ∃ co ro ir is idx why, m_X8_check_b22 (nI t) ch (zl7 (m_X8_check_b22 (nI t) ch) N1) (nI i) (nI C) (nI (Q + 1)) (nI I) (nI S) y6 y7 = _ ∧ m_X10_wrongAt_b27 (nI t) tx (zl6 (m_X10_wrongAt_b27 (nI t) tx) N2) (nI i) y2 (nI (Q + 1)) (nI C) (nI I) (nI S) = _ ∧ _
    rw [m_X8_check_b22, m_X10_wrongAt_b27, if_neg (nI_ge (show i < t by omega) (by omega)), if_neg (nI_ge (show i < t by omega) (by omega)), vAt_nI (by omega) (by omega), rd_nI (by omega) (by omega), ← e1, e2]
    rcases rd_both hv e3 with ⟨Q', C', I', S', q1, q2, q3, q4, q5, q6, q7⟩ | ⟨w, w0, q1, q2⟩
    · rw [q3]
      have := ih (i + 1) N1 N2 Q' C' I' S' (nI i) 0 0 (by omega) (by omega) (by omega) q4 (by show ccn ch i + _ = _; rw [q6, hcn]) (by show cdg ch i + _ = _; rw [q7, hdg]) (fun j hj => by
        rcases Nat.lt_succ_iff_lt_or_eq.mp hj with r | r
        · exact hok j r
        · rw [r]; exact q5)
      simp only [lt1, lt4, lt5, q1, q2, nI_s, if_true]
      exact this
    · rw [q2]
      simp only [lt1, lt4, lt5, q1, nI_s, if_neg w0]
      exact ⟨_, _, _, _, _, _, rfl, by rw [if_neg w0], fun _ => nI_pos (by omega), fun z => absurd z w0⟩
theorem TX.c {t : Nat} {ch tx : Nat → Int32} (h : ∀ i, i < t → ch i = tx i ∧ ∃ c, 32 ≤ c ∧ c ≤ 126 ∧ ch i = nI c) : ∀ i, i < t → ch i = tx i ∧ ch i = nI (vN ch i) ∧ vN ch i < 2 ^ 31 := by
  intro i hi
  obtain ⟨h1, c, c1, c2, c3⟩ := h i hi
  have e : vN ch i = c := by unfold vN; rw [c3, nI_clamp (by omega)]
  rw [e]
  exact ⟨h1, c3, by omega⟩
theorem check_ev {N t : Nat} {ch tx : Nat → Int32} {fi fr : Int32} (ht : t ≤ 160) (hc : ∀ i, i < t → ch i = tx i ∧ ∃ c, 32 ≤ c ∧ c ≤ 126 ∧ ch i = nI c) (hN : 1000 < N) :
    ∃ co ro ir is idx why, m_X8_check N (nI t) fi fr ch = some (co, ro, ir, is, idx, why) ∧ m_X10_wrongAt N (nI t) tx = some (if why = 0 then -4 else idx, why, ro, co, ir, is) ∧ (why ≠ 0 → ¬ idx < 0) ∧ (why = 0 → ∃ C R, co = nI C ∧ ro = nI R ∧ whl ch t C R) :=
  check_loop ht (TX.c hc) t 0 N N 0 0 0 0 fi fr 0 (by omega) (by omega) (by omega) ⟨by omega, fun _ => ⟨rfl, by omega⟩, fun z => by omega, by omega⟩ rfl rfl (fun j hj => by omega)
theorem sim_fault {N : Nat} {tl : Int32} {ch tx : Nat → Int32} (h : TX tl ch tx) (c1 c2 c3 c4 c5 c6 w1 w2 w3 w4 w5 : Int32) (x : Int32) (hN : 1000 < N) : ∃ r d1 d2 d3 d4 d5 d6 v1 v2 v3 v4 v5, m_X9_fault N tl c1 c2 c3 c4 c5 c6 ch x = some (r, d1, d2, d3, d4, d5, d6) ∧ m_X10_fault N tl w1 w2 w3 w4 w5 tx x = some (r, v1, v2, v3, v4, v5) := by
  obtain ⟨t, ht, rfl, hc⟩ := h
  obtain ⟨co, ro, ir, is, idx, why, e1, e2, e3, -⟩ := check_ev (N := N) (fi := c5) (fr := c6) ht hc hN
  unfold m_X9_fault m_X10_fault
  rcases in_or (m := 1) (by omega) x with ⟨e, hy⟩ | ⟨e, d, hd, rfl⟩
  · rw [show m_X10_in x 0 1 = 0 from e, if_neg (show ¬ x = 0 from hy 0 (by omega)), if_neg (show ¬ x = 1 from hy 1 (by omega))]
    exact ⟨_, _, _, _, _, _, _, _, _, _, _, _, rfl, rfl⟩
  · have go : ∃ r d1 d2 d3 d4 d5 d6 v1 v2 v3 v4 v5, m_X9_fault_j11 N (nI t) ch (nI d) c5 c6 = some (r, d1, d2, d3, d4, d5, d6) ∧ (bd6 (m_X10_wrongAt N (nI t) tx) (fun v2 v3 v4 v5 v6 v7 => if v2 < 0 then (m_X10_fault_j24 v2 v3 v4 v5 v6 v7) else (if nI d = 0 then (m_X10_fault_j24 v2 v3 v4 v5 v6 v7) else (some ((v3, v3, v4, v5, v6, v7)))))) = some (r, v1, v2, v3, v4, v5) := by
      unfold m_X9_fault_j11 m_X10_fault_j24
      rw [e1, e2, bd6_some, bd6_some]
      by_cases c0 : why = 0
      · rw [if_pos c0, if_pos c0, if_pos (show (-4 : Int32) < 0 by decide)]
        exact ⟨_, _, _, _, _, _, _, _, _, _, _, _, rfl, rfl⟩
      · rw [if_neg c0, if_neg c0, if_neg (e3 c0)]
        by_cases c7 : nI d = 0
        · rw [if_pos c7, if_pos c7]
          exact ⟨_, _, _, _, _, _, _, _, _, _, _, _, rfl, rfl⟩
        · rw [if_neg c7, if_neg c7]
          exact ⟨_, _, _, _, _, _, _, _, _, _, _, _, rfl, rfl⟩
    rw [show m_X10_in (nI d) 0 1 = 1 from e]
    simp only [lt1]
    rw [if_neg (show ¬ (1 : Int32) = 0 by decide)]
    have hd2 : d = 0 ∨ d = 1 := by omega
    rcases hd2 with rfl | rfl
    · rw [if_pos (show nI 0 = 0 from rfl)]
      exact go
    · rw [if_neg (show ¬ nI 1 = 0 by decide), if_pos (show nI 1 = 1 from rfl)]
      exact go
/-- the numbers that a text gives -/
def val (c : Nat) : Int32 := if 49 ≤ c then nI (c - 48) else 0
def gvf (ch f : Nat → Int32) : Nat → Nat → Int32
  | 0 => f
  | i + 1 => if vN ch i = 47 then gvf ch f i else upd (gvf ch f i) (ccn ch i) (val (vN ch i))
theorem ccn_le (ch : Nat → Int32) {i j : Nat} (h : i ≤ j) : ccn ch i ≤ ccn ch j := by
  induction j with
  | zero => have : i = 0 := by omega
            subst this; exact Nat.le_refl _
  | succ j ih =>
    by_cases e : i = j + 1
    · subst e; exact Nat.le_refl _
    · have := ih (by omega)
      show _ ≤ ccn ch j + _
      omega
theorem gvf_BD {W H t : Nat} {ch f : Nat → Int32} (hW : 3 ≤ W ∧ W ≤ 12) (hH : 3 ≤ H ∧ H ≤ 12) (hf : ∀ c, c < 144 → f c = 0) (hd : cdg ch t ≤ 24) (hok : ∀ i, i < t → okc (vN ch i)) (hcn : ccn ch t = H * W) : BD W H (gvf ch f t) := by
  have hM : W * H ≤ 144 := Nat.mul_le_mul hW.2 hH.2
  rw [Nat.mul_comm] at hcn
  have : ∀ i, i ≤ t → nn (gvf ch f i) ∧ (∀ c, W * H ≤ c → c < 144 → gvf ch f i c = 0) ∧ rk (gvf ch f i) (W * H) ≤ cdg ch i := by
    intro i
    induction i with
    | zero =>
      intro _
      refine ⟨fun c hc => by show 0 ≤ f c; rw [hf c hc]; decide, fun c _ h2 => hf c h2, ?_⟩
      show rk f (W * H) ≤ 0
      rw [rk_z (Nat.zero_le _) (fun c _ h2 => hf c (by omega))]
      exact Nat.le_refl _
    | succ i ih =>
      intro hi
      obtain ⟨h1, h2, h3⟩ := ih (by omega)
      unfold gvf
      by_cases c1 : vN ch i = 47
      · rw [if_pos c1]
        exact ⟨h1, h2, Nat.le_trans h3 (Nat.le_add_right _ _)⟩
      · rw [if_neg c1]
        have hlt : ccn ch i < W * H := by
          have := ccn_le ch (show i + 1 ≤ t from hi)
          have e : ccn ch (i + 1) = ccn ch i + 1 := by show ccn ch i + _ = _; rw [if_neg c1]
          omega
        have hv0 : 0 ≤ val (vN ch i) := by
          unfold val
          split
          · rcases hok i (by omega) with z | z | z
            · omega
            · omega
            · exact kk0_le (Nat.zero_le _) (by omega)
          · decide
        refine ⟨fun c hc => ?_, fun c a1 a2 => ?_, ?_⟩
        · by_cases e : c = ccn ch i
          · subst e; rw [upd_s]; exact hv0
          · rw [upd_n e]; exact h1 c hc
        · rw [upd_n (by omega)]; exact h2 c a1 a2
        · have := rk_upd (num := gvf ch f i) (c := ccn ch i) (x := val (vN ch i)) (W * H)
          show _ ≤ cdg ch i + _
          by_cases c2 : 49 ≤ vN ch i
          · rw [if_pos c2]
            split at this <;> omega
          · rw [if_neg c2]
            rw [if_neg (fun z => by have := z.1; unfold val at this; rw [if_neg c2] at this; exact absurd this (by decide))] at this
            omega
  obtain ⟨h1, h2, h3⟩ := this t (Nat.le_refl _)
  exact ⟨hW, hH, h1, h2, by omega⟩
theorem val_c {c : Nat} (h : okc c) (h2 : c ≠ 47) : (if m_X8_isDigit (nI c) = 0 then (0 : Int32) else nI c - 48) = val c := by
  rcases h with h | h | h
  · exact absurd h h2
  · subst h; rfl
  · rw [dig_1 h.1 h.2, if_neg (by decide)]
    unfold val
    rw [if_pos h.1, show (48 : Int32) = nI 48 from rfl, pk_sub (by omega)]
theorem give_c {N t : Nat} {ch f : Nat → Int32} (ht : t ≤ 160) (hc : ∀ i, i < t → ch i = nI (vN ch i) ∧ vN ch i < 2 ^ 31) (hok : ∀ i, i < t → okc (vN ch i)) (hcn : ccn ch t ≤ 144) (hN : 1000 < N) : m_X8_giveNumbersTo N f (nI t) ch = some (gvf ch f t) := by
  unfold m_X8_giveNumbersTo
  refine zl3g1 (fun o => o = some (gvf ch f t)) t (fun i a z => a = nI (ccn ch i) ∧ z = gvf ch f i) ?_ ?_ N 0 _ _ (by omega) (by omega) ⟨rfl, rfl⟩
  · intro rec i a z hi hP
    obtain ⟨rfl, rfl⟩ := hP
    obtain ⟨e1, e2⟩ := hc i hi
    right
    unfold m_X8_giveNumbersTo_b4 m_X8_giveNumbersTo_j57
    rw [if_neg (nI_ge hi (by omega)), vAt_nI (by omega) (by omega), e1]
    by_cases c1 : vN ch i = 47
    · refine ⟨nI (ccn ch i), gvf ch f i, ?_, ?_, ?_⟩
      · simp only [lt1, nI_s]
        rw [if_pos (show nI (vN ch i) = 47 by rw [c1]; rfl)]
      · show nI (ccn ch i) = nI (ccn ch i + _); rw [if_pos c1]; rfl
      · show gvf ch f i = (if _ then _ else _); rw [if_pos c1]
    · have hlt : ccn ch i < 144 := by
        have := ccn_le ch (show i + 1 ≤ t from hi)
        have e : ccn ch (i + 1) = ccn ch i + 1 := by show ccn ch i + _ = _; rw [if_neg c1]
        omega
      refine ⟨nI (ccn ch (i + 1)), gvf ch f (i + 1), ?_, rfl, rfl⟩
      have hv := val_c (hok i hi) c1
      simp only [lt1, nI_s]
      rw [if_neg (show ¬ nI (vN ch i) = 47 from nI_ne (b := 47) e2 (by omega) c1)]
      unfold m_X8_giveNumbersTo_j51 m_X8_giveNumbersTo_j57
      have e3 : gvf ch f (i + 1) = upd (gvf ch f i) (ccn ch i) (val (vN ch i)) := by show (if _ then _ else _) = _; rw [if_neg c1]
      have e4 : ccn ch (i + 1) = ccn ch i + 1 := by show ccn ch i + _ = _; rw [if_neg c1]
      rw [e3, e4]
      simp only [lt1, nI_s]
      by_cases c2 : m_X8_isDigit (nI (vN ch i)) = 0
      · rw [if_pos c2] at hv ⊢
        rw [vPut_nI hlt (by omega), hv]
      · rw [if_neg c2] at hv ⊢
        rw [vPut_nI hlt (by omega), hv]
  · intro rec a z hP
    unfold m_X8_giveNumbersTo_b4
    rw [if_pos (nI_le (Nat.le_refl _) (by omega)), hP.2]
