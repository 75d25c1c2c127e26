/-! Layout.readIslands, nextIsland -/
theorem rk_z {num : Nat → Int32} {a b : Nat} (hab : a ≤ b) (h : ∀ c, a ≤ c → c < b → num c = 0) : rk num b = rk num a := by
  induction b with
  | zero => have : a = 0 := by omega
            subst this; rfl
  | succ b ih =>
    rcases Nat.lt_or_ge a (b + 1) with q | q
    · rw [rk_s0 (by rw [h b (by omega) (by omega)]; decide), ih (by omega) (fun c h1 h2 => h c h1 (by omega))]
    · have : a = b + 1 := by omega
      subst this; rfl
theorem nI_s (i : Nat) : nI i + 1 = nI (i + 1) := nI_1 i
theorem cells_nI (W H : Nat) : m_X6_cells (nI W) (nI H) = nI (W * H) := pk_mul W H
theorem rdI_0 {num : Nat → Int32} {M i : Nat} (hM : M ≤ 144) (hz : ∀ c, M ≤ c → c < 144 → num c = 0) (hi : i < 144) (hp : ¬ 0 < num i) {rec : Int32 → Int32 → (Nat → Int32) → (Nat → Int32) → (Nat → Int32) → Option (Int32 × (Nat → Int32) × (Nat → Int32) × (Nat → Int32))} {y4 : Int32} {y5 y6 y7 : Nat → Int32} : m_X2_readIslands_b12 num (nI M) rec (nI i) y4 y5 y6 y7 = rec (nI (i + 1)) y4 y5 (upd y6 i 0) y7 := by
  have e48 : m_X2_readIslands_j48 rec (nI i) y4 y5 y6 y7 = rec (nI (i + 1)) y4 y5 (upd y6 i 0) y7 := by
    simp only [m_X2_readIslands_j48, m_X2_readIslands_j49, m_X2_readIslands_j90, m_X2_readIslands_j108, lt1, if_true, vPut_nI hi (by omega), nI_s]
  unfold m_X2_readIslands_b12
  rw [if_neg (kk144_ge hi)]
  by_cases hc : nI M ≤ nI i
  · rw [if_pos hc, e48]
  · rw [if_neg hc]
    simp only [lt1]
    rw [vAt_nI hi (by omega), if_pos (Int32.not_lt.mp hp), e48]
theorem rdI_1 {num : Nat → Int32} {M i r : Nat} (hM : M ≤ 144) (hi : i < M) (hp : 0 < num i) (hr : r < 24) {rec : Int32 → Int32 → (Nat → Int32) → (Nat → Int32) → (Nat → Int32) → Option (Int32 × (Nat → Int32) × (Nat → Int32) × (Nat → Int32))} {y5 y6 y7 : Nat → Int32} : m_X2_readIslands_b12 num (nI M) rec (nI i) (nI r) y5 y6 y7 = rec (nI (i + 1)) (nI (r + 1)) (upd y5 r (nI i)) (upd y6 i (nI (r + 1))) (upd y7 r 0) := by
  unfold m_X2_readIslands_b12
  rw [if_neg (kk144_ge (by omega)), if_neg (nI_ge hi (by omega))]
  simp only [lt1]
  rw [vAt_nI (by omega) (by omega), if_neg (fun h => absurd hp (Int32.not_lt.mpr h)), if_neg (kk24_ge hr)]
  simp only [m_X2_readIslands_j49, m_X2_readIslands_j90, m_X2_readIslands_j108, lt1, nI_s]
  rw [if_neg (by decide), if_neg (by decide)]
  simp only [vPut_nI hr (by omega), vPut_nI (show i < 144 by omega) (by omega)]
theorem readIslands_ev {W H N : Nat} {num cO iA wO : Nat → Int32} (hM : W * H ≤ 144) (hz : ∀ c, W * H ≤ c → c < 144 → num c = 0) (hk : rk num (W * H) ≤ 24) (hN : 144 < N) : Ev (m_X2_readIslands N (nI W) (nI H) num cO iA wO) (fun t => t.1 = nI (rk num (W * H)) ∧ (∀ c, c < W * H → 0 < num c → t.2.1 (rk num c) = nI c) ∧ (∀ c, c < 144 → t.2.2.1 c = if 0 < num c then nI (rk num c + 1) else 0) ∧ ∀ j, j < rk num (W * H) → t.2.2.2 j = 0) := by
  unfold m_X2_readIslands
  simp only [lt1, cells_nI]
  have hk2 : rk num 144 = rk num (W * H) := rk_z hM hz
  refine zl5c0 144 (fun i y4 y5 y6 y7 => y4 = nI (rk num i) ∧ (∀ c, c < i → 0 < num c → y5 (rk num c) = nI c) ∧ (∀ c, c < i → y6 c = if 0 < num c then nI (rk num c + 1) else 0) ∧ ∀ j, j < rk num i → y7 j = 0) ?_ ?_ N 0 _ _ _ _ (by omega) (by omega) ⟨rfl, fun c h => by omega, fun c h => by omega, fun j h => absurd h (Nat.not_lt_zero _)⟩
  · rintro rec i y4 y5 y6 y7 hi ⟨h1, h2, h3, h4⟩
    refine Or.inr ?_
    by_cases hp : 0 < num i
    · have hiM : i < W * H := by
        rcases Nat.lt_or_ge i (W * H) with q | q
        · exact q
        · rw [hz i q hi] at hp; exact absurd hp (by decide)
      have hr : rk num i < 24 := Nat.lt_of_lt_of_le (rk_lt hp hiM) hk
      subst h1
      refine ⟨_, _, _, _, rdI_1 hM hiM hp hr, by rw [rk_s1 hp], fun c g1 g2 => ?_, fun c g1 => ?_, fun j g1 => ?_⟩
      · rcases Nat.lt_or_ge c i with q | q
        · rw [upd_n (by have := rk_lt g2 q; omega)]; exact h2 c q g2
        · have : c = i := by omega
          subst this; exact upd_s
      · rcases Nat.lt_or_ge c i with q | q
        · rw [upd_n (by omega)]; exact h3 c q
        · have : c = i := by omega
          subst this; rw [upd_s, if_pos hp]
      · rw [rk_s1 hp] at g1
        rcases Nat.lt_or_ge j (rk num i) with q | q
        · rw [upd_n (by omega)]; exact h4 j q
        · have : j = rk num i := by omega
          subst this; exact upd_s
    · refine ⟨_, _, _, _, rdI_0 hM hz hi hp, by rw [rk_s0 hp]; exact h1, fun c g1 g2 => ?_, fun c g1 => ?_, fun j g1 => ?_⟩
      · rcases Nat.lt_or_ge c i with q | q
        · exact h2 c q g2
        · have : c = i := by omega
          subst this; exact absurd g2 hp
      · rcases Nat.lt_or_ge c i with q | q
        · rw [upd_n (by omega)]; exact h3 c q
        · have : c = i := by omega
          subst this; rw [upd_s, if_neg hp]
      · rw [rk_s0 hp] at g1; exact h4 j g1
  · rintro rec y4 y5 y6 y7 ⟨h1, h2, h3, h4⟩
    unfold m_X2_readIslands_b12
    rw [if_pos (kk144_le (Nat.le_refl _) (by omega))]
    exact Ev.some ⟨by rw [← hk2]; exact h1, fun c g1 g2 => h2 c (by omega) g2, h3, fun j g1 => h4 j (by rw [hk2]; exact g1)⟩
/-- the answer of nextIsland: the island's place, or -1 -/
def oR (num : Nat → Int32) (o : Option Nat) : Int32 := match o with
  | none => -1
  | some d => nI (rk num d)
theorem islandOn_nI {num iA : Nat → Int32} {c : Nat} (hi : ∀ c, c < 144 → iA c = if 0 < num c then nI (rk num c + 1) else 0) (hc : c < 144) : m_X2_islandOn iA (nI c) = if 0 < num c then nI (rk num c) else -1 := by
  unfold m_X2_islandOn
  simp only [lt1]
  rw [vAt_nI hc (by omega), hi c hc]
  by_cases hp : 0 < num c
  · rw [if_pos hp, if_pos hp]; exact nI_pred _
  · rw [if_neg hp, if_neg hp]; rfl
/-- n cells are left on the line behind the cell c: the end lies there -/
theorem nextIsland_ev {num iA : Nat → Int32} {N c s e n : Nat} (hi : ∀ c, c < 144 → iA c = if 0 < num c then nI (rk num c + 1) else 0) (hN : 12 < N) (hn : n ≤ 11) (hs : s ≤ 12) (he : e ≤ 144) (hin : ∀ j, 1 ≤ j → j ≤ n → c + j * s < e) (hout : n < 11 → e ≤ c + (n + 1) * s) (hb : c < 144) : m_X2_nextIsland N iA (nI c) (nI s) (nI e) = some (oR num (nx num s n c)) := by
  refine Ev.eq ?_
  unfold m_X2_nextIsland
  refine zl1c0 (n + 1) (fun i => 1 ≤ i ∧ nx num s n c = nx num s (n + 1 - i) (c + (i - 1) * s)) ?_ ?_ N 1 (by omega) (by omega) ⟨Nat.le_refl _, by rw [Nat.sub_self, Nat.zero_mul]; rfl⟩
  · rintro rec i hin1 ⟨h1, h2⟩
    have hlt := hin i h1 (by omega)
    have hci : c + i * s < 144 := by omega
    have e1 : c + (i - 1) * s + s = c + i * s := by
      rw [Nat.sub_mul]; have : s ≤ i * s := Nat.le_mul_of_pos_left s (by omega); omega
    have e2 : nx num s (n + 1 - i) (c + (i - 1) * s) = if 0 < num (c + i * s) then some (c + i * s) else nx num s (n - i) (c + i * s) := by
      rw [show n + 1 - i = (n - i) + 1 by omega]
      show (if 0 < num (c + (i - 1) * s + s) then some (c + (i - 1) * s + s) else nx num s (n - i) (c + (i - 1) * s + s)) = _
      rw [e1]
    unfold m_X2_nextIsland_b3
    rw [if_neg (kk12_ge (by omega))]
    simp only [lt1]
    rw [pk_mul, nI_add, if_pos (nI_lt hlt (by omega)), islandOn_nI hi hci]
    by_cases hp : 0 < num (c + i * s)
    · rw [if_pos hp, if_neg (nI_nm1 (by have := rk_mono num (Nat.le_of_lt hci); have : rk num 144 ≤ 144 := rk_le num 144; omega))]
      refine Or.inl ?_
      unfold m_X2_nextIsland_j36
      simp only [lt1]
      rw [islandOn_nI hi hci, if_pos hp, h2, e2, if_pos hp]
      exact Ev.some rfl
    · rw [if_neg hp, if_pos rfl, nI_s]
      refine Or.inr ⟨rfl, by omega, ?_⟩
      rw [h2, e2, if_neg hp, show n + 1 - (i + 1) = n - i by omega, show i + 1 - 1 = i by omega]
  · rintro rec ⟨h1, h2⟩
    rw [show n + 1 - (n + 1) = 0 by omega] at h2
    unfold m_X2_nextIsland_b3
    by_cases h11 : n = 11
    · subst h11
      rw [if_pos (kk12_le (Nat.le_refl _) (by omega))]
      rw [h2]; exact Ev.some rfl
    · rw [if_neg (kk12_ge (by omega))]
      simp only [lt1]
      have h3 := hout (by omega)
      have h4 : (n + 1) * s ≤ 12 * 12 := Nat.mul_le_mul (by omega) hs
      rw [pk_mul, nI_add, if_neg (nI_nlt h3 (by omega)), h2]
      exact Ev.some rfl
