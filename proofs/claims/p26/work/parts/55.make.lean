/-! make: draws, the list of islands -/
theorem rk_pos {f g : Nat → Int32} : ∀ {m : Nat}, (∀ j, j < m → (0 < f j ↔ 0 < g j)) → rk f m = rk g m := by
  intro m
  induction m with
  | zero => intro _; rfl
  | succ m ih =>
    intro h
    show rk f m + (if 0 < f m then 1 else 0) = rk g m + (if 0 < g m then 1 else 0)
    rw [ih (fun j hj => h j (by omega)), ite_iff (h m (by omega))]
theorem rk_updx {q : Nat → Int32} {c : Nat} {x : Int32} (hx : 0 < x) (hc : ¬ 0 < q c) : ∀ m, rk (upd q c x) m = rk q m + (if c < m then 1 else 0) := by
  intro m
  induction m with
  | zero => rfl
  | succ m ih =>
    show rk (upd q c x) m + (if 0 < upd q c x m then 1 else 0) = rk q m + (if 0 < q m then 1 else 0) + _
    rw [ih]
    by_cases e : m = c
    · subst e
      rw [upd_s, if_pos hx, if_neg hc, if_neg (Nat.lt_irrefl _), if_pos (Nat.lt_succ_self _)]
    · rw [upd_n e]
      by_cases h : c < m
      · rw [if_pos h, if_pos (show c < m + 1 by omega)]; omega
      · rw [if_neg h, if_neg (show ¬ c < m + 1 by omega)]; omega
def zn (z : Nat) : Nat := (75 * z + 74) % 65537
theorem zn_nI {z : Nat} (hz : z < 65537) : (75 : Int32) * nI z + 74 - (75 * nI z + 74) / 65537 * 65537 = nI (zn z) := by
  rw [show (75 : Int32) = nI 75 from rfl, show (74 : Int32) = nI 74 from rfl, show (65537 : Int32) = nI 65537 from rfl, pk_mul, nI_add, pk_div (by omega) (by omega) (by omega), pk_mul, pk_sub (by omega)]
  congr 1
  unfold zn
  omega
theorem draw_c {z m : Nat} (hz : z < 65537) (hm : 0 < m) (hm2 : m < 2 ^ 31) : m_X3_draw (nI z) (nI m) = some (nI (zn z % m), nI (zn z)) := by
  unfold m_X3_draw
  rw [zn_nI hz]
  simp only [lt1]
  have : zn z < 65537 := Nat.mod_lt _ (by omega)
  rw [if_neg (show ¬ nI m ≤ 0 from fun h => by have := (kk0_Ile hm2).mp h; omega), rmd_nI (by omega) hm hm2]
theorem draw_m {z m : Nat} (hz : z < 65537) (hm : 0 < m) (hm2 : m < 2 ^ 31) : m_X10_draw (nI z) (nI m) = some (nI (zn z % m), nI (zn z)) := by
  unfold m_X10_draw
  rw [zn_nI hz]
  simp only [lt1]
  have : zn z < 65537 := Nat.mod_lt _ (by omega)
  rw [rmd_nI (by omega) hm hm2]
theorem zn_lt (z : Nat) : zn z < 65537 := Nat.mod_lt _ (by omega)
theorem ins_loop {n c r : Nat} {tk kC : Nat → Int32} (hn : n < 24) (hc : c < 144) (hcmp : ∀ i, i < n → (kC i ≤ nI c ↔ i < r)) (hr : r ≤ n) : ∀ (p N1 : Nat) (y : Nat → Int32), r ≤ p → p ≤ n → p < N1 → (∀ i, i < p → y i = kC i) → (∀ i, p ≤ i → i < n → y (i + 1) = kC i) →
    ∃ k, zl3 (m_X3_addIsland_b20 (nI c) (nI n) tk) N1 (nI p) (nI p) y = some (nI (n + 1), upd tk c 1, k) ∧ (∀ i, i < r → k i = kC i) ∧ k r = nI c ∧ ∀ i, r ≤ i → i < n → k (i + 1) = kC i := by
  intro p
  induction p with
  | zero =>
    intro N1 y h1 h2 h3 h4 h5
    obtain ⟨N1, rfl⟩ : ∃ n, N1 = n + 1 := ⟨N1 - 1, by omega⟩
    have hr0 : r = 0 := by omega
    subst hr0
    show ∃ k, m_X3_addIsland_b20 (nI c) (nI n) tk (zl3 (m_X3_addIsland_b20 (nI c) (nI n) tk) N1) (nI 0) (nI 0) y = _ ∧ _
    rw [m_X3_addIsland_b20, if_pos (show nI 0 ≤ 0 by decide)]
    unfold m_X3_addIsland_j66
    rw [vPut_nI (by omega) (by omega), vPut_nI hc (by omega)]
    simp only [lt1, nI_s]
    refine ⟨_, rfl, fun i hi => by omega, upd_s, fun i _ hi => ?_⟩
    rw [upd_n (by omega)]
    exact h5 i (by omega) hi
  | succ p ih =>
    intro N1 y h1 h2 h3 h4 h5
    obtain ⟨N1, rfl⟩ : ∃ n, N1 = n + 1 := ⟨N1 - 1, by omega⟩
    show ∃ k, m_X3_addIsland_b20 (nI c) (nI n) tk (zl3 (m_X3_addIsland_b20 (nI c) (nI n) tk) N1) (nI (p + 1)) (nI (p + 1)) y = _ ∧ _
    have em : nI (p + 1) - 1 = nI p := by rw [show (1 : Int32) = nI 1 from rfl, pk_sub (by omega), Nat.add_sub_cancel]
    have em2 : nI (p + 1) + -1 = nI p := by rw [← Int32.sub_eq_add_neg, em]
    rw [m_X3_addIsland_b20, if_neg (show ¬ nI (p + 1) ≤ 0 from fun h => by have := (kk0_Ile (by omega)).mp h; omega), em, em2, vAt_nI (by omega) (by omega), h4 p (by omega)]
    simp only [lt1]
    by_cases hp : p < r
    · rw [if_pos ((hcmp p (by omega)).mpr hp)]
      have hr2 : r = p + 1 := by omega
      subst hr2
      unfold m_X3_addIsland_j66
      rw [vPut_nI (by omega) (by omega), vPut_nI hc (by omega)]
      simp only [lt1, nI_s]
      refine ⟨_, rfl, fun i hi => ?_, upd_s, fun i h6 hi => ?_⟩
      · rw [upd_n (by omega)]; exact h4 i hi
      · rw [upd_n (by omega)]; exact h5 i h6 hi
    · rw [if_neg (fun z => hp ((hcmp p (by omega)).mp z)), vPut_nI (by omega) (by omega)]
      refine ih N1 _ (by omega) (by omega) (by omega) (fun i hi => ?_) (fun i h6 hi => ?_)
      · rw [upd_n (by omega)]; exact h4 i (by omega)
      · by_cases e : i = p
        · subst e; exact upd_s
        · rw [upd_n (by omega)]; exact h5 i (by omega) hi
theorem ins_c {M c N : Nat} {q tk kC : Nat → Int32} (hM : M ≤ 144) (hn : rk q M < 24) (hc : c < M) (hq : ¬ 0 < q c) (hk : ∀ d, d < M → 0 < q d → kC (rk q d) = nI d) (hN : 144 < N) : ∃ k, m_X3_addIsland N (nI (rk q M)) tk kC (nI c) = some (nI (rk q M + 1), upd tk c 1, k) ∧ ∀ x, 0 < x → ∀ d, d < M → 0 < upd q c x d → k (rk (upd q c x) d) = nI d := by
  unfold m_X3_addIsland
  rw [if_pos (show nI (rk q M) < 24 from nI_lt (b := 24) hn (by omega))]
  obtain ⟨k, e, k1, k2, k3⟩ := ins_loop (n := rk q M) (c := c) (r := rk q c) (tk := tk) (kC := kC) hn (by omega) (fun i hi => by
    obtain ⟨d, d1, d2, d3⟩ := rk_ex hi
    rw [← d3, hk d d1 d2, nI_leI (by omega) (by omega)]
    constructor
    · intro h
      have : d ≠ c := fun e => hq (e ▸ d2)
      exact rk_lt d2 (by omega)
    · intro h
      rcases Nat.lt_or_ge c d with r | r
      · have := rk_mono q (Nat.le_of_lt r); omega
      · exact r) (rk_mono q (Nat.le_of_lt hc)) (rk q M) N kC (rk_mono q (Nat.le_of_lt hc)) (Nat.le_refl _) (by omega) (fun i _ => rfl) (fun i h1 h2 => by omega)
  refine ⟨k, e, fun x hx d hd hp => ?_⟩
  rw [rk_updx hx hq]
  by_cases ed : d = c
  · subst ed
    rw [if_neg (Nat.lt_irrefl _)]; exact k2
  · rw [upd_n ed] at hp
    by_cases h : c < d
    · rw [if_pos h, k3 _ (rk_mono q (Nat.le_of_lt h)) (rk_lt hp hd), hk d hd hp]
    · rw [if_neg h, Nat.add_zero, k1 _ (rk_lt hp (by omega)), hk d hd hp]
theorem islandAt_m {W H N c : Nat} {q s : Nat → Int32} (hB : BD W H q) (hs : MS W H q s) (hc : c < W * H) (hp : 0 < q c) (hN : 144 < N) : m_X10_islandAt N s (nI (rk q c)) = some (nI c) := by
  have hM := hB.M
  unfold m_X10_islandAt
  have hle : ∀ i, i ≤ c → rk q i ≤ rk q c := fun i hi => rk_mono q hi
  have hr := hB.r hc hp
  refine zl2g1 (fun o => o = some (nI c)) c (fun i v => v = nI (rk q c - rk q i)) ?_ ?_ N 0 _ (by omega) (by omega) rfl
  · intro rec i v hi hv
    right
    unfold m_X10_islandAt_b4 m_X10_islandAt_j16 m_X10_islandAt_j30
    rw [number_m hs (by omega), bd1_some, hv]
    by_cases h : 0 < q i
    · rw [if_neg (ne_pos h), bd1_some, if_neg (Int32.not_le.mpr h)]
      have h2 := rk_lt h hi
      rw [if_neg (show ¬ nI (rk q c - rk q i) ≤ 0 from fun z => by have := (kk0_Ile (by omega)).mp z; omega)]
      simp only [lt1, nI_s]
      refine ⟨_, rfl, ?_⟩
      rw [rk_s1 h, show (1 : Int32) = nI 1 from rfl, pk_sub (by omega)]
      congr 1
    · rw [if_pos (np_z hB.2.2.1 (by omega) h), bd1_some, if_pos (Int32.not_lt.mp h)]
      simp only [lt1, nI_s]
      refine ⟨_, rfl, ?_⟩
      rw [rk_s0 h, Int32.sub_zero]
  · intro rec v hv
    unfold m_X10_islandAt_b4
    rw [number_m hs (by omega), bd1_some, if_neg (ne_pos hp), hv, Nat.sub_self, if_pos (show nI 0 ≤ 0 by decide)]
