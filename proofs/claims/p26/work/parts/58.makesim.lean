/-! make: the loop, the numbers, the call -/
theorem lt1_e {A Z : Type} (o : A) (k : A → Z) : lt1 o k = k o := rfl
theorem b75_e {N : Nat} {x2 p it z : Int32} {a o t s md : Nat → Int32} {rec : Int32 → Int32 → (Nat → Int32) → (Nat → Int32) → Option (Int32 × Int32 × Int32 × Int32 × (Nat → Int32) × (Nat → Int32) × (Nat → Int32) × (Nat → Int32) × (Nat → Int32))} : m_X10_make_b75 N x2 p a o t rec it z s md = if 200 ≤ it then m_X10_make_j147 N p z s a o t md else bd1 (m_X10_islands N s) (fun v82 => if x2 ≤ v82 then m_X10_make_j147 N p z s a o t md else bd1 (m_X10_islands N s) (fun v83 => bd2 (m_X10_draw z v83) (fun v84 v85 => bd1 (m_X10_islandAt N s v84) (fun v86 => bd2 (m_X10_draw v85 4) (fun v87 v88 => bd2 (m_X10_draw v88 4) (fun v89 v90 => bd2 (m_X10_draw v90 2) (fun v92 v93 => bd2 (m_X10_grows N s md v86 v87 (2 + v89) (1 + v92)) (fun v95 v96 => rec (it + 1) v93 v95 v96)))))))) := rfl
theorem b77_e {N : Nat} {X A B it n z : Int32} {tk mn kC : Nat → Int32} {rec : Int32 → Int32 → Int32 → (Nat → Int32) → (Nat → Int32) → (Nat → Int32) → Option (Int32 × Int32 × Int32 × Int32 × (Nat → Int32) × (Nat → Int32) × (Nat → Int32))} : m_X3_run_b77 N X A B rec it n z tk mn kC = if 200 ≤ it then some (A, B, n, z, tk, mn, kC) else if X ≤ n then some (A, B, n, z, tk, mn, kC) else bd5 (m_X3_tryIsland N A B n z tk mn kC) (fun v29 v30 v31 v32 v33 => rec (it + 1) v29 v30 v31 v32 v33) := rfl
theorem make_loop {N W H X : Nat} {p : Int32} {a o t : Nat → Int32} (hX : X ≤ 24) (hN : 1000 < N) : ∀ (m it N1 N2 n z : Nat) (tk mn kC q s md : Nat → Int32), it + m = 200 → m < N1 → m < N2 → z < 65537 → KR W H n it tk mn kC q s md → n ≤ 24 →
    ∃ n' z' it' tk' mn' kC' q' s' md', zl6 (m_X3_run_b77 N (nI X) (nI W) (nI H)) N1 (nI it) (nI n) (nI z) tk mn kC = some (nI W, nI H, nI n', nI z', tk', mn', kC') ∧ zl4 (m_X10_make_b75 N (nI X) p a o t) N2 (nI it) (nI z) s md = m_X10_make_j147 N p (nI z') s' a o t md' ∧ KR W H n' it' tk' mn' kC' q' s' md' ∧ n' ≤ 24 ∧ it' ≤ 200 := by
  intro m
  induction m with
  | zero =>
    intro it N1 N2 n z tk mn kC q s md hi h1 h2 hz h hn
    obtain ⟨N1, rfl⟩ : ∃ n, N1 = n + 1 := ⟨N1 - 1, by omega⟩
    obtain ⟨N2, rfl⟩ : ∃ n, N2 = n + 1 := ⟨N2 - 1, by omega⟩
    have e : it = 200 := by omega
    subst e
    refine ⟨n, z, 200, tk, mn, kC, q, s, md, ?_, ?_, h, hn, Nat.le_refl _⟩
    · show m_X3_run_b77 N (nI X) (nI W) (nI H) (zl6 (m_X3_run_b77 N (nI X) (nI W) (nI H)) N1) (nI 200) (nI n) (nI z) tk mn kC = _
      rw [b77_e, if_pos (show (200 : Int32) ≤ nI 200 by decide)]
    · show m_X10_make_b75 N (nI X) p a o t (zl4 (m_X10_make_b75 N (nI X) p a o t) N2) (nI 200) (nI z) s md = _
      rw [b75_e, if_pos (show (200 : Int32) ≤ nI 200 by decide)]
  | succ m ih =>
    intro it N1 N2 n z tk mn kC q s md hi h1 h2 hz h hn
    obtain ⟨N1, rfl⟩ : ∃ n, N1 = n + 1 := ⟨N1 - 1, by omega⟩
    obtain ⟨N2, rfl⟩ : ∃ n, N2 = n + 1 := ⟨N2 - 1, by omega⟩
    obtain ⟨k1, k2, k3, k4, k5, k6, k7, k8⟩ := id h
    have hM := k1.M
    show ∃ n' z' it' tk' mn' kC' q' s' md', m_X3_run_b77 N (nI X) (nI W) (nI H) (zl6 (m_X3_run_b77 N (nI X) (nI W) (nI H)) N1) (nI it) (nI n) (nI z) tk mn kC = _ ∧ m_X10_make_b75 N (nI X) p a o t (zl4 (m_X10_make_b75 N (nI X) p a o t) N2) (nI it) (nI z) s md = _ ∧ _
    have hit : ¬ (200 : Int32) ≤ nI it := fun w => by have := (kk200_leI (by omega)).mp w; omega
    rw [b77_e, b75_e, if_neg hit, if_neg hit, islands_m hM k2 (by omega), k3, bd1_some]
    by_cases c0 : X ≤ n
    · rw [if_pos (nI_le c0 (by omega)), if_pos (nI_le c0 (by omega))]
      exact ⟨n, z, it, tk, mn, kC, q, s, md, rfl, rfl, h, hn, by omega⟩
    · have hXn : ¬ nI X ≤ nI n := nI_ge (by omega) (by omega)
      rw [if_neg hXn, if_neg hXn, bd1_some]
      unfold m_X3_tryIsland
      have hz1 := zn_lt z
      have hz2 := zn_lt (zn z)
      have hz3 := zn_lt (zn (zn z))
      have hz4 := zn_lt (zn (zn (zn z)))
      have hidx : zn z % n < n := Nat.mod_lt _ (by omega)
      obtain ⟨c, c1, c2, c3⟩ := rk_ex (num := q) (m := W * H) (i := zn z % n) (by rw [k3]; exact hidx)
      have hm4 : zn (zn z) % 4 < 4 := Nat.mod_lt _ (by omega)
      have hm4' : zn (zn (zn z)) % 4 < 4 := Nat.mod_lt _ (by omega)
      have hm2 : zn (zn (zn (zn z))) % 2 < 2 := Nat.mod_lt _ (by omega)
      rw [draw_c hz (by omega) (by omega), draw_m hz (by omega) (by omega), bd2_some, bd2_some, vAt_nI (by omega) (by omega), ← c3, k5 c c1 c2, lt1_e, show (4 : Int32) = nI 4 from rfl, show (2 : Int32) = nI 2 from rfl, draw_c hz1 (by omega) (by omega), bd2_some, draw_c hz2 (by omega) (by omega), bd2_some, lt1_e, draw_c hz3 (by omega) (by omega), bd2_some, lt1_e, islandAt_m k1 k2 c1 c2 (by omega), bd1_some, draw_m hz1 (by omega) (by omega), bd2_some, draw_m hz2 (by omega) (by omega), bd2_some, draw_m hz3 (by omega) (by omega), bd2_some, nI_add, show (1 : Int32) = nI 1 from rfl, nI_add, nI_add, nI_add, nI_add, Nat.add_comm (zn (zn (zn z)) % 4) 2, Nat.add_comm (zn (zn (zn (zn z))) % 2) 1]
      obtain ⟨n', tk', mn', kC', q', s', md', d1, d2, d3, d4⟩ := dir_ev (N := N) (c := c) (R := zn (zn z) % 4) (d := 2 + zn (zn (zn z)) % 4) (b := 1 + zn (zn (zn (zn z))) % 2) (z := zn (zn (zn (zn z)))) h (by omega) (by omega) c1 c2 (by omega) (by omega) hm4 hN
      rw [d2, bd2_some, show (if nI 2 ≤ nI (zn (zn z) % 4) then m_X3_tryIsland_j49 N (nI W) (nI H) (nI c) (nI (zn (zn z) % 4)) (nI (2 + zn (zn (zn z)) % 4)) (nI (1 + zn (zn (zn (zn z))) % 2)) (nI n) (nI (zn (zn (zn (zn z))))) tk mn kC (-nI 1) else m_X3_tryIsland_j49 N (nI W) (nI H) (nI c) (nI (zn (zn z) % 4)) (nI (2 + zn (zn (zn z)) % 4)) (nI (1 + zn (zn (zn (zn z))) % 2)) (nI n) (nI (zn (zn (zn (zn z))))) tk mn kC (nI 1)) = some (nI n', nI (zn (zn (zn (zn z)))), tk', mn', kC') from d1, bd5_some]
      exact ih (it + 1) N1 N2 n' _ tk' mn' kC' q' s' md' (by omega) (by omega) (by omega) hz4 d3 d4
/-- the numbers of the board that was made -/
def fin (n : Nat) (q mn : Nat → Int32) (c : Nat) : Int32 := if n = 1 then q c else mn c
theorem fin_1 {W H n it : Nat} {tk mn kC q s md : Nat → Int32} (h : KR W H n it tk mn kC q s md) (hit : it ≤ 200) : BD W H (fin n q mn) ∧ rk (fin n q mn) (W * H) = n := by
  obtain ⟨k1, k2, k3, k4, k5, k6, k7, k8⟩ := h
  have hM := k1.M
  unfold fin
  by_cases c : n = 1
  · simp only [if_pos c]
    exact ⟨k1, k3⟩
  · simp only [if_neg c]
    have hp : ∀ d, d < 144 → (0 < mn d ↔ 0 < q d) ∧ 0 ≤ mn d := fun d hd => by
      rw [k6 d hd]
      by_cases hq : 0 < q d
      · rw [if_pos hq]
        obtain ⟨v, v1, v2, v3, v4⟩ := k8 d hd hq
        have := v4 (by omega)
        rw [v1, show (1 : Int32) = nI 1 from rfl, pk_sub (by omega)]
        exact ⟨⟨fun _ => (kk0_ltI (by omega)).mpr (by omega), fun _ => (kk0_ltI (by omega)).mpr (by omega)⟩, kk0_le (Nat.zero_le _) (by omega)⟩
      · rw [if_neg hq]
        exact ⟨⟨fun w => absurd w (by decide), fun w => absurd w hq⟩, by decide⟩
    have hr : rk mn (W * H) = n := by rw [rk_pos (fun j hj => (hp j (by omega)).1), k3]
    refine ⟨⟨k1.1, k1.2.1, fun d hd => (hp d hd).2, fun d h1 h2 => ?_, ?_⟩, hr⟩
    · show mn d = 0
      rw [k6 d h2, if_neg (by rw [k1.2.2.2.1 d h1 h2]; decide)]
    · rw [hr, ← k3]; exact k1.2.2.2.2
theorem give3 {W H N n it : Nat} {tk mn kC q s md num : Nat → Int32} (h : KR W H n it tk mn kC q s md) (hn : n ≤ 24) (hN : 1000 < N) : ∃ F, m_X3_giveNumbersTo N num (nI n) mn kC = some F ∧ ∀ c, c < 144 → F c = fin n q mn c := by
  obtain ⟨k1, k2, k3, k4, k5, k6, k7, k8⟩ := h
  have hM := k1.M
  have : ∃ G, m_X3_giveNumbersTo N num (nI n) mn kC = m_X3_giveNumbersTo_j31 (nI n) kC G ∧ ∀ c, c < 144 → G c = mn c := by
    unfold m_X3_giveNumbersTo
    refine zl2g0 (fun o => ∃ G, o = m_X3_giveNumbersTo_j31 (nI n) kC G ∧ ∀ c, c < 144 → G c = mn c) 144 (fun i z => ∀ c, c < i → z c = mn c) ?_ ?_ N 0 _ (by omega) (by omega) (fun c hc => by omega)
    · intro rec i z hi hP
      refine Or.inr ⟨upd z i (mn i), ?_, fun c hc => ?_⟩
      · unfold m_X3_giveNumbersTo_b2
        rw [if_neg (kk144_ge hi), vAt_nI hi (by omega)]
        simp only [lt1, nI_s]
        rw [vPut_nI hi (by omega)]
      · rcases Nat.lt_succ_iff_lt_or_eq.mp hc with r | r
        · rw [upd_n (by omega)]; exact hP c r
        · rw [r]; exact upd_s
    · intro rec z hP
      unfold m_X3_giveNumbersTo_b2
      rw [if_pos (kk144_le (Nat.le_refl _) (by omega))]
      exact ⟨z, rfl, hP⟩
  obtain ⟨G, e, hG⟩ := this
  rw [e]
  unfold m_X3_giveNumbersTo_j31 fin
  by_cases c1 : n = 1
  · rw [if_pos ((kk1_eq (by omega)).mpr c1)]
    obtain ⟨c, d1, d2, d3⟩ := rk_ex (num := q) (m := W * H) (i := 0) (by omega)
    obtain ⟨v, v1, v2, v3, v4⟩ := k8 c (by omega) d2
    have e0 : vAt 24 kC 0 = nI c := by rw [show (0 : Int32) = nI 0 from rfl, vAt_nI (by omega) (by omega), ← d3, k5 c d1 d2]
    simp only [lt1, e0]
    rw [vPut_nI (by omega) (by omega)]
    refine ⟨_, rfl, fun e he => ?_⟩
    rw [if_pos c1]
    by_cases ee : e = c
    · subst ee; rw [upd_s, v1, v3 c1]; rfl
    · rw [upd_n ee, hG e he, k6 e he]
      have hne : ¬ 0 < q e := fun hp => by
        have heM : e < W * H := by
          rcases Nat.lt_or_ge e (W * H) with r | r
          · exact r
          · rw [k1.2.2.2.1 e r he] at hp
            exact absurd hp (by decide)
        have := rk_lt hp heM
        exact ee (rk_inj hp d2 (by omega))
      rw [if_neg hne, np_z k1.2.2.1 he hne]
  · rw [if_neg (fun w => c1 ((kk1_eq (by omega)).mp w))]
    exact ⟨G, rfl, fun e he => by rw [if_neg c1]; exact hG e he⟩
theorem take_m {W H N n it : Nat} {p z : Int32} {a o t : Nat → Int32} {tk mn kC q s md : Nat → Int32} (h : KR W H n it tk mn kC q s md) (hn : n ≤ 24) (hN : 1000 < N) : ∃ s', m_X10_make_j147 N p z s a o t md = m_X10_make_j201 N (nI n) p z s' a o t md ∧ MS W H (fin n q mn) s' := by
  obtain ⟨k1, k2, k3, k4, k5, k6, k7, k8⟩ := h
  have hM := k1.M
  unfold m_X10_make_j147
  rw [islands_m hM k2 (by omega), k3, bd1_some]
  have := zl2g0 (b := m_X10_make_b155 N (nI n) p z a o t md) (fun o' => ∃ s', o' = m_X10_make_j201 N (nI n) p z s' a o t md ∧ MS W H (fin n q mn) s') (W * H) (fun i y => y 0 = nI W ∧ y 1 = nI H ∧ ∀ c, c < 144 → y (4 + c) = if c < i then fin n q mn c else q c) ?_ ?_ N 0 s (by omega) (by omega) ⟨k2.1, k2.2.1, fun c hc => by rw [if_neg (Nat.not_lt_zero _)]; exact k2.2.2 c hc⟩
  · exact this
  · intro rec i y hi hP
    obtain ⟨p0, p1, p2⟩ := hP
    have hy : y (4 + i) = q i := by rw [p2 i (by omega), if_neg (Nat.lt_irrefl _)]
    have hcl : m_X10_cells y = some (nI (W * H)) := by
      unfold m_X10_cells
      rw [rd0 (by omega) (by omega), p0, show (1 : Int32) = nI 1 from rfl, rd_nI (by omega) (by omega), p1, pk_mul]
    have hnb : m_X10_number y (nI i) = some (q i) := by
      unfold m_X10_number
      rw [show (4 : Int32) = nI 4 from rfl, nI_add, rd_nI (by omega) (by omega), hy]
    refine Or.inr ⟨upd y (4 + i) (fin n q mn i), ?_, ?_, ?_, fun c hc => ?_⟩
    · unfold m_X10_make_b155 m_X10_make_j192 m_X10_make_j193
      rw [hcl, bd1_some, if_neg (nI_ge hi (by omega)), show (4 : Int32) = nI 4 from rfl, nI_add, rd_nI (by omega) (by omega), hnb, bd1_some, hy, wr_nI (by omega) (by omega), wr_nI (by omega) (by omega), Int32.sub_zero]
      have hfin : fin n q mn i = if q i ≤ 0 then q i else if n ≤ 1 then q i else q i - 1 := by
        unfold fin
        by_cases c1 : n = 1
        · rw [if_pos c1]
          by_cases c2 : q i ≤ 0
          · rw [if_pos c2]
          · rw [if_neg c2, if_pos (by omega)]
        · rw [if_neg c1, k6 i (by omega)]
          by_cases c2 : 0 < q i
          · rw [if_pos c2, if_neg (Int32.not_le.mpr c2), if_neg (by omega)]
          · rw [if_neg c2, if_pos (Int32.not_lt.mp c2), np_z k1.2.2.1 (by omega) c2]
      rw [hfin]
      simp only [lt1, nI_s]
      by_cases c2 : q i ≤ 0
      · rw [if_pos c2, if_pos c2]
      · rw [if_neg c2, if_neg c2]
        by_cases c3 : n ≤ 1
        · rw [if_pos ((kk1_Ile (by omega)).mpr c3), if_pos c3]
        · rw [if_neg (fun w => c3 ((kk1_Ile (by omega)).mp w)), if_neg c3]
    · rw [upd_n (by omega)]; exact p0
    · rw [upd_n (by omega)]; exact p1
    · by_cases e : c = i
      · subst e; rw [upd_s, if_pos (Nat.lt_succ_self _)]
      · rw [upd_n (by omega), p2 c hc]
        exact ite_iff (by omega)
  · intro rec y hP
    obtain ⟨p0, p1, p2⟩ := hP
    have hcl : m_X10_cells y = some (nI (W * H)) := by
      unfold m_X10_cells
      rw [rd0 (by omega) (by omega), p0, show (1 : Int32) = nI 1 from rfl, rd_nI (by omega) (by omega), p1, pk_mul]
    unfold m_X10_make_b155
    rw [hcl, bd1_some, if_pos (nI_le (Nat.le_refl _) (by omega))]
    refine ⟨y, rfl, p0, p1, fun c hc => ?_⟩
    rw [p2 c hc]
    by_cases e : c < W * H
    · rw [if_pos e]
    · rw [if_neg e]
      unfold fin
      by_cases c1 : n = 1
      · rw [if_pos c1]
      · rw [if_neg c1, k6 c hc, k1.2.2.2.1 c (by omega) hc]; rfl
