/-! make: a board grows -/
def KR (W H n it : Nat) (tk mn kC q s md : Nat → Int32) : Prop := BD W H q ∧ MS W H q s ∧ rk q (W * H) = n ∧ 1 ≤ n ∧ (∀ d, d < W * H → 0 < q d → kC (rk q d) = nI d) ∧ (∀ d, d < 144 → mn d = if 0 < q d then q d - 1 else 0) ∧ (∀ d, d < 144 → tk d = if 0 < q d ∨ md d ≠ 0 then 1 else 0) ∧ (∀ d, d < 144 → 0 < q d → ∃ v, q d = nI v ∧ v ≤ 1 + 2 * it ∧ (n = 1 → v = 1) ∧ (2 ≤ n → 2 ≤ v))
theorem KR.more {W H n it : Nat} {tk mn kC q s md : Nat → Int32} (h : KR W H n it tk mn kC q s md) : KR W H n (it + 1) tk mn kC q s md := by
  obtain ⟨h1, h2, h3, h4, h5, h6, h7, h8⟩ := h
  refine ⟨h1, h2, h3, h4, h5, h6, h7, fun d hd hp => ?_⟩
  obtain ⟨v, v1, v2, v3⟩ := h8 d hd hp
  exact ⟨v, v1, by omega, v3⟩
/-- the cells tg 1 .. tg (i-1) marked in f -/
def mkd (tg : Nat → Nat) (f : Nat → Int32) (i : Nat) (T : Nat → Int32) : Prop := ∀ e, ((∃ j, 1 ≤ j ∧ j < i ∧ e = tg j) ∧ T e = 1) ∨ ((¬ ∃ j, 1 ≤ j ∧ j < i ∧ e = tg j) ∧ T e = f e)
theorem mkd_1 {tg : Nat → Nat} {f : Nat → Int32} : mkd tg f 1 f := fun e => Or.inr ⟨fun ⟨j, h1, h2, _⟩ => by omega, rfl⟩
theorem mkd_s {tg : Nat → Nat} {f T : Nat → Int32} {i : Nat} (h : mkd tg f i T) (hi : 1 ≤ i) : mkd tg f (i + 1) (upd T (tg i) 1) := by
  intro e
  by_cases c : e = tg i
  · left
    exact ⟨⟨i, hi, by omega, c⟩, by rw [c]; exact upd_s⟩
  · rw [upd_n c]
    rcases h e with ⟨⟨j, j1, j2, j3⟩, h2⟩ | ⟨h1, h2⟩
    · exact Or.inl ⟨⟨j, j1, by omega, j3⟩, h2⟩
    · refine Or.inr ⟨fun ⟨j, j1, j2, j3⟩ => ?_, h2⟩
      rcases Nat.lt_succ_iff_lt_or_eq.mp j2 with r | r
      · exact h1 ⟨j, j1, r, j3⟩
      · rw [r] at j3; exact c j3
def fre (q md : Nat → Int32) (tg : Nat → Nat) (i : Nat) : Prop := ∀ j, 1 ≤ j → j < i → ¬ 0 < q (tg j) ∧ md (tg j) = 0
theorem grow_ev {W H n it N c d b z : Nat} {tk mn kC q s md : Nat → Int32} {sp : Int32} {tg : Nat → Nat} (h : KR W H n it tk mn kC q s md) (hn : n < 24) (hit : it < 200) (hc : c < W * H) (hp : 0 < q c) (hd : 2 ≤ d ∧ d ≤ 5) (hb : b = 1 ∨ b = 2) (ht : ∀ i, 1 ≤ i → i ≤ d → nI c + nI i * sp = nI (tg i) ∧ tg i < W * H) (hN : 1000 < N) :
    ∃ n' tk' mn' kC' q' s' md', zl1 (m_X3_tryIsland_b100 N (nI c) (nI d) (nI b) sp (nI n) (nI z) tk mn kC) N 1 = some (nI n', nI z, tk', mn', kC') ∧ zl2 (m_X10_grows_b126 N (nI c) (nI d) (nI b) sp s md) N 1 1 = some (s', md') ∧ KR W H n' (it + 1) tk' mn' kC' q' s' md' ∧ n' ≤ 24 := by
  obtain ⟨h1, h2, h3, h4, h5, h6, h7, h8⟩ := id h
  have hM := h1.M
  -- the class looks at the cells
  have cl : (fre q md tg (d + 1) ∧ zl1 (m_X3_tryIsland_b100 N (nI c) (nI d) (nI b) sp (nI n) (nI z) tk mn kC) N 1 = m_X3_tryIsland_j130 N (nI c) (nI d) (nI b) sp (nI n) (nI z) tk mn kC) ∨ (¬ fre q md tg (d + 1) ∧ zl1 (m_X3_tryIsland_b100 N (nI c) (nI d) (nI b) sp (nI n) (nI z) tk mn kC) N 1 = some (nI n, nI z, tk, mn, kC)) := by
    refine zl1g0 (fun o => (fre q md tg (d + 1) ∧ o = m_X3_tryIsland_j130 N (nI c) (nI d) (nI b) sp (nI n) (nI z) tk mn kC) ∨ (¬ fre q md tg (d + 1) ∧ o = some (nI n, nI z, tk, mn, kC))) (d + 1) (fun i => 1 ≤ i ∧ fre q md tg i) ?_ ?_ N 1 (by omega) (by omega) ⟨Nat.le_refl _, fun j j1 j2 => by omega⟩
    · intro rec i hi hP
      obtain ⟨t1, t2⟩ := ht i hP.1 (by omega)
      unfold m_X3_tryIsland_b100
      rw [if_neg (nI_nlt (by omega) (by omega)), t1, vAt_nI (by omega) (by omega), h7 _ (by omega)]
      simp only [lt1, nI_s]
      by_cases c1 : 0 < q (tg i) ∨ md (tg i) ≠ 0
      · rw [if_pos c1, if_neg (show ¬ (1 : Int32) = 0 by decide)]
        refine Or.inl (Or.inr ⟨fun w => ?_, rfl⟩)
        obtain ⟨w1, w2⟩ := w i hP.1 hi
        rcases c1 with c1 | c1
        · exact w1 c1
        · exact c1 w2
      · rw [if_neg c1, if_pos rfl]
        refine Or.inr ⟨rfl, by omega, fun j j1 j2 => ?_⟩
        rcases Nat.lt_succ_iff_lt_or_eq.mp j2 with r | r
        · exact hP.2 j j1 r
        · rw [r]
          exact ⟨fun w => c1 (Or.inl w), Classical.byContradiction fun w => c1 (Or.inr w)⟩
    · intro rec hP
      unfold m_X3_tryIsland_b100
      rw [if_pos (nI_lt (by omega) (by omega))]
      exact Or.inl ⟨hP.2, rfl⟩
  -- the reference looks at them
  have cm : (fre q md tg (d + 1) ∧ zl2 (m_X10_grows_b126 N (nI c) (nI d) (nI b) sp s md) N 1 1 = zl2 (m_X10_grows_b187 (nI c) (nI d) (nI b) sp s) N 1 md) ∨ (¬ fre q md tg (d + 1) ∧ zl2 (m_X10_grows_b126 N (nI c) (nI d) (nI b) sp s md) N 1 1 = some (s, md)) := by
    refine zl2g1 (fun o => (fre q md tg (d + 1) ∧ o = zl2 (m_X10_grows_b187 (nI c) (nI d) (nI b) sp s) N 1 md) ∨ (¬ fre q md tg (d + 1) ∧ o = some (s, md))) (d + 1) (fun i v => 1 ≤ i ∧ zo v (fre q md tg i)) ?_ ?_ N 1 _ (by omega) (by omega) ⟨Nat.le_refl _, Or.inl ⟨rfl, fun j j1 j2 => by omega⟩⟩
    · intro rec i v hi hP
      obtain ⟨t1, t2⟩ := ht i hP.1 (by omega)
      right
      unfold m_X10_grows_b126 m_X10_grows_j170 m_X10_grows_j171
      rw [if_neg (nI_nlt (by omega) (by omega)), t1, number_m h2 (by omega), bd1_some]
      rcases hP.2 with ⟨rfl, p⟩ | ⟨rfl, p⟩
      · rw [if_neg (show ¬ (1 : Int32) = 0 by decide)]
        by_cases c1 : 0 < q (tg i)
        · rw [if_neg (ne_pos c1)]
          simp only [lt1, nI_s]
          exact ⟨0, rfl, by omega, Or.inr ⟨rfl, fun w => (w i hP.1 (by omega)).1 c1⟩⟩
        · rw [if_pos (np_z h1.2.2.1 (by omega) c1), rd_nI (by omega) (by omega)]
          by_cases c2 : md (tg i) = 0
          · rw [if_pos c2]
            simp only [lt1, nI_s]
            refine ⟨1, rfl, by omega, Or.inl ⟨rfl, fun j j1 j2 => ?_⟩⟩
            rcases Nat.lt_succ_iff_lt_or_eq.mp j2 with r | r
            · exact p j j1 r
            · rw [r]; exact ⟨c1, c2⟩
          · rw [if_neg c2]
            simp only [lt1, nI_s]
            exact ⟨0, rfl, by omega, Or.inr ⟨rfl, fun w => c2 (w i hP.1 (by omega)).2⟩⟩
      · rw [if_pos rfl]
        simp only [lt1, nI_s]
        exact ⟨0, rfl, by omega, Or.inr ⟨rfl, fun w => p (fun j j1 j2 => w j j1 (by omega))⟩⟩
    · intro rec v hP
      unfold m_X10_grows_b126 m_X10_grows_j179
      rw [if_pos (nI_lt (by omega) (by omega))]
      rcases hP.2 with ⟨rfl, p⟩ | ⟨rfl, p⟩
      · rw [if_neg (show ¬ (1 : Int32) = 0 by decide)]
        exact Or.inl ⟨p, rfl⟩
      · rw [if_pos rfl]
        exact Or.inr ⟨p, rfl⟩
  rcases cl with ⟨hf, cl⟩ | ⟨hf, cl⟩
  · rcases cm with ⟨-, cm⟩ | ⟨hf2, -⟩
    · rw [cl, cm]
      obtain ⟨t1, t2⟩ := ht d (by omega) (Nat.le_refl _)
      obtain ⟨ft1, ft2⟩ := hf d (by omega) (by omega)
      have htc : tg d ≠ c := fun e => ft1 (e ▸ hp)
      obtain ⟨v, v1, v2, v3, v4⟩ := h8 c (by omega) hp
      have hqb : q c + nI b = nI (v + b) := by rw [v1, nI_add]
      -- the numbers of the reference then
      have hpos1 : ∀ e, (0 < upd q c (q c + nI b) e ↔ 0 < q e) := fun e => by
        by_cases ec : e = c
        · subst ec
          rw [upd_s, hqb]
          exact ⟨fun _ => hp, fun _ => (kk0_ltI (by omega)).mpr (by omega)⟩
        · rw [upd_n ec]
      have hrk1 : ∀ m, rk (upd q c (q c + nI b)) m = rk q m := fun m => rk_pos (fun j _ => hpos1 j)
      have hft1 : ¬ 0 < upd q c (q c + nI b) (tg d) := fun w => ft1 ((hpos1 _).mp w)
      have hB1 : BD W H (upd q c (q c + nI b)) := h1.upd hc (by rw [hqb]; exact kk0_le (Nat.zero_le _) (by omega)) (Or.inr (Or.inr hp))
      have h1b : (1 : Int32) + nI b = nI (1 + b) := by rw [show (1 : Int32) = nI 1 from rfl, nI_add]
      have hxb : 0 < (1 : Int32) + nI b := by rw [h1b]; exact (kk0_ltI (by omega)).mpr (by omega)
      have hB2 : BD W H (upd (upd q c (q c + nI b)) (tg d) (1 + nI b)) := hB1.upd t2 (Int32.le_of_lt hxb) (Or.inl (by rw [hrk1, h3]; exact hn))
      -- marks of the class
      have m1 : ∃ T, m_X3_tryIsland_j130 N (nI c) (nI d) (nI b) sp (nI n) (nI z) tk mn kC = m_X3_tryIsland_j160 N (nI c) (nI d) (nI b) sp (nI n) (nI z) T mn kC ∧ mkd tg tk d T := by
        unfold m_X3_tryIsland_j130
        refine zl2g0 (fun o => ∃ T, o = m_X3_tryIsland_j160 N (nI c) (nI d) (nI b) sp (nI n) (nI z) T mn kC ∧ mkd tg tk d T) d (fun i T => 1 ≤ i ∧ mkd tg tk i T) ?_ ?_ N 1 _ (by omega) (by omega) ⟨Nat.le_refl _, mkd_1⟩
        · intro rec i T hi hP
          obtain ⟨u1, u2⟩ := ht i hP.1 (by omega)
          unfold m_X3_tryIsland_b133
          rw [if_neg (nI_ge hi (by omega)), u1, vPut_nI (by omega) (by omega)]
          simp only [lt1, nI_s]
          exact Or.inr ⟨_, rfl, by omega, mkd_s hP.2 hP.1⟩
        · intro rec T hP
          unfold m_X3_tryIsland_b133
          rw [if_pos (nI_le (Nat.le_refl _) (by omega))]
          exact ⟨T, rfl, hP.2⟩
      have m2 : ∃ T, zl2 (m_X10_grows_b187 (nI c) (nI d) (nI b) sp s) N 1 md = m_X10_grows_j212 (nI c) (nI d) (nI b) sp s T ∧ mkd tg md d T := by
        refine zl2g0 (fun o => ∃ T, o = m_X10_grows_j212 (nI c) (nI d) (nI b) sp s T ∧ mkd tg md d T) d (fun i T => 1 ≤ i ∧ mkd tg md i T) ?_ ?_ N 1 _ (by omega) (by omega) ⟨Nat.le_refl _, mkd_1⟩
        · intro rec i T hi hP
          obtain ⟨u1, u2⟩ := ht i hP.1 (by omega)
          unfold m_X10_grows_b187
          rw [if_neg (nI_ge hi (by omega)), u1, wr_nI (by omega) (by omega)]
          simp only [lt1, nI_s]
          exact Or.inr ⟨_, rfl, by omega, mkd_s hP.2 hP.1⟩
        · intro rec T hP
          unfold m_X10_grows_b187
          rw [if_pos (nI_le (Nat.le_refl _) (by omega))]
          exact ⟨T, rfl, hP.2⟩
      obtain ⟨T, e1, g1⟩ := m1
      obtain ⟨T2, e2, g2⟩ := m2
      obtain ⟨k, e3, g3⟩ := ins_c (N := N) (M := W * H) (c := tg d) (q := upd q c (q c + nI b)) (tk := T) (kC := kC) hM (by rw [hrk1, h3]; exact hn) t2 hft1 (fun e he hpe => by rw [hrk1]; exact h5 e he ((hpos1 e).mp hpe)) (by omega)
      rw [hrk1, h3] at e3
      rw [e1, e2]
      unfold m_X3_tryIsland_j160 m_X10_grows_j212
      rw [t1]
      simp only [lt1]
      rw [e3, bd3_some, vAdd_nI (by omega) (by omega), vAdd_nI (by omega) (by omega), show (4 : Int32) = nI 4 from rfl, Int32.add_assoc (nI 4), t1, nI_add, nI_add, rd_nI (by omega) (by omega), wr_nI (by omega) (by omega), wr_nI (by omega) (by omega), h2.2.2 c (by omega)]
      refine ⟨n + 1, _, _, _, upd (upd q c (q c + nI b)) (tg d) (1 + nI b), _, _, rfl, rfl, ⟨hB2, (h2.upd (by omega)).upd (by omega), ?_, by omega, fun e he hpe => g3 _ hxb e he hpe, fun e he => ?_, fun e he => ?_, fun e he hpe => ?_⟩, by omega⟩
      · rw [rk_updx hxb hft1, hrk1, h3, if_pos t2]
      · by_cases et : e = tg d
        · subst et
          rw [upd_s, upd_s, if_pos hxb, upd_n htc, h6 _ he, if_neg ft1, Int32.zero_add, Int32.add_comm 1, Int32.add_sub_cancel]
        · rw [upd_n et, upd_n et]
          by_cases ec : e = c
          · subst ec
            rw [upd_s, upd_s, h6 _ he, if_pos hp, hqb, if_pos ((kk0_ltI (by omega)).mpr (by omega)), v1, show (1 : Int32) = nI 1 from rfl, pk_sub (by
              rw [v1] at hp
              have := (kk0_ltI (by omega)).mp hp
              omega), nI_add, pk_sub (by omega)]
            congr 1
            rw [v1] at hp
            have := (kk0_ltI (by omega)).mp hp
            omega
          · rw [upd_n ec, upd_n ec]
            exact h6 e he
      · by_cases et : e = tg d
        · subst et
          rw [upd_s, upd_s, if_pos (Or.inl hxb)]
        · rw [upd_n et, upd_n et]
          rcases g1 e with ⟨j1, j2⟩ | ⟨j1, j2⟩
          · rcases g2 e with ⟨j3, j4⟩ | ⟨j3, -⟩
            · rw [j2, if_pos (Or.inr (by rw [j4]; decide))]
            · exact absurd j1 j3
          · rcases g2 e with ⟨j3, -⟩ | ⟨j3, j4⟩
            · exact absurd j3 j1
            · rw [j2, j4, h7 e he]
              refine ite_iff ⟨fun w => ?_, fun w => ?_⟩
              · rcases w with w | w
                · exact Or.inl ((hpos1 e).mpr w)
                · exact Or.inr w
              · rcases w with w | w
                · exact Or.inl ((hpos1 e).mp w)
                · exact Or.inr w
      · by_cases et : e = tg d
        · subst et
          exact ⟨1 + b, by rw [upd_s, h1b], by omega, fun w => by omega, fun _ => by omega⟩
        · rw [upd_n et] at hpe ⊢
          by_cases ec : e = c
          · subst ec
            rw [upd_s]
            refine ⟨v + b, hqb, by omega, fun w => by omega, fun _ => ?_⟩
            rw [v1] at hp
            have := (kk0_ltI (by omega)).mp hp
            omega
          · rw [upd_n ec] at hpe ⊢
            obtain ⟨w, w1, w2, w3, w4⟩ := h8 e he hpe
            refine ⟨w, w1, by omega, fun r => by omega, fun _ => ?_⟩
            by_cases hn1 : n = 1
            · exfalso
              have heM : e < W * H := by
                rcases Nat.lt_or_ge e (W * H) with r | r
                · exact r
                · rw [h1.2.2.2.1 e r he] at hpe
                  exact absurd hpe (by decide)
              have r1 := rk_lt hpe heM
              have r2 := rk_lt hp hc
              exact ec (rk_inj hpe hp (by omega))
            · exact w4 (by omega)
    · exact absurd hf hf2
  · rcases cm with ⟨hf2, -⟩ | ⟨-, cm⟩
    · exact absurd hf2 hf
    · rw [cl, cm]
      exact ⟨n, tk, mn, kC, q, s, md, rfl, rfl, h.more, by omega⟩
