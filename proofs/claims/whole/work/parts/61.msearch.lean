/-! the search of the reference: a leaf that is a solution, a value that could be -/
theorem whole_fix {W H N : Nat} {num s one other tr : Nat → Int32} {l : List Wy} {Q : Int32 × (Nat → Int32) → Prop} {fl : Int32} {y : Nat → Int32} (hs : MS W H num s) (hl : WLs W H num l) (h : mrep l (nI l.length) one other) (h14 : l.length ≤ 14) (hP : ∀ c, c < W * H → y c = nI c) (hend : ∀ z, (∃ g, (∀ c, c < W * H → z c = nI (g c)) ∧ LabG l.length (pC l) (qC l) (onB tr) g) → Ev (m_X10_isWhole_j158 N s fl z) Q) (hN : 100000 < N) : Ev (m_X10_isWhole_j51 N (nI l.length) s one other tr fl y) Q := by
  have h48 := hl.2.2.1.1
  have hM := hl.2.1
  unfold m_X10_isWhole_j51
  refine zl2m (fun ch gr => ∃ g, (∀ c, c < W * H → gr c = nI (g c)) ∧ PL l.length (pC l) (qC l) (onB tr) g ∧ ((ch = 0 ∧ ∀ k, k < l.length → onB tr k → g (pC l k) = g (qC l k)) ∨ ch = 1)) (fun ch gr => if ch = 0 then 0 else 1 + nS (fun c => (gr c).toNatClampNeg) (W * H)) ?_ N 1 y ⟨fun c => c, hP, ⟨fun c => Nat.le_refl c, fun h _ c => rfl⟩, Or.inr rfl⟩ (by
    rw [if_neg (by decide)]
    have := nS_le (f := fun c => (y c).toNatClampNeg) (B := 144) (n := W * H) (fun k hk => by rw [hP k hk, nI_clamp (by omega)]; omega)
    have : W * H * 144 ≤ 144 * 144 := Nat.mul_le_mul_right 144 hM
    omega)
  rintro rec2 ch gr0 ⟨g0, hg0, hpl0, hch⟩
  unfold m_X10_isWhole_b53
  rcases hch with ⟨rfl, hlab⟩ | rfl
  · rw [if_pos rfl]
    exact Or.inl (hend gr0 ⟨g0, hg0, hlab, hpl0.1, hpl0.2⟩)
  · rw [if_neg (by decide)]
    refine Or.inr ?_
    have hsum0 : nS (fun c => (gr0 c).toNatClampNeg) (W * H) = nS g0 (W * H) := nS_congr (fun k hk => by rw [hg0 k hk, nI_clamp (by have := hpl0.1 k; omega)])
    have key : (fun o => ∃ w0 w1, o = rec2 w0 w1 ∧ (∃ g, (∀ c, c < W * H → w1 c = nI (g c)) ∧ PL l.length (pC l) (qC l) (onB tr) g ∧ ((w0 = 0 ∧ ∀ k, k < l.length → onB tr k → g (pC l k) = g (qC l k)) ∨ w0 = 1)) ∧ (if w0 = 0 then 0 else 1 + nS (fun c => (w1 c).toNatClampNeg) (W * H)) < 1 + nS (fun c => (gr0 c).toNatClampNeg) (W * H)) (zl3 (m_X10_isWhole_b61 (nI l.length) one other tr rec2) N 0 (nI 0) gr0) := by
      refine zl3g1 (fun o => ∃ w0 w1, o = rec2 w0 w1 ∧ (∃ g, (∀ c, c < W * H → w1 c = nI (g c)) ∧ PL l.length (pC l) (qC l) (onB tr) g ∧ ((w0 = 0 ∧ ∀ k, k < l.length → onB tr k → g (pC l k) = g (qC l k)) ∨ w0 = 1)) ∧ (if w0 = 0 then 0 else 1 + nS (fun c => (w1 c).toNatClampNeg) (W * H)) < 1 + nS (fun c => (gr0 c).toNatClampNeg) (W * H)) l.length (fun (k : Nat) (ch : Int32) (gr : Nat → Int32) => ∃ g, (∀ c, c < W * H → gr c = nI (g c)) ∧ PL l.length (pC l) (qC l) (onB tr) g ∧ nS g (W * H) ≤ nS g0 (W * H) ∧ ((ch = 0 ∧ ∀ j, j < k → onB tr j → g (pC l j) = g (qC l j)) ∨ (ch = 1 ∧ nS g (W * H) < nS g0 (W * H)))) ?_ ?_ N 0 (0 : Int32) gr0 (by omega) (by omega) ⟨g0, hg0, hpl0, Nat.le_refl _, Or.inl ⟨rfl, fun j hj => by omega⟩⟩
      · rintro rec3 k ch gr hk ⟨g, hg, hpl, hle, hc⟩
        refine Or.inr ?_
        obtain ⟨f1, f2⟩ := h.2 k hk
        obtain ⟨w1, w2, w3, w4, -⟩ := hl.2.2.2 k hk
        have hp : pC l k < W * H := Nat.lt_trans w1 w2
        have hq : qC l k < W * H := w2
        have hpq : pC l k ≠ qC l k := Nat.ne_of_lt w1
        have hgp := hpl.1 (pC l k)
        have hgq := hpl.1 (qC l k)
        have f3 : gr (gw l k).1 = nI (g (pC l k)) := hg _ hp
        have f4 : gr (gw l k).2.1 = nI (g (qC l k)) := hg _ hq
        have hp2 : (gw l k).1 < 144 := by have : (gw l k).1 < W * H := hp; omega
        have hq2 : (gw l k).2.1 < 144 := by have : (gw l k).2.1 < W * H := hq; omega
        unfold m_X10_isWhole_b61
        rw [if_neg (nI_ge hk (by omega)), rd_nI (by omega) (by omega), f1, rd_nI hp2 (by omega), rd_nI (by omega) (by omega), f2, rd_nI hq2 (by omega), f3, f4, rd_nI (show k < 14 by omega) (by omega)]
        by_cases hon : 0 < tr k
        · rw [if_neg (fun z => absurd hon (Int32.not_lt.mpr z))]
          by_cases heq : g (pC l k) = g (qC l k)
          · rw [if_pos (by rw [heq])]
            unfold m_X10_isWhole_j149
            simp only [lt1, nI_s]
            refine ⟨_, _, rfl, g, hg, hpl, hle, ?_⟩
            rcases hc with ⟨c1, c2⟩ | c1
            · refine Or.inl ⟨c1, fun j hj ho => ?_⟩
              rcases Nat.lt_or_ge j k with z | z
              · exact c2 j z ho
              · have : j = k := by omega
                subst this; exact heq
            · exact Or.inr c1
          · rw [if_neg (fun z => heq (nI_i (by omega) (by omega) z)), rd_nI (by omega) (by omega), f1]
            simp only [lt1]
            rw [lesser_m (by omega) (by omega), wr_nI hp2 (by omega), rd_nI (by omega) (by omega), f2, wr_nI hq2 (by omega)]
            unfold m_X10_isWhole_j149
            simp only [lt1, nI_s]
            have hs2 := st2_sum hpq hp hq heq
            refine ⟨_, _, rfl, st2 g (pC l k) (qC l k) (min (g (pC l k)) (g (qC l k))), fun c hcM => ?_, hpl.set hk hon, by omega, Or.inr ⟨rfl, by omega⟩⟩
            unfold st2
            by_cases e1 : c = qC l k
            · rw [if_pos e1, e1]; exact upd_s
            · rw [if_neg e1, upd_n (show c ≠ (gw l k).2.1 from e1)]
              by_cases e2 : c = pC l k
              · rw [if_pos e2, e2]; exact upd_s
              · rw [if_neg e2, upd_n (show c ≠ (gw l k).1 from e2)]; exact hg c hcM
        · rw [if_pos (Int32.not_lt.mp hon)]
          unfold m_X10_isWhole_j149
          simp only [lt1, nI_s]
          refine ⟨_, _, rfl, g, hg, hpl, hle, ?_⟩
          rcases hc with ⟨c1, c2⟩ | c1
          · refine Or.inl ⟨c1, fun j hj ho => ?_⟩
            rcases Nat.lt_or_ge j k with z | z
            · exact c2 j z ho
            · have : j = k := by omega
              subst this; exact absurd ho hon
          · exact Or.inr c1
      · rintro rec3 ch gr ⟨g, hg, hpl, hle, hc⟩
        unfold m_X10_isWhole_b61
        rw [if_pos (nI_le (Nat.le_refl _) (by omega))]
        unfold m_X10_isWhole_j155
        have hsum : nS (fun c => (gr c).toNatClampNeg) (W * H) = nS g (W * H) := nS_congr (fun k hk => by rw [hg k hk, nI_clamp (by have := hpl.1 k; omega)])
        refine ⟨ch, gr, rfl, ⟨g, hg, hpl, ?_⟩, ?_⟩
        · rcases hc with ⟨c1, c2⟩ | ⟨c1, -⟩
          · exact Or.inl ⟨c1, c2⟩
          · exact Or.inr c1
        · rcases hc with ⟨c1, -⟩ | ⟨c1, c2⟩
          · rw [if_pos c1]; omega
          · rw [if_neg (by rw [c1]; decide), hsum, hsum0]; omega
    obtain ⟨w0, w1, e, hi, hm⟩ := key
    exact ⟨w0, w1, e, hi, by rw [if_neg (show ¬ (1 : Int32) = 0 by decide)]; exact hm⟩
theorem icnt_ic {l : List Wy} {c : Nat} : icnt l c = nI (ic l c 0) := by
  unfold icnt ic
  refine iS_nS fun k hk => ?_
  show (if _ then _ else _) = nI (if _ then _ else _)
  by_cases e : (gw l k).1 = c ∨ (gw l k).2.1 = c
  · rw [if_pos e, if_pos ⟨Nat.zero_le _, e⟩]; rfl
  · rw [if_neg e, if_neg (fun z => e z.2)]; rfl
theorem whole_m {W H N : Nat} {num s one other tr gr fi se fC sC st : Nat → Int32} {Yw Mw : Int32} (hB : BD W H num) (h4 : wrep num (WL W H num) Yw fi se fC sC st) (hs : MS W H num s) (h : mrep (WL W H num) Mw one other) (h14 : (WL W H num).length ≤ 14) (hN : 100000 < N) : Ev (m_X10_isWhole N Mw s one other gr tr) (fun t => zo t.1 ((∀ c, c < W * H → 0 < num c → 0 < ic (WL W H num) c 0) ∧ grp W H num tr 1)) := by
  have hl := hB.wls
  have hM := hl.2.1
  have hMw := h.1
  subst hMw
  unfold m_X10_isWhole
  refine zl3c1 (W * H) (fun i fl y => zo fl (∀ c, c < i → 0 < num c → 0 < ic (WL W H num) c 0) ∧ ∀ j, j < i → y j = nI j) ?_ ?_ N 0 _ _ (by omega) (by omega) ⟨Or.inl ⟨rfl, fun c hc => by omega⟩, fun j h => by omega⟩
  · intro rec i fl y hi hP
    right
    have e37 : ∀ w, m_X10_isWhole_j37 rec (nI i) y w = rec w (nI (i + 1)) (upd y i (nI i)) := fun w => by
      unfold m_X10_isWhole_j37
      rw [wr_nI (by omega) (by omega)]
      simp only [lt1, nI_s]
    have hup : ∀ j, j < i + 1 → upd y i (nI i) j = nI j := fun j hj => by
      rcases Nat.lt_or_ge j i with q | q
      · rw [upd_n (by omega)]; exact hP.2 j q
      · have : j = i := by omega
        subst this; exact upd_s
    have nxt : (∀ c, c < i → 0 < num c → 0 < ic (WL W H num) c 0) → (0 < num i → 0 < ic (WL W H num) i 0) → ∀ c, c < i + 1 → 0 < num c → 0 < ic (WL W H num) c 0 := fun a b c hc hp => by
      rcases Nat.lt_succ_iff_lt_or_eq.mp hc with q | q
      · exact a c q hp
      · rw [q] at hp ⊢; exact b hp
    unfold m_X10_isWhole_b4 m_X10_isWhole_j36 m_X10_isWhole_j32
    rw [cells_m hs, bd1_some, if_neg (nI_ge hi (by omega)), e37, e37, number_m hs (by omega), bd1_some, waysOf_m hl h (by omega) (by omega), bd1_some, icnt_ic]
    have hic := ic_le (l := WL W H num) (c := i) (k := 0)
    rcases hP.1 with ⟨rfl, q⟩ | ⟨rfl, q⟩
    · rw [if_neg (show ¬ (1 : Int32) = 0 by decide)]
      by_cases c1 : num i = 0
      · rw [if_pos c1]
        exact ⟨_, _, rfl, Or.inl ⟨rfl, nxt q (fun z => absurd c1 (ne_pos z))⟩, hup⟩
      · rw [if_neg c1]
        by_cases c2 : 0 < ic (WL W H num) i 0
        · rw [if_neg (fun z => by have := (kk0_Ile (by omega)).mp z; omega)]
          exact ⟨_, _, rfl, Or.inl ⟨rfl, nxt q (fun _ => c2)⟩, hup⟩
        · rw [if_pos ((kk0_Ile (by omega)).mpr (by omega))]
          exact ⟨_, _, rfl, Or.inr ⟨rfl, fun z => c2 (z i (by omega) (pos_ne (hB.2.2.1 i (by omega)) c1))⟩, hup⟩
    · rw [if_pos rfl]
      exact ⟨_, _, rfl, Or.inr ⟨rfl, fun z => q (fun c hc hp => z c (by omega) hp)⟩, hup⟩
  · intro rec fl y hP
    unfold m_X10_isWhole_b4
    rw [cells_m hs, bd1_some, if_pos (nI_le (Nat.le_refl _) (by omega))]
    refine whole_fix hs hl h h14 (fun c hc => hP.2 c hc) (fun z hz => ?_) hN
    obtain ⟨gM, g3, g4⟩ := hz
    obtain ⟨z1, f1, gC, g1, g2⟩ := groups_ev (N := N) (br := tr) (ld := z) hB h4 (by omega)
    unfold m_X10_isWhole_j158
    rcases hP.1 with ⟨rfl, q⟩ | ⟨rfl, q⟩
    · rw [if_neg (show ¬ (1 : Int32) = 0 by decide), cells_m hs, bd1_some, groupsBelow_m (gC := gC) hM hs g3 g4.2.1 (fun c hc hp => by obtain ⟨b1, b2, b3⟩ := lab_both hB g2 g4 hc hp; exact ⟨b1, b3⟩) (by omega) (by omega), bd1_some]
      have hg : grp W H num tr (gB num gC (W * H)) := ⟨gC, g2, rfl⟩
      by_cases c1 : gB num gC (W * H) = 1
      · rw [if_pos c1]
        rw [c1] at hg
        exact Ev.some (Or.inl ⟨rfl, q, hg⟩)
      · rw [if_neg c1]
        exact Ev.some (Or.inr ⟨rfl, fun w => c1 (grp_uniq hg w.2)⟩)
    · rw [if_pos rfl]
      exact Ev.some (Or.inr ⟨rfl, fun w => q w.1⟩)
/-- one way's end could be -/
theorem couldBe_m {W H N n c k : Nat} {num s one other tr : Nat → Int32} {l : List Wy} {Mw : Int32} {a : Nat → Nat} (hs : MS W H num s) (hl : WLs W H num l) (h : mrep l Mw one other) (hn : nn num) (h14 : l.length ≤ 14) (hc : c < 144) (hk : k < l.length) (ha : lowA (k + 1) a) (ht : ∀ i, i ≤ k → tr i = nI (a i)) (hN : 1000 < N) : Ev (m_X10_couldBe N Mw s one other tr (nI c) (nI k)) (fun z => zo z (fit num l a c k)) := by
  have hMw := h.1
  subst hMw
  obtain ⟨m, hm, hm2⟩ := nI_ex (hn c hc)
  have hv : vN num c = m := by unfold vN; rw [hm, nI_clamp hm2]
  unfold m_X10_couldBe
  refine zl3c2 l.length (fun i v0 v1 => v0 = nI (nS (fun j => if (gw l j).1 = c ∨ (gw l j).2.1 = c then a j else 0) i) ∧ v1 = nI (2 * nS (fun j => if k + 1 ≤ j ∧ ((gw l j).1 = c ∨ (gw l j).2.1 = c) then 1 else 0) i)) ?_ ?_ N 0 _ _ (by omega) (by omega) ⟨rfl, rfl⟩
  · intro rec i v0 v1 hi hP
    obtain ⟨rfl, rfl⟩ := hP
    right
    refine ⟨_, _, ?_, rfl, rfl⟩
    have e63 : ∀ x y : Int32, m_X10_couldBe_j63 rec x y (nI i) = rec x y (nI (i + 1)) := fun x y => by
      unfold m_X10_couldBe_j63
      simp only [lt1, nI_s]
    have e60 : ∀ x y z : Int32, m_X10_couldBe_j60 rec x (nI i) y z = rec x (y + z) (nI (i + 1)) := fun x y z => by
      unfold m_X10_couldBe_j60
      rw [lt1_e, e63]
    have e45 : ∀ x y z : Int32, m_X10_couldBe_j45 (nI k) rec x (nI i) y z = rec (y + z) (x + (if k + 1 ≤ i then 2 else 0)) (nI (i + 1)) := fun x y z => by
      unfold m_X10_couldBe_j45
      rw [lt1_e, e60, e60]
      by_cases q : k + 1 ≤ i
      · rw [if_pos q, if_neg (nI_ge (by omega) (by omega))]
      · rw [if_neg q, if_pos (nI_le (by omega) (by omega))]
    unfold m_X10_couldBe_b8
    rw [if_neg (nI_ge hi (by omega)), isOf_m hl h hi (by omega), bd1_some, e63, e45]
    show _ = rec (nI (nS _ i + (if (gw l i).1 = c ∨ (gw l i).2.1 = c then a i else 0))) (nI (2 * (nS _ i + (if k + 1 ≤ i ∧ ((gw l i).1 = c ∨ (gw l i).2.1 = c) then 1 else 0)))) (nI (i + 1))
    by_cases q : (gw l i).1 = c ∨ (gw l i).2.1 = c
    · rw [decide_eq_true q, if_neg (show ¬ bI true = 0 by decide), if_pos q]
      by_cases q2 : k < i
      · rw [if_pos (nI_lt q2 (by omega)), if_pos (show k + 1 ≤ i from q2), if_pos (show k + 1 ≤ i ∧ ((gw l i).1 = c ∨ (gw l i).2.1 = c) from ⟨q2, q⟩), Int32.add_zero, ha.1 i q2, show (2 : Int32) = nI 2 from rfl, nI_add, Nat.mul_add]
        rfl
      · rw [if_neg (nI_nlt (by omega) (by omega)), rd_nI (by omega) (by omega), ht i (by omega), e45, if_neg (show ¬ k + 1 ≤ i from q2), if_neg (show ¬ (k + 1 ≤ i ∧ ((gw l i).1 = c ∨ (gw l i).2.1 = c)) from fun z => q2 z.1), Int32.add_zero, nI_add]
        rfl
    · rw [decide_eq_false q, if_pos (show bI false = 0 by decide), if_neg q, if_neg (show ¬ (k + 1 ≤ i ∧ ((gw l i).1 = c ∨ (gw l i).2.1 = c)) from fun z => q z.2)]
      rfl
  · intro rec v0 v1 hP
    obtain ⟨rfl, rfl⟩ := hP
    unfold m_X10_couldBe_b8 m_X10_couldBe_j69
    rw [if_pos (nI_le (Nat.le_refl _) (by omega)), number_m hs hc, bd1_some, hm, nI_add]
    have b1 : sN l a c ≤ 2 * l.length := sN_le (fun i _ => ha.2 i)
    have b2 := ic_le (l := l) (c := c) (k := k + 1)
    unfold fit
    rw [hv]
    have e1 : nS (fun j => if (gw l j).1 = c ∨ (gw l j).2.1 = c then a j else 0) l.length = sN l a c := rfl
    have e2 : nS (fun j => if k + 1 ≤ j ∧ ((gw l j).1 = c ∨ (gw l j).2.1 = c) then 1 else 0) l.length = ic l c (k + 1) := rfl
    rw [e1, e2]
    by_cases q1 : m < sN l a c
    · rw [if_pos (nI_lt q1 (by omega))]
      exact Ev.some (Or.inr ⟨rfl, fun z => by omega⟩)
    · rw [if_neg (nI_nlt (by omega) (by omega)), bd1_some]
      by_cases q2 : sN l a c + 2 * ic l c (k + 1) < m
      · rw [if_pos (nI_lt q2 (by omega))]
        exact Ev.some (Or.inr ⟨rfl, fun z => by omega⟩)
      · rw [if_neg (nI_nlt (by omega) (by omega))]
        exact Ev.some (Or.inl ⟨rfl, by omega, by omega⟩)
theorem could_m {W H N k : Nat} {num s one other tr : Nat → Int32} {l : List Wy} {Mw : Int32} {a : Nat → Nat} (hs : MS W H num s) (hl : WLs W H num l) (h : mrep l Mw one other) (hn : nn num) (h14 : l.length ≤ 14) (hk : k < l.length) (ha : lowA (k + 1) a) (ht : ∀ i, i ≤ k → tr i = nI (a i)) (hN : 1000 < N) : Ev (m_X10_could N Mw s one other tr (nI k)) (fun z => zo z (al W num l a k)) := by
  have hM := hl.2.1
  obtain ⟨w1, w2, -⟩ := hl.2.2.2 k hk
  unfold m_X10_could
  refine zl2c1 k (fun i v => zo v (0 < a k → ∀ j, j < i → crs W (gw l k) (gw l j) = true → a j = 0)) ?_ ?_ N 0 _ (by omega) (by omega) (Or.inl ⟨rfl, fun _ j hj => by omega⟩)
  · intro rec i v hi hP
    right
    have e45 : ∀ w, m_X10_could_j45 rec (nI i) w = rec w (nI (i + 1)) := fun w => by
      unfold m_X10_could_j45
      simp only [lt1, nI_s]
    unfold m_X10_could_b4 m_X10_could_j44 m_X10_could_j40
    rw [if_neg (nI_ge hi (by omega)), e45, e45]
    rcases hP with ⟨rfl, q⟩ | ⟨rfl, q⟩
    · rw [if_neg (show ¬ (1 : Int32) = 0 by decide), rd_nI (by omega) (by omega), ht k (Nat.le_refl _), rd_nI (by omega) (by omega), ht i (by omega), cross_m hs hl h hk (by omega), bd1_some]
      have ak := ha.2 k
      have ai := ha.2 i
      have nxt : (0 < a k → crs W (gw l k) (gw l i) = true → a i = 0) → (0 < a k → ∀ j, j < i + 1 → crs W (gw l k) (gw l j) = true → a j = 0) := fun z p j hj hx => by
        rcases Nat.lt_succ_iff_lt_or_eq.mp hj with r | r
        · exact q p j r hx
        · rw [r] at hx ⊢; exact z p hx
      by_cases c1 : a k = 0
      · rw [if_pos ((kk0_eq (by omega)).mpr c1)]
        exact ⟨_, rfl, Or.inl ⟨rfl, nxt (fun p => by omega)⟩⟩
      · rw [if_neg (fun z => c1 ((kk0_eq (by omega)).mp z))]
        by_cases c2 : a i = 0
        · rw [if_pos ((kk0_eq (by omega)).mpr c2)]
          exact ⟨_, rfl, Or.inl ⟨rfl, nxt (fun _ _ => c2)⟩⟩
        · rw [if_neg (fun z => c2 ((kk0_eq (by omega)).mp z))]
          cases hx : crs W (gw l k) (gw l i)
          · rw [if_pos bI_f]
            exact ⟨_, rfl, Or.inl ⟨rfl, nxt (fun _ z => by rw [hx] at z; exact absurd z (by decide))⟩⟩
          · rw [if_neg (show ¬ bI true = 0 by decide)]
            exact ⟨_, rfl, Or.inr ⟨rfl, fun z => c2 (z (by omega) i (by omega) hx)⟩⟩
    · rw [if_pos rfl]
      exact ⟨_, rfl, Or.inr ⟨rfl, fun z => q (fun p j hj hx => z p j (by omega) hx)⟩⟩
  · intro rec v hP
    unfold m_X10_could_b4 m_X10_could_j52
    rw [if_pos (nI_le (Nat.le_refl _) (by omega))]
    rcases hP with ⟨rfl, q⟩ | ⟨rfl, q⟩
    · rw [if_neg (show ¬ (1 : Int32) = 0 by decide), rd_nI (by omega) (by omega), (h.2 k hk).1, rd_nI (by omega) (by omega), (h.2 k hk).2]
      obtain ⟨z1, e1, q1⟩ := couldBe_m (N := N) (n := 0) (c := (gw l k).1) (k := k) (tr := tr) hs hl h hn h14 (by omega) hk ha ht hN
      obtain ⟨z2, e2, q2⟩ := couldBe_m (N := N) (n := 0) (c := (gw l k).2.1) (k := k) (tr := tr) hs hl h hn h14 (by omega) hk ha ht hN
      rw [e1, bd1_some]
      rcases q1 with ⟨rfl, q1⟩ | ⟨rfl, q1⟩
      · rw [if_neg (show ¬ (1 : Int32) = 0 by decide), e2, bd1_some]
        rcases q2 with ⟨rfl, q2⟩ | ⟨rfl, q2⟩
        · rw [if_neg (show ¬ (1 : Int32) = 0 by decide)]
          exact Ev.some (Or.inl ⟨rfl, q, q1, q2⟩)
        · rw [if_pos rfl]
          exact Ev.some (Or.inr ⟨rfl, fun z => q2 z.2.2⟩)
      · rw [if_pos rfl]
        exact Ev.some (Or.inr ⟨rfl, fun z => q1 z.2.1⟩)
    · rw [if_pos rfl]
      exact Ev.some (Or.inr ⟨rfl, fun z => q z.1⟩)
