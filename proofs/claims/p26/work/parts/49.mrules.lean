/-! the rules of the steps in the reference -/
theorem bI_eq {b : Bool} : bI b = 0 ↔ b = false := bI_0
theorem upd_back {s : Nat → Int32} {i : Nat} {x : Int32} : upd (upd s i x) i (s i) = s := by
  funext j
  by_cases e : j = i
  · subst e; exact upd_s
  · rw [upd_n e, upd_n e]
theorem MB.br {n k : Nat} {br cp s : Nat → Int32} {x : Int32} (h : MB n br cp s) (hn : n ≤ 48) (hk : k < n) : MB n (upd br k x) cp (upd s (148 + k) x) := by
  intro j hj
  by_cases e : j = k
  · subst e
    rw [upd_s, upd_s, upd_n (by omega)]
    exact ⟨rfl, (h j hj).2⟩
  · rw [upd_n e, upd_n (by omega), upd_n (by omega)]
    exact h j hj
theorem MShi {W H i : Nat} {num s : Nat → Int32} {x : Int32} (hs : MS W H num s) (hi : 148 ≤ i) : MS W H num (upd s i x) := ⟨by rw [upd_n (by omega)]; exact hs.1, by rw [upd_n (by omega)]; exact hs.2.1, fun j hj => by rw [upd_n (by omega)]; exact hs.2.2 j hj⟩
theorem closes_m {W H N k : Nat} {num s one other br cp gr : Nat → Int32} {Mw : Int32} {gC : Nat → Nat} (hB : BD W H num) (hs : MS W H num s) (hm : mrep (WL W H num) Mw one other) (hb : MB (WL W H num).length br cp s) (hbo : bo (WL W H num).length br cp) (hG : LabG (WL W H num).length (pF num (WL W H num)) (qF num (WL W H num)) (onB br) gC) (hk : k < (WL W H num).length) (hN : 100000 < N) : Ev (m_X10_closes N Mw s one other gr (nI k)) (fun t => zo t.1 (¬ cp k ≤ br k ∧ cut W H num (WL W H num) br cp gC k) ∧ t.2.1 = s) := by
  have hl := hB.wls
  have hM := hB.M
  have hn := hl.2.2.1.1
  have hwk := hl.2.2.2 k hk
  have hp1 : (gw (WL W H num) k).1 < W * H := Nat.lt_trans hwk.1 hwk.2.1
  unfold m_X10_closes
  rw [capOf_m hb hn hk, bridges_m hb hn hk, bd1_some, bd1_some]
  by_cases c1 : br k < cp k
  · rw [if_pos c1, bd1_some, bd1_some, show (148 : Int32) = nI 148 from rfl, nI_add, wr_nI (by omega) (by omega)]
    have hs5 : MS W H num (upd s (148 + k) (cp k)) := MShi hs (by omega)
    have hb5 : MB (WL W H num).length (upd br k (cp k)) cp (upd s (148 + k) (cp k)) := hb.br hn hk
    obtain ⟨z2, f2, gM, g3, g4⟩ := findGroups_ev (N := N) (gr := gr) hs5 hl hm hb5 hN
    rw [f2, bd1_some]
    have hpos : 0 < cp k := by
      obtain ⟨e1, e2, e3, e4⟩ := hbo.v hk
      rw [e1, e2] at c1
      rw [e2]
      have := (nI_ltI (by omega) (by omega)).mp c1
      exact (kk0_ltI (by omega)).mpr (by omega)
    have hG' := hG.add (on' := onB (upd br k (cp k))) hk (fun j hj => by
      unfold onB
      by_cases e : j = k
      · subst e
        rw [upd_s]
        exact ⟨fun _ => Or.inr rfl, fun _ => hpos⟩
      · rw [upd_n e]
        exact ⟨Or.inl, fun w => by rcases w with w | w; exact w; exact absurd w e⟩)
    have hin : ∀ c, c < W * H → 0 < num c → (gM c = gM (gw (WL W H num) k).1 ↔ inG num (WL W H num) gC k c) := fun c hc hp => by
      obtain ⟨b1, b2, b3⟩ := lab_both hB hG' g4 hc hp
      obtain ⟨d1, d2, d3⟩ := lab_both hB hG' g4 hp1 hwk.2.2.1
      refine Iff.trans ⟨fun e => ?_, fun e => ?_⟩ (jn_eq (c := rk num c) (d := rk num (gw (WL W H num) k).1) (b := gC (qF num (WL W H num) k)) rfl)
      · have := b3.symm.trans ((congrArg (rk num) e).trans d3)
        exact this
      · exact rk_inj b1 d1 (b3.trans (Eq.trans e d3.symm))
    refine Ev.mono (Q := fun t => zo t.1 ((∀ c, c < W * H → 0 < num c → gM c = gM (gw (WL W H num) k).1 → num c - sI (WL W H num) (upd br k (cp k)) c = 0) ∧ ∃ c, c < W * H ∧ 0 < num c ∧ gM c ≠ gM (gw (WL W H num) k).1) ∧ t.2.1 = s) ?_ ?_
    · refine zl3c2 (W * H) (fun i v0 v1 => zo v0 (∀ c, c < i → 0 < num c → gM c = gM (gw (WL W H num) k).1 → num c - sI (WL W H num) (upd br k (cp k)) c = 0) ∧ zo v1 (∃ c, c < i ∧ 0 < num c ∧ gM c ≠ gM (gw (WL W H num) k).1)) ?_ ?_ N 0 _ _ (by omega) (by omega) ⟨Or.inl ⟨rfl, fun c hc => by omega⟩, Or.inr ⟨rfl, fun ⟨c, hc, _⟩ => by omega⟩⟩
      · intro rec i v0 v1 hi hP
        right
        have e117 : ∀ (g : Bool) (w : Int32), m_X10_closes_j117 (upd s (148 + k) (cp k)) rec v1 (nI i) (bI g) w = rec w (if v1 = 0 then (if 0 < num i ∧ g = false then 1 else 0) else 1) (nI (i + 1)) := fun g w => by
          unfold m_X10_closes_j117 m_X10_closes_j141 m_X10_closes_j137 m_X10_closes_j142
          by_cases h1 : v1 = 0
          · rw [if_pos h1, if_pos h1, number_m hs5 (by omega), bd1_some]
            by_cases h2 : 0 < num i
            · rw [if_neg (Int32.not_le.mpr h2)]
              cases g
              · rw [if_pos bI_f, if_pos ⟨h2, rfl⟩]
                simp only [lt1, nI_s]
              · rw [if_neg (show ¬ bI true = 0 by decide), if_neg (fun z => absurd z.2 (by decide))]
                simp only [lt1, nI_s]
            · rw [if_pos (Int32.not_lt.mp h2), if_neg (fun z => h2 z.1)]
              simp only [lt1, nI_s]
          · rw [if_neg h1, if_neg h1]
            simp only [lt1, nI_s]
        have e83 : ∀ g : Bool, m_X10_closes_j83 N Mw one other (upd s (148 + k) (cp k)) rec v0 v1 (nI i) (bI g) = rec (if v0 = 0 then 0 else (if num i = 0 ∨ g = false ∨ num i - sI (WL W H num) (upd br k (cp k)) i = 0 then 1 else 0)) (if v1 = 0 then (if 0 < num i ∧ g = false then 1 else 0) else 1) (nI (i + 1)) := fun g => by
          unfold m_X10_closes_j83 m_X10_closes_j116 m_X10_closes_j112
          rw [e117, e117]
          by_cases h0 : v0 = 0
          · rw [if_pos h0, if_pos h0]
          · rw [if_neg h0, if_neg h0, number_m hs5 (by omega), bd1_some]
            by_cases h1 : num i = 0
            · rw [if_pos h1, if_pos (Or.inl h1)]
            · rw [if_neg h1]
              cases g
              · rw [if_pos bI_f, if_pos (Or.inr (Or.inl rfl))]
              · rw [if_neg (show ¬ bI true = 0 by decide), lacks_m hs5 hl hm hb5 (by omega) (by omega), bd1_some]
                by_cases h2 : num i - sI (WL W H num) (upd br k (cp k)) i = 0
                · rw [if_pos h2, if_pos (Or.inr (Or.inr h2))]
                · rw [if_neg h2, if_neg (show ¬ (num i = 0 ∨ true = false ∨ num i - sI (WL W H num) (upd br k (cp k)) i = 0) from fun z => by
                    rcases z with z | z | z
                    · exact h1 z
                    · exact absurd z (by decide)
                    · exact h2 z)]
        have hgi := g4.2.1 i
        have hgp := g4.2.1 (gw (WL W H num) k).1
        have eb : m_X10_closes_b48 N Mw one other (nI k) (br k) (upd s (148 + k) (cp k)) z2 rec v0 v1 (nI i) = m_X10_closes_j83 N Mw one other (upd s (148 + k) (cp k)) rec v0 v1 (nI i) (bI (decide (gM i = gM (gw (WL W H num) k).1))) := by
          unfold m_X10_closes_b48
          rw [cells_m hs5, bd1_some, if_neg (nI_ge hi (by omega)), rd_nI (by omega) (by omega), rd_nI (by omega) (by omega), (hm.2 k hk).1, rd_nI (by omega) (by omega), g3 i hi, g3 _ hp1]
          by_cases e : gM i = gM (gw (WL W H num) k).1
          · rw [if_pos (show nI (gM i) = nI (gM (gw (WL W H num) k).1) by rw [e]), decide_eq_true e]; rfl
          · rw [if_neg (show ¬ nI (gM i) = nI (gM (gw (WL W H num) k).1) from fun z => e (nI_i (by omega) (by omega) z)), decide_eq_false e]; rfl
        rw [eb, e83]
        have hnz : ¬ 0 < num i → num i = 0 := fun h => np_z hB.2.2.1 (by omega) h
        refine ⟨_, _, rfl, ?_, ?_⟩
        · rcases hP.1 with ⟨rfl, q⟩ | ⟨rfl, q⟩
          · rw [if_neg (show ¬ (1 : Int32) = 0 by decide)]
            by_cases h : num i = 0 ∨ decide (gM i = gM (gw (WL W H num) k).1) = false ∨ num i - sI (WL W H num) (upd br k (cp k)) i = 0
            · rw [if_pos h]
              refine Or.inl ⟨rfl, fun c hc hp he => ?_⟩
              rcases Nat.lt_succ_iff_lt_or_eq.mp hc with r | r
              · exact q c r hp he
              · subst r
                rcases h with h | h | h
                · exact absurd h (ne_pos hp)
                · exact absurd he (of_decide_eq_false h)
                · exact h
            · rw [if_neg h]
              refine Or.inr ⟨rfl, fun z => h ?_⟩
              by_cases h1 : 0 < num i
              · by_cases h2 : gM i = gM (gw (WL W H num) k).1
                · exact Or.inr (Or.inr (z i (by omega) h1 h2))
                · exact Or.inr (Or.inl (decide_eq_false h2))
              · exact Or.inl (hnz h1)
          · rw [if_pos rfl]
            exact Or.inr ⟨rfl, fun z => q (fun c hc hp he => z c (by omega) hp he)⟩
        · rcases hP.2 with ⟨rfl, c, q1, q2⟩ | ⟨rfl, q⟩
          · rw [if_neg (show ¬ (1 : Int32) = 0 by decide)]
            exact Or.inl ⟨rfl, c, by omega, q2⟩
          · rw [if_pos rfl]
            by_cases h : 0 < num i ∧ decide (gM i = gM (gw (WL W H num) k).1) = false
            · rw [if_pos h]
              exact Or.inl ⟨rfl, i, by omega, h.1, of_decide_eq_false h.2⟩
            · rw [if_neg h]
              refine Or.inr ⟨rfl, fun ⟨c, h1, h2, h3⟩ => ?_⟩
              rcases Nat.lt_succ_iff_lt_or_eq.mp h1 with r | r
              · exact q ⟨c, r, h2, h3⟩
              · subst r
                exact h ⟨h2, decide_eq_false h3⟩
      · intro rec v0 v1 hP
        unfold m_X10_closes_b48 m_X10_closes_j150
        rw [cells_m hs5, bd1_some, if_pos (nI_le (Nat.le_refl _) (by omega)), show (148 : Int32) = nI 148 from rfl, nI_add, wr_nI (by omega) (by omega), ← (hb k hk).1, upd_back]
        rcases hP.1 with ⟨rfl, q⟩ | ⟨rfl, q⟩
        · rw [if_neg (show ¬ (1 : Int32) = 0 by decide)]
          rcases hP.2 with ⟨rfl, p⟩ | ⟨rfl, p⟩
          · rw [if_neg (show ¬ (1 : Int32) = 0 by decide)]
            exact Ev.some ⟨Or.inl ⟨rfl, q, p⟩, rfl⟩
          · rw [if_pos rfl]
            exact Ev.some ⟨Or.inr ⟨rfl, fun z => p z.2⟩, rfl⟩
        · rw [if_pos rfl]
          exact Ev.some ⟨Or.inr ⟨rfl, fun z => q z.1⟩, rfl⟩
    · intro t ht
      refine ⟨ht.1.iff ?_, ht.2⟩
      have hla : ∀ c, (num c - sI (WL W H num) (upd br k (cp k)) c = 0 ↔ laI num (WL W H num) br c = if (gw (WL W H num) k).1 = c ∨ (gw (WL W H num) k).2.1 = c then cp k - br k else 0) := fun c => by
        rw [sI_upd hk]
        exact sub_add_0
      refine ⟨fun ⟨z1, c, z2, z3, z4⟩ => ⟨Int32.not_le.mpr c1, fun c hc hp hi => (hla c).mp (z1 c hc hp ((hin c hc hp).mpr hi)), c, z2, z3, fun z => z4 ((hin c z2 z3).mpr z)⟩, fun ⟨_, z1, c, z2, z3, z4⟩ => ⟨fun c hc hp hi => (hla c).mpr (z1 c hc hp ((hin c hc hp).mp hi)), c, z2, z3, fun z => z4 ((hin c z2 z3).mp z)⟩⟩
  · rw [if_neg c1]
    exact Ev.some ⟨Or.inr ⟨rfl, fun z => z.1 (Int32.not_lt.mp c1)⟩, rfl⟩
theorem due_m {W H N k c : Nat} {num s one other br cp : Nat → Int32} {l : List Wy} {Mw : Int32} (hs : MS W H num s) (hl : WLs W H num l) (h : mrep l Mw one other) (hb : MB l.length br cp s) (hc : c < 144) (hk : k < l.length) (hN : 144 < N) : m_X10_due N Mw s one other (nI k) (nI c) = some (dueI num l cp k c) := by
  unfold m_X10_due
  rw [number_m hs hc, bd1_some, capsOf_m hl h hb (by omega) hN, bd1_some, capOf_m hb hl.2.2.1.1 hk, bd1_some]
  rfl
theorem applies_m {W H N R k : Nat} {num s one other br cp gr : Nat → Int32} {Mw : Int32} {gC : Nat → Nat} (hB : BD W H num) (hs : MS W H num s) (hm : mrep (WL W H num) Mw one other) (hb : MB (WL W H num).length br cp s) (hbo : bo (WL W H num).length br cp) (hG : LabG (WL W H num).length (pF num (WL W H num)) (qF num (WL W H num)) (onB br) gC) (hk : k < (WL W H num).length) (hR : 1 ≤ R ∧ R ≤ 4) (hN : 100000 < N) : Ev (m_X10_applies N Mw s one other gr (nI R) (nI k)) (fun t => zo t.1 (ap W H num (WL W H num) br cp gC R k) ∧ t.2.1 = s) := by
  have hl := hB.wls
  have hM := hB.M
  have hn := hl.2.2.1.1
  have hwk := hl.2.2.2 k hk
  have hp1 : (gw (WL W H num) k).1 < W * H := Nat.lt_trans hwk.1 hwk.2.1
  have hp2 := hwk.2.1
  unfold m_X10_applies
  rw [rd_nI (by omega) (by omega), (hm.2 k hk).1, lacks_m hs hl hm hb (by omega) (by omega), bd1_some, rd_nI (by omega) (by omega), (hm.2 k hk).2, lacks_m hs hl hm hb (by omega) (by omega), bd1_some, lesser_mn]
  simp only [lt1]
  have hR4 : R = 1 ∨ R = 2 ∨ R = 3 ∨ R = 4 := by omega
  rcases hR4 with rfl | rfl | rfl | rfl
  · rw [if_pos (show nI 1 = 1 from rfl), bridges_m hb hn hk, bd1_some]
    by_cases c1 : br k = 0
    · rw [if_pos c1, capOf_m hb hn hk, bd1_some]
      by_cases c2 : 0 < cp k
      · rw [if_neg (Int32.not_le.mpr c2), show (1 : Int32) = bI true from rfl, crossings_m hs hl hm hb hk true (by omega), bd1_some]
        by_cases c3 : hX W (WL W H num) br k
        · rw [if_neg (Int32.not_le.mpr ((xI_pos hn).mpr c3))]
          exact Ev.some ⟨Or.inl ⟨rfl, c1, c2, c3⟩, rfl⟩
        · rw [if_pos (Int32.not_lt.mp (fun z => c3 ((xI_pos hn).mp z)))]
          exact Ev.some ⟨Or.inr ⟨rfl, fun z => c3 z.2.2⟩, rfl⟩
      · rw [if_pos (Int32.not_lt.mp c2)]
        exact Ev.some ⟨Or.inr ⟨rfl, fun z => c2 z.2.1⟩, rfl⟩
    · rw [if_neg c1]
      exact Ev.some ⟨Or.inr ⟨rfl, fun z => c1 z.1⟩, rfl⟩
  · rw [if_neg (show ¬ nI 2 = 1 by decide), if_pos (show nI 2 = 2 from rfl), capOf_m hb hn hk, bridges_m hb hn hk, bd1_some, bd1_some]
    by_cases c1 : cp k ≤ br k + mnL num (WL W H num) br k
    · rw [if_pos (show cp k ≤ br k + mnI (num (gw (WL W H num) k).1 - sI (WL W H num) br (gw (WL W H num) k).1) (num (gw (WL W H num) k).2.1 - sI (WL W H num) br (gw (WL W H num) k).2.1) from c1)]
      exact Ev.some ⟨Or.inr ⟨rfl, fun z => z c1⟩, rfl⟩
    · rw [if_neg (show ¬ cp k ≤ br k + mnI (num (gw (WL W H num) k).1 - sI (WL W H num) br (gw (WL W H num) k).1) (num (gw (WL W H num) k).2.1 - sI (WL W H num) br (gw (WL W H num) k).2.1) from c1)]
      exact Ev.some ⟨Or.inl ⟨rfl, c1⟩, rfl⟩
  · rw [if_neg (show ¬ nI 3 = 1 by decide), if_neg (show ¬ nI 3 = 2 by decide), if_pos (show nI 3 = 3 from rfl), bridges_m hb hn hk, bd1_some, rd_nI (by omega) (by omega), (hm.2 k hk).1, due_m hs hl hm hb (by omega) hk (by omega), bd1_some, rd_nI (by omega) (by omega), (hm.2 k hk).2, due_m hs hl hm hb (by omega) hk (by omega), bd1_some, greater_mx]
    by_cases c1 : mxD num (WL W H num) cp k ≤ br k
    · rw [if_pos (show mxI (dueI num (WL W H num) cp k (gw (WL W H num) k).1) (dueI num (WL W H num) cp k (gw (WL W H num) k).2.1) ≤ br k from c1)]
      exact Ev.some ⟨Or.inr ⟨rfl, fun z => z c1⟩, rfl⟩
    · rw [if_neg (show ¬ mxI (dueI num (WL W H num) cp k (gw (WL W H num) k).1) (dueI num (WL W H num) cp k (gw (WL W H num) k).2.1) ≤ br k from c1)]
      exact Ev.some ⟨Or.inl ⟨rfl, c1⟩, rfl⟩
  · rw [if_neg (show ¬ nI 4 = 1 by decide), if_neg (show ¬ nI 4 = 2 by decide), if_neg (show ¬ nI 4 = 3 by decide)]
    obtain ⟨⟨z, z2, z3⟩, e, q, q2⟩ := closes_m (gr := gr) hB hs hm hb hbo hG hk hN
    rw [e, bd3_some]
    rcases q with ⟨q0, q⟩ | ⟨q0, q⟩
    · replace q0 : z = 1 := q0
      subst q0
      exact Ev.some ⟨Or.inl ⟨rfl, q⟩, q2⟩
    · replace q0 : z = 0 := q0
      subst q0
      exact Ev.some ⟨Or.inr ⟨rfl, q⟩, q2⟩
