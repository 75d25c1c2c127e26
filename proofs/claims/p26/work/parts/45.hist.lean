/-! a state of the history against the reference's; what is kept and what comes back -/
def SR (W H : Nat) (num br cp : Nat → Int32) (cols rows grade steps : Int32) (s : Nat → Int32) : Prop :=
  (cols = nI W ∧ rows = nI H) ∧ BD W H num ∧ MS W H num s ∧ MB (WL W H num).length br cp s ∧ bo (WL W H num).length br cp ∧ NX W (WL W H num) br ∧ s 2 = grade ∧ s 3 = steps
theorem Cur.sr {W H : Nat} {num br cp cO iA fi se fC sC st wO s one other : Nat → Int32} {cols rows grade steps Yi Yw Mw : Int32} {cr : Nat → Int64} (h : Cur W H num br cp cols rows grade steps Yi Yw Mw cO iA fi se fC sC st wO s one other cr) : SR W H num br cp cols rows grade steps s := by
  obtain ⟨h1, hB, hL, hs, hm, hb, hbo, hx, hg, hst⟩ := h
  exact ⟨h1, hB, hs, hb, hbo, hx, hg, hst⟩
theorem SR.cur {W H : Nat} {num br cp cO iA fi se fC sC st wO s one other : Nat → Int32} {cols rows grade steps Yi Yw Mw : Int32} {cr : Nat → Int64} (h : SR W H num br cp cols rows grade steps s) (hL : LO W H num Yi Yw cO iA fi se fC sC st wO cr) (hm : mrep (WL W H num) Mw one other) : Cur W H num br cp cols rows grade steps Yi Yw Mw cO iA fi se fC sC st wO s one other cr := by
  obtain ⟨h1, hB, hs, hb, hbo, hx, hg, hst⟩ := h
  exact ⟨h1, hB, hL, hs, hm, hb, hbo, hx, hg, hst⟩
theorem WL_congr {W H : Nat} {num nm : Nat → Int32} (hW : 0 < W) (hM : W * H ≤ 144) (h : ∀ c, c < 144 → num c = nm c) : WL W H num = WL W H nm := wL_congr hW (fun c hc => h c (by omega)) (Nat.le_refl _)
theorem BD.congr {W H : Nat} {num nm : Nat → Int32} (h : ∀ c, c < 144 → num c = nm c) (hB : BD W H num) : BD W H nm := by
  have hM := hB.M
  refine ⟨hB.1, hB.2.1, fun c hc => by rw [← h c hc]; exact hB.2.2.1 c hc, fun c h1 h2 => by rw [← h c h2]; exact hB.2.2.2.1 c h1 h2, ?_⟩
  rw [← rk_congr (fun c (hc : c < W * H) => h c (by omega))]
  exact hB.2.2.2.2
theorem SR.congr {W H : Nat} {num nm br b cp c s z : Nat → Int32} {cols rows grade steps : Int32} (h : SR W H num br cp cols rows grade steps s) (hn : ∀ k, k < 144 → num k = nm k) (hb : ∀ k, k < 48 → br k = b k) (hc : ∀ k, k < 48 → cp k = c k) (hs : ∀ k, k < 244 → s k = z k) : SR W H nm b c cols rows grade steps z := by
  obtain ⟨h1, hB, h2, h3, h4, h5, h6, h7⟩ := h
  have hl := hB.wls.2.2.1.1
  have e := WL_congr (by have := hB.1.1; omega) hB.M hn
  refine ⟨h1, hB.congr hn, ⟨by rw [← hs 0 (by omega)]; exact h2.1, by rw [← hs 1 (by omega)]; exact h2.2.1, fun k hk => by rw [← hs _ (by omega), h2.2.2 k hk, hn k hk]⟩, ?_, ?_, ?_, by rw [← hs 2 (by omega)]; exact h6, by rw [← hs 3 (by omega)]; exact h7⟩
  · rw [← e]
    intro k hk
    rw [← hs _ (by omega), ← hs _ (by omega), (h3 k hk).1, (h3 k hk).2, hb k (by omega), hc k (by omega)]
    exact ⟨rfl, rfl⟩
  · rw [← e]
    intro k hk
    rw [← hb k (by omega), ← hc k (by omega)]
    exact h4 k hk
  · rw [← e]
    intro i j hi hj hx
    rw [← hb i (by omega), ← hb j (by omega)]
    exact h5 i j hi hj hx
def HR (hz : Int32) (HN HB HC : Nat → Nat → Int32) (Hc Hr Hg Hs past : Nat → Int32) : Prop := ∃ h, h ≤ 4 ∧ hz = nI h ∧ ∀ i, i < h → ∃ W H, SR W H (HN i) (HB i) (HC i) (Hc i) (Hr i) (Hg i) (Hs i) (fun k => past (244 * i + k))
theorem cpN_lt {n k : Nat} {f g : Nat → Int32} (h : k < n) : cpN n f g k = f k := by
  show (if 0 ≤ k ∧ k < 0 + n then f (0 + (k - 0)) else g k) = f k
  rw [if_pos ⟨Nat.zero_le _, by omega⟩]
  congr 1
  omega
theorem hset_s {α : Type} {f : Nat → α} {i : Nat} {x : α} : hset f i x i = x := if_pos rfl
theorem hset_n {α : Type} {f : Nat → α} {i j : Nat} {x : α} (h : j ≠ i) : hset f i x j = f j := if_neg h
/-- the reference writes its state into the slice h -/
theorem notes_w {N h : Nat} {s P : Nat → Int32} (hh : h ≤ 3) (hN : 1000 < N) : Ev (m_X10_notes_j49 N s (nI h) P) (fun t => t.1 = nI (h + 1) ∧ (∀ k, k < 244 → t.2 (244 * h + k) = s k) ∧ ∀ m, m < 244 * h → t.2 m = P m) := by
  unfold m_X10_notes_j49
  refine zl2c0 244 (fun i z => (∀ k, k < i → z (244 * h + k) = s k) ∧ ∀ m, m < 244 * h → z m = P m) ?_ ?_ N 0 _ (by omega) (by omega) ⟨fun k hk => by omega, fun m _ => rfl⟩
  · intro rec i z hi hP
    refine Or.inr ⟨upd z (244 * h + i) (s i), ?_, ?_⟩
    · unfold m_X10_notes_b51
      rw [if_neg (kk244_ge hi), rd_nI hi (by omega), show (244 : Int32) = nI 244 from rfl, pk_mul, nI_add, wr_nI (by omega) (by omega)]
      simp only [lt1, nI_s]
    · refine ⟨fun k hk => ?_, fun m hm => ?_⟩
      · rcases Nat.lt_succ_iff_lt_or_eq.mp hk with q | q
        · rw [upd_n (by omega)]; exact hP.1 k q
        · rw [q]; exact upd_s
      · rw [upd_n (by omega)]; exact hP.2 m hm
  · intro rec z hP
    unfold m_X10_notes_b51 m_X10_notes_j85
    rw [if_pos (kk244_le (Nat.le_refl _) (by omega))]
    simp only [lt1, nI_s]
    exact Ev.some ⟨rfl, hP.1, hP.2⟩
theorem notes_4 {N : Nat} {s P : Nat → Int32} (hN : 1000 < N) : Ev (m_X10_notes N (nI 4) s P) (fun t => t.1 = nI 4 ∧ (∀ k, k < 244 → t.2 (732 + k) = s k) ∧ ∀ m, m < 732 → t.2 m = P (m + 244)) := by
  unfold m_X10_notes
  rw [if_pos (by decide)]
  refine zl2c0 732 (fun i z => (∀ m, m < i → z m = P (m + 244)) ∧ ∀ m, i ≤ m → z m = P m) ?_ ?_ N 0 _ (by omega) (by omega) ⟨fun m hm => by omega, fun m _ => rfl⟩
  · intro rec i z hi hP
    refine Or.inr ⟨upd z i (P (i + 244)), ?_, fun m hm => ?_, fun m hm => ?_⟩
    · unfold m_X10_notes_b10
      rw [if_neg (kk732_ge hi), show (244 : Int32) = nI 244 from rfl, nI_add, rd_nI (by omega) (by omega), wr_nI (by omega) (by omega), hP.2 _ (by omega)]
      simp only [lt1, nI_s]
    · rcases Nat.lt_succ_iff_lt_or_eq.mp hm with q | q
      · rw [upd_n (by omega)]; exact hP.1 m q
      · rw [q]; exact upd_s
    · rw [upd_n (by omega)]; exact hP.2 m (by omega)
  · intro rec z hP
    unfold m_X10_notes_b10 m_X10_notes_j39
    rw [if_pos (kk732_le (Nat.le_refl _) (by omega))]
    simp only [lt1]
    rw [show nI 4 - 1 = nI 3 from rfl]
    refine Ev.mono (notes_w (h := 3) (by omega) hN) (fun t ht => ⟨ht.1, fun k hk => ht.2.1 k hk, fun m hm => ?_⟩)
    rw [ht.2.2 m (by omega), hP.1 m hm]
theorem record_lt {num br cp : Nat → Int32} {cols rows grade steps : Int32} {Hb : Nat → Nat} {HN HB HC : Nat → Nat → Int32} {Hc Hr Hg Hs : Nat → Int32} {h : Nat} (hh : h < 4) : m_X1_record cols rows grade steps num br cp (nI h) Hb HN HB HC Hc Hr Hg Hs = some (nI (h + 1), Hb, hset HN h (cpN 144 num (HN h)), hset HB h (cpN 48 br (HB h)), hset HC h (cpN 48 cp (HC h)), hset Hc h cols, hset Hr h rows, hset Hg h grade, hset Hs h steps) := by
  have : h = 0 ∨ h = 1 ∨ h = 2 ∨ h = 3 := by omega
  unfold m_X1_record
  rcases this with rfl | rfl | rfl | rfl
  · rw [if_pos (by decide)]; rfl
  · rw [if_neg (by decide), if_pos (by decide)]; rfl
  · rw [if_neg (by decide), if_neg (by decide), if_pos (by decide)]; rfl
  · rw [if_neg (by decide), if_neg (by decide), if_neg (by decide), if_pos (by decide)]; rfl
/-- both keep the state -/
theorem record_ev {W H N : Nat} {num br cp s past : Nat → Int32} {cols rows grade steps hz : Int32} {Hb : Nat → Nat} {HN HB HC : Nat → Nat → Int32} {Hc Hr Hg Hs : Nat → Int32} (h : SR W H num br cp cols rows grade steps s) (hh : HR hz HN HB HC Hc Hr Hg Hs past) (hN : 1000 < N) :
    ∃ hz' Hb' HN' HB' HC' Hc' Hr' Hg' Hs' past', m_X1_record cols rows grade steps num br cp hz Hb HN HB HC Hc Hr Hg Hs = some (hz', Hb', HN', HB', HC', Hc', Hr', Hg', Hs') ∧ m_X10_notes N hz s past = some (hz', past') ∧ HR hz' HN' HB' HC' Hc' Hr' Hg' Hs' past' := by
  obtain ⟨n, hn, rfl, hr⟩ := hh
  by_cases h4 : n = 4
  · subst h4
    obtain ⟨⟨z1, z⟩, e, q1, q2, q3⟩ := notes_4 (N := N) (s := s) (P := past) hN
    replace q1 : z1 = nI 4 := q1
    replace q2 : ∀ k, k < 244 → z (732 + k) = s k := q2
    replace q3 : ∀ m, m < 732 → z m = past (m + 244) := q3
    subst q1
    refine ⟨_, _, _, _, _, _, _, _, _, _, rfl, e, 4, Nat.le_refl _, rfl, fun i hi => ?_⟩
    by_cases hi3 : i = 3
    · subst hi3
      refine ⟨W, H, ?_⟩
      rw [hset_s, hset_s, hset_s, hset_s, hset_s, hset_s, hset_s]
      exact h.congr (fun k hk => (cpN_lt hk).symm) (fun k hk => (cpN_lt hk).symm) (fun k hk => (cpN_lt hk).symm) (fun k hk => (q2 k hk).symm)
    · obtain ⟨W', H', h'⟩ := hr (i + 1) (by omega)
      refine ⟨W', H', ?_⟩
      rw [hset_n hi3, hset_n hi3, hset_n hi3, hset_n hi3, hset_n hi3, hset_n hi3, hset_n hi3]
      unfold rotF
      rw [if_pos (by omega), if_pos (by omega), if_pos (by omega), if_pos (by omega), if_pos (by omega), if_pos (by omega), if_pos (by omega)]
      refine h'.congr (fun _ _ => rfl) (fun _ _ => rfl) (fun _ _ => rfl) (fun k hk => ?_)
      show past (244 * (i + 1) + k) = z (244 * i + k)
      rw [q3 _ (by omega)]
      congr 1
      omega
  · obtain ⟨⟨z1, z⟩, e, q1, q2, q3⟩ := notes_w (N := N) (h := n) (s := s) (P := past) (by omega) hN
    replace q1 : z1 = nI (n + 1) := q1
    replace q2 : ∀ k, k < 244 → z (244 * n + k) = s k := q2
    replace q3 : ∀ m, m < 244 * n → z m = past m := q3
    subst q1
    refine ⟨_, _, _, _, _, _, _, _, _, z, record_lt (by omega), ?_, n + 1, by omega, rfl, fun i hi => ?_⟩
    · unfold m_X10_notes
      rw [if_neg (fun w => h4 ((kk4_eq (by omega)).mp w))]
      exact e
    by_cases hin : i = n
    · subst hin
      refine ⟨W, H, ?_⟩
      rw [hset_s, hset_s, hset_s, hset_s, hset_s, hset_s, hset_s]
      exact h.congr (fun k hk => (cpN_lt hk).symm) (fun k hk => (cpN_lt hk).symm) (fun k hk => (cpN_lt hk).symm) (fun k hk => (q2 k hk).symm)
    · obtain ⟨W', H', h'⟩ := hr i (by omega)
      refine ⟨W', H', ?_⟩
      rw [hset_n hin, hset_n hin, hset_n hin, hset_n hin, hset_n hin, hset_n hin, hset_n hin]
      refine h'.congr (fun _ _ => rfl) (fun _ _ => rfl) (fun _ _ => rfl) (fun k hk => ?_)
      show past (244 * i + k) = z (244 * i + k)
      rw [q3 _ (by omega)]
theorem restore_lt {num br cp : Nat → Int32} {HN HB HC : Nat → Nat → Int32} {Hc Hr Hg Hs : Nat → Int32} {h : Nat} (hh : h < 4) : m_X1_restore num br cp (nI (h + 1)) HN HB HC Hc Hr Hg Hs = some (Hc h, Hr h, Hg h, Hs h, cpN 144 (HN h) num, cpN 48 (HB h) br, cpN 48 (HC h) cp, nI h) := by
  have : h = 0 ∨ h = 1 ∨ h = 2 ∨ h = 3 := by omega
  unfold m_X1_restore
  rcases this with rfl | rfl | rfl | rfl
  · rw [if_pos (by decide)]; rfl
  · rw [if_neg (by decide), if_pos (by decide)]; rfl
  · rw [if_neg (by decide), if_neg (by decide), if_pos (by decide)]; rfl
  · rw [if_neg (by decide), if_neg (by decide), if_neg (by decide), if_pos (by decide)]; rfl
theorem HR.pop {h : Nat} {HN HB HC : Nat → Nat → Int32} {Hc Hr Hg Hs past : Nat → Int32} (hh : HR (nI (h + 1)) HN HB HC Hc Hr Hg Hs past) (h4 : h < 4) : HR (nI h) HN HB HC Hc Hr Hg Hs past ∧ ∃ W H, SR W H (HN h) (HB h) (HC h) (Hc h) (Hr h) (Hg h) (Hs h) (fun k => past (244 * h + k)) := by
  obtain ⟨n, hn, e, hr⟩ := hh
  have := nI_i (by omega) (by omega) e
  subst this
  exact ⟨⟨h, by omega, rfl, fun i hi => hr i (by omega)⟩, hr h (by omega)⟩
theorem sim_undo {N : Nat} {W H : Nat} {num br cp cO iA fi se fC sC st wO s one other past : Nat → Int32} {cols rows grade steps Yi Yw Mw hz : Int32} {cr : Nat → Int64} {HN HB HC : Nat → Nat → Int32} {Hc Hr Hg Hs : Nat → Int32} (h : Cur W H num br cp cols rows grade steps Yi Yw Mw cO iA fi se fC sC st wO s one other cr) (hh : HR hz HN HB HC Hc Hr Hg Hs past) (hN : 1000 < N) :
    ∃ r cols' rows' grade' steps' num' br' cp' Yi' Yw' cO' iA' fi' se' fC' sC' st' wO' cr' hz' Mw' s' one' other' W' H', m_X9_undo N cols rows grade steps num br cp Yi Yw cO iA fi se fC sC st wO cr hz HN HB HC Hc Hr Hg Hs = some (r, cols', rows', grade', steps', num', br', cp', Yi', Yw', cO', iA', fi', se', fC', sC', st', wO', cr', hz') ∧ m_X10_undo N hz Mw s past one other = some (r, hz', Mw', s', one', other') ∧ Cur W' H' num' br' cp' cols' rows' grade' steps' Yi' Yw' Mw' cO' iA' fi' se' fC' sC' st' wO' s' one' other' cr' ∧ HR hz' HN HB HC Hc Hr Hg Hs past := by
  obtain ⟨n, hn, e, hr⟩ := id hh
  cases n with
  | zero =>
    subst e
    unfold m_X9_undo m_X10_undo
    rw [if_pos (by decide), if_pos (by decide)]
    exact ⟨_, _, _, _, _, _, _, _, _, _, _, _, _, _, _, _, _, _, _, _, _, _, _, _, W, H, rfl, rfl, h, hh⟩
  | succ n =>
    subst e
    obtain ⟨hp, W', H', hs⟩ := hh.pop (by omega)
    have e1 : ∃ z, m_X10_undo N (nI (n + 1)) Mw s past one other = m_X10_undo_j56 N (nI n) z one other ∧ ∀ k, k < 244 → z k = past (244 * n + k) := by
      unfold m_X10_undo
      rw [if_neg (fun w => by have := (kk0_eq (by omega)).mp w; omega), show (1 : Int32) = nI 1 from rfl, pk_sub (by omega), Nat.add_sub_cancel]
      simp only [lt1]
      refine zl2g0 (fun o => ∃ z, o = m_X10_undo_j56 N (nI n) z one other ∧ ∀ k, k < 244 → z k = past (244 * n + k)) 244 (fun i z => ∀ k, k < i → z k = past (244 * n + k)) ?_ ?_ N 0 _ (by omega) (by omega) (fun k hk => by omega)
      · intro rec i z hi hP
        refine Or.inr ⟨upd z i (past (244 * n + i)), ?_, fun k hk => ?_⟩
        · unfold m_X10_undo_b22
          rw [if_neg (kk244_ge hi), show (244 : Int32) = nI 244 from rfl, pk_mul, nI_add, rd_nI (by omega) (by omega), wr_nI hi (by omega)]
          simp only [lt1, nI_s]
        · rcases Nat.lt_succ_iff_lt_or_eq.mp hk with q | q
          · rw [upd_n (by omega)]; exact hP k q
          · rw [q]; exact upd_s
      · intro rec z hP
        unfold m_X10_undo_b22
        rw [if_pos (kk244_le (Nat.le_refl _) (by omega))]
        exact ⟨z, rfl, hP⟩
    obtain ⟨z, e1, hz⟩ := e1
    have hs2 : SR W' H' (cpN 144 (HN n) num) (cpN 48 (HB n) br) (cpN 48 (HC n) cp) (Hc n) (Hr n) (Hg n) (Hs n) z := hs.congr (fun k hk => (cpN_lt hk).symm) (fun k hk => (cpN_lt hk).symm) (fun k hk => (cpN_lt hk).symm) (fun k hk => (hz k hk).symm)
    have hB := hs2.2.1
    obtain ⟨⟨Mw', one', other'⟩, e2, hm⟩ := findWays_ev (N := N) (one := one) (other := other) hB.1 hB.2.1 hB.2.2.1 hB.2.2.2.2 hs2.2.2.1 (by omega)
    obtain ⟨⟨Yi', Yw', cO', iA', fi', se', fC', sC', st', wO', cr'⟩, e3, hL⟩ := read_ev (N := N) (cO := cO) (iA := iA) (fi := fi) (se := se) (fC := fC) (sC := sC) (st := st) (wO := wO) (cr := cr) hB.1 hB.2.1 hB.2.2.2.1 hB.2.2.2.2 (by omega)
    rw [← hs2.1.1, ← hs2.1.2] at e3
    rw [e1]
    unfold m_X9_undo m_X10_undo_j56
    rw [if_neg (fun w => by have := (kk0_eq (by omega)).mp w; omega), restore_lt (by omega), bd8_some, e2, e3, bd3_some, bd11_some]
    exact ⟨_, _, _, _, _, _, _, _, _, _, _, _, _, _, _, _, _, _, _, _, _, _, _, _, W', H', rfl, rfl, hs2.cur hL hm, hp⟩
