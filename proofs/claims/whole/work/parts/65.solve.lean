/-! solutions, inAll -/
theorem allCanFit_ev {W H N : Nat} {num cO iA fi se fC sC st wO lac opn : Nat → Int32} {Yi Yw : Int32} {cr : Nat → Int64} (hB : BD W H num) (hL : LO W H num Yi Yw cO iA fi se fC sC st wO cr) (hN : 1000 < N) : Ev (m_X5_allCanFit N num Yi cO wO lac opn) (fun t => zo t.1 (∀ c, c < W * H → 0 < num c → vN num c ≤ 2 * ic (WL W H num) c 0) ∧ (∀ c, c < W * H → 0 < num c → t.2.1 (rk num c) = num c) ∧ ∀ c, c < W * H → 0 < num c → t.2.2 (rk num c) = nI (2 * ic (WL W H num) c 0)) := by
  have hM := hB.M
  have hr := hB.2.2.2.2
  have hn := hB.wls.2.2.1.1
  unfold m_X5_allCanFit
  rw [hL.1]
  refine zl4c1 (rk num (W * H)) (fun i fl lc op => zo fl (∀ c, c < W * H → 0 < num c → rk num c < i → vN num c ≤ 2 * ic (WL W H num) c 0) ∧ (∀ c, c < W * H → 0 < num c → rk num c < i → lc (rk num c) = num c) ∧ ∀ c, c < W * H → 0 < num c → rk num c < i → op (rk num c) = nI (2 * ic (WL W H num) c 0)) ?_ ?_ N 0 _ _ _ (by omega) (by omega) ⟨Or.inl ⟨rfl, fun c _ _ h => by omega⟩, fun c _ _ h => by omega, fun c _ _ h => by omega⟩
  · intro rec i fl lc op hi hP
    obtain ⟨p1, p2, p3⟩ := hP
    obtain ⟨c, c1, c2, c3⟩ := rk_ex hi
    obtain ⟨m, hm, hm2⟩ := nn_nI hB c1
    have hv : vN num c = m := by unfold vN; rw [hm, nI_clamp hm2]
    have hic := ic_le (l := WL W H num) (c := c) (k := 0)
    right
    have e79 : ∀ (x y : Nat → Int32) (z : Int32), m_X5_allCanFit_j79 rec (nI i) x y z = rec z (nI (i + 1)) x y := fun x y z => by
      unfold m_X5_allCanFit_j79
      rw [lt1_e, nI_s]
    have only : ∀ d, d < W * H → 0 < num d → rk num d < i + 1 → rk num d < i ∨ d = c := fun d d1 d2 d3 => by
      rcases Nat.lt_succ_iff_lt_or_eq.mp d3 with r | r
      · exact Or.inl r
      · exact Or.inr (rk_inj d2 c2 (by omega))
    have l1 : ∀ d, d < W * H → 0 < num d → rk num d < i + 1 → upd lc i (num c) (rk num d) = num d := fun d d1 d2 d3 => by
      rcases only d d1 d2 d3 with r | r
      · rw [upd_n (by omega)]; exact p2 d d1 d2 r
      · subst r; rw [c3, upd_s]
    have l2 : ∀ d, d < W * H → 0 < num d → rk num d < i + 1 → upd op i (nI (2 * ic (WL W H num) c 0)) (rk num d) = nI (2 * ic (WL W H num) d 0) := fun d d1 d2 d3 => by
      rcases only d d1 d2 d3 with r | r
      · rw [upd_n (by omega)]; exact p3 d d1 d2 r
      · subst r; rw [c3, upd_s]
    have hcell : m_X2_cellOf cO (nI i) = nI c := by
      unfold m_X2_cellOf
      rw [lt1_e, vAt_nI (by omega) (by omega), ← c3, hL.2.1 c c1 c2]
    have hcf : zo (m_X5_canFit (upd lc i (num c)) (upd op i (nI (2 * ic (WL W H num) c 0))) (nI i)) (m ≤ 2 * ic (WL W H num) c 0) := by
      unfold m_X5_canFit
      rw [lt1_e, lt1_e, vAt_nI (by omega) (by omega), vAt_nI (by omega) (by omega), upd_s, upd_s, hm, if_neg (nI_pos (by omega))]
      by_cases c4 : 2 * ic (WL W H num) c 0 < m
      · rw [if_pos (nI_lt c4 (by omega))]
        exact Or.inr ⟨rfl, fun z => by omega⟩
      · rw [if_neg (nI_nlt (by omega) (by omega))]
        exact Or.inl ⟨rfl, by omega⟩
    unfold m_X5_allCanFit_b4 m_X5_allCanFit_j78
    rw [if_neg (nI_ge hi (by omega)), hcell, lt1_e, vAt_nI (by omega) (by omega), lt1_e, vPut_nI (by omega) (by omega), lt1_e, vAt_nI (by omega) (by omega), show wO i = nI (ic (WL W H num) c 0) by rw [← c3, hL.2.2.2.2.1 c c1 c2, icnt_ic], lt1_e, show (2 : Int32) = nI 2 from rfl, pk_mul, vPut_nI (by omega) (by omega), lt1_e, lt1_e, e79, e79]
    rcases p1 with ⟨rfl, q⟩ | ⟨rfl, q⟩
    · rw [if_neg (show ¬ (1 : Int32) = 0 by decide)]
      rcases hcf with ⟨k1, k2⟩ | ⟨k1, k2⟩
      · rw [k1, if_neg (show ¬ (1 : Int32) = 0 by decide)]
        refine ⟨_, _, _, rfl, Or.inl ⟨rfl, fun d d1 d2 d3 => ?_⟩, l1, l2⟩
        rcases only d d1 d2 d3 with r | r
        · exact q d d1 d2 r
        · subst r; omega
      · rw [k1, if_pos rfl]
        refine ⟨_, _, _, rfl, Or.inr ⟨rfl, fun z => ?_⟩, l1, l2⟩
        have := z c c1 c2 (by omega)
        omega
    · rw [if_pos rfl]
      exact ⟨_, _, _, rfl, Or.inr ⟨rfl, fun z => q (fun d d1 d2 d3 => z d d1 d2 (by omega))⟩, l1, l2⟩
  · intro rec fl lc op hP
    obtain ⟨p1, p2, p3⟩ := hP
    unfold m_X5_allCanFit_b4
    rw [if_pos (nI_le (Nat.le_refl _) (by omega))]
    have q := p1.iff (Q := ∀ c, c < W * H → 0 < num c → vN num c ≤ 2 * ic (WL W H num) c 0) ⟨fun z c h1 h2 => z c h1 h2 (rk_lt h2 h1), fun z c h1 h2 _ => z c h1 h2⟩
    rcases p1 with ⟨rfl, -⟩ | ⟨rfl, -⟩
    · exact Ev.some ⟨q, fun c h1 h2 => p2 c h1 h2 (rk_lt h2 h1), fun c h1 h2 => p3 c h1 h2 (rk_lt h2 h1)⟩
    · exact Ev.some ⟨q, fun c h1 h2 => p2 c h1 h2 (rk_lt h2 h1), fun c h1 h2 => p3 c h1 h2 (rk_lt h2 h1)⟩
/-- all solutions, in their order -/
noncomputable def SOL (W H : Nat) (num : Nat → Int32) (ok : Nat → Nat → Prop) : List (Nat → Nat) := Lv (al W num (WL W H num)) (whl2 W H num) ok (WL W H num).length 0 (fun _ => 0)
theorem run_ev {W H N : Nat} {num cO iA fi se fC sC st wO G bri lac opn : Nat → Int32} {Yi Yw most wI : Int32} {cr : Nat → Int64} {xw : (Nat → Nat) → Int32} (hB : BD W H num) (hL : LO W H num Yi Yw cO iA fi se fC sC st wO cr) (h14 : (WL W H num).length ≤ 14) (hN : 1000 < N) (hx : ∀ (a : Nat → Nat) (bri : Nat → Int32), (∀ i, i < (WL W H num).length → bri i = nI (a i)) → vAt 48 bri wI = xw a) (hmost : ¬ most ≤ 0) :
    ∃ G' bu' bri' lac' opn', m_X5_run N num Yi Yw cO fi se wO cr G bri lac opn most wI = some (G', bu', most, wI, (Fo most xw (0, 0, 0) (SOL W H num anyV)).1, (Fo most xw (0, 0, 0) (SOL W H num anyV)).2.1, (Fo most xw (0, 0, 0) (SOL W H num anyV)).2.2, bri', lac', opn') := by
  unfold m_X5_run
  have : ∃ b, zl2 (m_X5_run_b32 N num Yi Yw cO fi se wO cr G 0 most wI 0 0 0 lac opn) N 0 bri = m_X5_run_j53 N num Yi Yw cO fi se wO cr G 0 most wI 0 0 0 b lac opn ∧ ∀ i, i < 48 → b i = 0 := by
    refine zl2g0 (fun o => ∃ b, o = m_X5_run_j53 N num Yi Yw cO fi se wO cr G 0 most wI 0 0 0 b lac opn ∧ ∀ i, i < 48 → b i = 0) 48 (fun i b => ∀ j, j < i → b j = 0) ?_ ?_ N 0 _ (by omega) (by omega) (fun j hj => by omega)
    · intro rec i b hi hP
      refine Or.inr ⟨upd b i 0, ?_, fun j hj => ?_⟩
      · unfold m_X5_run_b32
        rw [if_neg (kk48_ge hi), vPut_nI hi (by omega)]
        simp only [lt1, nI_s]
      · rcases Nat.lt_succ_iff_lt_or_eq.mp hj with r | r
        · rw [upd_n (by omega)]; exact hP j r
        · rw [r, upd_s]
    · intro rec b hP
      unfold m_X5_run_b32
      rw [if_pos (kk48_le (Nat.le_refl _) (by omega))]
      exact ⟨b, rfl, hP⟩
  obtain ⟨b, e, hb⟩ := this
  rw [e]
  unfold m_X5_run_j53
  obtain ⟨⟨fl, lac1, opn1⟩, e2, q1, q2, q3⟩ := allCanFit_ev (N := N) (lac := lac) (opn := opn) hB hL hN
  rw [e2, bd3_some]
  rcases q1 with ⟨r1, r2⟩ | ⟨r1, r2⟩
  · replace r1 : fl = 1 := r1
    subst r1
    rw [if_neg (show ¬ (1 : Int32) = 0 by decide)]
    have hE : ER W H num 0 (fun _ => 0) b lac1 opn1 0 := by
      refine ⟨fun i hi => hb i (by omega), ?_, fun c hc hp => ?_, fun c hc hp => q3 c hc hp⟩
      · rw [msk_0.mpr (fun j _ => decide_eq_false (Nat.lt_irrefl 0))]; rfl
      · rw [show sN (WL W H num) (fun _ => 0) c = 0 from Nat.le_zero.mp (by
          unfold sN
          refine Nat.le_trans (nS_le (B := 0) fun k _ => ?_) (by omega)
          split <;> exact Nat.le_refl _)]
        show lac1 (rk num c) = num c - 0
        rw [Int32.sub_zero]
        exact q2 c hc hp
    obtain ⟨G', bu', bri', lac', opn', e3, -⟩ := decide_ev (xw := xw) (most := most) (wI := wI) hB hL h14 hN hx (WL W H num).length 0 16 (fun _ => 0) G 0 0 0 0 b lac1 opn1 (by omega) (by omega) lowA_0 hE (by
      rintro (z | z)
      · exact hmost z
      · exact z rfl)
    have eQ : QC W H num = whl2 W H num := by
      funext a
      refine propext ⟨fun z => ⟨fun c hc hp => ?_, z⟩, fun z => z.2⟩
      have := r2 c hc hp
      obtain ⟨m, hm, hm2⟩ := nn_nI hB hc
      have hv : vN num c = m := by unfold vN; rw [hm, nI_clamp hm2]
      rw [hm] at hp
      have := (kk0_ltI hm2).mp hp
      omega
    rw [eQ] at e3
    unfold m_X5_decide
    rw [show zl9 (m_X5_decide_r N Yi Yw fi se cr most wI) 16 0 G 0 0 0 0 b lac1 opn1 = _ from e3, bd8_some]
    exact ⟨_, _, _, _, _, rfl⟩
  · replace r1 : fl = 0 := r1
    subst r1
    rw [if_pos rfl]
    have hnil : SOL W H num anyV = [] := by
      refine Classical.byContradiction fun hne => r2 (fun c hc hp => ?_)
      refine Classical.byContradiction fun hlt => hne (no_leaf hc hp (by omega))
    rw [hnil, Fo_nil]
    exact ⟨_, _, _, _, _, rfl⟩
theorem solves_ev {W H N most : Nat} {num fi se fC sC st s one other gr tr : Nat → Int32} {Yw Mw wI xI : Int32} {ok : Nat → Nat → Prop} (hB : BD W H num) (h4 : wrep num (WL W H num) Yw fi se fC sC st) (hs : MS W H num s) (hm : mrep (WL W H num) Mw one other) (h14 : (WL W H num).length ≤ 14) (hm1 : 1 ≤ most) (hm2 : most ≤ 1000) (hi : 0 < rk num (W * H)) (hok : ∀ k v, k < (WL W H num).length → v ≤ 2 → ((nI k = wI → nI v = xI) ↔ ok k v)) (hN : 100000000 ≤ N) :
    ∃ g' tr', m_X10_solves N Mw s one other gr tr (nI most) wI xI = some (nI (min most (SOL W H num ok).length), g', tr') := by
  have hl := hB.wls
  unfold m_X10_solves
  rw [show (0 : Int32) = nI 0 from rfl, wr_nI (by omega) (by omega)]
  by_cases c0 : (WL W H num).length = 0
  · rw [if_pos (show Mw = nI 0 by rw [hm.1, c0])]
    have hnil : SOL W H num ok = [] := by
      obtain ⟨c, c1, c2, c3⟩ := rk_ex hi
      refine no_leaf c1 c2 ?_
      have := ic_le (l := WL W H num) (c := c) (k := 0)
      obtain ⟨m, hm3, hm4⟩ := nn_nI hB c1
      have hv : vN num c = m := by unfold vN; rw [hm3, nI_clamp hm4]
      rw [hm3] at c2
      have := (kk0_ltI hm4).mp c2
      omega
    rw [hnil, List.length_nil, Nat.min_eq_right (Nat.zero_le _)]
    exact ⟨_, _, rfl⟩
  · rw [if_neg (show ¬ Mw = nI 0 by rw [hm.1]; exact nI_ne (by omega) (by omega) c0)]
    have hsp := sp_mono (m := (WL W H num).length - 1) (by omega)
    have hw := walk (P := al W num (WL W H num)) (Q := whl2 W H num) (ok := ok) (N := N) (s := s) (one := one) (other := other) (Mw := Mw) (wI := wI) (xI := xI) (most := most) (WL W H num).length hm.1 h14 hm1 hm2 hok
      (fun k a t hk ha ht => could_m hs hl hm hB.2.2.1 h14 hk ha ht (by omega))
      (fun a t g ha ht => (whole_m (gr := g) (tr := t) hB h4 hs hm h14 (by omega)).mono (fun z hz => hz.iff ⟨fun y => ⟨y.1, (grp_congr (fun i hi => ht i hi)).mp y.2⟩, fun y => ⟨y.1, (grp_congr (fun i hi => ht i hi)).mpr y.2⟩⟩))
      ((WL W H num).length - 1) 0 3 0 0 N (fun _ => 0) gr (upd tr 0 (-1)) (by omega) rfl (by omega) (by omega) lowA_0 (fun i hi => by omega) (by rw [upd_s]; rfl)
    rw [← Lv_s, show (WL W H num).length - 1 + 1 = (WL W H num).length by omega, show Lv (al W num (WL W H num)) (whl2 W H num) ok (WL W H num).length 0 (fun _ => 0) = SOL W H num ok from rfl] at hw
    rcases hw with ⟨w1, g', tr', w2⟩ | ⟨w1, F', g', tr', w2, w3, -⟩
    · refine ⟨g', tr', ?_⟩
      rw [Nat.min_eq_left (by omega)]
      exact w2
    · refine ⟨g', tr', ?_⟩
      obtain ⟨F', rfl⟩ : ∃ f, F' = f + 1 := ⟨F' - 1, by omega⟩
      rw [Nat.min_eq_right (by omega)]
      refine Eq.trans w3 ?_
      show m_X10_solves_b22 N Mw s one other (nI most) wI xI (zl4 (m_X10_solves_b22 N Mw s one other (nI most) wI xI) F') (nI (0 + (SOL W H num ok).length)) (nI 0 - 1) g' tr' = _
      rw [m_X10_solves_b22, if_pos (show nI 0 - 1 < 0 by decide), Nat.zero_add]
      rfl
theorem Fo_cnt : ∀ (l : List (Nat → Nat)) (i : Nat), i ≤ 50 → Fo 50 (fun _ => 0) (nI i, 0, 0) l = (nI (min 50 (i + l.length)), 0, 0) := by
  intro l
  induction l with
  | nil => intro i hi; rw [Fo_nil, List.length_nil, Nat.add_zero, Nat.min_eq_right hi]
  | cons b t ih =>
    intro i hi
    by_cases c : i = 50
    · subst c
      rw [Fo_ov (Or.inl (show (50 : Int32) ≤ nI 50 by decide)), Nat.min_eq_left (by omega)]
    · rw [Fo_cons (by
        rintro (z | z)
        · have := (nI_leI (a := 50) (by omega) (by omega)).mp z; omega
        · exact z rfl)]
      have e : ntI 0 (nI i, 0, 0) = (nI (i + 1), 0, 0) := by
        show (nI i + 1, (if nI i = 0 then (0 : Int32) else 0), (if (0 : Int32) = (if nI i = 0 then 0 else 0) then (0 : Int32) else 1)) = _
        rw [nI_s]
        by_cases q : nI i = 0
        · rw [if_pos q]; rfl
        · rw [if_neg q]; rfl
      rw [e, ih (i + 1) (by omega), List.length_cons]
      congr 2
      omega
theorem sim_solutions {W H N : Nat} {num br cp cO iA fi se fC sC st wO s one other : Nat → Int32} {cols rows grade steps Yi Yw Mw : Int32} {cr : Nat → Int64} (h : Cur W H num br cp cols rows grade steps Yi Yw Mw cO iA fi se fC sC st wO s one other cr) (ld ebr ela eop gr tr : Nat → Int32) (ebu : Int64) (em ew ef ec ed : Int32) (hN : 100000000 ≤ N) :
    ∃ r ld' ebu' em' ew' ef' ec' ed' ebr' ela' eop' gr' tr', m_X9_solutions N num Yi Yw cO fi se wO cr ld ebu em ew ef ec ed ebr ela eop = some (r, ld', ebu', em', ew', ef', ec', ed', ebr', ela', eop') ∧ m_X10_solutions N Mw s one other gr tr = some (r, gr', tr') := by
  obtain ⟨⟨rfl, rfl⟩, hB, hL, hs, hm, hb, hbo, hx, hg, hst⟩ := h
  have h4 := hL.2.2.2.1
  have hn := hB.wls.2.2.1.1
  have hr := hB.2.2.2.2
  unfold m_X9_solutions m_X10_solutions
  rw [islands_m hB.M hs (by omega), bd1_some]
  by_cases c0 : rk num (W * H) = 0
  · rw [if_pos (show Yi = 0 by rw [hL.1, c0]; rfl), if_pos (show nI (rk num (W * H)) = 0 by rw [c0]; rfl)]
    exact ⟨_, _, _, _, _, _, _, _, _, _, _, _, _, rfl, rfl⟩
  · rw [if_neg (show ¬ Yi = 0 by rw [hL.1]; exact nI_ne (b := 0) (by omega) (by omega) c0), if_neg (show ¬ nI (rk num (W * H)) = 0 from nI_ne (b := 0) (by omega) (by omega) c0)]
    by_cases h14 : (WL W H num).length ≤ 14
    · rw [if_pos (show Yw ≤ 14 by rw [h4.1]; exact nI_le (b := 14) h14 (by omega)), if_pos (show Mw ≤ 14 by rw [hm.1]; exact nI_le (b := 14) h14 (by omega))]
      obtain ⟨G', bu', bri', lac', opn', e1⟩ := run_ev (N := N) (G := ld) (bri := ebr) (lac := ela) (opn := eop) (most := 50) (wI := -1) (xw := fun _ => 0) hB hL h14 (by omega) (fun a b _ => vAt_m1 48 b) (by decide)
      obtain ⟨g', tr', e2⟩ := solves_ev (N := N) (most := 50) (wI := -1) (xI := 0) (ok := anyV) (gr := gr) (tr := tr) hB h4 hs hm h14 (by omega) (by omega) (by omega) (fun k v hk hv => ⟨fun _ => trivial, fun _ z => absurd z (nI_nm1 (by omega))⟩) hN
      have e3 := Fo_cnt (SOL W H num anyV) 0 (by omega)
      rw [Nat.zero_add] at e3
      rw [show Fo 50 (fun _ => 0) (0, 0, 0) (SOL W H num anyV) = _ from e3] at e1
      rw [e1, bd10_some, show m_X10_solves N Mw s one other gr tr 50 (-1) 0 = _ from e2, bd3_some]
      exact ⟨_, _, _, _, _, _, _, _, _, _, _, _, _, rfl, rfl⟩
    · rw [if_neg (show ¬ Yw ≤ 14 by rw [h4.1]; exact nI_ge (a := 14) (by omega) (by omega)), if_neg (show ¬ Mw ≤ 14 by rw [hm.1]; exact nI_ge (a := 14) (by omega) (by omega))]
      exact ⟨_, _, _, _, _, _, _, _, _, _, _, _, _, rfl, rfl⟩
