/-! inAll -/
theorem Fo_all {w : Nat} : ∀ (t : List (Nat → Nat)) (i x0 : Nat), (∀ b, b ∈ t → b w ≤ 2) → x0 ≤ 2 → 1 ≤ i → i + t.length ≤ 4782969 → ∃ f d, Fo 4782969 (fun a => nI (a w)) (nI i, nI x0, 0) t = (f, nI x0, d) ∧ f ≠ 0 ∧ (d = 0 ↔ ∀ b, b ∈ t → b w = x0) := by
  intro t
  induction t with
  | nil => intro i x0 _ _ hi hl; exact ⟨nI i, 0, rfl, fun z => by have := (kk0_eq (by rw [List.length_nil] at hl; omega)).mp z; omega, ⟨fun _ b hb => absurd hb List.not_mem_nil, fun _ => rfl⟩⟩
  | cons b t ih =>
    intro i x0 hb hx hi hl
    rw [List.length_cons] at hl
    rw [Fo_cons (by
      rintro (z | z)
      · have := (nI_leI (a := 4782969) (by omega) (by omega)).mp z; omega
      · exact z rfl)]
    have hi0 : ¬ nI i = 0 := fun z => by have := (kk0_eq (by omega)).mp z; omega
    have e : ntI (nI (b w)) (nI i, nI x0, 0) = (nI (i + 1), nI x0, if b w = x0 then 0 else 1) := by
      show (nI i + 1, (if nI i = 0 then nI (b w) else nI x0), (if nI (b w) = (if nI i = 0 then nI (b w) else nI x0) then (0 : Int32) else 1)) = _
      rw [nI_s, if_neg hi0]
      have hbw := hb b List.mem_cons_self
      by_cases q : b w = x0
      · rw [if_pos q, if_pos (by rw [q])]
      · rw [if_neg q, if_neg (nI_ne (by omega) (by omega) q)]
    show ∃ f d, Fo 4782969 (fun a => nI (a w)) (ntI (nI (b w)) (nI i, nI x0, 0)) t = (f, nI x0, d) ∧ _
    rw [e]
    by_cases q : b w = x0
    · rw [if_pos q]
      obtain ⟨f, d, f1, f2, f3⟩ := ih (i + 1) x0 (fun b' hb' => hb b' (List.mem_cons_of_mem _ hb')) hx (by omega) (by omega)
      refine ⟨f, d, f1, f2, f3.trans ⟨fun z b' hb' => ?_, fun z b' hb' => z b' (List.mem_cons_of_mem _ hb')⟩⟩
      rcases List.mem_cons.mp hb' with r | r
      · rw [r]; exact q
      · exact z b' r
    · rw [if_neg q, Fo_ov (Or.inr (show ¬ (1 : Int32) = 0 by decide))]
      exact ⟨_, _, rfl, fun z => by have := (kk0_eq (by omega)).mp z; omega, ⟨fun z => absurd z (by decide), fun z => absurd (z b List.mem_cons_self) q⟩⟩
/-- what is asked of a way and all solutions -/
def rAll (L : List (Nat → Nat)) (w : Nat) (z : Int32) : Prop := (∃ x, x ≤ 2 ∧ (∃ b, b ∈ L ∧ b w = x) ∧ (∀ b, b ∈ L → b w = x) ∧ z = nI x) ∨ ((¬ ∃ x, (∃ b, b ∈ L ∧ b w = x) ∧ ∀ b, b ∈ L → b w = x) ∧ z = -4)
theorem rAll_uniq {L : List (Nat → Nat)} {w : Nat} {y z : Int32} (h1 : rAll L w y) (h2 : rAll L w z) : y = z := by
  rcases h1 with ⟨x, -, ⟨b, b1, b2⟩, x2, rfl⟩ | ⟨n1, rfl⟩
  · rcases h2 with ⟨x', -, -, x3, rfl⟩ | ⟨n2, -⟩
    · rw [← b2, x3 b b1]
    · exact absurd ⟨x, ⟨b, b1, b2⟩, x2⟩ n2
  · rcases h2 with ⟨x', -, x1, x3, rfl⟩ | ⟨n2, rfl⟩
    · exact absurd ⟨x', x1, x3⟩ n1
    · rfl
theorem mem_SOL {W H : Nat} {num : Nat → Int32} {ok : Nat → Nat → Prop} {b : Nat → Nat} (h : b ∈ SOL W H num ok) (w : Nat) : b w ≤ 2 := (mem_Lv lowA_0 h).2.1.2 w
theorem sim_inAll {W H N : Nat} {num br cp cO iA fi se fC sC st wO s one other : Nat → Int32} {cols rows grade steps Yi Yw Mw : Int32} {cr : Nat → Int64} (h : Cur W H num br cp cols rows grade steps Yi Yw Mw cO iA fi se fC sC st wO s one other cr) (ld ebr ela eop gr tr : Nat → Int32) (ebu : Int64) (em ew ef ec ed x : Int32) (hN : 100000000 ≤ N) :
    ∃ r ld' ebu' em' ew' ef' ec' ed' ebr' ela' eop' gr' tr', m_X9_inAll N num Yi Yw cO fi se wO cr ld ebu em ew ef ec ed ebr ela eop x = some (r, ld', ebu', em', ew', ef', ec', ed', ebr', ela', eop') ∧ m_X10_inAll N Mw s one other gr tr x = some (r, gr', tr') := by
  obtain ⟨⟨rfl, rfl⟩, hB, hL, hs, hm, hb, hbo, hx, hg, hst⟩ := h
  have h4 := hL.2.2.2.1
  have hn := hB.wls.2.2.1.1
  have hr := hB.2.2.2.2
  unfold m_X9_inAll m_X10_inAll
  rcases cell_or (show (WL W H num).length < 2 ^ 31 by omega) x with ⟨w, hw, rfl⟩ | ho
  · rw [show m_X9_isWay Yw (nI w) = 1 by rw [h4.1]; exact isWay_c (by omega) hw, show m_X10_isWay Mw (nI w) = some 1 by rw [hm.1]; exact isWay_m (by omega) hw, bd1_some, lt1_e, if_neg (show ¬ (1 : Int32) = 0 by decide), if_neg (show ¬ (1 : Int32) = 0 by decide)]
    by_cases h14 : (WL W H num).length ≤ 14
    · rw [if_pos (show Yw ≤ 14 by rw [h4.1]; exact nI_le (b := 14) h14 (by omega)), if_pos (show Mw ≤ 14 by rw [hm.1]; exact nI_le (b := 14) h14 (by omega))]
      have hi : 0 < rk num (W * H) := by
        have h1 := hB.wls.2.2.2 w hw
        have := rk_lt h1.2.2.2.1 h1.2.1
        omega
      obtain ⟨G', bu', bri', lac', opn', e1⟩ := run_ev (N := N) (G := ld) (bri := ebr) (lac := ela) (opn := eop) (most := 4782969) (wI := nI w) (xw := fun a => nI (a w)) hB hL h14 (by omega) (fun a b hb2 => by rw [vAt_nI (by omega) (by omega)]; exact hb2 w hw) (by decide)
      have hlen : (SOL W H num anyV).length ≤ 3 ^ 14 := by
        refine Nat.le_trans (len_Lv (P := al W num (WL W H num)) (Q := whl2 W H num) (ok := anyV)) ?_
        exact Nat.pow_le_pow_right (by decide) h14
      have h314 : (3 : Nat) ^ 14 = 4782969 := by decide
      -- the class's answer
      have cl : ∃ r ld' ebu' em' ew' ef' ec' ed' ebr' ela' eop', bd10 (m_X5_run N num Yi Yw cO fi se wO cr ld ebr ela eop 4782969 (nI w)) (fun v2 v3 v4 v5 v6 v7 v8 v9 v10 v11 => if v6 = 0 then (m_X9_inAll_j55 v2 v3 v4 v5 v6 v7 v8 v9 v10 v11) else (if v8 = 0 then (some ((v7, v2, v3, v4, v5, v6, v7, v8, v9, v10, v11))) else (m_X9_inAll_j55 v2 v3 v4 v5 v6 v7 v8 v9 v10 v11))) = some (r, ld', ebu', em', ew', ef', ec', ed', ebr', ela', eop') ∧ rAll (SOL W H num anyV) w r := by
        rw [e1, bd10_some]
        unfold m_X9_inAll_j55
        cases hS : SOL W H num anyV with
        | nil =>
          rw [Fo_nil, if_pos (show (0, 0, 0).1 = (0 : Int32) from rfl)]
          exact ⟨_, _, _, _, _, _, _, _, _, _, _, rfl, Or.inr ⟨fun ⟨x, ⟨b, b1, _⟩, _⟩ => absurd b1 List.not_mem_nil, rfl⟩⟩
        | cons b t =>
          rw [hS, List.length_cons] at hlen
          have hall : ∀ b', b' ∈ b :: t → b' w ≤ 2 := fun b' hb' => mem_SOL (hS ▸ hb') w
          have hbw := hall b List.mem_cons_self
          obtain ⟨f, d, f1, f2, f3⟩ := Fo_all (w := w) t 1 (b w) (fun b' hb' => hall b' (List.mem_cons_of_mem _ hb')) hbw (by omega) (by omega)
          have e0 : Fo 4782969 (fun a => nI (a w)) (0, 0, 0) (b :: t) = (f, nI (b w), d) := by
            rw [Fo_cons (by
              rintro (z | z)
              · exact absurd z (by decide)
              · exact z rfl), ← f1]
            congr 1
            show ((0 : Int32) + 1, (if (0 : Int32) = 0 then nI (b w) else 0), (if nI (b w) = (if (0 : Int32) = 0 then nI (b w) else 0) then (0 : Int32) else 1)) = _
            rw [if_pos rfl, if_pos rfl]
            rfl
          rw [e0, if_neg (show ¬ (f, nI (b w), d).1 = 0 from f2)]
          by_cases hd : d = 0
          · rw [if_pos (show (f, nI (b w), d).2.2 = 0 from hd)]
            refine ⟨_, _, _, _, _, _, _, _, _, _, _, rfl, Or.inl ⟨b w, hbw, ⟨b, List.mem_cons_self, rfl⟩, fun b' hb' => ?_, rfl⟩⟩
            rcases List.mem_cons.mp hb' with q | q
            · rw [q]
            · exact (f3.mp hd) b' q
          · rw [if_neg (show ¬ (f, nI (b w), d).2.2 = 0 from hd)]
            refine ⟨_, _, _, _, _, _, _, _, _, _, _, rfl, Or.inr ⟨fun ⟨x, _, x2⟩ => hd (f3.mpr (fun b' hb' => ?_)), rfl⟩⟩
            rw [x2 b' (List.mem_cons_of_mem _ hb'), x2 b List.mem_cons_self]
      -- the reference's answer
      have md : Ev (zl5 (m_X10_inAll_b30 N Mw s one other (nI w)) N (-4) 0 0 gr tr) (fun t => rAll (SOL W H num anyV) w t.1) := by
        refine zl5c2 3 (fun i v0 v1 v3 v4 => ∃ c, c ≤ i ∧ v1 = nI c ∧ (c = 0 → ∀ x, x < i → ¬ ∃ b, b ∈ SOL W H num anyV ∧ b w = x) ∧ (c = 1 → ∃ x, x < i ∧ (∃ b, b ∈ SOL W H num anyV ∧ b w = x) ∧ (∀ y, y < i → (∃ b, b ∈ SOL W H num anyV ∧ b w = y) → y = x) ∧ v0 = nI x) ∧ (2 ≤ c → ∃ b b', b ∈ SOL W H num anyV ∧ b' ∈ SOL W H num anyV ∧ b w ≠ b' w)) ?_ ?_ N 0 _ _ _ _ (by omega) (by omega) ⟨0, Nat.le_refl _, rfl, fun _ x hx2 => by omega, fun z => by omega, fun z => by omega⟩
        · intro rec i v0 v1 v3 v4 hi3 hP
          obtain ⟨c, c1, rfl, c2, c3, c4⟩ := hP
          right
          unfold m_X10_inAll_b30
          obtain ⟨g', tr', e2⟩ := solves_ev (N := N) (most := 1) (wI := nI w) (xI := nI i) (ok := fun k v => k = w → v = i) (gr := v3) (tr := v4) hB h4 hs hm h14 (by omega) (by omega) hi (fun k v hk hv => ⟨fun z e => nI_i (by omega) (by omega) (z (by rw [e])), fun z e => by rw [z (nI_i (by omega) (by omega) e)]⟩) hN
          rw [if_neg (show ¬ (3 : Int32) ≤ nI i from nI_ge (a := i) (b := 3) hi3 (by omega)), show m_X10_solves N Mw s one other v3 v4 1 (nI w) (nI i) = _ from e2, bd3_some]
          have hmem : ∀ b, b ∈ SOL W H num (fun k v => k = w → v = i) ↔ b ∈ SOL W H num anyV ∧ b w = i := fun b => (Lv_fix (P := al W num (WL W H num)) (Q := whl2 W H num) (w := w) (x := i) (b := b) lowA_0).1 (Nat.zero_le _) (by omega)
          have e78 : ∀ (x : Int32) (y : Int32), m_X10_inAll_j78 rec x (nI i) g' tr' (nI c) y = rec x (nI c + y) (nI (i + 1)) g' tr' := fun x y => by
            unfold m_X10_inAll_j78
            rw [lt1_e, lt1_e, nI_s]
          by_cases hE : ∃ b, b ∈ SOL W H num anyV ∧ b w = i
          · have hl1 : min 1 (SOL W H num (fun k v => k = w → v = i)).length = 1 := by
              obtain ⟨b, b1, b2⟩ := hE
              have := List.length_pos_of_mem ((hmem b).mpr ⟨b1, b2⟩)
              omega
            rw [hl1, if_pos (show nI 1 = 1 from rfl)]
            unfold m_X10_inAll_j53 m_X10_inAll_j66
            rw [if_neg (show ¬ (1 : Int32) = 0 by decide), if_neg (show ¬ (1 : Int32) = 0 by decide), e78, nI_s]
            refine ⟨_, _, _, _, rfl, c + 1, by omega, rfl, fun z => by omega, fun z => ?_, fun z => ?_⟩
            · have hc0 : c = 0 := by omega
              refine ⟨i, by omega, hE, fun y hy hy2 => ?_, rfl⟩
              rcases Nat.lt_succ_iff_lt_or_eq.mp hy with r | r
              · exact absurd hy2 (c2 hc0 y r)
              · exact r
            · rcases Nat.lt_or_ge c 2 with r | r
              · obtain ⟨x, x1, ⟨b, b1, b2⟩, -⟩ := c3 (by omega)
                obtain ⟨b', b3, b4⟩ := hE
                exact ⟨b, b', b1, b3, by omega⟩
              · exact c4 r
          · have hl0 : min 1 (SOL W H num (fun k v => k = w → v = i)).length = 0 := by
              have : SOL W H num (fun k v => k = w → v = i) = [] := List.eq_nil_iff_forall_not_mem.mpr fun b hb => hE ⟨b, (hmem b).mp hb⟩
              rw [this]; rfl
            rw [hl0, if_neg (show ¬ nI 0 = 1 by decide)]
            unfold m_X10_inAll_j53 m_X10_inAll_j66
            rw [if_pos rfl, if_pos rfl, e78, Int32.add_zero]
            refine ⟨_, _, _, _, rfl, c, by omega, rfl, fun z x hx2 => ?_, fun z => ?_, c4⟩
            · rcases Nat.lt_succ_iff_lt_or_eq.mp hx2 with r | r
              · exact c2 z x r
              · rw [r]; exact hE
            · obtain ⟨x, x1, x2, x3, x4⟩ := c3 z
              refine ⟨x, by omega, x2, fun y hy hy2 => ?_, x4⟩
              rcases Nat.lt_succ_iff_lt_or_eq.mp hy with r | r
              · exact x3 y r hy2
              · rw [r] at hy2; exact absurd hy2 hE
        · intro rec v0 v1 v3 v4 hP
          obtain ⟨c, c1, rfl, c2, c3, c4⟩ := hP
          unfold m_X10_inAll_b30 m_X10_inAll_j86
          rw [if_pos (show (3 : Int32) ≤ nI 3 by decide)]
          by_cases q : c = 1
          · rw [if_pos (show nI c = 1 by rw [q]; rfl)]
            obtain ⟨x, x1, x2, x3, x4⟩ := c3 q
            exact Ev.some (Or.inl ⟨x, by omega, x2, fun b hb2 => x3 (b w) (by have := mem_SOL hb2 w; omega) ⟨b, hb2, rfl⟩, x4⟩)
          · rw [if_neg (show ¬ nI c = 1 from nI_ne (b := 1) (by omega) (by omega) q)]
            refine Ev.some (Or.inr ⟨fun ⟨x, ⟨b, b1, b2⟩, x3⟩ => ?_, rfl⟩)
            rcases Nat.lt_or_ge c 2 with r | r
            · exact c2 (by omega) (b w) (by have := mem_SOL b1 w; omega) ⟨b, b1, rfl⟩
            · obtain ⟨d, d', d1, d2, d3⟩ := c4 r
              exact d3 (by rw [x3 d d1, x3 d' d2])
      obtain ⟨r, ld', ebu', em', ew', ef', ec', ed', ebr', ela', eop', k1, k2⟩ := cl
      obtain ⟨⟨r2, gr', tr'⟩, k3, k4⟩ := md
      have := rAll_uniq k2 k4
      replace this : r = r2 := this
      subst this
      exact ⟨_, _, _, _, _, _, _, _, _, _, _, _, _, k1, k3⟩
    · rw [if_neg (show ¬ Yw ≤ 14 by rw [h4.1]; exact nI_ge (a := 14) (by omega) (by omega)), if_neg (show ¬ Mw ≤ 14 by rw [hm.1]; exact nI_ge (a := 14) (by omega) (by omega))]
      exact ⟨_, _, _, _, _, _, _, _, _, _, _, _, _, rfl, rfl⟩
  · rw [show m_X9_isWay Yw x = 0 by rw [h4.1]; exact isWay_c0 ho, show m_X10_isWay Mw x = some 0 by rw [hm.1]; exact isWay_m0 (by omega) ho, bd1_some]
    exact ⟨_, _, _, _, _, _, _, _, _, _, _, _, _, rfl, rfl⟩
