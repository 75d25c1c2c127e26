/-! the law's loop: what is asked of each turn -/
theorem rk_nS (num : Nat → Int32) : ∀ m, rk num m = nS (fun c => if 0 < num c then 1 else 0) m := by
  intro m
  induction m with
  | zero => rfl
  | succ m ih =>
    show rk num (m + 1) = nS (fun c => if 0 < num c then 1 else 0) m + (if 0 < num m then 1 else 0)
    by_cases c : 0 < num m
    · rw [rk_s1 c, if_pos c, ih]
    · rw [rk_s0 c, if_neg c, ih]; rfl
theorem cmp_nS (M : Nat) (num : Nat → Int32) (l : List Wy) (br : Nat → Int32) : cmp M num l br = nI (nS (fun c => if 0 < num c ∧ num c - sI l br c = 0 then 1 else 0) M) := iS_nS fun c _ => by
  by_cases h : 0 < num c ∧ num c - sI l br c = 0
  · rw [if_pos h, if_pos h]; rfl
  · rw [if_neg h, if_neg h]; rfl
theorem cmp_le (M : Nat) (num : Nat → Int32) (l : List Wy) (br : Nat → Int32) : nS (fun c => if 0 < num c ∧ num c - sI l br c = 0 then 1 else 0) M ≤ rk num M := by
  rw [rk_nS]
  exact nS_mono fun c _ => by
    by_cases h : 0 < num c
    · rw [if_pos h]; split <;> omega
    · rw [if_neg h, if_neg (fun z => h z.1)]; exact Nat.le_refl _
theorem nS_all {f g : Nat → Nat} : ∀ {n : Nat}, (∀ k, k < n → f k ≤ g k) → nS f n = nS g n → ∀ k, k < n → f k = g k := by
  intro n
  induction n with
  | zero => intro _ _ k hk; omega
  | succ n ih =>
    intro h e k hk
    have e : nS f n + f n = nS g n + g n := e
    have h1 := nS_mono (n := n) (fun k hk => h k (by omega))
    have h2 := h n (by omega)
    rcases Nat.lt_succ_iff_lt_or_eq.mp hk with q | q
    · exact ih (fun k hk => h k (by omega)) (by omega) k q
    · rw [q]; omega
/-- all islands are complete -/
theorem cmp_all {W H : Nat} {num br : Nat → Int32} {l : List Wy} (hr : rk num (W * H) ≤ 24) (h : cmp (W * H) num l br = nI (rk num (W * H))) {c : Nat} (hc : c < W * H) (hp : 0 < num c) : num c - sI l br c = 0 := by
  have h1 := cmp_le (W * H) num l br
  rw [cmp_nS] at h
  have h2 := nI_i (by omega) (by omega) h
  rw [rk_nS] at h2
  have h3 := nS_all (fun c _ => by
    by_cases q : 0 < num c
    · rw [if_pos q]; split <;> omega
    · rw [if_neg q, if_neg (fun z => q z.1)]; exact Nat.le_refl _) h2 c hc
  rw [if_pos hp] at h3
  by_cases q : 0 < num c ∧ num c - sI l br c = 0
  · exact q.2
  · rw [if_neg q] at h3; omega
theorem slv_nbrk {W H : Nat} {num br cp : Nat → Int32} (hB : BD W H num) (hbo : bo (WL W H num).length br cp) (h : slv W H num br) : ¬ brk W H num (WL W H num) br cp := by
  rintro ⟨c, hc, hp, h1⟩
  have hn := hB.wls.2.2.1.1
  have h0 := cmp_all hB.2.2.2.2 h.2.1 hc hp
  have e1 := sI_n (l := WL W H num) (f := br) (g := vN br) (fun k hk => (hbo.v hk).1) c
  have e2 := sI_n (l := WL W H num) (f := cp) (g := vN cp) (fun k hk => (hbo.v hk).2.1) c
  have b1 := sN_le (l := WL W H num) (f := vN br) (c := c) (fun k hk => by have := hbo.v hk; omega)
  have b2 := sN_le (l := WL W H num) (f := vN cp) (c := c) (fun k hk => by have := hbo.v hk; omega)
  have b3 : sN (WL W H num) (vN br) c ≤ sN (WL W H num) (vN cp) c := nS_mono fun k hk => by
    have := hbo.v hk
    split
    · omega
    · exact Nat.le_refl _
  have e3 : num c = sI (WL W H num) br c := by
    have h9 := congrArg (fun z => z + sI (WL W H num) br c) h0
    simpa [Int32.sub_add_cancel] using h9
  rcases h1 with h1 | h1
  · rw [e3, e1, e2] at h1
    exact nI_nlt b3 (by omega) h1
  · rw [h0] at h1
    exact absurd h1 (by decide)
theorem grp_le {W H : Nat} {num br : Nat → Int32} {z : Int32} (hr : rk num (W * H) ≤ 24) (h : grp W H num br z) : ∃ m, z = nI m ∧ m ≤ rk num (W * H) := by
  obtain ⟨g, -, rfl⟩ := h
  obtain ⟨m, h1, h2, -⟩ := iS_pos (p := fun i => g i = i) (n := rk num (W * H)) (by omega)
  exact ⟨m, h2, h1⟩
/-- each way's bridges lie at two islands -/
theorem sI_all {W H : Nat} {num br : Nat → Int32} (hB : BD W H num) : iS (fun c => if 0 < num c then sI (WL W H num) br c else 0) (W * H) = iS br (WL W H num).length + iS br (WL W H num).length := by
  have hl := hB.wls
  have e1 : ∀ c, c < W * H → (if 0 < num c then sI (WL W H num) br c else 0) = iS (fun k => if (gw (WL W H num) k).1 = c ∨ (gw (WL W H num) k).2.1 = c then br k else 0) (WL W H num).length := by
    intro c hc
    by_cases hp : 0 < num c
    · rw [if_pos hp]; rfl
    · rw [if_neg hp]
      rw [iS_congr (g := fun _ => 0) (fun k hk => if_neg (fun z => ?_)), iS_zero]
      have := hl.2.2.2 k hk
      rcases z with z | z
      · exact hp (by rw [← z]; exact this.2.2.1)
      · exact hp (by rw [← z]; exact this.2.2.2.1)
  rw [iS_congr e1, iS_swap, iS_congr (g := fun k => br k + br k) (fun k hk => ?_), iS_add]
  have hw := hl.2.2.2 k hk
  exact iS_two (by have := hw.1; have := hw.2.1; omega) hw.2.1 (Nat.ne_of_lt hw.1)
theorem s32_sub (a b c d : Int32) : (a - b) + (c - d) = (a + c) - (b + d) := by
  have h : (a - b) + (c - d) + (b + d) = a + c := by
    rw [a32_swap, Int32.sub_add_cancel, Int32.sub_add_cancel]
  rw [← h, Int32.add_sub_cancel]
theorem iS_sub (f g : Nat → Int32) : ∀ n, iS (fun k => f k - g k) n = iS f n - iS g n := by
  intro n
  induction n with
  | zero => show (0 : Int32) = 0 - 0; decide
  | succ n ih =>
    show iS (fun k => f k - g k) n + (f n - g n) = (iS f n + f n) - (iS g n + g n)
    rw [ih, s32_sub]
theorem two_mul32 (x : Int32) : 2 * x = x + x := by
  rw [show (2 : Int32) = 1 + 1 from rfl, Int32.add_mul, Int32.one_mul]
theorem lacks_all {W H : Nat} {num br : Nat → Int32} (hB : BD W H num) : iS (fun c => if 0 < num c then num c - sI (WL W H num) br c else 0) (W * H) = iS num (W * H) - 2 * iS br (WL W H num).length := by
  have e1 : ∀ c, c < W * H → (if 0 < num c then num c - sI (WL W H num) br c else 0) = num c - (if 0 < num c then sI (WL W H num) br c else 0) := by
    intro c hc
    by_cases hp : 0 < num c
    · rw [if_pos hp, if_pos hp]
    · rw [if_neg hp, if_neg hp, np_z hB.2.2.1 (by have := hB.M; omega) hp]; rfl
  rw [iS_congr e1, iS_sub, sI_all hB, two_mul32]
theorem lg_same (x : Int64) : lg_cmp x x = 0 := by
  unfold lg_cmp
  simp
section
variable {W H N e B : Nat} {num : Nat → Int32} {br : Nat → Int32} {cp : Nat → Int32} {cO : Nat → Int32} {iA : Nat → Int32} {fi : Nat → Int32} {se : Nat → Int32} {fC : Nat → Int32} {sC : Nat → Int32} {st : Nat → Int32} {wO : Nat → Int32} {s : Nat → Int32} {one : Nat → Int32} {other : Nat → Int32} {past : Nat → Int32} {un : Nat → Int32} {ub : Nat → Int32} {uc : Nat → Int32} {ul : Nat → Int32} {ld : Nat → Int32} {tk : Nat → Int32} {mn : Nat → Int32} {kC : Nat → Int32} {Hc : Nat → Int32} {Hr : Nat → Int32} {Hg : Nat → Int32} {Hs : Nat → Int32} {cols : Int32} {rows : Int32} {grade : Int32} {steps : Int32} {Yi : Int32} {Yw : Int32} {Mw : Int32} {hz : Int32} {kc : Int32} {kr : Int32} {ki : Int32} {kz : Int32} {tl : Int32} {cr : Nat → Int64} {rb : Int64} {Hb : Nat → Nat} {HN : Nat → Nat → Int32} {HB : Nat → Nat → Int32} {HC : Nat → Nat → Int32} {sv la bb : Int32} {rc : Int32 → Int32 → Int32 → Int32 → Int32 → Int32 → (Nat → Int32) → (Nat → Int32) → (Nat → Int32) → Int32 → Int32 → (Nat → Int32) → (Nat → Int32) → (Nat → Int32) → (Nat → Int32) → (Nat → Int32) → (Nat → Int32) → (Nat → Int32) → (Nat → Int32) → (Nat → Int64) → (Nat → Int32) → (Nat → Int32) → (Nat → Int32) → (Nat → Int32) → (Nat → Int32) → Int64 → Int32 → Int32 → Int32 → Int32 → (Nat → Int32) → (Nat → Int32) → (Nat → Int32) → Int32 → (Nat → Nat) → (Nat → Nat → Int32) → (Nat → Nat → Int32) → (Nat → Nat → Int32) → (Nat → Int32) → (Nat → Int32) → (Nat → Int32) → (Nat → Int32) → Option Int32}
theorem L486 (h : Cur W H num br cp cols rows grade steps Yi Yw Mw cO iA fi se fC sC st wO s one other cr) (hN : 100000 < N) (hg : GI B grade steps) (hB9 : B ≤ 100000) (hR : ∀ (un ub uc ul ld : Nat → Int32) (rb : Int64), Ev (rc sv (nI (e + 1)) cols rows grade steps num br cp Yi Yw cO iA fi se fC sC st wO cr un ub uc ul ld rb kc kr ki kz tk mn kC hz Hb HN HB HC Hc Hr Hg Hs) (fun t => t = 1)) : Ev (m_L_law_j486 N tl rc sv (nI e) cols rows grade steps num br cp Yi Yw cO iA fi se fC sC st wO cr un ub uc ul ld rb kc kr ki kz tk mn kC hz Hb HN HB HC Hc Hr Hg Hs) (fun t => t = 1) := by
  unfold m_L_law_j486
  refine evc6 (cnt11 h hN) (fun v0 v1 v2 v3 v4 v5 q => ?_)
  replace q : v0 = steps := q
  by_cases c : v0 = 0
  · rw [if_pos c]
    refine evc6 (cnt10 h hN) (fun w0 w1 w2 w3 w4 w5 q2 => ?_)
    replace q2 : w0 = grade := q2
    obtain ⟨k, k1, k2, k3⟩ := hg
    have hk : k = 0 := (kk0_eq (by omega)).mp (by rw [← k2, ← q]; exact c)
    rw [if_pos (by rw [q2]; exact k3 hk)]
    unfold m_L_law_j506
    simp only [lt1, nI_s]
    exact hR _ _ _ _ _ _
  · rw [if_neg c]
    unfold m_L_law_j506
    simp only [lt1, nI_s]
    exact hR _ _ _ _ _ _
theorem L467 (h : Cur W H num br cp cols rows grade steps Yi Yw Mw cO iA fi se fC sC st wO s one other cr) (hN : 100000 < N) (hg : GI B grade steps) (hB9 : B ≤ 100000) (hR : ∀ (un ub uc ul ld : Nat → Int32) (rb : Int64), Ev (rc sv (nI (e + 1)) cols rows grade steps num br cp Yi Yw cO iA fi se fC sC st wO cr un ub uc ul ld rb kc kr ki kz tk mn kC hz Hb HN HB HC Hc Hr Hg Hs) (fun t => t = 1)) : Ev (m_L_law_j467 N tl rc sv (nI e) cols rows grade steps num br cp Yi Yw cO iA fi se fC sC st wO cr un ub uc ul ld rb kc kr ki kz tk mn kC hz Hb HN HB HC Hc Hr Hg Hs) (fun t => t = 1) := by
  unfold m_L_law_j467
  refine evc6 (cnt8 h hN) (fun v0 v1 v2 v3 v4 v5 q => ?_)
  by_cases c : v0 = 1
  · rw [if_pos c]
    have hb : brk W H num (WL W H num) br cp := by
      rcases q with ⟨-, q⟩ | ⟨q1, -⟩
      · exact q
      · replace q1 : v0 = 0 := q1
        rw [q1] at c
        exact absurd c (by decide)
    refine evc7 (hint_ev h hN) (fun w0 w1 w2 w3 w4 w5 w6 q2 => ?_)
    rw [if_pos (stpE_brk q2 hb)]
    exact L486 h hN hg hB9 hR
  · rw [if_neg c]
    exact L486 h hN hg hB9 hR
theorem L367 (h : Cur W H num br cp cols rows grade steps Yi Yw Mw cO iA fi se fC sC st wO s one other cr) (hN : 100000 < N) (hg : GI B grade steps) (hB9 : B ≤ 100000) (hR : ∀ (un ub uc ul ld : Nat → Int32) (rb : Int64), Ev (rc sv (nI (e + 1)) cols rows grade steps num br cp Yi Yw cO iA fi se fC sC st wO cr un ub uc ul ld rb kc kr ki kz tk mn kC hz Hb HN HB HC Hc Hr Hg Hs) (fun t => t = 1)) (hb : bb = iS br (WL W H num).length) (ha : la = iS num (W * H) - 2 * bb) : Ev (m_L_law_j367 N tl rc sv (nI e) bb la cols rows grade steps num br cp Yi Yw cO iA fi se fC sC st wO cr un ub uc ul ld rb kc kr ki kz tk mn kC hz Hb HN HB HC Hc Hr Hg Hs) (fun t => t = 1) := by
  have hr := h.2.1.2.2.2.2
  unfold m_L_law_j367
  refine evc6 (cnt4 h hN) (fun a0 a1 a2 a3 a4 a5 q4 => ?_)
  rw [if_pos (hb.trans (show a0 = iS br (WL W H num).length from q4).symm)]
  refine evc6 (cnt9 h hN) (fun b0 b1 b2 b3 b4 b5 q9 => ?_)
  replace q9 : b0 = iS num (W * H) := q9
  rw [if_pos (by rw [q9]; exact ha)]
  refine evc6 (cnt5 h hN) (fun c0 c1 c2 c3 c4 c5 q5 => ?_)
  replace q5 : c0 = cmp (W * H) num (WL W H num) br := q5
  refine evc6 (cnt2 h hN) (fun d0 d1 d2 d3 d4 d5 q2 => ?_)
  replace q2 : d0 = nI (rk num (W * H)) := q2
  have hle := cmp_le (W * H) num (WL W H num) br
  rw [if_neg (by rw [q5, q2, cmp_nS]; exact nI_nlt hle (by omega))]
  refine evc6 (cnt6 h hN) (fun f0 f1 f2 f3 f4 f5 q6 => ?_)
  refine evc6 (cnt2 h hN) (fun g0 g1 g2 g3 g4 g5 q22 => ?_)
  replace q22 : g0 = nI (rk num (W * H)) := q22
  obtain ⟨m, m1, m2⟩ := grp_le hr q6
  replace m1 : f0 = nI m := m1
  rw [if_pos (by rw [m1, q22]; exact nI_le m2 (by omega))]
  refine evc6 (cnt7 h hN) (fun i0 i1 i2 i3 i4 i5 q7 => ?_)
  by_cases c : i0 = 1
  · rw [if_pos c]
    have hs : slv W H num br := by
      rcases q7 with ⟨-, q⟩ | ⟨q1, -⟩
      · exact q
      · replace q1 : i0 = 0 := q1
        rw [q1] at c
        exact absurd c (by decide)
    refine evc6 (cnt8 h hN) (fun j0 j1 j2 j3 j4 j5 q8 => ?_)
    rw [if_neg (fun z => by
      rcases q8 with ⟨-, q⟩ | ⟨q1, -⟩
      · exact slv_nbrk h.2.1 h.2.2.2.2.2.2.1 hs q
      · replace q1 : j0 = 0 := q1
        rw [q1] at z
        exact absurd z (by decide))]
    refine evc6 (cnt5 h hN) (fun k0 k1 k2 k3 k4 k5 q55 => ?_)
    replace q55 : k0 = cmp (W * H) num (WL W H num) br := q55
    refine evc6 (cnt2 h hN) (fun l0 l1 l2 l3 l4 l5 q23 => ?_)
    replace q23 : l0 = nI (rk num (W * H)) := q23
    rw [if_pos (by rw [q55, q23]; exact hs.2.1)]
    refine evc6 (cnt6 h hN) (fun m0 m1 m2 m3 m4 m5 q66 => ?_)
    rw [if_pos (grp_uniq q66 hs.2.2)]
    exact L467 h hN hg hB9 hR
  · rw [if_neg c]
    exact L467 h hN hg hB9 hR
theorem L309 (h : Cur W H num br cp cols rows grade steps Yi Yw Mw cO iA fi se fC sC st wO s one other cr) (hN : 100000 < N) (hg : GI B grade steps) (hB9 : B ≤ 100000) (hR : ∀ (un ub uc ul ld : Nat → Int32) (rb : Int64), Ev (rc sv (nI (e + 1)) cols rows grade steps num br cp Yi Yw cO iA fi se fC sC st wO cr un ub uc ul ld rb kc kr ki kz tk mn kC hz Hb HN HB HC Hc Hr Hg Hs) (fun t => t = 1)) (hb : bb = iS br (WL W H num).length) : Ev (m_L_law_j309 N tl rc sv (nI e) bb cols rows grade steps num br cp Yi Yw cO iA fi se fC sC st wO cr un ub uc ul ld rb kc kr ki kz tk mn kC hz Hb HN HB HC Hc Hr Hg Hs) (fun t => t = 1) := by
  have hM := h.2.1.M
  unfold m_L_law_j309
  refine zl7e1 (W * H) (fun i a _ _ _ _ _ => a = iS (fun c => if 0 < num c then num c - sI (WL W H num) br c else 0) i) ?_ ?_ N 0 _ _ _ _ _ _ (by omega) (by omega) rfl
  · intro rec i a un ub uc ul ld hi hP k
    unfold m_L_law_b315
    refine evc6 (cnt0 h hN) (fun v0 v1 v2 v3 v4 v5 q0 => ?_)
    refine evc6 (cnt1 h hN) (fun w0 w1 w2 w3 w4 w5 q1 => ?_)
    replace q0 : v0 = nI W := q0
    replace q1 : w0 = nI H := q1
    subst q0 q1
    rw [pk_mul, if_neg (nI_ge hi (by omega))]
    refine evc6 (isl0 h hi hN) (fun x0 x1 x2 x3 x4 x5 q2 => ?_)
    by_cases hp : 0 < num i
    · replace q2 : x0 = num i := q2.trans (if_pos hp)
      rw [if_neg (by rw [q2]; exact Int32.not_le.mpr hp)]
      refine evc6 (isl2 h hi hp hN) (fun y0 y1 y2 y3 y4 y5 q3 => ?_)
      unfold m_L_law_j358
      simp only [lt1, nI_s]
      refine k _ _ _ _ _ _ ?_
      rw [hP]
      show _ = iS _ i + (if 0 < num i then num i - sI (WL W H num) br i else 0)
      rw [if_pos hp, show y0 = num i - sI (WL W H num) br i from q3]
    · replace q2 : x0 = -4 := q2.trans (if_neg hp)
      rw [if_pos (by rw [q2]; decide)]
      unfold m_L_law_j358
      simp only [lt1, nI_s]
      refine k _ _ _ _ _ _ ?_
      rw [hP]
      show _ = iS _ i + (if 0 < num i then num i - sI (WL W H num) br i else 0)
      rw [if_neg hp]
  · intro rec a un ub uc ul ld hP
    unfold m_L_law_b315
    refine evc6 (cnt0 h hN) (fun v0 v1 v2 v3 v4 v5 q0 => ?_)
    refine evc6 (cnt1 h hN) (fun w0 w1 w2 w3 w4 w5 q1 => ?_)
    replace q0 : v0 = nI W := q0
    replace q1 : w0 = nI H := q1
    subst q0 q1
    rw [pk_mul, if_pos (nI_le (Nat.le_refl _) (by omega))]
    exact L367 h hN hg hB9 hR hb (by rw [hP, lacks_all h.2.1, hb])
theorem L141 (h : Cur W H num br cp cols rows grade steps Yi Yw Mw cO iA fi se fC sC st wO s one other cr) (hN : 100000 < N) (hg : GI B grade steps) (hB9 : B ≤ 100000) (hR : ∀ (un ub uc ul ld : Nat → Int32) (rb : Int64), Ev (rc sv (nI (e + 1)) cols rows grade steps num br cp Yi Yw cO iA fi se fC sC st wO cr un ub uc ul ld rb kc kr ki kz tk mn kC hz Hb HN HB HC Hc Hr Hg Hs) (fun t => t = 1)) (hsv : sv = hz) : Ev (m_L_law_j141 N tl rc sv (nI e) cols rows grade steps num br cp Yi Yw cO iA fi se fC sC st wO cr un ub uc ul ld rb kc kr ki kz tk mn kC hz Hb HN HB HC Hc Hr Hg Hs) (fun t => t = 1) := by
  have hn := h.2.1.wls.2.2.1.1
  unfold m_L_law_j141
  refine evc6 (cnt12 h hN) (fun v0 v1 v2 v3 v4 v5 q => ?_)
  rw [if_pos ((show v0 = hz from q).trans hsv.symm)]
  refine zl7e1 (WL W H num).length (fun i a _ _ _ _ _ => a = iS br i) ?_ ?_ N 0 _ _ _ _ _ _ (by omega) (by omega) rfl
  · intro rec i a un ub uc ul ld hi hP k
    obtain ⟨b, c, b1, b2, b3, b4⟩ := h.2.2.2.2.2.2.1 i hi
    obtain ⟨w1, w2, w3, w4⟩ := h.2.1.wls.2.2.1.2 i hi
    unfold m_L_law_b159
    refine evc6 (cnt3 h hN) (fun c0 c1 c2 c3 c4 c5 q3 => ?_)
    replace q3 : c0 = nI (WL W H num).length := q3
    rw [if_neg (by rw [q3]; exact nI_ge hi (by omega))]
    refine evc5 (way2 h hi hN) (fun d0 d1 d2 d3 d4 qd => ?_)
    replace qd : d0 = br i := qd
    simp only [lt1]
    refine evc5 (way2 h hi hN) (fun f0 f1 f2 f3 f4 qf => ?_)
    replace qf : f0 = br i := qf
    rw [if_neg (by rw [qf, b1]; exact nI_pos (by omega))]
    refine evc5 (way2 h hi hN) (fun g0 g1 g2 g3 g4 qg => ?_)
    replace qg : g0 = br i := qg
    refine evc5 (way3 h hi hN) (fun i0 i1 i2 i3 i4 qi => ?_)
    replace qi : i0 = cp i := qi
    rw [if_neg (by rw [qg, qi, b1, b2]; exact nI_nlt b3 (by omega))]
    refine evc5 (way3 h hi hN) (fun j0 j1 j2 j3 j4 qj => ?_)
    replace qj : j0 = cp i := qj
    rw [if_neg (by rw [qj, b2]; exact nI_nlt (a := 2) b4 (by omega))]
    refine evc5 (way0 h hi hN) (fun l0 l1 l2 l3 l4 ql => ?_)
    replace ql : l0 = nI (gw (WL W H num) i).1 := ql
    refine evc5 (way1 h hi hN) (fun m0 m1 m2 m3 m4 qm => ?_)
    replace qm : m0 = nI (gw (WL W H num) i).2.1 := qm
    rw [if_neg (by rw [ql, qm]; exact nI_ge w1 (by omega))]
    refine evc5 (way6 h hi hN) (fun n0 n1 n2 n3 n4 qn => ?_)
    refine evc5 (way5 h hi hN) (fun o0 o1 o2 o3 o4 qo => ?_)
    have hle : nS (fun j => if crs W (gw (WL W H num) i) (gw (WL W H num) j) = true ∧ 0 < br j then 1 else 0) (WL W H num).length ≤ nS (fun j => if crs W (gw (WL W H num) i) (gw (WL W H num) j) = true then 1 else 0) (WL W H num).length := nS_mono fun j _ => by
      by_cases z : crs W (gw (WL W H num) i) (gw (WL W H num) j) = true ∧ 0 < br j
      · rw [if_pos z, if_pos z.1]; exact Nat.le_refl _
      · rw [if_neg z]; exact Nat.zero_le _
    have hle2 := nS_le (f := fun j => if crs W (gw (WL W H num) i) (gw (WL W H num) j) = true then 1 else 0) (B := 1) (n := (WL W H num).length) (fun k _ => by split <;> omega)
    rw [if_pos (by rw [show n0 = _ from qn, show o0 = _ from qo]; exact nI_le hle (by omega))]
    refine evc5 (way0 h hi hN) (fun p0 p1 p2 p3 p4 qp => ?_)
    replace qp : p0 = nI (gw (WL W H num) i).1 := qp
    refine evc5 (way1 h hi hN) (fun r0 r1 r2 r3 r4 qr => ?_)
    replace qr : r0 = nI (gw (WL W H num) i).2.1 := qr
    subst qp qr
    refine evc1 (btw h hi hN) (fun s0 qs => ?_)
    rw [if_pos qs]
    have nx : ∀ (un ub uc ul ld : Nat → Int32), Ev (m_L_law_j303 rec (a + d0) (nI i) un ub uc ul ld) (fun t => t = 1) := by
      intro un ub uc ul ld
      unfold m_L_law_j303
      simp only [lt1, nI_s]
      refine k _ _ _ _ _ _ ?_
      rw [hP, qd]
      rfl
    refine evc5 (way6 h hi hN) (fun t0 t1 t2 t3 t4 qt => ?_)
    by_cases cx : t0 ≤ 0
    · rw [if_pos cx]
      exact nx _ _ _ _ _
    · rw [if_neg cx]
      refine evc5 (way7 h hi hN) (fun u0 u1 u2 u3 u4 qu => ?_)
      rw [if_neg (fun z => ?_)]
      · exact nx _ _ _ _ _
      · replace qu : rsn W num (WL W H num) br cp i u0 := qu
        rw [z] at qu
        have hX0 := (rsn_0 qu).2.2
        refine cx ?_
        replace qt : t0 = nI (nS (fun j => if crs W (gw (WL W H num) i) (gw (WL W H num) j) = true ∧ 0 < br j then 1 else 0) (WL W H num).length) := qt
        have e0 : nS (fun j => if crs W (gw (WL W H num) i) (gw (WL W H num) j) = true ∧ 0 < br j then 1 else 0) (WL W H num).length = 0 := by
          have e1 := nS_le (f := fun j => if crs W (gw (WL W H num) i) (gw (WL W H num) j) = true ∧ 0 < br j then 1 else 0) (B := 0) (n := (WL W H num).length) (fun j hj => by
            rw [if_neg (fun y => hX0 ⟨j, hj, y.1, y.2⟩)]
            exact Nat.le_refl _)
          omega
        rw [qt, e0]
        decide
  · intro rec a un ub uc ul ld hP
    unfold m_L_law_b159
    refine evc6 (cnt3 h hN) (fun c0 c1 c2 c3 c4 c5 q3 => ?_)
    replace q3 : c0 = nI (WL W H num).length := q3
    rw [if_pos (by rw [q3]; exact nI_le (Nat.le_refl _) (by omega))]
    exact L309 h hN hg hB9 hR hP
end
