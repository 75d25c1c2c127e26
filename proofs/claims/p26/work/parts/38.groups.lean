/-! groups: the least place that can be reached -/
def LabG (n : Nat) (p q : Nat → Nat) (on : Nat → Prop) (g : Nat → Nat) : Prop := (∀ k, k < n → on k → g (p k) = g (q k)) ∧ (∀ c, g c ≤ c) ∧ ∀ h : Nat → Nat, (∀ k, k < n → on k → h (p k) = h (q k)) → ∀ c, h (g c) = h c
theorem LabG.uniq {n : Nat} {p q : Nat → Nat} {on : Nat → Prop} {g1 g2 : Nat → Nat} (h1 : LabG n p q on g1) (h2 : LabG n p q on g2) (c : Nat) : g1 c = g2 c := by
  have a := h2.2.2 g1 h1.1 c
  have b := h1.2.2 g2 h2.1 c
  have a2 := h1.2.1 (g2 c)
  have b2 := h2.2.1 (g1 c)
  omega
theorem LabG.congr {n : Nat} {p q : Nat → Nat} {on on' : Nat → Prop} {g : Nat → Nat} (he : ∀ k, k < n → (on k ↔ on' k)) (h : LabG n p q on g) : LabG n p q on' g :=
  ⟨fun k hk ho => h.1 k hk ((he k hk).mpr ho), h.2.1, fun f hf c => h.2.2 f (fun k hk ho => hf k hk ((he k hk).mp ho)) c⟩
/-- two groups become one -/
def jn (g : Nat → Nat) (a b : Nat) : Nat → Nat := fun c => if g c = max a b then min a b else g c
theorem jn_le {g : Nat → Nat} {a b : Nat} (h : ∀ c, g c ≤ c) (c : Nat) : jn g a b c ≤ c := by
  unfold jn
  have := h c
  by_cases e : g c = max a b
  · rw [if_pos e]; omega
  · rw [if_neg e]; exact this
theorem LabG.join {n : Nat} {p q : Nat → Nat} {on : Nat → Prop} {g : Nat → Nat} (h : LabG n p q on g) (ho : on n) : LabG (n + 1) p q on (jn g (g (p n)) (g (q n))) := by
  refine ⟨fun k hk hok => ?_, jn_le h.2.1, fun f hf c => ?_⟩
  · rcases Nat.lt_or_ge k n with c | c
    · unfold jn; rw [h.1 k c hok]
    · have : k = n := by omega
      subst this
      unfold jn
      by_cases e1 : g (p k) = max (g (p k)) (g (q k)) <;> by_cases e2 : g (q k) = max (g (p k)) (g (q k))
      · rw [if_pos e1, if_pos e2]
      · rw [if_pos e1, if_neg e2]; omega
      · rw [if_neg e1, if_pos e2]; omega
      · omega
  · have hg := h.2.2 f (fun k hk hok => hf k (by omega) hok)
    have hpq := hf n (by omega) ho
    have e1 := hg (p n)
    have e2 := hg (q n)
    unfold jn
    by_cases e : g c = max (g (p n)) (g (q n))
    · rw [if_pos e]
      have e3 := hg c
      rw [e] at e3
      rcases Nat.le_total (g (p n)) (g (q n)) with z | z
      · rw [Nat.min_eq_left z]
        rw [Nat.max_eq_right z] at e3
        rw [e1, hpq, ← e2, e3]
      · rw [Nat.min_eq_right z]
        rw [Nat.max_eq_left z] at e3
        rw [e2, ← hpq, ← e1, e3]
    · rw [if_neg e]; exact hg c
theorem LabG.skip {n : Nat} {p q : Nat → Nat} {on : Nat → Prop} {g : Nat → Nat} (h : LabG n p q on g) (ho : ¬ on n) : LabG (n + 1) p q on g := by
  refine ⟨fun k hk hok => ?_, h.2.1, fun f hf c => h.2.2 f (fun k hk hok => hf k (by omega) hok) c⟩
  rcases Nat.lt_or_ge k n with z | z
  · exact h.1 k z hok
  · have : k = n := by omega
    subst this; exact absurd hok ho
theorem LabG.far {n K : Nat} {p q : Nat → Nat} {on : Nat → Prop} {g : Nat → Nat} (h : LabG n p q on g) (hp : ∀ k, k < n → p k < K ∧ q k < K) {c : Nat} (hc : K ≤ c) : g c = c := by
  have := h.2.2 (fun c => if c < K then 0 else c + 1) (fun k hk _ => by rw [if_pos (hp k hk).1, if_pos (hp k hk).2]) c
  by_cases e : g c < K
  · rw [if_pos e, if_neg (by omega)] at this; omega
  · rw [if_neg e, if_neg (by omega)] at this; omega
theorem mn_nI {a b : Nat} (ha : a < 2 ^ 31) (hb : b < 2 ^ 31) : mnI (nI a) (nI b) = nI (min a b) := by
  unfold mnI
  by_cases h : b < a
  · rw [if_pos (nI_lt h ha), Nat.min_eq_right (by omega)]
  · rw [if_neg (nI_nlt (by omega) hb), Nat.min_eq_left (by omega)]
theorem mx_nI {a b : Nat} (ha : a < 2 ^ 31) (hb : b < 2 ^ 31) : mxI (nI a) (nI b) = nI (max a b) := by
  unfold mxI
  by_cases h : a < b
  · rw [if_pos (nI_lt h hb), Nat.max_eq_right (by omega)]
  · rw [if_neg (nI_nlt (by omega) ha), Nat.max_eq_left (by omega)]
theorem join_ev {N K : Nat} {g : Nat → Nat} {ld : Nat → Int32} {a b : Nat} (hK : K ≤ 24) (hg : ∀ c, g c ≤ c) (hfar : ∀ c, K ≤ c → g c = c) (hl : ∀ i, i < 24 → ld i = nI (g i)) (ha : a < K) (hb : b < K) (hN : 144 < N) : Ev (m_X0_join N (nI K) ld (nI a) (nI b)) (fun z => ∀ i, i < 24 → z i = nI (jn g a b i)) := by
  unfold m_X0_join
  simp only [lt1]
  rw [mn_nI (by omega) (by omega), mx_nI (by omega) (by omega)]
  refine zl2c0 K (fun i y => ∀ j, j < 24 → y j = if j < i then nI (jn g a b j) else nI (g j)) ?_ ?_ N 0 _ (by omega) (by omega) (fun j hj => by rw [if_neg (by omega)]; exact hl j hj)
  · intro rec i y hi hP
    have hgi := hg i
    have hy := hP i (by omega)
    rw [if_neg (by omega)] at hy
    unfold m_X0_join_b16
    rw [if_neg (nI_ge hi (by omega))]
    simp only [lt1]
    rw [vAt_nI (by omega) (by omega), hy, vPut_nI (by omega) (by omega)]
    refine Or.inr ⟨if g i = max a b then upd y i (nI (min a b)) else y, ?_, fun j hj => ?_⟩
    · by_cases e : g i = max a b
      · rw [if_pos (by rw [e]), if_pos e]
        unfold m_X0_join_j52
        simp only [lt1, nI_s]
      · rw [if_neg (fun z => e (nI_i (by omega) (by omega) z)), if_neg e]
        unfold m_X0_join_j52
        simp only [lt1, nI_s]
    · by_cases e : g i = max a b
      · rw [if_pos e]
        by_cases ej : j = i
        · subst ej
          rw [upd_s, if_pos (by omega)]
          unfold jn
          rw [if_pos e]
        · rw [upd_n ej, hP j hj]
          by_cases h : j < i
          · rw [if_pos h, if_pos (by omega)]
          · rw [if_neg h, if_neg (by omega)]
      · rw [if_neg e, hP j hj]
        by_cases h : j < i
        · rw [if_pos h, if_pos (by omega)]
        · rw [if_neg h]
          by_cases ej : j = i
          · subst ej
            rw [if_pos (by omega)]
            unfold jn
            rw [if_neg e]
          · rw [if_neg (by omega)]
  · intro rec y hP
    unfold m_X0_join_b16
    rw [if_pos (nI_le (Nat.le_refl _) (by omega))]
    refine Ev.some (fun i hi => ?_)
    rw [hP i hi]
    by_cases h : i < K
    · rw [if_pos h]
    · rw [if_neg h]
      have := hfar i (by omega)
      unfold jn
      rw [if_neg (by omega)]
/-- a way's ends by the islands' places; by cells -/
def pF (num : Nat → Int32) (l : List Wy) (k : Nat) : Nat := rk num (gw l k).1
def qF (num : Nat → Int32) (l : List Wy) (k : Nat) : Nat := rk num (gw l k).2.1
def pC (l : List Wy) (k : Nat) : Nat := (gw l k).1
def qC (l : List Wy) (k : Nat) : Nat := (gw l k).2.1
def onB (br : Nat → Int32) (k : Nat) : Prop := 0 < br k
theorem groups_ev {W H N : Nat} {num br fi se fC sC st ld : Nat → Int32} {Yw : Int32} (hB : BD W H num) (h4 : wrep num (WL W H num) Yw fi se fC sC st) (hN : 144 < N) : Ev (m_X0_read N (nI (rk num (W * H))) Yw fi se ld br) (fun z => ∃ g, (∀ i, i < 24 → z i = nI (g i)) ∧ LabG (WL W H num).length (pF num (WL W H num)) (qF num (WL W H num)) (onB br) g) := by
  have h48 := hB.wls.2.2.1.1
  have h24 := hB.2.2.2.2
  have hYw := h4.1
  subst hYw
  have hpq : ∀ k, k < (WL W H num).length → pF num (WL W H num) k < rk num (W * H) ∧ qF num (WL W H num) k < rk num (W * H) := by
    intro k hk
    obtain ⟨g1, g2, g3, g4, -⟩ := hB.wls.2.2.2 k hk
    exact ⟨rk_lt g3 (Nat.lt_trans g1 g2), rk_lt g4 g2⟩
  unfold m_X0_read
  refine zl2c0 24 (fun i y => ∀ j, j < i → y j = nI j) ?_ ?_ N 0 _ (by omega) (by omega) (fun j h => by omega)
  · intro rec i y hi hP
    refine Or.inr ⟨upd y i (nI i), ?_, fun j hj => ?_⟩
    · unfold m_X0_read_b2
      rw [if_neg (kk24_ge hi)]
      simp only [lt1, nI_s]
      rw [vPut_nI hi (by omega)]
    · rcases Nat.lt_or_ge j i with q | q
      · rw [upd_n (by omega)]; exact hP j q
      · have : j = i := by omega
        subst this; exact upd_s
  · intro rec y hP
    unfold m_X0_read_b2
    rw [if_pos (kk24_le (Nat.le_refl _) (by omega))]
    unfold m_X0_read_j23
    refine zl2c0 (WL W H num).length (fun k y => ∃ g, (∀ i, i < 24 → y i = nI (g i)) ∧ LabG k (pF num (WL W H num)) (qF num (WL W H num)) (onB br) g) ?_ ?_ N 0 _ (by omega) (by omega) ⟨fun i => i, hP, fun k h => absurd h (Nat.not_lt_zero _), fun c => Nat.le_refl c, fun h _ c => rfl⟩
    · rintro rec2 k y hk ⟨g, hg, hlab⟩
      refine Or.inr ?_
      obtain ⟨f1, f2, -⟩ := h4.2 k hk
      obtain ⟨r1, r2⟩ := hpq k hk
      unfold m_X0_read_b25
      rw [if_neg (nI_ge hk (by omega))]
      simp only [lt1, m_X2_first, m_X2_second, m_X0_leader]
      rw [vAt_nI (show k < 48 by omega) (by omega), vAt_nI (show k < 48 by omega) (by omega), vAt_nI (show k < 48 by omega) (by omega), f1, f2]
      have e1 : vAt 24 y (nI (rk num (gw (WL W H num) k).1)) = nI (g (pF num (WL W H num) k)) := by
        show vAt 24 y (nI (pF num (WL W H num) k)) = _
        rw [vAt_nI (show pF num (WL W H num) k < 24 by omega) (by omega)]; exact hg _ (by omega)
      have e2 : vAt 24 y (nI (rk num (gw (WL W H num) k).2.1)) = nI (g (qF num (WL W H num) k)) := by
        show vAt 24 y (nI (qF num (WL W H num) k)) = _
        rw [vAt_nI (show qF num (WL W H num) k < 24 by omega) (by omega)]; exact hg _ (by omega)
      rw [e1, e2]
      by_cases hb : 0 < br k
      · rw [if_neg (fun z => absurd hb (Int32.not_lt.mpr z))]
        obtain ⟨z, hz, hz2⟩ := join_ev (N := N) h24 hlab.2.1 (fun c hc => hlab.far (K := rk num (W * H)) (fun j hj => hpq j (by omega)) hc) hg (Nat.lt_of_le_of_lt (hlab.2.1 _) r1) (Nat.lt_of_le_of_lt (hlab.2.1 _) r2) hN
        rw [hz, bd1_some]
        unfold m_X0_read_j72
        simp only [lt1, nI_s]
        exact ⟨_, rfl, _, hz2, hlab.join hb⟩
      · rw [if_pos (Int32.not_lt.mp hb)]
        unfold m_X0_read_j72
        simp only [lt1, nI_s]
        exact ⟨_, rfl, g, hg, hlab.skip hb⟩
    · rintro rec2 y ⟨g, hg, hlab⟩
      unfold m_X0_read_b25
      rw [if_pos (nI_le (Nat.le_refl _) (by omega))]
      exact Ev.some ⟨g, hg, hlab⟩
/-- sums of numbers -/
def nS (f : Nat → Nat) : Nat → Nat
  | 0 => 0
  | n + 1 => nS f n + f n
theorem nS_congr {f g : Nat → Nat} : ∀ {n : Nat}, (∀ k, k < n → f k = g k) → nS f n = nS g n := by
  intro n
  induction n with
  | zero => intro _; rfl
  | succ n ih => intro h; show nS f n + f n = nS g n + g n; rw [ih (fun k hk => h k (by omega)), h n (by omega)]
theorem nS_set {f : Nat → Nat} {p v : Nat} : ∀ {n : Nat}, p < n → nS (fun c => if c = p then v else f c) n + f p = nS f n + v := by
  intro n
  induction n with
  | zero => intro h; omega
  | succ n ih =>
    intro h
    show nS _ n + (if n = p then v else f n) + f p = nS f n + f n + v
    rcases Nat.lt_or_ge p n with q | q
    · have := ih q
      rw [if_neg (by omega)]; omega
    · have : p = n := by omega
      subst this
      rw [if_pos rfl, nS_congr (g := f) (fun k hk => if_neg (by omega))]; omega
theorem nS_le {f : Nat → Nat} {B : Nat} : ∀ {n : Nat}, (∀ k, k < n → f k ≤ B) → nS f n ≤ n * B := by
  intro n
  induction n with
  | zero => intro _; exact Nat.zero_le _
  | succ n ih =>
    intro h
    show nS f n + f n ≤ (n + 1) * B
    have := ih (fun k hk => h k (by omega))
    have := h n (by omega)
    rw [Nat.succ_mul]; omega
theorem lesser_m {a b : Nat} (ha : a < 2 ^ 31) (hb : b < 2 ^ 31) : m_X10_lesser (nI a) (nI b) = nI (min a b) := by
  unfold m_X10_lesser
  by_cases h : b ≤ a
  · rw [if_pos (nI_le h ha), Nat.min_eq_right h]
  · rw [if_neg (nI_ge (by omega) hb), Nat.min_eq_left (by omega)]
/-- a labelling that is under way -/
def PL (n : Nat) (p q : Nat → Nat) (on : Nat → Prop) (g : Nat → Nat) : Prop := (∀ c, g c ≤ c) ∧ ∀ h : Nat → Nat, (∀ k, k < n → on k → h (p k) = h (q k)) → ∀ c, h (g c) = h c
def st2 (g : Nat → Nat) (p q v : Nat) : Nat → Nat := fun c => if c = q then v else if c = p then v else g c
theorem PL.set {n : Nat} {p q : Nat → Nat} {on : Nat → Prop} {g : Nat → Nat} (h : PL n p q on g) {k : Nat} (hk : k < n) (ho : on k) : PL n p q on (st2 g (p k) (q k) (min (g (p k)) (g (q k)))) := by
  have a1 := h.1 (p k)
  have a2 := h.1 (q k)
  refine ⟨fun c => ?_, fun f hf c => ?_⟩
  · unfold st2
    by_cases e1 : c = q k
    · rw [if_pos e1, e1]; omega
    · rw [if_neg e1]
      by_cases e2 : c = p k
      · rw [if_pos e2, e2]; omega
      · rw [if_neg e2]; exact h.1 c
  · have b1 := h.2 f hf (p k)
    have b2 := h.2 f hf (q k)
    have b3 := hf k hk ho
    have b4 : f (min (g (p k)) (g (q k))) = f (p k) := by
      rcases Nat.le_total (g (p k)) (g (q k)) with z | z
      · rw [Nat.min_eq_left z]; exact b1
      · rw [Nat.min_eq_right z, b2, b3]
    unfold st2
    by_cases e1 : c = q k
    · rw [if_pos e1, b4, b3, e1]
    · rw [if_neg e1]
      by_cases e2 : c = p k
      · rw [if_pos e2, b4, e2]
      · rw [if_neg e2]; exact h.2 f hf c
theorem st2_sum {g : Nat → Nat} {p q M : Nat} (hpq : p ≠ q) (hp : p < M) (hq : q < M) (hne : g p ≠ g q) : nS (st2 g p q (min (g p) (g q))) M < nS g M := by
  have h1 := nS_set (f := fun c => if c = p then min (g p) (g q) else g c) (p := q) (v := min (g p) (g q)) hq
  have h2 := nS_set (f := g) (p := p) (v := min (g p) (g q)) hp
  rw [if_neg (fun e => hpq e.symm)] at h1
  unfold st2
  omega
theorem findGroups_ev {W H N : Nat} {num s one other br cp gr : Nat → Int32} {l : List Wy} {Mw : Int32} (hs : MS W H num s) (hl : WLs W H num l) (h : mrep l Mw one other) (hb : MB l.length br cp s) (hN : 100000 < N) : Ev (m_X10_findGroups N Mw s one other gr) (fun z => ∃ g, (∀ c, c < W * H → z c = nI (g c)) ∧ LabG l.length (pC l) (qC l) (onB br) g) := by
  have h48 := hl.2.2.1.1
  have hM := hl.2.1
  have hMw := h.1
  subst hMw
  unfold m_X10_findGroups
  refine zl2c0 (W * H) (fun i y => ∀ j, j < i → y j = nI j) ?_ ?_ N 0 _ (by omega) (by omega) (fun j h => by omega)
  · intro rec i y hi hP
    refine Or.inr ⟨upd y i (nI i), ?_, fun j hj => ?_⟩
    · unfold m_X10_findGroups_b2
      rw [cells_m hs, bd1_some, if_neg (nI_ge hi (by omega)), wr_nI (by omega) (by omega)]
      simp only [lt1, nI_s]
    · rcases Nat.lt_or_ge j i with q | q
      · rw [upd_n (by omega)]; exact hP j q
      · have : j = i := by omega
        subst this; exact upd_s
  · intro rec y hP
    unfold m_X10_findGroups_b2
    rw [cells_m hs, bd1_some, if_pos (nI_le (Nat.le_refl _) (by omega))]
    unfold m_X10_findGroups_j23
    refine zl2m (fun ch gr => ∃ g, (∀ c, c < W * H → gr c = nI (g c)) ∧ PL l.length (pC l) (qC l) (onB br) g ∧ ((ch = 0 ∧ ∀ k, k < l.length → onB br k → g (pC l k) = g (qC l k)) ∨ ch = 1)) (fun ch gr => if ch = 0 then 0 else 1 + nS (fun c => (gr c).toNatClampNeg) (W * H)) ?_ N 1 y ⟨fun c => c, hP, ⟨fun c => Nat.le_refl c, fun h _ c => rfl⟩, Or.inr rfl⟩ (by
      rw [if_neg (by decide)]
      have := nS_le (f := fun c => (y c).toNatClampNeg) (B := 144) (n := W * H) (fun k hk => by rw [hP k hk, nI_clamp (by omega)]; omega)
      have : W * H * 144 ≤ 144 * 144 := Nat.mul_le_mul_right 144 hM
      omega)
    rintro rec2 ch gr0 ⟨g0, hg0, hpl0, hch⟩
    unfold m_X10_findGroups_b25
    rcases hch with ⟨rfl, hlab⟩ | rfl
    · rw [if_pos rfl]
      exact Or.inl (Ev.some ⟨g0, hg0, hlab, hpl0.1, hpl0.2⟩)
    · rw [if_neg (by decide)]
      refine Or.inr ?_
      have hsum0 : nS (fun c => (gr0 c).toNatClampNeg) (W * H) = nS g0 (W * H) := nS_congr (fun k hk => by rw [hg0 k hk, nI_clamp (by have := hpl0.1 k; omega)])
      have key : (fun o => ∃ w0 w1, o = rec2 w0 w1 ∧ (∃ g, (∀ c, c < W * H → w1 c = nI (g c)) ∧ PL l.length (pC l) (qC l) (onB br) g ∧ ((w0 = 0 ∧ ∀ k, k < l.length → onB br k → g (pC l k) = g (qC l k)) ∨ w0 = 1)) ∧ (if w0 = 0 then 0 else 1 + nS (fun c => (w1 c).toNatClampNeg) (W * H)) < 1 + nS (fun c => (gr0 c).toNatClampNeg) (W * H)) (zl3 (m_X10_findGroups_b33 (nI l.length) s one other rec2) N 0 (nI 0) gr0) := by
        refine zl3g1 (fun o => ∃ w0 w1, o = rec2 w0 w1 ∧ (∃ g, (∀ c, c < W * H → w1 c = nI (g c)) ∧ PL l.length (pC l) (qC l) (onB br) g ∧ ((w0 = 0 ∧ ∀ k, k < l.length → onB br k → g (pC l k) = g (qC l k)) ∨ w0 = 1)) ∧ (if w0 = 0 then 0 else 1 + nS (fun c => (w1 c).toNatClampNeg) (W * H)) < 1 + nS (fun c => (gr0 c).toNatClampNeg) (W * H)) l.length (fun (k : Nat) (ch : Int32) (gr : Nat → Int32) => ∃ g, (∀ c, c < W * H → gr c = nI (g c)) ∧ PL l.length (pC l) (qC l) (onB br) g ∧ nS g (W * H) ≤ nS g0 (W * H) ∧ ((ch = 0 ∧ ∀ j, j < k → onB br j → g (pC l j) = g (qC l j)) ∨ (ch = 1 ∧ nS g (W * H) < nS g0 (W * H)))) ?_ ?_ N 0 (0 : Int32) gr0 (by omega) (by omega) ⟨g0, hg0, hpl0, Nat.le_refl _, Or.inl ⟨rfl, fun j hj => by omega⟩⟩
        · rintro rec3 k ch gr hk ⟨g, hg, hpl, hle, hc⟩
          refine Or.inr ?_
          obtain ⟨f1, f2⟩ := h.2 k hk
          obtain ⟨w1, w2, w3, w4, -⟩ := hl.2.2.2 k hk
          have hp : pC l k < W * H := Nat.lt_trans w1 w2
          have hq : qC l k < W * H := w2
          have hpq : pC l k ≠ qC l k := Nat.ne_of_lt w1
          have hgp := hpl.1 (pC l k)
          have hgq := hpl.1 (qC l k)
          have f3 : gr (gw l k).1 = nI (g (pC l k)) := hg _ hp
          have f4 : gr (gw l k).2.1 = nI (g (qC l k)) := hg _ hq
          have hp2 : (gw l k).1 < 144 := by have : (gw l k).1 < W * H := hp; omega
          have hq2 : (gw l k).2.1 < 144 := by have : (gw l k).2.1 < W * H := hq; omega
          unfold m_X10_findGroups_b33
          rw [if_neg (nI_ge hk (by omega)), rd_nI (by omega) (by omega), f1, rd_nI hp2 (by omega), rd_nI (by omega) (by omega), f2, rd_nI hq2 (by omega), f3, f4, bridges_m hb h48 hk, bd1_some]
          by_cases hon : 0 < br k
          · rw [if_neg (fun z => absurd hon (Int32.not_lt.mpr z))]
            by_cases heq : g (pC l k) = g (qC l k)
            · rw [if_pos (by rw [heq])]
              unfold m_X10_findGroups_j116
              simp only [lt1, nI_s]
              refine ⟨_, _, rfl, g, hg, hpl, hle, ?_⟩
              rcases hc with ⟨c1, c2⟩ | c1
              · refine Or.inl ⟨c1, fun j hj ho => ?_⟩
                rcases Nat.lt_or_ge j k with z | z
                · exact c2 j z ho
                · have : j = k := by omega
                  subst this; exact heq
              · exact Or.inr c1
            · rw [if_neg (fun z => heq (nI_i (by omega) (by omega) z)), rd_nI (by omega) (by omega), f1]
              simp only [lt1]
              rw [lesser_m (by omega) (by omega), wr_nI hp2 (by omega), rd_nI (by omega) (by omega), f2, wr_nI hq2 (by omega)]
              unfold m_X10_findGroups_j116
              simp only [lt1, nI_s]
              have hs2 := st2_sum hpq hp hq heq
              refine ⟨_, _, rfl, st2 g (pC l k) (qC l k) (min (g (pC l k)) (g (qC l k))), fun c hcM => ?_, hpl.set hk hon, by omega, Or.inr ⟨rfl, by omega⟩⟩
              unfold st2
              by_cases e1 : c = qC l k
              · rw [if_pos e1, e1]; exact upd_s
              · rw [if_neg e1, upd_n (show c ≠ (gw l k).2.1 from e1)]
                by_cases e2 : c = pC l k
                · rw [if_pos e2, e2]; exact upd_s
                · rw [if_neg e2, upd_n (show c ≠ (gw l k).1 from e2)]; exact hg c hcM
          · rw [if_pos (Int32.not_lt.mp hon)]
            unfold m_X10_findGroups_j116
            simp only [lt1, nI_s]
            refine ⟨_, _, rfl, g, hg, hpl, hle, ?_⟩
            rcases hc with ⟨c1, c2⟩ | c1
            · refine Or.inl ⟨c1, fun j hj ho => ?_⟩
              rcases Nat.lt_or_ge j k with z | z
              · exact c2 j z ho
              · have : j = k := by omega
                subst this; exact absurd ho hon
            · exact Or.inr c1
        · rintro rec3 ch gr ⟨g, hg, hpl, hle, hc⟩
          unfold m_X10_findGroups_b33
          rw [if_pos (nI_le (Nat.le_refl _) (by omega))]
          unfold m_X10_findGroups_j122
          have hsum : nS (fun c => (gr c).toNatClampNeg) (W * H) = nS g (W * H) := nS_congr (fun k hk => by rw [hg k hk, nI_clamp (by have := hpl.1 k; omega)])
          refine ⟨ch, gr, rfl, ⟨g, hg, hpl, ?_⟩, ?_⟩
          · rcases hc with ⟨c1, c2⟩ | ⟨c1, -⟩
            · exact Or.inl ⟨c1, c2⟩
            · exact Or.inr c1
          · rcases hc with ⟨c1, -⟩ | ⟨c1, c2⟩
            · rw [if_pos c1]; omega
            · rw [if_neg (by rw [c1]; decide), hsum, hsum0]; omega
      obtain ⟨w0, w1, e, hi, hm⟩ := key
      exact ⟨w0, w1, e, hi, by rw [if_neg (show ¬ (1 : Int32) = 0 by decide)]; exact hm⟩
