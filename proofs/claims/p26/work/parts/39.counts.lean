/-! counts, reasons, groups of both told alike -/
theorem iS_rk {num : Nat → Int32} {p : Nat → Prop} [DecidablePred p] : ∀ m : Nat, iS (fun i => if p i then 1 else 0) (rk num m) = iS (fun c => if 0 < num c ∧ p (rk num c) then 1 else 0) m := by
  intro m
  induction m with
  | zero => rfl
  | succ m ih =>
    show _ = iS _ m + (if 0 < num m ∧ p (rk num m) then 1 else 0)
    by_cases h : 0 < num m
    · rw [rk_s1 h]
      show iS _ (rk num m) + (if p (rk num m) then 1 else 0) = _
      rw [ih]
      by_cases h2 : p (rk num m)
      · rw [if_pos h2, if_pos ⟨h, h2⟩]
      · rw [if_neg h2, if_neg (fun z => h2 z.2)]
    · rw [rk_s0 h, ih, if_neg (fun z => h z.1), Int32.add_zero]
theorem islands_m {W H N : Nat} {num s : Nat → Int32} (hM : W * H ≤ 144) (hs : MS W H num s) (hN : 144 < N) : m_X10_islands N s = some (nI (rk num (W * H))) := by
  unfold m_X10_islands
  refine zl2g1 (fun o => o = some (nI (rk num (W * H)))) (W * H) (fun i v => v = nI (rk num i)) ?_ ?_ N 0 _ (by omega) (by omega) rfl
  · intro rec i v hi hv
    refine Or.inr ⟨_, ?_, rfl⟩
    unfold m_X10_islands_b4
    rw [cells_m hs, bd1_some, if_neg (nI_ge hi (by omega)), number_m hs (by omega), bd1_some, hv]
    by_cases hp : 0 < num i
    · rw [if_neg (fun z => absurd hp (Int32.not_lt.mpr z)), rk_s1 hp]
      unfold m_X10_islands_j26
      simp only [lt1, nI_s]
    · rw [if_pos (Int32.not_lt.mp hp), rk_s0 hp]
      unfold m_X10_islands_j26
      simp only [lt1, nI_s, Int32.add_zero]
  · intro rec v hv
    unfold m_X10_islands_b4
    rw [cells_m hs, bd1_some, if_pos (nI_le (Nat.le_refl _) (by omega)), hv]
theorem isBroken_m {W H N : Nat} {num s one other br cp : Nat → Int32} {l : List Wy} {Mw : Int32} (hs : MS W H num s) (hl : WLs W H num l) (h : mrep l Mw one other) (hb : MB l.length br cp s) (hN : 144 < N) : Ev (m_X10_isBroken N Mw s one other) (fun z => (z = 1 ∧ brk W H num l br cp) ∨ (z = 0 ∧ ¬ brk W H num l br cp)) := by
  have hM := hl.2.1
  unfold m_X10_isBroken
  refine zl2c1 (W * H) (fun i v => (v = 1 ∧ brk W H num l br cp) ∨ (v = 0 ∧ ∀ c, c < i → 0 < num c → ¬ (sI l cp c < num c ∨ num c - sI l br c < 0))) ?_ ?_ N 0 0 (by omega) (by omega) (Or.inr ⟨rfl, fun c h => by omega⟩)
  · intro rec i v hi hP
    refine Or.inr ?_
    have e1 : m_X10_isBroken_j45 rec (nI i) = rec 1 (nI (i + 1)) := by
      unfold m_X10_isBroken_j45 m_X10_isBroken_j50
      simp only [lt1, nI_s]
    have e0 : m_X10_isBroken_j49 rec (nI i) = rec 0 (nI (i + 1)) := by
      unfold m_X10_isBroken_j49 m_X10_isBroken_j50
      simp only [lt1, nI_s]
    unfold m_X10_isBroken_b4
    rw [cells_m hs, bd1_some, if_neg (nI_ge hi (by omega))]
    rcases hP with ⟨hv, hk⟩ | ⟨hv, hk⟩
    · rw [hv, if_neg (by decide), e1]
      exact ⟨1, rfl, Or.inl ⟨rfl, hk⟩⟩
    · rw [hv, if_pos rfl, number_m hs (by omega), bd1_some]
      by_cases hp : 0 < num i
      · rw [if_neg (fun z => absurd hp (Int32.not_lt.mpr z)), capsOf_m hl h hb (by omega) hN, bd1_some, bd1_some]
        by_cases c1 : sI l cp i < num i
        · rw [if_pos c1, e1]
          exact ⟨1, rfl, Or.inl ⟨rfl, i, hi, hp, Or.inl c1⟩⟩
        · rw [if_neg c1, lacks_m hs hl h hb (by omega) hN, bd1_some]
          by_cases c2 : 0 ≤ num i - sI l br i
          · rw [if_pos c2, e0]
            refine ⟨0, rfl, Or.inr ⟨rfl, fun c hc hpc => ?_⟩⟩
            rcases Nat.lt_or_ge c i with q | q
            · exact hk c q hpc
            · have : c = i := by omega
              subst this
              rintro (z | z)
              · exact c1 z
              · exact absurd z (Int32.not_lt.mpr c2)
          · rw [if_neg c2, e1]
            exact ⟨1, rfl, Or.inl ⟨rfl, i, hi, hp, Or.inr (Int32.not_le.mp c2)⟩⟩
      · rw [if_pos (Int32.not_lt.mp hp), e0]
        refine ⟨0, rfl, Or.inr ⟨rfl, fun c hc hpc => ?_⟩⟩
        rcases Nat.lt_or_ge c i with q | q
        · exact hk c q hpc
        · have : c = i := by omega
          subst this; exact absurd hpc hp
  · intro rec v hP
    unfold m_X10_isBroken_b4
    rw [cells_m hs, bd1_some, if_pos (nI_le (Nat.le_refl _) (by omega))]
    unfold ckb
    rcases hP with ⟨hv, hk⟩ | ⟨hv, hk⟩
    · rw [if_pos (Or.inr hv)]
      exact Ev.some (Or.inl ⟨hv, hk⟩)
    · rw [if_pos (Or.inl hv)]
      refine Ev.some (Or.inr ⟨hv, ?_⟩)
      rintro ⟨c, hc, hp, z⟩
      exact hk c hc hp z
/-- how many islands are complete -/
def cmp (M : Nat) (num : Nat → Int32) (l : List Wy) (br : Nat → Int32) : Int32 := iS (fun c => if 0 < num c ∧ num c - sI l br c = 0 then 1 else 0) M
theorem complete_m {W H N : Nat} {num s one other br cp : Nat → Int32} {l : List Wy} {Mw : Int32} (hs : MS W H num s) (hl : WLs W H num l) (h : mrep l Mw one other) (hb : MB l.length br cp s) (hN : 144 < N) : m_X10_complete N Mw s one other = some (cmp (W * H) num l br) := by
  have hM := hl.2.1
  unfold m_X10_complete
  refine zl2g1 (fun o => o = some (cmp (W * H) num l br)) (W * H) (fun i v => v = iS (fun c => if 0 < num c ∧ num c - sI l br c = 0 then 1 else 0) i) ?_ ?_ N 0 _ (by omega) (by omega) rfl
  · intro rec i v hi hv
    refine Or.inr ⟨_, ?_, rfl⟩
    unfold m_X10_complete_b4
    rw [cells_m hs, bd1_some, if_neg (nI_ge hi (by omega)), number_m hs (by omega), bd1_some, hv]
    show _ = rec (_ + (if 0 < num i ∧ num i - sI l br i = 0 then 1 else 0)) _
    by_cases hp : 0 < num i
    · rw [if_neg (fun z => absurd hp (Int32.not_lt.mpr z)), lacks_m hs hl h hb (by omega) hN, bd1_some]
      by_cases c : num i - sI l br i = 0
      · rw [if_pos c, if_pos ⟨hp, c⟩]
        unfold m_X10_complete_j34
        simp only [lt1, nI_s]
      · rw [if_neg c, if_neg (fun z => c z.2)]
        unfold m_X10_complete_j33 m_X10_complete_j34
        simp only [lt1, nI_s]
    · rw [if_pos (Int32.not_lt.mp hp), if_neg (fun z => hp z.1)]
      unfold m_X10_complete_j33 m_X10_complete_j34
      simp only [lt1, nI_s]
  · intro rec v hv
    unfold m_X10_complete_b4
    rw [cells_m hs, bd1_some, if_pos (nI_le (Nat.le_refl _) (by omega)), hv]; rfl
theorem complete_c {W H N : Nat} {num br cp cO iA fi se fC sC st wO un ub uc ul : Nat → Int32} {Yi Yw : Int32} {cr : Nat → Int64} (hB : BD W H num) (hL : LO W H num Yi Yw cO iA fi se fC sC st wO cr) (hN : 144 < N) : Ev (m_X9_completeIslands N num br cp Yi Yw cO fi se un ub uc ul) (fun t => t.1 = cmp (W * H) num (WL W H num) br) := by
  unfold m_X9_completeIslands
  refine Ev.bd4 (sums_ev hB hL hN) (fun t hS => ?_)
  have h24 := hB.2.2.2.2
  rw [hL.1]
  have e0 : cmp (W * H) num (WL W H num) br = iS (fun i => if t.2.2.2 i = 0 then 1 else 0) (rk num (W * H)) := by
    rw [iS_rk]
    refine iS_congr (fun c hc => ?_)
    by_cases hp : 0 < num c
    · rw [(hS c hc hp).2.2.2]
    · rw [if_neg (fun z => hp z.1), if_neg (fun z => hp z.1)]
  rw [e0]
  refine zl2c1 (rk num (W * H)) (fun i v => v = iS (fun i => if t.2.2.2 i = 0 then 1 else 0) i) ?_ ?_ N 0 0 (by omega) (by omega) rfl
  · intro rec i v hi hv
    refine Or.inr ⟨_, ?_, rfl⟩
    unfold m_X9_completeIslands_b11
    rw [if_neg (nI_ge hi (by omega))]
    simp only [lt1]
    rw [vAt_nI (by omega) (by omega), hv]
    show _ = rec (_ + (if t.2.2.2 i = 0 then 1 else 0)) _
    by_cases c : t.2.2.2 i = 0
    · rw [if_pos c, if_pos c]
      unfold m_X9_completeIslands_j39
      simp only [lt1, nI_s]
    · rw [if_neg c, if_neg c, Int32.add_zero]
      unfold m_X9_completeIslands_j39
      simp only [lt1, nI_s]
  · intro rec v hv
    unfold m_X9_completeIslands_b11
    rw [if_pos (nI_le (Nat.le_refl _) (by omega))]
    exact Ev.some hv
/-- bridges and caps in their bounds -/
def bo (n : Nat) (br cp : Nat → Int32) : Prop := ∀ k, k < n → ∃ b c : Nat, br k = nI b ∧ cp k = nI c ∧ b ≤ c ∧ c ≤ 2
/-- why no bridge can be built on a way -/
def rsn (W : Nat) (num : Nat → Int32) (l : List Wy) (br cp : Nat → Int32) (k : Nat) (z : Int32) : Prop := (br k = 2 ∧ z = 1) ∨ (br k ≠ 2 ∧ cp k = br k ∧ z = 2) ∨ (br k ≠ 2 ∧ cp k ≠ br k ∧ hX W l br k ∧ z = 3) ∨ (br k ≠ 2 ∧ cp k ≠ br k ∧ ¬ hX W l br k ∧ (num (gw l k).1 - sI l br (gw l k).1 ≤ 0 ∨ num (gw l k).2.1 - sI l br (gw l k).2.1 ≤ 0) ∧ z = 4) ∨ (br k ≠ 2 ∧ cp k ≠ br k ∧ ¬ hX W l br k ∧ 0 < num (gw l k).1 - sI l br (gw l k).1 ∧ 0 < num (gw l k).2.1 - sI l br (gw l k).2.1 ∧ z = 0)
theorem rsn_uniq {W : Nat} {num : Nat → Int32} {l : List Wy} {br cp : Nat → Int32} {k : Nat} {y z : Int32} (h1 : rsn W num l br cp k y) (h2 : rsn W num l br cp k z) : y = z := by
  have np : ∀ x : Int32, 0 < x → x ≤ 0 → False := fun x a b => absurd a (Int32.not_lt.mpr b)
  rcases h1 with ⟨a1, rfl⟩ | ⟨a1, a2, rfl⟩ | ⟨a1, a2, a3, rfl⟩ | ⟨a1, a2, a3, a4, rfl⟩ | ⟨a1, a2, a3, a4, a5, rfl⟩ <;> rcases h2 with ⟨b1, rfl⟩ | ⟨b1, b2, rfl⟩ | ⟨b1, b2, b3, rfl⟩ | ⟨b1, b2, b3, b4, rfl⟩ | ⟨b1, b2, b3, b4, b5, rfl⟩ <;> first | rfl | contradiction | (rcases a4 with z | z <;> first | exact (np _ b4 z).elim | exact (np _ b5 z).elim) | (rcases b4 with z | z <;> first | exact (np _ a4 z).elim | exact (np _ a5 z).elim)
theorem reason_m {W H N : Nat} {num s one other br cp : Nat → Int32} {l : List Wy} {Mw : Int32} (hs : MS W H num s) (hl : WLs W H num l) (h : mrep l Mw one other) (hb : MB l.length br cp s) {k : Nat} (hk : k < l.length) (hN : 144 < N) : Ev (m_X10_reason N Mw s one other (nI k)) (rsn W num l br cp k) := by
  have h48 := hl.2.2.1.1
  have hM := hl.2.1
  obtain ⟨g1, g2, -⟩ := hl.2.2.2 k hk
  obtain ⟨f1, f2⟩ := h.2 k hk
  unfold m_X10_reason
  rw [bridges_m hb h48 hk, bd1_some]
  by_cases c1 : br k = 2
  · rw [if_pos c1]; exact Ev.some (Or.inl ⟨c1, rfl⟩)
  · rw [if_neg c1, capOf_m hb h48 hk, bd1_some, bd1_some]
    by_cases c2 : cp k = br k
    · rw [if_pos c2]; exact Ev.some (Or.inr (Or.inl ⟨c1, c2, rfl⟩))
    · rw [if_neg c2, show (1 : Int32) = bI true from rfl, crossings_m hs hl h hb hk true hN, bd1_some]
      by_cases c3 : 0 < xI W l br k true
      · rw [if_neg (fun z => absurd c3 (Int32.not_lt.mpr z))]
        exact Ev.some (Or.inr (Or.inr (Or.inl ⟨c1, c2, (xI_pos h48).mp c3, rfl⟩)))
      · rw [if_pos (Int32.not_lt.mp c3), rd_nI (by omega) (by omega), f1, lacks_m hs hl h hb (by omega) hN, bd1_some]
        have c3' : ¬ hX W l br k := fun z => c3 ((xI_pos h48).mpr z)
        by_cases c4 : 0 < num (gw l k).1 - sI l br (gw l k).1
        · rw [if_neg (fun z => absurd c4 (Int32.not_lt.mpr z)), rd_nI (by omega) (by omega), f2, lacks_m hs hl h hb (by omega) hN, bd1_some]
          by_cases c5 : 0 < num (gw l k).2.1 - sI l br (gw l k).2.1
          · rw [if_pos c5]
            exact Ev.some (Or.inr (Or.inr (Or.inr (Or.inr ⟨c1, c2, c3', c4, c5, rfl⟩))))
          · rw [if_neg c5]
            exact Ev.some (Or.inr (Or.inr (Or.inr (Or.inl ⟨c1, c2, c3', Or.inr (Int32.not_lt.mp c5), rfl⟩))))
        · rw [if_pos (Int32.not_lt.mp c4)]
          exact Ev.some (Or.inr (Or.inr (Or.inr (Or.inl ⟨c1, c2, c3', Or.inl (Int32.not_lt.mp c4), rfl⟩))))
theorem mn_pos {x y : Int32} : 0 < mnI x y ↔ 0 < x ∧ 0 < y := by
  unfold mnI
  by_cases h : y < x
  · rw [if_pos h]
    exact ⟨fun z => ⟨Int32.lt_trans z h, z⟩, fun z => z.2⟩
  · rw [if_neg h]
    refine ⟨fun z => ⟨z, ?_⟩, fun z => z.1⟩
    have h2 := Int32.not_lt.mp h
    rw [Int32.lt_iff_toInt_lt] at z ⊢
    rw [Int32.le_iff_toInt_le] at h2
    omega
theorem reason_c {W H N : Nat} {num br cp cO iA fi se fC sC st wO un ub uc ul : Nat → Int32} {Yi Yw : Int32} {cr : Nat → Int64} (hB : BD W H num) (hL : LO W H num Yi Yw cO iA fi se fC sC st wO cr) (hbo : bo (WL W H num).length br cp) {k : Nat} (hk : k < (WL W H num).length) (hN : 144 < N) : Ev (m_X9_reasonAgainst N num br cp Yi Yw cO fi se cr un ub uc ul (nI k)) (fun t => rsn W num (WL W H num) br cp k t.1) := by
  have h48 := hB.wls.2.2.1.1
  obtain ⟨b, c, e1, e2, e3, e4⟩ := hbo k hk
  have hb2 : br k < 2 ↔ br k ≠ 2 := by
    rw [e1, kk2_Ilt (by omega)]
    constructor
    · intro z z2; rw [kk2_eq (by omega)] at z2; omega
    · intro z
      have : b ≠ 2 := fun z2 => z ((kk2_eq (by omega)).mpr z2)
      omega
  unfold m_X9_reasonAgainst
  simp only [lt1]
  rw [vAt_nI (show k < 48 by omega) (by omega)]
  by_cases c1 : br k = 2
  · rw [if_neg (fun z => (hb2.mp z) c1)]
    exact Ev.some (Or.inl ⟨c1, rfl⟩)
  · rw [if_pos (hb2.mpr c1), vAt_nI (show k < 48 by omega) (by omega)]
    by_cases c2 : cp k = br k
    · rw [if_pos c2]
      exact Ev.some (Or.inr (Or.inl ⟨c1, c2, rfl⟩))
    · rw [if_neg c2, crossingsOf_nI (by omega), bd1_some, hL.2.2.2.1.1, waysWith_nI h48 hN, bd1_some, hL.2.2.2.2.2 k hk]
      by_cases c3 : hX W (WL W H num) br k
      · rw [if_neg (fun z => ((hX_m h48).mp z) c3)]
        exact Ev.some (Or.inr (Or.inr (Or.inl ⟨c1, c2, c3, rfl⟩)))
      · rw [if_pos ((hX_m h48).mpr c3)]
        have hL2 := hL
        rw [show Yw = nI (WL W H num).length from hL.2.2.2.1.1] at hL2
        refine Ev.bd4 (sums_ev hB hL2 hN) (fun t hS => ?_)
        rw [lesserLack_nI hB hL.2.2.2.1 hS hk]
        by_cases c4 : 0 < mnI (num (gw (WL W H num) k).1 - sI (WL W H num) br (gw (WL W H num) k).1) (num (gw (WL W H num) k).2.1 - sI (WL W H num) br (gw (WL W H num) k).2.1)
        · rw [if_pos c4]
          obtain ⟨d1, d2⟩ := mn_pos.mp c4
          exact Ev.some (Or.inr (Or.inr (Or.inr (Or.inr ⟨c1, c2, c3, d1, d2, rfl⟩))))
        · rw [if_neg c4]
          refine Ev.some (Or.inr (Or.inr (Or.inr (Or.inl ⟨c1, c2, c3, ?_, rfl⟩))))
          by_cases d1 : 0 < num (gw (WL W H num) k).1 - sI (WL W H num) br (gw (WL W H num) k).1
          · refine Or.inr (Int32.not_lt.mp (fun d2 => c4 (mn_pos.mpr ⟨d1, d2⟩)))
          · exact Or.inl (Int32.not_lt.mp d1)
/-- the two labellings tell the same groups -/
theorem lab_both {W H : Nat} {num br : Nat → Int32} (hB : BD W H num) {gC gM : Nat → Nat} (h1 : LabG (WL W H num).length (pF num (WL W H num)) (qF num (WL W H num)) (onB br) gC) (h2 : LabG (WL W H num).length (pC (WL W H num)) (qC (WL W H num)) (onB br) gM) {c : Nat} (hc : c < W * H) (hp : 0 < num c) : 0 < num (gM c) ∧ gM c < W * H ∧ rk num (gM c) = gC (rk num c) := by
  have hw := hB.wls.2.2.2
  have hm : gM c < W * H := Nat.lt_of_le_of_lt (h2.2.1 c) hc
  have hi : 0 < num (gM c) := by
    have := h2.2.2 (fun c => if 0 < num c then 1 else 0) (fun k hk _ => by
      obtain ⟨-, -, w3, w4, -⟩ := hw k hk
      rw [if_pos (show 0 < num (pC (WL W H num) k) from w3), if_pos (show 0 < num (qC (WL W H num) k) from w4)]) c
    rw [if_pos hp] at this
    by_cases e : 0 < num (gM c)
    · exact e
    · rw [if_neg e] at this; omega
  have a1 := h2.2.2 (fun c => gC (rk num c)) (fun k hk ho => h1.1 k hk ho) c
  have a2 := h1.2.1 (rk num (gM c))
  have hcell : ∀ i, i < rk num (W * H) → ∃ d, d < W * H ∧ 0 < num d ∧ rk num d = i := fun i hi => rk_ex hi
  have hcf : ∃ cf : Nat → Nat, ∀ i, i < rk num (W * H) → cf i < W * H ∧ 0 < num (cf i) ∧ rk num (cf i) = i := by
    refine ⟨fun i => if h : i < rk num (W * H) then Classical.choose (hcell i h) else 0, fun i h => ?_⟩
    have := Classical.choose_spec (hcell i h)
    simpa [h] using this
  obtain ⟨cf, hcf⟩ := hcf
  have hcfr : ∀ d, d < W * H → 0 < num d → cf (rk num d) = d := by
    intro d hd hpd
    obtain ⟨z1, z2, z3⟩ := hcf (rk num d) (rk_lt hpd hd)
    exact rk_inj z2 hpd z3
  have b1 := h1.2.2 (fun i => gM (cf i)) (fun k hk ho => by
    obtain ⟨w1, w2, w3, w4, -⟩ := hw k hk
    show gM (cf (rk num (gw (WL W H num) k).1)) = gM (cf (rk num (gw (WL W H num) k).2.1))
    rw [hcfr _ (Nat.lt_trans w1 w2) w3, hcfr _ w2 w4]
    exact h2.1 k hk ho) (rk num c)
  have hr : gC (rk num c) < rk num (W * H) := Nat.lt_of_le_of_lt (h1.2.1 _) (rk_lt hp hc)
  obtain ⟨z1, z2, z3⟩ := hcf _ hr
  have b2 : gM (cf (gC (rk num c))) = gM c := by
    have := b1
    rw [hcfr c hc hp] at this
    exact this
  have b3 := h2.2.1 (cf (gC (rk num c)))
  rw [b2] at b3
  have b4 := rk_mono num b3
  rw [z3] at b4
  refine ⟨hi, hm, ?_⟩
  have a1 : gC (rk num (gM c)) = gC (rk num c) := a1
  omega
/-- how many groups begin below a cell -/
def gB (num : Nat → Int32) (gC : Nat → Nat) (m : Nat) : Int32 := iS (fun i => if gC i = i then 1 else 0) (rk num m)
theorem leadersAhead_c {N n : Nat} {ld : Nat → Int32} {g : Nat → Nat} (hg : ∀ i, i < 24 → ld i = nI (g i)) (hle : ∀ c, g c ≤ c) (hn : n ≤ 24) (hN : 144 < N) : m_X0_leadersAheadOf N ld (nI n) = some (iS (fun i => if g i = i then 1 else 0) n) := by
  unfold m_X0_leadersAheadOf
  refine zl2g1 (fun o => o = some (iS (fun i => if g i = i then 1 else 0) n)) n (fun i v => v = iS (fun i => if g i = i then 1 else 0) i) ?_ ?_ N 0 _ (by omega) (by omega) rfl
  · intro rec i v hi hv
    refine Or.inr ⟨_, ?_, rfl⟩
    have := hle i
    unfold m_X0_leadersAheadOf_b4
    rw [if_neg (nI_ge hi (by omega))]
    simp only [lt1]
    rw [vAt_nI (by omega) (by omega), hg i (by omega), hv]
    show _ = rec (_ + (if g i = i then 1 else 0)) _
    by_cases c : g i = i
    · rw [if_pos (by rw [c]), if_pos c]
      unfold m_X0_leadersAheadOf_j24
      simp only [lt1, nI_s]
    · rw [if_neg (fun z => c (nI_i (by omega) (by omega) z)), if_neg c, Int32.add_zero]
      unfold m_X0_leadersAheadOf_j24
      simp only [lt1, nI_s]
  · intro rec v hv
    unfold m_X0_leadersAheadOf_b4
    rw [if_pos (nI_le (Nat.le_refl _) (by omega)), hv]
theorem groupsBelow_m {W H N m : Nat} {num s gr : Nat → Int32} {gC gM : Nat → Nat} (hM : W * H ≤ 144) (hs : MS W H num s) (hg : ∀ c, c < W * H → gr c = nI (gM c)) (hle : ∀ c, gM c ≤ c) (hb : ∀ c, c < W * H → 0 < num c → 0 < num (gM c) ∧ rk num (gM c) = gC (rk num c)) (hm : m ≤ W * H) (hN : 144 < N) : m_X10_groupsBelow N s gr (nI m) = some (gB num gC m) := by
  have key : gB num gC m = iS (fun c => if 0 < num c ∧ gM c = c then 1 else 0) m := by
    unfold gB
    rw [iS_rk]
    refine iS_congr (fun c hc => ?_)
    by_cases hp : 0 < num c
    · obtain ⟨b1, b2⟩ := hb c (by omega) hp
      by_cases e : gM c = c
      · rw [if_pos ⟨hp, by rw [← b2, e]⟩, if_pos ⟨hp, e⟩]
      · rw [if_neg (fun z => e (rk_inj b1 hp (b2.trans z.2))), if_neg (fun z => e z.2)]
    · rw [if_neg (fun z => hp z.1), if_neg (fun z => hp z.1)]
  rw [key]
  unfold m_X10_groupsBelow
  refine zl2g1 (fun o => o = some (iS (fun c => if 0 < num c ∧ gM c = c then 1 else 0) m)) m (fun i v => v = iS (fun c => if 0 < num c ∧ gM c = c then 1 else 0) i) ?_ ?_ N 0 _ (by omega) (by omega) rfl
  · intro rec i v hi hv
    refine Or.inr ⟨_, ?_, rfl⟩
    have := hle i
    unfold m_X10_groupsBelow_b4
    rw [if_neg (nI_ge hi (by omega)), number_m hs (by omega), bd1_some, hv]
    show _ = rec (_ + (if 0 < num i ∧ gM i = i then 1 else 0)) _
    by_cases hp : 0 < num i
    · rw [if_neg (fun z => absurd hp (Int32.not_lt.mpr z)), rd_nI (by omega) (by omega), hg i (by omega)]
      by_cases c : gM i = i
      · rw [if_pos (by rw [c]), if_pos ⟨hp, c⟩]
        unfold m_X10_groupsBelow_j33
        simp only [lt1, nI_s]
      · rw [if_neg (fun z => c (nI_i (by omega) (by omega) z)), if_neg (fun z => c z.2)]
        unfold m_X10_groupsBelow_j32 m_X10_groupsBelow_j33
        simp only [lt1, nI_s]
    · rw [if_pos (Int32.not_lt.mp hp), if_neg (fun z => hp z.1)]
      unfold m_X10_groupsBelow_j32 m_X10_groupsBelow_j33
      simp only [lt1, nI_s]
  · intro rec v hv
    unfold m_X10_groupsBelow_b4
    rw [if_pos (nI_le (Nat.le_refl _) (by omega)), hv]
