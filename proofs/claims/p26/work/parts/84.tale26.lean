/-! the tale: it tells of the reference's own state alone -/
def cntM (N : Nat) (tl Mw : Int32) (s one other : Nat → Int32) (x : Int32) : Int32 := match m_X10_count N 0 tl Mw s one other (fun _ => 0) x with
  | some r => r.1
  | none => 0
def atM (N : Nat) (Mw : Int32) (s one other : Nat → Int32) (x : Int32) : Int32 := match m_X10_at N Mw s one other x with
  | some r => r
  | none => 0
def wayM (N : Nat) (Mw : Int32) (s one other : Nat → Int32) (x y : Int32) : Int32 := match m_X10_way N Mw s one other x y with
  | some r => r
  | none => 0
def tlA (m : Int64) (f : Nat → Int32) : Nat → Int64 → Int64
  | 0, z => z
  | n + 1, z => tlA m f n z * m + (f n).toInt64
def tlB (g : Nat → Int32 → Int32) : Nat → Int64 → Int64
  | 0, z => z
  | n + 1, z => ((((tlB g n z * 41) + (g n 0).toInt64) + (3 * (g n 1).toInt64)) + (5 * (g n 2).toInt64)) + (7 * (g n 3).toInt64)
def TLv (N : Nat) (tl Mw : Int32) (s one other : Nat → Int32) : Int64 := tlB (fun k y => wayM N Mw s one other (nI k) y) 20 (tlA 37 (fun c => atM N Mw s one other (nI c)) 49 (tlA 31 (fun k => cntM N tl Mw s one other (nI k)) 12 3))
section
variable {W H N : Nat} {num br cp cO iA fi se fC sC st wO s one other un ub uc ul ld : Nat → Int32} {cols rows grade steps Yi Yw Mw hz tl : Int32} {cr : Nat → Int64}
theorem count_hz {k : Nat} (hk : k < 12) : m_X9_count N cols rows grade steps num br cp Yi Yw cO fi se un ub uc ul ld hz tl (nI k) = m_X9_count N cols rows grade steps num br cp Yi Yw cO fi se un ub uc ul ld 0 tl (nI k) := by
  have : k = 0 ∨ k = 1 ∨ k = 2 ∨ k = 3 ∨ k = 4 ∨ k = 5 ∨ k = 6 ∨ k = 7 ∨ k = 8 ∨ k = 9 ∨ k = 10 ∨ k = 11 := by omega
  unfold m_X9_count
  rcases this with rfl | rfl | rfl | rfl | rfl | rfl | rfl | rfl | rfl | rfl | rfl | rfl <;> simp (decide := true) only [↓reduceIte]
theorem count_val (h : Cur W H num br cp cols rows grade steps Yi Yw Mw cO iA fi se fC sC st wO s one other cr) (hN : 100000 < N) {k : Nat} (hk : k < 12) : Ev (m_X9_count N cols rows grade steps num br cp Yi Yw cO fi se un ub uc ul ld hz tl (nI k)) (fun t => t.1 = cntM N tl Mw s one other (nI k)) := by
  rw [count_hz hk]
  obtain ⟨t, r, e1, e2, e3⟩ := sim_count h un ub uc ul ld (fun _ => 0) 0 tl (nI k) hN
  refine ⟨t, e1, ?_⟩
  unfold cntM
  rw [e2]
  exact e3
theorem at_val (h : Cur W H num br cp cols rows grade steps Yi Yw Mw cO iA fi se fC sC st wO s one other cr) (hN : 100000 < N) (x : Int32) : Ev (m_X9_at N cols rows num br Yw fC sC st x) (fun t => t = atM N Mw s one other x) := by
  obtain ⟨r, e1, e2⟩ := sim_at h x (N := N) (by omega)
  refine ⟨r, e1, ?_⟩
  unfold atM
  rw [e2]
theorem way_val (h : Cur W H num br cp cols rows grade steps Yi Yw Mw cO iA fi se fC sC st wO s one other cr) (hN : 100000 < N) (x y : Int32) : Ev (m_X9_way N num br cp Yi Yw cO fi se fC sC st cr un ub uc ul x y) (fun t => t.1 = wayM N Mw s one other x y) := by
  obtain ⟨t, r, e1, e2, e3⟩ := sim_way h un ub uc ul x y (N := N) (by omega)
  refine ⟨t, e1, ?_⟩
  unfold wayM
  rw [e2]
  exact e3
theorem tale_ev (h : Cur W H num br cp cols rows grade steps Yi Yw Mw cO iA fi se fC sC st wO s one other cr) (hN : 100000 < N) : Ev (m_L_tale N cols rows grade steps num br cp Yi Yw cO fi se fC sC st cr un ub uc ul ld hz tl) (fun t => t.1 = TLv N tl Mw s one other) := by
  unfold m_L_tale
  refine zl7e1 12 (fun i z _ _ _ _ _ => z = tlA 31 (fun k => cntM N tl Mw s one other (nI k)) i 3) ?_ ?_ N 0 _ _ _ _ _ _ (by omega) (by omega) rfl
  · intro rec i z un ub uc ul ld hi hP k
    unfold m_L_tale_b6
    rw [if_neg (kk12_ge hi)]
    refine evc6 (count_val h hN hi) (fun v0 v1 v2 v3 v4 v5 q => ?_)
    simp only [lt1, nI_s]
    refine k _ _ _ _ _ _ ?_
    replace q : v0 = cntM N tl Mw s one other (nI i) := q
    rw [hP, q]
    rfl
  · intro rec z un ub uc ul ld hP
    unfold m_L_tale_b6
    rw [if_pos (kk12_le (Nat.le_refl _) (by omega))]
    unfold m_L_tale_j31
    refine zl2e1 49 (fun i y => y = tlA 37 (fun c => atM N Mw s one other (nI c)) i (tlA 31 (fun k => cntM N tl Mw s one other (nI k)) 12 3)) ?_ ?_ N 0 _ (by omega) (by omega) hP
    · intro rec i y hi hP k
      unfold m_L_tale_b33
      rw [if_neg (kk49_ge hi)]
      refine evc1 (at_val h hN (nI i)) (fun v0 q => ?_)
      simp only [lt1, nI_s]
      refine k _ ?_
      rw [hP, q]
      rfl
    · intro rec y hP
      unfold m_L_tale_b33
      rw [if_pos (kk49_le (Nat.le_refl _) (by omega))]
      unfold m_L_tale_j58
      refine zl6e1 20 (fun i x _ _ _ _ => x = tlB (fun k y => wayM N Mw s one other (nI k) y) i (tlA 37 (fun c => atM N Mw s one other (nI c)) 49 (tlA 31 (fun k => cntM N tl Mw s one other (nI k)) 12 3))) ?_ ?_ N 0 _ _ _ _ _ (by omega) (by omega) hP
      · intro rec i x un ub uc ul hi hP k
        unfold m_L_tale_b60
        rw [if_neg (kk20_ge hi)]
        refine evc5 (way_val h hN (nI i) 0) (fun v0 v1 v2 v3 v4 q0 => ?_)
        refine evc5 (way_val h hN (nI i) 1) (fun w0 w1 w2 w3 w4 q1 => ?_)
        refine evc5 (way_val h hN (nI i) 2) (fun x0 x1 x2 x3 x4 q2 => ?_)
        refine evc5 (way_val h hN (nI i) 3) (fun y0 y1 y2 y3 y4 q3 => ?_)
        simp only [lt1, nI_s]
        refine k _ _ _ _ _ ?_
        replace q0 : v0 = wayM N Mw s one other (nI i) 0 := q0
        replace q1 : w0 = wayM N Mw s one other (nI i) 1 := q1
        replace q2 : x0 = wayM N Mw s one other (nI i) 2 := q2
        replace q3 : y0 = wayM N Mw s one other (nI i) 3 := q3
        rw [hP, q0, q1, q2, q3]
        rfl
      · intro rec x un ub uc ul hP
        unfold m_L_tale_b60
        rw [if_pos (kk20_le (Nat.le_refl _) (by omega))]
        unfold m_L_tale_j122
        exact Ev.some hP
end
