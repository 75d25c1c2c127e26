/-! the rules of the steps -/
theorem LabG.same {n m : Nat} {p q p' q' : Nat → Nat} {on on' : Nat → Prop} {g : Nat → Nat} (h1 : ∀ j, j < n → on j → ∃ i, i < m ∧ on' i ∧ p' i = p j ∧ q' i = q j) (h2 : ∀ j, j < m → on' j → ∃ i, i < n ∧ on i ∧ p i = p' j ∧ q i = q' j) (h : LabG n p q on g) : LabG m p' q' on' g := by
  refine ⟨fun j hj ho => ?_, h.2.1, fun f hf c => h.2.2 f (fun j hj ho => ?_) c⟩
  · obtain ⟨i, a, b, e1, e2⟩ := h2 j hj ho
    rw [← e1, ← e2]; exact h.1 i a b
  · obtain ⟨i, a, b, e1, e2⟩ := h1 j hj ho
    rw [← e1, ← e2]; exact hf i a b
/-- one more pair that is joined -/
theorem LabG.add {n k : Nat} {p q : Nat → Nat} {on on' : Nat → Prop} {g : Nat → Nat} (h : LabG n p q on g) (hk : k < n) (ho : ∀ j, j < n → (on' j ↔ on j ∨ j = k)) : LabG n p q on' (jn g (g (p k)) (g (q k))) := by
  have h1 : LabG n (fun j => if j = n then p k else p j) (fun j => if j = n then q k else q j) (fun j => on j ∨ j = n) g := by
    refine h.same (fun j hj w => ⟨j, hj, Or.inl w, ?_, ?_⟩) (fun j hj w => ⟨j, hj, ?_, ?_, ?_⟩)
    · exact if_neg (by omega)
    · exact if_neg (by omega)
    · rcases w with w | w
      · exact w
      · omega
    · exact (if_neg (by omega)).symm
    · exact (if_neg (by omega)).symm
  have h2 := h1.join (Or.inr rfl)
  simp only [if_true] at h2
  refine h2.same (fun j hj w => ?_) (fun j hj w => ?_)
  · by_cases e : j = n
    · refine ⟨k, hk, (ho k hk).mpr (Or.inr rfl), ?_, ?_⟩
      · rw [if_pos e]
      · rw [if_pos e]
    · refine ⟨j, by omega, (ho j (by omega)).mpr (Or.inl ?_), ?_, ?_⟩
      · rcases w with w | w
        · exact w
        · exact absurd w e
      · rw [if_neg e]
      · rw [if_neg e]
  · rcases (ho j hj).mp w with w | w
    · exact ⟨j, by omega, Or.inl w, if_neg (by omega), if_neg (by omega)⟩
    · exact ⟨n, by omega, Or.inr rfl, by rw [if_pos rfl, w], by rw [if_pos rfl, w]⟩
theorem jn_eq {g : Nat → Nat} {c d a b : Nat} (hd : g d = a) : jn g a b c = jn g a b d ↔ (g c = a ∨ g c = b) := by
  unfold jn
  rw [hd]
  split <;> split <;> omega
/-! sums of natural numbers -/
def vN (f : Nat → Int32) (k : Nat) : Nat := (f k).toNatClampNeg
def sN (l : List Wy) (f : Nat → Nat) (c : Nat) : Nat := nS (fun k => if (gw l k).1 = c ∨ (gw l k).2.1 = c then f k else 0) l.length
theorem bo.v {n : Nat} {br cp : Nat → Int32} (h : bo n br cp) {k : Nat} (hk : k < n) : br k = nI (vN br k) ∧ cp k = nI (vN cp k) ∧ vN br k ≤ vN cp k ∧ vN cp k ≤ 2 := by
  obtain ⟨b, c, b1, b2, b3, b4⟩ := h k hk
  have e1 : vN br k = b := by unfold vN; rw [b1, nI_clamp (by omega)]
  have e2 : vN cp k = c := by unfold vN; rw [b2, nI_clamp (by omega)]
  rw [e1, e2]
  exact ⟨b1, b2, b3, b4⟩
theorem iS_nS {f : Nat → Int32} {g : Nat → Nat} : ∀ {n : Nat}, (∀ k, k < n → f k = nI (g k)) → iS f n = nI (nS g n) := by
  intro n
  induction n with
  | zero => intro _; rfl
  | succ n ih =>
    intro h
    show iS f n + f n = nI (nS g n + g n)
    rw [ih (fun k hk => h k (by omega)), h n (by omega), nI_add]
theorem sI_n {l : List Wy} {f : Nat → Int32} {g : Nat → Nat} (h : ∀ k, k < l.length → f k = nI (g k)) (c : Nat) : sI l f c = nI (sN l g c) := by
  unfold sI sN
  refine iS_nS fun k hk => ?_
  show (if _ then _ else _) = nI (if _ then _ else _)
  by_cases e : (gw l k).1 = c ∨ (gw l k).2.1 = c
  · rw [if_pos e, if_pos e, h k hk]
  · rw [if_neg e, if_neg e]; rfl
theorem nS_ge {f : Nat → Nat} {k : Nat} : ∀ {n : Nat}, k < n → f k ≤ nS f n := by
  intro n
  induction n with
  | zero => intro h; omega
  | succ n ih =>
    intro h
    show f k ≤ nS f n + f n
    by_cases e : k = n
    · subst e; omega
    · have := ih (by omega); omega
theorem nS_mono {f g : Nat → Nat} : ∀ {n : Nat}, (∀ k, k < n → f k ≤ g k) → nS f n ≤ nS g n := by
  intro n
  induction n with
  | zero => intro _; exact Nat.le_refl _
  | succ n ih =>
    intro h
    show nS f n + f n ≤ nS g n + g n
    have := ih (fun k hk => h k (by omega))
    have := h n (by omega)
    omega
theorem sN_le {l : List Wy} {f : Nat → Nat} {c : Nat} (h : ∀ k, k < l.length → f k ≤ 2) : sN l f c ≤ 2 * l.length := by
  unfold sN
  refine Nat.le_trans (nS_le (B := 2) fun k hk => ?_) (by omega)
  show (if _ then _ else _) ≤ 2
  have := h k hk
  split <;> omega
theorem sN_ge {l : List Wy} {f : Nat → Nat} {c k : Nat} (hk : k < l.length) (hc : (gw l k).1 = c ∨ (gw l k).2.1 = c) : f k ≤ sN l f c := by
  have := nS_ge (f := fun k => if (gw l k).1 = c ∨ (gw l k).2.1 = c then f k else 0) hk
  rw [if_pos hc] at this
  exact this
/-- one way's number changed -/
theorem sI_upd {l : List Wy} {f : Nat → Int32} {k c : Nat} {x : Int32} (hk : k < l.length) : sI l (upd f k x) c = sI l f c + (if (gw l k).1 = c ∨ (gw l k).2.1 = c then x - f k else 0) := by
  unfold sI
  have : ∀ n, iS (fun j => if (gw l j).1 = c ∨ (gw l j).2.1 = c then upd f k x j else 0) n = iS (fun j => if (gw l j).1 = c ∨ (gw l j).2.1 = c then f j else 0) n + (if k < n then (if (gw l k).1 = c ∨ (gw l k).2.1 = c then x - f k else 0) else 0) := by
    intro n
    induction n with
    | zero => rw [if_neg (Nat.not_lt_zero _)]; rfl
    | succ n ih =>
      show iS _ n + (if (gw l n).1 = c ∨ (gw l n).2.1 = c then upd f k x n else 0) = iS _ n + (if (gw l n).1 = c ∨ (gw l n).2.1 = c then f n else 0) + _
      rw [ih]
      by_cases e : n = k
      · subst e
        rw [if_neg (Nat.lt_irrefl _), if_pos (Nat.lt_succ_self _), upd_s, Int32.add_zero, Int32.add_assoc]
        congr 1
        by_cases h : (gw l n).1 = c ∨ (gw l n).2.1 = c
        · rw [if_pos h, if_pos h, if_pos h, Int32.add_comm, Int32.sub_add_cancel]
        · rw [if_neg h, if_neg h, if_neg h]; rfl
      · rw [upd_n e]
        by_cases h : k < n
        · rw [if_pos h, if_pos (show k < n + 1 by omega), Int32.add_assoc, Int32.add_assoc]
          exact congrArg _ (Int32.add_comm _ _)
        · rw [if_neg h, if_neg (show ¬ k < n + 1 by omega), Int32.add_zero, Int32.add_zero]
  rw [this, if_pos hk]
theorem sub_add_0 {a b d : Int32} : a - (b + d) = 0 ↔ a - b = d := by
  constructor
  · intro h
    have : a = b + d := by
      have h2 := congrArg (fun z => z + (b + d)) h
      simpa [Int32.sub_add_cancel] using h2
    rw [this, Int32.add_comm b d, Int32.add_sub_cancel]
  · intro h
    have : a = d + b := by rw [← h, Int32.sub_add_cancel]
    rw [this, Int32.add_comm d b, Int32.sub_self]
/-! the four rules -/
def laI (num : Nat → Int32) (l : List Wy) (br : Nat → Int32) (c : Nat) : Int32 := num c - sI l br c
def mnL (num : Nat → Int32) (l : List Wy) (br : Nat → Int32) (k : Nat) : Int32 := mnI (laI num l br (gw l k).1) (laI num l br (gw l k).2.1)
def mxD (num : Nat → Int32) (l : List Wy) (cp : Nat → Int32) (k : Nat) : Int32 := mxI (dueI num l cp k (gw l k).1) (dueI num l cp k (gw l k).2.1)
/-- the cells of the group that the way k would make -/
def inG (num : Nat → Int32) (l : List Wy) (gC : Nat → Nat) (k c : Nat) : Prop := gC (rk num c) = gC (pF num l k) ∨ gC (rk num c) = gC (qF num l k)
def cut (W H : Nat) (num : Nat → Int32) (l : List Wy) (br cp : Nat → Int32) (gC : Nat → Nat) (k : Nat) : Prop := (∀ c, c < W * H → 0 < num c → inG num l gC k c → laI num l br c = if (gw l k).1 = c ∨ (gw l k).2.1 = c then cp k - br k else 0) ∧ ∃ c, c < W * H ∧ 0 < num c ∧ ¬ inG num l gC k c
def ap (W H : Nat) (num : Nat → Int32) (l : List Wy) (br cp : Nat → Int32) (gC : Nat → Nat) (R k : Nat) : Prop := match R with
  | 1 => br k = 0 ∧ 0 < cp k ∧ hX W l br k
  | 2 => ¬ cp k ≤ br k + mnL num l br k
  | 3 => ¬ mxD num l cp k ≤ br k
  | _ => ¬ cp k ≤ br k ∧ cut W H num l br cp gC k
def zo (z : Int32) (P : Prop) : Prop := (z = 1 ∧ P) ∨ (z = 0 ∧ ¬ P)
theorem zo.iff {z : Int32} {P Q : Prop} (h : zo z P) (e : P ↔ Q) : zo z Q := by
  rcases h with ⟨a, b⟩ | ⟨a, b⟩
  · exact Or.inl ⟨a, e.mp b⟩
  · exact Or.inr ⟨a, fun q => b (e.mpr q)⟩
theorem lesser_mn (x y : Int32) : m_X10_lesser x y = mnI x y := by
  unfold m_X10_lesser mnI
  by_cases h : y < x
  · rw [if_pos h, if_pos (Int32.le_of_lt h)]
  · rw [if_neg h]
    by_cases h2 : y ≤ x
    · rw [if_pos h2]
      exact Int32.le_antisymm h2 (Int32.not_lt.mp h)
    · rw [if_neg h2]
theorem greater_mx (x y : Int32) : m_X10_greater x y = mxI x y := by
  unfold m_X10_greater mxI
  by_cases h : x < y
  · rw [if_pos h, if_pos (Int32.le_of_lt h)]
  · rw [if_neg h]
    by_cases h2 : x ≤ y
    · rw [if_pos h2]
      exact Int32.le_antisymm (Int32.not_lt.mp h) h2
    · rw [if_neg h2]
theorem hX_pos {W : Nat} {l : List Wy} {br : Nat → Int32} {k : Nat} (hl : l.length ≤ 48) : lg_cmp (lN (msk (fun j => crs W (gw l k) (gw l j)) l.length) &&& lN (msk (bm br) l.length)) 0 = 0 ↔ ¬ hX W l br k := hX_m hl
theorem wouldCutOff_c {W H N k : Nat} {num br cp fi se fC sC st un ub uc ul ld : Nat → Int32} {Yw : Int32} {gC : Nat → Nat} (hB : BD W H num) (h4 : wrep num (WL W H num) Yw fi se fC sC st) (hS : SU W H num (WL W H num) br cp un ub uc ul) (hg : ∀ i, i < 24 → ld i = nI (gC i)) (hG : LabG (WL W H num).length (pF num (WL W H num)) (qF num (WL W H num)) (onB br) gC) (hk : k < (WL W H num).length) (hN : 144 < N) : Ev (m_X4_wouldCutOff N (nI (rk num (W * H))) fi se ul ld (nI k) (cp k - br k)) (fun z => zo z (cut W H num (WL W H num) br cp gC k)) := by
  have hl := hB.wls
  have hn := hl.2.2.1.1
  have hr := hB.2.2.2.2
  have hwk := hl.2.2.2 k hk
  have hra := hB.r (Nat.lt_trans hwk.1 hwk.2.1) hwk.2.2.1
  have hrb := hB.r hwk.2.1 hwk.2.2.2.1
  have hle := hG.2.1
  unfold m_X4_wouldCutOff m_X2_first m_X2_second
  rw [vAt_nI (by omega) (by omega), vAt_nI (by omega) (by omega), (h4.2 k hk).1, (h4.2 k hk).2.1]
  simp only [lt1]
  refine Ev.mono (Q := fun z => zo z ((∀ i, i < rk num (W * H) → (gC i = gC (rk num (gw (WL W H num) k).1) ∨ gC i = gC (rk num (gw (WL W H num) k).2.1)) → ul i = if i = rk num (gw (WL W H num) k).1 ∨ i = rk num (gw (WL W H num) k).2.1 then cp k - br k else 0) ∧ ∃ i, i < rk num (W * H) ∧ ¬ (gC i = gC (rk num (gw (WL W H num) k).1) ∨ gC i = gC (rk num (gw (WL W H num) k).2.1)))) ?_ ?_
  · refine zl2c1 (rk num (W * H)) (fun i v => zo v (∃ j, j < i ∧ ¬ (gC j = gC (rk num (gw (WL W H num) k).1) ∨ gC j = gC (rk num (gw (WL W H num) k).2.1))) ∧ ∀ j, j < i → (gC j = gC (rk num (gw (WL W H num) k).1) ∨ gC j = gC (rk num (gw (WL W H num) k).2.1)) → ul j = if j = rk num (gw (WL W H num) k).1 ∨ j = rk num (gw (WL W H num) k).2.1 then cp k - br k else 0) ?_ ?_ N 0 0 (by omega) (by omega) ⟨Or.inr ⟨rfl, fun ⟨j, hj, _⟩ => by omega⟩, fun j hj => by omega⟩
    · intro rec i v hi hP
      generalize ha : rk num (gw (WL W H num) k).1 = a at hra hP ⊢
      generalize hb : rk num (gw (WL W H num) k).2.1 = b at hrb hP ⊢
      have e66 : m_X4_wouldCutOff_b25 (nI (rk num (W * H))) ul ld (cp k - br k) (nI a) (nI b) rec v (nI i) = m_X4_wouldCutOff_j66 ul ld (nI a) (nI b) rec v (nI i) (nI (gC i)) (if i = a ∨ i = b then cp k - br k else 0) := by
        unfold m_X4_wouldCutOff_b25 m_X0_leader m_X4_wouldCutOff_j61
        rw [if_neg (nI_ge hi (by omega)), vAt_nI (by omega) (by omega), hg i (by omega)]
        simp only [lt1]
        by_cases e1 : i = a
        · rw [if_pos (show nI i = nI a by rw [e1]), if_pos (Or.inl e1)]
        · rw [if_neg (show ¬ nI i = nI a from fun z => e1 (nI_i (by omega) (by omega) z))]
          by_cases e2 : i = b
          · rw [if_pos (show nI i = nI b by rw [e2]), if_pos (Or.inr e2)]
          · rw [if_neg (show ¬ nI i = nI b from fun z => e2 (nI_i (by omega) (by omega) z)), if_neg (by rintro (z | z); exact e1 z; exact e2 z)]
      rw [e66]
      have e120 : ∀ w, m_X4_wouldCutOff_j120 rec w (nI i) = rec w (nI (i + 1)) := fun w => by
        unfold m_X4_wouldCutOff_j120
        simp only [lt1, nI_s]
      have e101 : m_X4_wouldCutOff_j101 ul rec v (nI i) (if i = a ∨ i = b then cp k - br k else 0) = if ul i = (if i = a ∨ i = b then cp k - br k else 0) then rec v (nI (i + 1)) else some 0 := by
        unfold m_X4_wouldCutOff_j101
        rw [vAt_nI (by omega) (by omega), e120]
        rfl
      have hlead : ∀ j, j < 24 → m_X0_leader ld (nI j) = nI (gC j) := fun j hj => by
        unfold m_X0_leader
        simp only [lt1]
        rw [vAt_nI (by omega) (by omega), hg j hj]
      have hga := hle a
      have hgb := hle b
      have hgi := hle i
      have el : m_X4_wouldCutOff_j66 ul ld (nI a) (nI b) rec v (nI i) (nI (gC i)) (if i = a ∨ i = b then cp k - br k else 0) = if gC i = gC a ∨ gC i = gC b then (if ul i = (if i = a ∨ i = b then cp k - br k else 0) then rec v (nI (i + 1)) else some 0) else rec 1 (nI (i + 1)) := by
        unfold m_X4_wouldCutOff_j66
        rw [e101, e120, hlead a (by omega), hlead b (by omega)]
        simp only [lt1]
        by_cases e1 : gC i = gC a
        · rw [if_pos (show nI (gC i) = nI (gC a) by rw [e1]), if_pos (Or.inl e1)]
        · rw [if_neg (show ¬ nI (gC i) = nI (gC a) from fun z => e1 (nI_i (by omega) (by omega) z))]
          by_cases e2 : gC i = gC b
          · rw [if_pos (show nI (gC i) = nI (gC b) by rw [e2]), if_pos (Or.inr e2)]
          · rw [if_neg (show ¬ nI (gC i) = nI (gC b) from fun z => e2 (nI_i (by omega) (by omega) z)), if_neg (by rintro (z | z); exact e1 z; exact e2 z)]
      rw [el]
      by_cases c1 : gC i = gC a ∨ gC i = gC b
      · rw [if_pos c1]
        by_cases c2 : ul i = if i = a ∨ i = b then cp k - br k else 0
        · rw [if_pos c2]
          refine Or.inr ⟨v, rfl, hP.1.iff ⟨fun ⟨j, h1, h2⟩ => ⟨j, by omega, h2⟩, fun ⟨j, h1, h2⟩ => ⟨j, ?_, h2⟩⟩, fun j hj hin => ?_⟩
          · rcases Nat.lt_succ_iff_lt_or_eq.mp h1 with q | q
            · exact q
            · rw [q] at h2; exact absurd c1 h2
          · rcases Nat.lt_succ_iff_lt_or_eq.mp hj with q | q
            · exact hP.2 j q hin
            · rw [q]; exact c2
        · rw [if_neg c2]
          refine Or.inl (Ev.some (Or.inr ⟨rfl, fun z => c2 (z.1 i hi c1)⟩))
      · rw [if_neg c1]
        refine Or.inr ⟨1, rfl, Or.inl ⟨rfl, i, by omega, c1⟩, fun j hj hin => ?_⟩
        rcases Nat.lt_succ_iff_lt_or_eq.mp hj with q | q
        · exact hP.2 j q hin
        · rw [q] at hin; exact absurd hin c1
    · intro rec v hP
      unfold m_X4_wouldCutOff_b25 m_X4_wouldCutOff_j126
      rw [if_pos (nI_le (Nat.le_refl _) (by omega))]
      have h2 := hP.1.iff (Q := (∀ i, i < rk num (W * H) → (gC i = gC (rk num (gw (WL W H num) k).1) ∨ gC i = gC (rk num (gw (WL W H num) k).2.1)) → ul i = if i = rk num (gw (WL W H num) k).1 ∨ i = rk num (gw (WL W H num) k).2.1 then cp k - br k else 0) ∧ ∃ i, i < rk num (W * H) ∧ ¬ (gC i = gC (rk num (gw (WL W H num) k).1) ∨ gC i = gC (rk num (gw (WL W H num) k).2.1))) ⟨fun z => ⟨hP.2, z⟩, fun z => z.2⟩
      rcases hP.1 with ⟨rfl, -⟩ | ⟨rfl, -⟩
      · exact Ev.some h2
      · exact Ev.some h2
  · intro z hz
    refine hz.iff ⟨fun ⟨z1, i, i1, i2⟩ => ⟨fun c hc hp hin => ?_, ?_⟩, fun ⟨z1, c, c1, c2, c3⟩ => ⟨fun i hi hin => ?_, ?_⟩⟩
    · have h1 := z1 (rk num c) (rk_lt hp hc) hin
      rw [(hS c hc hp).2.2.2] at h1
      show num c - sI (WL W H num) br c = _
      rw [h1]
      refine ite_iff ⟨fun w => ?_, fun w => ?_⟩
      · rcases w with w | w
        · exact Or.inl (rk_inj hwk.2.2.1 hp w.symm)
        · exact Or.inr (rk_inj hwk.2.2.2.1 hp w.symm)
      · rcases w with w | w
        · rw [w]; exact Or.inl rfl
        · rw [w]; exact Or.inr rfl
    · obtain ⟨c, c1, c2, c3⟩ := rk_ex i1
      refine ⟨c, c1, c2, ?_⟩
      rw [← c3] at i2
      exact i2
    · obtain ⟨c, c1, c2, c3⟩ := rk_ex hi
      rw [← c3] at hin ⊢
      rw [(hS c c1 c2).2.2.2]
      have h1 := z1 c c1 c2 hin
      refine Eq.trans (show num c - sI (WL W H num) br c = _ from h1) (ite_iff ⟨fun w => ?_, fun w => ?_⟩)
      · rcases w with w | w
        · rw [w]; exact Or.inl rfl
        · rw [w]; exact Or.inr rfl
      · rcases w with w | w
        · exact Or.inl (rk_inj hwk.2.2.1 c2 w.symm)
        · exact Or.inr (rk_inj hwk.2.2.2.1 c2 w.symm)
    · exact ⟨rk num c, rk_lt c2 c1, c3⟩
theorem isPossible_c {W H N R k : Nat} {num br cp cO iA fi se fC sC st wO un ub uc ul ld : Nat → Int32} {Yi Yw : Int32} {cr : Nat → Int64} {gC : Nat → Nat} (hB : BD W H num) (hL : LO W H num Yi Yw cO iA fi se fC sC st wO cr) (hS : SU W H num (WL W H num) br cp un ub uc ul) (hg : ∀ i, i < 24 → ld i = nI (gC i)) (hG : LabG (WL W H num).length (pF num (WL W H num)) (qF num (WL W H num)) (onB br) gC) (hk : k < (WL W H num).length) (hR : 1 ≤ R ∧ R ≤ 4) (hN : 144 < N) : Ev (m_X4_isPossible N br cp Yi fi se cr un uc ul ld (lN (msk (bm br) (WL W H num).length)) (nI R) (nI k)) (fun z => zo z (ap W H num (WL W H num) br cp gC R k)) := by
  have hl := hB.wls
  have hn := hl.2.2.1.1
  have h4 := hL.2.2.2.1
  unfold m_X4_isPossible
  rw [vAt_nI (by omega) (by omega), vAt_nI (by omega) (by omega)]
  simp only [lt1]
  have hR4 : R = 1 ∨ R = 2 ∨ R = 3 ∨ R = 4 := by omega
  rcases hR4 with rfl | rfl | rfl | rfl
  · rw [if_pos (show nI 1 = 1 from rfl)]
    by_cases c1 : br k = 0
    · rw [if_pos c1]
      by_cases c2 : 0 < cp k
      · rw [if_neg (Int32.not_le.mpr c2), crossingsOf_nI (by omega), bd1_some, hL.2.2.2.2.2 k hk]
        by_cases c3 : hX W (WL W H num) br k
        · rw [if_neg (fun z => (hX_pos hn).mp z c3)]
          exact Ev.some (Or.inl ⟨rfl, c1, c2, c3⟩)
        · rw [if_pos ((hX_pos hn).mpr c3)]
          exact Ev.some (Or.inr ⟨rfl, fun z => c3 z.2.2⟩)
      · rw [if_pos (Int32.not_lt.mp c2)]
        exact Ev.some (Or.inr ⟨rfl, fun z => c2 z.2.1⟩)
    · rw [if_neg c1]
      exact Ev.some (Or.inr ⟨rfl, fun z => c1 z.1⟩)
  · rw [if_neg (show ¬ nI 2 = 1 by decide), if_pos (show nI 2 = 2 from rfl), show m_X7_lesserLack fi se ul (nI k) = mnL num (WL W H num) br k from lesserLack_nI hB h4 hS hk]
    by_cases c1 : cp k ≤ br k + mnL num (WL W H num) br k
    · rw [if_pos c1]
      exact Ev.some (Or.inr ⟨rfl, fun z => z c1⟩)
    · rw [if_neg c1]
      exact Ev.some (Or.inl ⟨rfl, c1⟩)
  · rw [if_neg (show ¬ nI 3 = 1 by decide), if_neg (show ¬ nI 3 = 2 by decide), if_pos (show nI 3 = 3 from rfl), show m_X7_leastBridges cp fi se un uc (nI k) = mxD num (WL W H num) cp k from leastBridges_nI hB h4 hS hk]
    by_cases c1 : mxD num (WL W H num) cp k ≤ br k
    · rw [if_pos c1]
      exact Ev.some (Or.inr ⟨rfl, fun z => z c1⟩)
    · rw [if_neg c1]
      exact Ev.some (Or.inl ⟨rfl, c1⟩)
  · rw [if_neg (show ¬ nI 4 = 1 by decide), if_neg (show ¬ nI 4 = 2 by decide), if_neg (show ¬ nI 4 = 3 by decide), hL.1]
    by_cases c1 : cp k ≤ br k
    · rw [if_pos c1]
      exact Ev.some (Or.inr ⟨rfl, fun z => z.1 c1⟩)
    · rw [if_neg c1]
      obtain ⟨z, e, q⟩ := wouldCutOff_c hB h4 hS hg hG hk hN
      rw [e, bd1_some]
      rcases q with ⟨rfl, q⟩ | ⟨rfl, q⟩
      · exact Ev.some (Or.inl ⟨rfl, c1, q⟩)
      · exact Ev.some (Or.inr ⟨rfl, fun z => q z.2⟩)
