/-! which ways cross, masks of bits -/
/-- is a cell between the islands of a way -/
def ov (x : Wy) (c : Nat) : Bool := decide (x.1 < c) && (decide (c < x.2.1) && decide ((c - x.1) % x.2.2 = 0))
def mt (W : Nat) (x y : Wy) : Nat := if x.2.2 = 1 then x.1 - x.1 % W + y.1 % W else y.1 - y.1 % W + x.1 % W
def crs (W : Nat) (x y : Wy) : Bool := (decide (x.2.2 = 1) != decide (y.2.2 = 1)) && (ov x (mt W x y) && ov y (mt W x y))
def bI (b : Bool) : Int32 := if b then 1 else 0
theorem bI_t : bI true = 1 := rfl
theorem bI_f : bI false = 0 := rfl
theorem bI_0 {b : Bool} : bI b = 0 ↔ b = false := by cases b <;> simp [bI]
/-- the ways' numbers are small -/
def wsm (l : List Wy) : Prop := l.length ≤ 48 ∧ ∀ k, k < l.length → (gw l k).1 < (gw l k).2.1 ∧ (gw l k).2.1 < 144 ∧ 1 ≤ (gw l k).2.2 ∧ (gw l k).2.2 ≤ 12
theorem WL_sm {W H : Nat} {num : Nat → Int32} (hW : 3 ≤ W ∧ W ≤ 12) (hH : 3 ≤ H ∧ H ≤ 12) (hk : rk num (W * H) ≤ 24) : wsm (WL W H num) := by
  refine ⟨by have := wL_len W H num (W * H); show (wL W H num (W * H)).length ≤ 48; omega, fun k hk2 => ?_⟩
  have hM : W * H ≤ 144 := Nat.mul_le_mul hW.2 hH.2
  obtain ⟨⟨h1, h2, -, -, h3⟩, -⟩ := wL_isW (W := W) (H := H) (num := num) (by omega) (Nat.le_refl _) (gw_mem hk2)
  refine ⟨h1, Nat.lt_of_lt_of_le h2 hM, ?_⟩
  rcases h3 with ⟨h3, -⟩ | ⟨h3, -⟩
  · rw [h3]; omega
  · rw [h3]; omega
theorem isOver_nI {num : Nat → Int32} {l : List Wy} {Yw : Int32} {fi se fC sC st : Nat → Int32} (h : wrep num l Yw fi se fC sC st) (hs : wsm l) {k c : Nat} (hk : k < l.length) (hc : c < 144) : m_X2_isOver fC sC st (nI k) (nI c) = some (bI (ov (gw l k) c)) := by
  obtain ⟨-, -, h3, h4, h5⟩ := h.2 k hk
  obtain ⟨g1, g2, g3, g4⟩ := hs.2 k hk
  have hk48 : k < 48 := by have := hs.1; omega
  unfold m_X2_isOver
  simp only [lt1]
  rw [vAt_nI hk48 (by omega), vAt_nI hk48 (by omega), vAt_nI hk48 (by omega), h3, h4, h5, if_neg (nI_ne0 (by omega) (by omega))]
  unfold ov
  by_cases c1 : (gw l k).1 < c
  · rw [if_neg (nI_ge c1 (by omega))]
    by_cases c2 : c < (gw l k).2.1
    · rw [if_neg (nI_ge c2 (by omega)), pk_sub (by omega), rmd_nI (by omega) (by omega) (by omega)]
      by_cases c3 : (c - (gw l k).1) % (gw l k).2.2 = 0
      · rw [if_pos (by rw [c3]; rfl), decide_eq_true c1, decide_eq_true c2, decide_eq_true c3]; rfl
      · rw [if_neg (fun z => c3 ((kk0_eq (by have := Nat.mod_le (c - (gw l k).1) (gw l k).2.2; omega)).mp z)), decide_eq_true c1, decide_eq_true c2, decide_eq_false c3]; rfl
    · rw [if_pos (nI_le (by omega) (by omega)), decide_eq_true c1, decide_eq_false c2]; rfl
  · rw [if_pos (nI_le (by omega) (by omega)), decide_eq_false c1]; rfl
theorem alongRow_nI {num : Nat → Int32} {l : List Wy} {Yw : Int32} {fi se fC sC st : Nat → Int32} (h : wrep num l Yw fi se fC sC st) (hs : wsm l) {k : Nat} (hk : k < l.length) : m_X2_isAlongRow st (nI k) = bI (decide ((gw l k).2.2 = 1)) := by
  obtain ⟨-, -, -, -, h5⟩ := h.2 k hk
  obtain ⟨-, -, g3, g4⟩ := hs.2 k hk
  have hk48 : k < 48 := by have := hs.1; omega
  unfold m_X2_isAlongRow
  simp only [lt1]
  rw [vAt_nI hk48 (by omega), h5]
  by_cases c : (gw l k).2.2 = 1
  · rw [if_pos (by rw [c]; rfl), decide_eq_true c]; rfl
  · rw [if_neg (fun z => c ((kk1_eq (by omega)).mp z)), decide_eq_false c]; rfl
theorem firstCell_nI {num : Nat → Int32} {l : List Wy} {Yw : Int32} {fi se fC sC st : Nat → Int32} (h : wrep num l Yw fi se fC sC st) (hs : wsm l) {k : Nat} (hk : k < l.length) : m_X2_firstCell fC (nI k) = nI (gw l k).1 := by
  obtain ⟨-, -, h3, -⟩ := h.2 k hk
  have hk48 : k < 48 := by have := hs.1; omega
  unfold m_X2_firstCell
  simp only [lt1]
  rw [vAt_nI hk48 (by omega), h3]
theorem doCross_nI {W H : Nat} {num : Nat → Int32} {l : List Wy} {Yw : Int32} {fi se fC sC st : Nat → Int32} (hW : 3 ≤ W ∧ W ≤ 12) (hM : W * H ≤ 144) (hb : ∀ k, k < l.length → (gw l k).1 < W * H) (h : wrep num l Yw fi se fC sC st) (hs : wsm l) {i j : Nat} (hi : i < l.length) (hj : j < l.length) : m_X2_doCross fC sC st (nI i) (nI j) (nI W) = some (bI (crs W (gw l i) (gw l j))) := by
  have row : ∀ c d, c < W * H → c - c % W + d % W < 144 := by
    intro c d hc
    have h1 := Nat.mod_lt d (show 0 < W by omega)
    have h2 := Nat.mod_lt c (show 0 < W by omega)
    have := (row_in (W := W) (H := H) (c := c) (k := W - 1 - c % W) (by omega) hc (Nat.le_refl _)).2.1
    have := Nat.mod_le c W
    generalize c % W = r at *
    generalize d % W = r2 at *
    omega
  have meet : ∀ x y : Nat, x < l.length → y < l.length → ∀ m : Nat, m = (gw l x).1 - (gw l x).1 % W + (gw l y).1 % W → m_X2_doCross_j52 fC sC st (nI i) (nI j) (nI W) (nI (gw l x).1) (nI y) = some (bI (ov (gw l i) m && ov (gw l j) m)) := by
    intro x y hx hy m hm
    have h1 := hb x hx
    have h2 := hb y hy
    unfold m_X2_doCross_j52
    simp only [lt1]
    rw [firstCell_nI h hs hy, rmd_nI (by omega) (by omega) (by omega), rmd_nI (by omega) (by omega) (by omega), pk_sub (Nat.mod_le _ _), nI_add, ← hm]
    have hm2 : m < 144 := by rw [hm]; exact row _ _ h1
    rw [isOver_nI h hs hi hm2, isOver_nI h hs hj hm2]
    simp only [bd1_some]
    cases ov (gw l i) m <;> cases ov (gw l j) m <;> rfl
  unfold m_X2_doCross
  simp only [lt1]
  rw [alongRow_nI h hs hi, alongRow_nI h hs hj, if_neg (show ¬ nI W = 0 from nI_ne0 (by omega) (by omega))]
  have j33 : ∀ y, y < l.length → m_X2_doCross_j33 fC sC st (nI i) (nI j) (nI W) (nI y) = if (gw l i).2.2 = 1 then m_X2_doCross_j52 fC sC st (nI i) (nI j) (nI W) (nI (gw l y).1) (nI j) else m_X2_doCross_j52 fC sC st (nI i) (nI j) (nI W) (nI (gw l y).1) (nI i) := by
    intro y hy
    unfold m_X2_doCross_j33
    simp only [lt1]
    rw [firstCell_nI h hs hy, alongRow_nI h hs hi]
    by_cases c : (gw l i).2.2 = 1
    · rw [decide_eq_true c, if_pos c]; rfl
    · rw [decide_eq_false c, if_neg c]; rfl
  rw [j33 i hi, j33 j hj]
  unfold crs mt
  by_cases c1 : (gw l i).2.2 = 1
  · rw [decide_eq_true c1, if_pos c1, if_pos c1]
    by_cases c2 : (gw l j).2.2 = 1
    · rw [decide_eq_true c2]; rfl
    · rw [decide_eq_false c2, if_neg (show ¬ bI true = bI false by decide), if_neg (show ¬ bI true = 0 by decide), if_pos c1, meet i j hi hj _ rfl]; rfl
  · rw [decide_eq_false c1, if_neg c1, if_neg c1]
    by_cases c2 : (gw l j).2.2 = 1
    · rw [decide_eq_true c2, if_neg (show ¬ bI false = bI true by decide), if_pos (show bI false = 0 by decide), if_neg c1, meet j i hj hi _ rfl]; rfl
    · rw [decide_eq_false c2]; rfl
/-- a mask of bits -/
def msk (p : Nat → Bool) : Nat → Nat
  | 0 => 0
  | n + 1 => if p n then msk p n ||| 2 ^ n else msk p n
theorem msk_lt (p : Nat → Bool) : ∀ n, msk p n < 2 ^ n := by
  intro n
  induction n with
  | zero => exact Nat.one_pos
  | succ n ih =>
    show (if p n then msk p n ||| 2 ^ n else msk p n) < 2 ^ (n + 1)
    have h2 : 2 ^ (n + 1) = 2 ^ n * 2 := Nat.pow_succ 2 n
    by_cases c : p n = true
    · rw [if_pos c]; exact Nat.or_lt_two_pow (by omega) (by omega)
    · rw [if_neg c]; omega
theorem msk_bit (p : Nat → Bool) (j : Nat) : ∀ n, (msk p n).testBit j = (decide (j < n) && p j) := by
  intro n
  induction n with
  | zero => simp [msk]
  | succ n ih =>
    show (if p n then msk p n ||| 2 ^ n else msk p n).testBit j = _
    by_cases c : p n = true
    · rw [if_pos c, Nat.testBit_or, ih, Nat.testBit_two_pow]
      rcases Nat.lt_trichotomy j n with q | q | q
      · simp [q, show j < n + 1 by omega, show ¬ n = j by omega]
      · subst q; simp [c]
      · simp [show ¬ j < n by omega, show ¬ j < n + 1 by omega, show ¬ n = j by omega]
    · rw [if_neg c, ih]
      rcases Nat.lt_trichotomy j n with q | q | q
      · simp [q, show j < n + 1 by omega]
      · subst q; simp [c]
      · simp [show ¬ j < n by omega, show ¬ j < n + 1 by omega]
theorem msk_congr {p q : Nat → Bool} : ∀ {n : Nat}, (∀ j, j < n → p j = q j) → msk p n = msk q n := by
  intro n
  induction n with
  | zero => intro _; rfl
  | succ n ih =>
    intro h
    show (if p n then msk p n ||| 2 ^ n else msk p n) = (if q n then msk q n ||| 2 ^ n else msk q n)
    rw [ih (fun j hj => h j (by omega)), h n (by omega)]
theorem lN_or (a b : Nat) : lN a ||| lN b = lN (a ||| b) := by
  apply Int64.toBitVec_inj.mp
  show BitVec.ofNat 64 a ||| BitVec.ofNat 64 b = BitVec.ofNat 64 (a ||| b)
  apply BitVec.eq_of_toNat_eq
  simp [BitVec.toNat_or, Nat.or_mod_two_pow]
theorem lN_and (a b : Nat) : lN a &&& lN b = lN (a &&& b) := by
  apply Int64.toBitVec_inj.mp
  show BitVec.ofNat 64 a &&& BitVec.ofNat 64 b = BitVec.ofNat 64 (a &&& b)
  apply BitVec.eq_of_toNat_eq
  simp [BitVec.toNat_and, Nat.and_mod_two_pow]
theorem shl_nI : ∀ j, j < 48 → (1 : Int64) <<< ((nI j).toInt64 &&& 63) = lN (2 ^ j) := by decide +kernel
theorem readCrossings_ev {W H N : Nat} {num : Nat → Int32} {l : List Wy} {Yw : Int32} {fi se fC sC st : Nat → Int32} {cr : Nat → Int64} (hW : 3 ≤ W ∧ W ≤ 12) (hM : W * H ≤ 144) (hb : ∀ k, k < l.length → (gw l k).1 < W * H) (h : wrep num l Yw fi se fC sC st) (hs : wsm l) (hN : 144 < N) : Ev (m_X2_readCrossings N Yw fC sC st cr (nI W)) (fun z => ∀ k, k < l.length → z k = lN (msk (fun j => crs W (gw l k) (gw l j)) l.length)) := by
  have hl := hs.1
  have hYw := h.1
  subst hYw
  unfold m_X2_readCrossings
  refine zl2c0 l.length (fun i z => ∀ k, k < i → z k = lN (msk (fun j => crs W (gw l k) (gw l j)) l.length)) ?_ ?_ N 0 _ (by omega) (by omega) (fun k hk => by omega)
  · intro rec i z hi hz
    refine Or.inr ⟨vp_updL z i (lN (msk (fun j => crs W (gw l i) (gw l j)) l.length)), ?_, fun k hk => ?_⟩
    · unfold m_X2_readCrossings_b2
      rw [if_neg (nI_ge hi (by omega)), if_neg (kk48_ge (by omega))]
      refine zl2g1 (fun o => o = rec (nI (i + 1)) (vp_updL z i (lN (msk (fun j => crs W (gw l i) (gw l j)) l.length)))) l.length (fun j v => v = lN (msk (fun j => crs W (gw l i) (gw l j)) j)) ?_ ?_ N 0 _ (by omega) (by omega) rfl
      · intro rec2 j v hj hv
        refine Or.inr ⟨lN (msk (fun j => crs W (gw l i) (gw l j)) (j + 1)), ?_, rfl⟩
        unfold m_X2_readCrossings_b24
        rw [if_neg (nI_ge hj (by omega)), doCross_nI hW hM hb h hs hi hj, bd1_some]
        show _ = rec2 (lN (if crs W (gw l i) (gw l j) then _ else _)) _
        cases e : crs W (gw l i) (gw l j) with
        | false =>
          rw [if_pos bI_f, hv]
          unfold m_X2_readCrossings_j51
          simp only [lt1, nI_s]
          rfl
        | true =>
          rw [if_neg (by decide), hv]
          unfold m_X2_readCrossings_j51
          simp only [lt1, nI_s]
          rw [shl_nI j (by omega), lN_or]
          rfl
      · intro rec2 v hv
        unfold m_X2_readCrossings_b24
        rw [if_pos (nI_le (Nat.le_refl _) (by omega)), hv]
        unfold m_X2_readCrossings_j57
        rw [wrL_nI (by omega) (by omega)]
        simp only [lt1, nI_s]
    · rcases Nat.lt_or_ge k i with q | q
      · rw [pk_uLn (by omega)]; exact hz k q
      · have : k = i := by omega
        subst this; exact pk_uLs
  · intro rec z hz
    unfold m_X2_readCrossings_b2
    rw [if_pos (nI_le (Nat.le_refl _) (by omega))]
    exact Ev.some hz
/-- the layout of a board, whole -/
def LO (W H : Nat) (num : Nat → Int32) (Yi Yw : Int32) (cO iA fi se fC sC st wO : Nat → Int32) (cr : Nat → Int64) : Prop := Yi = nI (rk num (W * H)) ∧ (∀ c, c < W * H → 0 < num c → cO (rk num c) = nI c) ∧ (∀ c, c < 144 → iA c = if 0 < num c then nI (rk num c + 1) else 0) ∧ wrep num (WL W H num) Yw fi se fC sC st ∧ wcnt num (W * H) (WL W H num) wO ∧ ∀ k, k < (WL W H num).length → cr k = lN (msk (fun j => crs W (gw (WL W H num) k) (gw (WL W H num) j)) (WL W H num).length)
theorem read_ev {W H N : Nat} {num cO iA fi se fC sC st wO : Nat → Int32} {cr : Nat → Int64} (hW : 3 ≤ W ∧ W ≤ 12) (hH : 3 ≤ H ∧ H ≤ 12) (hz : ∀ c, W * H ≤ c → c < 144 → num c = 0) (hk : rk num (W * H) ≤ 24) (hN : 144 < N) : Ev (m_X2_read N (nI W) (nI H) num cO iA fi se fC sC st wO cr) (fun t => LO W H num t.1 t.2.1 t.2.2.1 t.2.2.2.1 t.2.2.2.2.1 t.2.2.2.2.2.1 t.2.2.2.2.2.2.1 t.2.2.2.2.2.2.2.1 t.2.2.2.2.2.2.2.2.1 t.2.2.2.2.2.2.2.2.2.1 t.2.2.2.2.2.2.2.2.2.2) := by
  have hM : W * H ≤ 144 := Nat.mul_le_mul hW.2 hH.2
  unfold m_X2_read
  refine Ev.bd4 (readIslands_ev hM hz hk hN) (fun t ht => ?_)
  obtain ⟨h1, h2, h3, h4⟩ := ht
  simp only [lt1, cells_nI]
  rw [h1]
  refine Ev.bd7 (readWays_ev hW hH hk h2 h3 h4 hN) (fun u hu => ?_)
  obtain ⟨g1, g2⟩ := hu
  refine Ev.bd1 (readCrossings_ev hW hM (fun k hk2 => (wL_isW (W := W) (H := H) (num := num) (by omega) (Nat.le_refl _) (gw_mem hk2)).2) g1 (WL_sm hW hH hk) hN) (fun z hz2 => ?_)
  exact Ev.some ⟨rfl, h2, h3, g1, g2, hz2⟩
