/-! the count of the ones of a mask -/
theorem and_cat {k a b x y : Nat} (ha : a < 2 ^ k) (hb : b < 2 ^ k) : (a + 2 ^ k * x) &&& (b + 2 ^ k * y) = (a &&& b) + 2 ^ k * (x &&& y) := by
  have hab : a &&& b < 2 ^ k := Nat.lt_of_le_of_lt Nat.and_le_left ha
  apply Nat.eq_of_testBit_eq
  intro j
  rw [Nat.testBit_and, Nat.add_comm a, Nat.add_comm b, Nat.add_comm (a &&& b), Nat.testBit_two_pow_mul_add _ ha, Nat.testBit_two_pow_mul_add _ hb, Nat.testBit_two_pow_mul_add _ hab]
  by_cases h : j < k
  · rw [if_pos h, if_pos h, if_pos h, Nat.testBit_and]
  · rw [if_neg h, if_neg h, if_neg h, Nat.testBit_and]
def dg (B : Nat) : Nat → (Nat → Nat) → Nat
  | 0, _ => 0
  | n + 1, f => f 0 + B * dg B n (fun i => f (i + 1))
theorem dg_congr {B : Nat} : ∀ {n : Nat} {f g : Nat → Nat}, (∀ i, i < n → f i = g i) → dg B n f = dg B n g := by
  intro n
  induction n with
  | zero => intro f g _; rfl
  | succ n ih =>
    intro f g h
    show f 0 + B * _ = g 0 + B * _
    rw [h 0 (by omega), ih (fun i hi => h (i + 1) (by omega))]
theorem dg_and {k : Nat} : ∀ {n : Nat} {f g : Nat → Nat}, (∀ i, i < n → f i < 2 ^ k) → (∀ i, i < n → g i < 2 ^ k) → dg (2 ^ k) n f &&& dg (2 ^ k) n g = dg (2 ^ k) n (fun i => f i &&& g i) := by
  intro n
  induction n with
  | zero => intro f g _ _; exact Nat.zero_and 0
  | succ n ih =>
    intro f g hf hg
    show (f 0 + 2 ^ k * _) &&& (g 0 + 2 ^ k * _) = (f 0 &&& g 0) + 2 ^ k * _
    rw [and_cat (hf 0 (by omega)) (hg 0 (by omega)), ih (fun i hi => hf (i + 1) (by omega)) (fun i hi => hg (i + 1) (by omega))]
theorem dg_add {B : Nat} : ∀ {n : Nat} {f g : Nat → Nat}, dg B n f + dg B n g = dg B n (fun i => f i + g i) := by
  intro n
  induction n with
  | zero => intro f g; rfl
  | succ n ih =>
    intro f g
    show (f 0 + B * _) + (g 0 + B * _) = f 0 + g 0 + B * dg B n (fun i => f (i + 1) + g (i + 1))
    rw [← ih, Nat.mul_add]
    omega
theorem dg_sub {B n : Nat} {f g : Nat → Nat} (h : ∀ i, i < n → g i ≤ f i) : dg B n f - dg B n g = dg B n (fun i => f i - g i) := by
  have : dg B n f = dg B n (fun i => f i - g i) + dg B n g := by
    rw [dg_add]
    exact dg_congr (fun i hi => by have := h i hi; omega)
  omega
theorem dg_div {b m : Nat} (hm : 0 < m) : ∀ {n : Nat} {f : Nat → Nat}, f n % m = 0 → dg (m * b) n f / m = dg (m * b) n (fun i => f i / m + b * (f (i + 1) % m)) := by
  intro n
  induction n with
  | zero => intro f _; exact Nat.zero_div m
  | succ n ih =>
    intro f h
    show (f 0 + m * b * dg (m * b) n (fun i => f (i + 1))) / m = f 0 / m + b * (f 1 % m) + m * b * dg (m * b) n (fun i => f (i + 1) / m + b * (f (i + 1 + 1) % m))
    rw [← ih (f := fun i => f (i + 1)) h, Nat.mul_assoc, Nat.add_mul_div_left _ _ hm]
    have e : dg (m * b) n (fun i => f (i + 1)) % m = f 1 % m := by
      cases n with
      | zero => rw [show f 1 % m = 0 from h]; exact Nat.zero_mod m
      | succ n =>
        show (f 1 + m * b * _) % m = _
        rw [Nat.mul_assoc, Nat.add_mul_mod_self_left]
    generalize dg (m * b) n (fun i => f (i + 1)) = X at e ⊢
    rw [← e]
    have e2 := Nat.div_add_mod X m
    have e3 : b * X = b * (X % m) + m * b * (X / m) := by
      rw [← e2]
      rw [Nat.mul_add, ← Nat.mul_assoc b, Nat.mul_comm b m]
      rw [e2]
      omega
    omega
theorem dg_pair {B : Nat} : ∀ {n : Nat} {f : Nat → Nat}, dg B (2 * n) f = dg (B * B) n (fun i => f (2 * i) + B * f (2 * i + 1)) := by
  intro n
  induction n with
  | zero => intro f; rfl
  | succ n ih =>
    intro f
    show f 0 + B * (f 1 + B * dg B (2 * n) (fun i => f (i + 1 + 1))) = f 0 + B * f 1 + B * B * dg (B * B) n (fun i => f (2 * (i + 1)) + B * f (2 * (i + 1) + 1))
    rw [ih, Nat.mul_add, Nat.mul_assoc, Nat.add_assoc]
    rfl
theorem dg_bit : ∀ {n : Nat} {f : Nat → Nat} {j : Nat}, (∀ i, f i < 2) → (dg 2 n f).testBit j = (decide (j < n) && decide (f j = 1)) := by
  intro n
  induction n with
  | zero => intro f j _; show Nat.testBit 0 j = _; rw [Nat.zero_testBit]; simp
  | succ n ih =>
    intro f j hf
    show (f 0 + 2 * dg 2 n (fun i => f (i + 1))).testBit j = _
    have h0 := hf 0
    cases j with
    | zero =>
      rw [Nat.testBit_zero]
      have : (f 0 + 2 * dg 2 n (fun i => f (i + 1))) % 2 = f 0 := by omega
      rw [this]
      simp
    | succ j =>
      rw [Nat.testBit_succ, show (f 0 + 2 * dg 2 n (fun i => f (i + 1))) / 2 = dg 2 n (fun i => f (i + 1)) by omega, ih (fun i => hf (i + 1))]
      congr 1
      exact decide_eq_decide.mpr (by omega)
def nb (p : Nat → Bool) (n : Nat) (i : Nat) : Nat := if i < n ∧ p i = true then 1 else 0
theorem nb_lt (p : Nat → Bool) (n i : Nat) : nb p n i < 2 := by
  unfold nb; split <;> omega
theorem msk_dg (p : Nat → Bool) {n : Nat} (hn : n ≤ 64) : msk p n = dg 2 64 (nb p n) := by
  apply Nat.eq_of_testBit_eq
  intro j
  rw [msk_bit, dg_bit (nb_lt p n)]
  unfold nb
  by_cases h : j < n
  · rw [decide_eq_true h, decide_eq_true (show j < 64 by omega)]
    cases p j <;> simp [h]
  · rw [decide_eq_false h]
    simp [h]
theorem iS_nb (p : Nat → Bool) (n : Nat) (hn : n < 2 ^ 31) : iS (fun i => if p i = true then 1 else 0) n = nI (nS (nb p n) n) := by
  have : ∀ m, m ≤ n → iS (fun i => if p i = true then 1 else 0) m = nI (nS (nb p n) m) ∧ nS (nb p n) m ≤ m := by
    intro m
    induction m with
    | zero => intro _; exact ⟨rfl, Nat.le_refl _⟩
    | succ m ih =>
      intro hm
      obtain ⟨h1, h2⟩ := ih (by omega)
      have h3 := nb_lt p n m
      constructor
      · show iS _ m + _ = nI (nS (nb p n) m + nb p n m)
        rw [h1]
        by_cases c : p m = true
        · rw [show nb p n m = 1 from if_pos ⟨by omega, c⟩, ← nI_s]
          show _ + (if p m = true then 1 else 0) = _
          rw [if_pos c]
        · rw [show nb p n m = 0 from if_neg (fun z => c z.2)]
          show _ + (if p m = true then 1 else 0) = _
          rw [if_neg c, Int32.add_zero]; rfl
      · show nS (nb p n) m + nb p n m ≤ m + 1
        omega
  exact (this n (Nat.le_refl _)).1
theorem nS_nb (p : Nat → Bool) (n : Nat) : ∀ k, nS (nb p n) (n + k) = nS (nb p n) n := by
  intro k
  induction k with
  | zero => rfl
  | succ k ih =>
    show nS (nb p n) (n + k) + nb p n (n + k) = _
    rw [ih]
    unfold nb
    rw [if_neg (fun z => absurd z.1 (by omega))]; rfl
/-- the algorithm on numbers -/
def pcA (x : Nat) : Nat :=
  let v1 := x - ((x / 2) &&& 6148914691236517205)
  let v2 := (v1 &&& 3689348814741910323) + ((v1 / 4) &&& 3689348814741910323)
  let v3 := (v2 + v2 / 16) &&& 1085102592571150095
  let v4 := v3 + v3 / 256
  let v5 := v4 + v4 / 65536
  let v6 := v5 + v5 / 4294967296
  v6 % 128
theorem nS_pair {f : Nat → Nat} : ∀ {n : Nat}, nS f (2 * n) = nS (fun i => f (2 * i) + f (2 * i + 1)) n := by
  intro n
  induction n with
  | zero => rfl
  | succ n ih =>
    show nS f (2 * n) + f (2 * n) + f (2 * n + 1) = nS _ n + (f (2 * n) + f (2 * n + 1))
    rw [ih, Nat.add_assoc]
theorem and_3 (x : Nat) : x &&& 3 = x % 4 := Nat.and_two_pow_sub_one_eq_mod x 2
theorem and_15 (x : Nat) : x &&& 15 = x % 16 := Nat.and_two_pow_sub_one_eq_mod x 4
theorem pc_end {e : Nat → Nat} (he : ∀ i, e i ≤ 8) {v3 v4 v5 v6 : Nat} (h3 : v3 = dg 256 8 e) (h4 : v4 = v3 + v3 / 256) (h5 : v5 = v4 + v4 / 65536) (h6 : v6 = v5 + v5 / 4294967296) : v6 % 128 = nS e 8 := by
  have a3 : v3 = e 0 + 256 * (e 1 + 256 * (e 2 + 256 * (e 3 + 256 * (e 4 + 256 * (e 5 + 256 * (e 6 + 256 * (e 7 + 256 * 0))))))) := h3
  have b : nS e 8 = 0 + e 0 + e 1 + e 2 + e 3 + e 4 + e 5 + e 6 + e 7 := rfl
  have q0 := he 0
  have q1 := he 1
  have q2 := he 2
  have q3 := he 3
  have q4 := he 4
  have q5 := he 5
  have q6 := he 6
  have q7 := he 7
  rw [b]
  generalize e 0 = e0 at *
  generalize e 1 = e1 at *
  generalize e 2 = e2 at *
  generalize e 3 = e3 at *
  generalize e 4 = e4 at *
  generalize e 5 = e5 at *
  generalize e 6 = e6 at *
  generalize e 7 = e7 at *
  have d4 : v3 / 256 = e1 + 256 * (e2 + 256 * (e3 + 256 * (e4 + 256 * (e5 + 256 * (e6 + 256 * e7))))) := by omega
  have d5 : v4 / 65536 = (e2 + e3) + 256 * ((e3 + e4) + 256 * ((e4 + e5) + 256 * ((e5 + e6) + 256 * ((e6 + e7) + 256 * e7)))) := by omega
  have d6 : v5 / 4294967296 = (e4 + e5 + e6 + e7) + 256 * ((e5 + e6 + e7) + 256 * ((e6 + e7) + 256 * e7)) := by omega
  omega
theorem pcA_dg {b : Nat → Nat} (hb : ∀ i, b i < 2) (hz : ∀ i, 64 ≤ i → b i = 0) : pcA (dg 2 64 b) = nS b 64 := by
  have e0 : dg 2 64 b = dg 4 32 (fun i => b (2 * i) + 2 * b (2 * i + 1)) := dg_pair (B := 2) (n := 32)
  have e1 : dg 4 32 (fun i => b (2 * i) + 2 * b (2 * i + 1)) / 2 = dg 4 32 (fun i => (b (2 * i) + 2 * b (2 * i + 1)) / 2 + 2 * ((b (2 * (i + 1)) + 2 * b (2 * (i + 1) + 1)) % 2)) :=
    dg_div (b := 2) (m := 2) (by decide) (f := fun i => b (2 * i) + 2 * b (2 * i + 1)) (by show (b 64 + 2 * b 65) % 2 = 0; rw [hz 64 (by omega), hz 65 (by omega)])
  have e2 : dg 4 32 (fun i => (b (2 * i) + 2 * b (2 * i + 1)) / 2 + 2 * ((b (2 * (i + 1)) + 2 * b (2 * (i + 1) + 1)) % 2)) &&& 6148914691236517205 = dg 4 32 (fun i => b (2 * i + 1)) := by
    rw [show (6148914691236517205 : Nat) = dg 4 32 (fun _ => 1) from rfl]
    refine (dg_and (k := 2) (fun i _ => ?_) (fun i _ => by decide)).trans (dg_congr fun i _ => ?_)
    · have := hb (2 * i); have := hb (2 * i + 1); show _ < 4; omega
    · show _ &&& 1 = _
      rw [Nat.and_one_is_mod]
      have := hb (2 * i); have := hb (2 * i + 1); omega
  have e3 : dg 4 32 (fun i => b (2 * i) + 2 * b (2 * i + 1)) - dg 4 32 (fun i => b (2 * i + 1)) = dg 4 32 (fun i => b (2 * i) + b (2 * i + 1)) :=
    (dg_sub (fun i _ => by show b (2 * i + 1) ≤ b (2 * i) + 2 * b (2 * i + 1); omega)).trans (dg_congr fun i _ => by show b (2 * i) + 2 * b (2 * i + 1) - b (2 * i + 1) = _; omega)
  obtain ⟨c, hc⟩ : ∃ c : Nat → Nat, c = fun i => b (2 * i) + b (2 * i + 1) := ⟨_, rfl⟩
  have c2 : ∀ i, c i ≤ 2 := fun i => by rw [hc]; have := hb (2 * i); have := hb (2 * i + 1); show b (2 * i) + b (2 * i + 1) ≤ 2; omega
  have cz : ∀ i, 32 ≤ i → c i = 0 := fun i hi => by rw [hc]; show b (2 * i) + b (2 * i + 1) = 0; rw [hz _ (by omega), hz _ (by omega)]
  rw [← hc] at e3
  have e4 : dg 4 32 c = dg 16 16 (fun i => c (2 * i) + 4 * c (2 * i + 1)) := dg_pair (B := 4) (n := 16)
  have e5 : dg 16 16 (fun i => c (2 * i) + 4 * c (2 * i + 1)) &&& 3689348814741910323 = dg 16 16 (fun i => c (2 * i)) := by
    rw [show (3689348814741910323 : Nat) = dg 16 16 (fun _ => 3) from rfl]
    refine (dg_and (k := 4) (fun i _ => ?_) (fun i _ => by decide)).trans (dg_congr fun i _ => ?_)
    · have := c2 (2 * i); have := c2 (2 * i + 1); show _ < 16; omega
    · show _ &&& 3 = _
      rw [and_3]
      have := c2 (2 * i); omega
  have e6 : dg 16 16 (fun i => c (2 * i) + 4 * c (2 * i + 1)) / 4 = dg 16 16 (fun i => (c (2 * i) + 4 * c (2 * i + 1)) / 4 + 4 * ((c (2 * (i + 1)) + 4 * c (2 * (i + 1) + 1)) % 4)) :=
    dg_div (b := 4) (m := 4) (by decide) (f := fun i => c (2 * i) + 4 * c (2 * i + 1)) (by show (c 32 + 4 * c 33) % 4 = 0; rw [cz 32 (by omega), cz 33 (by omega)])
  have e7 : dg 16 16 (fun i => (c (2 * i) + 4 * c (2 * i + 1)) / 4 + 4 * ((c (2 * (i + 1)) + 4 * c (2 * (i + 1) + 1)) % 4)) &&& 3689348814741910323 = dg 16 16 (fun i => c (2 * i + 1)) := by
    rw [show (3689348814741910323 : Nat) = dg 16 16 (fun _ => 3) from rfl]
    refine (dg_and (k := 4) (fun i _ => ?_) (fun i _ => by decide)).trans (dg_congr fun i _ => ?_)
    · have := c2 (2 * i); have := c2 (2 * i + 1); show _ < 16; omega
    · show _ &&& 3 = _
      rw [and_3]
      have := c2 (2 * i); have := c2 (2 * i + 1); omega
  obtain ⟨d, hd⟩ : ∃ d : Nat → Nat, d = fun i => c (2 * i) + c (2 * i + 1) := ⟨_, rfl⟩
  have e8 : dg 16 16 (fun i => c (2 * i)) + dg 16 16 (fun i => c (2 * i + 1)) = dg 16 16 d := by rw [hd]; exact dg_add
  have d4 : ∀ i, d i ≤ 4 := fun i => by rw [hd]; have := c2 (2 * i); have := c2 (2 * i + 1); show c (2 * i) + c (2 * i + 1) ≤ 4; omega
  have dz : ∀ i, 16 ≤ i → d i = 0 := fun i hi => by rw [hd]; show c (2 * i) + c (2 * i + 1) = 0; rw [cz _ (by omega), cz _ (by omega)]
  have e9 : dg 16 16 d / 16 = dg 16 16 (fun i => d i / 16 + 1 * (d (i + 1) % 16)) := dg_div (b := 1) (m := 16) (by decide) (by rw [dz 16 (by omega)])
  have e10 : dg 16 16 d + dg 16 16 (fun i => d i / 16 + 1 * (d (i + 1) % 16)) = dg 16 16 (fun i => d i + d (i + 1)) := dg_add.trans (dg_congr fun i _ => by
    have := d4 i; have := d4 (i + 1); show d i + (d i / 16 + 1 * (d (i + 1) % 16)) = _; omega)
  have e11 : dg 16 16 (fun i => d i + d (i + 1)) = dg 256 8 (fun i => (d (2 * i) + d (2 * i + 1)) + 16 * (d (2 * i + 1) + d (2 * i + 1 + 1))) := dg_pair (B := 16) (n := 8)
  have e12 : dg 256 8 (fun i => (d (2 * i) + d (2 * i + 1)) + 16 * (d (2 * i + 1) + d (2 * i + 1 + 1))) &&& 1085102592571150095 = dg 256 8 (fun i => d (2 * i) + d (2 * i + 1)) := by
    rw [show (1085102592571150095 : Nat) = dg 256 8 (fun _ => 15) from rfl]
    refine (dg_and (k := 8) (fun i _ => ?_) (fun i _ => by decide)).trans (dg_congr fun i _ => ?_)
    · have := d4 (2 * i); have := d4 (2 * i + 1); have := d4 (2 * i + 1 + 1); show _ < 256; omega
    · show _ &&& 15 = _
      rw [and_15]
      have := d4 (2 * i); have := d4 (2 * i + 1); omega
  have f1 : nS b 64 = nS c 32 := by rw [hc]; exact nS_pair (n := 32)
  have f2 : nS c 32 = nS d 16 := by rw [hd]; exact nS_pair (n := 16)
  have f3 : nS d 16 = nS (fun i => d (2 * i) + d (2 * i + 1)) 8 := nS_pair (n := 8)
  rw [f1, f2, f3]
  unfold pcA
  simp only []
  rw [e0, e1, e2, e3, e4, e5, e6, e7, e8, e9, e10, e11, e12]
  exact pc_end (fun i => by have := d4 (2 * i); have := d4 (2 * i + 1); show d (2 * i) + d (2 * i + 1) ≤ 8; omega) rfl rfl rfl rfl
theorem shr_lN {a : Nat} (k : Nat) (ha : a < 2 ^ 64) (u : UInt64) (hu : u.toNat = k) (hk : k < 64) : ((lN a).toUInt64 >>> u).toInt64 = lN (a / 2 ^ k) := by
  apply Int64.toBitVec_inj.mp
  show ((lN a).toUInt64 >>> u).toBitVec = BitVec.ofNat 64 (a / 2 ^ k)
  apply BitVec.eq_of_toNat_eq
  show ((lN a).toUInt64 >>> u).toNat = _
  rw [UInt64.toNat_shiftRight, hu, Nat.mod_eq_of_lt hk, Nat.shiftRight_eq_div_pow]
  show (BitVec.ofNat 64 a).toNat / 2 ^ k = (BitVec.ofNat 64 (a / 2 ^ k)).toNat
  have : a / 2 ^ k ≤ a := Nat.div_le_self _ _
  rw [BitVec.toNat_ofNat, BitVec.toNat_ofNat, Nat.mod_eq_of_lt ha, Nat.mod_eq_of_lt (by omega)]
theorem low7 (a : Nat) : (lN a).toInt32 &&& 127 = nI (a % 128) := by
  apply Int32.toBitVec_inj.mp
  show (BitVec.ofNat 64 a).signExtend 32 &&& 127#32 = BitVec.ofNat 32 (a % 128)
  rw [BitVec.signExtend_eq_setWidth_of_le _ (by decide)]
  apply BitVec.eq_of_toNat_eq
  rw [BitVec.toNat_and, BitVec.toNat_setWidth, BitVec.toNat_ofNat, BitVec.toNat_ofNat, BitVec.toNat_ofNat]
  show a % 2 ^ 64 % 2 ^ 32 &&& 2 ^ 7 - 1 = _
  rw [Nat.and_two_pow_sub_one_eq_mod]
  omega
theorem pc_lN {x : Nat} (hx : x < 2 ^ 63) : m_J13_bitCount_95d88 (lN x) = nI (pcA x) := by
  unfold m_J13_bitCount_95d88 pcA
  simp only [lt1]
  rw [shr_lN 1 (by omega) (((1 : Int32)).toInt64.toUInt64 &&& Int64.toUInt64 63) (by decide) (by decide), show (6148914691236517205 : Int64) = lN 6148914691236517205 from rfl, lN_and,
    lN_sub (Nat.le_trans Nat.and_le_left (Nat.div_le_self _ _))]
  rw [show x / 2 ^ 1 = x / 2 from rfl]
  have h1 : x - (x / 2 &&& 6148914691236517205) < 2 ^ 63 := by omega
  generalize x - (x / 2 &&& 6148914691236517205) = v1 at h1 ⊢
  rw [shr_lN 2 (by omega) (((2 : Int32)).toInt64.toUInt64 &&& Int64.toUInt64 63) (by decide) (by decide), show (3689348814741910323 : Int64) = lN 3689348814741910323 from rfl, lN_and, lN_and, lN_add,
    show v1 / 2 ^ 2 = v1 / 4 from rfl]
  have h2 : (v1 &&& 3689348814741910323) + (v1 / 4 &&& 3689348814741910323) ≤ 7378697629483820646 := by
    have a1 : v1 &&& 3689348814741910323 ≤ 3689348814741910323 := Nat.and_le_right
    have a2 : v1 / 4 &&& 3689348814741910323 ≤ 3689348814741910323 := Nat.and_le_right
    omega
  generalize (v1 &&& 3689348814741910323) + (v1 / 4 &&& 3689348814741910323) = v2 at h2 ⊢
  rw [shr_lN 4 (by omega) (((4 : Int32)).toInt64.toUInt64 &&& Int64.toUInt64 63) (by decide) (by decide), lN_add, show (1085102592571150095 : Int64) = lN 1085102592571150095 from rfl, lN_and,
    show v2 / 2 ^ 4 = v2 / 16 from rfl]
  have h3 : (v2 + v2 / 16) &&& 1085102592571150095 ≤ 1085102592571150095 := Nat.and_le_right
  generalize (v2 + v2 / 16) &&& 1085102592571150095 = v3 at h3 ⊢
  rw [shr_lN 8 (by omega) (((8 : Int32)).toInt64.toUInt64 &&& Int64.toUInt64 63) (by decide) (by decide), lN_add, show v3 / 2 ^ 8 = v3 / 256 from rfl]
  have h4 : v3 + v3 / 256 ≤ 2 * 1085102592571150095 := by omega
  generalize v3 + v3 / 256 = v4 at h4 ⊢
  rw [shr_lN 16 (by omega) (((16 : Int32)).toInt64.toUInt64 &&& Int64.toUInt64 63) (by decide) (by decide), lN_add, show v4 / 2 ^ 16 = v4 / 65536 from rfl]
  have h5 : v4 + v4 / 65536 ≤ 4 * 1085102592571150095 := by omega
  generalize v4 + v4 / 65536 = v5 at h5 ⊢
  rw [shr_lN 32 (by omega) (((32 : Int32)).toInt64.toUInt64 &&& Int64.toUInt64 63) (by decide) (by decide), lN_add, show v5 / 2 ^ 32 = v5 / 4294967296 from rfl, low7]
/-- bitCount of a mask -/
theorem pc_msk (p : Nat → Bool) {n : Nat} (hn : n ≤ 48) : m_J13_bitCount_95d88 (lN (msk p n)) = iS (fun i => if p i = true then 1 else 0) n := by
  have h := msk_lt p n
  have h2 : (2 : Nat) ^ n ≤ 2 ^ 48 := Nat.pow_le_pow_right (by decide) hn
  rw [pc_lN (by omega), iS_nb p n (by omega), msk_dg p (by omega), pcA_dg (nb_lt p n) (fun i hi => by unfold nb; exact if_neg (fun z => absurd z.1 (by omega)))]
  have e := nS_nb p n (64 - n)
  rw [show n + (64 - n) = 64 by omega] at e
  rw [e]
