/-! islands by rank, the next island on a line, the list of ways -/
/-- how many islands lie ahead of a cell -/
def rk (num : Nat → Int32) : Nat → Nat
  | 0 => 0
  | c + 1 => rk num c + (if 0 < num c then 1 else 0)
theorem rk_s1 {num : Nat → Int32} {c : Nat} (h : 0 < num c) : rk num (c + 1) = rk num c + 1 := by
  show rk num c + _ = _
  rw [if_pos h]
theorem rk_s0 {num : Nat → Int32} {c : Nat} (h : ¬ 0 < num c) : rk num (c + 1) = rk num c := by
  show rk num c + _ = _
  rw [if_neg h]; rfl
theorem rk_step (num : Nat → Int32) (c : Nat) : rk num c ≤ rk num (c + 1) ∧ rk num (c + 1) ≤ rk num c + 1 := by
  by_cases h : 0 < num c
  · rw [rk_s1 h]; omega
  · rw [rk_s0 h]; omega
theorem rk_le (num : Nat → Int32) (c : Nat) : rk num c ≤ c := by
  induction c with
  | zero => exact Nat.le_refl _
  | succ c ih => have := (rk_step num c).2; omega
theorem rk_mono (num : Nat → Int32) {a b : Nat} (h : a ≤ b) : rk num a ≤ rk num b := by
  induction b with
  | zero => have : a = 0 := by omega
            subst this; exact Nat.le_refl _
  | succ b ih =>
    rcases Nat.lt_or_ge a (b + 1) with q | q
    · exact Nat.le_trans (ih (by omega)) (rk_step num b).1
    · have : a = b + 1 := by omega
      subst this; exact Nat.le_refl _
theorem rk_lt {num : Nat → Int32} {a b : Nat} (ha : 0 < num a) (h : a < b) : rk num a < rk num b := by
  have h1 := rk_mono num (show a + 1 ≤ b from h)
  rw [rk_s1 ha] at h1
  omega
theorem rk_inj {num : Nat → Int32} {a b : Nat} (ha : 0 < num a) (hb : 0 < num b) (h : rk num a = rk num b) : a = b := by
  rcases Nat.lt_trichotomy a b with q | q | q
  · have := rk_lt ha q; omega
  · exact q
  · have := rk_lt hb q; omega
theorem rk_ex {num : Nat → Int32} {m i : Nat} (h : i < rk num m) : ∃ c, c < m ∧ 0 < num c ∧ rk num c = i := by
  induction m with
  | zero => exact absurd h (Nat.not_lt_zero _)
  | succ m ih =>
    rcases Nat.lt_or_ge i (rk num m) with q | q
    · obtain ⟨c, h1, h2, h3⟩ := ih q
      exact ⟨c, by omega, h2, h3⟩
    · by_cases hp : 0 < num m
      · rw [rk_s1 hp] at h
        exact ⟨m, by omega, hp, by omega⟩
      · rw [rk_s0 hp] at h
        omega
theorem rk_congr {num nm : Nat → Int32} {m : Nat} (h : ∀ c, c < m → num c = nm c) : rk num m = rk nm m := by
  induction m with
  | zero => rfl
  | succ m ih =>
    show rk num m + _ = rk nm m + _
    rw [ih (fun c hc => h c (by omega)), h m (by omega)]
/-- the next island, n steps of s at most behind the cell c -/
def nx (num : Nat → Int32) (s : Nat) : Nat → Nat → Option Nat
  | 0, _ => none
  | n + 1, c => if 0 < num (c + s) then some (c + s) else nx num s n (c + s)
theorem nx_some {num : Nat → Int32} {s : Nat} : ∀ {n c d : Nat}, nx num s n c = some d → ∃ k, 1 ≤ k ∧ k ≤ n ∧ d = c + k * s ∧ 0 < num d ∧ ∀ j, 1 ≤ j → j < k → ¬ 0 < num (c + j * s) := by
  intro n
  induction n with
  | zero => intro c d h; cases h
  | succ n ih =>
    intro c d h
    have h : (if 0 < num (c + s) then some (c + s) else nx num s n (c + s)) = some d := h
    by_cases hp : 0 < num (c + s)
    · rw [if_pos hp] at h
      cases h
      exact ⟨1, by omega, by omega, by omega, hp, fun j h1 h2 => by omega⟩
    · rw [if_neg hp] at h
      obtain ⟨k, h1, h2, h3, h4, h5⟩ := ih h
      refine ⟨k + 1, by omega, by omega, by rw [h3, Nat.add_mul]; omega, h4, fun j g1 g2 => ?_⟩
      rcases Nat.lt_or_ge 1 j with q | q
      · have := h5 (j - 1) (by omega) (by omega)
        rw [show c + s + (j - 1) * s = c + j * s by rw [Nat.sub_mul]; have : s ≤ j * s := Nat.le_mul_of_pos_left s (by omega); omega] at this
        exact this
      · have : j = 1 := by omega
        subst this
        rw [Nat.one_mul]; exact hp
theorem nx_none {num : Nat → Int32} {s : Nat} : ∀ {n c : Nat}, nx num s n c = none → ∀ j, 1 ≤ j → j ≤ n → ¬ 0 < num (c + j * s) := by
  intro n
  induction n with
  | zero => intro c _ j h1 h2; omega
  | succ n ih =>
    intro c h j h1 h2
    have h : (if 0 < num (c + s) then some (c + s) else nx num s n (c + s)) = none := h
    by_cases hp : 0 < num (c + s)
    · rw [if_pos hp] at h; cases h
    · rw [if_neg hp] at h
      rcases Nat.lt_or_ge 1 j with q | q
      · have := ih h (j - 1) (by omega) (by omega)
        rw [show c + s + (j - 1) * s = c + j * s by rw [Nat.sub_mul]; have : s ≤ j * s := Nat.le_mul_of_pos_left s (by omega); omega] at this
        exact this
      · have : j = 1 := by omega
        subst this
        rw [Nat.one_mul]; exact hp
/-- a way: its first cell, its other one, its stride -/
abbrev Wy : Type := Nat × Nat × Nat
def oL (o : Option Nat) (c s : Nat) : List Wy := match o with
  | none => []
  | some d => [(c, d, s)]
def wAt (W H : Nat) (num : Nat → Int32) (c : Nat) : List Wy := if 0 < num c then oL (nx num 1 (W - 1 - c % W) c) c 1 ++ oL (nx num W (H - 1 - c / W) c) c W else []
def wL (W H : Nat) (num : Nat → Int32) : Nat → List Wy
  | 0 => []
  | c + 1 => wL W H num c ++ wAt W H num c
def gw (l : List Wy) (k : Nat) : Wy := l.getD k (0, 0, 0)
theorem oL_len (o : Option Nat) (c s : Nat) : (oL o c s).length ≤ 1 := by
  cases o <;> simp [oL]
theorem wAt_len (W H : Nat) (num : Nat → Int32) (c : Nat) : (wAt W H num c).length ≤ 2 * (if 0 < num c then 1 else 0) := by
  unfold wAt
  by_cases h : 0 < num c
  · rw [if_pos h, if_pos h, List.length_append]
    have h1 := oL_len (nx num 1 (W - 1 - c % W) c) c 1
    have h2 := oL_len (nx num W (H - 1 - c / W) c) c W
    omega
  · rw [if_neg h, if_neg h]; exact Nat.le_refl _
theorem wL_len (W H : Nat) (num : Nat → Int32) (m : Nat) : (wL W H num m).length ≤ 2 * rk num m := by
  induction m with
  | zero => exact Nat.le_refl _
  | succ m ih =>
    show (wL W H num m ++ wAt W H num m).length ≤ 2 * (rk num m + _)
    rw [List.length_append]
    have := wAt_len W H num m
    omega
theorem gw_l {l r : List Wy} {k : Nat} (h : k < l.length) : gw (l ++ r) k = gw l k := by
  unfold gw
  rw [List.getD_eq_getElem?_getD, List.getD_eq_getElem?_getD, List.getElem?_append_left h]
theorem gw_e (l : List Wy) (x : Wy) : gw (l ++ [x]) l.length = x := by
  unfold gw
  rw [List.getD_eq_getElem?_getD, List.getElem?_append_right (Nat.le_refl _)]
  simp
theorem gw_mem {l : List Wy} {k : Nat} (h : k < l.length) : gw l k ∈ l := by
  unfold gw
  rw [List.getD_eq_getElem?_getD, List.getElem?_eq_getElem h]
  exact List.getElem_mem h
/-- what a way is: two islands on a line, none between -/
def isW (W H : Nat) (num : Nat → Int32) (x : Wy) : Prop := x.1 < x.2.1 ∧ x.2.1 < W * H ∧ 0 < num x.1 ∧ 0 < num x.2.1 ∧ ((x.2.2 = 1 ∧ x.1 / W = x.2.1 / W ∧ (∀ c, x.1 < c → c < x.2.1 → ¬ 0 < num c)) ∨ (x.2.2 = W ∧ x.1 % W = x.2.1 % W ∧ (∀ c, x.1 < c → c < x.2.1 → c % W = x.1 % W → ¬ 0 < num c)))
theorem wL_mem {W H : Nat} {num : Nat → Int32} {x : Wy} : ∀ {m : Nat}, x ∈ wL W H num m → ∃ c, c < m ∧ x ∈ wAt W H num c := by
  intro m
  induction m with
  | zero => intro h; cases h
  | succ m ih =>
    intro h
    have h : x ∈ wL W H num m ++ wAt W H num m := h
    rcases List.mem_append.mp h with h | h
    · obtain ⟨c, h1, h2⟩ := ih h
      exact ⟨c, by omega, h2⟩
    · exact ⟨m, by omega, h⟩
theorem wAt_mem {W H : Nat} {num : Nat → Int32} {x : Wy} {c : Nat} (h : x ∈ wAt W H num c) : 0 < num c ∧ ((∃ d, nx num 1 (W - 1 - c % W) c = some d ∧ x = (c, d, 1)) ∨ (∃ d, nx num W (H - 1 - c / W) c = some d ∧ x = (c, d, W))) := by
  unfold wAt at h
  by_cases hp : 0 < num c
  · rw [if_pos hp] at h
    refine ⟨hp, ?_⟩
    rcases List.mem_append.mp h with h | h
    · cases e : nx num 1 (W - 1 - c % W) c with
      | none => rw [e] at h; cases h
      | some d => rw [e] at h; exact Or.inl ⟨d, rfl, by simpa [oL] using h⟩
    · cases e : nx num W (H - 1 - c / W) c with
      | none => rw [e] at h; cases h
      | some d => rw [e] at h; exact Or.inr ⟨d, rfl, by simpa [oL] using h⟩
  · rw [if_neg hp] at h; cases h
theorem row_in {W H c k : Nat} (hW : 0 < W) (hc : c < W * H) (hk : k ≤ W - 1 - c % W) : (c + k) / W = c / W ∧ c + k < W * H ∧ (c + k) % W = c % W + k := by
  have h1 := Nat.div_add_mod c W
  have h2 := Nat.mod_lt c hW
  have h8 : c % W + k < W := by
    generalize c % W = r at *
    omega
  have h3 : c + k = W * (c / W) + (c % W + k) := by omega
  have h4 : (c + k) / W = c / W := by
    rw [h3, Nat.mul_add_div hW, Nat.div_eq_of_lt h8, Nat.add_zero]
  have h5 : (c + k) % W = c % W + k := by
    rw [h3, Nat.mul_add_mod, Nat.mod_eq_of_lt h8]
  refine ⟨h4, ?_, h5⟩
  have h6 : c / W < H := Nat.div_lt_of_lt_mul hc
  have h7 : W * (c / W + 1) ≤ W * H := Nat.mul_le_mul_left W h6
  rw [Nat.mul_add] at h7
  omega
theorem col_in {W H c k : Nat} (hW : 0 < W) (hc : c < W * H) (hk : k ≤ H - 1 - c / W) : (c + k * W) % W = c % W ∧ c + k * W < W * H ∧ (c + k * W) / W = c / W + k := by
  have h6 : c / W < H := Nat.div_lt_of_lt_mul hc
  have h1 := Nat.div_add_mod c W
  have h2 := Nat.mod_lt c hW
  refine ⟨Nat.add_mul_mod_self_right c k W, ?_, Nat.add_mul_div_right c k hW⟩
  have h7 : W * (c / W + k + 1) ≤ W * H := Nat.mul_le_mul_left W (by omega)
  rw [Nat.mul_add, Nat.mul_add, Nat.mul_comm W k] at h7
  omega
theorem wAt_isW {W H : Nat} {num : Nat → Int32} {x : Wy} {c : Nat} (hW : 0 < W) (hc : c < W * H) (h : x ∈ wAt W H num c) : isW W H num x ∧ x.1 = c := by
  obtain ⟨hp, ⟨d, hd, rfl⟩ | ⟨d, hd, rfl⟩⟩ := wAt_mem h
  · obtain ⟨k, h1, h2, h3, h4, h5⟩ := nx_some hd
    rw [Nat.mul_one] at h3
    obtain ⟨r1, r2, r3⟩ := row_in hW hc h2
    subst h3
    refine ⟨⟨by show c < c + k; omega, r2, hp, h4, Or.inl ⟨rfl, r1.symm, fun e g1 g2 => ?_⟩⟩, rfl⟩
    have g1 : c < e := g1
    have g2 : e < c + k := g2
    have := h5 (e - c) (by omega) (by omega)
    rw [show c + (e - c) * 1 = e by omega] at this
    exact this
  · obtain ⟨k, h1, h2, h3, h4, h5⟩ := nx_some hd
    obtain ⟨r1, r2, r3⟩ := col_in hW hc h2
    subst h3
    have hkW : 0 < k * W := Nat.mul_pos (by omega) hW
    refine ⟨⟨by show c < c + k * W; omega, r2, hp, h4, Or.inr ⟨rfl, r1.symm, fun e g1 g2 g3 => ?_⟩⟩, rfl⟩
    have g1 : c < e := g1
    have g2 : e < c + k * W := g2
    have g3 : e % W = c % W := g3
    have a1 := Nat.div_add_mod e W
    have a2 := Nat.div_add_mod c W
    have a3 : c / W < e / W := by
      rcases Nat.lt_or_ge (c / W) (e / W) with q | q
      · exact q
      · have := Nat.mul_le_mul_left W q; omega
    have a4 : e / W < c / W + k := by
      rcases Nat.lt_or_ge (e / W) (c / W + k) with q | q
      · exact q
      · have := Nat.mul_le_mul_left W q
        rw [Nat.mul_add, Nat.mul_comm W k] at this
        omega
    have := h5 (e / W - c / W) (by omega) (by omega)
    rw [show c + (e / W - c / W) * W = e by
      have z := Nat.mul_le_mul_left W (Nat.le_of_lt a3)
      rw [Nat.mul_comm, Nat.mul_sub]; omega] at this
    exact this
theorem wL_isW {W H : Nat} {num : Nat → Int32} {x : Wy} {m : Nat} (hW : 0 < W) (hm : m ≤ W * H) (h : x ∈ wL W H num m) : isW W H num x ∧ x.1 < m := by
  obtain ⟨c, h1, h2⟩ := wL_mem h
  obtain ⟨g1, g2⟩ := wAt_isW hW (by omega) h2
  exact ⟨g1, by omega⟩
/-- the ways of a board -/
abbrev WL (W H : Nat) (num : Nat → Int32) : List Wy := wL W H num (W * H)
theorem nx_congr {num nm : Nat → Int32} {s : Nat} : ∀ {n c : Nat}, (∀ j, 1 ≤ j → j ≤ n → num (c + j * s) = nm (c + j * s)) → nx num s n c = nx nm s n c := by
  intro n
  induction n with
  | zero => intro c _; rfl
  | succ n ih =>
    intro c h
    have h1 := h 1 (by omega) (by omega)
    rw [Nat.one_mul] at h1
    show (if 0 < num (c + s) then some (c + s) else nx num s n (c + s)) = (if 0 < nm (c + s) then some (c + s) else nx nm s n (c + s))
    rw [h1, ih (c := c + s) (fun j g1 g2 => by
      have := h (j + 1) (by omega) (by omega)
      rw [show c + (j + 1) * s = c + s + j * s by rw [Nat.add_mul]; omega] at this
      exact this)]
theorem wL_congr {W H : Nat} {num nm : Nat → Int32} (hW : 0 < W) (h : ∀ c, c < W * H → num c = nm c) : ∀ {m : Nat}, m ≤ W * H → wL W H num m = wL W H nm m := by
  intro m
  induction m with
  | zero => intro _; rfl
  | succ m ih =>
    intro hm
    show wL W H num m ++ wAt W H num m = wL W H nm m ++ wAt W H nm m
    rw [ih (by omega)]
    unfold wAt
    rw [h m (by omega), nx_congr (num := num) (nm := nm) (s := 1) (n := W - 1 - m % W) (c := m) (fun j g1 g2 => by
      have := row_in (W := W) (H := H) hW (show m < W * H by omega) g2
      rw [Nat.mul_one]; exact h _ this.2.1), nx_congr (num := num) (nm := nm) (s := W) (n := H - 1 - m / W) (c := m) (fun j g1 g2 => h _ (col_in (W := W) (H := H) hW (show m < W * H by omega) g2).2.1)]
