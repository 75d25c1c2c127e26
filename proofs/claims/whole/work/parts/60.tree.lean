/-! the tree of the solutions -/
def up (a : Nat → Nat) (k v : Nat) : Nat → Nat := fun i => if i = k then v else a i
theorem up_s {a : Nat → Nat} {k v : Nat} : up a k v k = v := if_pos rfl
theorem up_n {a : Nat → Nat} {k v i : Nat} (h : i ≠ k) : up a k v i = a i := if_neg h
theorem up_up {a : Nat → Nat} {k u v : Nat} : up (up a k u) k v = up a k v := by
  funext i
  unfold up
  split <;> rfl
theorem up_id {a : Nat → Nat} {k : Nat} : up a k (a k) = a := by
  funext i
  unfold up
  split
  · rename_i h; rw [h]
  · rfl
/-- zero from k on, and at most 2 -/
def lowA (k : Nat) (a : Nat → Nat) : Prop := (∀ i, k ≤ i → a i = 0) ∧ ∀ i, a i ≤ 2
theorem lowA.up {k v : Nat} {a : Nat → Nat} (h : lowA k a) (hv : v ≤ 2) : lowA (k + 1) (up a k v) := by
  refine ⟨fun i hi => ?_, fun i => ?_⟩
  · rw [up_n (by omega)]; exact h.1 i (by omega)
  · by_cases e : i = k
    · rw [e, up_s]; exact hv
    · rw [up_n e]; exact h.2 i
theorem lowA_0 : lowA 0 (fun _ => 0) := ⟨fun _ _ => rfl, fun _ => Nat.zero_le _⟩
noncomputable def Lv (P : (Nat → Nat) → Nat → Prop) (Q : (Nat → Nat) → Prop) (ok : Nat → Nat → Prop) : Nat → Nat → (Nat → Nat) → List (Nat → Nat)
  | 0, _, a => @ite (List (Nat → Nat)) (Q a) (Classical.propDecidable _) [a] []
  | m + 1, k, a => (@ite (List (Nat → Nat)) (ok k 0 ∧ P (up a k 0) k) (Classical.propDecidable _) (Lv P Q ok m (k + 1) (up a k 0)) []) ++ ((@ite (List (Nat → Nat)) (ok k 1 ∧ P (up a k 1) k) (Classical.propDecidable _) (Lv P Q ok m (k + 1) (up a k 1)) []) ++ ((@ite (List (Nat → Nat)) (ok k 2 ∧ P (up a k 2) k) (Classical.propDecidable _) (Lv P Q ok m (k + 1) (up a k 2)) []) ++ []))
noncomputable def Lc (P : (Nat → Nat) → Nat → Prop) (Q : (Nat → Nat) → Prop) (ok : Nat → Nat → Prop) (m k : Nat) (a : Nat → Nat) (v : Nat) : List (Nat → Nat) := @ite (List (Nat → Nat)) (ok k v ∧ P (up a k v) k) (Classical.propDecidable _) (Lv P Q ok m (k + 1) (up a k v)) []
noncomputable def Lr (P : (Nat → Nat) → Nat → Prop) (Q : (Nat → Nat) → Prop) (ok : Nat → Nat → Prop) (m k : Nat) (a : Nat → Nat) : Nat → List (Nat → Nat)
  | 0 => Lc P Q ok m k a 0 ++ (Lc P Q ok m k a 1 ++ (Lc P Q ok m k a 2 ++ []))
  | 1 => Lc P Q ok m k a 1 ++ (Lc P Q ok m k a 2 ++ [])
  | 2 => Lc P Q ok m k a 2 ++ []
  | _ => []
section
variable {P : (Nat → Nat) → Nat → Prop} {Q : (Nat → Nat) → Prop} {ok : Nat → Nat → Prop}
theorem Lv_s {m k : Nat} {a : Nat → Nat} : Lv P Q ok (m + 1) k a = Lr P Q ok m k a 0 := rfl
theorem Lr_s {m k v : Nat} {a : Nat → Nat} (h : v < 3) : Lr P Q ok m k a v = Lc P Q ok m k a v ++ Lr P Q ok m k a (v + 1) := by
  have : v = 0 ∨ v = 1 ∨ v = 2 := by omega
  rcases this with rfl | rfl | rfl <;> rfl
theorem Lr_3 {m k : Nat} {a : Nat → Nat} : Lr P Q ok m k a 3 = [] := rfl
theorem Lc_t {m k v : Nat} {a : Nat → Nat} (h : ok k v) (h2 : P (up a k v) k) : Lc P Q ok m k a v = Lv P Q ok m (k + 1) (up a k v) := if_pos ⟨h, h2⟩
theorem Lc_f {m k v : Nat} {a : Nat → Nat} (h : ¬ (ok k v ∧ P (up a k v) k)) : Lc P Q ok m k a v = [] := if_neg h
theorem Lc_up {m k u v : Nat} {a : Nat → Nat} : Lc P Q ok m k (up a k u) v = Lc P Q ok m k a v := by
  unfold Lc
  rw [up_up]
theorem Lv_0t {k : Nat} {a : Nat → Nat} (h : Q a) : Lv P Q ok 0 k a = [a] := if_pos h
theorem Lv_0f {k : Nat} {a : Nat → Nat} (h : ¬ Q a) : Lv P Q ok 0 k a = [] := if_neg h
theorem mem_Lr {b : Nat → Nat} {m k : Nat} {a : Nat → Nat} : b ∈ Lr P Q ok m k a 0 ↔ ∃ v, v < 3 ∧ ok k v ∧ P (up a k v) k ∧ b ∈ Lv P Q ok m (k + 1) (up a k v) := by
  have hc : ∀ v, b ∈ Lc P Q ok m k a v ↔ ok k v ∧ P (up a k v) k ∧ b ∈ Lv P Q ok m (k + 1) (up a k v) := fun v => by
    by_cases h : ok k v ∧ P (up a k v) k
    · rw [Lc_t h.1 h.2]
      exact ⟨fun z => ⟨h.1, h.2, z⟩, fun z => z.2.2⟩
    · rw [Lc_f h]
      exact ⟨fun z => absurd z List.not_mem_nil, fun z => absurd ⟨z.1, z.2.1⟩ h⟩
  show b ∈ Lc P Q ok m k a 0 ++ (Lc P Q ok m k a 1 ++ (Lc P Q ok m k a 2 ++ [])) ↔ _
  rw [List.mem_append, List.mem_append, List.append_nil, hc, hc, hc]
  constructor
  · rintro (z | z | z)
    · exact ⟨0, by omega, z⟩
    · exact ⟨1, by omega, z⟩
    · exact ⟨2, by omega, z⟩
  · rintro ⟨v, hv, z⟩
    have : v = 0 ∨ v = 1 ∨ v = 2 := by omega
    rcases this with rfl | rfl | rfl
    · exact Or.inl z
    · exact Or.inr (Or.inl z)
    · exact Or.inr (Or.inr z)
/-- what a leaf is -/
theorem mem_Lv {b : Nat → Nat} : ∀ {m k : Nat} {a : Nat → Nat}, lowA k a → b ∈ Lv P Q ok m k a → Q b ∧ lowA (k + m) b ∧ (∀ i, i < k → b i = a i) ∧ ∀ j, k ≤ j → j < k + m → ∃ b', lowA (j + 1) b' ∧ P b' j ∧ ∀ i, i ≤ j → b' i = b i := by
  intro m
  induction m with
  | zero =>
    intro k a ha h
    by_cases hq : Q a
    · rw [Lv_0t hq, List.mem_singleton] at h
      subst h
      exact ⟨hq, ha, fun _ _ => rfl, fun j h1 h2 => by omega⟩
    · rw [Lv_0f hq] at h
      exact absurd h List.not_mem_nil
  | succ m ih =>
    intro k a ha h
    rw [Lv_s, mem_Lr] at h
    obtain ⟨v, hv, -, h2, h3⟩ := h
    obtain ⟨i1, i2, i3, i4⟩ := ih (ha.up (show v ≤ 2 by omega)) h3
    refine ⟨i1, by rw [show k + (m + 1) = k + 1 + m by omega]; exact i2, fun i hi => by rw [i3 i (by omega), up_n (by omega)], fun j h5 h6 => ?_⟩
    by_cases e : j = k
    · subst e
      exact ⟨_, ha.up (by omega), h2, fun i hi => (i3 i (by omega)).symm⟩
    · exact i4 j (by omega) (by omega)
theorem len_Lv : ∀ {m k : Nat} {a : Nat → Nat}, (Lv P Q ok m k a).length ≤ 3 ^ m := by
  intro m
  induction m with
  | zero =>
    intro k a
    by_cases hq : Q a
    · rw [Lv_0t hq]; exact Nat.le_refl _
    · rw [Lv_0f hq]; exact Nat.zero_le _
  | succ m ih =>
    intro k a
    have hc : ∀ v, (Lc P Q ok m k a v).length ≤ 3 ^ m := fun v => by
      by_cases h : ok k v ∧ P (up a k v) k
      · rw [Lc_t h.1 h.2]; exact ih
      · rw [Lc_f h]; exact Nat.zero_le _
    rw [Lv_s]
    show (Lc P Q ok m k a 0 ++ (Lc P Q ok m k a 1 ++ (Lc P Q ok m k a 2 ++ []))).length ≤ _
    rw [List.length_append, List.length_append, List.length_append, List.length_nil, Nat.pow_succ]
    have := hc 0
    have := hc 1
    have := hc 2
    omega
end
/-- leaves with the value x on the way w -/
theorem Lv_fix {P : (Nat → Nat) → Nat → Prop} {Q : (Nat → Nat) → Prop} {w x : Nat} {b : Nat → Nat} : ∀ {m k : Nat} {a : Nat → Nat}, lowA k a → (k ≤ w → w < k + m → (b ∈ Lv P Q (fun i v => i = w → v = x) m k a ↔ b ∈ Lv P Q (fun _ _ => True) m k a ∧ b w = x)) ∧ (w < k → (b ∈ Lv P Q (fun i v => i = w → v = x) m k a ↔ b ∈ Lv P Q (fun _ _ => True) m k a)) := by
  intro m
  induction m with
  | zero =>
    intro k a ha
    exact ⟨fun h1 h2 => by omega, fun _ => Iff.rfl⟩
  | succ m ih =>
    intro k a ha
    refine ⟨fun h1 h2 => ?_, fun h1 => ?_⟩
    · rw [Lv_s, Lv_s, mem_Lr, mem_Lr]
      by_cases e : k = w
      · subst e
        constructor
        · rintro ⟨v, hv, h3, h4, h5⟩
          have h6 := ((ih (ha.up (show v ≤ 2 by omega))).2 (by omega)).mp h5
          refine ⟨⟨v, hv, trivial, h4, h6⟩, ?_⟩
          rw [(mem_Lv (ha.up (show v ≤ 2 by omega)) h6).2.2.1 k (by omega), up_s]
          exact h3 rfl
        · rintro ⟨⟨v, hv, h3, h4, h5⟩, h6⟩
          rw [(mem_Lv (ha.up (show v ≤ 2 by omega)) h5).2.2.1 k (by omega), up_s] at h6
          exact ⟨v, hv, fun _ => h6, h4, ((ih (ha.up (show v ≤ 2 by omega))).2 (by omega)).mpr h5⟩
      · constructor
        · rintro ⟨v, hv, h3, h4, h5⟩
          have h6 := ((ih (ha.up (show v ≤ 2 by omega))).1 (by omega) (by omega)).mp h5
          exact ⟨⟨v, hv, trivial, h4, h6.1⟩, h6.2⟩
        · rintro ⟨⟨v, hv, h3, h4, h5⟩, h6⟩
          exact ⟨v, hv, fun z => absurd z e, h4, ((ih (ha.up (show v ≤ 2 by omega))).1 (by omega) (by omega)).mpr ⟨h5, h6⟩⟩
    · rw [Lv_s, Lv_s, mem_Lr, mem_Lr]
      constructor
      · rintro ⟨v, hv, h3, h4, h5⟩
        exact ⟨v, hv, trivial, h4, ((ih (ha.up (show v ≤ 2 by omega))).2 (by omega)).mp h5⟩
      · rintro ⟨v, hv, h3, h4, h5⟩
        exact ⟨v, hv, fun z => by omega, h4, ((ih (ha.up (show v ≤ 2 by omega))).2 (by omega)).mpr h5⟩
/-! when a value of a way can be, and when a leaf is a solution -/
def ic (l : List Wy) (c k : Nat) : Nat := nS (fun i => if k ≤ i ∧ ((gw l i).1 = c ∨ (gw l i).2.1 = c) then 1 else 0) l.length
def fit (num : Nat → Int32) (l : List Wy) (a : Nat → Nat) (c k : Nat) : Prop := sN l a c ≤ vN num c ∧ vN num c ≤ sN l a c + 2 * ic l c (k + 1)
def al (W : Nat) (num : Nat → Int32) (l : List Wy) (a : Nat → Nat) (k : Nat) : Prop := (0 < a k → ∀ i, i < k → crs W (gw l k) (gw l i) = true → a i = 0) ∧ fit num l a (gw l k).1 k ∧ fit num l a (gw l k).2.1 k
def toI (a : Nat → Nat) (i : Nat) : Int32 := nI (a i)
def whl2 (W H : Nat) (num : Nat → Int32) (a : Nat → Nat) : Prop := (∀ c, c < W * H → 0 < num c → 0 < ic (WL W H num) c 0) ∧ grp W H num (toI a) 1
theorem ic_le {l : List Wy} {c k : Nat} : ic l c k ≤ l.length := by
  unfold ic
  refine Nat.le_trans (nS_le (B := 1) fun i hi => ?_) (by omega)
  split <;> omega
theorem ic_s {l : List Wy} {c k : Nat} (hk : k < l.length) : ic l c k = ic l c (k + 1) + (if (gw l k).1 = c ∨ (gw l k).2.1 = c then 1 else 0) := by
  unfold ic
  have : ∀ n, nS (fun i => if k ≤ i ∧ ((gw l i).1 = c ∨ (gw l i).2.1 = c) then 1 else 0) n = nS (fun i => if k + 1 ≤ i ∧ ((gw l i).1 = c ∨ (gw l i).2.1 = c) then 1 else 0) n + (if k < n then (if (gw l k).1 = c ∨ (gw l k).2.1 = c then 1 else 0) else 0) := by
    intro n
    induction n with
    | zero => rw [if_neg (Nat.not_lt_zero _)]; rfl
    | succ n ih =>
      show nS _ n + (if k ≤ n ∧ _ then 1 else 0) = nS _ n + (if k + 1 ≤ n ∧ _ then 1 else 0) + _
      rw [ih]
      by_cases e : n = k
      · subst e
        rw [if_neg (Nat.lt_irrefl _), if_pos (Nat.lt_succ_self _), if_neg (show ¬ (n + 1 ≤ n ∧ ((gw l n).1 = c ∨ (gw l n).2.1 = c)) from fun z => absurd z.1 (by omega))]
        rw [ite_iff (show (n ≤ n ∧ ((gw l n).1 = c ∨ (gw l n).2.1 = c)) ↔ ((gw l n).1 = c ∨ (gw l n).2.1 = c) from ⟨fun z => z.2, fun z => ⟨Nat.le_refl _, z⟩⟩)]
      · rw [ite_iff (show (k ≤ n ∧ ((gw l n).1 = c ∨ (gw l n).2.1 = c)) ↔ (k + 1 ≤ n ∧ ((gw l n).1 = c ∨ (gw l n).2.1 = c)) from ⟨fun z => ⟨by omega, z.2⟩, fun z => ⟨by omega, z.2⟩⟩), ite_iff (show k < n ↔ k < n + 1 by omega)]
        omega
  rw [this, if_pos hk]
theorem ic_pos {l : List Wy} {c k : Nat} (h : 0 < ic l c k) : ∃ i, k ≤ i ∧ i < l.length ∧ ((gw l i).1 = c ∨ (gw l i).2.1 = c) := by
  refine Classical.byContradiction fun hn => ?_
  have : ∀ n, n ≤ l.length → nS (fun i => if k ≤ i ∧ ((gw l i).1 = c ∨ (gw l i).2.1 = c) then 1 else 0) n = 0 := by
    intro n
    induction n with
    | zero => intro _; rfl
    | succ n ih =>
      intro hl
      show nS _ n + (if k ≤ n ∧ _ then 1 else 0) = 0
      rw [ih (by omega), if_neg (fun z => hn ⟨n, z.1, by omega, z.2⟩)]
  unfold ic at h
  rw [this _ (Nat.le_refl _)] at h
  omega
/-- a way's ends can't hold more than 2 a way -/
theorem fit_most {num : Nat → Int32} {l : List Wy} {a : Nat → Nat} {c k : Nat} (ha : lowA (k + 1) a) (h : fit num l a c k) : vN num c ≤ 2 * ic l c 0 := by
  have h2 := h.2
  have : sN l a c + 2 * ic l c (k + 1) ≤ 2 * ic l c 0 := by
    unfold sN ic
    have : ∀ n, nS (fun i => if (gw l i).1 = c ∨ (gw l i).2.1 = c then a i else 0) n + 2 * nS (fun i => if k + 1 ≤ i ∧ ((gw l i).1 = c ∨ (gw l i).2.1 = c) then 1 else 0) n ≤ 2 * nS (fun i => if 0 ≤ i ∧ ((gw l i).1 = c ∨ (gw l i).2.1 = c) then 1 else 0) n := by
      intro n
      induction n with
      | zero => exact Nat.le_refl _
      | succ n ih =>
        show nS _ n + (if (gw l n).1 = c ∨ (gw l n).2.1 = c then a n else 0) + 2 * (nS _ n + (if k + 1 ≤ n ∧ ((gw l n).1 = c ∨ (gw l n).2.1 = c) then 1 else 0)) ≤ 2 * (nS _ n + (if 0 ≤ n ∧ ((gw l n).1 = c ∨ (gw l n).2.1 = c) then 1 else 0))
        by_cases h : (gw l n).1 = c ∨ (gw l n).2.1 = c
        · rw [if_pos h, if_pos (show 0 ≤ n ∧ _ from ⟨Nat.zero_le _, h⟩)]
          by_cases h3 : k + 1 ≤ n
          · rw [if_pos ⟨h3, h⟩, ha.1 n h3]; omega
          · rw [if_neg (fun z => h3 z.1)]; have := ha.2 n; omega
        · rw [if_neg h, if_neg (fun z => h z.2), if_neg (fun z => h z.2)]; omega
    exact this _
  omega
/-- where an island can't be complete, there is no solution -/
theorem no_leaf {W H : Nat} {num : Nat → Int32} {ok : Nat → Nat → Prop} {c : Nat} (hc : c < W * H) (hp : 0 < num c) (h : 2 * ic (WL W H num) c 0 < vN num c) : Lv (al W num (WL W H num)) (whl2 W H num) ok (WL W H num).length 0 (fun _ => 0) = [] := by
  refine List.eq_nil_iff_forall_not_mem.mpr fun b hb => ?_
  obtain ⟨h1, h2, h3, h4⟩ := mem_Lv lowA_0 hb
  obtain ⟨i, -, i2, i3⟩ := ic_pos (h1.1 c hc hp)
  obtain ⟨b', b1, b2, b3⟩ := h4 i (by omega) (by omega)
  have hf : fit num (WL W H num) b' c i := by
    rcases i3 with i3 | i3
    · rw [← i3]; exact b2.2.1
    · rw [← i3]; exact b2.2.2
  have := fit_most b1 hf
  omega
