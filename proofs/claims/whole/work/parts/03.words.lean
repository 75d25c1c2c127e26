/-! the mirror's words: a name for a value, a call, a read and a write in range, a loop with fuel; and their ways back -/
def lt1 {A Z : Type} (o : A) (k : A → Z) : Z := k o
theorem lt1_inv {A Z : Type} {o : A} {k : A → Z} {r : Z} (h : lt1 o k = r) : ∃ (v0 : A), o = v0 ∧ k v0 = r := ⟨o, rfl, h⟩
def bd1 {A Z : Type} (o : Option (A)) (k : A → Option Z) : Option Z := match o with
  | none => none
  | some v0 => k v0
theorem bd1_inv {A Z : Type} {o : Option (A)} {k : A → Option Z} {r : Z} (h : bd1 o k = some r) : ∃ (v0 : A), o = some v0 ∧ k v0 = some r := by
  cases o with
  | none => cases h
  | some o => exact ⟨o, rfl, h⟩
theorem bd1_some {A Z : Type} (v0 : _) (k : A → Option Z) : bd1 (some v0) k = k v0 := rfl
def lp1 {A Z : Type} (b : (A → Option Z) → A → Option Z) : Nat → A → Option Z
  | 0 => fun _ => none
  | n + 1 => b (lp1 b n)
theorem lp1_s {A Z : Type} (b : (A → Option Z) → A → Option Z) (n : Nat) (v0 : A) : lp1 b (n + 1) v0 = b (lp1 b n) v0 := rfl
theorem lp1_ind {A Z : Type} {b : (A → Option Z) → A → Option Z} {r : Z} {P : A → Prop} (hs : ∀ rec : A → Option Z, (∀ v0, rec v0 = some r → P v0) → ∀ v0, b rec v0 = some r → P v0) : ∀ (n : Nat) v0, lp1 b n v0 = some r → P v0 := by
  intro n
  induction n with
  | zero => intro v0 h; cases h
  | succ n ih => exact hs _ ih
def lt2 {A B Z : Type} (o : A × B) (k : A → B → Z) : Z := k o.1 o.2
theorem lt2_inv {A B Z : Type} {o : A × B} {k : A → B → Z} {r : Z} (h : lt2 o k = r) : ∃ (v0 : A) (v1 : B), o = (v0, v1) ∧ k v0 v1 = r := ⟨o.1, o.2, rfl, h⟩
def bd2 {A B Z : Type} (o : Option (A × B)) (k : A → B → Option Z) : Option Z := match o with
  | none => none
  | some (v0, v1) => k v0 v1
theorem bd2_inv {A B Z : Type} {o : Option (A × B)} {k : A → B → Option Z} {r : Z} (h : bd2 o k = some r) : ∃ (v0 : A) (v1 : B), o = some (v0, v1) ∧ k v0 v1 = some r := by
  cases o with
  | none => cases h
  | some o => exact ⟨o.1, o.2, rfl, h⟩
theorem bd2_some {A B Z : Type} (v0 : A) (v1 : B) (k : A → B → Option Z) : bd2 (some (v0, v1)) k = k v0 v1 := rfl
def lp2 {A B Z : Type} (b : (A → B → Option Z) → A → B → Option Z) : Nat → A → B → Option Z
  | 0 => fun _ _ => none
  | n + 1 => b (lp2 b n)
theorem lp2_s {A B Z : Type} (b : (A → B → Option Z) → A → B → Option Z) (n : Nat) (v0 : A) (v1 : B) : lp2 b (n + 1) v0 v1 = b (lp2 b n) v0 v1 := rfl
theorem lp2_ind {A B Z : Type} {b : (A → B → Option Z) → A → B → Option Z} {r : Z} {P : A → B → Prop} (hs : ∀ rec : A → B → Option Z, (∀ v0 v1, rec v0 v1 = some r → P v0 v1) → ∀ v0 v1, b rec v0 v1 = some r → P v0 v1) : ∀ (n : Nat) v0 v1, lp2 b n v0 v1 = some r → P v0 v1 := by
  intro n
  induction n with
  | zero => intro v0 v1 h; cases h
  | succ n ih => exact hs _ ih
def lt3 {A B C Z : Type} (o : A × B × C) (k : A → B → C → Z) : Z := k o.1 o.2.1 o.2.2
theorem lt3_inv {A B C Z : Type} {o : A × B × C} {k : A → B → C → Z} {r : Z} (h : lt3 o k = r) : ∃ (v0 : A) (v1 : B) (v2 : C), o = (v0, v1, v2) ∧ k v0 v1 v2 = r := ⟨o.1, o.2.1, o.2.2, rfl, h⟩
def bd3 {A B C Z : Type} (o : Option (A × B × C)) (k : A → B → C → Option Z) : Option Z := match o with
  | none => none
  | some (v0, v1, v2) => k v0 v1 v2
theorem bd3_inv {A B C Z : Type} {o : Option (A × B × C)} {k : A → B → C → Option Z} {r : Z} (h : bd3 o k = some r) : ∃ (v0 : A) (v1 : B) (v2 : C), o = some (v0, v1, v2) ∧ k v0 v1 v2 = some r := by
  cases o with
  | none => cases h
  | some o => exact ⟨o.1, o.2.1, o.2.2, rfl, h⟩
theorem bd3_some {A B C Z : Type} (v0 : A) (v1 : B) (v2 : C) (k : A → B → C → Option Z) : bd3 (some (v0, v1, v2)) k = k v0 v1 v2 := rfl
def lp3 {A B C Z : Type} (b : (A → B → C → Option Z) → A → B → C → Option Z) : Nat → A → B → C → Option Z
  | 0 => fun _ _ _ => none
  | n + 1 => b (lp3 b n)
theorem lp3_s {A B C Z : Type} (b : (A → B → C → Option Z) → A → B → C → Option Z) (n : Nat) (v0 : A) (v1 : B) (v2 : C) : lp3 b (n + 1) v0 v1 v2 = b (lp3 b n) v0 v1 v2 := rfl
theorem lp3_ind {A B C Z : Type} {b : (A → B → C → Option Z) → A → B → C → Option Z} {r : Z} {P : A → B → C → Prop} (hs : ∀ rec : A → B → C → Option Z, (∀ v0 v1 v2, rec v0 v1 v2 = some r → P v0 v1 v2) → ∀ v0 v1 v2, b rec v0 v1 v2 = some r → P v0 v1 v2) : ∀ (n : Nat) v0 v1 v2, lp3 b n v0 v1 v2 = some r → P v0 v1 v2 := by
  intro n
  induction n with
  | zero => intro v0 v1 v2 h; cases h
  | succ n ih => exact hs _ ih
def lt4 {A B C D Z : Type} (o : A × B × C × D) (k : A → B → C → D → Z) : Z := k o.1 o.2.1 o.2.2.1 o.2.2.2
theorem lt4_inv {A B C D Z : Type} {o : A × B × C × D} {k : A → B → C → D → Z} {r : Z} (h : lt4 o k = r) : ∃ (v0 : A) (v1 : B) (v2 : C) (v3 : D), o = (v0, v1, v2, v3) ∧ k v0 v1 v2 v3 = r := ⟨o.1, o.2.1, o.2.2.1, o.2.2.2, rfl, h⟩
def bd4 {A B C D Z : Type} (o : Option (A × B × C × D)) (k : A → B → C → D → Option Z) : Option Z := match o with
  | none => none
  | some (v0, v1, v2, v3) => k v0 v1 v2 v3
theorem bd4_inv {A B C D Z : Type} {o : Option (A × B × C × D)} {k : A → B → C → D → Option Z} {r : Z} (h : bd4 o k = some r) : ∃ (v0 : A) (v1 : B) (v2 : C) (v3 : D), o = some (v0, v1, v2, v3) ∧ k v0 v1 v2 v3 = some r := by
  cases o with
  | none => cases h
  | some o => exact ⟨o.1, o.2.1, o.2.2.1, o.2.2.2, rfl, h⟩
theorem bd4_some {A B C D Z : Type} (v0 : A) (v1 : B) (v2 : C) (v3 : D) (k : A → B → C → D → Option Z) : bd4 (some (v0, v1, v2, v3)) k = k v0 v1 v2 v3 := rfl
def lp4 {A B C D Z : Type} (b : (A → B → C → D → Option Z) → A → B → C → D → Option Z) : Nat → A → B → C → D → Option Z
  | 0 => fun _ _ _ _ => none
  | n + 1 => b (lp4 b n)
theorem lp4_s {A B C D Z : Type} (b : (A → B → C → D → Option Z) → A → B → C → D → Option Z) (n : Nat) (v0 : A) (v1 : B) (v2 : C) (v3 : D) : lp4 b (n + 1) v0 v1 v2 v3 = b (lp4 b n) v0 v1 v2 v3 := rfl
theorem lp4_ind {A B C D Z : Type} {b : (A → B → C → D → Option Z) → A → B → C → D → Option Z} {r : Z} {P : A → B → C → D → Prop} (hs : ∀ rec : A → B → C → D → Option Z, (∀ v0 v1 v2 v3, rec v0 v1 v2 v3 = some r → P v0 v1 v2 v3) → ∀ v0 v1 v2 v3, b rec v0 v1 v2 v3 = some r → P v0 v1 v2 v3) : ∀ (n : Nat) v0 v1 v2 v3, lp4 b n v0 v1 v2 v3 = some r → P v0 v1 v2 v3 := by
  intro n
  induction n with
  | zero => intro v0 v1 v2 v3 h; cases h
  | succ n ih => exact hs _ ih
def lt5 {A B C D E Z : Type} (o : A × B × C × D × E) (k : A → B → C → D → E → Z) : Z := k o.1 o.2.1 o.2.2.1 o.2.2.2.1 o.2.2.2.2
theorem lt5_inv {A B C D E Z : Type} {o : A × B × C × D × E} {k : A → B → C → D → E → Z} {r : Z} (h : lt5 o k = r) : ∃ (v0 : A) (v1 : B) (v2 : C) (v3 : D) (v4 : E), o = (v0, v1, v2, v3, v4) ∧ k v0 v1 v2 v3 v4 = r := ⟨o.1, o.2.1, o.2.2.1, o.2.2.2.1, o.2.2.2.2, rfl, h⟩
def bd5 {A B C D E Z : Type} (o : Option (A × B × C × D × E)) (k : A → B → C → D → E → Option Z) : Option Z := match o with
  | none => none
  | some (v0, v1, v2, v3, v4) => k v0 v1 v2 v3 v4
theorem bd5_inv {A B C D E Z : Type} {o : Option (A × B × C × D × E)} {k : A → B → C → D → E → Option Z} {r : Z} (h : bd5 o k = some r) : ∃ (v0 : A) (v1 : B) (v2 : C) (v3 : D) (v4 : E), o = some (v0, v1, v2, v3, v4) ∧ k v0 v1 v2 v3 v4 = some r := by
  cases o with
  | none => cases h
  | some o => exact ⟨o.1, o.2.1, o.2.2.1, o.2.2.2.1, o.2.2.2.2, rfl, h⟩
theorem bd5_some {A B C D E Z : Type} (v0 : A) (v1 : B) (v2 : C) (v3 : D) (v4 : E) (k : A → B → C → D → E → Option Z) : bd5 (some (v0, v1, v2, v3, v4)) k = k v0 v1 v2 v3 v4 := rfl
def lp5 {A B C D E Z : Type} (b : (A → B → C → D → E → Option Z) → A → B → C → D → E → Option Z) : Nat → A → B → C → D → E → Option Z
  | 0 => fun _ _ _ _ _ => none
  | n + 1 => b (lp5 b n)
theorem lp5_s {A B C D E Z : Type} (b : (A → B → C → D → E → Option Z) → A → B → C → D → E → Option Z) (n : Nat) (v0 : A) (v1 : B) (v2 : C) (v3 : D) (v4 : E) : lp5 b (n + 1) v0 v1 v2 v3 v4 = b (lp5 b n) v0 v1 v2 v3 v4 := rfl
theorem lp5_ind {A B C D E Z : Type} {b : (A → B → C → D → E → Option Z) → A → B → C → D → E → Option Z} {r : Z} {P : A → B → C → D → E → Prop} (hs : ∀ rec : A → B → C → D → E → Option Z, (∀ v0 v1 v2 v3 v4, rec v0 v1 v2 v3 v4 = some r → P v0 v1 v2 v3 v4) → ∀ v0 v1 v2 v3 v4, b rec v0 v1 v2 v3 v4 = some r → P v0 v1 v2 v3 v4) : ∀ (n : Nat) v0 v1 v2 v3 v4, lp5 b n v0 v1 v2 v3 v4 = some r → P v0 v1 v2 v3 v4 := by
  intro n
  induction n with
  | zero => intro v0 v1 v2 v3 v4 h; cases h
  | succ n ih => exact hs _ ih
def lt6 {A B C D E F Z : Type} (o : A × B × C × D × E × F) (k : A → B → C → D → E → F → Z) : Z := k o.1 o.2.1 o.2.2.1 o.2.2.2.1 o.2.2.2.2.1 o.2.2.2.2.2
theorem lt6_inv {A B C D E F Z : Type} {o : A × B × C × D × E × F} {k : A → B → C → D → E → F → Z} {r : Z} (h : lt6 o k = r) : ∃ (v0 : A) (v1 : B) (v2 : C) (v3 : D) (v4 : E) (v5 : F), o = (v0, v1, v2, v3, v4, v5) ∧ k v0 v1 v2 v3 v4 v5 = r := ⟨o.1, o.2.1, o.2.2.1, o.2.2.2.1, o.2.2.2.2.1, o.2.2.2.2.2, rfl, h⟩
def bd6 {A B C D E F Z : Type} (o : Option (A × B × C × D × E × F)) (k : A → B → C → D → E → F → Option Z) : Option Z := match o with
  | none => none
  | some (v0, v1, v2, v3, v4, v5) => k v0 v1 v2 v3 v4 v5
theorem bd6_inv {A B C D E F Z : Type} {o : Option (A × B × C × D × E × F)} {k : A → B → C → D → E → F → Option Z} {r : Z} (h : bd6 o k = some r) : ∃ (v0 : A) (v1 : B) (v2 : C) (v3 : D) (v4 : E) (v5 : F), o = some (v0, v1, v2, v3, v4, v5) ∧ k v0 v1 v2 v3 v4 v5 = some r := by
  cases o with
  | none => cases h
  | some o => exact ⟨o.1, o.2.1, o.2.2.1, o.2.2.2.1, o.2.2.2.2.1, o.2.2.2.2.2, rfl, h⟩
theorem bd6_some {A B C D E F Z : Type} (v0 : A) (v1 : B) (v2 : C) (v3 : D) (v4 : E) (v5 : F) (k : A → B → C → D → E → F → Option Z) : bd6 (some (v0, v1, v2, v3, v4, v5)) k = k v0 v1 v2 v3 v4 v5 := rfl
def lp6 {A B C D E F Z : Type} (b : (A → B → C → D → E → F → Option Z) → A → B → C → D → E → F → Option Z) : Nat → A → B → C → D → E → F → Option Z
  | 0 => fun _ _ _ _ _ _ => none
  | n + 1 => b (lp6 b n)
theorem lp6_s {A B C D E F Z : Type} (b : (A → B → C → D → E → F → Option Z) → A → B → C → D → E → F → Option Z) (n : Nat) (v0 : A) (v1 : B) (v2 : C) (v3 : D) (v4 : E) (v5 : F) : lp6 b (n + 1) v0 v1 v2 v3 v4 v5 = b (lp6 b n) v0 v1 v2 v3 v4 v5 := rfl
theorem lp6_ind {A B C D E F Z : Type} {b : (A → B → C → D → E → F → Option Z) → A → B → C → D → E → F → Option Z} {r : Z} {P : A → B → C → D → E → F → Prop} (hs : ∀ rec : A → B → C → D → E → F → Option Z, (∀ v0 v1 v2 v3 v4 v5, rec v0 v1 v2 v3 v4 v5 = some r → P v0 v1 v2 v3 v4 v5) → ∀ v0 v1 v2 v3 v4 v5, b rec v0 v1 v2 v3 v4 v5 = some r → P v0 v1 v2 v3 v4 v5) : ∀ (n : Nat) v0 v1 v2 v3 v4 v5, lp6 b n v0 v1 v2 v3 v4 v5 = some r → P v0 v1 v2 v3 v4 v5 := by
  intro n
  induction n with
  | zero => intro v0 v1 v2 v3 v4 v5 h; cases h
  | succ n ih => exact hs _ ih
def lt7 {A B C D E F G Z : Type} (o : A × B × C × D × E × F × G) (k : A → B → C → D → E → F → G → Z) : Z := k o.1 o.2.1 o.2.2.1 o.2.2.2.1 o.2.2.2.2.1 o.2.2.2.2.2.1 o.2.2.2.2.2.2
theorem lt7_inv {A B C D E F G Z : Type} {o : A × B × C × D × E × F × G} {k : A → B → C → D → E → F → G → Z} {r : Z} (h : lt7 o k = r) : ∃ (v0 : A) (v1 : B) (v2 : C) (v3 : D) (v4 : E) (v5 : F) (v6 : G), o = (v0, v1, v2, v3, v4, v5, v6) ∧ k v0 v1 v2 v3 v4 v5 v6 = r := ⟨o.1, o.2.1, o.2.2.1, o.2.2.2.1, o.2.2.2.2.1, o.2.2.2.2.2.1, o.2.2.2.2.2.2, rfl, h⟩
def bd7 {A B C D E F G Z : Type} (o : Option (A × B × C × D × E × F × G)) (k : A → B → C → D → E → F → G → Option Z) : Option Z := match o with
  | none => none
  | some (v0, v1, v2, v3, v4, v5, v6) => k v0 v1 v2 v3 v4 v5 v6
theorem bd7_inv {A B C D E F G Z : Type} {o : Option (A × B × C × D × E × F × G)} {k : A → B → C → D → E → F → G → Option Z} {r : Z} (h : bd7 o k = some r) : ∃ (v0 : A) (v1 : B) (v2 : C) (v3 : D) (v4 : E) (v5 : F) (v6 : G), o = some (v0, v1, v2, v3, v4, v5, v6) ∧ k v0 v1 v2 v3 v4 v5 v6 = some r := by
  cases o with
  | none => cases h
  | some o => exact ⟨o.1, o.2.1, o.2.2.1, o.2.2.2.1, o.2.2.2.2.1, o.2.2.2.2.2.1, o.2.2.2.2.2.2, rfl, h⟩
theorem bd7_some {A B C D E F G Z : Type} (v0 : A) (v1 : B) (v2 : C) (v3 : D) (v4 : E) (v5 : F) (v6 : G) (k : A → B → C → D → E → F → G → Option Z) : bd7 (some (v0, v1, v2, v3, v4, v5, v6)) k = k v0 v1 v2 v3 v4 v5 v6 := rfl
def lp7 {A B C D E F G Z : Type} (b : (A → B → C → D → E → F → G → Option Z) → A → B → C → D → E → F → G → Option Z) : Nat → A → B → C → D → E → F → G → Option Z
  | 0 => fun _ _ _ _ _ _ _ => none
  | n + 1 => b (lp7 b n)
theorem lp7_s {A B C D E F G Z : Type} (b : (A → B → C → D → E → F → G → Option Z) → A → B → C → D → E → F → G → Option Z) (n : Nat) (v0 : A) (v1 : B) (v2 : C) (v3 : D) (v4 : E) (v5 : F) (v6 : G) : lp7 b (n + 1) v0 v1 v2 v3 v4 v5 v6 = b (lp7 b n) v0 v1 v2 v3 v4 v5 v6 := rfl
theorem lp7_ind {A B C D E F G Z : Type} {b : (A → B → C → D → E → F → G → Option Z) → A → B → C → D → E → F → G → Option Z} {r : Z} {P : A → B → C → D → E → F → G → Prop} (hs : ∀ rec : A → B → C → D → E → F → G → Option Z, (∀ v0 v1 v2 v3 v4 v5 v6, rec v0 v1 v2 v3 v4 v5 v6 = some r → P v0 v1 v2 v3 v4 v5 v6) → ∀ v0 v1 v2 v3 v4 v5 v6, b rec v0 v1 v2 v3 v4 v5 v6 = some r → P v0 v1 v2 v3 v4 v5 v6) : ∀ (n : Nat) v0 v1 v2 v3 v4 v5 v6, lp7 b n v0 v1 v2 v3 v4 v5 v6 = some r → P v0 v1 v2 v3 v4 v5 v6 := by
  intro n
  induction n with
  | zero => intro v0 v1 v2 v3 v4 v5 v6 h; cases h
  | succ n ih => exact hs _ ih
def lt8 {A B C D E F G H Z : Type} (o : A × B × C × D × E × F × G × H) (k : A → B → C → D → E → F → G → H → Z) : Z := k o.1 o.2.1 o.2.2.1 o.2.2.2.1 o.2.2.2.2.1 o.2.2.2.2.2.1 o.2.2.2.2.2.2.1 o.2.2.2.2.2.2.2
theorem lt8_inv {A B C D E F G H Z : Type} {o : A × B × C × D × E × F × G × H} {k : A → B → C → D → E → F → G → H → Z} {r : Z} (h : lt8 o k = r) : ∃ (v0 : A) (v1 : B) (v2 : C) (v3 : D) (v4 : E) (v5 : F) (v6 : G) (v7 : H), o = (v0, v1, v2, v3, v4, v5, v6, v7) ∧ k v0 v1 v2 v3 v4 v5 v6 v7 = r := ⟨o.1, o.2.1, o.2.2.1, o.2.2.2.1, o.2.2.2.2.1, o.2.2.2.2.2.1, o.2.2.2.2.2.2.1, o.2.2.2.2.2.2.2, rfl, h⟩
def bd8 {A B C D E F G H Z : Type} (o : Option (A × B × C × D × E × F × G × H)) (k : A → B → C → D → E → F → G → H → Option Z) : Option Z := match o with
  | none => none
  | some (v0, v1, v2, v3, v4, v5, v6, v7) => k v0 v1 v2 v3 v4 v5 v6 v7
theorem bd8_inv {A B C D E F G H Z : Type} {o : Option (A × B × C × D × E × F × G × H)} {k : A → B → C → D → E → F → G → H → Option Z} {r : Z} (h : bd8 o k = some r) : ∃ (v0 : A) (v1 : B) (v2 : C) (v3 : D) (v4 : E) (v5 : F) (v6 : G) (v7 : H), o = some (v0, v1, v2, v3, v4, v5, v6, v7) ∧ k v0 v1 v2 v3 v4 v5 v6 v7 = some r := by
  cases o with
  | none => cases h
  | some o => exact ⟨o.1, o.2.1, o.2.2.1, o.2.2.2.1, o.2.2.2.2.1, o.2.2.2.2.2.1, o.2.2.2.2.2.2.1, o.2.2.2.2.2.2.2, rfl, h⟩
theorem bd8_some {A B C D E F G H Z : Type} (v0 : A) (v1 : B) (v2 : C) (v3 : D) (v4 : E) (v5 : F) (v6 : G) (v7 : H) (k : A → B → C → D → E → F → G → H → Option Z) : bd8 (some (v0, v1, v2, v3, v4, v5, v6, v7)) k = k v0 v1 v2 v3 v4 v5 v6 v7 := rfl
def lp8 {A B C D E F G H Z : Type} (b : (A → B → C → D → E → F → G → H → Option Z) → A → B → C → D → E → F → G → H → Option Z) : Nat → A → B → C → D → E → F → G → H → Option Z
  | 0 => fun _ _ _ _ _ _ _ _ => none
  | n + 1 => b (lp8 b n)
theorem lp8_s {A B C D E F G H Z : Type} (b : (A → B → C → D → E → F → G → H → Option Z) → A → B → C → D → E → F → G → H → Option Z) (n : Nat) (v0 : A) (v1 : B) (v2 : C) (v3 : D) (v4 : E) (v5 : F) (v6 : G) (v7 : H) : lp8 b (n + 1) v0 v1 v2 v3 v4 v5 v6 v7 = b (lp8 b n) v0 v1 v2 v3 v4 v5 v6 v7 := rfl
theorem lp8_ind {A B C D E F G H Z : Type} {b : (A → B → C → D → E → F → G → H → Option Z) → A → B → C → D → E → F → G → H → Option Z} {r : Z} {P : A → B → C → D → E → F → G → H → Prop} (hs : ∀ rec : A → B → C → D → E → F → G → H → Option Z, (∀ v0 v1 v2 v3 v4 v5 v6 v7, rec v0 v1 v2 v3 v4 v5 v6 v7 = some r → P v0 v1 v2 v3 v4 v5 v6 v7) → ∀ v0 v1 v2 v3 v4 v5 v6 v7, b rec v0 v1 v2 v3 v4 v5 v6 v7 = some r → P v0 v1 v2 v3 v4 v5 v6 v7) : ∀ (n : Nat) v0 v1 v2 v3 v4 v5 v6 v7, lp8 b n v0 v1 v2 v3 v4 v5 v6 v7 = some r → P v0 v1 v2 v3 v4 v5 v6 v7 := by
  intro n
  induction n with
  | zero => intro v0 v1 v2 v3 v4 v5 v6 v7 h; cases h
  | succ n ih => exact hs _ ih
def lt9 {A B C D E F G H I Z : Type} (o : A × B × C × D × E × F × G × H × I) (k : A → B → C → D → E → F → G → H → I → Z) : Z := k o.1 o.2.1 o.2.2.1 o.2.2.2.1 o.2.2.2.2.1 o.2.2.2.2.2.1 o.2.2.2.2.2.2.1 o.2.2.2.2.2.2.2.1 o.2.2.2.2.2.2.2.2
theorem lt9_inv {A B C D E F G H I Z : Type} {o : A × B × C × D × E × F × G × H × I} {k : A → B → C → D → E → F → G → H → I → Z} {r : Z} (h : lt9 o k = r) : ∃ (v0 : A) (v1 : B) (v2 : C) (v3 : D) (v4 : E) (v5 : F) (v6 : G) (v7 : H) (v8 : I), o = (v0, v1, v2, v3, v4, v5, v6, v7, v8) ∧ k v0 v1 v2 v3 v4 v5 v6 v7 v8 = r := ⟨o.1, o.2.1, o.2.2.1, o.2.2.2.1, o.2.2.2.2.1, o.2.2.2.2.2.1, o.2.2.2.2.2.2.1, o.2.2.2.2.2.2.2.1, o.2.2.2.2.2.2.2.2, rfl, h⟩
def bd9 {A B C D E F G H I Z : Type} (o : Option (A × B × C × D × E × F × G × H × I)) (k : A → B → C → D → E → F → G → H → I → Option Z) : Option Z := match o with
  | none => none
  | some (v0, v1, v2, v3, v4, v5, v6, v7, v8) => k v0 v1 v2 v3 v4 v5 v6 v7 v8
theorem bd9_inv {A B C D E F G H I Z : Type} {o : Option (A × B × C × D × E × F × G × H × I)} {k : A → B → C → D → E → F → G → H → I → Option Z} {r : Z} (h : bd9 o k = some r) : ∃ (v0 : A) (v1 : B) (v2 : C) (v3 : D) (v4 : E) (v5 : F) (v6 : G) (v7 : H) (v8 : I), o = some (v0, v1, v2, v3, v4, v5, v6, v7, v8) ∧ k v0 v1 v2 v3 v4 v5 v6 v7 v8 = some r := by
  cases o with
  | none => cases h
  | some o => exact ⟨o.1, o.2.1, o.2.2.1, o.2.2.2.1, o.2.2.2.2.1, o.2.2.2.2.2.1, o.2.2.2.2.2.2.1, o.2.2.2.2.2.2.2.1, o.2.2.2.2.2.2.2.2, rfl, h⟩
theorem bd9_some {A B C D E F G H I Z : Type} (v0 : A) (v1 : B) (v2 : C) (v3 : D) (v4 : E) (v5 : F) (v6 : G) (v7 : H) (v8 : I) (k : A → B → C → D → E → F → G → H → I → Option Z) : bd9 (some (v0, v1, v2, v3, v4, v5, v6, v7, v8)) k = k v0 v1 v2 v3 v4 v5 v6 v7 v8 := rfl
def lp9 {A B C D E F G H I Z : Type} (b : (A → B → C → D → E → F → G → H → I → Option Z) → A → B → C → D → E → F → G → H → I → Option Z) : Nat → A → B → C → D → E → F → G → H → I → Option Z
  | 0 => fun _ _ _ _ _ _ _ _ _ => none
  | n + 1 => b (lp9 b n)
theorem lp9_s {A B C D E F G H I Z : Type} (b : (A → B → C → D → E → F → G → H → I → Option Z) → A → B → C → D → E → F → G → H → I → Option Z) (n : Nat) (v0 : A) (v1 : B) (v2 : C) (v3 : D) (v4 : E) (v5 : F) (v6 : G) (v7 : H) (v8 : I) : lp9 b (n + 1) v0 v1 v2 v3 v4 v5 v6 v7 v8 = b (lp9 b n) v0 v1 v2 v3 v4 v5 v6 v7 v8 := rfl
theorem lp9_ind {A B C D E F G H I Z : Type} {b : (A → B → C → D → E → F → G → H → I → Option Z) → A → B → C → D → E → F → G → H → I → Option Z} {r : Z} {P : A → B → C → D → E → F → G → H → I → Prop} (hs : ∀ rec : A → B → C → D → E → F → G → H → I → Option Z, (∀ v0 v1 v2 v3 v4 v5 v6 v7 v8, rec v0 v1 v2 v3 v4 v5 v6 v7 v8 = some r → P v0 v1 v2 v3 v4 v5 v6 v7 v8) → ∀ v0 v1 v2 v3 v4 v5 v6 v7 v8, b rec v0 v1 v2 v3 v4 v5 v6 v7 v8 = some r → P v0 v1 v2 v3 v4 v5 v6 v7 v8) : ∀ (n : Nat) v0 v1 v2 v3 v4 v5 v6 v7 v8, lp9 b n v0 v1 v2 v3 v4 v5 v6 v7 v8 = some r → P v0 v1 v2 v3 v4 v5 v6 v7 v8 := by
  intro n
  induction n with
  | zero => intro v0 v1 v2 v3 v4 v5 v6 v7 v8 h; cases h
  | succ n ih => exact hs _ ih
def lt10 {A B C D E F G H I J Z : Type} (o : A × B × C × D × E × F × G × H × I × J) (k : A → B → C → D → E → F → G → H → I → J → Z) : Z := k o.1 o.2.1 o.2.2.1 o.2.2.2.1 o.2.2.2.2.1 o.2.2.2.2.2.1 o.2.2.2.2.2.2.1 o.2.2.2.2.2.2.2.1 o.2.2.2.2.2.2.2.2.1 o.2.2.2.2.2.2.2.2.2
theorem lt10_inv {A B C D E F G H I J Z : Type} {o : A × B × C × D × E × F × G × H × I × J} {k : A → B → C → D → E → F → G → H → I → J → Z} {r : Z} (h : lt10 o k = r) : ∃ (v0 : A) (v1 : B) (v2 : C) (v3 : D) (v4 : E) (v5 : F) (v6 : G) (v7 : H) (v8 : I) (v9 : J), o = (v0, v1, v2, v3, v4, v5, v6, v7, v8, v9) ∧ k v0 v1 v2 v3 v4 v5 v6 v7 v8 v9 = r := ⟨o.1, o.2.1, o.2.2.1, o.2.2.2.1, o.2.2.2.2.1, o.2.2.2.2.2.1, o.2.2.2.2.2.2.1, o.2.2.2.2.2.2.2.1, o.2.2.2.2.2.2.2.2.1, o.2.2.2.2.2.2.2.2.2, rfl, h⟩
def bd10 {A B C D E F G H I J Z : Type} (o : Option (A × B × C × D × E × F × G × H × I × J)) (k : A → B → C → D → E → F → G → H → I → J → Option Z) : Option Z := match o with
  | none => none
  | some (v0, v1, v2, v3, v4, v5, v6, v7, v8, v9) => k v0 v1 v2 v3 v4 v5 v6 v7 v8 v9
theorem bd10_inv {A B C D E F G H I J Z : Type} {o : Option (A × B × C × D × E × F × G × H × I × J)} {k : A → B → C → D → E → F → G → H → I → J → Option Z} {r : Z} (h : bd10 o k = some r) : ∃ (v0 : A) (v1 : B) (v2 : C) (v3 : D) (v4 : E) (v5 : F) (v6 : G) (v7 : H) (v8 : I) (v9 : J), o = some (v0, v1, v2, v3, v4, v5, v6, v7, v8, v9) ∧ k v0 v1 v2 v3 v4 v5 v6 v7 v8 v9 = some r := by
  cases o with
  | none => cases h
  | some o => exact ⟨o.1, o.2.1, o.2.2.1, o.2.2.2.1, o.2.2.2.2.1, o.2.2.2.2.2.1, o.2.2.2.2.2.2.1, o.2.2.2.2.2.2.2.1, o.2.2.2.2.2.2.2.2.1, o.2.2.2.2.2.2.2.2.2, rfl, h⟩
theorem bd10_some {A B C D E F G H I J Z : Type} (v0 : A) (v1 : B) (v2 : C) (v3 : D) (v4 : E) (v5 : F) (v6 : G) (v7 : H) (v8 : I) (v9 : J) (k : A → B → C → D → E → F → G → H → I → J → Option Z) : bd10 (some (v0, v1, v2, v3, v4, v5, v6, v7, v8, v9)) k = k v0 v1 v2 v3 v4 v5 v6 v7 v8 v9 := rfl
def lp10 {A B C D E F G H I J Z : Type} (b : (A → B → C → D → E → F → G → H → I → J → Option Z) → A → B → C → D → E → F → G → H → I → J → Option Z) : Nat → A → B → C → D → E → F → G → H → I → J → Option Z
  | 0 => fun _ _ _ _ _ _ _ _ _ _ => none
  | n + 1 => b (lp10 b n)
theorem lp10_s {A B C D E F G H I J Z : Type} (b : (A → B → C → D → E → F → G → H → I → J → Option Z) → A → B → C → D → E → F → G → H → I → J → Option Z) (n : Nat) (v0 : A) (v1 : B) (v2 : C) (v3 : D) (v4 : E) (v5 : F) (v6 : G) (v7 : H) (v8 : I) (v9 : J) : lp10 b (n + 1) v0 v1 v2 v3 v4 v5 v6 v7 v8 v9 = b (lp10 b n) v0 v1 v2 v3 v4 v5 v6 v7 v8 v9 := rfl
theorem lp10_ind {A B C D E F G H I J Z : Type} {b : (A → B → C → D → E → F → G → H → I → J → Option Z) → A → B → C → D → E → F → G → H → I → J → Option Z} {r : Z} {P : A → B → C → D → E → F → G → H → I → J → Prop} (hs : ∀ rec : A → B → C → D → E → F → G → H → I → J → Option Z, (∀ v0 v1 v2 v3 v4 v5 v6 v7 v8 v9, rec v0 v1 v2 v3 v4 v5 v6 v7 v8 v9 = some r → P v0 v1 v2 v3 v4 v5 v6 v7 v8 v9) → ∀ v0 v1 v2 v3 v4 v5 v6 v7 v8 v9, b rec v0 v1 v2 v3 v4 v5 v6 v7 v8 v9 = some r → P v0 v1 v2 v3 v4 v5 v6 v7 v8 v9) : ∀ (n : Nat) v0 v1 v2 v3 v4 v5 v6 v7 v8 v9, lp10 b n v0 v1 v2 v3 v4 v5 v6 v7 v8 v9 = some r → P v0 v1 v2 v3 v4 v5 v6 v7 v8 v9 := by
  intro n
  induction n with
  | zero => intro v0 v1 v2 v3 v4 v5 v6 v7 v8 v9 h; cases h
  | succ n ih => exact hs _ ih
def lt11 {A B C D E F G H I J K Z : Type} (o : A × B × C × D × E × F × G × H × I × J × K) (k : A → B → C → D → E → F → G → H → I → J → K → Z) : Z := k o.1 o.2.1 o.2.2.1 o.2.2.2.1 o.2.2.2.2.1 o.2.2.2.2.2.1 o.2.2.2.2.2.2.1 o.2.2.2.2.2.2.2.1 o.2.2.2.2.2.2.2.2.1 o.2.2.2.2.2.2.2.2.2.1 o.2.2.2.2.2.2.2.2.2.2
theorem lt11_inv {A B C D E F G H I J K Z : Type} {o : A × B × C × D × E × F × G × H × I × J × K} {k : A → B → C → D → E → F → G → H → I → J → K → Z} {r : Z} (h : lt11 o k = r) : ∃ (v0 : A) (v1 : B) (v2 : C) (v3 : D) (v4 : E) (v5 : F) (v6 : G) (v7 : H) (v8 : I) (v9 : J) (v10 : K), o = (v0, v1, v2, v3, v4, v5, v6, v7, v8, v9, v10) ∧ k v0 v1 v2 v3 v4 v5 v6 v7 v8 v9 v10 = r := ⟨o.1, o.2.1, o.2.2.1, o.2.2.2.1, o.2.2.2.2.1, o.2.2.2.2.2.1, o.2.2.2.2.2.2.1, o.2.2.2.2.2.2.2.1, o.2.2.2.2.2.2.2.2.1, o.2.2.2.2.2.2.2.2.2.1, o.2.2.2.2.2.2.2.2.2.2, rfl, h⟩
def bd11 {A B C D E F G H I J K Z : Type} (o : Option (A × B × C × D × E × F × G × H × I × J × K)) (k : A → B → C → D → E → F → G → H → I → J → K → Option Z) : Option Z := match o with
  | none => none
  | some (v0, v1, v2, v3, v4, v5, v6, v7, v8, v9, v10) => k v0 v1 v2 v3 v4 v5 v6 v7 v8 v9 v10
theorem bd11_inv {A B C D E F G H I J K Z : Type} {o : Option (A × B × C × D × E × F × G × H × I × J × K)} {k : A → B → C → D → E → F → G → H → I → J → K → Option Z} {r : Z} (h : bd11 o k = some r) : ∃ (v0 : A) (v1 : B) (v2 : C) (v3 : D) (v4 : E) (v5 : F) (v6 : G) (v7 : H) (v8 : I) (v9 : J) (v10 : K), o = some (v0, v1, v2, v3, v4, v5, v6, v7, v8, v9, v10) ∧ k v0 v1 v2 v3 v4 v5 v6 v7 v8 v9 v10 = some r := by
  cases o with
  | none => cases h
  | some o => exact ⟨o.1, o.2.1, o.2.2.1, o.2.2.2.1, o.2.2.2.2.1, o.2.2.2.2.2.1, o.2.2.2.2.2.2.1, o.2.2.2.2.2.2.2.1, o.2.2.2.2.2.2.2.2.1, o.2.2.2.2.2.2.2.2.2.1, o.2.2.2.2.2.2.2.2.2.2, rfl, h⟩
theorem bd11_some {A B C D E F G H I J K Z : Type} (v0 : A) (v1 : B) (v2 : C) (v3 : D) (v4 : E) (v5 : F) (v6 : G) (v7 : H) (v8 : I) (v9 : J) (v10 : K) (k : A → B → C → D → E → F → G → H → I → J → K → Option Z) : bd11 (some (v0, v1, v2, v3, v4, v5, v6, v7, v8, v9, v10)) k = k v0 v1 v2 v3 v4 v5 v6 v7 v8 v9 v10 := rfl
def lp11 {A B C D E F G H I J K Z : Type} (b : (A → B → C → D → E → F → G → H → I → J → K → Option Z) → A → B → C → D → E → F → G → H → I → J → K → Option Z) : Nat → A → B → C → D → E → F → G → H → I → J → K → Option Z
  | 0 => fun _ _ _ _ _ _ _ _ _ _ _ => none
  | n + 1 => b (lp11 b n)
theorem lp11_s {A B C D E F G H I J K Z : Type} (b : (A → B → C → D → E → F → G → H → I → J → K → Option Z) → A → B → C → D → E → F → G → H → I → J → K → Option Z) (n : Nat) (v0 : A) (v1 : B) (v2 : C) (v3 : D) (v4 : E) (v5 : F) (v6 : G) (v7 : H) (v8 : I) (v9 : J) (v10 : K) : lp11 b (n + 1) v0 v1 v2 v3 v4 v5 v6 v7 v8 v9 v10 = b (lp11 b n) v0 v1 v2 v3 v4 v5 v6 v7 v8 v9 v10 := rfl
theorem lp11_ind {A B C D E F G H I J K Z : Type} {b : (A → B → C → D → E → F → G → H → I → J → K → Option Z) → A → B → C → D → E → F → G → H → I → J → K → Option Z} {r : Z} {P : A → B → C → D → E → F → G → H → I → J → K → Prop} (hs : ∀ rec : A → B → C → D → E → F → G → H → I → J → K → Option Z, (∀ v0 v1 v2 v3 v4 v5 v6 v7 v8 v9 v10, rec v0 v1 v2 v3 v4 v5 v6 v7 v8 v9 v10 = some r → P v0 v1 v2 v3 v4 v5 v6 v7 v8 v9 v10) → ∀ v0 v1 v2 v3 v4 v5 v6 v7 v8 v9 v10, b rec v0 v1 v2 v3 v4 v5 v6 v7 v8 v9 v10 = some r → P v0 v1 v2 v3 v4 v5 v6 v7 v8 v9 v10) : ∀ (n : Nat) v0 v1 v2 v3 v4 v5 v6 v7 v8 v9 v10, lp11 b n v0 v1 v2 v3 v4 v5 v6 v7 v8 v9 v10 = some r → P v0 v1 v2 v3 v4 v5 v6 v7 v8 v9 v10 := by
  intro n
  induction n with
  | zero => intro v0 v1 v2 v3 v4 v5 v6 v7 v8 v9 v10 h; cases h
  | succ n ih => exact hs _ ih
def lt12 {A B C D E F G H I J K L Z : Type} (o : A × B × C × D × E × F × G × H × I × J × K × L) (k : A → B → C → D → E → F → G → H → I → J → K → L → Z) : Z := k o.1 o.2.1 o.2.2.1 o.2.2.2.1 o.2.2.2.2.1 o.2.2.2.2.2.1 o.2.2.2.2.2.2.1 o.2.2.2.2.2.2.2.1 o.2.2.2.2.2.2.2.2.1 o.2.2.2.2.2.2.2.2.2.1 o.2.2.2.2.2.2.2.2.2.2.1 o.2.2.2.2.2.2.2.2.2.2.2
theorem lt12_inv {A B C D E F G H I J K L Z : Type} {o : A × B × C × D × E × F × G × H × I × J × K × L} {k : A → B → C → D → E → F → G → H → I → J → K → L → Z} {r : Z} (h : lt12 o k = r) : ∃ (v0 : A) (v1 : B) (v2 : C) (v3 : D) (v4 : E) (v5 : F) (v6 : G) (v7 : H) (v8 : I) (v9 : J) (v10 : K) (v11 : L), o = (v0, v1, v2, v3, v4, v5, v6, v7, v8, v9, v10, v11) ∧ k v0 v1 v2 v3 v4 v5 v6 v7 v8 v9 v10 v11 = r := ⟨o.1, o.2.1, o.2.2.1, o.2.2.2.1, o.2.2.2.2.1, o.2.2.2.2.2.1, o.2.2.2.2.2.2.1, o.2.2.2.2.2.2.2.1, o.2.2.2.2.2.2.2.2.1, o.2.2.2.2.2.2.2.2.2.1, o.2.2.2.2.2.2.2.2.2.2.1, o.2.2.2.2.2.2.2.2.2.2.2, rfl, h⟩
def bd12 {A B C D E F G H I J K L Z : Type} (o : Option (A × B × C × D × E × F × G × H × I × J × K × L)) (k : A → B → C → D → E → F → G → H → I → J → K → L → Option Z) : Option Z := match o with
  | none => none
  | some (v0, v1, v2, v3, v4, v5, v6, v7, v8, v9, v10, v11) => k v0 v1 v2 v3 v4 v5 v6 v7 v8 v9 v10 v11
theorem bd12_inv {A B C D E F G H I J K L Z : Type} {o : Option (A × B × C × D × E × F × G × H × I × J × K × L)} {k : A → B → C → D → E → F → G → H → I → J → K → L → Option Z} {r : Z} (h : bd12 o k = some r) : ∃ (v0 : A) (v1 : B) (v2 : C) (v3 : D) (v4 : E) (v5 : F) (v6 : G) (v7 : H) (v8 : I) (v9 : J) (v10 : K) (v11 : L), o = some (v0, v1, v2, v3, v4, v5, v6, v7, v8, v9, v10, v11) ∧ k v0 v1 v2 v3 v4 v5 v6 v7 v8 v9 v10 v11 = some r := by
  cases o with
  | none => cases h
  | some o => exact ⟨o.1, o.2.1, o.2.2.1, o.2.2.2.1, o.2.2.2.2.1, o.2.2.2.2.2.1, o.2.2.2.2.2.2.1, o.2.2.2.2.2.2.2.1, o.2.2.2.2.2.2.2.2.1, o.2.2.2.2.2.2.2.2.2.1, o.2.2.2.2.2.2.2.2.2.2.1, o.2.2.2.2.2.2.2.2.2.2.2, rfl, h⟩
theorem bd12_some {A B C D E F G H I J K L Z : Type} (v0 : A) (v1 : B) (v2 : C) (v3 : D) (v4 : E) (v5 : F) (v6 : G) (v7 : H) (v8 : I) (v9 : J) (v10 : K) (v11 : L) (k : A → B → C → D → E → F → G → H → I → J → K → L → Option Z) : bd12 (some (v0, v1, v2, v3, v4, v5, v6, v7, v8, v9, v10, v11)) k = k v0 v1 v2 v3 v4 v5 v6 v7 v8 v9 v10 v11 := rfl
def lp12 {A B C D E F G H I J K L Z : Type} (b : (A → B → C → D → E → F → G → H → I → J → K → L → Option Z) → A → B → C → D → E → F → G → H → I → J → K → L → Option Z) : Nat → A → B → C → D → E → F → G → H → I → J → K → L → Option Z
  | 0 => fun _ _ _ _ _ _ _ _ _ _ _ _ => none
  | n + 1 => b (lp12 b n)
theorem lp12_s {A B C D E F G H I J K L Z : Type} (b : (A → B → C → D → E → F → G → H → I → J → K → L → Option Z) → A → B → C → D → E → F → G → H → I → J → K → L → Option Z) (n : Nat) (v0 : A) (v1 : B) (v2 : C) (v3 : D) (v4 : E) (v5 : F) (v6 : G) (v7 : H) (v8 : I) (v9 : J) (v10 : K) (v11 : L) : lp12 b (n + 1) v0 v1 v2 v3 v4 v5 v6 v7 v8 v9 v10 v11 = b (lp12 b n) v0 v1 v2 v3 v4 v5 v6 v7 v8 v9 v10 v11 := rfl
theorem lp12_ind {A B C D E F G H I J K L Z : Type} {b : (A → B → C → D → E → F → G → H → I → J → K → L → Option Z) → A → B → C → D → E → F → G → H → I → J → K → L → Option Z} {r : Z} {P : A → B → C → D → E → F → G → H → I → J → K → L → Prop} (hs : ∀ rec : A → B → C → D → E → F → G → H → I → J → K → L → Option Z, (∀ v0 v1 v2 v3 v4 v5 v6 v7 v8 v9 v10 v11, rec v0 v1 v2 v3 v4 v5 v6 v7 v8 v9 v10 v11 = some r → P v0 v1 v2 v3 v4 v5 v6 v7 v8 v9 v10 v11) → ∀ v0 v1 v2 v3 v4 v5 v6 v7 v8 v9 v10 v11, b rec v0 v1 v2 v3 v4 v5 v6 v7 v8 v9 v10 v11 = some r → P v0 v1 v2 v3 v4 v5 v6 v7 v8 v9 v10 v11) : ∀ (n : Nat) v0 v1 v2 v3 v4 v5 v6 v7 v8 v9 v10 v11, lp12 b n v0 v1 v2 v3 v4 v5 v6 v7 v8 v9 v10 v11 = some r → P v0 v1 v2 v3 v4 v5 v6 v7 v8 v9 v10 v11 := by
  intro n
  induction n with
  | zero => intro v0 v1 v2 v3 v4 v5 v6 v7 v8 v9 v10 v11 h; cases h
  | succ n ih => exact hs _ ih
def rd {Z : Type} (n : Nat) (f : Nat → Int32) (i : Int32) (k : Int32 → Option Z) : Option Z := if i < 0 ∨ n ≤ i.toNatClampNeg then none else k (f i.toNatClampNeg)
theorem rd_inv {Z : Type} {n : Nat} {f : Nat → Int32} {i : Int32} {k : Int32 → Option Z} {r : Z} (h : rd n f i k = some r) : ∃ v : Int32, vp_in i n ∧ f i.toNatClampNeg = v ∧ k v = some r := by
  unfold rd at h
  by_cases c : i < 0 ∨ n ≤ i.toNatClampNeg
  · rw [if_pos c] at h; cases h
  · rw [if_neg c] at h; exact ⟨_, c, rfl, h⟩
def wr {Z : Type} (n : Nat) (f : Nat → Int32) (i : Int32) (x : Int32) (k : (Nat → Int32) → Option Z) : Option Z := if i < 0 ∨ n ≤ i.toNatClampNeg then none else k (upd f i.toNatClampNeg x)
theorem wr_inv {Z : Type} {n : Nat} {f : Nat → Int32} {i : Int32} {x : Int32} {k : (Nat → Int32) → Option Z} {r : Z} (h : wr n f i x k = some r) : ∃ g : Nat → Int32, vp_in i n ∧ upd f i.toNatClampNeg x = g ∧ k g = some r := by
  unfold wr at h
  by_cases c : i < 0 ∨ n ≤ i.toNatClampNeg
  · rw [if_pos c] at h; cases h
  · rw [if_neg c] at h; exact ⟨_, c, rfl, h⟩
def rdL {Z : Type} (n : Nat) (f : Nat → Int64) (i : Int32) (k : Int64 → Option Z) : Option Z := if i < 0 ∨ n ≤ i.toNatClampNeg then none else k (f i.toNatClampNeg)
theorem rdL_inv {Z : Type} {n : Nat} {f : Nat → Int64} {i : Int32} {k : Int64 → Option Z} {r : Z} (h : rdL n f i k = some r) : ∃ v : Int64, vp_in i n ∧ f i.toNatClampNeg = v ∧ k v = some r := by
  unfold rdL at h
  by_cases c : i < 0 ∨ n ≤ i.toNatClampNeg
  · rw [if_pos c] at h; cases h
  · rw [if_neg c] at h; exact ⟨_, c, rfl, h⟩
def wrL {Z : Type} (n : Nat) (f : Nat → Int64) (i : Int32) (x : Int64) (k : (Nat → Int64) → Option Z) : Option Z := if i < 0 ∨ n ≤ i.toNatClampNeg then none else k (vp_updL f i.toNatClampNeg x)
theorem wrL_inv {Z : Type} {n : Nat} {f : Nat → Int64} {i : Int32} {x : Int64} {k : (Nat → Int64) → Option Z} {r : Z} (h : wrL n f i x k = some r) : ∃ g : Nat → Int64, vp_in i n ∧ vp_updL f i.toNatClampNeg x = g ∧ k g = some r := by
  unfold wrL at h
  by_cases c : i < 0 ∨ n ≤ i.toNatClampNeg
  · rw [if_pos c] at h; cases h
  · rw [if_neg c] at h; exact ⟨_, c, rfl, h⟩
def dvd {Z : Type} (x y : Int32) (k : Int32 → Option Z) : Option Z := if y = 0 then none else k (x / y)
theorem dvd_inv {Z : Type} {x y : Int32} {k : Int32 → Option Z} {r : Z} (h : dvd x y k = some r) : ∃ v : Int32, (¬ y = 0) ∧ x / y = v ∧ k v = some r := by
  unfold dvd at h
  by_cases c : y = 0
  · rw [if_pos c] at h; cases h
  · rw [if_neg c] at h; exact ⟨_, c, rfl, h⟩
def rmd {Z : Type} (x y : Int32) (k : Int32 → Option Z) : Option Z := if y = 0 then none else k (x - x / y * y)
theorem rmd_inv {Z : Type} {x y : Int32} {k : Int32 → Option Z} {r : Z} (h : rmd x y k = some r) : ∃ v : Int32, (¬ y = 0) ∧ x - x / y * y = v ∧ k v = some r := by
  unfold rmd at h
  by_cases c : y = 0
  · rw [if_pos c] at h; cases h
  · rw [if_neg c] at h; exact ⟨_, c, rfl, h⟩
/-- a boolean that is answered is 0 or 1 -/
def ckb {Z : Type} (x : Int32) (k : Option Z) : Option Z := if x = 0 ∨ x = 1 then k else none
theorem ckb_inv {Z : Type} {x : Int32} {k : Option Z} {r : Z} (h : ckb x k = some r) : (x = 0 ∨ x = 1) ∧ k = some r := by
  unfold ckb at h
  by_cases c : x = 0 ∨ x = 1
  · rw [if_pos c] at h; exact ⟨c, h⟩
  · rw [if_neg c] at h; cases h
theorem ip {Z : Type} {c : Prop} {_ : Decidable c} {A B r : Z} (hc : c) (h : (if c then A else B) = r) : A = r := by rw [if_pos hc] at h; exact h
theorem ine {Z : Type} {c : Prop} {_ : Decidable c} {A B r : Z} (hc : ¬ c) (h : (if c then A else B) = r) : B = r := by rw [if_neg hc] at h; exact h
/-- row.length is n: what valueAt, put and add answer -/
def vAt (n : Nat) (f : Nat → Int32) (i : Int32) : Int32 := if i < 0 then 0 else if nI n ≤ i then 0 else f i.toNatClampNeg
def vPut (n : Nat) (f : Nat → Int32) (i x : Int32) : Nat → Int32 := if i < 0 then f else if nI n ≤ i then f else upd f i.toNatClampNeg x
def vAdd (n : Nat) (f : Nat → Int32) (i x : Int32) : Nat → Int32 := if i < 0 then f else if nI n ≤ i then f else upd f i.toNatClampNeg (f i.toNatClampNeg + x)
def mnI (x y : Int32) : Int32 := if y < x then y else x
def mxI (x y : Int32) : Int32 := if x < y then y else x
def lcm (x y : Int64) : Int32 := if x = y then 0 else if x < y then -1 else 1
section TOPS
variable {p : Program} {l : Launch} {e : Env} {R : Room} {s : State} {m : MethodId} {args : Array Value} {below : List Frame} {meth : Method} {c : Code} {H : Heap} {locs : List Loc} {cells slots : Nat} {Q : State → Prop} {pc : Nat} {ls : Array Slot} {rest : List Value}
theorem ltop {x y : Int32} (h : x = y) (k : W p l e R s m args below meth c H locs cells slots Q (F0 m pc ls (.int y :: rest))) : W p l e R s m args below meth c H locs cells slots Q (F0 m pc ls (.int x :: rest)) := h ▸ k
theorem ltopL {x y : Int64} (h : x = y) (k : W p l e R s m args below meth c H locs cells slots Q (F0 m pc ls (.long y :: rest))) : W p l e R s m args below meth c H locs cells slots Q (F0 m pc ls (.long x :: rest)) := h ▸ k
end TOPS
theorem frS_id : ∀ (isC : List Nat) (wc ws : va_W), isC.map (fun i => ws[i]?) = wc.map some → frS isC wc ws = ws := by
  intro isC
  induction isC with
  | nil => intro wc ws h; cases wc with
    | nil => rfl
    | cons x w => simp at h
  | cons i is ih => intro wc ws h; cases wc with
    | nil => simp at h
    | cons x w =>
      have h1 : ws[i]? = some x ∧ is.map (fun i => ws[i]?) = w.map some := by simpa using h
      have h2 : ws.set i x = ws := by
        apply List.ext_getElem?
        intro k
        by_cases hk : k = i
        · subst hk
          rw [List.getElem?_set_self (List.getElem?_eq_some_iff.mp h1.1).1, h1.1]
        · rw [List.getElem?_set_ne (fun e => hk e.symm)]
      show frS is w (ws.set i x) = ws
      rw [h2]
      exact ih w ws h1.2
section CALLS0
variable {p : Program} {l : Launch} {e : Env} {R : Room} {s : State} {m : MethodId} {args : Array Value} {below : List Frame} {meth : Method} {c : Code} {H H0 : Heap} {locs : List Loc} {cells slots : Nat} {Q : State → Prop} {D : va_G} {ty : List (ClassId × FieldType)} {A0 : Nat → Prop} {cc bytes : ByteArray} {pc : Nat} {ls : Array Slot} {nL n index maxL : Nat} {y : MethodName} {wl : List Cond} {rm : Room} {As rest : List Value} {Wc W1 ws : va_W} {v : Option Value} {Ts : List Cond} {own C host : String} {ret : Option FieldType} {b : Addr} {st0 : List Value}
theorem cVw (X : CallFix p m c cc nL s args Ts own) (hM : mU l D ty y wl rm (.ref b :: As) Wc W1 v) (cw : CallW R s args own C index y bytes maxL ret wl rm 0 0 n) (hK : kK D ty s) (hP : va_P D vwCl ws H) (hD : va_D A0 ws) (hS : va_S A0 H0 H locs) (hA : ∀ q, H0.size ≤ q → A0 q) (isC : List Nat) (hC : isC.map (fun i => ws[i]?) = Wc.map some) (hn : va_nd isC = true) (hl : isC.length ≤ W1.length) (hnn : As.length = n) (hsz : ls.size = nL) (hW : (rest.map fun v => v.category).sum ≤ 8) (hf : cells ≤ R.cells ∧ slots ≤ R.slots) (q0 : Nat) {ci : Nat} {fs : List Value} {r : vw_C} (he : ws[q0]? = some (b, .inr (ci, fs))) (hc : vwCl[ci]? = some r) (hcn : r.1 = C) (hst : st0 = As.reverse ++ .ref b :: rest) (hdg : decode cc pc = .ok (.invokevirtual index, 3))
    (kk : ∀ (H1 : Heap) (locs1 : List Loc), va_P D vwCl (frS isC W1 ws) H1 → va_D A0 (frS isC W1 ws) → va_S A0 H0 H1 locs1 → W p l e R s m args below meth c H1 locs1 cells slots Q (F0 m (pc + 3) ls (v.toList ++ rest))) : W p l e R s m args below meth c H locs cells slots Q (F0 m pc ls st0) :=
  cV X hM cw hK hP hD hS hA isC hC hn (fun _ => hl) q0 he hc hcn hnn hsz hst hW hdg hf (fun _ H1 locs1 h1 h2 h3 => kk H1 locs1 h1 h2 h3)
theorem cVs (X : CallFix p m c cc nL s args Ts own) (hM : mU l D ty y wl rm (.ref b :: As) Wc Wc v) (cw : CallW R s args own C index y bytes maxL ret wl rm 0 0 n) (hK : kK D ty s) (hP : va_P D vwCl ws H) (hD : va_D A0 ws) (hS : va_S A0 H0 H locs) (hA : ∀ q, H0.size ≤ q → A0 q) (isC : List Nat) (hC : isC.map (fun i => ws[i]?) = Wc.map some) (hn : va_nd isC = true) (hnn : As.length = n) (hsz : ls.size = nL) (hW : (rest.map fun v => v.category).sum ≤ 8) (hf : cells ≤ R.cells ∧ slots ≤ R.slots) (q0 : Nat) {ci : Nat} {fs : List Value} {r : vw_C} (he : ws[q0]? = some (b, .inr (ci, fs))) (hc : vwCl[ci]? = some r) (hcn : r.1 = C) (hst : st0 = As.reverse ++ .ref b :: rest) (hdg : decode cc pc = .ok (.invokevirtual index, 3))
    (kk : ∀ (H1 : Heap) (locs1 : List Loc), va_P D vwCl ws H1 → va_D A0 ws → va_S A0 H0 H1 locs1 → W p l e R s m args below meth c H1 locs1 cells slots Q (F0 m (pc + 3) ls (v.toList ++ rest))) : W p l e R s m args below meth c H locs cells slots Q (F0 m pc ls st0) :=
  cVw X hM cw hK hP hD hS hA isC hC hn (by have := congrArg List.length hC; rw [List.length_map, List.length_map] at this; omega) hnn hsz hW hf q0 he hc hcn hst hdg (fun H1 locs1 h1 h2 h3 => kk H1 locs1 (by rw [frS_id isC Wc ws hC] at h1; exact h1) (by rw [frS_id isC Wc ws hC] at h2; exact h2) h3)
theorem cSw (X : CallFix p m c cc nL s args Ts own) (hM : mU l D ty y wl rm As Wc W1 v) (cw : CallB R s args own index y bytes maxL ret wl rm 0 0 n ∧ (Cond.static y).before args s = true) (hK : kK D ty s) (hP : va_P D vwCl ws H) (hD : va_D A0 ws) (hS : va_S A0 H0 H locs) (hA : ∀ q, H0.size ≤ q → A0 q) (isC : List Nat) (hC : isC.map (fun i => ws[i]?) = Wc.map some) (hn : va_nd isC = true) (hl : isC.length ≤ W1.length) (hnn : As.length = n) (hsz : ls.size = nL) (hW : (rest.map fun v => v.category).sum ≤ 8) (hf : cells ≤ R.cells ∧ slots ≤ R.slots) (hst : st0 = As.reverse ++ rest) (hdg : decode cc pc = .ok (.invokestatic index, 3))
    (kk : ∀ (H1 : Heap) (locs1 : List Loc), va_P D vwCl (frS isC W1 ws) H1 → va_D A0 (frS isC W1 ws) → va_S A0 H0 H1 locs1 → W p l e R s m args below meth c H1 locs1 cells slots Q (F0 m (pc + 3) ls (v.toList ++ rest))) : W p l e R s m args below meth c H locs cells slots Q (F0 m pc ls st0) :=
  cS X hM cw hK hP hD hS hA isC hC hn (fun _ => hl)  hnn hsz hst hW hdg hf (fun _ H1 locs1 h1 h2 h3 => kk H1 locs1 h1 h2 h3)
theorem cSs (X : CallFix p m c cc nL s args Ts own) (hM : mU l D ty y wl rm As Wc Wc v) (cw : CallB R s args own index y bytes maxL ret wl rm 0 0 n ∧ (Cond.static y).before args s = true) (hK : kK D ty s) (hP : va_P D vwCl ws H) (hD : va_D A0 ws) (hS : va_S A0 H0 H locs) (hA : ∀ q, H0.size ≤ q → A0 q) (isC : List Nat) (hC : isC.map (fun i => ws[i]?) = Wc.map some) (hn : va_nd isC = true) (hnn : As.length = n) (hsz : ls.size = nL) (hW : (rest.map fun v => v.category).sum ≤ 8) (hf : cells ≤ R.cells ∧ slots ≤ R.slots) (hst : st0 = As.reverse ++ rest) (hdg : decode cc pc = .ok (.invokestatic index, 3))
    (kk : ∀ (H1 : Heap) (locs1 : List Loc), va_P D vwCl ws H1 → va_D A0 ws → va_S A0 H0 H1 locs1 → W p l e R s m args below meth c H1 locs1 cells slots Q (F0 m (pc + 3) ls (v.toList ++ rest))) : W p l e R s m args below meth c H locs cells slots Q (F0 m pc ls st0) :=
  cSw X hM cw hK hP hD hS hA isC hC hn (by have := congrArg List.length hC; rw [List.length_map, List.length_map] at this; omega) hnn hsz hW hf  hst hdg (fun H1 locs1 h1 h2 h3 => kk H1 locs1 (by rw [frS_id isC Wc ws hC] at h1; exact h1) (by rw [frS_id isC Wc ws hC] at h2; exact h2) h3)
theorem cNw (X : CallFix p m c cc nL s args Ts own) (hM : mU l D ty y wl rm As Wc W1 v) (cw : va_CN R s args own index y host bytes maxL ret wl rm 0 0 n ∧ (Cond.static y).before args s = true ∧ True) (hK : kK D ty s) (hP : va_P D vwCl ws H) (hD : va_D A0 ws) (hS : va_S A0 H0 H locs) (hA : ∀ q, H0.size ≤ q → A0 q) (isC : List Nat) (hC : isC.map (fun i => ws[i]?) = Wc.map some) (hn : va_nd isC = true) (hl : isC.length ≤ W1.length) (hnn : As.length = n) (hsz : ls.size = nL) (hW : (rest.map fun v => v.category).sum ≤ 8) (hf : cells ≤ R.cells ∧ slots ≤ R.slots) (hst : st0 = As.reverse ++ rest) (hdg : decode cc pc = .ok (.invokestatic index, 3))
    (kk : ∀ (H1 : Heap) (locs1 : List Loc), va_P D vwCl (frS isC W1 ws) H1 → va_D A0 (frS isC W1 ws) → va_S A0 H0 H1 locs1 → W p l e R s m args below meth c H1 locs1 cells slots Q (F0 m (pc + 3) ls (v.toList ++ rest))) : W p l e R s m args below meth c H locs cells slots Q (F0 m pc ls st0) :=
  cN X hM cw hK hP hD hS hA isC hC hn (fun _ => hl)  hnn hsz hst hW hdg hf (fun _ H1 locs1 h1 h2 h3 => kk H1 locs1 h1 h2 h3)
theorem cNs (X : CallFix p m c cc nL s args Ts own) (hM : mU l D ty y wl rm As Wc Wc v) (cw : va_CN R s args own index y host bytes maxL ret wl rm 0 0 n ∧ (Cond.static y).before args s = true ∧ True) (hK : kK D ty s) (hP : va_P D vwCl ws H) (hD : va_D A0 ws) (hS : va_S A0 H0 H locs) (hA : ∀ q, H0.size ≤ q → A0 q) (isC : List Nat) (hC : isC.map (fun i => ws[i]?) = Wc.map some) (hn : va_nd isC = true) (hnn : As.length = n) (hsz : ls.size = nL) (hW : (rest.map fun v => v.category).sum ≤ 8) (hf : cells ≤ R.cells ∧ slots ≤ R.slots) (hst : st0 = As.reverse ++ rest) (hdg : decode cc pc = .ok (.invokestatic index, 3))
    (kk : ∀ (H1 : Heap) (locs1 : List Loc), va_P D vwCl ws H1 → va_D A0 ws → va_S A0 H0 H1 locs1 → W p l e R s m args below meth c H1 locs1 cells slots Q (F0 m (pc + 3) ls (v.toList ++ rest))) : W p l e R s m args below meth c H locs cells slots Q (F0 m pc ls st0) :=
  cNw X hM cw hK hP hD hS hA isC hC hn (by have := congrArg List.length hC; rw [List.length_map, List.length_map] at this; omega) hnn hsz hW hf  hst hdg (fun H1 locs1 h1 h2 h3 => kk H1 locs1 (by rw [frS_id isC Wc ws hC] at h1; exact h1) (by rw [frS_id isC Wc ws hC] at h2; exact h2) h3)
end CALLS0
