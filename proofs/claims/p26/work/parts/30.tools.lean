/-! layer 2, pure: what a mirror comes to; loops that count; numbers in range -/
def Ev {Z : Type} (o : Option Z) (Q : Z → Prop) : Prop := ∃ z, o = some z ∧ Q z
theorem Ev.some {Z : Type} {z : Z} {Q : Z → Prop} (h : Q z) : Ev (some z) Q := ⟨z, rfl, h⟩
theorem Ev.mono {Z : Type} {o : Option Z} {Q R : Z → Prop} (h : Ev o Q) (k : ∀ z, Q z → R z) : Ev o R := by
  obtain ⟨z, h1, h2⟩ := h
  exact ⟨z, h1, k z h2⟩
theorem Ev.eq {Z : Type} {o : Option Z} {z : Z} (h : Ev o (fun y => y = z)) : o = Option.some z := by
  obtain ⟨y, h1, rfl⟩ := h
  exact h1
theorem Ev.of {Z : Type} {o : Option Z} {z : Z} (h : o = Option.some z) : Ev o (fun y => y = z) := ⟨z, h, rfl⟩
theorem Ev.at {Z : Type} {o o' : Option Z} {Q : Z → Prop} (e : o = o') (h : Ev o' Q) : Ev o Q := by rw [e]; exact h
theorem Ev.bd1 {T0 Z : Type} {o : Option (T0)} {k : T0 → Option Z} {Q : Z → Prop} {G : (T0) → Prop} (h : Ev o G) (g : ∀ t : T0, G t → Ev (k t) Q) : Ev (bd1 o k) Q := by
  obtain ⟨t, rfl, h2⟩ := h
  exact g t h2
theorem Ev.bd2 {T0 T1 Z : Type} {o : Option (T0 × T1)} {k : T0 → T1 → Option Z} {Q : Z → Prop} {G : (T0 × T1) → Prop} (h : Ev o G) (g : ∀ t : T0 × T1, G t → Ev (k t.1 t.2) Q) : Ev (bd2 o k) Q := by
  obtain ⟨t, rfl, h2⟩ := h
  exact g t h2
theorem Ev.bd3 {T0 T1 T2 Z : Type} {o : Option (T0 × T1 × T2)} {k : T0 → T1 → T2 → Option Z} {Q : Z → Prop} {G : (T0 × T1 × T2) → Prop} (h : Ev o G) (g : ∀ t : T0 × T1 × T2, G t → Ev (k t.1 t.2.1 t.2.2) Q) : Ev (bd3 o k) Q := by
  obtain ⟨t, rfl, h2⟩ := h
  exact g t h2
theorem Ev.bd4 {T0 T1 T2 T3 Z : Type} {o : Option (T0 × T1 × T2 × T3)} {k : T0 → T1 → T2 → T3 → Option Z} {Q : Z → Prop} {G : (T0 × T1 × T2 × T3) → Prop} (h : Ev o G) (g : ∀ t : T0 × T1 × T2 × T3, G t → Ev (k t.1 t.2.1 t.2.2.1 t.2.2.2) Q) : Ev (bd4 o k) Q := by
  obtain ⟨t, rfl, h2⟩ := h
  exact g t h2
theorem Ev.bd5 {T0 T1 T2 T3 T4 Z : Type} {o : Option (T0 × T1 × T2 × T3 × T4)} {k : T0 → T1 → T2 → T3 → T4 → Option Z} {Q : Z → Prop} {G : (T0 × T1 × T2 × T3 × T4) → Prop} (h : Ev o G) (g : ∀ t : T0 × T1 × T2 × T3 × T4, G t → Ev (k t.1 t.2.1 t.2.2.1 t.2.2.2.1 t.2.2.2.2) Q) : Ev (bd5 o k) Q := by
  obtain ⟨t, rfl, h2⟩ := h
  exact g t h2
theorem Ev.bd6 {T0 T1 T2 T3 T4 T5 Z : Type} {o : Option (T0 × T1 × T2 × T3 × T4 × T5)} {k : T0 → T1 → T2 → T3 → T4 → T5 → Option Z} {Q : Z → Prop} {G : (T0 × T1 × T2 × T3 × T4 × T5) → Prop} (h : Ev o G) (g : ∀ t : T0 × T1 × T2 × T3 × T4 × T5, G t → Ev (k t.1 t.2.1 t.2.2.1 t.2.2.2.1 t.2.2.2.2.1 t.2.2.2.2.2) Q) : Ev (bd6 o k) Q := by
  obtain ⟨t, rfl, h2⟩ := h
  exact g t h2
theorem Ev.bd7 {T0 T1 T2 T3 T4 T5 T6 Z : Type} {o : Option (T0 × T1 × T2 × T3 × T4 × T5 × T6)} {k : T0 → T1 → T2 → T3 → T4 → T5 → T6 → Option Z} {Q : Z → Prop} {G : (T0 × T1 × T2 × T3 × T4 × T5 × T6) → Prop} (h : Ev o G) (g : ∀ t : T0 × T1 × T2 × T3 × T4 × T5 × T6, G t → Ev (k t.1 t.2.1 t.2.2.1 t.2.2.2.1 t.2.2.2.2.1 t.2.2.2.2.2.1 t.2.2.2.2.2.2) Q) : Ev (bd7 o k) Q := by
  obtain ⟨t, rfl, h2⟩ := h
  exact g t h2
theorem Ev.bd8 {T0 T1 T2 T3 T4 T5 T6 T7 Z : Type} {o : Option (T0 × T1 × T2 × T3 × T4 × T5 × T6 × T7)} {k : T0 → T1 → T2 → T3 → T4 → T5 → T6 → T7 → Option Z} {Q : Z → Prop} {G : (T0 × T1 × T2 × T3 × T4 × T5 × T6 × T7) → Prop} (h : Ev o G) (g : ∀ t : T0 × T1 × T2 × T3 × T4 × T5 × T6 × T7, G t → Ev (k t.1 t.2.1 t.2.2.1 t.2.2.2.1 t.2.2.2.2.1 t.2.2.2.2.2.1 t.2.2.2.2.2.2.1 t.2.2.2.2.2.2.2) Q) : Ev (bd8 o k) Q := by
  obtain ⟨t, rfl, h2⟩ := h
  exact g t h2
theorem Ev.bd9 {T0 T1 T2 T3 T4 T5 T6 T7 T8 Z : Type} {o : Option (T0 × T1 × T2 × T3 × T4 × T5 × T6 × T7 × T8)} {k : T0 → T1 → T2 → T3 → T4 → T5 → T6 → T7 → T8 → Option Z} {Q : Z → Prop} {G : (T0 × T1 × T2 × T3 × T4 × T5 × T6 × T7 × T8) → Prop} (h : Ev o G) (g : ∀ t : T0 × T1 × T2 × T3 × T4 × T5 × T6 × T7 × T8, G t → Ev (k t.1 t.2.1 t.2.2.1 t.2.2.2.1 t.2.2.2.2.1 t.2.2.2.2.2.1 t.2.2.2.2.2.2.1 t.2.2.2.2.2.2.2.1 t.2.2.2.2.2.2.2.2) Q) : Ev (bd9 o k) Q := by
  obtain ⟨t, rfl, h2⟩ := h
  exact g t h2
theorem Ev.bd10 {T0 T1 T2 T3 T4 T5 T6 T7 T8 T9 Z : Type} {o : Option (T0 × T1 × T2 × T3 × T4 × T5 × T6 × T7 × T8 × T9)} {k : T0 → T1 → T2 → T3 → T4 → T5 → T6 → T7 → T8 → T9 → Option Z} {Q : Z → Prop} {G : (T0 × T1 × T2 × T3 × T4 × T5 × T6 × T7 × T8 × T9) → Prop} (h : Ev o G) (g : ∀ t : T0 × T1 × T2 × T3 × T4 × T5 × T6 × T7 × T8 × T9, G t → Ev (k t.1 t.2.1 t.2.2.1 t.2.2.2.1 t.2.2.2.2.1 t.2.2.2.2.2.1 t.2.2.2.2.2.2.1 t.2.2.2.2.2.2.2.1 t.2.2.2.2.2.2.2.2.1 t.2.2.2.2.2.2.2.2.2) Q) : Ev (bd10 o k) Q := by
  obtain ⟨t, rfl, h2⟩ := h
  exact g t h2
theorem Ev.bd11 {T0 T1 T2 T3 T4 T5 T6 T7 T8 T9 T10 Z : Type} {o : Option (T0 × T1 × T2 × T3 × T4 × T5 × T6 × T7 × T8 × T9 × T10)} {k : T0 → T1 → T2 → T3 → T4 → T5 → T6 → T7 → T8 → T9 → T10 → Option Z} {Q : Z → Prop} {G : (T0 × T1 × T2 × T3 × T4 × T5 × T6 × T7 × T8 × T9 × T10) → Prop} (h : Ev o G) (g : ∀ t : T0 × T1 × T2 × T3 × T4 × T5 × T6 × T7 × T8 × T9 × T10, G t → Ev (k t.1 t.2.1 t.2.2.1 t.2.2.2.1 t.2.2.2.2.1 t.2.2.2.2.2.1 t.2.2.2.2.2.2.1 t.2.2.2.2.2.2.2.1 t.2.2.2.2.2.2.2.2.1 t.2.2.2.2.2.2.2.2.2.1 t.2.2.2.2.2.2.2.2.2.2) Q) : Ev (bd11 o k) Q := by
  obtain ⟨t, rfl, h2⟩ := h
  exact g t h2
theorem Ev.bd12 {T0 T1 T2 T3 T4 T5 T6 T7 T8 T9 T10 T11 Z : Type} {o : Option (T0 × T1 × T2 × T3 × T4 × T5 × T6 × T7 × T8 × T9 × T10 × T11)} {k : T0 → T1 → T2 → T3 → T4 → T5 → T6 → T7 → T8 → T9 → T10 → T11 → Option Z} {Q : Z → Prop} {G : (T0 × T1 × T2 × T3 × T4 × T5 × T6 × T7 × T8 × T9 × T10 × T11) → Prop} (h : Ev o G) (g : ∀ t : T0 × T1 × T2 × T3 × T4 × T5 × T6 × T7 × T8 × T9 × T10 × T11, G t → Ev (k t.1 t.2.1 t.2.2.1 t.2.2.2.1 t.2.2.2.2.1 t.2.2.2.2.2.1 t.2.2.2.2.2.2.1 t.2.2.2.2.2.2.2.1 t.2.2.2.2.2.2.2.2.1 t.2.2.2.2.2.2.2.2.2.1 t.2.2.2.2.2.2.2.2.2.2.1 t.2.2.2.2.2.2.2.2.2.2.2) Q) : Ev (bd12 o k) Q := by
  obtain ⟨t, rfl, h2⟩ := h
  exact g t h2
theorem Ev.bd13 {T0 T1 T2 T3 T4 T5 T6 T7 T8 T9 T10 T11 T12 Z : Type} {o : Option (T0 × T1 × T2 × T3 × T4 × T5 × T6 × T7 × T8 × T9 × T10 × T11 × T12)} {k : T0 → T1 → T2 → T3 → T4 → T5 → T6 → T7 → T8 → T9 → T10 → T11 → T12 → Option Z} {Q : Z → Prop} {G : (T0 × T1 × T2 × T3 × T4 × T5 × T6 × T7 × T8 × T9 × T10 × T11 × T12) → Prop} (h : Ev o G) (g : ∀ t : T0 × T1 × T2 × T3 × T4 × T5 × T6 × T7 × T8 × T9 × T10 × T11 × T12, G t → Ev (k t.1 t.2.1 t.2.2.1 t.2.2.2.1 t.2.2.2.2.1 t.2.2.2.2.2.1 t.2.2.2.2.2.2.1 t.2.2.2.2.2.2.2.1 t.2.2.2.2.2.2.2.2.1 t.2.2.2.2.2.2.2.2.2.1 t.2.2.2.2.2.2.2.2.2.2.1 t.2.2.2.2.2.2.2.2.2.2.2.1 t.2.2.2.2.2.2.2.2.2.2.2.2) Q) : Ev (bd13 o k) Q := by
  obtain ⟨t, rfl, h2⟩ := h
  exact g t h2
theorem Ev.bd14 {T0 T1 T2 T3 T4 T5 T6 T7 T8 T9 T10 T11 T12 T13 Z : Type} {o : Option (T0 × T1 × T2 × T3 × T4 × T5 × T6 × T7 × T8 × T9 × T10 × T11 × T12 × T13)} {k : T0 → T1 → T2 → T3 → T4 → T5 → T6 → T7 → T8 → T9 → T10 → T11 → T12 → T13 → Option Z} {Q : Z → Prop} {G : (T0 × T1 × T2 × T3 × T4 × T5 × T6 × T7 × T8 × T9 × T10 × T11 × T12 × T13) → Prop} (h : Ev o G) (g : ∀ t : T0 × T1 × T2 × T3 × T4 × T5 × T6 × T7 × T8 × T9 × T10 × T11 × T12 × T13, G t → Ev (k t.1 t.2.1 t.2.2.1 t.2.2.2.1 t.2.2.2.2.1 t.2.2.2.2.2.1 t.2.2.2.2.2.2.1 t.2.2.2.2.2.2.2.1 t.2.2.2.2.2.2.2.2.1 t.2.2.2.2.2.2.2.2.2.1 t.2.2.2.2.2.2.2.2.2.2.1 t.2.2.2.2.2.2.2.2.2.2.2.1 t.2.2.2.2.2.2.2.2.2.2.2.2.1 t.2.2.2.2.2.2.2.2.2.2.2.2.2) Q) : Ev (bd14 o k) Q := by
  obtain ⟨t, rfl, h2⟩ := h
  exact g t h2
theorem Ev.bd15 {T0 T1 T2 T3 T4 T5 T6 T7 T8 T9 T10 T11 T12 T13 T14 Z : Type} {o : Option (T0 × T1 × T2 × T3 × T4 × T5 × T6 × T7 × T8 × T9 × T10 × T11 × T12 × T13 × T14)} {k : T0 → T1 → T2 → T3 → T4 → T5 → T6 → T7 → T8 → T9 → T10 → T11 → T12 → T13 → T14 → Option Z} {Q : Z → Prop} {G : (T0 × T1 × T2 × T3 × T4 × T5 × T6 × T7 × T8 × T9 × T10 × T11 × T12 × T13 × T14) → Prop} (h : Ev o G) (g : ∀ t : T0 × T1 × T2 × T3 × T4 × T5 × T6 × T7 × T8 × T9 × T10 × T11 × T12 × T13 × T14, G t → Ev (k t.1 t.2.1 t.2.2.1 t.2.2.2.1 t.2.2.2.2.1 t.2.2.2.2.2.1 t.2.2.2.2.2.2.1 t.2.2.2.2.2.2.2.1 t.2.2.2.2.2.2.2.2.1 t.2.2.2.2.2.2.2.2.2.1 t.2.2.2.2.2.2.2.2.2.2.1 t.2.2.2.2.2.2.2.2.2.2.2.1 t.2.2.2.2.2.2.2.2.2.2.2.2.1 t.2.2.2.2.2.2.2.2.2.2.2.2.2.1 t.2.2.2.2.2.2.2.2.2.2.2.2.2.2) Q) : Ev (bd15 o k) Q := by
  obtain ⟨t, rfl, h2⟩ := h
  exact g t h2
theorem Ev.bd16 {T0 T1 T2 T3 T4 T5 T6 T7 T8 T9 T10 T11 T12 T13 T14 T15 Z : Type} {o : Option (T0 × T1 × T2 × T3 × T4 × T5 × T6 × T7 × T8 × T9 × T10 × T11 × T12 × T13 × T14 × T15)} {k : T0 → T1 → T2 → T3 → T4 → T5 → T6 → T7 → T8 → T9 → T10 → T11 → T12 → T13 → T14 → T15 → Option Z} {Q : Z → Prop} {G : (T0 × T1 × T2 × T3 × T4 × T5 × T6 × T7 × T8 × T9 × T10 × T11 × T12 × T13 × T14 × T15) → Prop} (h : Ev o G) (g : ∀ t : T0 × T1 × T2 × T3 × T4 × T5 × T6 × T7 × T8 × T9 × T10 × T11 × T12 × T13 × T14 × T15, G t → Ev (k t.1 t.2.1 t.2.2.1 t.2.2.2.1 t.2.2.2.2.1 t.2.2.2.2.2.1 t.2.2.2.2.2.2.1 t.2.2.2.2.2.2.2.1 t.2.2.2.2.2.2.2.2.1 t.2.2.2.2.2.2.2.2.2.1 t.2.2.2.2.2.2.2.2.2.2.1 t.2.2.2.2.2.2.2.2.2.2.2.1 t.2.2.2.2.2.2.2.2.2.2.2.2.1 t.2.2.2.2.2.2.2.2.2.2.2.2.2.1 t.2.2.2.2.2.2.2.2.2.2.2.2.2.2.1 t.2.2.2.2.2.2.2.2.2.2.2.2.2.2.2) Q) : Ev (bd16 o k) Q := by
  obtain ⟨t, rfl, h2⟩ := h
  exact g t h2
theorem Ev.bd17 {T0 T1 T2 T3 T4 T5 T6 T7 T8 T9 T10 T11 T12 T13 T14 T15 T16 Z : Type} {o : Option (T0 × T1 × T2 × T3 × T4 × T5 × T6 × T7 × T8 × T9 × T10 × T11 × T12 × T13 × T14 × T15 × T16)} {k : T0 → T1 → T2 → T3 → T4 → T5 → T6 → T7 → T8 → T9 → T10 → T11 → T12 → T13 → T14 → T15 → T16 → Option Z} {Q : Z → Prop} {G : (T0 × T1 × T2 × T3 × T4 × T5 × T6 × T7 × T8 × T9 × T10 × T11 × T12 × T13 × T14 × T15 × T16) → Prop} (h : Ev o G) (g : ∀ t : T0 × T1 × T2 × T3 × T4 × T5 × T6 × T7 × T8 × T9 × T10 × T11 × T12 × T13 × T14 × T15 × T16, G t → Ev (k t.1 t.2.1 t.2.2.1 t.2.2.2.1 t.2.2.2.2.1 t.2.2.2.2.2.1 t.2.2.2.2.2.2.1 t.2.2.2.2.2.2.2.1 t.2.2.2.2.2.2.2.2.1 t.2.2.2.2.2.2.2.2.2.1 t.2.2.2.2.2.2.2.2.2.2.1 t.2.2.2.2.2.2.2.2.2.2.2.1 t.2.2.2.2.2.2.2.2.2.2.2.2.1 t.2.2.2.2.2.2.2.2.2.2.2.2.2.1 t.2.2.2.2.2.2.2.2.2.2.2.2.2.2.1 t.2.2.2.2.2.2.2.2.2.2.2.2.2.2.2.1 t.2.2.2.2.2.2.2.2.2.2.2.2.2.2.2.2) Q) : Ev (bd17 o k) Q := by
  obtain ⟨t, rfl, h2⟩ := h
  exact g t h2
theorem Ev.bd18 {T0 T1 T2 T3 T4 T5 T6 T7 T8 T9 T10 T11 T12 T13 T14 T15 T16 T17 Z : Type} {o : Option (T0 × T1 × T2 × T3 × T4 × T5 × T6 × T7 × T8 × T9 × T10 × T11 × T12 × T13 × T14 × T15 × T16 × T17)} {k : T0 → T1 → T2 → T3 → T4 → T5 → T6 → T7 → T8 → T9 → T10 → T11 → T12 → T13 → T14 → T15 → T16 → T17 → Option Z} {Q : Z → Prop} {G : (T0 × T1 × T2 × T3 × T4 × T5 × T6 × T7 × T8 × T9 × T10 × T11 × T12 × T13 × T14 × T15 × T16 × T17) → Prop} (h : Ev o G) (g : ∀ t : T0 × T1 × T2 × T3 × T4 × T5 × T6 × T7 × T8 × T9 × T10 × T11 × T12 × T13 × T14 × T15 × T16 × T17, G t → Ev (k t.1 t.2.1 t.2.2.1 t.2.2.2.1 t.2.2.2.2.1 t.2.2.2.2.2.1 t.2.2.2.2.2.2.1 t.2.2.2.2.2.2.2.1 t.2.2.2.2.2.2.2.2.1 t.2.2.2.2.2.2.2.2.2.1 t.2.2.2.2.2.2.2.2.2.2.1 t.2.2.2.2.2.2.2.2.2.2.2.1 t.2.2.2.2.2.2.2.2.2.2.2.2.1 t.2.2.2.2.2.2.2.2.2.2.2.2.2.1 t.2.2.2.2.2.2.2.2.2.2.2.2.2.2.1 t.2.2.2.2.2.2.2.2.2.2.2.2.2.2.2.1 t.2.2.2.2.2.2.2.2.2.2.2.2.2.2.2.2.1 t.2.2.2.2.2.2.2.2.2.2.2.2.2.2.2.2.2) Q) : Ev (bd18 o k) Q := by
  obtain ⟨t, rfl, h2⟩ := h
  exact g t h2
theorem Ev.bd19 {T0 T1 T2 T3 T4 T5 T6 T7 T8 T9 T10 T11 T12 T13 T14 T15 T16 T17 T18 Z : Type} {o : Option (T0 × T1 × T2 × T3 × T4 × T5 × T6 × T7 × T8 × T9 × T10 × T11 × T12 × T13 × T14 × T15 × T16 × T17 × T18)} {k : T0 → T1 → T2 → T3 → T4 → T5 → T6 → T7 → T8 → T9 → T10 → T11 → T12 → T13 → T14 → T15 → T16 → T17 → T18 → Option Z} {Q : Z → Prop} {G : (T0 × T1 × T2 × T3 × T4 × T5 × T6 × T7 × T8 × T9 × T10 × T11 × T12 × T13 × T14 × T15 × T16 × T17 × T18) → Prop} (h : Ev o G) (g : ∀ t : T0 × T1 × T2 × T3 × T4 × T5 × T6 × T7 × T8 × T9 × T10 × T11 × T12 × T13 × T14 × T15 × T16 × T17 × T18, G t → Ev (k t.1 t.2.1 t.2.2.1 t.2.2.2.1 t.2.2.2.2.1 t.2.2.2.2.2.1 t.2.2.2.2.2.2.1 t.2.2.2.2.2.2.2.1 t.2.2.2.2.2.2.2.2.1 t.2.2.2.2.2.2.2.2.2.1 t.2.2.2.2.2.2.2.2.2.2.1 t.2.2.2.2.2.2.2.2.2.2.2.1 t.2.2.2.2.2.2.2.2.2.2.2.2.1 t.2.2.2.2.2.2.2.2.2.2.2.2.2.1 t.2.2.2.2.2.2.2.2.2.2.2.2.2.2.1 t.2.2.2.2.2.2.2.2.2.2.2.2.2.2.2.1 t.2.2.2.2.2.2.2.2.2.2.2.2.2.2.2.2.1 t.2.2.2.2.2.2.2.2.2.2.2.2.2.2.2.2.2.1 t.2.2.2.2.2.2.2.2.2.2.2.2.2.2.2.2.2.2) Q) : Ev (bd19 o k) Q := by
  obtain ⟨t, rfl, h2⟩ := h
  exact g t h2
theorem Ev.bd20 {T0 T1 T2 T3 T4 T5 T6 T7 T8 T9 T10 T11 T12 T13 T14 T15 T16 T17 T18 T19 Z : Type} {o : Option (T0 × T1 × T2 × T3 × T4 × T5 × T6 × T7 × T8 × T9 × T10 × T11 × T12 × T13 × T14 × T15 × T16 × T17 × T18 × T19)} {k : T0 → T1 → T2 → T3 → T4 → T5 → T6 → T7 → T8 → T9 → T10 → T11 → T12 → T13 → T14 → T15 → T16 → T17 → T18 → T19 → Option Z} {Q : Z → Prop} {G : (T0 × T1 × T2 × T3 × T4 × T5 × T6 × T7 × T8 × T9 × T10 × T11 × T12 × T13 × T14 × T15 × T16 × T17 × T18 × T19) → Prop} (h : Ev o G) (g : ∀ t : T0 × T1 × T2 × T3 × T4 × T5 × T6 × T7 × T8 × T9 × T10 × T11 × T12 × T13 × T14 × T15 × T16 × T17 × T18 × T19, G t → Ev (k t.1 t.2.1 t.2.2.1 t.2.2.2.1 t.2.2.2.2.1 t.2.2.2.2.2.1 t.2.2.2.2.2.2.1 t.2.2.2.2.2.2.2.1 t.2.2.2.2.2.2.2.2.1 t.2.2.2.2.2.2.2.2.2.1 t.2.2.2.2.2.2.2.2.2.2.1 t.2.2.2.2.2.2.2.2.2.2.2.1 t.2.2.2.2.2.2.2.2.2.2.2.2.1 t.2.2.2.2.2.2.2.2.2.2.2.2.2.1 t.2.2.2.2.2.2.2.2.2.2.2.2.2.2.1 t.2.2.2.2.2.2.2.2.2.2.2.2.2.2.2.1 t.2.2.2.2.2.2.2.2.2.2.2.2.2.2.2.2.1 t.2.2.2.2.2.2.2.2.2.2.2.2.2.2.2.2.2.1 t.2.2.2.2.2.2.2.2.2.2.2.2.2.2.2.2.2.2.1 t.2.2.2.2.2.2.2.2.2.2.2.2.2.2.2.2.2.2.2) Q) : Ev (bd20 o k) Q := by
  obtain ⟨t, rfl, h2⟩ := h
  exact g t h2
theorem zl1c0 { Z : Type} {b : (Int32 → Option Z) → Int32 → Option Z} {Q : Z → Prop} (n : Nat) (P : Nat → Prop) (hs : ∀ (rec : Int32 → Option Z) (i : Nat) , i < n → P i  → Ev (b rec (nI i)) Q ∨ (b rec (nI i) = rec (nI (i + 1)) ∧ P (i + 1) )) (he : ∀ (rec : Int32 → Option Z) , P n  → Ev (b rec (nI n)) Q) : ∀ (N i : Nat) , i ≤ n → n - i < N → P i  → Ev (zl1 b N (nI i)) Q := by
  intro N
  induction N with
  | zero => intro i  _ h; omega
  | succ N ih =>
    intro i  hi hN hP
    show Ev (b (zl1 b N) (nI i)) Q
    rcases Nat.lt_or_ge i n with h | h
    · rcases hs (zl1 b N) i  h hP with h1 | ⟨e, h2⟩
      · exact h1
      · rw [e]; exact ih (i + 1)  h (by omega) h2
    · have e : i = n := by omega
      subst e
      exact he _  hP
theorem zl1g0 { Z : Type} {b : (Int32 → Option Z) → Int32 → Option Z} (J : Option Z → Prop) (n : Nat) (P : Nat → Prop) (hs : ∀ (rec : Int32 → Option Z) (i : Nat) , i < n → P i  → J (b rec (nI i)) ∨ (b rec (nI i) = rec (nI (i + 1)) ∧ P (i + 1) )) (he : ∀ (rec : Int32 → Option Z) , P n  → J (b rec (nI n))) : ∀ (N i : Nat) , i ≤ n → n - i < N → P i  → J (zl1 b N (nI i)) := by
  intro N
  induction N with
  | zero => intro i  _ h; omega
  | succ N ih =>
    intro i  hi hN hP
    show J (b (zl1 b N) (nI i))
    rcases Nat.lt_or_ge i n with h | h
    · rcases hs (zl1 b N) i  h hP with h1 | ⟨e, h2⟩
      · exact h1
      · rw [e]; exact ih (i + 1)  h (by omega) h2
    · have e : i = n := by omega
      subst e
      exact he _  hP
theorem zl2c0 {T1 Z : Type} {b : (Int32 → T1 → Option Z) → Int32 → T1 → Option Z} {Q : Z → Prop} (n : Nat) (P : Nat → T1 → Prop) (hs : ∀ (rec : Int32 → T1 → Option Z) (i : Nat) (v1 : T1), i < n → P i v1 → Ev (b rec (nI i) v1) Q ∨ (∃ w1, b rec (nI i) v1 = rec (nI (i + 1)) w1 ∧ P (i + 1) w1)) (he : ∀ (rec : Int32 → T1 → Option Z) (v1 : T1), P n v1 → Ev (b rec (nI n) v1) Q) : ∀ (N i : Nat) (v1 : T1), i ≤ n → n - i < N → P i v1 → Ev (zl2 b N (nI i) v1) Q := by
  intro N
  induction N with
  | zero => intro i v1 _ h; omega
  | succ N ih =>
    intro i v1 hi hN hP
    show Ev (b (zl2 b N) (nI i) v1) Q
    rcases Nat.lt_or_ge i n with h | h
    · rcases hs (zl2 b N) i v1 h hP with h1 | ⟨w1, e, h2⟩
      · exact h1
      · rw [e]; exact ih (i + 1) w1 h (by omega) h2
    · have e : i = n := by omega
      subst e
      exact he _ v1 hP
theorem zl2g0 {T1 Z : Type} {b : (Int32 → T1 → Option Z) → Int32 → T1 → Option Z} (J : Option Z → Prop) (n : Nat) (P : Nat → T1 → Prop) (hs : ∀ (rec : Int32 → T1 → Option Z) (i : Nat) (v1 : T1), i < n → P i v1 → J (b rec (nI i) v1) ∨ (∃ w1, b rec (nI i) v1 = rec (nI (i + 1)) w1 ∧ P (i + 1) w1)) (he : ∀ (rec : Int32 → T1 → Option Z) (v1 : T1), P n v1 → J (b rec (nI n) v1)) : ∀ (N i : Nat) (v1 : T1), i ≤ n → n - i < N → P i v1 → J (zl2 b N (nI i) v1) := by
  intro N
  induction N with
  | zero => intro i v1 _ h; omega
  | succ N ih =>
    intro i v1 hi hN hP
    show J (b (zl2 b N) (nI i) v1)
    rcases Nat.lt_or_ge i n with h | h
    · rcases hs (zl2 b N) i v1 h hP with h1 | ⟨w1, e, h2⟩
      · exact h1
      · rw [e]; exact ih (i + 1) w1 h (by omega) h2
    · have e : i = n := by omega
      subst e
      exact he _ v1 hP
theorem zl2c1 {T0 Z : Type} {b : (T0 → Int32 → Option Z) → T0 → Int32 → Option Z} {Q : Z → Prop} (n : Nat) (P : Nat → T0 → Prop) (hs : ∀ (rec : T0 → Int32 → Option Z) (i : Nat) (v0 : T0), i < n → P i v0 → Ev (b rec v0 (nI i)) Q ∨ (∃ w0, b rec v0 (nI i) = rec w0 (nI (i + 1)) ∧ P (i + 1) w0)) (he : ∀ (rec : T0 → Int32 → Option Z) (v0 : T0), P n v0 → Ev (b rec v0 (nI n)) Q) : ∀ (N i : Nat) (v0 : T0), i ≤ n → n - i < N → P i v0 → Ev (zl2 b N v0 (nI i)) Q := by
  intro N
  induction N with
  | zero => intro i v0 _ h; omega
  | succ N ih =>
    intro i v0 hi hN hP
    show Ev (b (zl2 b N) v0 (nI i)) Q
    rcases Nat.lt_or_ge i n with h | h
    · rcases hs (zl2 b N) i v0 h hP with h1 | ⟨w0, e, h2⟩
      · exact h1
      · rw [e]; exact ih (i + 1) w0 h (by omega) h2
    · have e : i = n := by omega
      subst e
      exact he _ v0 hP
theorem zl2g1 {T0 Z : Type} {b : (T0 → Int32 → Option Z) → T0 → Int32 → Option Z} (J : Option Z → Prop) (n : Nat) (P : Nat → T0 → Prop) (hs : ∀ (rec : T0 → Int32 → Option Z) (i : Nat) (v0 : T0), i < n → P i v0 → J (b rec v0 (nI i)) ∨ (∃ w0, b rec v0 (nI i) = rec w0 (nI (i + 1)) ∧ P (i + 1) w0)) (he : ∀ (rec : T0 → Int32 → Option Z) (v0 : T0), P n v0 → J (b rec v0 (nI n))) : ∀ (N i : Nat) (v0 : T0), i ≤ n → n - i < N → P i v0 → J (zl2 b N v0 (nI i)) := by
  intro N
  induction N with
  | zero => intro i v0 _ h; omega
  | succ N ih =>
    intro i v0 hi hN hP
    show J (b (zl2 b N) v0 (nI i))
    rcases Nat.lt_or_ge i n with h | h
    · rcases hs (zl2 b N) i v0 h hP with h1 | ⟨w0, e, h2⟩
      · exact h1
      · rw [e]; exact ih (i + 1) w0 h (by omega) h2
    · have e : i = n := by omega
      subst e
      exact he _ v0 hP
theorem zl3c0 {T1 T2 Z : Type} {b : (Int32 → T1 → T2 → Option Z) → Int32 → T1 → T2 → Option Z} {Q : Z → Prop} (n : Nat) (P : Nat → T1 → T2 → Prop) (hs : ∀ (rec : Int32 → T1 → T2 → Option Z) (i : Nat) (v1 : T1) (v2 : T2), i < n → P i v1 v2 → Ev (b rec (nI i) v1 v2) Q ∨ (∃ w1 w2, b rec (nI i) v1 v2 = rec (nI (i + 1)) w1 w2 ∧ P (i + 1) w1 w2)) (he : ∀ (rec : Int32 → T1 → T2 → Option Z) (v1 : T1) (v2 : T2), P n v1 v2 → Ev (b rec (nI n) v1 v2) Q) : ∀ (N i : Nat) (v1 : T1) (v2 : T2), i ≤ n → n - i < N → P i v1 v2 → Ev (zl3 b N (nI i) v1 v2) Q := by
  intro N
  induction N with
  | zero => intro i v1 v2 _ h; omega
  | succ N ih =>
    intro i v1 v2 hi hN hP
    show Ev (b (zl3 b N) (nI i) v1 v2) Q
    rcases Nat.lt_or_ge i n with h | h
    · rcases hs (zl3 b N) i v1 v2 h hP with h1 | ⟨w1, w2, e, h2⟩
      · exact h1
      · rw [e]; exact ih (i + 1) w1 w2 h (by omega) h2
    · have e : i = n := by omega
      subst e
      exact he _ v1 v2 hP
theorem zl3g0 {T1 T2 Z : Type} {b : (Int32 → T1 → T2 → Option Z) → Int32 → T1 → T2 → Option Z} (J : Option Z → Prop) (n : Nat) (P : Nat → T1 → T2 → Prop) (hs : ∀ (rec : Int32 → T1 → T2 → Option Z) (i : Nat) (v1 : T1) (v2 : T2), i < n → P i v1 v2 → J (b rec (nI i) v1 v2) ∨ (∃ w1 w2, b rec (nI i) v1 v2 = rec (nI (i + 1)) w1 w2 ∧ P (i + 1) w1 w2)) (he : ∀ (rec : Int32 → T1 → T2 → Option Z) (v1 : T1) (v2 : T2), P n v1 v2 → J (b rec (nI n) v1 v2)) : ∀ (N i : Nat) (v1 : T1) (v2 : T2), i ≤ n → n - i < N → P i v1 v2 → J (zl3 b N (nI i) v1 v2) := by
  intro N
  induction N with
  | zero => intro i v1 v2 _ h; omega
  | succ N ih =>
    intro i v1 v2 hi hN hP
    show J (b (zl3 b N) (nI i) v1 v2)
    rcases Nat.lt_or_ge i n with h | h
    · rcases hs (zl3 b N) i v1 v2 h hP with h1 | ⟨w1, w2, e, h2⟩
      · exact h1
      · rw [e]; exact ih (i + 1) w1 w2 h (by omega) h2
    · have e : i = n := by omega
      subst e
      exact he _ v1 v2 hP
theorem zl3c1 {T0 T2 Z : Type} {b : (T0 → Int32 → T2 → Option Z) → T0 → Int32 → T2 → Option Z} {Q : Z → Prop} (n : Nat) (P : Nat → T0 → T2 → Prop) (hs : ∀ (rec : T0 → Int32 → T2 → Option Z) (i : Nat) (v0 : T0) (v2 : T2), i < n → P i v0 v2 → Ev (b rec v0 (nI i) v2) Q ∨ (∃ w0 w2, b rec v0 (nI i) v2 = rec w0 (nI (i + 1)) w2 ∧ P (i + 1) w0 w2)) (he : ∀ (rec : T0 → Int32 → T2 → Option Z) (v0 : T0) (v2 : T2), P n v0 v2 → Ev (b rec v0 (nI n) v2) Q) : ∀ (N i : Nat) (v0 : T0) (v2 : T2), i ≤ n → n - i < N → P i v0 v2 → Ev (zl3 b N v0 (nI i) v2) Q := by
  intro N
  induction N with
  | zero => intro i v0 v2 _ h; omega
  | succ N ih =>
    intro i v0 v2 hi hN hP
    show Ev (b (zl3 b N) v0 (nI i) v2) Q
    rcases Nat.lt_or_ge i n with h | h
    · rcases hs (zl3 b N) i v0 v2 h hP with h1 | ⟨w0, w2, e, h2⟩
      · exact h1
      · rw [e]; exact ih (i + 1) w0 w2 h (by omega) h2
    · have e : i = n := by omega
      subst e
      exact he _ v0 v2 hP
theorem zl3g1 {T0 T2 Z : Type} {b : (T0 → Int32 → T2 → Option Z) → T0 → Int32 → T2 → Option Z} (J : Option Z → Prop) (n : Nat) (P : Nat → T0 → T2 → Prop) (hs : ∀ (rec : T0 → Int32 → T2 → Option Z) (i : Nat) (v0 : T0) (v2 : T2), i < n → P i v0 v2 → J (b rec v0 (nI i) v2) ∨ (∃ w0 w2, b rec v0 (nI i) v2 = rec w0 (nI (i + 1)) w2 ∧ P (i + 1) w0 w2)) (he : ∀ (rec : T0 → Int32 → T2 → Option Z) (v0 : T0) (v2 : T2), P n v0 v2 → J (b rec v0 (nI n) v2)) : ∀ (N i : Nat) (v0 : T0) (v2 : T2), i ≤ n → n - i < N → P i v0 v2 → J (zl3 b N v0 (nI i) v2) := by
  intro N
  induction N with
  | zero => intro i v0 v2 _ h; omega
  | succ N ih =>
    intro i v0 v2 hi hN hP
    show J (b (zl3 b N) v0 (nI i) v2)
    rcases Nat.lt_or_ge i n with h | h
    · rcases hs (zl3 b N) i v0 v2 h hP with h1 | ⟨w0, w2, e, h2⟩
      · exact h1
      · rw [e]; exact ih (i + 1) w0 w2 h (by omega) h2
    · have e : i = n := by omega
      subst e
      exact he _ v0 v2 hP
theorem zl3c2 {T0 T1 Z : Type} {b : (T0 → T1 → Int32 → Option Z) → T0 → T1 → Int32 → Option Z} {Q : Z → Prop} (n : Nat) (P : Nat → T0 → T1 → Prop) (hs : ∀ (rec : T0 → T1 → Int32 → Option Z) (i : Nat) (v0 : T0) (v1 : T1), i < n → P i v0 v1 → Ev (b rec v0 v1 (nI i)) Q ∨ (∃ w0 w1, b rec v0 v1 (nI i) = rec w0 w1 (nI (i + 1)) ∧ P (i + 1) w0 w1)) (he : ∀ (rec : T0 → T1 → Int32 → Option Z) (v0 : T0) (v1 : T1), P n v0 v1 → Ev (b rec v0 v1 (nI n)) Q) : ∀ (N i : Nat) (v0 : T0) (v1 : T1), i ≤ n → n - i < N → P i v0 v1 → Ev (zl3 b N v0 v1 (nI i)) Q := by
  intro N
  induction N with
  | zero => intro i v0 v1 _ h; omega
  | succ N ih =>
    intro i v0 v1 hi hN hP
    show Ev (b (zl3 b N) v0 v1 (nI i)) Q
    rcases Nat.lt_or_ge i n with h | h
    · rcases hs (zl3 b N) i v0 v1 h hP with h1 | ⟨w0, w1, e, h2⟩
      · exact h1
      · rw [e]; exact ih (i + 1) w0 w1 h (by omega) h2
    · have e : i = n := by omega
      subst e
      exact he _ v0 v1 hP
theorem zl3g2 {T0 T1 Z : Type} {b : (T0 → T1 → Int32 → Option Z) → T0 → T1 → Int32 → Option Z} (J : Option Z → Prop) (n : Nat) (P : Nat → T0 → T1 → Prop) (hs : ∀ (rec : T0 → T1 → Int32 → Option Z) (i : Nat) (v0 : T0) (v1 : T1), i < n → P i v0 v1 → J (b rec v0 v1 (nI i)) ∨ (∃ w0 w1, b rec v0 v1 (nI i) = rec w0 w1 (nI (i + 1)) ∧ P (i + 1) w0 w1)) (he : ∀ (rec : T0 → T1 → Int32 → Option Z) (v0 : T0) (v1 : T1), P n v0 v1 → J (b rec v0 v1 (nI n))) : ∀ (N i : Nat) (v0 : T0) (v1 : T1), i ≤ n → n - i < N → P i v0 v1 → J (zl3 b N v0 v1 (nI i)) := by
  intro N
  induction N with
  | zero => intro i v0 v1 _ h; omega
  | succ N ih =>
    intro i v0 v1 hi hN hP
    show J (b (zl3 b N) v0 v1 (nI i))
    rcases Nat.lt_or_ge i n with h | h
    · rcases hs (zl3 b N) i v0 v1 h hP with h1 | ⟨w0, w1, e, h2⟩
      · exact h1
      · rw [e]; exact ih (i + 1) w0 w1 h (by omega) h2
    · have e : i = n := by omega
      subst e
      exact he _ v0 v1 hP
theorem zl4c0 {T1 T2 T3 Z : Type} {b : (Int32 → T1 → T2 → T3 → Option Z) → Int32 → T1 → T2 → T3 → Option Z} {Q : Z → Prop} (n : Nat) (P : Nat → T1 → T2 → T3 → Prop) (hs : ∀ (rec : Int32 → T1 → T2 → T3 → Option Z) (i : Nat) (v1 : T1) (v2 : T2) (v3 : T3), i < n → P i v1 v2 v3 → Ev (b rec (nI i) v1 v2 v3) Q ∨ (∃ w1 w2 w3, b rec (nI i) v1 v2 v3 = rec (nI (i + 1)) w1 w2 w3 ∧ P (i + 1) w1 w2 w3)) (he : ∀ (rec : Int32 → T1 → T2 → T3 → Option Z) (v1 : T1) (v2 : T2) (v3 : T3), P n v1 v2 v3 → Ev (b rec (nI n) v1 v2 v3) Q) : ∀ (N i : Nat) (v1 : T1) (v2 : T2) (v3 : T3), i ≤ n → n - i < N → P i v1 v2 v3 → Ev (zl4 b N (nI i) v1 v2 v3) Q := by
  intro N
  induction N with
  | zero => intro i v1 v2 v3 _ h; omega
  | succ N ih =>
    intro i v1 v2 v3 hi hN hP
    show Ev (b (zl4 b N) (nI i) v1 v2 v3) Q
    rcases Nat.lt_or_ge i n with h | h
    · rcases hs (zl4 b N) i v1 v2 v3 h hP with h1 | ⟨w1, w2, w3, e, h2⟩
      · exact h1
      · rw [e]; exact ih (i + 1) w1 w2 w3 h (by omega) h2
    · have e : i = n := by omega
      subst e
      exact he _ v1 v2 v3 hP
theorem zl4g0 {T1 T2 T3 Z : Type} {b : (Int32 → T1 → T2 → T3 → Option Z) → Int32 → T1 → T2 → T3 → Option Z} (J : Option Z → Prop) (n : Nat) (P : Nat → T1 → T2 → T3 → Prop) (hs : ∀ (rec : Int32 → T1 → T2 → T3 → Option Z) (i : Nat) (v1 : T1) (v2 : T2) (v3 : T3), i < n → P i v1 v2 v3 → J (b rec (nI i) v1 v2 v3) ∨ (∃ w1 w2 w3, b rec (nI i) v1 v2 v3 = rec (nI (i + 1)) w1 w2 w3 ∧ P (i + 1) w1 w2 w3)) (he : ∀ (rec : Int32 → T1 → T2 → T3 → Option Z) (v1 : T1) (v2 : T2) (v3 : T3), P n v1 v2 v3 → J (b rec (nI n) v1 v2 v3)) : ∀ (N i : Nat) (v1 : T1) (v2 : T2) (v3 : T3), i ≤ n → n - i < N → P i v1 v2 v3 → J (zl4 b N (nI i) v1 v2 v3) := by
  intro N
  induction N with
  | zero => intro i v1 v2 v3 _ h; omega
  | succ N ih =>
    intro i v1 v2 v3 hi hN hP
    show J (b (zl4 b N) (nI i) v1 v2 v3)
    rcases Nat.lt_or_ge i n with h | h
    · rcases hs (zl4 b N) i v1 v2 v3 h hP with h1 | ⟨w1, w2, w3, e, h2⟩
      · exact h1
      · rw [e]; exact ih (i + 1) w1 w2 w3 h (by omega) h2
    · have e : i = n := by omega
      subst e
      exact he _ v1 v2 v3 hP
theorem zl4c1 {T0 T2 T3 Z : Type} {b : (T0 → Int32 → T2 → T3 → Option Z) → T0 → Int32 → T2 → T3 → Option Z} {Q : Z → Prop} (n : Nat) (P : Nat → T0 → T2 → T3 → Prop) (hs : ∀ (rec : T0 → Int32 → T2 → T3 → Option Z) (i : Nat) (v0 : T0) (v2 : T2) (v3 : T3), i < n → P i v0 v2 v3 → Ev (b rec v0 (nI i) v2 v3) Q ∨ (∃ w0 w2 w3, b rec v0 (nI i) v2 v3 = rec w0 (nI (i + 1)) w2 w3 ∧ P (i + 1) w0 w2 w3)) (he : ∀ (rec : T0 → Int32 → T2 → T3 → Option Z) (v0 : T0) (v2 : T2) (v3 : T3), P n v0 v2 v3 → Ev (b rec v0 (nI n) v2 v3) Q) : ∀ (N i : Nat) (v0 : T0) (v2 : T2) (v3 : T3), i ≤ n → n - i < N → P i v0 v2 v3 → Ev (zl4 b N v0 (nI i) v2 v3) Q := by
  intro N
  induction N with
  | zero => intro i v0 v2 v3 _ h; omega
  | succ N ih =>
    intro i v0 v2 v3 hi hN hP
    show Ev (b (zl4 b N) v0 (nI i) v2 v3) Q
    rcases Nat.lt_or_ge i n with h | h
    · rcases hs (zl4 b N) i v0 v2 v3 h hP with h1 | ⟨w0, w2, w3, e, h2⟩
      · exact h1
      · rw [e]; exact ih (i + 1) w0 w2 w3 h (by omega) h2
    · have e : i = n := by omega
      subst e
      exact he _ v0 v2 v3 hP
theorem zl4g1 {T0 T2 T3 Z : Type} {b : (T0 → Int32 → T2 → T3 → Option Z) → T0 → Int32 → T2 → T3 → Option Z} (J : Option Z → Prop) (n : Nat) (P : Nat → T0 → T2 → T3 → Prop) (hs : ∀ (rec : T0 → Int32 → T2 → T3 → Option Z) (i : Nat) (v0 : T0) (v2 : T2) (v3 : T3), i < n → P i v0 v2 v3 → J (b rec v0 (nI i) v2 v3) ∨ (∃ w0 w2 w3, b rec v0 (nI i) v2 v3 = rec w0 (nI (i + 1)) w2 w3 ∧ P (i + 1) w0 w2 w3)) (he : ∀ (rec : T0 → Int32 → T2 → T3 → Option Z) (v0 : T0) (v2 : T2) (v3 : T3), P n v0 v2 v3 → J (b rec v0 (nI n) v2 v3)) : ∀ (N i : Nat) (v0 : T0) (v2 : T2) (v3 : T3), i ≤ n → n - i < N → P i v0 v2 v3 → J (zl4 b N v0 (nI i) v2 v3) := by
  intro N
  induction N with
  | zero => intro i v0 v2 v3 _ h; omega
  | succ N ih =>
    intro i v0 v2 v3 hi hN hP
    show J (b (zl4 b N) v0 (nI i) v2 v3)
    rcases Nat.lt_or_ge i n with h | h
    · rcases hs (zl4 b N) i v0 v2 v3 h hP with h1 | ⟨w0, w2, w3, e, h2⟩
      · exact h1
      · rw [e]; exact ih (i + 1) w0 w2 w3 h (by omega) h2
    · have e : i = n := by omega
      subst e
      exact he _ v0 v2 v3 hP
theorem zl4c2 {T0 T1 T3 Z : Type} {b : (T0 → T1 → Int32 → T3 → Option Z) → T0 → T1 → Int32 → T3 → Option Z} {Q : Z → Prop} (n : Nat) (P : Nat → T0 → T1 → T3 → Prop) (hs : ∀ (rec : T0 → T1 → Int32 → T3 → Option Z) (i : Nat) (v0 : T0) (v1 : T1) (v3 : T3), i < n → P i v0 v1 v3 → Ev (b rec v0 v1 (nI i) v3) Q ∨ (∃ w0 w1 w3, b rec v0 v1 (nI i) v3 = rec w0 w1 (nI (i + 1)) w3 ∧ P (i + 1) w0 w1 w3)) (he : ∀ (rec : T0 → T1 → Int32 → T3 → Option Z) (v0 : T0) (v1 : T1) (v3 : T3), P n v0 v1 v3 → Ev (b rec v0 v1 (nI n) v3) Q) : ∀ (N i : Nat) (v0 : T0) (v1 : T1) (v3 : T3), i ≤ n → n - i < N → P i v0 v1 v3 → Ev (zl4 b N v0 v1 (nI i) v3) Q := by
  intro N
  induction N with
  | zero => intro i v0 v1 v3 _ h; omega
  | succ N ih =>
    intro i v0 v1 v3 hi hN hP
    show Ev (b (zl4 b N) v0 v1 (nI i) v3) Q
    rcases Nat.lt_or_ge i n with h | h
    · rcases hs (zl4 b N) i v0 v1 v3 h hP with h1 | ⟨w0, w1, w3, e, h2⟩
      · exact h1
      · rw [e]; exact ih (i + 1) w0 w1 w3 h (by omega) h2
    · have e : i = n := by omega
      subst e
      exact he _ v0 v1 v3 hP
theorem zl4g2 {T0 T1 T3 Z : Type} {b : (T0 → T1 → Int32 → T3 → Option Z) → T0 → T1 → Int32 → T3 → Option Z} (J : Option Z → Prop) (n : Nat) (P : Nat → T0 → T1 → T3 → Prop) (hs : ∀ (rec : T0 → T1 → Int32 → T3 → Option Z) (i : Nat) (v0 : T0) (v1 : T1) (v3 : T3), i < n → P i v0 v1 v3 → J (b rec v0 v1 (nI i) v3) ∨ (∃ w0 w1 w3, b rec v0 v1 (nI i) v3 = rec w0 w1 (nI (i + 1)) w3 ∧ P (i + 1) w0 w1 w3)) (he : ∀ (rec : T0 → T1 → Int32 → T3 → Option Z) (v0 : T0) (v1 : T1) (v3 : T3), P n v0 v1 v3 → J (b rec v0 v1 (nI n) v3)) : ∀ (N i : Nat) (v0 : T0) (v1 : T1) (v3 : T3), i ≤ n → n - i < N → P i v0 v1 v3 → J (zl4 b N v0 v1 (nI i) v3) := by
  intro N
  induction N with
  | zero => intro i v0 v1 v3 _ h; omega
  | succ N ih =>
    intro i v0 v1 v3 hi hN hP
    show J (b (zl4 b N) v0 v1 (nI i) v3)
    rcases Nat.lt_or_ge i n with h | h
    · rcases hs (zl4 b N) i v0 v1 v3 h hP with h1 | ⟨w0, w1, w3, e, h2⟩
      · exact h1
      · rw [e]; exact ih (i + 1) w0 w1 w3 h (by omega) h2
    · have e : i = n := by omega
      subst e
      exact he _ v0 v1 v3 hP
theorem zl4c3 {T0 T1 T2 Z : Type} {b : (T0 → T1 → T2 → Int32 → Option Z) → T0 → T1 → T2 → Int32 → Option Z} {Q : Z → Prop} (n : Nat) (P : Nat → T0 → T1 → T2 → Prop) (hs : ∀ (rec : T0 → T1 → T2 → Int32 → Option Z) (i : Nat) (v0 : T0) (v1 : T1) (v2 : T2), i < n → P i v0 v1 v2 → Ev (b rec v0 v1 v2 (nI i)) Q ∨ (∃ w0 w1 w2, b rec v0 v1 v2 (nI i) = rec w0 w1 w2 (nI (i + 1)) ∧ P (i + 1) w0 w1 w2)) (he : ∀ (rec : T0 → T1 → T2 → Int32 → Option Z) (v0 : T0) (v1 : T1) (v2 : T2), P n v0 v1 v2 → Ev (b rec v0 v1 v2 (nI n)) Q) : ∀ (N i : Nat) (v0 : T0) (v1 : T1) (v2 : T2), i ≤ n → n - i < N → P i v0 v1 v2 → Ev (zl4 b N v0 v1 v2 (nI i)) Q := by
  intro N
  induction N with
  | zero => intro i v0 v1 v2 _ h; omega
  | succ N ih =>
    intro i v0 v1 v2 hi hN hP
    show Ev (b (zl4 b N) v0 v1 v2 (nI i)) Q
    rcases Nat.lt_or_ge i n with h | h
    · rcases hs (zl4 b N) i v0 v1 v2 h hP with h1 | ⟨w0, w1, w2, e, h2⟩
      · exact h1
      · rw [e]; exact ih (i + 1) w0 w1 w2 h (by omega) h2
    · have e : i = n := by omega
      subst e
      exact he _ v0 v1 v2 hP
theorem zl4g3 {T0 T1 T2 Z : Type} {b : (T0 → T1 → T2 → Int32 → Option Z) → T0 → T1 → T2 → Int32 → Option Z} (J : Option Z → Prop) (n : Nat) (P : Nat → T0 → T1 → T2 → Prop) (hs : ∀ (rec : T0 → T1 → T2 → Int32 → Option Z) (i : Nat) (v0 : T0) (v1 : T1) (v2 : T2), i < n → P i v0 v1 v2 → J (b rec v0 v1 v2 (nI i)) ∨ (∃ w0 w1 w2, b rec v0 v1 v2 (nI i) = rec w0 w1 w2 (nI (i + 1)) ∧ P (i + 1) w0 w1 w2)) (he : ∀ (rec : T0 → T1 → T2 → Int32 → Option Z) (v0 : T0) (v1 : T1) (v2 : T2), P n v0 v1 v2 → J (b rec v0 v1 v2 (nI n))) : ∀ (N i : Nat) (v0 : T0) (v1 : T1) (v2 : T2), i ≤ n → n - i < N → P i v0 v1 v2 → J (zl4 b N v0 v1 v2 (nI i)) := by
  intro N
  induction N with
  | zero => intro i v0 v1 v2 _ h; omega
  | succ N ih =>
    intro i v0 v1 v2 hi hN hP
    show J (b (zl4 b N) v0 v1 v2 (nI i))
    rcases Nat.lt_or_ge i n with h | h
    · rcases hs (zl4 b N) i v0 v1 v2 h hP with h1 | ⟨w0, w1, w2, e, h2⟩
      · exact h1
      · rw [e]; exact ih (i + 1) w0 w1 w2 h (by omega) h2
    · have e : i = n := by omega
      subst e
      exact he _ v0 v1 v2 hP
theorem zl5c0 {T1 T2 T3 T4 Z : Type} {b : (Int32 → T1 → T2 → T3 → T4 → Option Z) → Int32 → T1 → T2 → T3 → T4 → Option Z} {Q : Z → Prop} (n : Nat) (P : Nat → T1 → T2 → T3 → T4 → Prop) (hs : ∀ (rec : Int32 → T1 → T2 → T3 → T4 → Option Z) (i : Nat) (v1 : T1) (v2 : T2) (v3 : T3) (v4 : T4), i < n → P i v1 v2 v3 v4 → Ev (b rec (nI i) v1 v2 v3 v4) Q ∨ (∃ w1 w2 w3 w4, b rec (nI i) v1 v2 v3 v4 = rec (nI (i + 1)) w1 w2 w3 w4 ∧ P (i + 1) w1 w2 w3 w4)) (he : ∀ (rec : Int32 → T1 → T2 → T3 → T4 → Option Z) (v1 : T1) (v2 : T2) (v3 : T3) (v4 : T4), P n v1 v2 v3 v4 → Ev (b rec (nI n) v1 v2 v3 v4) Q) : ∀ (N i : Nat) (v1 : T1) (v2 : T2) (v3 : T3) (v4 : T4), i ≤ n → n - i < N → P i v1 v2 v3 v4 → Ev (zl5 b N (nI i) v1 v2 v3 v4) Q := by
  intro N
  induction N with
  | zero => intro i v1 v2 v3 v4 _ h; omega
  | succ N ih =>
    intro i v1 v2 v3 v4 hi hN hP
    show Ev (b (zl5 b N) (nI i) v1 v2 v3 v4) Q
    rcases Nat.lt_or_ge i n with h | h
    · rcases hs (zl5 b N) i v1 v2 v3 v4 h hP with h1 | ⟨w1, w2, w3, w4, e, h2⟩
      · exact h1
      · rw [e]; exact ih (i + 1) w1 w2 w3 w4 h (by omega) h2
    · have e : i = n := by omega
      subst e
      exact he _ v1 v2 v3 v4 hP
theorem zl5g0 {T1 T2 T3 T4 Z : Type} {b : (Int32 → T1 → T2 → T3 → T4 → Option Z) → Int32 → T1 → T2 → T3 → T4 → Option Z} (J : Option Z → Prop) (n : Nat) (P : Nat → T1 → T2 → T3 → T4 → Prop) (hs : ∀ (rec : Int32 → T1 → T2 → T3 → T4 → Option Z) (i : Nat) (v1 : T1) (v2 : T2) (v3 : T3) (v4 : T4), i < n → P i v1 v2 v3 v4 → J (b rec (nI i) v1 v2 v3 v4) ∨ (∃ w1 w2 w3 w4, b rec (nI i) v1 v2 v3 v4 = rec (nI (i + 1)) w1 w2 w3 w4 ∧ P (i + 1) w1 w2 w3 w4)) (he : ∀ (rec : Int32 → T1 → T2 → T3 → T4 → Option Z) (v1 : T1) (v2 : T2) (v3 : T3) (v4 : T4), P n v1 v2 v3 v4 → J (b rec (nI n) v1 v2 v3 v4)) : ∀ (N i : Nat) (v1 : T1) (v2 : T2) (v3 : T3) (v4 : T4), i ≤ n → n - i < N → P i v1 v2 v3 v4 → J (zl5 b N (nI i) v1 v2 v3 v4) := by
  intro N
  induction N with
  | zero => intro i v1 v2 v3 v4 _ h; omega
  | succ N ih =>
    intro i v1 v2 v3 v4 hi hN hP
    show J (b (zl5 b N) (nI i) v1 v2 v3 v4)
    rcases Nat.lt_or_ge i n with h | h
    · rcases hs (zl5 b N) i v1 v2 v3 v4 h hP with h1 | ⟨w1, w2, w3, w4, e, h2⟩
      · exact h1
      · rw [e]; exact ih (i + 1) w1 w2 w3 w4 h (by omega) h2
    · have e : i = n := by omega
      subst e
      exact he _ v1 v2 v3 v4 hP
theorem zl5c1 {T0 T2 T3 T4 Z : Type} {b : (T0 → Int32 → T2 → T3 → T4 → Option Z) → T0 → Int32 → T2 → T3 → T4 → Option Z} {Q : Z → Prop} (n : Nat) (P : Nat → T0 → T2 → T3 → T4 → Prop) (hs : ∀ (rec : T0 → Int32 → T2 → T3 → T4 → Option Z) (i : Nat) (v0 : T0) (v2 : T2) (v3 : T3) (v4 : T4), i < n → P i v0 v2 v3 v4 → Ev (b rec v0 (nI i) v2 v3 v4) Q ∨ (∃ w0 w2 w3 w4, b rec v0 (nI i) v2 v3 v4 = rec w0 (nI (i + 1)) w2 w3 w4 ∧ P (i + 1) w0 w2 w3 w4)) (he : ∀ (rec : T0 → Int32 → T2 → T3 → T4 → Option Z) (v0 : T0) (v2 : T2) (v3 : T3) (v4 : T4), P n v0 v2 v3 v4 → Ev (b rec v0 (nI n) v2 v3 v4) Q) : ∀ (N i : Nat) (v0 : T0) (v2 : T2) (v3 : T3) (v4 : T4), i ≤ n → n - i < N → P i v0 v2 v3 v4 → Ev (zl5 b N v0 (nI i) v2 v3 v4) Q := by
  intro N
  induction N with
  | zero => intro i v0 v2 v3 v4 _ h; omega
  | succ N ih =>
    intro i v0 v2 v3 v4 hi hN hP
    show Ev (b (zl5 b N) v0 (nI i) v2 v3 v4) Q
    rcases Nat.lt_or_ge i n with h | h
    · rcases hs (zl5 b N) i v0 v2 v3 v4 h hP with h1 | ⟨w0, w2, w3, w4, e, h2⟩
      · exact h1
      · rw [e]; exact ih (i + 1) w0 w2 w3 w4 h (by omega) h2
    · have e : i = n := by omega
      subst e
      exact he _ v0 v2 v3 v4 hP
theorem zl5g1 {T0 T2 T3 T4 Z : Type} {b : (T0 → Int32 → T2 → T3 → T4 → Option Z) → T0 → Int32 → T2 → T3 → T4 → Option Z} (J : Option Z → Prop) (n : Nat) (P : Nat → T0 → T2 → T3 → T4 → Prop) (hs : ∀ (rec : T0 → Int32 → T2 → T3 → T4 → Option Z) (i : Nat) (v0 : T0) (v2 : T2) (v3 : T3) (v4 : T4), i < n → P i v0 v2 v3 v4 → J (b rec v0 (nI i) v2 v3 v4) ∨ (∃ w0 w2 w3 w4, b rec v0 (nI i) v2 v3 v4 = rec w0 (nI (i + 1)) w2 w3 w4 ∧ P (i + 1) w0 w2 w3 w4)) (he : ∀ (rec : T0 → Int32 → T2 → T3 → T4 → Option Z) (v0 : T0) (v2 : T2) (v3 : T3) (v4 : T4), P n v0 v2 v3 v4 → J (b rec v0 (nI n) v2 v3 v4)) : ∀ (N i : Nat) (v0 : T0) (v2 : T2) (v3 : T3) (v4 : T4), i ≤ n → n - i < N → P i v0 v2 v3 v4 → J (zl5 b N v0 (nI i) v2 v3 v4) := by
  intro N
  induction N with
  | zero => intro i v0 v2 v3 v4 _ h; omega
  | succ N ih =>
    intro i v0 v2 v3 v4 hi hN hP
    show J (b (zl5 b N) v0 (nI i) v2 v3 v4)
    rcases Nat.lt_or_ge i n with h | h
    · rcases hs (zl5 b N) i v0 v2 v3 v4 h hP with h1 | ⟨w0, w2, w3, w4, e, h2⟩
      · exact h1
      · rw [e]; exact ih (i + 1) w0 w2 w3 w4 h (by omega) h2
    · have e : i = n := by omega
      subst e
      exact he _ v0 v2 v3 v4 hP
theorem zl5c2 {T0 T1 T3 T4 Z : Type} {b : (T0 → T1 → Int32 → T3 → T4 → Option Z) → T0 → T1 → Int32 → T3 → T4 → Option Z} {Q : Z → Prop} (n : Nat) (P : Nat → T0 → T1 → T3 → T4 → Prop) (hs : ∀ (rec : T0 → T1 → Int32 → T3 → T4 → Option Z) (i : Nat) (v0 : T0) (v1 : T1) (v3 : T3) (v4 : T4), i < n → P i v0 v1 v3 v4 → Ev (b rec v0 v1 (nI i) v3 v4) Q ∨ (∃ w0 w1 w3 w4, b rec v0 v1 (nI i) v3 v4 = rec w0 w1 (nI (i + 1)) w3 w4 ∧ P (i + 1) w0 w1 w3 w4)) (he : ∀ (rec : T0 → T1 → Int32 → T3 → T4 → Option Z) (v0 : T0) (v1 : T1) (v3 : T3) (v4 : T4), P n v0 v1 v3 v4 → Ev (b rec v0 v1 (nI n) v3 v4) Q) : ∀ (N i : Nat) (v0 : T0) (v1 : T1) (v3 : T3) (v4 : T4), i ≤ n → n - i < N → P i v0 v1 v3 v4 → Ev (zl5 b N v0 v1 (nI i) v3 v4) Q := by
  intro N
  induction N with
  | zero => intro i v0 v1 v3 v4 _ h; omega
  | succ N ih =>
    intro i v0 v1 v3 v4 hi hN hP
    show Ev (b (zl5 b N) v0 v1 (nI i) v3 v4) Q
    rcases Nat.lt_or_ge i n with h | h
    · rcases hs (zl5 b N) i v0 v1 v3 v4 h hP with h1 | ⟨w0, w1, w3, w4, e, h2⟩
      · exact h1
      · rw [e]; exact ih (i + 1) w0 w1 w3 w4 h (by omega) h2
    · have e : i = n := by omega
      subst e
      exact he _ v0 v1 v3 v4 hP
theorem zl5g2 {T0 T1 T3 T4 Z : Type} {b : (T0 → T1 → Int32 → T3 → T4 → Option Z) → T0 → T1 → Int32 → T3 → T4 → Option Z} (J : Option Z → Prop) (n : Nat) (P : Nat → T0 → T1 → T3 → T4 → Prop) (hs : ∀ (rec : T0 → T1 → Int32 → T3 → T4 → Option Z) (i : Nat) (v0 : T0) (v1 : T1) (v3 : T3) (v4 : T4), i < n → P i v0 v1 v3 v4 → J (b rec v0 v1 (nI i) v3 v4) ∨ (∃ w0 w1 w3 w4, b rec v0 v1 (nI i) v3 v4 = rec w0 w1 (nI (i + 1)) w3 w4 ∧ P (i + 1) w0 w1 w3 w4)) (he : ∀ (rec : T0 → T1 → Int32 → T3 → T4 → Option Z) (v0 : T0) (v1 : T1) (v3 : T3) (v4 : T4), P n v0 v1 v3 v4 → J (b rec v0 v1 (nI n) v3 v4)) : ∀ (N i : Nat) (v0 : T0) (v1 : T1) (v3 : T3) (v4 : T4), i ≤ n → n - i < N → P i v0 v1 v3 v4 → J (zl5 b N v0 v1 (nI i) v3 v4) := by
  intro N
  induction N with
  | zero => intro i v0 v1 v3 v4 _ h; omega
  | succ N ih =>
    intro i v0 v1 v3 v4 hi hN hP
    show J (b (zl5 b N) v0 v1 (nI i) v3 v4)
    rcases Nat.lt_or_ge i n with h | h
    · rcases hs (zl5 b N) i v0 v1 v3 v4 h hP with h1 | ⟨w0, w1, w3, w4, e, h2⟩
      · exact h1
      · rw [e]; exact ih (i + 1) w0 w1 w3 w4 h (by omega) h2
    · have e : i = n := by omega
      subst e
      exact he _ v0 v1 v3 v4 hP
theorem zl5c3 {T0 T1 T2 T4 Z : Type} {b : (T0 → T1 → T2 → Int32 → T4 → Option Z) → T0 → T1 → T2 → Int32 → T4 → Option Z} {Q : Z → Prop} (n : Nat) (P : Nat → T0 → T1 → T2 → T4 → Prop) (hs : ∀ (rec : T0 → T1 → T2 → Int32 → T4 → Option Z) (i : Nat) (v0 : T0) (v1 : T1) (v2 : T2) (v4 : T4), i < n → P i v0 v1 v2 v4 → Ev (b rec v0 v1 v2 (nI i) v4) Q ∨ (∃ w0 w1 w2 w4, b rec v0 v1 v2 (nI i) v4 = rec w0 w1 w2 (nI (i + 1)) w4 ∧ P (i + 1) w0 w1 w2 w4)) (he : ∀ (rec : T0 → T1 → T2 → Int32 → T4 → Option Z) (v0 : T0) (v1 : T1) (v2 : T2) (v4 : T4), P n v0 v1 v2 v4 → Ev (b rec v0 v1 v2 (nI n) v4) Q) : ∀ (N i : Nat) (v0 : T0) (v1 : T1) (v2 : T2) (v4 : T4), i ≤ n → n - i < N → P i v0 v1 v2 v4 → Ev (zl5 b N v0 v1 v2 (nI i) v4) Q := by
  intro N
  induction N with
  | zero => intro i v0 v1 v2 v4 _ h; omega
  | succ N ih =>
    intro i v0 v1 v2 v4 hi hN hP
    show Ev (b (zl5 b N) v0 v1 v2 (nI i) v4) Q
    rcases Nat.lt_or_ge i n with h | h
    · rcases hs (zl5 b N) i v0 v1 v2 v4 h hP with h1 | ⟨w0, w1, w2, w4, e, h2⟩
      · exact h1
      · rw [e]; exact ih (i + 1) w0 w1 w2 w4 h (by omega) h2
    · have e : i = n := by omega
      subst e
      exact he _ v0 v1 v2 v4 hP
theorem zl5g3 {T0 T1 T2 T4 Z : Type} {b : (T0 → T1 → T2 → Int32 → T4 → Option Z) → T0 → T1 → T2 → Int32 → T4 → Option Z} (J : Option Z → Prop) (n : Nat) (P : Nat → T0 → T1 → T2 → T4 → Prop) (hs : ∀ (rec : T0 → T1 → T2 → Int32 → T4 → Option Z) (i : Nat) (v0 : T0) (v1 : T1) (v2 : T2) (v4 : T4), i < n → P i v0 v1 v2 v4 → J (b rec v0 v1 v2 (nI i) v4) ∨ (∃ w0 w1 w2 w4, b rec v0 v1 v2 (nI i) v4 = rec w0 w1 w2 (nI (i + 1)) w4 ∧ P (i + 1) w0 w1 w2 w4)) (he : ∀ (rec : T0 → T1 → T2 → Int32 → T4 → Option Z) (v0 : T0) (v1 : T1) (v2 : T2) (v4 : T4), P n v0 v1 v2 v4 → J (b rec v0 v1 v2 (nI n) v4)) : ∀ (N i : Nat) (v0 : T0) (v1 : T1) (v2 : T2) (v4 : T4), i ≤ n → n - i < N → P i v0 v1 v2 v4 → J (zl5 b N v0 v1 v2 (nI i) v4) := by
  intro N
  induction N with
  | zero => intro i v0 v1 v2 v4 _ h; omega
  | succ N ih =>
    intro i v0 v1 v2 v4 hi hN hP
    show J (b (zl5 b N) v0 v1 v2 (nI i) v4)
    rcases Nat.lt_or_ge i n with h | h
    · rcases hs (zl5 b N) i v0 v1 v2 v4 h hP with h1 | ⟨w0, w1, w2, w4, e, h2⟩
      · exact h1
      · rw [e]; exact ih (i + 1) w0 w1 w2 w4 h (by omega) h2
    · have e : i = n := by omega
      subst e
      exact he _ v0 v1 v2 v4 hP
theorem zl5c4 {T0 T1 T2 T3 Z : Type} {b : (T0 → T1 → T2 → T3 → Int32 → Option Z) → T0 → T1 → T2 → T3 → Int32 → Option Z} {Q : Z → Prop} (n : Nat) (P : Nat → T0 → T1 → T2 → T3 → Prop) (hs : ∀ (rec : T0 → T1 → T2 → T3 → Int32 → Option Z) (i : Nat) (v0 : T0) (v1 : T1) (v2 : T2) (v3 : T3), i < n → P i v0 v1 v2 v3 → Ev (b rec v0 v1 v2 v3 (nI i)) Q ∨ (∃ w0 w1 w2 w3, b rec v0 v1 v2 v3 (nI i) = rec w0 w1 w2 w3 (nI (i + 1)) ∧ P (i + 1) w0 w1 w2 w3)) (he : ∀ (rec : T0 → T1 → T2 → T3 → Int32 → Option Z) (v0 : T0) (v1 : T1) (v2 : T2) (v3 : T3), P n v0 v1 v2 v3 → Ev (b rec v0 v1 v2 v3 (nI n)) Q) : ∀ (N i : Nat) (v0 : T0) (v1 : T1) (v2 : T2) (v3 : T3), i ≤ n → n - i < N → P i v0 v1 v2 v3 → Ev (zl5 b N v0 v1 v2 v3 (nI i)) Q := by
  intro N
  induction N with
  | zero => intro i v0 v1 v2 v3 _ h; omega
  | succ N ih =>
    intro i v0 v1 v2 v3 hi hN hP
    show Ev (b (zl5 b N) v0 v1 v2 v3 (nI i)) Q
    rcases Nat.lt_or_ge i n with h | h
    · rcases hs (zl5 b N) i v0 v1 v2 v3 h hP with h1 | ⟨w0, w1, w2, w3, e, h2⟩
      · exact h1
      · rw [e]; exact ih (i + 1) w0 w1 w2 w3 h (by omega) h2
    · have e : i = n := by omega
      subst e
      exact he _ v0 v1 v2 v3 hP
theorem zl5g4 {T0 T1 T2 T3 Z : Type} {b : (T0 → T1 → T2 → T3 → Int32 → Option Z) → T0 → T1 → T2 → T3 → Int32 → Option Z} (J : Option Z → Prop) (n : Nat) (P : Nat → T0 → T1 → T2 → T3 → Prop) (hs : ∀ (rec : T0 → T1 → T2 → T3 → Int32 → Option Z) (i : Nat) (v0 : T0) (v1 : T1) (v2 : T2) (v3 : T3), i < n → P i v0 v1 v2 v3 → J (b rec v0 v1 v2 v3 (nI i)) ∨ (∃ w0 w1 w2 w3, b rec v0 v1 v2 v3 (nI i) = rec w0 w1 w2 w3 (nI (i + 1)) ∧ P (i + 1) w0 w1 w2 w3)) (he : ∀ (rec : T0 → T1 → T2 → T3 → Int32 → Option Z) (v0 : T0) (v1 : T1) (v2 : T2) (v3 : T3), P n v0 v1 v2 v3 → J (b rec v0 v1 v2 v3 (nI n))) : ∀ (N i : Nat) (v0 : T0) (v1 : T1) (v2 : T2) (v3 : T3), i ≤ n → n - i < N → P i v0 v1 v2 v3 → J (zl5 b N v0 v1 v2 v3 (nI i)) := by
  intro N
  induction N with
  | zero => intro i v0 v1 v2 v3 _ h; omega
  | succ N ih =>
    intro i v0 v1 v2 v3 hi hN hP
    show J (b (zl5 b N) v0 v1 v2 v3 (nI i))
    rcases Nat.lt_or_ge i n with h | h
    · rcases hs (zl5 b N) i v0 v1 v2 v3 h hP with h1 | ⟨w0, w1, w2, w3, e, h2⟩
      · exact h1
      · rw [e]; exact ih (i + 1) w0 w1 w2 w3 h (by omega) h2
    · have e : i = n := by omega
      subst e
      exact he _ v0 v1 v2 v3 hP
theorem zl6c0 {T1 T2 T3 T4 T5 Z : Type} {b : (Int32 → T1 → T2 → T3 → T4 → T5 → Option Z) → Int32 → T1 → T2 → T3 → T4 → T5 → Option Z} {Q : Z → Prop} (n : Nat) (P : Nat → T1 → T2 → T3 → T4 → T5 → Prop) (hs : ∀ (rec : Int32 → T1 → T2 → T3 → T4 → T5 → Option Z) (i : Nat) (v1 : T1) (v2 : T2) (v3 : T3) (v4 : T4) (v5 : T5), i < n → P i v1 v2 v3 v4 v5 → Ev (b rec (nI i) v1 v2 v3 v4 v5) Q ∨ (∃ w1 w2 w3 w4 w5, b rec (nI i) v1 v2 v3 v4 v5 = rec (nI (i + 1)) w1 w2 w3 w4 w5 ∧ P (i + 1) w1 w2 w3 w4 w5)) (he : ∀ (rec : Int32 → T1 → T2 → T3 → T4 → T5 → Option Z) (v1 : T1) (v2 : T2) (v3 : T3) (v4 : T4) (v5 : T5), P n v1 v2 v3 v4 v5 → Ev (b rec (nI n) v1 v2 v3 v4 v5) Q) : ∀ (N i : Nat) (v1 : T1) (v2 : T2) (v3 : T3) (v4 : T4) (v5 : T5), i ≤ n → n - i < N → P i v1 v2 v3 v4 v5 → Ev (zl6 b N (nI i) v1 v2 v3 v4 v5) Q := by
  intro N
  induction N with
  | zero => intro i v1 v2 v3 v4 v5 _ h; omega
  | succ N ih =>
    intro i v1 v2 v3 v4 v5 hi hN hP
    show Ev (b (zl6 b N) (nI i) v1 v2 v3 v4 v5) Q
    rcases Nat.lt_or_ge i n with h | h
    · rcases hs (zl6 b N) i v1 v2 v3 v4 v5 h hP with h1 | ⟨w1, w2, w3, w4, w5, e, h2⟩
      · exact h1
      · rw [e]; exact ih (i + 1) w1 w2 w3 w4 w5 h (by omega) h2
    · have e : i = n := by omega
      subst e
      exact he _ v1 v2 v3 v4 v5 hP
theorem zl6g0 {T1 T2 T3 T4 T5 Z : Type} {b : (Int32 → T1 → T2 → T3 → T4 → T5 → Option Z) → Int32 → T1 → T2 → T3 → T4 → T5 → Option Z} (J : Option Z → Prop) (n : Nat) (P : Nat → T1 → T2 → T3 → T4 → T5 → Prop) (hs : ∀ (rec : Int32 → T1 → T2 → T3 → T4 → T5 → Option Z) (i : Nat) (v1 : T1) (v2 : T2) (v3 : T3) (v4 : T4) (v5 : T5), i < n → P i v1 v2 v3 v4 v5 → J (b rec (nI i) v1 v2 v3 v4 v5) ∨ (∃ w1 w2 w3 w4 w5, b rec (nI i) v1 v2 v3 v4 v5 = rec (nI (i + 1)) w1 w2 w3 w4 w5 ∧ P (i + 1) w1 w2 w3 w4 w5)) (he : ∀ (rec : Int32 → T1 → T2 → T3 → T4 → T5 → Option Z) (v1 : T1) (v2 : T2) (v3 : T3) (v4 : T4) (v5 : T5), P n v1 v2 v3 v4 v5 → J (b rec (nI n) v1 v2 v3 v4 v5)) : ∀ (N i : Nat) (v1 : T1) (v2 : T2) (v3 : T3) (v4 : T4) (v5 : T5), i ≤ n → n - i < N → P i v1 v2 v3 v4 v5 → J (zl6 b N (nI i) v1 v2 v3 v4 v5) := by
  intro N
  induction N with
  | zero => intro i v1 v2 v3 v4 v5 _ h; omega
  | succ N ih =>
    intro i v1 v2 v3 v4 v5 hi hN hP
    show J (b (zl6 b N) (nI i) v1 v2 v3 v4 v5)
    rcases Nat.lt_or_ge i n with h | h
    · rcases hs (zl6 b N) i v1 v2 v3 v4 v5 h hP with h1 | ⟨w1, w2, w3, w4, w5, e, h2⟩
      · exact h1
      · rw [e]; exact ih (i + 1) w1 w2 w3 w4 w5 h (by omega) h2
    · have e : i = n := by omega
      subst e
      exact he _ v1 v2 v3 v4 v5 hP
theorem zl6c1 {T0 T2 T3 T4 T5 Z : Type} {b : (T0 → Int32 → T2 → T3 → T4 → T5 → Option Z) → T0 → Int32 → T2 → T3 → T4 → T5 → Option Z} {Q : Z → Prop} (n : Nat) (P : Nat → T0 → T2 → T3 → T4 → T5 → Prop) (hs : ∀ (rec : T0 → Int32 → T2 → T3 → T4 → T5 → Option Z) (i : Nat) (v0 : T0) (v2 : T2) (v3 : T3) (v4 : T4) (v5 : T5), i < n → P i v0 v2 v3 v4 v5 → Ev (b rec v0 (nI i) v2 v3 v4 v5) Q ∨ (∃ w0 w2 w3 w4 w5, b rec v0 (nI i) v2 v3 v4 v5 = rec w0 (nI (i + 1)) w2 w3 w4 w5 ∧ P (i + 1) w0 w2 w3 w4 w5)) (he : ∀ (rec : T0 → Int32 → T2 → T3 → T4 → T5 → Option Z) (v0 : T0) (v2 : T2) (v3 : T3) (v4 : T4) (v5 : T5), P n v0 v2 v3 v4 v5 → Ev (b rec v0 (nI n) v2 v3 v4 v5) Q) : ∀ (N i : Nat) (v0 : T0) (v2 : T2) (v3 : T3) (v4 : T4) (v5 : T5), i ≤ n → n - i < N → P i v0 v2 v3 v4 v5 → Ev (zl6 b N v0 (nI i) v2 v3 v4 v5) Q := by
  intro N
  induction N with
  | zero => intro i v0 v2 v3 v4 v5 _ h; omega
  | succ N ih =>
    intro i v0 v2 v3 v4 v5 hi hN hP
    show Ev (b (zl6 b N) v0 (nI i) v2 v3 v4 v5) Q
    rcases Nat.lt_or_ge i n with h | h
    · rcases hs (zl6 b N) i v0 v2 v3 v4 v5 h hP with h1 | ⟨w0, w2, w3, w4, w5, e, h2⟩
      · exact h1
      · rw [e]; exact ih (i + 1) w0 w2 w3 w4 w5 h (by omega) h2
    · have e : i = n := by omega
      subst e
      exact he _ v0 v2 v3 v4 v5 hP
theorem zl6g1 {T0 T2 T3 T4 T5 Z : Type} {b : (T0 → Int32 → T2 → T3 → T4 → T5 → Option Z) → T0 → Int32 → T2 → T3 → T4 → T5 → Option Z} (J : Option Z → Prop) (n : Nat) (P : Nat → T0 → T2 → T3 → T4 → T5 → Prop) (hs : ∀ (rec : T0 → Int32 → T2 → T3 → T4 → T5 → Option Z) (i : Nat) (v0 : T0) (v2 : T2) (v3 : T3) (v4 : T4) (v5 : T5), i < n → P i v0 v2 v3 v4 v5 → J (b rec v0 (nI i) v2 v3 v4 v5) ∨ (∃ w0 w2 w3 w4 w5, b rec v0 (nI i) v2 v3 v4 v5 = rec w0 (nI (i + 1)) w2 w3 w4 w5 ∧ P (i + 1) w0 w2 w3 w4 w5)) (he : ∀ (rec : T0 → Int32 → T2 → T3 → T4 → T5 → Option Z) (v0 : T0) (v2 : T2) (v3 : T3) (v4 : T4) (v5 : T5), P n v0 v2 v3 v4 v5 → J (b rec v0 (nI n) v2 v3 v4 v5)) : ∀ (N i : Nat) (v0 : T0) (v2 : T2) (v3 : T3) (v4 : T4) (v5 : T5), i ≤ n → n - i < N → P i v0 v2 v3 v4 v5 → J (zl6 b N v0 (nI i) v2 v3 v4 v5) := by
  intro N
  induction N with
  | zero => intro i v0 v2 v3 v4 v5 _ h; omega
  | succ N ih =>
    intro i v0 v2 v3 v4 v5 hi hN hP
    show J (b (zl6 b N) v0 (nI i) v2 v3 v4 v5)
    rcases Nat.lt_or_ge i n with h | h
    · rcases hs (zl6 b N) i v0 v2 v3 v4 v5 h hP with h1 | ⟨w0, w2, w3, w4, w5, e, h2⟩
      · exact h1
      · rw [e]; exact ih (i + 1) w0 w2 w3 w4 w5 h (by omega) h2
    · have e : i = n := by omega
      subst e
      exact he _ v0 v2 v3 v4 v5 hP
theorem zl6c2 {T0 T1 T3 T4 T5 Z : Type} {b : (T0 → T1 → Int32 → T3 → T4 → T5 → Option Z) → T0 → T1 → Int32 → T3 → T4 → T5 → Option Z} {Q : Z → Prop} (n : Nat) (P : Nat → T0 → T1 → T3 → T4 → T5 → Prop) (hs : ∀ (rec : T0 → T1 → Int32 → T3 → T4 → T5 → Option Z) (i : Nat) (v0 : T0) (v1 : T1) (v3 : T3) (v4 : T4) (v5 : T5), i < n → P i v0 v1 v3 v4 v5 → Ev (b rec v0 v1 (nI i) v3 v4 v5) Q ∨ (∃ w0 w1 w3 w4 w5, b rec v0 v1 (nI i) v3 v4 v5 = rec w0 w1 (nI (i + 1)) w3 w4 w5 ∧ P (i + 1) w0 w1 w3 w4 w5)) (he : ∀ (rec : T0 → T1 → Int32 → T3 → T4 → T5 → Option Z) (v0 : T0) (v1 : T1) (v3 : T3) (v4 : T4) (v5 : T5), P n v0 v1 v3 v4 v5 → Ev (b rec v0 v1 (nI n) v3 v4 v5) Q) : ∀ (N i : Nat) (v0 : T0) (v1 : T1) (v3 : T3) (v4 : T4) (v5 : T5), i ≤ n → n - i < N → P i v0 v1 v3 v4 v5 → Ev (zl6 b N v0 v1 (nI i) v3 v4 v5) Q := by
  intro N
  induction N with
  | zero => intro i v0 v1 v3 v4 v5 _ h; omega
  | succ N ih =>
    intro i v0 v1 v3 v4 v5 hi hN hP
    show Ev (b (zl6 b N) v0 v1 (nI i) v3 v4 v5) Q
    rcases Nat.lt_or_ge i n with h | h
    · rcases hs (zl6 b N) i v0 v1 v3 v4 v5 h hP with h1 | ⟨w0, w1, w3, w4, w5, e, h2⟩
      · exact h1
      · rw [e]; exact ih (i + 1) w0 w1 w3 w4 w5 h (by omega) h2
    · have e : i = n := by omega
      subst e
      exact he _ v0 v1 v3 v4 v5 hP
theorem zl6g2 {T0 T1 T3 T4 T5 Z : Type} {b : (T0 → T1 → Int32 → T3 → T4 → T5 → Option Z) → T0 → T1 → Int32 → T3 → T4 → T5 → Option Z} (J : Option Z → Prop) (n : Nat) (P : Nat → T0 → T1 → T3 → T4 → T5 → Prop) (hs : ∀ (rec : T0 → T1 → Int32 → T3 → T4 → T5 → Option Z) (i : Nat) (v0 : T0) (v1 : T1) (v3 : T3) (v4 : T4) (v5 : T5), i < n → P i v0 v1 v3 v4 v5 → J (b rec v0 v1 (nI i) v3 v4 v5) ∨ (∃ w0 w1 w3 w4 w5, b rec v0 v1 (nI i) v3 v4 v5 = rec w0 w1 (nI (i + 1)) w3 w4 w5 ∧ P (i + 1) w0 w1 w3 w4 w5)) (he : ∀ (rec : T0 → T1 → Int32 → T3 → T4 → T5 → Option Z) (v0 : T0) (v1 : T1) (v3 : T3) (v4 : T4) (v5 : T5), P n v0 v1 v3 v4 v5 → J (b rec v0 v1 (nI n) v3 v4 v5)) : ∀ (N i : Nat) (v0 : T0) (v1 : T1) (v3 : T3) (v4 : T4) (v5 : T5), i ≤ n → n - i < N → P i v0 v1 v3 v4 v5 → J (zl6 b N v0 v1 (nI i) v3 v4 v5) := by
  intro N
  induction N with
  | zero => intro i v0 v1 v3 v4 v5 _ h; omega
  | succ N ih =>
    intro i v0 v1 v3 v4 v5 hi hN hP
    show J (b (zl6 b N) v0 v1 (nI i) v3 v4 v5)
    rcases Nat.lt_or_ge i n with h | h
    · rcases hs (zl6 b N) i v0 v1 v3 v4 v5 h hP with h1 | ⟨w0, w1, w3, w4, w5, e, h2⟩
      · exact h1
      · rw [e]; exact ih (i + 1) w0 w1 w3 w4 w5 h (by omega) h2
    · have e : i = n := by omega
      subst e
      exact he _ v0 v1 v3 v4 v5 hP
theorem zl6c3 {T0 T1 T2 T4 T5 Z : Type} {b : (T0 → T1 → T2 → Int32 → T4 → T5 → Option Z) → T0 → T1 → T2 → Int32 → T4 → T5 → Option Z} {Q : Z → Prop} (n : Nat) (P : Nat → T0 → T1 → T2 → T4 → T5 → Prop) (hs : ∀ (rec : T0 → T1 → T2 → Int32 → T4 → T5 → Option Z) (i : Nat) (v0 : T0) (v1 : T1) (v2 : T2) (v4 : T4) (v5 : T5), i < n → P i v0 v1 v2 v4 v5 → Ev (b rec v0 v1 v2 (nI i) v4 v5) Q ∨ (∃ w0 w1 w2 w4 w5, b rec v0 v1 v2 (nI i) v4 v5 = rec w0 w1 w2 (nI (i + 1)) w4 w5 ∧ P (i + 1) w0 w1 w2 w4 w5)) (he : ∀ (rec : T0 → T1 → T2 → Int32 → T4 → T5 → Option Z) (v0 : T0) (v1 : T1) (v2 : T2) (v4 : T4) (v5 : T5), P n v0 v1 v2 v4 v5 → Ev (b rec v0 v1 v2 (nI n) v4 v5) Q) : ∀ (N i : Nat) (v0 : T0) (v1 : T1) (v2 : T2) (v4 : T4) (v5 : T5), i ≤ n → n - i < N → P i v0 v1 v2 v4 v5 → Ev (zl6 b N v0 v1 v2 (nI i) v4 v5) Q := by
  intro N
  induction N with
  | zero => intro i v0 v1 v2 v4 v5 _ h; omega
  | succ N ih =>
    intro i v0 v1 v2 v4 v5 hi hN hP
    show Ev (b (zl6 b N) v0 v1 v2 (nI i) v4 v5) Q
    rcases Nat.lt_or_ge i n with h | h
    · rcases hs (zl6 b N) i v0 v1 v2 v4 v5 h hP with h1 | ⟨w0, w1, w2, w4, w5, e, h2⟩
      · exact h1
      · rw [e]; exact ih (i + 1) w0 w1 w2 w4 w5 h (by omega) h2
    · have e : i = n := by omega
      subst e
      exact he _ v0 v1 v2 v4 v5 hP
theorem zl6g3 {T0 T1 T2 T4 T5 Z : Type} {b : (T0 → T1 → T2 → Int32 → T4 → T5 → Option Z) → T0 → T1 → T2 → Int32 → T4 → T5 → Option Z} (J : Option Z → Prop) (n : Nat) (P : Nat → T0 → T1 → T2 → T4 → T5 → Prop) (hs : ∀ (rec : T0 → T1 → T2 → Int32 → T4 → T5 → Option Z) (i : Nat) (v0 : T0) (v1 : T1) (v2 : T2) (v4 : T4) (v5 : T5), i < n → P i v0 v1 v2 v4 v5 → J (b rec v0 v1 v2 (nI i) v4 v5) ∨ (∃ w0 w1 w2 w4 w5, b rec v0 v1 v2 (nI i) v4 v5 = rec w0 w1 w2 (nI (i + 1)) w4 w5 ∧ P (i + 1) w0 w1 w2 w4 w5)) (he : ∀ (rec : T0 → T1 → T2 → Int32 → T4 → T5 → Option Z) (v0 : T0) (v1 : T1) (v2 : T2) (v4 : T4) (v5 : T5), P n v0 v1 v2 v4 v5 → J (b rec v0 v1 v2 (nI n) v4 v5)) : ∀ (N i : Nat) (v0 : T0) (v1 : T1) (v2 : T2) (v4 : T4) (v5 : T5), i ≤ n → n - i < N → P i v0 v1 v2 v4 v5 → J (zl6 b N v0 v1 v2 (nI i) v4 v5) := by
  intro N
  induction N with
  | zero => intro i v0 v1 v2 v4 v5 _ h; omega
  | succ N ih =>
    intro i v0 v1 v2 v4 v5 hi hN hP
    show J (b (zl6 b N) v0 v1 v2 (nI i) v4 v5)
    rcases Nat.lt_or_ge i n with h | h
    · rcases hs (zl6 b N) i v0 v1 v2 v4 v5 h hP with h1 | ⟨w0, w1, w2, w4, w5, e, h2⟩
      · exact h1
      · rw [e]; exact ih (i + 1) w0 w1 w2 w4 w5 h (by omega) h2
    · have e : i = n := by omega
      subst e
      exact he _ v0 v1 v2 v4 v5 hP
theorem zl6c4 {T0 T1 T2 T3 T5 Z : Type} {b : (T0 → T1 → T2 → T3 → Int32 → T5 → Option Z) → T0 → T1 → T2 → T3 → Int32 → T5 → Option Z} {Q : Z → Prop} (n : Nat) (P : Nat → T0 → T1 → T2 → T3 → T5 → Prop) (hs : ∀ (rec : T0 → T1 → T2 → T3 → Int32 → T5 → Option Z) (i : Nat) (v0 : T0) (v1 : T1) (v2 : T2) (v3 : T3) (v5 : T5), i < n → P i v0 v1 v2 v3 v5 → Ev (b rec v0 v1 v2 v3 (nI i) v5) Q ∨ (∃ w0 w1 w2 w3 w5, b rec v0 v1 v2 v3 (nI i) v5 = rec w0 w1 w2 w3 (nI (i + 1)) w5 ∧ P (i + 1) w0 w1 w2 w3 w5)) (he : ∀ (rec : T0 → T1 → T2 → T3 → Int32 → T5 → Option Z) (v0 : T0) (v1 : T1) (v2 : T2) (v3 : T3) (v5 : T5), P n v0 v1 v2 v3 v5 → Ev (b rec v0 v1 v2 v3 (nI n) v5) Q) : ∀ (N i : Nat) (v0 : T0) (v1 : T1) (v2 : T2) (v3 : T3) (v5 : T5), i ≤ n → n - i < N → P i v0 v1 v2 v3 v5 → Ev (zl6 b N v0 v1 v2 v3 (nI i) v5) Q := by
  intro N
  induction N with
  | zero => intro i v0 v1 v2 v3 v5 _ h; omega
  | succ N ih =>
    intro i v0 v1 v2 v3 v5 hi hN hP
    show Ev (b (zl6 b N) v0 v1 v2 v3 (nI i) v5) Q
    rcases Nat.lt_or_ge i n with h | h
    · rcases hs (zl6 b N) i v0 v1 v2 v3 v5 h hP with h1 | ⟨w0, w1, w2, w3, w5, e, h2⟩
      · exact h1
      · rw [e]; exact ih (i + 1) w0 w1 w2 w3 w5 h (by omega) h2
    · have e : i = n := by omega
      subst e
      exact he _ v0 v1 v2 v3 v5 hP
theorem zl6g4 {T0 T1 T2 T3 T5 Z : Type} {b : (T0 → T1 → T2 → T3 → Int32 → T5 → Option Z) → T0 → T1 → T2 → T3 → Int32 → T5 → Option Z} (J : Option Z → Prop) (n : Nat) (P : Nat → T0 → T1 → T2 → T3 → T5 → Prop) (hs : ∀ (rec : T0 → T1 → T2 → T3 → Int32 → T5 → Option Z) (i : Nat) (v0 : T0) (v1 : T1) (v2 : T2) (v3 : T3) (v5 : T5), i < n → P i v0 v1 v2 v3 v5 → J (b rec v0 v1 v2 v3 (nI i) v5) ∨ (∃ w0 w1 w2 w3 w5, b rec v0 v1 v2 v3 (nI i) v5 = rec w0 w1 w2 w3 (nI (i + 1)) w5 ∧ P (i + 1) w0 w1 w2 w3 w5)) (he : ∀ (rec : T0 → T1 → T2 → T3 → Int32 → T5 → Option Z) (v0 : T0) (v1 : T1) (v2 : T2) (v3 : T3) (v5 : T5), P n v0 v1 v2 v3 v5 → J (b rec v0 v1 v2 v3 (nI n) v5)) : ∀ (N i : Nat) (v0 : T0) (v1 : T1) (v2 : T2) (v3 : T3) (v5 : T5), i ≤ n → n - i < N → P i v0 v1 v2 v3 v5 → J (zl6 b N v0 v1 v2 v3 (nI i) v5) := by
  intro N
  induction N with
  | zero => intro i v0 v1 v2 v3 v5 _ h; omega
  | succ N ih =>
    intro i v0 v1 v2 v3 v5 hi hN hP
    show J (b (zl6 b N) v0 v1 v2 v3 (nI i) v5)
    rcases Nat.lt_or_ge i n with h | h
    · rcases hs (zl6 b N) i v0 v1 v2 v3 v5 h hP with h1 | ⟨w0, w1, w2, w3, w5, e, h2⟩
      · exact h1
      · rw [e]; exact ih (i + 1) w0 w1 w2 w3 w5 h (by omega) h2
    · have e : i = n := by omega
      subst e
      exact he _ v0 v1 v2 v3 v5 hP
theorem zl6c5 {T0 T1 T2 T3 T4 Z : Type} {b : (T0 → T1 → T2 → T3 → T4 → Int32 → Option Z) → T0 → T1 → T2 → T3 → T4 → Int32 → Option Z} {Q : Z → Prop} (n : Nat) (P : Nat → T0 → T1 → T2 → T3 → T4 → Prop) (hs : ∀ (rec : T0 → T1 → T2 → T3 → T4 → Int32 → Option Z) (i : Nat) (v0 : T0) (v1 : T1) (v2 : T2) (v3 : T3) (v4 : T4), i < n → P i v0 v1 v2 v3 v4 → Ev (b rec v0 v1 v2 v3 v4 (nI i)) Q ∨ (∃ w0 w1 w2 w3 w4, b rec v0 v1 v2 v3 v4 (nI i) = rec w0 w1 w2 w3 w4 (nI (i + 1)) ∧ P (i + 1) w0 w1 w2 w3 w4)) (he : ∀ (rec : T0 → T1 → T2 → T3 → T4 → Int32 → Option Z) (v0 : T0) (v1 : T1) (v2 : T2) (v3 : T3) (v4 : T4), P n v0 v1 v2 v3 v4 → Ev (b rec v0 v1 v2 v3 v4 (nI n)) Q) : ∀ (N i : Nat) (v0 : T0) (v1 : T1) (v2 : T2) (v3 : T3) (v4 : T4), i ≤ n → n - i < N → P i v0 v1 v2 v3 v4 → Ev (zl6 b N v0 v1 v2 v3 v4 (nI i)) Q := by
  intro N
  induction N with
  | zero => intro i v0 v1 v2 v3 v4 _ h; omega
  | succ N ih =>
    intro i v0 v1 v2 v3 v4 hi hN hP
    show Ev (b (zl6 b N) v0 v1 v2 v3 v4 (nI i)) Q
    rcases Nat.lt_or_ge i n with h | h
    · rcases hs (zl6 b N) i v0 v1 v2 v3 v4 h hP with h1 | ⟨w0, w1, w2, w3, w4, e, h2⟩
      · exact h1
      · rw [e]; exact ih (i + 1) w0 w1 w2 w3 w4 h (by omega) h2
    · have e : i = n := by omega
      subst e
      exact he _ v0 v1 v2 v3 v4 hP
theorem zl6g5 {T0 T1 T2 T3 T4 Z : Type} {b : (T0 → T1 → T2 → T3 → T4 → Int32 → Option Z) → T0 → T1 → T2 → T3 → T4 → Int32 → Option Z} (J : Option Z → Prop) (n : Nat) (P : Nat → T0 → T1 → T2 → T3 → T4 → Prop) (hs : ∀ (rec : T0 → T1 → T2 → T3 → T4 → Int32 → Option Z) (i : Nat) (v0 : T0) (v1 : T1) (v2 : T2) (v3 : T3) (v4 : T4), i < n → P i v0 v1 v2 v3 v4 → J (b rec v0 v1 v2 v3 v4 (nI i)) ∨ (∃ w0 w1 w2 w3 w4, b rec v0 v1 v2 v3 v4 (nI i) = rec w0 w1 w2 w3 w4 (nI (i + 1)) ∧ P (i + 1) w0 w1 w2 w3 w4)) (he : ∀ (rec : T0 → T1 → T2 → T3 → T4 → Int32 → Option Z) (v0 : T0) (v1 : T1) (v2 : T2) (v3 : T3) (v4 : T4), P n v0 v1 v2 v3 v4 → J (b rec v0 v1 v2 v3 v4 (nI n))) : ∀ (N i : Nat) (v0 : T0) (v1 : T1) (v2 : T2) (v3 : T3) (v4 : T4), i ≤ n → n - i < N → P i v0 v1 v2 v3 v4 → J (zl6 b N v0 v1 v2 v3 v4 (nI i)) := by
  intro N
  induction N with
  | zero => intro i v0 v1 v2 v3 v4 _ h; omega
  | succ N ih =>
    intro i v0 v1 v2 v3 v4 hi hN hP
    show J (b (zl6 b N) v0 v1 v2 v3 v4 (nI i))
    rcases Nat.lt_or_ge i n with h | h
    · rcases hs (zl6 b N) i v0 v1 v2 v3 v4 h hP with h1 | ⟨w0, w1, w2, w3, w4, e, h2⟩
      · exact h1
      · rw [e]; exact ih (i + 1) w0 w1 w2 w3 w4 h (by omega) h2
    · have e : i = n := by omega
      subst e
      exact he _ v0 v1 v2 v3 v4 hP
theorem zl7c0 {T1 T2 T3 T4 T5 T6 Z : Type} {b : (Int32 → T1 → T2 → T3 → T4 → T5 → T6 → Option Z) → Int32 → T1 → T2 → T3 → T4 → T5 → T6 → Option Z} {Q : Z → Prop} (n : Nat) (P : Nat → T1 → T2 → T3 → T4 → T5 → T6 → Prop) (hs : ∀ (rec : Int32 → T1 → T2 → T3 → T4 → T5 → T6 → Option Z) (i : Nat) (v1 : T1) (v2 : T2) (v3 : T3) (v4 : T4) (v5 : T5) (v6 : T6), i < n → P i v1 v2 v3 v4 v5 v6 → Ev (b rec (nI i) v1 v2 v3 v4 v5 v6) Q ∨ (∃ w1 w2 w3 w4 w5 w6, b rec (nI i) v1 v2 v3 v4 v5 v6 = rec (nI (i + 1)) w1 w2 w3 w4 w5 w6 ∧ P (i + 1) w1 w2 w3 w4 w5 w6)) (he : ∀ (rec : Int32 → T1 → T2 → T3 → T4 → T5 → T6 → Option Z) (v1 : T1) (v2 : T2) (v3 : T3) (v4 : T4) (v5 : T5) (v6 : T6), P n v1 v2 v3 v4 v5 v6 → Ev (b rec (nI n) v1 v2 v3 v4 v5 v6) Q) : ∀ (N i : Nat) (v1 : T1) (v2 : T2) (v3 : T3) (v4 : T4) (v5 : T5) (v6 : T6), i ≤ n → n - i < N → P i v1 v2 v3 v4 v5 v6 → Ev (zl7 b N (nI i) v1 v2 v3 v4 v5 v6) Q := by
  intro N
  induction N with
  | zero => intro i v1 v2 v3 v4 v5 v6 _ h; omega
  | succ N ih =>
    intro i v1 v2 v3 v4 v5 v6 hi hN hP
    show Ev (b (zl7 b N) (nI i) v1 v2 v3 v4 v5 v6) Q
    rcases Nat.lt_or_ge i n with h | h
    · rcases hs (zl7 b N) i v1 v2 v3 v4 v5 v6 h hP with h1 | ⟨w1, w2, w3, w4, w5, w6, e, h2⟩
      · exact h1
      · rw [e]; exact ih (i + 1) w1 w2 w3 w4 w5 w6 h (by omega) h2
    · have e : i = n := by omega
      subst e
      exact he _ v1 v2 v3 v4 v5 v6 hP
theorem zl7g0 {T1 T2 T3 T4 T5 T6 Z : Type} {b : (Int32 → T1 → T2 → T3 → T4 → T5 → T6 → Option Z) → Int32 → T1 → T2 → T3 → T4 → T5 → T6 → Option Z} (J : Option Z → Prop) (n : Nat) (P : Nat → T1 → T2 → T3 → T4 → T5 → T6 → Prop) (hs : ∀ (rec : Int32 → T1 → T2 → T3 → T4 → T5 → T6 → Option Z) (i : Nat) (v1 : T1) (v2 : T2) (v3 : T3) (v4 : T4) (v5 : T5) (v6 : T6), i < n → P i v1 v2 v3 v4 v5 v6 → J (b rec (nI i) v1 v2 v3 v4 v5 v6) ∨ (∃ w1 w2 w3 w4 w5 w6, b rec (nI i) v1 v2 v3 v4 v5 v6 = rec (nI (i + 1)) w1 w2 w3 w4 w5 w6 ∧ P (i + 1) w1 w2 w3 w4 w5 w6)) (he : ∀ (rec : Int32 → T1 → T2 → T3 → T4 → T5 → T6 → Option Z) (v1 : T1) (v2 : T2) (v3 : T3) (v4 : T4) (v5 : T5) (v6 : T6), P n v1 v2 v3 v4 v5 v6 → J (b rec (nI n) v1 v2 v3 v4 v5 v6)) : ∀ (N i : Nat) (v1 : T1) (v2 : T2) (v3 : T3) (v4 : T4) (v5 : T5) (v6 : T6), i ≤ n → n - i < N → P i v1 v2 v3 v4 v5 v6 → J (zl7 b N (nI i) v1 v2 v3 v4 v5 v6) := by
  intro N
  induction N with
  | zero => intro i v1 v2 v3 v4 v5 v6 _ h; omega
  | succ N ih =>
    intro i v1 v2 v3 v4 v5 v6 hi hN hP
    show J (b (zl7 b N) (nI i) v1 v2 v3 v4 v5 v6)
    rcases Nat.lt_or_ge i n with h | h
    · rcases hs (zl7 b N) i v1 v2 v3 v4 v5 v6 h hP with h1 | ⟨w1, w2, w3, w4, w5, w6, e, h2⟩
      · exact h1
      · rw [e]; exact ih (i + 1) w1 w2 w3 w4 w5 w6 h (by omega) h2
    · have e : i = n := by omega
      subst e
      exact he _ v1 v2 v3 v4 v5 v6 hP
theorem zl7c1 {T0 T2 T3 T4 T5 T6 Z : Type} {b : (T0 → Int32 → T2 → T3 → T4 → T5 → T6 → Option Z) → T0 → Int32 → T2 → T3 → T4 → T5 → T6 → Option Z} {Q : Z → Prop} (n : Nat) (P : Nat → T0 → T2 → T3 → T4 → T5 → T6 → Prop) (hs : ∀ (rec : T0 → Int32 → T2 → T3 → T4 → T5 → T6 → Option Z) (i : Nat) (v0 : T0) (v2 : T2) (v3 : T3) (v4 : T4) (v5 : T5) (v6 : T6), i < n → P i v0 v2 v3 v4 v5 v6 → Ev (b rec v0 (nI i) v2 v3 v4 v5 v6) Q ∨ (∃ w0 w2 w3 w4 w5 w6, b rec v0 (nI i) v2 v3 v4 v5 v6 = rec w0 (nI (i + 1)) w2 w3 w4 w5 w6 ∧ P (i + 1) w0 w2 w3 w4 w5 w6)) (he : ∀ (rec : T0 → Int32 → T2 → T3 → T4 → T5 → T6 → Option Z) (v0 : T0) (v2 : T2) (v3 : T3) (v4 : T4) (v5 : T5) (v6 : T6), P n v0 v2 v3 v4 v5 v6 → Ev (b rec v0 (nI n) v2 v3 v4 v5 v6) Q) : ∀ (N i : Nat) (v0 : T0) (v2 : T2) (v3 : T3) (v4 : T4) (v5 : T5) (v6 : T6), i ≤ n → n - i < N → P i v0 v2 v3 v4 v5 v6 → Ev (zl7 b N v0 (nI i) v2 v3 v4 v5 v6) Q := by
  intro N
  induction N with
  | zero => intro i v0 v2 v3 v4 v5 v6 _ h; omega
  | succ N ih =>
    intro i v0 v2 v3 v4 v5 v6 hi hN hP
    show Ev (b (zl7 b N) v0 (nI i) v2 v3 v4 v5 v6) Q
    rcases Nat.lt_or_ge i n with h | h
    · rcases hs (zl7 b N) i v0 v2 v3 v4 v5 v6 h hP with h1 | ⟨w0, w2, w3, w4, w5, w6, e, h2⟩
      · exact h1
      · rw [e]; exact ih (i + 1) w0 w2 w3 w4 w5 w6 h (by omega) h2
    · have e : i = n := by omega
      subst e
      exact he _ v0 v2 v3 v4 v5 v6 hP
theorem zl7g1 {T0 T2 T3 T4 T5 T6 Z : Type} {b : (T0 → Int32 → T2 → T3 → T4 → T5 → T6 → Option Z) → T0 → Int32 → T2 → T3 → T4 → T5 → T6 → Option Z} (J : Option Z → Prop) (n : Nat) (P : Nat → T0 → T2 → T3 → T4 → T5 → T6 → Prop) (hs : ∀ (rec : T0 → Int32 → T2 → T3 → T4 → T5 → T6 → Option Z) (i : Nat) (v0 : T0) (v2 : T2) (v3 : T3) (v4 : T4) (v5 : T5) (v6 : T6), i < n → P i v0 v2 v3 v4 v5 v6 → J (b rec v0 (nI i) v2 v3 v4 v5 v6) ∨ (∃ w0 w2 w3 w4 w5 w6, b rec v0 (nI i) v2 v3 v4 v5 v6 = rec w0 (nI (i + 1)) w2 w3 w4 w5 w6 ∧ P (i + 1) w0 w2 w3 w4 w5 w6)) (he : ∀ (rec : T0 → Int32 → T2 → T3 → T4 → T5 → T6 → Option Z) (v0 : T0) (v2 : T2) (v3 : T3) (v4 : T4) (v5 : T5) (v6 : T6), P n v0 v2 v3 v4 v5 v6 → J (b rec v0 (nI n) v2 v3 v4 v5 v6)) : ∀ (N i : Nat) (v0 : T0) (v2 : T2) (v3 : T3) (v4 : T4) (v5 : T5) (v6 : T6), i ≤ n → n - i < N → P i v0 v2 v3 v4 v5 v6 → J (zl7 b N v0 (nI i) v2 v3 v4 v5 v6) := by
  intro N
  induction N with
  | zero => intro i v0 v2 v3 v4 v5 v6 _ h; omega
  | succ N ih =>
    intro i v0 v2 v3 v4 v5 v6 hi hN hP
    show J (b (zl7 b N) v0 (nI i) v2 v3 v4 v5 v6)
    rcases Nat.lt_or_ge i n with h | h
    · rcases hs (zl7 b N) i v0 v2 v3 v4 v5 v6 h hP with h1 | ⟨w0, w2, w3, w4, w5, w6, e, h2⟩
      · exact h1
      · rw [e]; exact ih (i + 1) w0 w2 w3 w4 w5 w6 h (by omega) h2
    · have e : i = n := by omega
      subst e
      exact he _ v0 v2 v3 v4 v5 v6 hP
theorem zl7c2 {T0 T1 T3 T4 T5 T6 Z : Type} {b : (T0 → T1 → Int32 → T3 → T4 → T5 → T6 → Option Z) → T0 → T1 → Int32 → T3 → T4 → T5 → T6 → Option Z} {Q : Z → Prop} (n : Nat) (P : Nat → T0 → T1 → T3 → T4 → T5 → T6 → Prop) (hs : ∀ (rec : T0 → T1 → Int32 → T3 → T4 → T5 → T6 → Option Z) (i : Nat) (v0 : T0) (v1 : T1) (v3 : T3) (v4 : T4) (v5 : T5) (v6 : T6), i < n → P i v0 v1 v3 v4 v5 v6 → Ev (b rec v0 v1 (nI i) v3 v4 v5 v6) Q ∨ (∃ w0 w1 w3 w4 w5 w6, b rec v0 v1 (nI i) v3 v4 v5 v6 = rec w0 w1 (nI (i + 1)) w3 w4 w5 w6 ∧ P (i + 1) w0 w1 w3 w4 w5 w6)) (he : ∀ (rec : T0 → T1 → Int32 → T3 → T4 → T5 → T6 → Option Z) (v0 : T0) (v1 : T1) (v3 : T3) (v4 : T4) (v5 : T5) (v6 : T6), P n v0 v1 v3 v4 v5 v6 → Ev (b rec v0 v1 (nI n) v3 v4 v5 v6) Q) : ∀ (N i : Nat) (v0 : T0) (v1 : T1) (v3 : T3) (v4 : T4) (v5 : T5) (v6 : T6), i ≤ n → n - i < N → P i v0 v1 v3 v4 v5 v6 → Ev (zl7 b N v0 v1 (nI i) v3 v4 v5 v6) Q := by
  intro N
  induction N with
  | zero => intro i v0 v1 v3 v4 v5 v6 _ h; omega
  | succ N ih =>
    intro i v0 v1 v3 v4 v5 v6 hi hN hP
    show Ev (b (zl7 b N) v0 v1 (nI i) v3 v4 v5 v6) Q
    rcases Nat.lt_or_ge i n with h | h
    · rcases hs (zl7 b N) i v0 v1 v3 v4 v5 v6 h hP with h1 | ⟨w0, w1, w3, w4, w5, w6, e, h2⟩
      · exact h1
      · rw [e]; exact ih (i + 1) w0 w1 w3 w4 w5 w6 h (by omega) h2
    · have e : i = n := by omega
      subst e
      exact he _ v0 v1 v3 v4 v5 v6 hP
theorem zl7g2 {T0 T1 T3 T4 T5 T6 Z : Type} {b : (T0 → T1 → Int32 → T3 → T4 → T5 → T6 → Option Z) → T0 → T1 → Int32 → T3 → T4 → T5 → T6 → Option Z} (J : Option Z → Prop) (n : Nat) (P : Nat → T0 → T1 → T3 → T4 → T5 → T6 → Prop) (hs : ∀ (rec : T0 → T1 → Int32 → T3 → T4 → T5 → T6 → Option Z) (i : Nat) (v0 : T0) (v1 : T1) (v3 : T3) (v4 : T4) (v5 : T5) (v6 : T6), i < n → P i v0 v1 v3 v4 v5 v6 → J (b rec v0 v1 (nI i) v3 v4 v5 v6) ∨ (∃ w0 w1 w3 w4 w5 w6, b rec v0 v1 (nI i) v3 v4 v5 v6 = rec w0 w1 (nI (i + 1)) w3 w4 w5 w6 ∧ P (i + 1) w0 w1 w3 w4 w5 w6)) (he : ∀ (rec : T0 → T1 → Int32 → T3 → T4 → T5 → T6 → Option Z) (v0 : T0) (v1 : T1) (v3 : T3) (v4 : T4) (v5 : T5) (v6 : T6), P n v0 v1 v3 v4 v5 v6 → J (b rec v0 v1 (nI n) v3 v4 v5 v6)) : ∀ (N i : Nat) (v0 : T0) (v1 : T1) (v3 : T3) (v4 : T4) (v5 : T5) (v6 : T6), i ≤ n → n - i < N → P i v0 v1 v3 v4 v5 v6 → J (zl7 b N v0 v1 (nI i) v3 v4 v5 v6) := by
  intro N
  induction N with
  | zero => intro i v0 v1 v3 v4 v5 v6 _ h; omega
  | succ N ih =>
    intro i v0 v1 v3 v4 v5 v6 hi hN hP
    show J (b (zl7 b N) v0 v1 (nI i) v3 v4 v5 v6)
    rcases Nat.lt_or_ge i n with h | h
    · rcases hs (zl7 b N) i v0 v1 v3 v4 v5 v6 h hP with h1 | ⟨w0, w1, w3, w4, w5, w6, e, h2⟩
      · exact h1
      · rw [e]; exact ih (i + 1) w0 w1 w3 w4 w5 w6 h (by omega) h2
    · have e : i = n := by omega
      subst e
      exact he _ v0 v1 v3 v4 v5 v6 hP
theorem zl7c3 {T0 T1 T2 T4 T5 T6 Z : Type} {b : (T0 → T1 → T2 → Int32 → T4 → T5 → T6 → Option Z) → T0 → T1 → T2 → Int32 → T4 → T5 → T6 → Option Z} {Q : Z → Prop} (n : Nat) (P : Nat → T0 → T1 → T2 → T4 → T5 → T6 → Prop) (hs : ∀ (rec : T0 → T1 → T2 → Int32 → T4 → T5 → T6 → Option Z) (i : Nat) (v0 : T0) (v1 : T1) (v2 : T2) (v4 : T4) (v5 : T5) (v6 : T6), i < n → P i v0 v1 v2 v4 v5 v6 → Ev (b rec v0 v1 v2 (nI i) v4 v5 v6) Q ∨ (∃ w0 w1 w2 w4 w5 w6, b rec v0 v1 v2 (nI i) v4 v5 v6 = rec w0 w1 w2 (nI (i + 1)) w4 w5 w6 ∧ P (i + 1) w0 w1 w2 w4 w5 w6)) (he : ∀ (rec : T0 → T1 → T2 → Int32 → T4 → T5 → T6 → Option Z) (v0 : T0) (v1 : T1) (v2 : T2) (v4 : T4) (v5 : T5) (v6 : T6), P n v0 v1 v2 v4 v5 v6 → Ev (b rec v0 v1 v2 (nI n) v4 v5 v6) Q) : ∀ (N i : Nat) (v0 : T0) (v1 : T1) (v2 : T2) (v4 : T4) (v5 : T5) (v6 : T6), i ≤ n → n - i < N → P i v0 v1 v2 v4 v5 v6 → Ev (zl7 b N v0 v1 v2 (nI i) v4 v5 v6) Q := by
  intro N
  induction N with
  | zero => intro i v0 v1 v2 v4 v5 v6 _ h; omega
  | succ N ih =>
    intro i v0 v1 v2 v4 v5 v6 hi hN hP
    show Ev (b (zl7 b N) v0 v1 v2 (nI i) v4 v5 v6) Q
    rcases Nat.lt_or_ge i n with h | h
    · rcases hs (zl7 b N) i v0 v1 v2 v4 v5 v6 h hP with h1 | ⟨w0, w1, w2, w4, w5, w6, e, h2⟩
      · exact h1
      · rw [e]; exact ih (i + 1) w0 w1 w2 w4 w5 w6 h (by omega) h2
    · have e : i = n := by omega
      subst e
      exact he _ v0 v1 v2 v4 v5 v6 hP
theorem zl7g3 {T0 T1 T2 T4 T5 T6 Z : Type} {b : (T0 → T1 → T2 → Int32 → T4 → T5 → T6 → Option Z) → T0 → T1 → T2 → Int32 → T4 → T5 → T6 → Option Z} (J : Option Z → Prop) (n : Nat) (P : Nat → T0 → T1 → T2 → T4 → T5 → T6 → Prop) (hs : ∀ (rec : T0 → T1 → T2 → Int32 → T4 → T5 → T6 → Option Z) (i : Nat) (v0 : T0) (v1 : T1) (v2 : T2) (v4 : T4) (v5 : T5) (v6 : T6), i < n → P i v0 v1 v2 v4 v5 v6 → J (b rec v0 v1 v2 (nI i) v4 v5 v6) ∨ (∃ w0 w1 w2 w4 w5 w6, b rec v0 v1 v2 (nI i) v4 v5 v6 = rec w0 w1 w2 (nI (i + 1)) w4 w5 w6 ∧ P (i + 1) w0 w1 w2 w4 w5 w6)) (he : ∀ (rec : T0 → T1 → T2 → Int32 → T4 → T5 → T6 → Option Z) (v0 : T0) (v1 : T1) (v2 : T2) (v4 : T4) (v5 : T5) (v6 : T6), P n v0 v1 v2 v4 v5 v6 → J (b rec v0 v1 v2 (nI n) v4 v5 v6)) : ∀ (N i : Nat) (v0 : T0) (v1 : T1) (v2 : T2) (v4 : T4) (v5 : T5) (v6 : T6), i ≤ n → n - i < N → P i v0 v1 v2 v4 v5 v6 → J (zl7 b N v0 v1 v2 (nI i) v4 v5 v6) := by
  intro N
  induction N with
  | zero => intro i v0 v1 v2 v4 v5 v6 _ h; omega
  | succ N ih =>
    intro i v0 v1 v2 v4 v5 v6 hi hN hP
    show J (b (zl7 b N) v0 v1 v2 (nI i) v4 v5 v6)
    rcases Nat.lt_or_ge i n with h | h
    · rcases hs (zl7 b N) i v0 v1 v2 v4 v5 v6 h hP with h1 | ⟨w0, w1, w2, w4, w5, w6, e, h2⟩
      · exact h1
      · rw [e]; exact ih (i + 1) w0 w1 w2 w4 w5 w6 h (by omega) h2
    · have e : i = n := by omega
      subst e
      exact he _ v0 v1 v2 v4 v5 v6 hP
theorem zl7c4 {T0 T1 T2 T3 T5 T6 Z : Type} {b : (T0 → T1 → T2 → T3 → Int32 → T5 → T6 → Option Z) → T0 → T1 → T2 → T3 → Int32 → T5 → T6 → Option Z} {Q : Z → Prop} (n : Nat) (P : Nat → T0 → T1 → T2 → T3 → T5 → T6 → Prop) (hs : ∀ (rec : T0 → T1 → T2 → T3 → Int32 → T5 → T6 → Option Z) (i : Nat) (v0 : T0) (v1 : T1) (v2 : T2) (v3 : T3) (v5 : T5) (v6 : T6), i < n → P i v0 v1 v2 v3 v5 v6 → Ev (b rec v0 v1 v2 v3 (nI i) v5 v6) Q ∨ (∃ w0 w1 w2 w3 w5 w6, b rec v0 v1 v2 v3 (nI i) v5 v6 = rec w0 w1 w2 w3 (nI (i + 1)) w5 w6 ∧ P (i + 1) w0 w1 w2 w3 w5 w6)) (he : ∀ (rec : T0 → T1 → T2 → T3 → Int32 → T5 → T6 → Option Z) (v0 : T0) (v1 : T1) (v2 : T2) (v3 : T3) (v5 : T5) (v6 : T6), P n v0 v1 v2 v3 v5 v6 → Ev (b rec v0 v1 v2 v3 (nI n) v5 v6) Q) : ∀ (N i : Nat) (v0 : T0) (v1 : T1) (v2 : T2) (v3 : T3) (v5 : T5) (v6 : T6), i ≤ n → n - i < N → P i v0 v1 v2 v3 v5 v6 → Ev (zl7 b N v0 v1 v2 v3 (nI i) v5 v6) Q := by
  intro N
  induction N with
  | zero => intro i v0 v1 v2 v3 v5 v6 _ h; omega
  | succ N ih =>
    intro i v0 v1 v2 v3 v5 v6 hi hN hP
    show Ev (b (zl7 b N) v0 v1 v2 v3 (nI i) v5 v6) Q
    rcases Nat.lt_or_ge i n with h | h
    · rcases hs (zl7 b N) i v0 v1 v2 v3 v5 v6 h hP with h1 | ⟨w0, w1, w2, w3, w5, w6, e, h2⟩
      · exact h1
      · rw [e]; exact ih (i + 1) w0 w1 w2 w3 w5 w6 h (by omega) h2
    · have e : i = n := by omega
      subst e
      exact he _ v0 v1 v2 v3 v5 v6 hP
theorem zl7g4 {T0 T1 T2 T3 T5 T6 Z : Type} {b : (T0 → T1 → T2 → T3 → Int32 → T5 → T6 → Option Z) → T0 → T1 → T2 → T3 → Int32 → T5 → T6 → Option Z} (J : Option Z → Prop) (n : Nat) (P : Nat → T0 → T1 → T2 → T3 → T5 → T6 → Prop) (hs : ∀ (rec : T0 → T1 → T2 → T3 → Int32 → T5 → T6 → Option Z) (i : Nat) (v0 : T0) (v1 : T1) (v2 : T2) (v3 : T3) (v5 : T5) (v6 : T6), i < n → P i v0 v1 v2 v3 v5 v6 → J (b rec v0 v1 v2 v3 (nI i) v5 v6) ∨ (∃ w0 w1 w2 w3 w5 w6, b rec v0 v1 v2 v3 (nI i) v5 v6 = rec w0 w1 w2 w3 (nI (i + 1)) w5 w6 ∧ P (i + 1) w0 w1 w2 w3 w5 w6)) (he : ∀ (rec : T0 → T1 → T2 → T3 → Int32 → T5 → T6 → Option Z) (v0 : T0) (v1 : T1) (v2 : T2) (v3 : T3) (v5 : T5) (v6 : T6), P n v0 v1 v2 v3 v5 v6 → J (b rec v0 v1 v2 v3 (nI n) v5 v6)) : ∀ (N i : Nat) (v0 : T0) (v1 : T1) (v2 : T2) (v3 : T3) (v5 : T5) (v6 : T6), i ≤ n → n - i < N → P i v0 v1 v2 v3 v5 v6 → J (zl7 b N v0 v1 v2 v3 (nI i) v5 v6) := by
  intro N
  induction N with
  | zero => intro i v0 v1 v2 v3 v5 v6 _ h; omega
  | succ N ih =>
    intro i v0 v1 v2 v3 v5 v6 hi hN hP
    show J (b (zl7 b N) v0 v1 v2 v3 (nI i) v5 v6)
    rcases Nat.lt_or_ge i n with h | h
    · rcases hs (zl7 b N) i v0 v1 v2 v3 v5 v6 h hP with h1 | ⟨w0, w1, w2, w3, w5, w6, e, h2⟩
      · exact h1
      · rw [e]; exact ih (i + 1) w0 w1 w2 w3 w5 w6 h (by omega) h2
    · have e : i = n := by omega
      subst e
      exact he _ v0 v1 v2 v3 v5 v6 hP
theorem zl7c5 {T0 T1 T2 T3 T4 T6 Z : Type} {b : (T0 → T1 → T2 → T3 → T4 → Int32 → T6 → Option Z) → T0 → T1 → T2 → T3 → T4 → Int32 → T6 → Option Z} {Q : Z → Prop} (n : Nat) (P : Nat → T0 → T1 → T2 → T3 → T4 → T6 → Prop) (hs : ∀ (rec : T0 → T1 → T2 → T3 → T4 → Int32 → T6 → Option Z) (i : Nat) (v0 : T0) (v1 : T1) (v2 : T2) (v3 : T3) (v4 : T4) (v6 : T6), i < n → P i v0 v1 v2 v3 v4 v6 → Ev (b rec v0 v1 v2 v3 v4 (nI i) v6) Q ∨ (∃ w0 w1 w2 w3 w4 w6, b rec v0 v1 v2 v3 v4 (nI i) v6 = rec w0 w1 w2 w3 w4 (nI (i + 1)) w6 ∧ P (i + 1) w0 w1 w2 w3 w4 w6)) (he : ∀ (rec : T0 → T1 → T2 → T3 → T4 → Int32 → T6 → Option Z) (v0 : T0) (v1 : T1) (v2 : T2) (v3 : T3) (v4 : T4) (v6 : T6), P n v0 v1 v2 v3 v4 v6 → Ev (b rec v0 v1 v2 v3 v4 (nI n) v6) Q) : ∀ (N i : Nat) (v0 : T0) (v1 : T1) (v2 : T2) (v3 : T3) (v4 : T4) (v6 : T6), i ≤ n → n - i < N → P i v0 v1 v2 v3 v4 v6 → Ev (zl7 b N v0 v1 v2 v3 v4 (nI i) v6) Q := by
  intro N
  induction N with
  | zero => intro i v0 v1 v2 v3 v4 v6 _ h; omega
  | succ N ih =>
    intro i v0 v1 v2 v3 v4 v6 hi hN hP
    show Ev (b (zl7 b N) v0 v1 v2 v3 v4 (nI i) v6) Q
    rcases Nat.lt_or_ge i n with h | h
    · rcases hs (zl7 b N) i v0 v1 v2 v3 v4 v6 h hP with h1 | ⟨w0, w1, w2, w3, w4, w6, e, h2⟩
      · exact h1
      · rw [e]; exact ih (i + 1) w0 w1 w2 w3 w4 w6 h (by omega) h2
    · have e : i = n := by omega
      subst e
      exact he _ v0 v1 v2 v3 v4 v6 hP
theorem zl7g5 {T0 T1 T2 T3 T4 T6 Z : Type} {b : (T0 → T1 → T2 → T3 → T4 → Int32 → T6 → Option Z) → T0 → T1 → T2 → T3 → T4 → Int32 → T6 → Option Z} (J : Option Z → Prop) (n : Nat) (P : Nat → T0 → T1 → T2 → T3 → T4 → T6 → Prop) (hs : ∀ (rec : T0 → T1 → T2 → T3 → T4 → Int32 → T6 → Option Z) (i : Nat) (v0 : T0) (v1 : T1) (v2 : T2) (v3 : T3) (v4 : T4) (v6 : T6), i < n → P i v0 v1 v2 v3 v4 v6 → J (b rec v0 v1 v2 v3 v4 (nI i) v6) ∨ (∃ w0 w1 w2 w3 w4 w6, b rec v0 v1 v2 v3 v4 (nI i) v6 = rec w0 w1 w2 w3 w4 (nI (i + 1)) w6 ∧ P (i + 1) w0 w1 w2 w3 w4 w6)) (he : ∀ (rec : T0 → T1 → T2 → T3 → T4 → Int32 → T6 → Option Z) (v0 : T0) (v1 : T1) (v2 : T2) (v3 : T3) (v4 : T4) (v6 : T6), P n v0 v1 v2 v3 v4 v6 → J (b rec v0 v1 v2 v3 v4 (nI n) v6)) : ∀ (N i : Nat) (v0 : T0) (v1 : T1) (v2 : T2) (v3 : T3) (v4 : T4) (v6 : T6), i ≤ n → n - i < N → P i v0 v1 v2 v3 v4 v6 → J (zl7 b N v0 v1 v2 v3 v4 (nI i) v6) := by
  intro N
  induction N with
  | zero => intro i v0 v1 v2 v3 v4 v6 _ h; omega
  | succ N ih =>
    intro i v0 v1 v2 v3 v4 v6 hi hN hP
    show J (b (zl7 b N) v0 v1 v2 v3 v4 (nI i) v6)
    rcases Nat.lt_or_ge i n with h | h
    · rcases hs (zl7 b N) i v0 v1 v2 v3 v4 v6 h hP with h1 | ⟨w0, w1, w2, w3, w4, w6, e, h2⟩
      · exact h1
      · rw [e]; exact ih (i + 1) w0 w1 w2 w3 w4 w6 h (by omega) h2
    · have e : i = n := by omega
      subst e
      exact he _ v0 v1 v2 v3 v4 v6 hP
theorem zl7c6 {T0 T1 T2 T3 T4 T5 Z : Type} {b : (T0 → T1 → T2 → T3 → T4 → T5 → Int32 → Option Z) → T0 → T1 → T2 → T3 → T4 → T5 → Int32 → Option Z} {Q : Z → Prop} (n : Nat) (P : Nat → T0 → T1 → T2 → T3 → T4 → T5 → Prop) (hs : ∀ (rec : T0 → T1 → T2 → T3 → T4 → T5 → Int32 → Option Z) (i : Nat) (v0 : T0) (v1 : T1) (v2 : T2) (v3 : T3) (v4 : T4) (v5 : T5), i < n → P i v0 v1 v2 v3 v4 v5 → Ev (b rec v0 v1 v2 v3 v4 v5 (nI i)) Q ∨ (∃ w0 w1 w2 w3 w4 w5, b rec v0 v1 v2 v3 v4 v5 (nI i) = rec w0 w1 w2 w3 w4 w5 (nI (i + 1)) ∧ P (i + 1) w0 w1 w2 w3 w4 w5)) (he : ∀ (rec : T0 → T1 → T2 → T3 → T4 → T5 → Int32 → Option Z) (v0 : T0) (v1 : T1) (v2 : T2) (v3 : T3) (v4 : T4) (v5 : T5), P n v0 v1 v2 v3 v4 v5 → Ev (b rec v0 v1 v2 v3 v4 v5 (nI n)) Q) : ∀ (N i : Nat) (v0 : T0) (v1 : T1) (v2 : T2) (v3 : T3) (v4 : T4) (v5 : T5), i ≤ n → n - i < N → P i v0 v1 v2 v3 v4 v5 → Ev (zl7 b N v0 v1 v2 v3 v4 v5 (nI i)) Q := by
  intro N
  induction N with
  | zero => intro i v0 v1 v2 v3 v4 v5 _ h; omega
  | succ N ih =>
    intro i v0 v1 v2 v3 v4 v5 hi hN hP
    show Ev (b (zl7 b N) v0 v1 v2 v3 v4 v5 (nI i)) Q
    rcases Nat.lt_or_ge i n with h | h
    · rcases hs (zl7 b N) i v0 v1 v2 v3 v4 v5 h hP with h1 | ⟨w0, w1, w2, w3, w4, w5, e, h2⟩
      · exact h1
      · rw [e]; exact ih (i + 1) w0 w1 w2 w3 w4 w5 h (by omega) h2
    · have e : i = n := by omega
      subst e
      exact he _ v0 v1 v2 v3 v4 v5 hP
theorem zl7g6 {T0 T1 T2 T3 T4 T5 Z : Type} {b : (T0 → T1 → T2 → T3 → T4 → T5 → Int32 → Option Z) → T0 → T1 → T2 → T3 → T4 → T5 → Int32 → Option Z} (J : Option Z → Prop) (n : Nat) (P : Nat → T0 → T1 → T2 → T3 → T4 → T5 → Prop) (hs : ∀ (rec : T0 → T1 → T2 → T3 → T4 → T5 → Int32 → Option Z) (i : Nat) (v0 : T0) (v1 : T1) (v2 : T2) (v3 : T3) (v4 : T4) (v5 : T5), i < n → P i v0 v1 v2 v3 v4 v5 → J (b rec v0 v1 v2 v3 v4 v5 (nI i)) ∨ (∃ w0 w1 w2 w3 w4 w5, b rec v0 v1 v2 v3 v4 v5 (nI i) = rec w0 w1 w2 w3 w4 w5 (nI (i + 1)) ∧ P (i + 1) w0 w1 w2 w3 w4 w5)) (he : ∀ (rec : T0 → T1 → T2 → T3 → T4 → T5 → Int32 → Option Z) (v0 : T0) (v1 : T1) (v2 : T2) (v3 : T3) (v4 : T4) (v5 : T5), P n v0 v1 v2 v3 v4 v5 → J (b rec v0 v1 v2 v3 v4 v5 (nI n))) : ∀ (N i : Nat) (v0 : T0) (v1 : T1) (v2 : T2) (v3 : T3) (v4 : T4) (v5 : T5), i ≤ n → n - i < N → P i v0 v1 v2 v3 v4 v5 → J (zl7 b N v0 v1 v2 v3 v4 v5 (nI i)) := by
  intro N
  induction N with
  | zero => intro i v0 v1 v2 v3 v4 v5 _ h; omega
  | succ N ih =>
    intro i v0 v1 v2 v3 v4 v5 hi hN hP
    show J (b (zl7 b N) v0 v1 v2 v3 v4 v5 (nI i))
    rcases Nat.lt_or_ge i n with h | h
    · rcases hs (zl7 b N) i v0 v1 v2 v3 v4 v5 h hP with h1 | ⟨w0, w1, w2, w3, w4, w5, e, h2⟩
      · exact h1
      · rw [e]; exact ih (i + 1) w0 w1 w2 w3 w4 w5 h (by omega) h2
    · have e : i = n := by omega
      subst e
      exact he _ v0 v1 v2 v3 v4 v5 hP
theorem zl8c0 {T1 T2 T3 T4 T5 T6 T7 Z : Type} {b : (Int32 → T1 → T2 → T3 → T4 → T5 → T6 → T7 → Option Z) → Int32 → T1 → T2 → T3 → T4 → T5 → T6 → T7 → Option Z} {Q : Z → Prop} (n : Nat) (P : Nat → T1 → T2 → T3 → T4 → T5 → T6 → T7 → Prop) (hs : ∀ (rec : Int32 → T1 → T2 → T3 → T4 → T5 → T6 → T7 → Option Z) (i : Nat) (v1 : T1) (v2 : T2) (v3 : T3) (v4 : T4) (v5 : T5) (v6 : T6) (v7 : T7), i < n → P i v1 v2 v3 v4 v5 v6 v7 → Ev (b rec (nI i) v1 v2 v3 v4 v5 v6 v7) Q ∨ (∃ w1 w2 w3 w4 w5 w6 w7, b rec (nI i) v1 v2 v3 v4 v5 v6 v7 = rec (nI (i + 1)) w1 w2 w3 w4 w5 w6 w7 ∧ P (i + 1) w1 w2 w3 w4 w5 w6 w7)) (he : ∀ (rec : Int32 → T1 → T2 → T3 → T4 → T5 → T6 → T7 → Option Z) (v1 : T1) (v2 : T2) (v3 : T3) (v4 : T4) (v5 : T5) (v6 : T6) (v7 : T7), P n v1 v2 v3 v4 v5 v6 v7 → Ev (b rec (nI n) v1 v2 v3 v4 v5 v6 v7) Q) : ∀ (N i : Nat) (v1 : T1) (v2 : T2) (v3 : T3) (v4 : T4) (v5 : T5) (v6 : T6) (v7 : T7), i ≤ n → n - i < N → P i v1 v2 v3 v4 v5 v6 v7 → Ev (zl8 b N (nI i) v1 v2 v3 v4 v5 v6 v7) Q := by
  intro N
  induction N with
  | zero => intro i v1 v2 v3 v4 v5 v6 v7 _ h; omega
  | succ N ih =>
    intro i v1 v2 v3 v4 v5 v6 v7 hi hN hP
    show Ev (b (zl8 b N) (nI i) v1 v2 v3 v4 v5 v6 v7) Q
    rcases Nat.lt_or_ge i n with h | h
    · rcases hs (zl8 b N) i v1 v2 v3 v4 v5 v6 v7 h hP with h1 | ⟨w1, w2, w3, w4, w5, w6, w7, e, h2⟩
      · exact h1
      · rw [e]; exact ih (i + 1) w1 w2 w3 w4 w5 w6 w7 h (by omega) h2
    · have e : i = n := by omega
      subst e
      exact he _ v1 v2 v3 v4 v5 v6 v7 hP
theorem zl8g0 {T1 T2 T3 T4 T5 T6 T7 Z : Type} {b : (Int32 → T1 → T2 → T3 → T4 → T5 → T6 → T7 → Option Z) → Int32 → T1 → T2 → T3 → T4 → T5 → T6 → T7 → Option Z} (J : Option Z → Prop) (n : Nat) (P : Nat → T1 → T2 → T3 → T4 → T5 → T6 → T7 → Prop) (hs : ∀ (rec : Int32 → T1 → T2 → T3 → T4 → T5 → T6 → T7 → Option Z) (i : Nat) (v1 : T1) (v2 : T2) (v3 : T3) (v4 : T4) (v5 : T5) (v6 : T6) (v7 : T7), i < n → P i v1 v2 v3 v4 v5 v6 v7 → J (b rec (nI i) v1 v2 v3 v4 v5 v6 v7) ∨ (∃ w1 w2 w3 w4 w5 w6 w7, b rec (nI i) v1 v2 v3 v4 v5 v6 v7 = rec (nI (i + 1)) w1 w2 w3 w4 w5 w6 w7 ∧ P (i + 1) w1 w2 w3 w4 w5 w6 w7)) (he : ∀ (rec : Int32 → T1 → T2 → T3 → T4 → T5 → T6 → T7 → Option Z) (v1 : T1) (v2 : T2) (v3 : T3) (v4 : T4) (v5 : T5) (v6 : T6) (v7 : T7), P n v1 v2 v3 v4 v5 v6 v7 → J (b rec (nI n) v1 v2 v3 v4 v5 v6 v7)) : ∀ (N i : Nat) (v1 : T1) (v2 : T2) (v3 : T3) (v4 : T4) (v5 : T5) (v6 : T6) (v7 : T7), i ≤ n → n - i < N → P i v1 v2 v3 v4 v5 v6 v7 → J (zl8 b N (nI i) v1 v2 v3 v4 v5 v6 v7) := by
  intro N
  induction N with
  | zero => intro i v1 v2 v3 v4 v5 v6 v7 _ h; omega
  | succ N ih =>
    intro i v1 v2 v3 v4 v5 v6 v7 hi hN hP
    show J (b (zl8 b N) (nI i) v1 v2 v3 v4 v5 v6 v7)
    rcases Nat.lt_or_ge i n with h | h
    · rcases hs (zl8 b N) i v1 v2 v3 v4 v5 v6 v7 h hP with h1 | ⟨w1, w2, w3, w4, w5, w6, w7, e, h2⟩
      · exact h1
      · rw [e]; exact ih (i + 1) w1 w2 w3 w4 w5 w6 w7 h (by omega) h2
    · have e : i = n := by omega
      subst e
      exact he _ v1 v2 v3 v4 v5 v6 v7 hP
theorem zl8c1 {T0 T2 T3 T4 T5 T6 T7 Z : Type} {b : (T0 → Int32 → T2 → T3 → T4 → T5 → T6 → T7 → Option Z) → T0 → Int32 → T2 → T3 → T4 → T5 → T6 → T7 → Option Z} {Q : Z → Prop} (n : Nat) (P : Nat → T0 → T2 → T3 → T4 → T5 → T6 → T7 → Prop) (hs : ∀ (rec : T0 → Int32 → T2 → T3 → T4 → T5 → T6 → T7 → Option Z) (i : Nat) (v0 : T0) (v2 : T2) (v3 : T3) (v4 : T4) (v5 : T5) (v6 : T6) (v7 : T7), i < n → P i v0 v2 v3 v4 v5 v6 v7 → Ev (b rec v0 (nI i) v2 v3 v4 v5 v6 v7) Q ∨ (∃ w0 w2 w3 w4 w5 w6 w7, b rec v0 (nI i) v2 v3 v4 v5 v6 v7 = rec w0 (nI (i + 1)) w2 w3 w4 w5 w6 w7 ∧ P (i + 1) w0 w2 w3 w4 w5 w6 w7)) (he : ∀ (rec : T0 → Int32 → T2 → T3 → T4 → T5 → T6 → T7 → Option Z) (v0 : T0) (v2 : T2) (v3 : T3) (v4 : T4) (v5 : T5) (v6 : T6) (v7 : T7), P n v0 v2 v3 v4 v5 v6 v7 → Ev (b rec v0 (nI n) v2 v3 v4 v5 v6 v7) Q) : ∀ (N i : Nat) (v0 : T0) (v2 : T2) (v3 : T3) (v4 : T4) (v5 : T5) (v6 : T6) (v7 : T7), i ≤ n → n - i < N → P i v0 v2 v3 v4 v5 v6 v7 → Ev (zl8 b N v0 (nI i) v2 v3 v4 v5 v6 v7) Q := by
  intro N
  induction N with
  | zero => intro i v0 v2 v3 v4 v5 v6 v7 _ h; omega
  | succ N ih =>
    intro i v0 v2 v3 v4 v5 v6 v7 hi hN hP
    show Ev (b (zl8 b N) v0 (nI i) v2 v3 v4 v5 v6 v7) Q
    rcases Nat.lt_or_ge i n with h | h
    · rcases hs (zl8 b N) i v0 v2 v3 v4 v5 v6 v7 h hP with h1 | ⟨w0, w2, w3, w4, w5, w6, w7, e, h2⟩
      · exact h1
      · rw [e]; exact ih (i + 1) w0 w2 w3 w4 w5 w6 w7 h (by omega) h2
    · have e : i = n := by omega
      subst e
      exact he _ v0 v2 v3 v4 v5 v6 v7 hP
theorem zl8g1 {T0 T2 T3 T4 T5 T6 T7 Z : Type} {b : (T0 → Int32 → T2 → T3 → T4 → T5 → T6 → T7 → Option Z) → T0 → Int32 → T2 → T3 → T4 → T5 → T6 → T7 → Option Z} (J : Option Z → Prop) (n : Nat) (P : Nat → T0 → T2 → T3 → T4 → T5 → T6 → T7 → Prop) (hs : ∀ (rec : T0 → Int32 → T2 → T3 → T4 → T5 → T6 → T7 → Option Z) (i : Nat) (v0 : T0) (v2 : T2) (v3 : T3) (v4 : T4) (v5 : T5) (v6 : T6) (v7 : T7), i < n → P i v0 v2 v3 v4 v5 v6 v7 → J (b rec v0 (nI i) v2 v3 v4 v5 v6 v7) ∨ (∃ w0 w2 w3 w4 w5 w6 w7, b rec v0 (nI i) v2 v3 v4 v5 v6 v7 = rec w0 (nI (i + 1)) w2 w3 w4 w5 w6 w7 ∧ P (i + 1) w0 w2 w3 w4 w5 w6 w7)) (he : ∀ (rec : T0 → Int32 → T2 → T3 → T4 → T5 → T6 → T7 → Option Z) (v0 : T0) (v2 : T2) (v3 : T3) (v4 : T4) (v5 : T5) (v6 : T6) (v7 : T7), P n v0 v2 v3 v4 v5 v6 v7 → J (b rec v0 (nI n) v2 v3 v4 v5 v6 v7)) : ∀ (N i : Nat) (v0 : T0) (v2 : T2) (v3 : T3) (v4 : T4) (v5 : T5) (v6 : T6) (v7 : T7), i ≤ n → n - i < N → P i v0 v2 v3 v4 v5 v6 v7 → J (zl8 b N v0 (nI i) v2 v3 v4 v5 v6 v7) := by
  intro N
  induction N with
  | zero => intro i v0 v2 v3 v4 v5 v6 v7 _ h; omega
  | succ N ih =>
    intro i v0 v2 v3 v4 v5 v6 v7 hi hN hP
    show J (b (zl8 b N) v0 (nI i) v2 v3 v4 v5 v6 v7)
    rcases Nat.lt_or_ge i n with h | h
    · rcases hs (zl8 b N) i v0 v2 v3 v4 v5 v6 v7 h hP with h1 | ⟨w0, w2, w3, w4, w5, w6, w7, e, h2⟩
      · exact h1
      · rw [e]; exact ih (i + 1) w0 w2 w3 w4 w5 w6 w7 h (by omega) h2
    · have e : i = n := by omega
      subst e
      exact he _ v0 v2 v3 v4 v5 v6 v7 hP
theorem zl8c2 {T0 T1 T3 T4 T5 T6 T7 Z : Type} {b : (T0 → T1 → Int32 → T3 → T4 → T5 → T6 → T7 → Option Z) → T0 → T1 → Int32 → T3 → T4 → T5 → T6 → T7 → Option Z} {Q : Z → Prop} (n : Nat) (P : Nat → T0 → T1 → T3 → T4 → T5 → T6 → T7 → Prop) (hs : ∀ (rec : T0 → T1 → Int32 → T3 → T4 → T5 → T6 → T7 → Option Z) (i : Nat) (v0 : T0) (v1 : T1) (v3 : T3) (v4 : T4) (v5 : T5) (v6 : T6) (v7 : T7), i < n → P i v0 v1 v3 v4 v5 v6 v7 → Ev (b rec v0 v1 (nI i) v3 v4 v5 v6 v7) Q ∨ (∃ w0 w1 w3 w4 w5 w6 w7, b rec v0 v1 (nI i) v3 v4 v5 v6 v7 = rec w0 w1 (nI (i + 1)) w3 w4 w5 w6 w7 ∧ P (i + 1) w0 w1 w3 w4 w5 w6 w7)) (he : ∀ (rec : T0 → T1 → Int32 → T3 → T4 → T5 → T6 → T7 → Option Z) (v0 : T0) (v1 : T1) (v3 : T3) (v4 : T4) (v5 : T5) (v6 : T6) (v7 : T7), P n v0 v1 v3 v4 v5 v6 v7 → Ev (b rec v0 v1 (nI n) v3 v4 v5 v6 v7) Q) : ∀ (N i : Nat) (v0 : T0) (v1 : T1) (v3 : T3) (v4 : T4) (v5 : T5) (v6 : T6) (v7 : T7), i ≤ n → n - i < N → P i v0 v1 v3 v4 v5 v6 v7 → Ev (zl8 b N v0 v1 (nI i) v3 v4 v5 v6 v7) Q := by
  intro N
  induction N with
  | zero => intro i v0 v1 v3 v4 v5 v6 v7 _ h; omega
  | succ N ih =>
    intro i v0 v1 v3 v4 v5 v6 v7 hi hN hP
    show Ev (b (zl8 b N) v0 v1 (nI i) v3 v4 v5 v6 v7) Q
    rcases Nat.lt_or_ge i n with h | h
    · rcases hs (zl8 b N) i v0 v1 v3 v4 v5 v6 v7 h hP with h1 | ⟨w0, w1, w3, w4, w5, w6, w7, e, h2⟩
      · exact h1
      · rw [e]; exact ih (i + 1) w0 w1 w3 w4 w5 w6 w7 h (by omega) h2
    · have e : i = n := by omega
      subst e
      exact he _ v0 v1 v3 v4 v5 v6 v7 hP
theorem zl8g2 {T0 T1 T3 T4 T5 T6 T7 Z : Type} {b : (T0 → T1 → Int32 → T3 → T4 → T5 → T6 → T7 → Option Z) → T0 → T1 → Int32 → T3 → T4 → T5 → T6 → T7 → Option Z} (J : Option Z → Prop) (n : Nat) (P : Nat → T0 → T1 → T3 → T4 → T5 → T6 → T7 → Prop) (hs : ∀ (rec : T0 → T1 → Int32 → T3 → T4 → T5 → T6 → T7 → Option Z) (i : Nat) (v0 : T0) (v1 : T1) (v3 : T3) (v4 : T4) (v5 : T5) (v6 : T6) (v7 : T7), i < n → P i v0 v1 v3 v4 v5 v6 v7 → J (b rec v0 v1 (nI i) v3 v4 v5 v6 v7) ∨ (∃ w0 w1 w3 w4 w5 w6 w7, b rec v0 v1 (nI i) v3 v4 v5 v6 v7 = rec w0 w1 (nI (i + 1)) w3 w4 w5 w6 w7 ∧ P (i + 1) w0 w1 w3 w4 w5 w6 w7)) (he : ∀ (rec : T0 → T1 → Int32 → T3 → T4 → T5 → T6 → T7 → Option Z) (v0 : T0) (v1 : T1) (v3 : T3) (v4 : T4) (v5 : T5) (v6 : T6) (v7 : T7), P n v0 v1 v3 v4 v5 v6 v7 → J (b rec v0 v1 (nI n) v3 v4 v5 v6 v7)) : ∀ (N i : Nat) (v0 : T0) (v1 : T1) (v3 : T3) (v4 : T4) (v5 : T5) (v6 : T6) (v7 : T7), i ≤ n → n - i < N → P i v0 v1 v3 v4 v5 v6 v7 → J (zl8 b N v0 v1 (nI i) v3 v4 v5 v6 v7) := by
  intro N
  induction N with
  | zero => intro i v0 v1 v3 v4 v5 v6 v7 _ h; omega
  | succ N ih =>
    intro i v0 v1 v3 v4 v5 v6 v7 hi hN hP
    show J (b (zl8 b N) v0 v1 (nI i) v3 v4 v5 v6 v7)
    rcases Nat.lt_or_ge i n with h | h
    · rcases hs (zl8 b N) i v0 v1 v3 v4 v5 v6 v7 h hP with h1 | ⟨w0, w1, w3, w4, w5, w6, w7, e, h2⟩
      · exact h1
      · rw [e]; exact ih (i + 1) w0 w1 w3 w4 w5 w6 w7 h (by omega) h2
    · have e : i = n := by omega
      subst e
      exact he _ v0 v1 v3 v4 v5 v6 v7 hP
theorem zl8c3 {T0 T1 T2 T4 T5 T6 T7 Z : Type} {b : (T0 → T1 → T2 → Int32 → T4 → T5 → T6 → T7 → Option Z) → T0 → T1 → T2 → Int32 → T4 → T5 → T6 → T7 → Option Z} {Q : Z → Prop} (n : Nat) (P : Nat → T0 → T1 → T2 → T4 → T5 → T6 → T7 → Prop) (hs : ∀ (rec : T0 → T1 → T2 → Int32 → T4 → T5 → T6 → T7 → Option Z) (i : Nat) (v0 : T0) (v1 : T1) (v2 : T2) (v4 : T4) (v5 : T5) (v6 : T6) (v7 : T7), i < n → P i v0 v1 v2 v4 v5 v6 v7 → Ev (b rec v0 v1 v2 (nI i) v4 v5 v6 v7) Q ∨ (∃ w0 w1 w2 w4 w5 w6 w7, b rec v0 v1 v2 (nI i) v4 v5 v6 v7 = rec w0 w1 w2 (nI (i + 1)) w4 w5 w6 w7 ∧ P (i + 1) w0 w1 w2 w4 w5 w6 w7)) (he : ∀ (rec : T0 → T1 → T2 → Int32 → T4 → T5 → T6 → T7 → Option Z) (v0 : T0) (v1 : T1) (v2 : T2) (v4 : T4) (v5 : T5) (v6 : T6) (v7 : T7), P n v0 v1 v2 v4 v5 v6 v7 → Ev (b rec v0 v1 v2 (nI n) v4 v5 v6 v7) Q) : ∀ (N i : Nat) (v0 : T0) (v1 : T1) (v2 : T2) (v4 : T4) (v5 : T5) (v6 : T6) (v7 : T7), i ≤ n → n - i < N → P i v0 v1 v2 v4 v5 v6 v7 → Ev (zl8 b N v0 v1 v2 (nI i) v4 v5 v6 v7) Q := by
  intro N
  induction N with
  | zero => intro i v0 v1 v2 v4 v5 v6 v7 _ h; omega
  | succ N ih =>
    intro i v0 v1 v2 v4 v5 v6 v7 hi hN hP
    show Ev (b (zl8 b N) v0 v1 v2 (nI i) v4 v5 v6 v7) Q
    rcases Nat.lt_or_ge i n with h | h
    · rcases hs (zl8 b N) i v0 v1 v2 v4 v5 v6 v7 h hP with h1 | ⟨w0, w1, w2, w4, w5, w6, w7, e, h2⟩
      · exact h1
      · rw [e]; exact ih (i + 1) w0 w1 w2 w4 w5 w6 w7 h (by omega) h2
    · have e : i = n := by omega
      subst e
      exact he _ v0 v1 v2 v4 v5 v6 v7 hP
theorem zl8g3 {T0 T1 T2 T4 T5 T6 T7 Z : Type} {b : (T0 → T1 → T2 → Int32 → T4 → T5 → T6 → T7 → Option Z) → T0 → T1 → T2 → Int32 → T4 → T5 → T6 → T7 → Option Z} (J : Option Z → Prop) (n : Nat) (P : Nat → T0 → T1 → T2 → T4 → T5 → T6 → T7 → Prop) (hs : ∀ (rec : T0 → T1 → T2 → Int32 → T4 → T5 → T6 → T7 → Option Z) (i : Nat) (v0 : T0) (v1 : T1) (v2 : T2) (v4 : T4) (v5 : T5) (v6 : T6) (v7 : T7), i < n → P i v0 v1 v2 v4 v5 v6 v7 → J (b rec v0 v1 v2 (nI i) v4 v5 v6 v7) ∨ (∃ w0 w1 w2 w4 w5 w6 w7, b rec v0 v1 v2 (nI i) v4 v5 v6 v7 = rec w0 w1 w2 (nI (i + 1)) w4 w5 w6 w7 ∧ P (i + 1) w0 w1 w2 w4 w5 w6 w7)) (he : ∀ (rec : T0 → T1 → T2 → Int32 → T4 → T5 → T6 → T7 → Option Z) (v0 : T0) (v1 : T1) (v2 : T2) (v4 : T4) (v5 : T5) (v6 : T6) (v7 : T7), P n v0 v1 v2 v4 v5 v6 v7 → J (b rec v0 v1 v2 (nI n) v4 v5 v6 v7)) : ∀ (N i : Nat) (v0 : T0) (v1 : T1) (v2 : T2) (v4 : T4) (v5 : T5) (v6 : T6) (v7 : T7), i ≤ n → n - i < N → P i v0 v1 v2 v4 v5 v6 v7 → J (zl8 b N v0 v1 v2 (nI i) v4 v5 v6 v7) := by
  intro N
  induction N with
  | zero => intro i v0 v1 v2 v4 v5 v6 v7 _ h; omega
  | succ N ih =>
    intro i v0 v1 v2 v4 v5 v6 v7 hi hN hP
    show J (b (zl8 b N) v0 v1 v2 (nI i) v4 v5 v6 v7)
    rcases Nat.lt_or_ge i n with h | h
    · rcases hs (zl8 b N) i v0 v1 v2 v4 v5 v6 v7 h hP with h1 | ⟨w0, w1, w2, w4, w5, w6, w7, e, h2⟩
      · exact h1
      · rw [e]; exact ih (i + 1) w0 w1 w2 w4 w5 w6 w7 h (by omega) h2
    · have e : i = n := by omega
      subst e
      exact he _ v0 v1 v2 v4 v5 v6 v7 hP
theorem zl8c4 {T0 T1 T2 T3 T5 T6 T7 Z : Type} {b : (T0 → T1 → T2 → T3 → Int32 → T5 → T6 → T7 → Option Z) → T0 → T1 → T2 → T3 → Int32 → T5 → T6 → T7 → Option Z} {Q : Z → Prop} (n : Nat) (P : Nat → T0 → T1 → T2 → T3 → T5 → T6 → T7 → Prop) (hs : ∀ (rec : T0 → T1 → T2 → T3 → Int32 → T5 → T6 → T7 → Option Z) (i : Nat) (v0 : T0) (v1 : T1) (v2 : T2) (v3 : T3) (v5 : T5) (v6 : T6) (v7 : T7), i < n → P i v0 v1 v2 v3 v5 v6 v7 → Ev (b rec v0 v1 v2 v3 (nI i) v5 v6 v7) Q ∨ (∃ w0 w1 w2 w3 w5 w6 w7, b rec v0 v1 v2 v3 (nI i) v5 v6 v7 = rec w0 w1 w2 w3 (nI (i + 1)) w5 w6 w7 ∧ P (i + 1) w0 w1 w2 w3 w5 w6 w7)) (he : ∀ (rec : T0 → T1 → T2 → T3 → Int32 → T5 → T6 → T7 → Option Z) (v0 : T0) (v1 : T1) (v2 : T2) (v3 : T3) (v5 : T5) (v6 : T6) (v7 : T7), P n v0 v1 v2 v3 v5 v6 v7 → Ev (b rec v0 v1 v2 v3 (nI n) v5 v6 v7) Q) : ∀ (N i : Nat) (v0 : T0) (v1 : T1) (v2 : T2) (v3 : T3) (v5 : T5) (v6 : T6) (v7 : T7), i ≤ n → n - i < N → P i v0 v1 v2 v3 v5 v6 v7 → Ev (zl8 b N v0 v1 v2 v3 (nI i) v5 v6 v7) Q := by
  intro N
  induction N with
  | zero => intro i v0 v1 v2 v3 v5 v6 v7 _ h; omega
  | succ N ih =>
    intro i v0 v1 v2 v3 v5 v6 v7 hi hN hP
    show Ev (b (zl8 b N) v0 v1 v2 v3 (nI i) v5 v6 v7) Q
    rcases Nat.lt_or_ge i n with h | h
    · rcases hs (zl8 b N) i v0 v1 v2 v3 v5 v6 v7 h hP with h1 | ⟨w0, w1, w2, w3, w5, w6, w7, e, h2⟩
      · exact h1
      · rw [e]; exact ih (i + 1) w0 w1 w2 w3 w5 w6 w7 h (by omega) h2
    · have e : i = n := by omega
      subst e
      exact he _ v0 v1 v2 v3 v5 v6 v7 hP
theorem zl8g4 {T0 T1 T2 T3 T5 T6 T7 Z : Type} {b : (T0 → T1 → T2 → T3 → Int32 → T5 → T6 → T7 → Option Z) → T0 → T1 → T2 → T3 → Int32 → T5 → T6 → T7 → Option Z} (J : Option Z → Prop) (n : Nat) (P : Nat → T0 → T1 → T2 → T3 → T5 → T6 → T7 → Prop) (hs : ∀ (rec : T0 → T1 → T2 → T3 → Int32 → T5 → T6 → T7 → Option Z) (i : Nat) (v0 : T0) (v1 : T1) (v2 : T2) (v3 : T3) (v5 : T5) (v6 : T6) (v7 : T7), i < n → P i v0 v1 v2 v3 v5 v6 v7 → J (b rec v0 v1 v2 v3 (nI i) v5 v6 v7) ∨ (∃ w0 w1 w2 w3 w5 w6 w7, b rec v0 v1 v2 v3 (nI i) v5 v6 v7 = rec w0 w1 w2 w3 (nI (i + 1)) w5 w6 w7 ∧ P (i + 1) w0 w1 w2 w3 w5 w6 w7)) (he : ∀ (rec : T0 → T1 → T2 → T3 → Int32 → T5 → T6 → T7 → Option Z) (v0 : T0) (v1 : T1) (v2 : T2) (v3 : T3) (v5 : T5) (v6 : T6) (v7 : T7), P n v0 v1 v2 v3 v5 v6 v7 → J (b rec v0 v1 v2 v3 (nI n) v5 v6 v7)) : ∀ (N i : Nat) (v0 : T0) (v1 : T1) (v2 : T2) (v3 : T3) (v5 : T5) (v6 : T6) (v7 : T7), i ≤ n → n - i < N → P i v0 v1 v2 v3 v5 v6 v7 → J (zl8 b N v0 v1 v2 v3 (nI i) v5 v6 v7) := by
  intro N
  induction N with
  | zero => intro i v0 v1 v2 v3 v5 v6 v7 _ h; omega
  | succ N ih =>
    intro i v0 v1 v2 v3 v5 v6 v7 hi hN hP
    show J (b (zl8 b N) v0 v1 v2 v3 (nI i) v5 v6 v7)
    rcases Nat.lt_or_ge i n with h | h
    · rcases hs (zl8 b N) i v0 v1 v2 v3 v5 v6 v7 h hP with h1 | ⟨w0, w1, w2, w3, w5, w6, w7, e, h2⟩
      · exact h1
      · rw [e]; exact ih (i + 1) w0 w1 w2 w3 w5 w6 w7 h (by omega) h2
    · have e : i = n := by omega
      subst e
      exact he _ v0 v1 v2 v3 v5 v6 v7 hP
theorem zl8c5 {T0 T1 T2 T3 T4 T6 T7 Z : Type} {b : (T0 → T1 → T2 → T3 → T4 → Int32 → T6 → T7 → Option Z) → T0 → T1 → T2 → T3 → T4 → Int32 → T6 → T7 → Option Z} {Q : Z → Prop} (n : Nat) (P : Nat → T0 → T1 → T2 → T3 → T4 → T6 → T7 → Prop) (hs : ∀ (rec : T0 → T1 → T2 → T3 → T4 → Int32 → T6 → T7 → Option Z) (i : Nat) (v0 : T0) (v1 : T1) (v2 : T2) (v3 : T3) (v4 : T4) (v6 : T6) (v7 : T7), i < n → P i v0 v1 v2 v3 v4 v6 v7 → Ev (b rec v0 v1 v2 v3 v4 (nI i) v6 v7) Q ∨ (∃ w0 w1 w2 w3 w4 w6 w7, b rec v0 v1 v2 v3 v4 (nI i) v6 v7 = rec w0 w1 w2 w3 w4 (nI (i + 1)) w6 w7 ∧ P (i + 1) w0 w1 w2 w3 w4 w6 w7)) (he : ∀ (rec : T0 → T1 → T2 → T3 → T4 → Int32 → T6 → T7 → Option Z) (v0 : T0) (v1 : T1) (v2 : T2) (v3 : T3) (v4 : T4) (v6 : T6) (v7 : T7), P n v0 v1 v2 v3 v4 v6 v7 → Ev (b rec v0 v1 v2 v3 v4 (nI n) v6 v7) Q) : ∀ (N i : Nat) (v0 : T0) (v1 : T1) (v2 : T2) (v3 : T3) (v4 : T4) (v6 : T6) (v7 : T7), i ≤ n → n - i < N → P i v0 v1 v2 v3 v4 v6 v7 → Ev (zl8 b N v0 v1 v2 v3 v4 (nI i) v6 v7) Q := by
  intro N
  induction N with
  | zero => intro i v0 v1 v2 v3 v4 v6 v7 _ h; omega
  | succ N ih =>
    intro i v0 v1 v2 v3 v4 v6 v7 hi hN hP
    show Ev (b (zl8 b N) v0 v1 v2 v3 v4 (nI i) v6 v7) Q
    rcases Nat.lt_or_ge i n with h | h
    · rcases hs (zl8 b N) i v0 v1 v2 v3 v4 v6 v7 h hP with h1 | ⟨w0, w1, w2, w3, w4, w6, w7, e, h2⟩
      · exact h1
      · rw [e]; exact ih (i + 1) w0 w1 w2 w3 w4 w6 w7 h (by omega) h2
    · have e : i = n := by omega
      subst e
      exact he _ v0 v1 v2 v3 v4 v6 v7 hP
theorem zl8g5 {T0 T1 T2 T3 T4 T6 T7 Z : Type} {b : (T0 → T1 → T2 → T3 → T4 → Int32 → T6 → T7 → Option Z) → T0 → T1 → T2 → T3 → T4 → Int32 → T6 → T7 → Option Z} (J : Option Z → Prop) (n : Nat) (P : Nat → T0 → T1 → T2 → T3 → T4 → T6 → T7 → Prop) (hs : ∀ (rec : T0 → T1 → T2 → T3 → T4 → Int32 → T6 → T7 → Option Z) (i : Nat) (v0 : T0) (v1 : T1) (v2 : T2) (v3 : T3) (v4 : T4) (v6 : T6) (v7 : T7), i < n → P i v0 v1 v2 v3 v4 v6 v7 → J (b rec v0 v1 v2 v3 v4 (nI i) v6 v7) ∨ (∃ w0 w1 w2 w3 w4 w6 w7, b rec v0 v1 v2 v3 v4 (nI i) v6 v7 = rec w0 w1 w2 w3 w4 (nI (i + 1)) w6 w7 ∧ P (i + 1) w0 w1 w2 w3 w4 w6 w7)) (he : ∀ (rec : T0 → T1 → T2 → T3 → T4 → Int32 → T6 → T7 → Option Z) (v0 : T0) (v1 : T1) (v2 : T2) (v3 : T3) (v4 : T4) (v6 : T6) (v7 : T7), P n v0 v1 v2 v3 v4 v6 v7 → J (b rec v0 v1 v2 v3 v4 (nI n) v6 v7)) : ∀ (N i : Nat) (v0 : T0) (v1 : T1) (v2 : T2) (v3 : T3) (v4 : T4) (v6 : T6) (v7 : T7), i ≤ n → n - i < N → P i v0 v1 v2 v3 v4 v6 v7 → J (zl8 b N v0 v1 v2 v3 v4 (nI i) v6 v7) := by
  intro N
  induction N with
  | zero => intro i v0 v1 v2 v3 v4 v6 v7 _ h; omega
  | succ N ih =>
    intro i v0 v1 v2 v3 v4 v6 v7 hi hN hP
    show J (b (zl8 b N) v0 v1 v2 v3 v4 (nI i) v6 v7)
    rcases Nat.lt_or_ge i n with h | h
    · rcases hs (zl8 b N) i v0 v1 v2 v3 v4 v6 v7 h hP with h1 | ⟨w0, w1, w2, w3, w4, w6, w7, e, h2⟩
      · exact h1
      · rw [e]; exact ih (i + 1) w0 w1 w2 w3 w4 w6 w7 h (by omega) h2
    · have e : i = n := by omega
      subst e
      exact he _ v0 v1 v2 v3 v4 v6 v7 hP
theorem zl8c6 {T0 T1 T2 T3 T4 T5 T7 Z : Type} {b : (T0 → T1 → T2 → T3 → T4 → T5 → Int32 → T7 → Option Z) → T0 → T1 → T2 → T3 → T4 → T5 → Int32 → T7 → Option Z} {Q : Z → Prop} (n : Nat) (P : Nat → T0 → T1 → T2 → T3 → T4 → T5 → T7 → Prop) (hs : ∀ (rec : T0 → T1 → T2 → T3 → T4 → T5 → Int32 → T7 → Option Z) (i : Nat) (v0 : T0) (v1 : T1) (v2 : T2) (v3 : T3) (v4 : T4) (v5 : T5) (v7 : T7), i < n → P i v0 v1 v2 v3 v4 v5 v7 → Ev (b rec v0 v1 v2 v3 v4 v5 (nI i) v7) Q ∨ (∃ w0 w1 w2 w3 w4 w5 w7, b rec v0 v1 v2 v3 v4 v5 (nI i) v7 = rec w0 w1 w2 w3 w4 w5 (nI (i + 1)) w7 ∧ P (i + 1) w0 w1 w2 w3 w4 w5 w7)) (he : ∀ (rec : T0 → T1 → T2 → T3 → T4 → T5 → Int32 → T7 → Option Z) (v0 : T0) (v1 : T1) (v2 : T2) (v3 : T3) (v4 : T4) (v5 : T5) (v7 : T7), P n v0 v1 v2 v3 v4 v5 v7 → Ev (b rec v0 v1 v2 v3 v4 v5 (nI n) v7) Q) : ∀ (N i : Nat) (v0 : T0) (v1 : T1) (v2 : T2) (v3 : T3) (v4 : T4) (v5 : T5) (v7 : T7), i ≤ n → n - i < N → P i v0 v1 v2 v3 v4 v5 v7 → Ev (zl8 b N v0 v1 v2 v3 v4 v5 (nI i) v7) Q := by
  intro N
  induction N with
  | zero => intro i v0 v1 v2 v3 v4 v5 v7 _ h; omega
  | succ N ih =>
    intro i v0 v1 v2 v3 v4 v5 v7 hi hN hP
    show Ev (b (zl8 b N) v0 v1 v2 v3 v4 v5 (nI i) v7) Q
    rcases Nat.lt_or_ge i n with h | h
    · rcases hs (zl8 b N) i v0 v1 v2 v3 v4 v5 v7 h hP with h1 | ⟨w0, w1, w2, w3, w4, w5, w7, e, h2⟩
      · exact h1
      · rw [e]; exact ih (i + 1) w0 w1 w2 w3 w4 w5 w7 h (by omega) h2
    · have e : i = n := by omega
      subst e
      exact he _ v0 v1 v2 v3 v4 v5 v7 hP
theorem zl8g6 {T0 T1 T2 T3 T4 T5 T7 Z : Type} {b : (T0 → T1 → T2 → T3 → T4 → T5 → Int32 → T7 → Option Z) → T0 → T1 → T2 → T3 → T4 → T5 → Int32 → T7 → Option Z} (J : Option Z → Prop) (n : Nat) (P : Nat → T0 → T1 → T2 → T3 → T4 → T5 → T7 → Prop) (hs : ∀ (rec : T0 → T1 → T2 → T3 → T4 → T5 → Int32 → T7 → Option Z) (i : Nat) (v0 : T0) (v1 : T1) (v2 : T2) (v3 : T3) (v4 : T4) (v5 : T5) (v7 : T7), i < n → P i v0 v1 v2 v3 v4 v5 v7 → J (b rec v0 v1 v2 v3 v4 v5 (nI i) v7) ∨ (∃ w0 w1 w2 w3 w4 w5 w7, b rec v0 v1 v2 v3 v4 v5 (nI i) v7 = rec w0 w1 w2 w3 w4 w5 (nI (i + 1)) w7 ∧ P (i + 1) w0 w1 w2 w3 w4 w5 w7)) (he : ∀ (rec : T0 → T1 → T2 → T3 → T4 → T5 → Int32 → T7 → Option Z) (v0 : T0) (v1 : T1) (v2 : T2) (v3 : T3) (v4 : T4) (v5 : T5) (v7 : T7), P n v0 v1 v2 v3 v4 v5 v7 → J (b rec v0 v1 v2 v3 v4 v5 (nI n) v7)) : ∀ (N i : Nat) (v0 : T0) (v1 : T1) (v2 : T2) (v3 : T3) (v4 : T4) (v5 : T5) (v7 : T7), i ≤ n → n - i < N → P i v0 v1 v2 v3 v4 v5 v7 → J (zl8 b N v0 v1 v2 v3 v4 v5 (nI i) v7) := by
  intro N
  induction N with
  | zero => intro i v0 v1 v2 v3 v4 v5 v7 _ h; omega
  | succ N ih =>
    intro i v0 v1 v2 v3 v4 v5 v7 hi hN hP
    show J (b (zl8 b N) v0 v1 v2 v3 v4 v5 (nI i) v7)
    rcases Nat.lt_or_ge i n with h | h
    · rcases hs (zl8 b N) i v0 v1 v2 v3 v4 v5 v7 h hP with h1 | ⟨w0, w1, w2, w3, w4, w5, w7, e, h2⟩
      · exact h1
      · rw [e]; exact ih (i + 1) w0 w1 w2 w3 w4 w5 w7 h (by omega) h2
    · have e : i = n := by omega
      subst e
      exact he _ v0 v1 v2 v3 v4 v5 v7 hP
theorem zl8c7 {T0 T1 T2 T3 T4 T5 T6 Z : Type} {b : (T0 → T1 → T2 → T3 → T4 → T5 → T6 → Int32 → Option Z) → T0 → T1 → T2 → T3 → T4 → T5 → T6 → Int32 → Option Z} {Q : Z → Prop} (n : Nat) (P : Nat → T0 → T1 → T2 → T3 → T4 → T5 → T6 → Prop) (hs : ∀ (rec : T0 → T1 → T2 → T3 → T4 → T5 → T6 → Int32 → Option Z) (i : Nat) (v0 : T0) (v1 : T1) (v2 : T2) (v3 : T3) (v4 : T4) (v5 : T5) (v6 : T6), i < n → P i v0 v1 v2 v3 v4 v5 v6 → Ev (b rec v0 v1 v2 v3 v4 v5 v6 (nI i)) Q ∨ (∃ w0 w1 w2 w3 w4 w5 w6, b rec v0 v1 v2 v3 v4 v5 v6 (nI i) = rec w0 w1 w2 w3 w4 w5 w6 (nI (i + 1)) ∧ P (i + 1) w0 w1 w2 w3 w4 w5 w6)) (he : ∀ (rec : T0 → T1 → T2 → T3 → T4 → T5 → T6 → Int32 → Option Z) (v0 : T0) (v1 : T1) (v2 : T2) (v3 : T3) (v4 : T4) (v5 : T5) (v6 : T6), P n v0 v1 v2 v3 v4 v5 v6 → Ev (b rec v0 v1 v2 v3 v4 v5 v6 (nI n)) Q) : ∀ (N i : Nat) (v0 : T0) (v1 : T1) (v2 : T2) (v3 : T3) (v4 : T4) (v5 : T5) (v6 : T6), i ≤ n → n - i < N → P i v0 v1 v2 v3 v4 v5 v6 → Ev (zl8 b N v0 v1 v2 v3 v4 v5 v6 (nI i)) Q := by
  intro N
  induction N with
  | zero => intro i v0 v1 v2 v3 v4 v5 v6 _ h; omega
  | succ N ih =>
    intro i v0 v1 v2 v3 v4 v5 v6 hi hN hP
    show Ev (b (zl8 b N) v0 v1 v2 v3 v4 v5 v6 (nI i)) Q
    rcases Nat.lt_or_ge i n with h | h
    · rcases hs (zl8 b N) i v0 v1 v2 v3 v4 v5 v6 h hP with h1 | ⟨w0, w1, w2, w3, w4, w5, w6, e, h2⟩
      · exact h1
      · rw [e]; exact ih (i + 1) w0 w1 w2 w3 w4 w5 w6 h (by omega) h2
    · have e : i = n := by omega
      subst e
      exact he _ v0 v1 v2 v3 v4 v5 v6 hP
theorem zl8g7 {T0 T1 T2 T3 T4 T5 T6 Z : Type} {b : (T0 → T1 → T2 → T3 → T4 → T5 → T6 → Int32 → Option Z) → T0 → T1 → T2 → T3 → T4 → T5 → T6 → Int32 → Option Z} (J : Option Z → Prop) (n : Nat) (P : Nat → T0 → T1 → T2 → T3 → T4 → T5 → T6 → Prop) (hs : ∀ (rec : T0 → T1 → T2 → T3 → T4 → T5 → T6 → Int32 → Option Z) (i : Nat) (v0 : T0) (v1 : T1) (v2 : T2) (v3 : T3) (v4 : T4) (v5 : T5) (v6 : T6), i < n → P i v0 v1 v2 v3 v4 v5 v6 → J (b rec v0 v1 v2 v3 v4 v5 v6 (nI i)) ∨ (∃ w0 w1 w2 w3 w4 w5 w6, b rec v0 v1 v2 v3 v4 v5 v6 (nI i) = rec w0 w1 w2 w3 w4 w5 w6 (nI (i + 1)) ∧ P (i + 1) w0 w1 w2 w3 w4 w5 w6)) (he : ∀ (rec : T0 → T1 → T2 → T3 → T4 → T5 → T6 → Int32 → Option Z) (v0 : T0) (v1 : T1) (v2 : T2) (v3 : T3) (v4 : T4) (v5 : T5) (v6 : T6), P n v0 v1 v2 v3 v4 v5 v6 → J (b rec v0 v1 v2 v3 v4 v5 v6 (nI n))) : ∀ (N i : Nat) (v0 : T0) (v1 : T1) (v2 : T2) (v3 : T3) (v4 : T4) (v5 : T5) (v6 : T6), i ≤ n → n - i < N → P i v0 v1 v2 v3 v4 v5 v6 → J (zl8 b N v0 v1 v2 v3 v4 v5 v6 (nI i)) := by
  intro N
  induction N with
  | zero => intro i v0 v1 v2 v3 v4 v5 v6 _ h; omega
  | succ N ih =>
    intro i v0 v1 v2 v3 v4 v5 v6 hi hN hP
    show J (b (zl8 b N) v0 v1 v2 v3 v4 v5 v6 (nI i))
    rcases Nat.lt_or_ge i n with h | h
    · rcases hs (zl8 b N) i v0 v1 v2 v3 v4 v5 v6 h hP with h1 | ⟨w0, w1, w2, w3, w4, w5, w6, e, h2⟩
      · exact h1
      · rw [e]; exact ih (i + 1) w0 w1 w2 w3 w4 w5 w6 h (by omega) h2
    · have e : i = n := by omega
      subst e
      exact he _ v0 v1 v2 v3 v4 v5 v6 hP
theorem zl9c0 {T1 T2 T3 T4 T5 T6 T7 T8 Z : Type} {b : (Int32 → T1 → T2 → T3 → T4 → T5 → T6 → T7 → T8 → Option Z) → Int32 → T1 → T2 → T3 → T4 → T5 → T6 → T7 → T8 → Option Z} {Q : Z → Prop} (n : Nat) (P : Nat → T1 → T2 → T3 → T4 → T5 → T6 → T7 → T8 → Prop) (hs : ∀ (rec : Int32 → T1 → T2 → T3 → T4 → T5 → T6 → T7 → T8 → Option Z) (i : Nat) (v1 : T1) (v2 : T2) (v3 : T3) (v4 : T4) (v5 : T5) (v6 : T6) (v7 : T7) (v8 : T8), i < n → P i v1 v2 v3 v4 v5 v6 v7 v8 → Ev (b rec (nI i) v1 v2 v3 v4 v5 v6 v7 v8) Q ∨ (∃ w1 w2 w3 w4 w5 w6 w7 w8, b rec (nI i) v1 v2 v3 v4 v5 v6 v7 v8 = rec (nI (i + 1)) w1 w2 w3 w4 w5 w6 w7 w8 ∧ P (i + 1) w1 w2 w3 w4 w5 w6 w7 w8)) (he : ∀ (rec : Int32 → T1 → T2 → T3 → T4 → T5 → T6 → T7 → T8 → Option Z) (v1 : T1) (v2 : T2) (v3 : T3) (v4 : T4) (v5 : T5) (v6 : T6) (v7 : T7) (v8 : T8), P n v1 v2 v3 v4 v5 v6 v7 v8 → Ev (b rec (nI n) v1 v2 v3 v4 v5 v6 v7 v8) Q) : ∀ (N i : Nat) (v1 : T1) (v2 : T2) (v3 : T3) (v4 : T4) (v5 : T5) (v6 : T6) (v7 : T7) (v8 : T8), i ≤ n → n - i < N → P i v1 v2 v3 v4 v5 v6 v7 v8 → Ev (zl9 b N (nI i) v1 v2 v3 v4 v5 v6 v7 v8) Q := by
  intro N
  induction N with
  | zero => intro i v1 v2 v3 v4 v5 v6 v7 v8 _ h; omega
  | succ N ih =>
    intro i v1 v2 v3 v4 v5 v6 v7 v8 hi hN hP
    show Ev (b (zl9 b N) (nI i) v1 v2 v3 v4 v5 v6 v7 v8) Q
    rcases Nat.lt_or_ge i n with h | h
    · rcases hs (zl9 b N) i v1 v2 v3 v4 v5 v6 v7 v8 h hP with h1 | ⟨w1, w2, w3, w4, w5, w6, w7, w8, e, h2⟩
      · exact h1
      · rw [e]; exact ih (i + 1) w1 w2 w3 w4 w5 w6 w7 w8 h (by omega) h2
    · have e : i = n := by omega
      subst e
      exact he _ v1 v2 v3 v4 v5 v6 v7 v8 hP
theorem zl9g0 {T1 T2 T3 T4 T5 T6 T7 T8 Z : Type} {b : (Int32 → T1 → T2 → T3 → T4 → T5 → T6 → T7 → T8 → Option Z) → Int32 → T1 → T2 → T3 → T4 → T5 → T6 → T7 → T8 → Option Z} (J : Option Z → Prop) (n : Nat) (P : Nat → T1 → T2 → T3 → T4 → T5 → T6 → T7 → T8 → Prop) (hs : ∀ (rec : Int32 → T1 → T2 → T3 → T4 → T5 → T6 → T7 → T8 → Option Z) (i : Nat) (v1 : T1) (v2 : T2) (v3 : T3) (v4 : T4) (v5 : T5) (v6 : T6) (v7 : T7) (v8 : T8), i < n → P i v1 v2 v3 v4 v5 v6 v7 v8 → J (b rec (nI i) v1 v2 v3 v4 v5 v6 v7 v8) ∨ (∃ w1 w2 w3 w4 w5 w6 w7 w8, b rec (nI i) v1 v2 v3 v4 v5 v6 v7 v8 = rec (nI (i + 1)) w1 w2 w3 w4 w5 w6 w7 w8 ∧ P (i + 1) w1 w2 w3 w4 w5 w6 w7 w8)) (he : ∀ (rec : Int32 → T1 → T2 → T3 → T4 → T5 → T6 → T7 → T8 → Option Z) (v1 : T1) (v2 : T2) (v3 : T3) (v4 : T4) (v5 : T5) (v6 : T6) (v7 : T7) (v8 : T8), P n v1 v2 v3 v4 v5 v6 v7 v8 → J (b rec (nI n) v1 v2 v3 v4 v5 v6 v7 v8)) : ∀ (N i : Nat) (v1 : T1) (v2 : T2) (v3 : T3) (v4 : T4) (v5 : T5) (v6 : T6) (v7 : T7) (v8 : T8), i ≤ n → n - i < N → P i v1 v2 v3 v4 v5 v6 v7 v8 → J (zl9 b N (nI i) v1 v2 v3 v4 v5 v6 v7 v8) := by
  intro N
  induction N with
  | zero => intro i v1 v2 v3 v4 v5 v6 v7 v8 _ h; omega
  | succ N ih =>
    intro i v1 v2 v3 v4 v5 v6 v7 v8 hi hN hP
    show J (b (zl9 b N) (nI i) v1 v2 v3 v4 v5 v6 v7 v8)
    rcases Nat.lt_or_ge i n with h | h
    · rcases hs (zl9 b N) i v1 v2 v3 v4 v5 v6 v7 v8 h hP with h1 | ⟨w1, w2, w3, w4, w5, w6, w7, w8, e, h2⟩
      · exact h1
      · rw [e]; exact ih (i + 1) w1 w2 w3 w4 w5 w6 w7 w8 h (by omega) h2
    · have e : i = n := by omega
      subst e
      exact he _ v1 v2 v3 v4 v5 v6 v7 v8 hP
theorem zl9c1 {T0 T2 T3 T4 T5 T6 T7 T8 Z : Type} {b : (T0 → Int32 → T2 → T3 → T4 → T5 → T6 → T7 → T8 → Option Z) → T0 → Int32 → T2 → T3 → T4 → T5 → T6 → T7 → T8 → Option Z} {Q : Z → Prop} (n : Nat) (P : Nat → T0 → T2 → T3 → T4 → T5 → T6 → T7 → T8 → Prop) (hs : ∀ (rec : T0 → Int32 → T2 → T3 → T4 → T5 → T6 → T7 → T8 → Option Z) (i : Nat) (v0 : T0) (v2 : T2) (v3 : T3) (v4 : T4) (v5 : T5) (v6 : T6) (v7 : T7) (v8 : T8), i < n → P i v0 v2 v3 v4 v5 v6 v7 v8 → Ev (b rec v0 (nI i) v2 v3 v4 v5 v6 v7 v8) Q ∨ (∃ w0 w2 w3 w4 w5 w6 w7 w8, b rec v0 (nI i) v2 v3 v4 v5 v6 v7 v8 = rec w0 (nI (i + 1)) w2 w3 w4 w5 w6 w7 w8 ∧ P (i + 1) w0 w2 w3 w4 w5 w6 w7 w8)) (he : ∀ (rec : T0 → Int32 → T2 → T3 → T4 → T5 → T6 → T7 → T8 → Option Z) (v0 : T0) (v2 : T2) (v3 : T3) (v4 : T4) (v5 : T5) (v6 : T6) (v7 : T7) (v8 : T8), P n v0 v2 v3 v4 v5 v6 v7 v8 → Ev (b rec v0 (nI n) v2 v3 v4 v5 v6 v7 v8) Q) : ∀ (N i : Nat) (v0 : T0) (v2 : T2) (v3 : T3) (v4 : T4) (v5 : T5) (v6 : T6) (v7 : T7) (v8 : T8), i ≤ n → n - i < N → P i v0 v2 v3 v4 v5 v6 v7 v8 → Ev (zl9 b N v0 (nI i) v2 v3 v4 v5 v6 v7 v8) Q := by
  intro N
  induction N with
  | zero => intro i v0 v2 v3 v4 v5 v6 v7 v8 _ h; omega
  | succ N ih =>
    intro i v0 v2 v3 v4 v5 v6 v7 v8 hi hN hP
    show Ev (b (zl9 b N) v0 (nI i) v2 v3 v4 v5 v6 v7 v8) Q
    rcases Nat.lt_or_ge i n with h | h
    · rcases hs (zl9 b N) i v0 v2 v3 v4 v5 v6 v7 v8 h hP with h1 | ⟨w0, w2, w3, w4, w5, w6, w7, w8, e, h2⟩
      · exact h1
      · rw [e]; exact ih (i + 1) w0 w2 w3 w4 w5 w6 w7 w8 h (by omega) h2
    · have e : i = n := by omega
      subst e
      exact he _ v0 v2 v3 v4 v5 v6 v7 v8 hP
theorem zl9g1 {T0 T2 T3 T4 T5 T6 T7 T8 Z : Type} {b : (T0 → Int32 → T2 → T3 → T4 → T5 → T6 → T7 → T8 → Option Z) → T0 → Int32 → T2 → T3 → T4 → T5 → T6 → T7 → T8 → Option Z} (J : Option Z → Prop) (n : Nat) (P : Nat → T0 → T2 → T3 → T4 → T5 → T6 → T7 → T8 → Prop) (hs : ∀ (rec : T0 → Int32 → T2 → T3 → T4 → T5 → T6 → T7 → T8 → Option Z) (i : Nat) (v0 : T0) (v2 : T2) (v3 : T3) (v4 : T4) (v5 : T5) (v6 : T6) (v7 : T7) (v8 : T8), i < n → P i v0 v2 v3 v4 v5 v6 v7 v8 → J (b rec v0 (nI i) v2 v3 v4 v5 v6 v7 v8) ∨ (∃ w0 w2 w3 w4 w5 w6 w7 w8, b rec v0 (nI i) v2 v3 v4 v5 v6 v7 v8 = rec w0 (nI (i + 1)) w2 w3 w4 w5 w6 w7 w8 ∧ P (i + 1) w0 w2 w3 w4 w5 w6 w7 w8)) (he : ∀ (rec : T0 → Int32 → T2 → T3 → T4 → T5 → T6 → T7 → T8 → Option Z) (v0 : T0) (v2 : T2) (v3 : T3) (v4 : T4) (v5 : T5) (v6 : T6) (v7 : T7) (v8 : T8), P n v0 v2 v3 v4 v5 v6 v7 v8 → J (b rec v0 (nI n) v2 v3 v4 v5 v6 v7 v8)) : ∀ (N i : Nat) (v0 : T0) (v2 : T2) (v3 : T3) (v4 : T4) (v5 : T5) (v6 : T6) (v7 : T7) (v8 : T8), i ≤ n → n - i < N → P i v0 v2 v3 v4 v5 v6 v7 v8 → J (zl9 b N v0 (nI i) v2 v3 v4 v5 v6 v7 v8) := by
  intro N
  induction N with
  | zero => intro i v0 v2 v3 v4 v5 v6 v7 v8 _ h; omega
  | succ N ih =>
    intro i v0 v2 v3 v4 v5 v6 v7 v8 hi hN hP
    show J (b (zl9 b N) v0 (nI i) v2 v3 v4 v5 v6 v7 v8)
    rcases Nat.lt_or_ge i n with h | h
    · rcases hs (zl9 b N) i v0 v2 v3 v4 v5 v6 v7 v8 h hP with h1 | ⟨w0, w2, w3, w4, w5, w6, w7, w8, e, h2⟩
      · exact h1
      · rw [e]; exact ih (i + 1) w0 w2 w3 w4 w5 w6 w7 w8 h (by omega) h2
    · have e : i = n := by omega
      subst e
      exact he _ v0 v2 v3 v4 v5 v6 v7 v8 hP
theorem zl9c2 {T0 T1 T3 T4 T5 T6 T7 T8 Z : Type} {b : (T0 → T1 → Int32 → T3 → T4 → T5 → T6 → T7 → T8 → Option Z) → T0 → T1 → Int32 → T3 → T4 → T5 → T6 → T7 → T8 → Option Z} {Q : Z → Prop} (n : Nat) (P : Nat → T0 → T1 → T3 → T4 → T5 → T6 → T7 → T8 → Prop) (hs : ∀ (rec : T0 → T1 → Int32 → T3 → T4 → T5 → T6 → T7 → T8 → Option Z) (i : Nat) (v0 : T0) (v1 : T1) (v3 : T3) (v4 : T4) (v5 : T5) (v6 : T6) (v7 : T7) (v8 : T8), i < n → P i v0 v1 v3 v4 v5 v6 v7 v8 → Ev (b rec v0 v1 (nI i) v3 v4 v5 v6 v7 v8) Q ∨ (∃ w0 w1 w3 w4 w5 w6 w7 w8, b rec v0 v1 (nI i) v3 v4 v5 v6 v7 v8 = rec w0 w1 (nI (i + 1)) w3 w4 w5 w6 w7 w8 ∧ P (i + 1) w0 w1 w3 w4 w5 w6 w7 w8)) (he : ∀ (rec : T0 → T1 → Int32 → T3 → T4 → T5 → T6 → T7 → T8 → Option Z) (v0 : T0) (v1 : T1) (v3 : T3) (v4 : T4) (v5 : T5) (v6 : T6) (v7 : T7) (v8 : T8), P n v0 v1 v3 v4 v5 v6 v7 v8 → Ev (b rec v0 v1 (nI n) v3 v4 v5 v6 v7 v8) Q) : ∀ (N i : Nat) (v0 : T0) (v1 : T1) (v3 : T3) (v4 : T4) (v5 : T5) (v6 : T6) (v7 : T7) (v8 : T8), i ≤ n → n - i < N → P i v0 v1 v3 v4 v5 v6 v7 v8 → Ev (zl9 b N v0 v1 (nI i) v3 v4 v5 v6 v7 v8) Q := by
  intro N
  induction N with
  | zero => intro i v0 v1 v3 v4 v5 v6 v7 v8 _ h; omega
  | succ N ih =>
    intro i v0 v1 v3 v4 v5 v6 v7 v8 hi hN hP
    show Ev (b (zl9 b N) v0 v1 (nI i) v3 v4 v5 v6 v7 v8) Q
    rcases Nat.lt_or_ge i n with h | h
    · rcases hs (zl9 b N) i v0 v1 v3 v4 v5 v6 v7 v8 h hP with h1 | ⟨w0, w1, w3, w4, w5, w6, w7, w8, e, h2⟩
      · exact h1
      · rw [e]; exact ih (i + 1) w0 w1 w3 w4 w5 w6 w7 w8 h (by omega) h2
    · have e : i = n := by omega
      subst e
      exact he _ v0 v1 v3 v4 v5 v6 v7 v8 hP
theorem zl9g2 {T0 T1 T3 T4 T5 T6 T7 T8 Z : Type} {b : (T0 → T1 → Int32 → T3 → T4 → T5 → T6 → T7 → T8 → Option Z) → T0 → T1 → Int32 → T3 → T4 → T5 → T6 → T7 → T8 → Option Z} (J : Option Z → Prop) (n : Nat) (P : Nat → T0 → T1 → T3 → T4 → T5 → T6 → T7 → T8 → Prop) (hs : ∀ (rec : T0 → T1 → Int32 → T3 → T4 → T5 → T6 → T7 → T8 → Option Z) (i : Nat) (v0 : T0) (v1 : T1) (v3 : T3) (v4 : T4) (v5 : T5) (v6 : T6) (v7 : T7) (v8 : T8), i < n → P i v0 v1 v3 v4 v5 v6 v7 v8 → J (b rec v0 v1 (nI i) v3 v4 v5 v6 v7 v8) ∨ (∃ w0 w1 w3 w4 w5 w6 w7 w8, b rec v0 v1 (nI i) v3 v4 v5 v6 v7 v8 = rec w0 w1 (nI (i + 1)) w3 w4 w5 w6 w7 w8 ∧ P (i + 1) w0 w1 w3 w4 w5 w6 w7 w8)) (he : ∀ (rec : T0 → T1 → Int32 → T3 → T4 → T5 → T6 → T7 → T8 → Option Z) (v0 : T0) (v1 : T1) (v3 : T3) (v4 : T4) (v5 : T5) (v6 : T6) (v7 : T7) (v8 : T8), P n v0 v1 v3 v4 v5 v6 v7 v8 → J (b rec v0 v1 (nI n) v3 v4 v5 v6 v7 v8)) : ∀ (N i : Nat) (v0 : T0) (v1 : T1) (v3 : T3) (v4 : T4) (v5 : T5) (v6 : T6) (v7 : T7) (v8 : T8), i ≤ n → n - i < N → P i v0 v1 v3 v4 v5 v6 v7 v8 → J (zl9 b N v0 v1 (nI i) v3 v4 v5 v6 v7 v8) := by
  intro N
  induction N with
  | zero => intro i v0 v1 v3 v4 v5 v6 v7 v8 _ h; omega
  | succ N ih =>
    intro i v0 v1 v3 v4 v5 v6 v7 v8 hi hN hP
    show J (b (zl9 b N) v0 v1 (nI i) v3 v4 v5 v6 v7 v8)
    rcases Nat.lt_or_ge i n with h | h
    · rcases hs (zl9 b N) i v0 v1 v3 v4 v5 v6 v7 v8 h hP with h1 | ⟨w0, w1, w3, w4, w5, w6, w7, w8, e, h2⟩
      · exact h1
      · rw [e]; exact ih (i + 1) w0 w1 w3 w4 w5 w6 w7 w8 h (by omega) h2
    · have e : i = n := by omega
      subst e
      exact he _ v0 v1 v3 v4 v5 v6 v7 v8 hP
theorem zl9c3 {T0 T1 T2 T4 T5 T6 T7 T8 Z : Type} {b : (T0 → T1 → T2 → Int32 → T4 → T5 → T6 → T7 → T8 → Option Z) → T0 → T1 → T2 → Int32 → T4 → T5 → T6 → T7 → T8 → Option Z} {Q : Z → Prop} (n : Nat) (P : Nat → T0 → T1 → T2 → T4 → T5 → T6 → T7 → T8 → Prop) (hs : ∀ (rec : T0 → T1 → T2 → Int32 → T4 → T5 → T6 → T7 → T8 → Option Z) (i : Nat) (v0 : T0) (v1 : T1) (v2 : T2) (v4 : T4) (v5 : T5) (v6 : T6) (v7 : T7) (v8 : T8), i < n → P i v0 v1 v2 v4 v5 v6 v7 v8 → Ev (b rec v0 v1 v2 (nI i) v4 v5 v6 v7 v8) Q ∨ (∃ w0 w1 w2 w4 w5 w6 w7 w8, b rec v0 v1 v2 (nI i) v4 v5 v6 v7 v8 = rec w0 w1 w2 (nI (i + 1)) w4 w5 w6 w7 w8 ∧ P (i + 1) w0 w1 w2 w4 w5 w6 w7 w8)) (he : ∀ (rec : T0 → T1 → T2 → Int32 → T4 → T5 → T6 → T7 → T8 → Option Z) (v0 : T0) (v1 : T1) (v2 : T2) (v4 : T4) (v5 : T5) (v6 : T6) (v7 : T7) (v8 : T8), P n v0 v1 v2 v4 v5 v6 v7 v8 → Ev (b rec v0 v1 v2 (nI n) v4 v5 v6 v7 v8) Q) : ∀ (N i : Nat) (v0 : T0) (v1 : T1) (v2 : T2) (v4 : T4) (v5 : T5) (v6 : T6) (v7 : T7) (v8 : T8), i ≤ n → n - i < N → P i v0 v1 v2 v4 v5 v6 v7 v8 → Ev (zl9 b N v0 v1 v2 (nI i) v4 v5 v6 v7 v8) Q := by
  intro N
  induction N with
  | zero => intro i v0 v1 v2 v4 v5 v6 v7 v8 _ h; omega
  | succ N ih =>
    intro i v0 v1 v2 v4 v5 v6 v7 v8 hi hN hP
    show Ev (b (zl9 b N) v0 v1 v2 (nI i) v4 v5 v6 v7 v8) Q
    rcases Nat.lt_or_ge i n with h | h
    · rcases hs (zl9 b N) i v0 v1 v2 v4 v5 v6 v7 v8 h hP with h1 | ⟨w0, w1, w2, w4, w5, w6, w7, w8, e, h2⟩
      · exact h1
      · rw [e]; exact ih (i + 1) w0 w1 w2 w4 w5 w6 w7 w8 h (by omega) h2
    · have e : i = n := by omega
      subst e
      exact he _ v0 v1 v2 v4 v5 v6 v7 v8 hP
theorem zl9g3 {T0 T1 T2 T4 T5 T6 T7 T8 Z : Type} {b : (T0 → T1 → T2 → Int32 → T4 → T5 → T6 → T7 → T8 → Option Z) → T0 → T1 → T2 → Int32 → T4 → T5 → T6 → T7 → T8 → Option Z} (J : Option Z → Prop) (n : Nat) (P : Nat → T0 → T1 → T2 → T4 → T5 → T6 → T7 → T8 → Prop) (hs : ∀ (rec : T0 → T1 → T2 → Int32 → T4 → T5 → T6 → T7 → T8 → Option Z) (i : Nat) (v0 : T0) (v1 : T1) (v2 : T2) (v4 : T4) (v5 : T5) (v6 : T6) (v7 : T7) (v8 : T8), i < n → P i v0 v1 v2 v4 v5 v6 v7 v8 → J (b rec v0 v1 v2 (nI i) v4 v5 v6 v7 v8) ∨ (∃ w0 w1 w2 w4 w5 w6 w7 w8, b rec v0 v1 v2 (nI i) v4 v5 v6 v7 v8 = rec w0 w1 w2 (nI (i + 1)) w4 w5 w6 w7 w8 ∧ P (i + 1) w0 w1 w2 w4 w5 w6 w7 w8)) (he : ∀ (rec : T0 → T1 → T2 → Int32 → T4 → T5 → T6 → T7 → T8 → Option Z) (v0 : T0) (v1 : T1) (v2 : T2) (v4 : T4) (v5 : T5) (v6 : T6) (v7 : T7) (v8 : T8), P n v0 v1 v2 v4 v5 v6 v7 v8 → J (b rec v0 v1 v2 (nI n) v4 v5 v6 v7 v8)) : ∀ (N i : Nat) (v0 : T0) (v1 : T1) (v2 : T2) (v4 : T4) (v5 : T5) (v6 : T6) (v7 : T7) (v8 : T8), i ≤ n → n - i < N → P i v0 v1 v2 v4 v5 v6 v7 v8 → J (zl9 b N v0 v1 v2 (nI i) v4 v5 v6 v7 v8) := by
  intro N
  induction N with
  | zero => intro i v0 v1 v2 v4 v5 v6 v7 v8 _ h; omega
  | succ N ih =>
    intro i v0 v1 v2 v4 v5 v6 v7 v8 hi hN hP
    show J (b (zl9 b N) v0 v1 v2 (nI i) v4 v5 v6 v7 v8)
    rcases Nat.lt_or_ge i n with h | h
    · rcases hs (zl9 b N) i v0 v1 v2 v4 v5 v6 v7 v8 h hP with h1 | ⟨w0, w1, w2, w4, w5, w6, w7, w8, e, h2⟩
      · exact h1
      · rw [e]; exact ih (i + 1) w0 w1 w2 w4 w5 w6 w7 w8 h (by omega) h2
    · have e : i = n := by omega
      subst e
      exact he _ v0 v1 v2 v4 v5 v6 v7 v8 hP
theorem zl9c4 {T0 T1 T2 T3 T5 T6 T7 T8 Z : Type} {b : (T0 → T1 → T2 → T3 → Int32 → T5 → T6 → T7 → T8 → Option Z) → T0 → T1 → T2 → T3 → Int32 → T5 → T6 → T7 → T8 → Option Z} {Q : Z → Prop} (n : Nat) (P : Nat → T0 → T1 → T2 → T3 → T5 → T6 → T7 → T8 → Prop) (hs : ∀ (rec : T0 → T1 → T2 → T3 → Int32 → T5 → T6 → T7 → T8 → Option Z) (i : Nat) (v0 : T0) (v1 : T1) (v2 : T2) (v3 : T3) (v5 : T5) (v6 : T6) (v7 : T7) (v8 : T8), i < n → P i v0 v1 v2 v3 v5 v6 v7 v8 → Ev (b rec v0 v1 v2 v3 (nI i) v5 v6 v7 v8) Q ∨ (∃ w0 w1 w2 w3 w5 w6 w7 w8, b rec v0 v1 v2 v3 (nI i) v5 v6 v7 v8 = rec w0 w1 w2 w3 (nI (i + 1)) w5 w6 w7 w8 ∧ P (i + 1) w0 w1 w2 w3 w5 w6 w7 w8)) (he : ∀ (rec : T0 → T1 → T2 → T3 → Int32 → T5 → T6 → T7 → T8 → Option Z) (v0 : T0) (v1 : T1) (v2 : T2) (v3 : T3) (v5 : T5) (v6 : T6) (v7 : T7) (v8 : T8), P n v0 v1 v2 v3 v5 v6 v7 v8 → Ev (b rec v0 v1 v2 v3 (nI n) v5 v6 v7 v8) Q) : ∀ (N i : Nat) (v0 : T0) (v1 : T1) (v2 : T2) (v3 : T3) (v5 : T5) (v6 : T6) (v7 : T7) (v8 : T8), i ≤ n → n - i < N → P i v0 v1 v2 v3 v5 v6 v7 v8 → Ev (zl9 b N v0 v1 v2 v3 (nI i) v5 v6 v7 v8) Q := by
  intro N
  induction N with
  | zero => intro i v0 v1 v2 v3 v5 v6 v7 v8 _ h; omega
  | succ N ih =>
    intro i v0 v1 v2 v3 v5 v6 v7 v8 hi hN hP
    show Ev (b (zl9 b N) v0 v1 v2 v3 (nI i) v5 v6 v7 v8) Q
    rcases Nat.lt_or_ge i n with h | h
    · rcases hs (zl9 b N) i v0 v1 v2 v3 v5 v6 v7 v8 h hP with h1 | ⟨w0, w1, w2, w3, w5, w6, w7, w8, e, h2⟩
      · exact h1
      · rw [e]; exact ih (i + 1) w0 w1 w2 w3 w5 w6 w7 w8 h (by omega) h2
    · have e : i = n := by omega
      subst e
      exact he _ v0 v1 v2 v3 v5 v6 v7 v8 hP
theorem zl9g4 {T0 T1 T2 T3 T5 T6 T7 T8 Z : Type} {b : (T0 → T1 → T2 → T3 → Int32 → T5 → T6 → T7 → T8 → Option Z) → T0 → T1 → T2 → T3 → Int32 → T5 → T6 → T7 → T8 → Option Z} (J : Option Z → Prop) (n : Nat) (P : Nat → T0 → T1 → T2 → T3 → T5 → T6 → T7 → T8 → Prop) (hs : ∀ (rec : T0 → T1 → T2 → T3 → Int32 → T5 → T6 → T7 → T8 → Option Z) (i : Nat) (v0 : T0) (v1 : T1) (v2 : T2) (v3 : T3) (v5 : T5) (v6 : T6) (v7 : T7) (v8 : T8), i < n → P i v0 v1 v2 v3 v5 v6 v7 v8 → J (b rec v0 v1 v2 v3 (nI i) v5 v6 v7 v8) ∨ (∃ w0 w1 w2 w3 w5 w6 w7 w8, b rec v0 v1 v2 v3 (nI i) v5 v6 v7 v8 = rec w0 w1 w2 w3 (nI (i + 1)) w5 w6 w7 w8 ∧ P (i + 1) w0 w1 w2 w3 w5 w6 w7 w8)) (he : ∀ (rec : T0 → T1 → T2 → T3 → Int32 → T5 → T6 → T7 → T8 → Option Z) (v0 : T0) (v1 : T1) (v2 : T2) (v3 : T3) (v5 : T5) (v6 : T6) (v7 : T7) (v8 : T8), P n v0 v1 v2 v3 v5 v6 v7 v8 → J (b rec v0 v1 v2 v3 (nI n) v5 v6 v7 v8)) : ∀ (N i : Nat) (v0 : T0) (v1 : T1) (v2 : T2) (v3 : T3) (v5 : T5) (v6 : T6) (v7 : T7) (v8 : T8), i ≤ n → n - i < N → P i v0 v1 v2 v3 v5 v6 v7 v8 → J (zl9 b N v0 v1 v2 v3 (nI i) v5 v6 v7 v8) := by
  intro N
  induction N with
  | zero => intro i v0 v1 v2 v3 v5 v6 v7 v8 _ h; omega
  | succ N ih =>
    intro i v0 v1 v2 v3 v5 v6 v7 v8 hi hN hP
    show J (b (zl9 b N) v0 v1 v2 v3 (nI i) v5 v6 v7 v8)
    rcases Nat.lt_or_ge i n with h | h
    · rcases hs (zl9 b N) i v0 v1 v2 v3 v5 v6 v7 v8 h hP with h1 | ⟨w0, w1, w2, w3, w5, w6, w7, w8, e, h2⟩
      · exact h1
      · rw [e]; exact ih (i + 1) w0 w1 w2 w3 w5 w6 w7 w8 h (by omega) h2
    · have e : i = n := by omega
      subst e
      exact he _ v0 v1 v2 v3 v5 v6 v7 v8 hP
theorem zl9c5 {T0 T1 T2 T3 T4 T6 T7 T8 Z : Type} {b : (T0 → T1 → T2 → T3 → T4 → Int32 → T6 → T7 → T8 → Option Z) → T0 → T1 → T2 → T3 → T4 → Int32 → T6 → T7 → T8 → Option Z} {Q : Z → Prop} (n : Nat) (P : Nat → T0 → T1 → T2 → T3 → T4 → T6 → T7 → T8 → Prop) (hs : ∀ (rec : T0 → T1 → T2 → T3 → T4 → Int32 → T6 → T7 → T8 → Option Z) (i : Nat) (v0 : T0) (v1 : T1) (v2 : T2) (v3 : T3) (v4 : T4) (v6 : T6) (v7 : T7) (v8 : T8), i < n → P i v0 v1 v2 v3 v4 v6 v7 v8 → Ev (b rec v0 v1 v2 v3 v4 (nI i) v6 v7 v8) Q ∨ (∃ w0 w1 w2 w3 w4 w6 w7 w8, b rec v0 v1 v2 v3 v4 (nI i) v6 v7 v8 = rec w0 w1 w2 w3 w4 (nI (i + 1)) w6 w7 w8 ∧ P (i + 1) w0 w1 w2 w3 w4 w6 w7 w8)) (he : ∀ (rec : T0 → T1 → T2 → T3 → T4 → Int32 → T6 → T7 → T8 → Option Z) (v0 : T0) (v1 : T1) (v2 : T2) (v3 : T3) (v4 : T4) (v6 : T6) (v7 : T7) (v8 : T8), P n v0 v1 v2 v3 v4 v6 v7 v8 → Ev (b rec v0 v1 v2 v3 v4 (nI n) v6 v7 v8) Q) : ∀ (N i : Nat) (v0 : T0) (v1 : T1) (v2 : T2) (v3 : T3) (v4 : T4) (v6 : T6) (v7 : T7) (v8 : T8), i ≤ n → n - i < N → P i v0 v1 v2 v3 v4 v6 v7 v8 → Ev (zl9 b N v0 v1 v2 v3 v4 (nI i) v6 v7 v8) Q := by
  intro N
  induction N with
  | zero => intro i v0 v1 v2 v3 v4 v6 v7 v8 _ h; omega
  | succ N ih =>
    intro i v0 v1 v2 v3 v4 v6 v7 v8 hi hN hP
    show Ev (b (zl9 b N) v0 v1 v2 v3 v4 (nI i) v6 v7 v8) Q
    rcases Nat.lt_or_ge i n with h | h
    · rcases hs (zl9 b N) i v0 v1 v2 v3 v4 v6 v7 v8 h hP with h1 | ⟨w0, w1, w2, w3, w4, w6, w7, w8, e, h2⟩
      · exact h1
      · rw [e]; exact ih (i + 1) w0 w1 w2 w3 w4 w6 w7 w8 h (by omega) h2
    · have e : i = n := by omega
      subst e
      exact he _ v0 v1 v2 v3 v4 v6 v7 v8 hP
theorem zl9g5 {T0 T1 T2 T3 T4 T6 T7 T8 Z : Type} {b : (T0 → T1 → T2 → T3 → T4 → Int32 → T6 → T7 → T8 → Option Z) → T0 → T1 → T2 → T3 → T4 → Int32 → T6 → T7 → T8 → Option Z} (J : Option Z → Prop) (n : Nat) (P : Nat → T0 → T1 → T2 → T3 → T4 → T6 → T7 → T8 → Prop) (hs : ∀ (rec : T0 → T1 → T2 → T3 → T4 → Int32 → T6 → T7 → T8 → Option Z) (i : Nat) (v0 : T0) (v1 : T1) (v2 : T2) (v3 : T3) (v4 : T4) (v6 : T6) (v7 : T7) (v8 : T8), i < n → P i v0 v1 v2 v3 v4 v6 v7 v8 → J (b rec v0 v1 v2 v3 v4 (nI i) v6 v7 v8) ∨ (∃ w0 w1 w2 w3 w4 w6 w7 w8, b rec v0 v1 v2 v3 v4 (nI i) v6 v7 v8 = rec w0 w1 w2 w3 w4 (nI (i + 1)) w6 w7 w8 ∧ P (i + 1) w0 w1 w2 w3 w4 w6 w7 w8)) (he : ∀ (rec : T0 → T1 → T2 → T3 → T4 → Int32 → T6 → T7 → T8 → Option Z) (v0 : T0) (v1 : T1) (v2 : T2) (v3 : T3) (v4 : T4) (v6 : T6) (v7 : T7) (v8 : T8), P n v0 v1 v2 v3 v4 v6 v7 v8 → J (b rec v0 v1 v2 v3 v4 (nI n) v6 v7 v8)) : ∀ (N i : Nat) (v0 : T0) (v1 : T1) (v2 : T2) (v3 : T3) (v4 : T4) (v6 : T6) (v7 : T7) (v8 : T8), i ≤ n → n - i < N → P i v0 v1 v2 v3 v4 v6 v7 v8 → J (zl9 b N v0 v1 v2 v3 v4 (nI i) v6 v7 v8) := by
  intro N
  induction N with
  | zero => intro i v0 v1 v2 v3 v4 v6 v7 v8 _ h; omega
  | succ N ih =>
    intro i v0 v1 v2 v3 v4 v6 v7 v8 hi hN hP
    show J (b (zl9 b N) v0 v1 v2 v3 v4 (nI i) v6 v7 v8)
    rcases Nat.lt_or_ge i n with h | h
    · rcases hs (zl9 b N) i v0 v1 v2 v3 v4 v6 v7 v8 h hP with h1 | ⟨w0, w1, w2, w3, w4, w6, w7, w8, e, h2⟩
      · exact h1
      · rw [e]; exact ih (i + 1) w0 w1 w2 w3 w4 w6 w7 w8 h (by omega) h2
    · have e : i = n := by omega
      subst e
      exact he _ v0 v1 v2 v3 v4 v6 v7 v8 hP
theorem zl9c6 {T0 T1 T2 T3 T4 T5 T7 T8 Z : Type} {b : (T0 → T1 → T2 → T3 → T4 → T5 → Int32 → T7 → T8 → Option Z) → T0 → T1 → T2 → T3 → T4 → T5 → Int32 → T7 → T8 → Option Z} {Q : Z → Prop} (n : Nat) (P : Nat → T0 → T1 → T2 → T3 → T4 → T5 → T7 → T8 → Prop) (hs : ∀ (rec : T0 → T1 → T2 → T3 → T4 → T5 → Int32 → T7 → T8 → Option Z) (i : Nat) (v0 : T0) (v1 : T1) (v2 : T2) (v3 : T3) (v4 : T4) (v5 : T5) (v7 : T7) (v8 : T8), i < n → P i v0 v1 v2 v3 v4 v5 v7 v8 → Ev (b rec v0 v1 v2 v3 v4 v5 (nI i) v7 v8) Q ∨ (∃ w0 w1 w2 w3 w4 w5 w7 w8, b rec v0 v1 v2 v3 v4 v5 (nI i) v7 v8 = rec w0 w1 w2 w3 w4 w5 (nI (i + 1)) w7 w8 ∧ P (i + 1) w0 w1 w2 w3 w4 w5 w7 w8)) (he : ∀ (rec : T0 → T1 → T2 → T3 → T4 → T5 → Int32 → T7 → T8 → Option Z) (v0 : T0) (v1 : T1) (v2 : T2) (v3 : T3) (v4 : T4) (v5 : T5) (v7 : T7) (v8 : T8), P n v0 v1 v2 v3 v4 v5 v7 v8 → Ev (b rec v0 v1 v2 v3 v4 v5 (nI n) v7 v8) Q) : ∀ (N i : Nat) (v0 : T0) (v1 : T1) (v2 : T2) (v3 : T3) (v4 : T4) (v5 : T5) (v7 : T7) (v8 : T8), i ≤ n → n - i < N → P i v0 v1 v2 v3 v4 v5 v7 v8 → Ev (zl9 b N v0 v1 v2 v3 v4 v5 (nI i) v7 v8) Q := by
  intro N
  induction N with
  | zero => intro i v0 v1 v2 v3 v4 v5 v7 v8 _ h; omega
  | succ N ih =>
    intro i v0 v1 v2 v3 v4 v5 v7 v8 hi hN hP
    show Ev (b (zl9 b N) v0 v1 v2 v3 v4 v5 (nI i) v7 v8) Q
    rcases Nat.lt_or_ge i n with h | h
    · rcases hs (zl9 b N) i v0 v1 v2 v3 v4 v5 v7 v8 h hP with h1 | ⟨w0, w1, w2, w3, w4, w5, w7, w8, e, h2⟩
      · exact h1
      · rw [e]; exact ih (i + 1) w0 w1 w2 w3 w4 w5 w7 w8 h (by omega) h2
    · have e : i = n := by omega
      subst e
      exact he _ v0 v1 v2 v3 v4 v5 v7 v8 hP
theorem zl9g6 {T0 T1 T2 T3 T4 T5 T7 T8 Z : Type} {b : (T0 → T1 → T2 → T3 → T4 → T5 → Int32 → T7 → T8 → Option Z) → T0 → T1 → T2 → T3 → T4 → T5 → Int32 → T7 → T8 → Option Z} (J : Option Z → Prop) (n : Nat) (P : Nat → T0 → T1 → T2 → T3 → T4 → T5 → T7 → T8 → Prop) (hs : ∀ (rec : T0 → T1 → T2 → T3 → T4 → T5 → Int32 → T7 → T8 → Option Z) (i : Nat) (v0 : T0) (v1 : T1) (v2 : T2) (v3 : T3) (v4 : T4) (v5 : T5) (v7 : T7) (v8 : T8), i < n → P i v0 v1 v2 v3 v4 v5 v7 v8 → J (b rec v0 v1 v2 v3 v4 v5 (nI i) v7 v8) ∨ (∃ w0 w1 w2 w3 w4 w5 w7 w8, b rec v0 v1 v2 v3 v4 v5 (nI i) v7 v8 = rec w0 w1 w2 w3 w4 w5 (nI (i + 1)) w7 w8 ∧ P (i + 1) w0 w1 w2 w3 w4 w5 w7 w8)) (he : ∀ (rec : T0 → T1 → T2 → T3 → T4 → T5 → Int32 → T7 → T8 → Option Z) (v0 : T0) (v1 : T1) (v2 : T2) (v3 : T3) (v4 : T4) (v5 : T5) (v7 : T7) (v8 : T8), P n v0 v1 v2 v3 v4 v5 v7 v8 → J (b rec v0 v1 v2 v3 v4 v5 (nI n) v7 v8)) : ∀ (N i : Nat) (v0 : T0) (v1 : T1) (v2 : T2) (v3 : T3) (v4 : T4) (v5 : T5) (v7 : T7) (v8 : T8), i ≤ n → n - i < N → P i v0 v1 v2 v3 v4 v5 v7 v8 → J (zl9 b N v0 v1 v2 v3 v4 v5 (nI i) v7 v8) := by
  intro N
  induction N with
  | zero => intro i v0 v1 v2 v3 v4 v5 v7 v8 _ h; omega
  | succ N ih =>
    intro i v0 v1 v2 v3 v4 v5 v7 v8 hi hN hP
    show J (b (zl9 b N) v0 v1 v2 v3 v4 v5 (nI i) v7 v8)
    rcases Nat.lt_or_ge i n with h | h
    · rcases hs (zl9 b N) i v0 v1 v2 v3 v4 v5 v7 v8 h hP with h1 | ⟨w0, w1, w2, w3, w4, w5, w7, w8, e, h2⟩
      · exact h1
      · rw [e]; exact ih (i + 1) w0 w1 w2 w3 w4 w5 w7 w8 h (by omega) h2
    · have e : i = n := by omega
      subst e
      exact he _ v0 v1 v2 v3 v4 v5 v7 v8 hP
theorem zl9c7 {T0 T1 T2 T3 T4 T5 T6 T8 Z : Type} {b : (T0 → T1 → T2 → T3 → T4 → T5 → T6 → Int32 → T8 → Option Z) → T0 → T1 → T2 → T3 → T4 → T5 → T6 → Int32 → T8 → Option Z} {Q : Z → Prop} (n : Nat) (P : Nat → T0 → T1 → T2 → T3 → T4 → T5 → T6 → T8 → Prop) (hs : ∀ (rec : T0 → T1 → T2 → T3 → T4 → T5 → T6 → Int32 → T8 → Option Z) (i : Nat) (v0 : T0) (v1 : T1) (v2 : T2) (v3 : T3) (v4 : T4) (v5 : T5) (v6 : T6) (v8 : T8), i < n → P i v0 v1 v2 v3 v4 v5 v6 v8 → Ev (b rec v0 v1 v2 v3 v4 v5 v6 (nI i) v8) Q ∨ (∃ w0 w1 w2 w3 w4 w5 w6 w8, b rec v0 v1 v2 v3 v4 v5 v6 (nI i) v8 = rec w0 w1 w2 w3 w4 w5 w6 (nI (i + 1)) w8 ∧ P (i + 1) w0 w1 w2 w3 w4 w5 w6 w8)) (he : ∀ (rec : T0 → T1 → T2 → T3 → T4 → T5 → T6 → Int32 → T8 → Option Z) (v0 : T0) (v1 : T1) (v2 : T2) (v3 : T3) (v4 : T4) (v5 : T5) (v6 : T6) (v8 : T8), P n v0 v1 v2 v3 v4 v5 v6 v8 → Ev (b rec v0 v1 v2 v3 v4 v5 v6 (nI n) v8) Q) : ∀ (N i : Nat) (v0 : T0) (v1 : T1) (v2 : T2) (v3 : T3) (v4 : T4) (v5 : T5) (v6 : T6) (v8 : T8), i ≤ n → n - i < N → P i v0 v1 v2 v3 v4 v5 v6 v8 → Ev (zl9 b N v0 v1 v2 v3 v4 v5 v6 (nI i) v8) Q := by
  intro N
  induction N with
  | zero => intro i v0 v1 v2 v3 v4 v5 v6 v8 _ h; omega
  | succ N ih =>
    intro i v0 v1 v2 v3 v4 v5 v6 v8 hi hN hP
    show Ev (b (zl9 b N) v0 v1 v2 v3 v4 v5 v6 (nI i) v8) Q
    rcases Nat.lt_or_ge i n with h | h
    · rcases hs (zl9 b N) i v0 v1 v2 v3 v4 v5 v6 v8 h hP with h1 | ⟨w0, w1, w2, w3, w4, w5, w6, w8, e, h2⟩
      · exact h1
      · rw [e]; exact ih (i + 1) w0 w1 w2 w3 w4 w5 w6 w8 h (by omega) h2
    · have e : i = n := by omega
      subst e
      exact he _ v0 v1 v2 v3 v4 v5 v6 v8 hP
theorem zl9g7 {T0 T1 T2 T3 T4 T5 T6 T8 Z : Type} {b : (T0 → T1 → T2 → T3 → T4 → T5 → T6 → Int32 → T8 → Option Z) → T0 → T1 → T2 → T3 → T4 → T5 → T6 → Int32 → T8 → Option Z} (J : Option Z → Prop) (n : Nat) (P : Nat → T0 → T1 → T2 → T3 → T4 → T5 → T6 → T8 → Prop) (hs : ∀ (rec : T0 → T1 → T2 → T3 → T4 → T5 → T6 → Int32 → T8 → Option Z) (i : Nat) (v0 : T0) (v1 : T1) (v2 : T2) (v3 : T3) (v4 : T4) (v5 : T5) (v6 : T6) (v8 : T8), i < n → P i v0 v1 v2 v3 v4 v5 v6 v8 → J (b rec v0 v1 v2 v3 v4 v5 v6 (nI i) v8) ∨ (∃ w0 w1 w2 w3 w4 w5 w6 w8, b rec v0 v1 v2 v3 v4 v5 v6 (nI i) v8 = rec w0 w1 w2 w3 w4 w5 w6 (nI (i + 1)) w8 ∧ P (i + 1) w0 w1 w2 w3 w4 w5 w6 w8)) (he : ∀ (rec : T0 → T1 → T2 → T3 → T4 → T5 → T6 → Int32 → T8 → Option Z) (v0 : T0) (v1 : T1) (v2 : T2) (v3 : T3) (v4 : T4) (v5 : T5) (v6 : T6) (v8 : T8), P n v0 v1 v2 v3 v4 v5 v6 v8 → J (b rec v0 v1 v2 v3 v4 v5 v6 (nI n) v8)) : ∀ (N i : Nat) (v0 : T0) (v1 : T1) (v2 : T2) (v3 : T3) (v4 : T4) (v5 : T5) (v6 : T6) (v8 : T8), i ≤ n → n - i < N → P i v0 v1 v2 v3 v4 v5 v6 v8 → J (zl9 b N v0 v1 v2 v3 v4 v5 v6 (nI i) v8) := by
  intro N
  induction N with
  | zero => intro i v0 v1 v2 v3 v4 v5 v6 v8 _ h; omega
  | succ N ih =>
    intro i v0 v1 v2 v3 v4 v5 v6 v8 hi hN hP
    show J (b (zl9 b N) v0 v1 v2 v3 v4 v5 v6 (nI i) v8)
    rcases Nat.lt_or_ge i n with h | h
    · rcases hs (zl9 b N) i v0 v1 v2 v3 v4 v5 v6 v8 h hP with h1 | ⟨w0, w1, w2, w3, w4, w5, w6, w8, e, h2⟩
      · exact h1
      · rw [e]; exact ih (i + 1) w0 w1 w2 w3 w4 w5 w6 w8 h (by omega) h2
    · have e : i = n := by omega
      subst e
      exact he _ v0 v1 v2 v3 v4 v5 v6 v8 hP
theorem zl9c8 {T0 T1 T2 T3 T4 T5 T6 T7 Z : Type} {b : (T0 → T1 → T2 → T3 → T4 → T5 → T6 → T7 → Int32 → Option Z) → T0 → T1 → T2 → T3 → T4 → T5 → T6 → T7 → Int32 → Option Z} {Q : Z → Prop} (n : Nat) (P : Nat → T0 → T1 → T2 → T3 → T4 → T5 → T6 → T7 → Prop) (hs : ∀ (rec : T0 → T1 → T2 → T3 → T4 → T5 → T6 → T7 → Int32 → Option Z) (i : Nat) (v0 : T0) (v1 : T1) (v2 : T2) (v3 : T3) (v4 : T4) (v5 : T5) (v6 : T6) (v7 : T7), i < n → P i v0 v1 v2 v3 v4 v5 v6 v7 → Ev (b rec v0 v1 v2 v3 v4 v5 v6 v7 (nI i)) Q ∨ (∃ w0 w1 w2 w3 w4 w5 w6 w7, b rec v0 v1 v2 v3 v4 v5 v6 v7 (nI i) = rec w0 w1 w2 w3 w4 w5 w6 w7 (nI (i + 1)) ∧ P (i + 1) w0 w1 w2 w3 w4 w5 w6 w7)) (he : ∀ (rec : T0 → T1 → T2 → T3 → T4 → T5 → T6 → T7 → Int32 → Option Z) (v0 : T0) (v1 : T1) (v2 : T2) (v3 : T3) (v4 : T4) (v5 : T5) (v6 : T6) (v7 : T7), P n v0 v1 v2 v3 v4 v5 v6 v7 → Ev (b rec v0 v1 v2 v3 v4 v5 v6 v7 (nI n)) Q) : ∀ (N i : Nat) (v0 : T0) (v1 : T1) (v2 : T2) (v3 : T3) (v4 : T4) (v5 : T5) (v6 : T6) (v7 : T7), i ≤ n → n - i < N → P i v0 v1 v2 v3 v4 v5 v6 v7 → Ev (zl9 b N v0 v1 v2 v3 v4 v5 v6 v7 (nI i)) Q := by
  intro N
  induction N with
  | zero => intro i v0 v1 v2 v3 v4 v5 v6 v7 _ h; omega
  | succ N ih =>
    intro i v0 v1 v2 v3 v4 v5 v6 v7 hi hN hP
    show Ev (b (zl9 b N) v0 v1 v2 v3 v4 v5 v6 v7 (nI i)) Q
    rcases Nat.lt_or_ge i n with h | h
    · rcases hs (zl9 b N) i v0 v1 v2 v3 v4 v5 v6 v7 h hP with h1 | ⟨w0, w1, w2, w3, w4, w5, w6, w7, e, h2⟩
      · exact h1
      · rw [e]; exact ih (i + 1) w0 w1 w2 w3 w4 w5 w6 w7 h (by omega) h2
    · have e : i = n := by omega
      subst e
      exact he _ v0 v1 v2 v3 v4 v5 v6 v7 hP
theorem zl9g8 {T0 T1 T2 T3 T4 T5 T6 T7 Z : Type} {b : (T0 → T1 → T2 → T3 → T4 → T5 → T6 → T7 → Int32 → Option Z) → T0 → T1 → T2 → T3 → T4 → T5 → T6 → T7 → Int32 → Option Z} (J : Option Z → Prop) (n : Nat) (P : Nat → T0 → T1 → T2 → T3 → T4 → T5 → T6 → T7 → Prop) (hs : ∀ (rec : T0 → T1 → T2 → T3 → T4 → T5 → T6 → T7 → Int32 → Option Z) (i : Nat) (v0 : T0) (v1 : T1) (v2 : T2) (v3 : T3) (v4 : T4) (v5 : T5) (v6 : T6) (v7 : T7), i < n → P i v0 v1 v2 v3 v4 v5 v6 v7 → J (b rec v0 v1 v2 v3 v4 v5 v6 v7 (nI i)) ∨ (∃ w0 w1 w2 w3 w4 w5 w6 w7, b rec v0 v1 v2 v3 v4 v5 v6 v7 (nI i) = rec w0 w1 w2 w3 w4 w5 w6 w7 (nI (i + 1)) ∧ P (i + 1) w0 w1 w2 w3 w4 w5 w6 w7)) (he : ∀ (rec : T0 → T1 → T2 → T3 → T4 → T5 → T6 → T7 → Int32 → Option Z) (v0 : T0) (v1 : T1) (v2 : T2) (v3 : T3) (v4 : T4) (v5 : T5) (v6 : T6) (v7 : T7), P n v0 v1 v2 v3 v4 v5 v6 v7 → J (b rec v0 v1 v2 v3 v4 v5 v6 v7 (nI n))) : ∀ (N i : Nat) (v0 : T0) (v1 : T1) (v2 : T2) (v3 : T3) (v4 : T4) (v5 : T5) (v6 : T6) (v7 : T7), i ≤ n → n - i < N → P i v0 v1 v2 v3 v4 v5 v6 v7 → J (zl9 b N v0 v1 v2 v3 v4 v5 v6 v7 (nI i)) := by
  intro N
  induction N with
  | zero => intro i v0 v1 v2 v3 v4 v5 v6 v7 _ h; omega
  | succ N ih =>
    intro i v0 v1 v2 v3 v4 v5 v6 v7 hi hN hP
    show J (b (zl9 b N) v0 v1 v2 v3 v4 v5 v6 v7 (nI i))
    rcases Nat.lt_or_ge i n with h | h
    · rcases hs (zl9 b N) i v0 v1 v2 v3 v4 v5 v6 v7 h hP with h1 | ⟨w0, w1, w2, w3, w4, w5, w6, w7, e, h2⟩
      · exact h1
      · rw [e]; exact ih (i + 1) w0 w1 w2 w3 w4 w5 w6 w7 h (by omega) h2
    · have e : i = n := by omega
      subst e
      exact he _ v0 v1 v2 v3 v4 v5 v6 v7 hP
theorem zl11c0 {T1 T2 T3 T4 T5 T6 T7 T8 T9 T10 Z : Type} {b : (Int32 → T1 → T2 → T3 → T4 → T5 → T6 → T7 → T8 → T9 → T10 → Option Z) → Int32 → T1 → T2 → T3 → T4 → T5 → T6 → T7 → T8 → T9 → T10 → Option Z} {Q : Z → Prop} (n : Nat) (P : Nat → T1 → T2 → T3 → T4 → T5 → T6 → T7 → T8 → T9 → T10 → Prop) (hs : ∀ (rec : Int32 → T1 → T2 → T3 → T4 → T5 → T6 → T7 → T8 → T9 → T10 → Option Z) (i : Nat) (v1 : T1) (v2 : T2) (v3 : T3) (v4 : T4) (v5 : T5) (v6 : T6) (v7 : T7) (v8 : T8) (v9 : T9) (v10 : T10), i < n → P i v1 v2 v3 v4 v5 v6 v7 v8 v9 v10 → Ev (b rec (nI i) v1 v2 v3 v4 v5 v6 v7 v8 v9 v10) Q ∨ (∃ w1 w2 w3 w4 w5 w6 w7 w8 w9 w10, b rec (nI i) v1 v2 v3 v4 v5 v6 v7 v8 v9 v10 = rec (nI (i + 1)) w1 w2 w3 w4 w5 w6 w7 w8 w9 w10 ∧ P (i + 1) w1 w2 w3 w4 w5 w6 w7 w8 w9 w10)) (he : ∀ (rec : Int32 → T1 → T2 → T3 → T4 → T5 → T6 → T7 → T8 → T9 → T10 → Option Z) (v1 : T1) (v2 : T2) (v3 : T3) (v4 : T4) (v5 : T5) (v6 : T6) (v7 : T7) (v8 : T8) (v9 : T9) (v10 : T10), P n v1 v2 v3 v4 v5 v6 v7 v8 v9 v10 → Ev (b rec (nI n) v1 v2 v3 v4 v5 v6 v7 v8 v9 v10) Q) : ∀ (N i : Nat) (v1 : T1) (v2 : T2) (v3 : T3) (v4 : T4) (v5 : T5) (v6 : T6) (v7 : T7) (v8 : T8) (v9 : T9) (v10 : T10), i ≤ n → n - i < N → P i v1 v2 v3 v4 v5 v6 v7 v8 v9 v10 → Ev (zl11 b N (nI i) v1 v2 v3 v4 v5 v6 v7 v8 v9 v10) Q := by
  intro N
  induction N with
  | zero => intro i v1 v2 v3 v4 v5 v6 v7 v8 v9 v10 _ h; omega
  | succ N ih =>
    intro i v1 v2 v3 v4 v5 v6 v7 v8 v9 v10 hi hN hP
    show Ev (b (zl11 b N) (nI i) v1 v2 v3 v4 v5 v6 v7 v8 v9 v10) Q
    rcases Nat.lt_or_ge i n with h | h
    · rcases hs (zl11 b N) i v1 v2 v3 v4 v5 v6 v7 v8 v9 v10 h hP with h1 | ⟨w1, w2, w3, w4, w5, w6, w7, w8, w9, w10, e, h2⟩
      · exact h1
      · rw [e]; exact ih (i + 1) w1 w2 w3 w4 w5 w6 w7 w8 w9 w10 h (by omega) h2
    · have e : i = n := by omega
      subst e
      exact he _ v1 v2 v3 v4 v5 v6 v7 v8 v9 v10 hP
theorem zl11g0 {T1 T2 T3 T4 T5 T6 T7 T8 T9 T10 Z : Type} {b : (Int32 → T1 → T2 → T3 → T4 → T5 → T6 → T7 → T8 → T9 → T10 → Option Z) → Int32 → T1 → T2 → T3 → T4 → T5 → T6 → T7 → T8 → T9 → T10 → Option Z} (J : Option Z → Prop) (n : Nat) (P : Nat → T1 → T2 → T3 → T4 → T5 → T6 → T7 → T8 → T9 → T10 → Prop) (hs : ∀ (rec : Int32 → T1 → T2 → T3 → T4 → T5 → T6 → T7 → T8 → T9 → T10 → Option Z) (i : Nat) (v1 : T1) (v2 : T2) (v3 : T3) (v4 : T4) (v5 : T5) (v6 : T6) (v7 : T7) (v8 : T8) (v9 : T9) (v10 : T10), i < n → P i v1 v2 v3 v4 v5 v6 v7 v8 v9 v10 → J (b rec (nI i) v1 v2 v3 v4 v5 v6 v7 v8 v9 v10) ∨ (∃ w1 w2 w3 w4 w5 w6 w7 w8 w9 w10, b rec (nI i) v1 v2 v3 v4 v5 v6 v7 v8 v9 v10 = rec (nI (i + 1)) w1 w2 w3 w4 w5 w6 w7 w8 w9 w10 ∧ P (i + 1) w1 w2 w3 w4 w5 w6 w7 w8 w9 w10)) (he : ∀ (rec : Int32 → T1 → T2 → T3 → T4 → T5 → T6 → T7 → T8 → T9 → T10 → Option Z) (v1 : T1) (v2 : T2) (v3 : T3) (v4 : T4) (v5 : T5) (v6 : T6) (v7 : T7) (v8 : T8) (v9 : T9) (v10 : T10), P n v1 v2 v3 v4 v5 v6 v7 v8 v9 v10 → J (b rec (nI n) v1 v2 v3 v4 v5 v6 v7 v8 v9 v10)) : ∀ (N i : Nat) (v1 : T1) (v2 : T2) (v3 : T3) (v4 : T4) (v5 : T5) (v6 : T6) (v7 : T7) (v8 : T8) (v9 : T9) (v10 : T10), i ≤ n → n - i < N → P i v1 v2 v3 v4 v5 v6 v7 v8 v9 v10 → J (zl11 b N (nI i) v1 v2 v3 v4 v5 v6 v7 v8 v9 v10) := by
  intro N
  induction N with
  | zero => intro i v1 v2 v3 v4 v5 v6 v7 v8 v9 v10 _ h; omega
  | succ N ih =>
    intro i v1 v2 v3 v4 v5 v6 v7 v8 v9 v10 hi hN hP
    show J (b (zl11 b N) (nI i) v1 v2 v3 v4 v5 v6 v7 v8 v9 v10)
    rcases Nat.lt_or_ge i n with h | h
    · rcases hs (zl11 b N) i v1 v2 v3 v4 v5 v6 v7 v8 v9 v10 h hP with h1 | ⟨w1, w2, w3, w4, w5, w6, w7, w8, w9, w10, e, h2⟩
      · exact h1
      · rw [e]; exact ih (i + 1) w1 w2 w3 w4 w5 w6 w7 w8 w9 w10 h (by omega) h2
    · have e : i = n := by omega
      subst e
      exact he _ v1 v2 v3 v4 v5 v6 v7 v8 v9 v10 hP
theorem zl11c1 {T0 T2 T3 T4 T5 T6 T7 T8 T9 T10 Z : Type} {b : (T0 → Int32 → T2 → T3 → T4 → T5 → T6 → T7 → T8 → T9 → T10 → Option Z) → T0 → Int32 → T2 → T3 → T4 → T5 → T6 → T7 → T8 → T9 → T10 → Option Z} {Q : Z → Prop} (n : Nat) (P : Nat → T0 → T2 → T3 → T4 → T5 → T6 → T7 → T8 → T9 → T10 → Prop) (hs : ∀ (rec : T0 → Int32 → T2 → T3 → T4 → T5 → T6 → T7 → T8 → T9 → T10 → Option Z) (i : Nat) (v0 : T0) (v2 : T2) (v3 : T3) (v4 : T4) (v5 : T5) (v6 : T6) (v7 : T7) (v8 : T8) (v9 : T9) (v10 : T10), i < n → P i v0 v2 v3 v4 v5 v6 v7 v8 v9 v10 → Ev (b rec v0 (nI i) v2 v3 v4 v5 v6 v7 v8 v9 v10) Q ∨ (∃ w0 w2 w3 w4 w5 w6 w7 w8 w9 w10, b rec v0 (nI i) v2 v3 v4 v5 v6 v7 v8 v9 v10 = rec w0 (nI (i + 1)) w2 w3 w4 w5 w6 w7 w8 w9 w10 ∧ P (i + 1) w0 w2 w3 w4 w5 w6 w7 w8 w9 w10)) (he : ∀ (rec : T0 → Int32 → T2 → T3 → T4 → T5 → T6 → T7 → T8 → T9 → T10 → Option Z) (v0 : T0) (v2 : T2) (v3 : T3) (v4 : T4) (v5 : T5) (v6 : T6) (v7 : T7) (v8 : T8) (v9 : T9) (v10 : T10), P n v0 v2 v3 v4 v5 v6 v7 v8 v9 v10 → Ev (b rec v0 (nI n) v2 v3 v4 v5 v6 v7 v8 v9 v10) Q) : ∀ (N i : Nat) (v0 : T0) (v2 : T2) (v3 : T3) (v4 : T4) (v5 : T5) (v6 : T6) (v7 : T7) (v8 : T8) (v9 : T9) (v10 : T10), i ≤ n → n - i < N → P i v0 v2 v3 v4 v5 v6 v7 v8 v9 v10 → Ev (zl11 b N v0 (nI i) v2 v3 v4 v5 v6 v7 v8 v9 v10) Q := by
  intro N
  induction N with
  | zero => intro i v0 v2 v3 v4 v5 v6 v7 v8 v9 v10 _ h; omega
  | succ N ih =>
    intro i v0 v2 v3 v4 v5 v6 v7 v8 v9 v10 hi hN hP
    show Ev (b (zl11 b N) v0 (nI i) v2 v3 v4 v5 v6 v7 v8 v9 v10) Q
    rcases Nat.lt_or_ge i n with h | h
    · rcases hs (zl11 b N) i v0 v2 v3 v4 v5 v6 v7 v8 v9 v10 h hP with h1 | ⟨w0, w2, w3, w4, w5, w6, w7, w8, w9, w10, e, h2⟩
      · exact h1
      · rw [e]; exact ih (i + 1) w0 w2 w3 w4 w5 w6 w7 w8 w9 w10 h (by omega) h2
    · have e : i = n := by omega
      subst e
      exact he _ v0 v2 v3 v4 v5 v6 v7 v8 v9 v10 hP
theorem zl11g1 {T0 T2 T3 T4 T5 T6 T7 T8 T9 T10 Z : Type} {b : (T0 → Int32 → T2 → T3 → T4 → T5 → T6 → T7 → T8 → T9 → T10 → Option Z) → T0 → Int32 → T2 → T3 → T4 → T5 → T6 → T7 → T8 → T9 → T10 → Option Z} (J : Option Z → Prop) (n : Nat) (P : Nat → T0 → T2 → T3 → T4 → T5 → T6 → T7 → T8 → T9 → T10 → Prop) (hs : ∀ (rec : T0 → Int32 → T2 → T3 → T4 → T5 → T6 → T7 → T8 → T9 → T10 → Option Z) (i : Nat) (v0 : T0) (v2 : T2) (v3 : T3) (v4 : T4) (v5 : T5) (v6 : T6) (v7 : T7) (v8 : T8) (v9 : T9) (v10 : T10), i < n → P i v0 v2 v3 v4 v5 v6 v7 v8 v9 v10 → J (b rec v0 (nI i) v2 v3 v4 v5 v6 v7 v8 v9 v10) ∨ (∃ w0 w2 w3 w4 w5 w6 w7 w8 w9 w10, b rec v0 (nI i) v2 v3 v4 v5 v6 v7 v8 v9 v10 = rec w0 (nI (i + 1)) w2 w3 w4 w5 w6 w7 w8 w9 w10 ∧ P (i + 1) w0 w2 w3 w4 w5 w6 w7 w8 w9 w10)) (he : ∀ (rec : T0 → Int32 → T2 → T3 → T4 → T5 → T6 → T7 → T8 → T9 → T10 → Option Z) (v0 : T0) (v2 : T2) (v3 : T3) (v4 : T4) (v5 : T5) (v6 : T6) (v7 : T7) (v8 : T8) (v9 : T9) (v10 : T10), P n v0 v2 v3 v4 v5 v6 v7 v8 v9 v10 → J (b rec v0 (nI n) v2 v3 v4 v5 v6 v7 v8 v9 v10)) : ∀ (N i : Nat) (v0 : T0) (v2 : T2) (v3 : T3) (v4 : T4) (v5 : T5) (v6 : T6) (v7 : T7) (v8 : T8) (v9 : T9) (v10 : T10), i ≤ n → n - i < N → P i v0 v2 v3 v4 v5 v6 v7 v8 v9 v10 → J (zl11 b N v0 (nI i) v2 v3 v4 v5 v6 v7 v8 v9 v10) := by
  intro N
  induction N with
  | zero => intro i v0 v2 v3 v4 v5 v6 v7 v8 v9 v10 _ h; omega
  | succ N ih =>
    intro i v0 v2 v3 v4 v5 v6 v7 v8 v9 v10 hi hN hP
    show J (b (zl11 b N) v0 (nI i) v2 v3 v4 v5 v6 v7 v8 v9 v10)
    rcases Nat.lt_or_ge i n with h | h
    · rcases hs (zl11 b N) i v0 v2 v3 v4 v5 v6 v7 v8 v9 v10 h hP with h1 | ⟨w0, w2, w3, w4, w5, w6, w7, w8, w9, w10, e, h2⟩
      · exact h1
      · rw [e]; exact ih (i + 1) w0 w2 w3 w4 w5 w6 w7 w8 w9 w10 h (by omega) h2
    · have e : i = n := by omega
      subst e
      exact he _ v0 v2 v3 v4 v5 v6 v7 v8 v9 v10 hP
theorem zl11c2 {T0 T1 T3 T4 T5 T6 T7 T8 T9 T10 Z : Type} {b : (T0 → T1 → Int32 → T3 → T4 → T5 → T6 → T7 → T8 → T9 → T10 → Option Z) → T0 → T1 → Int32 → T3 → T4 → T5 → T6 → T7 → T8 → T9 → T10 → Option Z} {Q : Z → Prop} (n : Nat) (P : Nat → T0 → T1 → T3 → T4 → T5 → T6 → T7 → T8 → T9 → T10 → Prop) (hs : ∀ (rec : T0 → T1 → Int32 → T3 → T4 → T5 → T6 → T7 → T8 → T9 → T10 → Option Z) (i : Nat) (v0 : T0) (v1 : T1) (v3 : T3) (v4 : T4) (v5 : T5) (v6 : T6) (v7 : T7) (v8 : T8) (v9 : T9) (v10 : T10), i < n → P i v0 v1 v3 v4 v5 v6 v7 v8 v9 v10 → Ev (b rec v0 v1 (nI i) v3 v4 v5 v6 v7 v8 v9 v10) Q ∨ (∃ w0 w1 w3 w4 w5 w6 w7 w8 w9 w10, b rec v0 v1 (nI i) v3 v4 v5 v6 v7 v8 v9 v10 = rec w0 w1 (nI (i + 1)) w3 w4 w5 w6 w7 w8 w9 w10 ∧ P (i + 1) w0 w1 w3 w4 w5 w6 w7 w8 w9 w10)) (he : ∀ (rec : T0 → T1 → Int32 → T3 → T4 → T5 → T6 → T7 → T8 → T9 → T10 → Option Z) (v0 : T0) (v1 : T1) (v3 : T3) (v4 : T4) (v5 : T5) (v6 : T6) (v7 : T7) (v8 : T8) (v9 : T9) (v10 : T10), P n v0 v1 v3 v4 v5 v6 v7 v8 v9 v10 → Ev (b rec v0 v1 (nI n) v3 v4 v5 v6 v7 v8 v9 v10) Q) : ∀ (N i : Nat) (v0 : T0) (v1 : T1) (v3 : T3) (v4 : T4) (v5 : T5) (v6 : T6) (v7 : T7) (v8 : T8) (v9 : T9) (v10 : T10), i ≤ n → n - i < N → P i v0 v1 v3 v4 v5 v6 v7 v8 v9 v10 → Ev (zl11 b N v0 v1 (nI i) v3 v4 v5 v6 v7 v8 v9 v10) Q := by
  intro N
  induction N with
  | zero => intro i v0 v1 v3 v4 v5 v6 v7 v8 v9 v10 _ h; omega
  | succ N ih =>
    intro i v0 v1 v3 v4 v5 v6 v7 v8 v9 v10 hi hN hP
    show Ev (b (zl11 b N) v0 v1 (nI i) v3 v4 v5 v6 v7 v8 v9 v10) Q
    rcases Nat.lt_or_ge i n with h | h
    · rcases hs (zl11 b N) i v0 v1 v3 v4 v5 v6 v7 v8 v9 v10 h hP with h1 | ⟨w0, w1, w3, w4, w5, w6, w7, w8, w9, w10, e, h2⟩
      · exact h1
      · rw [e]; exact ih (i + 1) w0 w1 w3 w4 w5 w6 w7 w8 w9 w10 h (by omega) h2
    · have e : i = n := by omega
      subst e
      exact he _ v0 v1 v3 v4 v5 v6 v7 v8 v9 v10 hP
theorem zl11g2 {T0 T1 T3 T4 T5 T6 T7 T8 T9 T10 Z : Type} {b : (T0 → T1 → Int32 → T3 → T4 → T5 → T6 → T7 → T8 → T9 → T10 → Option Z) → T0 → T1 → Int32 → T3 → T4 → T5 → T6 → T7 → T8 → T9 → T10 → Option Z} (J : Option Z → Prop) (n : Nat) (P : Nat → T0 → T1 → T3 → T4 → T5 → T6 → T7 → T8 → T9 → T10 → Prop) (hs : ∀ (rec : T0 → T1 → Int32 → T3 → T4 → T5 → T6 → T7 → T8 → T9 → T10 → Option Z) (i : Nat) (v0 : T0) (v1 : T1) (v3 : T3) (v4 : T4) (v5 : T5) (v6 : T6) (v7 : T7) (v8 : T8) (v9 : T9) (v10 : T10), i < n → P i v0 v1 v3 v4 v5 v6 v7 v8 v9 v10 → J (b rec v0 v1 (nI i) v3 v4 v5 v6 v7 v8 v9 v10) ∨ (∃ w0 w1 w3 w4 w5 w6 w7 w8 w9 w10, b rec v0 v1 (nI i) v3 v4 v5 v6 v7 v8 v9 v10 = rec w0 w1 (nI (i + 1)) w3 w4 w5 w6 w7 w8 w9 w10 ∧ P (i + 1) w0 w1 w3 w4 w5 w6 w7 w8 w9 w10)) (he : ∀ (rec : T0 → T1 → Int32 → T3 → T4 → T5 → T6 → T7 → T8 → T9 → T10 → Option Z) (v0 : T0) (v1 : T1) (v3 : T3) (v4 : T4) (v5 : T5) (v6 : T6) (v7 : T7) (v8 : T8) (v9 : T9) (v10 : T10), P n v0 v1 v3 v4 v5 v6 v7 v8 v9 v10 → J (b rec v0 v1 (nI n) v3 v4 v5 v6 v7 v8 v9 v10)) : ∀ (N i : Nat) (v0 : T0) (v1 : T1) (v3 : T3) (v4 : T4) (v5 : T5) (v6 : T6) (v7 : T7) (v8 : T8) (v9 : T9) (v10 : T10), i ≤ n → n - i < N → P i v0 v1 v3 v4 v5 v6 v7 v8 v9 v10 → J (zl11 b N v0 v1 (nI i) v3 v4 v5 v6 v7 v8 v9 v10) := by
  intro N
  induction N with
  | zero => intro i v0 v1 v3 v4 v5 v6 v7 v8 v9 v10 _ h; omega
  | succ N ih =>
    intro i v0 v1 v3 v4 v5 v6 v7 v8 v9 v10 hi hN hP
    show J (b (zl11 b N) v0 v1 (nI i) v3 v4 v5 v6 v7 v8 v9 v10)
    rcases Nat.lt_or_ge i n with h | h
    · rcases hs (zl11 b N) i v0 v1 v3 v4 v5 v6 v7 v8 v9 v10 h hP with h1 | ⟨w0, w1, w3, w4, w5, w6, w7, w8, w9, w10, e, h2⟩
      · exact h1
      · rw [e]; exact ih (i + 1) w0 w1 w3 w4 w5 w6 w7 w8 w9 w10 h (by omega) h2
    · have e : i = n := by omega
      subst e
      exact he _ v0 v1 v3 v4 v5 v6 v7 v8 v9 v10 hP
theorem zl11c3 {T0 T1 T2 T4 T5 T6 T7 T8 T9 T10 Z : Type} {b : (T0 → T1 → T2 → Int32 → T4 → T5 → T6 → T7 → T8 → T9 → T10 → Option Z) → T0 → T1 → T2 → Int32 → T4 → T5 → T6 → T7 → T8 → T9 → T10 → Option Z} {Q : Z → Prop} (n : Nat) (P : Nat → T0 → T1 → T2 → T4 → T5 → T6 → T7 → T8 → T9 → T10 → Prop) (hs : ∀ (rec : T0 → T1 → T2 → Int32 → T4 → T5 → T6 → T7 → T8 → T9 → T10 → Option Z) (i : Nat) (v0 : T0) (v1 : T1) (v2 : T2) (v4 : T4) (v5 : T5) (v6 : T6) (v7 : T7) (v8 : T8) (v9 : T9) (v10 : T10), i < n → P i v0 v1 v2 v4 v5 v6 v7 v8 v9 v10 → Ev (b rec v0 v1 v2 (nI i) v4 v5 v6 v7 v8 v9 v10) Q ∨ (∃ w0 w1 w2 w4 w5 w6 w7 w8 w9 w10, b rec v0 v1 v2 (nI i) v4 v5 v6 v7 v8 v9 v10 = rec w0 w1 w2 (nI (i + 1)) w4 w5 w6 w7 w8 w9 w10 ∧ P (i + 1) w0 w1 w2 w4 w5 w6 w7 w8 w9 w10)) (he : ∀ (rec : T0 → T1 → T2 → Int32 → T4 → T5 → T6 → T7 → T8 → T9 → T10 → Option Z) (v0 : T0) (v1 : T1) (v2 : T2) (v4 : T4) (v5 : T5) (v6 : T6) (v7 : T7) (v8 : T8) (v9 : T9) (v10 : T10), P n v0 v1 v2 v4 v5 v6 v7 v8 v9 v10 → Ev (b rec v0 v1 v2 (nI n) v4 v5 v6 v7 v8 v9 v10) Q) : ∀ (N i : Nat) (v0 : T0) (v1 : T1) (v2 : T2) (v4 : T4) (v5 : T5) (v6 : T6) (v7 : T7) (v8 : T8) (v9 : T9) (v10 : T10), i ≤ n → n - i < N → P i v0 v1 v2 v4 v5 v6 v7 v8 v9 v10 → Ev (zl11 b N v0 v1 v2 (nI i) v4 v5 v6 v7 v8 v9 v10) Q := by
  intro N
  induction N with
  | zero => intro i v0 v1 v2 v4 v5 v6 v7 v8 v9 v10 _ h; omega
  | succ N ih =>
    intro i v0 v1 v2 v4 v5 v6 v7 v8 v9 v10 hi hN hP
    show Ev (b (zl11 b N) v0 v1 v2 (nI i) v4 v5 v6 v7 v8 v9 v10) Q
    rcases Nat.lt_or_ge i n with h | h
    · rcases hs (zl11 b N) i v0 v1 v2 v4 v5 v6 v7 v8 v9 v10 h hP with h1 | ⟨w0, w1, w2, w4, w5, w6, w7, w8, w9, w10, e, h2⟩
      · exact h1
      · rw [e]; exact ih (i + 1) w0 w1 w2 w4 w5 w6 w7 w8 w9 w10 h (by omega) h2
    · have e : i = n := by omega
      subst e
      exact he _ v0 v1 v2 v4 v5 v6 v7 v8 v9 v10 hP
theorem zl11g3 {T0 T1 T2 T4 T5 T6 T7 T8 T9 T10 Z : Type} {b : (T0 → T1 → T2 → Int32 → T4 → T5 → T6 → T7 → T8 → T9 → T10 → Option Z) → T0 → T1 → T2 → Int32 → T4 → T5 → T6 → T7 → T8 → T9 → T10 → Option Z} (J : Option Z → Prop) (n : Nat) (P : Nat → T0 → T1 → T2 → T4 → T5 → T6 → T7 → T8 → T9 → T10 → Prop) (hs : ∀ (rec : T0 → T1 → T2 → Int32 → T4 → T5 → T6 → T7 → T8 → T9 → T10 → Option Z) (i : Nat) (v0 : T0) (v1 : T1) (v2 : T2) (v4 : T4) (v5 : T5) (v6 : T6) (v7 : T7) (v8 : T8) (v9 : T9) (v10 : T10), i < n → P i v0 v1 v2 v4 v5 v6 v7 v8 v9 v10 → J (b rec v0 v1 v2 (nI i) v4 v5 v6 v7 v8 v9 v10) ∨ (∃ w0 w1 w2 w4 w5 w6 w7 w8 w9 w10, b rec v0 v1 v2 (nI i) v4 v5 v6 v7 v8 v9 v10 = rec w0 w1 w2 (nI (i + 1)) w4 w5 w6 w7 w8 w9 w10 ∧ P (i + 1) w0 w1 w2 w4 w5 w6 w7 w8 w9 w10)) (he : ∀ (rec : T0 → T1 → T2 → Int32 → T4 → T5 → T6 → T7 → T8 → T9 → T10 → Option Z) (v0 : T0) (v1 : T1) (v2 : T2) (v4 : T4) (v5 : T5) (v6 : T6) (v7 : T7) (v8 : T8) (v9 : T9) (v10 : T10), P n v0 v1 v2 v4 v5 v6 v7 v8 v9 v10 → J (b rec v0 v1 v2 (nI n) v4 v5 v6 v7 v8 v9 v10)) : ∀ (N i : Nat) (v0 : T0) (v1 : T1) (v2 : T2) (v4 : T4) (v5 : T5) (v6 : T6) (v7 : T7) (v8 : T8) (v9 : T9) (v10 : T10), i ≤ n → n - i < N → P i v0 v1 v2 v4 v5 v6 v7 v8 v9 v10 → J (zl11 b N v0 v1 v2 (nI i) v4 v5 v6 v7 v8 v9 v10) := by
  intro N
  induction N with
  | zero => intro i v0 v1 v2 v4 v5 v6 v7 v8 v9 v10 _ h; omega
  | succ N ih =>
    intro i v0 v1 v2 v4 v5 v6 v7 v8 v9 v10 hi hN hP
    show J (b (zl11 b N) v0 v1 v2 (nI i) v4 v5 v6 v7 v8 v9 v10)
    rcases Nat.lt_or_ge i n with h | h
    · rcases hs (zl11 b N) i v0 v1 v2 v4 v5 v6 v7 v8 v9 v10 h hP with h1 | ⟨w0, w1, w2, w4, w5, w6, w7, w8, w9, w10, e, h2⟩
      · exact h1
      · rw [e]; exact ih (i + 1) w0 w1 w2 w4 w5 w6 w7 w8 w9 w10 h (by omega) h2
    · have e : i = n := by omega
      subst e
      exact he _ v0 v1 v2 v4 v5 v6 v7 v8 v9 v10 hP
theorem zl11c4 {T0 T1 T2 T3 T5 T6 T7 T8 T9 T10 Z : Type} {b : (T0 → T1 → T2 → T3 → Int32 → T5 → T6 → T7 → T8 → T9 → T10 → Option Z) → T0 → T1 → T2 → T3 → Int32 → T5 → T6 → T7 → T8 → T9 → T10 → Option Z} {Q : Z → Prop} (n : Nat) (P : Nat → T0 → T1 → T2 → T3 → T5 → T6 → T7 → T8 → T9 → T10 → Prop) (hs : ∀ (rec : T0 → T1 → T2 → T3 → Int32 → T5 → T6 → T7 → T8 → T9 → T10 → Option Z) (i : Nat) (v0 : T0) (v1 : T1) (v2 : T2) (v3 : T3) (v5 : T5) (v6 : T6) (v7 : T7) (v8 : T8) (v9 : T9) (v10 : T10), i < n → P i v0 v1 v2 v3 v5 v6 v7 v8 v9 v10 → Ev (b rec v0 v1 v2 v3 (nI i) v5 v6 v7 v8 v9 v10) Q ∨ (∃ w0 w1 w2 w3 w5 w6 w7 w8 w9 w10, b rec v0 v1 v2 v3 (nI i) v5 v6 v7 v8 v9 v10 = rec w0 w1 w2 w3 (nI (i + 1)) w5 w6 w7 w8 w9 w10 ∧ P (i + 1) w0 w1 w2 w3 w5 w6 w7 w8 w9 w10)) (he : ∀ (rec : T0 → T1 → T2 → T3 → Int32 → T5 → T6 → T7 → T8 → T9 → T10 → Option Z) (v0 : T0) (v1 : T1) (v2 : T2) (v3 : T3) (v5 : T5) (v6 : T6) (v7 : T7) (v8 : T8) (v9 : T9) (v10 : T10), P n v0 v1 v2 v3 v5 v6 v7 v8 v9 v10 → Ev (b rec v0 v1 v2 v3 (nI n) v5 v6 v7 v8 v9 v10) Q) : ∀ (N i : Nat) (v0 : T0) (v1 : T1) (v2 : T2) (v3 : T3) (v5 : T5) (v6 : T6) (v7 : T7) (v8 : T8) (v9 : T9) (v10 : T10), i ≤ n → n - i < N → P i v0 v1 v2 v3 v5 v6 v7 v8 v9 v10 → Ev (zl11 b N v0 v1 v2 v3 (nI i) v5 v6 v7 v8 v9 v10) Q := by
  intro N
  induction N with
  | zero => intro i v0 v1 v2 v3 v5 v6 v7 v8 v9 v10 _ h; omega
  | succ N ih =>
    intro i v0 v1 v2 v3 v5 v6 v7 v8 v9 v10 hi hN hP
    show Ev (b (zl11 b N) v0 v1 v2 v3 (nI i) v5 v6 v7 v8 v9 v10) Q
    rcases Nat.lt_or_ge i n with h | h
    · rcases hs (zl11 b N) i v0 v1 v2 v3 v5 v6 v7 v8 v9 v10 h hP with h1 | ⟨w0, w1, w2, w3, w5, w6, w7, w8, w9, w10, e, h2⟩
      · exact h1
      · rw [e]; exact ih (i + 1) w0 w1 w2 w3 w5 w6 w7 w8 w9 w10 h (by omega) h2
    · have e : i = n := by omega
      subst e
      exact he _ v0 v1 v2 v3 v5 v6 v7 v8 v9 v10 hP
theorem zl11g4 {T0 T1 T2 T3 T5 T6 T7 T8 T9 T10 Z : Type} {b : (T0 → T1 → T2 → T3 → Int32 → T5 → T6 → T7 → T8 → T9 → T10 → Option Z) → T0 → T1 → T2 → T3 → Int32 → T5 → T6 → T7 → T8 → T9 → T10 → Option Z} (J : Option Z → Prop) (n : Nat) (P : Nat → T0 → T1 → T2 → T3 → T5 → T6 → T7 → T8 → T9 → T10 → Prop) (hs : ∀ (rec : T0 → T1 → T2 → T3 → Int32 → T5 → T6 → T7 → T8 → T9 → T10 → Option Z) (i : Nat) (v0 : T0) (v1 : T1) (v2 : T2) (v3 : T3) (v5 : T5) (v6 : T6) (v7 : T7) (v8 : T8) (v9 : T9) (v10 : T10), i < n → P i v0 v1 v2 v3 v5 v6 v7 v8 v9 v10 → J (b rec v0 v1 v2 v3 (nI i) v5 v6 v7 v8 v9 v10) ∨ (∃ w0 w1 w2 w3 w5 w6 w7 w8 w9 w10, b rec v0 v1 v2 v3 (nI i) v5 v6 v7 v8 v9 v10 = rec w0 w1 w2 w3 (nI (i + 1)) w5 w6 w7 w8 w9 w10 ∧ P (i + 1) w0 w1 w2 w3 w5 w6 w7 w8 w9 w10)) (he : ∀ (rec : T0 → T1 → T2 → T3 → Int32 → T5 → T6 → T7 → T8 → T9 → T10 → Option Z) (v0 : T0) (v1 : T1) (v2 : T2) (v3 : T3) (v5 : T5) (v6 : T6) (v7 : T7) (v8 : T8) (v9 : T9) (v10 : T10), P n v0 v1 v2 v3 v5 v6 v7 v8 v9 v10 → J (b rec v0 v1 v2 v3 (nI n) v5 v6 v7 v8 v9 v10)) : ∀ (N i : Nat) (v0 : T0) (v1 : T1) (v2 : T2) (v3 : T3) (v5 : T5) (v6 : T6) (v7 : T7) (v8 : T8) (v9 : T9) (v10 : T10), i ≤ n → n - i < N → P i v0 v1 v2 v3 v5 v6 v7 v8 v9 v10 → J (zl11 b N v0 v1 v2 v3 (nI i) v5 v6 v7 v8 v9 v10) := by
  intro N
  induction N with
  | zero => intro i v0 v1 v2 v3 v5 v6 v7 v8 v9 v10 _ h; omega
  | succ N ih =>
    intro i v0 v1 v2 v3 v5 v6 v7 v8 v9 v10 hi hN hP
    show J (b (zl11 b N) v0 v1 v2 v3 (nI i) v5 v6 v7 v8 v9 v10)
    rcases Nat.lt_or_ge i n with h | h
    · rcases hs (zl11 b N) i v0 v1 v2 v3 v5 v6 v7 v8 v9 v10 h hP with h1 | ⟨w0, w1, w2, w3, w5, w6, w7, w8, w9, w10, e, h2⟩
      · exact h1
      · rw [e]; exact ih (i + 1) w0 w1 w2 w3 w5 w6 w7 w8 w9 w10 h (by omega) h2
    · have e : i = n := by omega
      subst e
      exact he _ v0 v1 v2 v3 v5 v6 v7 v8 v9 v10 hP
theorem zl11c5 {T0 T1 T2 T3 T4 T6 T7 T8 T9 T10 Z : Type} {b : (T0 → T1 → T2 → T3 → T4 → Int32 → T6 → T7 → T8 → T9 → T10 → Option Z) → T0 → T1 → T2 → T3 → T4 → Int32 → T6 → T7 → T8 → T9 → T10 → Option Z} {Q : Z → Prop} (n : Nat) (P : Nat → T0 → T1 → T2 → T3 → T4 → T6 → T7 → T8 → T9 → T10 → Prop) (hs : ∀ (rec : T0 → T1 → T2 → T3 → T4 → Int32 → T6 → T7 → T8 → T9 → T10 → Option Z) (i : Nat) (v0 : T0) (v1 : T1) (v2 : T2) (v3 : T3) (v4 : T4) (v6 : T6) (v7 : T7) (v8 : T8) (v9 : T9) (v10 : T10), i < n → P i v0 v1 v2 v3 v4 v6 v7 v8 v9 v10 → Ev (b rec v0 v1 v2 v3 v4 (nI i) v6 v7 v8 v9 v10) Q ∨ (∃ w0 w1 w2 w3 w4 w6 w7 w8 w9 w10, b rec v0 v1 v2 v3 v4 (nI i) v6 v7 v8 v9 v10 = rec w0 w1 w2 w3 w4 (nI (i + 1)) w6 w7 w8 w9 w10 ∧ P (i + 1) w0 w1 w2 w3 w4 w6 w7 w8 w9 w10)) (he : ∀ (rec : T0 → T1 → T2 → T3 → T4 → Int32 → T6 → T7 → T8 → T9 → T10 → Option Z) (v0 : T0) (v1 : T1) (v2 : T2) (v3 : T3) (v4 : T4) (v6 : T6) (v7 : T7) (v8 : T8) (v9 : T9) (v10 : T10), P n v0 v1 v2 v3 v4 v6 v7 v8 v9 v10 → Ev (b rec v0 v1 v2 v3 v4 (nI n) v6 v7 v8 v9 v10) Q) : ∀ (N i : Nat) (v0 : T0) (v1 : T1) (v2 : T2) (v3 : T3) (v4 : T4) (v6 : T6) (v7 : T7) (v8 : T8) (v9 : T9) (v10 : T10), i ≤ n → n - i < N → P i v0 v1 v2 v3 v4 v6 v7 v8 v9 v10 → Ev (zl11 b N v0 v1 v2 v3 v4 (nI i) v6 v7 v8 v9 v10) Q := by
  intro N
  induction N with
  | zero => intro i v0 v1 v2 v3 v4 v6 v7 v8 v9 v10 _ h; omega
  | succ N ih =>
    intro i v0 v1 v2 v3 v4 v6 v7 v8 v9 v10 hi hN hP
    show Ev (b (zl11 b N) v0 v1 v2 v3 v4 (nI i) v6 v7 v8 v9 v10) Q
    rcases Nat.lt_or_ge i n with h | h
    · rcases hs (zl11 b N) i v0 v1 v2 v3 v4 v6 v7 v8 v9 v10 h hP with h1 | ⟨w0, w1, w2, w3, w4, w6, w7, w8, w9, w10, e, h2⟩
      · exact h1
      · rw [e]; exact ih (i + 1) w0 w1 w2 w3 w4 w6 w7 w8 w9 w10 h (by omega) h2
    · have e : i = n := by omega
      subst e
      exact he _ v0 v1 v2 v3 v4 v6 v7 v8 v9 v10 hP
theorem zl11g5 {T0 T1 T2 T3 T4 T6 T7 T8 T9 T10 Z : Type} {b : (T0 → T1 → T2 → T3 → T4 → Int32 → T6 → T7 → T8 → T9 → T10 → Option Z) → T0 → T1 → T2 → T3 → T4 → Int32 → T6 → T7 → T8 → T9 → T10 → Option Z} (J : Option Z → Prop) (n : Nat) (P : Nat → T0 → T1 → T2 → T3 → T4 → T6 → T7 → T8 → T9 → T10 → Prop) (hs : ∀ (rec : T0 → T1 → T2 → T3 → T4 → Int32 → T6 → T7 → T8 → T9 → T10 → Option Z) (i : Nat) (v0 : T0) (v1 : T1) (v2 : T2) (v3 : T3) (v4 : T4) (v6 : T6) (v7 : T7) (v8 : T8) (v9 : T9) (v10 : T10), i < n → P i v0 v1 v2 v3 v4 v6 v7 v8 v9 v10 → J (b rec v0 v1 v2 v3 v4 (nI i) v6 v7 v8 v9 v10) ∨ (∃ w0 w1 w2 w3 w4 w6 w7 w8 w9 w10, b rec v0 v1 v2 v3 v4 (nI i) v6 v7 v8 v9 v10 = rec w0 w1 w2 w3 w4 (nI (i + 1)) w6 w7 w8 w9 w10 ∧ P (i + 1) w0 w1 w2 w3 w4 w6 w7 w8 w9 w10)) (he : ∀ (rec : T0 → T1 → T2 → T3 → T4 → Int32 → T6 → T7 → T8 → T9 → T10 → Option Z) (v0 : T0) (v1 : T1) (v2 : T2) (v3 : T3) (v4 : T4) (v6 : T6) (v7 : T7) (v8 : T8) (v9 : T9) (v10 : T10), P n v0 v1 v2 v3 v4 v6 v7 v8 v9 v10 → J (b rec v0 v1 v2 v3 v4 (nI n) v6 v7 v8 v9 v10)) : ∀ (N i : Nat) (v0 : T0) (v1 : T1) (v2 : T2) (v3 : T3) (v4 : T4) (v6 : T6) (v7 : T7) (v8 : T8) (v9 : T9) (v10 : T10), i ≤ n → n - i < N → P i v0 v1 v2 v3 v4 v6 v7 v8 v9 v10 → J (zl11 b N v0 v1 v2 v3 v4 (nI i) v6 v7 v8 v9 v10) := by
  intro N
  induction N with
  | zero => intro i v0 v1 v2 v3 v4 v6 v7 v8 v9 v10 _ h; omega
  | succ N ih =>
    intro i v0 v1 v2 v3 v4 v6 v7 v8 v9 v10 hi hN hP
    show J (b (zl11 b N) v0 v1 v2 v3 v4 (nI i) v6 v7 v8 v9 v10)
    rcases Nat.lt_or_ge i n with h | h
    · rcases hs (zl11 b N) i v0 v1 v2 v3 v4 v6 v7 v8 v9 v10 h hP with h1 | ⟨w0, w1, w2, w3, w4, w6, w7, w8, w9, w10, e, h2⟩
      · exact h1
      · rw [e]; exact ih (i + 1) w0 w1 w2 w3 w4 w6 w7 w8 w9 w10 h (by omega) h2
    · have e : i = n := by omega
      subst e
      exact he _ v0 v1 v2 v3 v4 v6 v7 v8 v9 v10 hP
theorem zl11c6 {T0 T1 T2 T3 T4 T5 T7 T8 T9 T10 Z : Type} {b : (T0 → T1 → T2 → T3 → T4 → T5 → Int32 → T7 → T8 → T9 → T10 → Option Z) → T0 → T1 → T2 → T3 → T4 → T5 → Int32 → T7 → T8 → T9 → T10 → Option Z} {Q : Z → Prop} (n : Nat) (P : Nat → T0 → T1 → T2 → T3 → T4 → T5 → T7 → T8 → T9 → T10 → Prop) (hs : ∀ (rec : T0 → T1 → T2 → T3 → T4 → T5 → Int32 → T7 → T8 → T9 → T10 → Option Z) (i : Nat) (v0 : T0) (v1 : T1) (v2 : T2) (v3 : T3) (v4 : T4) (v5 : T5) (v7 : T7) (v8 : T8) (v9 : T9) (v10 : T10), i < n → P i v0 v1 v2 v3 v4 v5 v7 v8 v9 v10 → Ev (b rec v0 v1 v2 v3 v4 v5 (nI i) v7 v8 v9 v10) Q ∨ (∃ w0 w1 w2 w3 w4 w5 w7 w8 w9 w10, b rec v0 v1 v2 v3 v4 v5 (nI i) v7 v8 v9 v10 = rec w0 w1 w2 w3 w4 w5 (nI (i + 1)) w7 w8 w9 w10 ∧ P (i + 1) w0 w1 w2 w3 w4 w5 w7 w8 w9 w10)) (he : ∀ (rec : T0 → T1 → T2 → T3 → T4 → T5 → Int32 → T7 → T8 → T9 → T10 → Option Z) (v0 : T0) (v1 : T1) (v2 : T2) (v3 : T3) (v4 : T4) (v5 : T5) (v7 : T7) (v8 : T8) (v9 : T9) (v10 : T10), P n v0 v1 v2 v3 v4 v5 v7 v8 v9 v10 → Ev (b rec v0 v1 v2 v3 v4 v5 (nI n) v7 v8 v9 v10) Q) : ∀ (N i : Nat) (v0 : T0) (v1 : T1) (v2 : T2) (v3 : T3) (v4 : T4) (v5 : T5) (v7 : T7) (v8 : T8) (v9 : T9) (v10 : T10), i ≤ n → n - i < N → P i v0 v1 v2 v3 v4 v5 v7 v8 v9 v10 → Ev (zl11 b N v0 v1 v2 v3 v4 v5 (nI i) v7 v8 v9 v10) Q := by
  intro N
  induction N with
  | zero => intro i v0 v1 v2 v3 v4 v5 v7 v8 v9 v10 _ h; omega
  | succ N ih =>
    intro i v0 v1 v2 v3 v4 v5 v7 v8 v9 v10 hi hN hP
    show Ev (b (zl11 b N) v0 v1 v2 v3 v4 v5 (nI i) v7 v8 v9 v10) Q
    rcases Nat.lt_or_ge i n with h | h
    · rcases hs (zl11 b N) i v0 v1 v2 v3 v4 v5 v7 v8 v9 v10 h hP with h1 | ⟨w0, w1, w2, w3, w4, w5, w7, w8, w9, w10, e, h2⟩
      · exact h1
      · rw [e]; exact ih (i + 1) w0 w1 w2 w3 w4 w5 w7 w8 w9 w10 h (by omega) h2
    · have e : i = n := by omega
      subst e
      exact he _ v0 v1 v2 v3 v4 v5 v7 v8 v9 v10 hP
theorem zl11g6 {T0 T1 T2 T3 T4 T5 T7 T8 T9 T10 Z : Type} {b : (T0 → T1 → T2 → T3 → T4 → T5 → Int32 → T7 → T8 → T9 → T10 → Option Z) → T0 → T1 → T2 → T3 → T4 → T5 → Int32 → T7 → T8 → T9 → T10 → Option Z} (J : Option Z → Prop) (n : Nat) (P : Nat → T0 → T1 → T2 → T3 → T4 → T5 → T7 → T8 → T9 → T10 → Prop) (hs : ∀ (rec : T0 → T1 → T2 → T3 → T4 → T5 → Int32 → T7 → T8 → T9 → T10 → Option Z) (i : Nat) (v0 : T0) (v1 : T1) (v2 : T2) (v3 : T3) (v4 : T4) (v5 : T5) (v7 : T7) (v8 : T8) (v9 : T9) (v10 : T10), i < n → P i v0 v1 v2 v3 v4 v5 v7 v8 v9 v10 → J (b rec v0 v1 v2 v3 v4 v5 (nI i) v7 v8 v9 v10) ∨ (∃ w0 w1 w2 w3 w4 w5 w7 w8 w9 w10, b rec v0 v1 v2 v3 v4 v5 (nI i) v7 v8 v9 v10 = rec w0 w1 w2 w3 w4 w5 (nI (i + 1)) w7 w8 w9 w10 ∧ P (i + 1) w0 w1 w2 w3 w4 w5 w7 w8 w9 w10)) (he : ∀ (rec : T0 → T1 → T2 → T3 → T4 → T5 → Int32 → T7 → T8 → T9 → T10 → Option Z) (v0 : T0) (v1 : T1) (v2 : T2) (v3 : T3) (v4 : T4) (v5 : T5) (v7 : T7) (v8 : T8) (v9 : T9) (v10 : T10), P n v0 v1 v2 v3 v4 v5 v7 v8 v9 v10 → J (b rec v0 v1 v2 v3 v4 v5 (nI n) v7 v8 v9 v10)) : ∀ (N i : Nat) (v0 : T0) (v1 : T1) (v2 : T2) (v3 : T3) (v4 : T4) (v5 : T5) (v7 : T7) (v8 : T8) (v9 : T9) (v10 : T10), i ≤ n → n - i < N → P i v0 v1 v2 v3 v4 v5 v7 v8 v9 v10 → J (zl11 b N v0 v1 v2 v3 v4 v5 (nI i) v7 v8 v9 v10) := by
  intro N
  induction N with
  | zero => intro i v0 v1 v2 v3 v4 v5 v7 v8 v9 v10 _ h; omega
  | succ N ih =>
    intro i v0 v1 v2 v3 v4 v5 v7 v8 v9 v10 hi hN hP
    show J (b (zl11 b N) v0 v1 v2 v3 v4 v5 (nI i) v7 v8 v9 v10)
    rcases Nat.lt_or_ge i n with h | h
    · rcases hs (zl11 b N) i v0 v1 v2 v3 v4 v5 v7 v8 v9 v10 h hP with h1 | ⟨w0, w1, w2, w3, w4, w5, w7, w8, w9, w10, e, h2⟩
      · exact h1
      · rw [e]; exact ih (i + 1) w0 w1 w2 w3 w4 w5 w7 w8 w9 w10 h (by omega) h2
    · have e : i = n := by omega
      subst e
      exact he _ v0 v1 v2 v3 v4 v5 v7 v8 v9 v10 hP
theorem zl11c7 {T0 T1 T2 T3 T4 T5 T6 T8 T9 T10 Z : Type} {b : (T0 → T1 → T2 → T3 → T4 → T5 → T6 → Int32 → T8 → T9 → T10 → Option Z) → T0 → T1 → T2 → T3 → T4 → T5 → T6 → Int32 → T8 → T9 → T10 → Option Z} {Q : Z → Prop} (n : Nat) (P : Nat → T0 → T1 → T2 → T3 → T4 → T5 → T6 → T8 → T9 → T10 → Prop) (hs : ∀ (rec : T0 → T1 → T2 → T3 → T4 → T5 → T6 → Int32 → T8 → T9 → T10 → Option Z) (i : Nat) (v0 : T0) (v1 : T1) (v2 : T2) (v3 : T3) (v4 : T4) (v5 : T5) (v6 : T6) (v8 : T8) (v9 : T9) (v10 : T10), i < n → P i v0 v1 v2 v3 v4 v5 v6 v8 v9 v10 → Ev (b rec v0 v1 v2 v3 v4 v5 v6 (nI i) v8 v9 v10) Q ∨ (∃ w0 w1 w2 w3 w4 w5 w6 w8 w9 w10, b rec v0 v1 v2 v3 v4 v5 v6 (nI i) v8 v9 v10 = rec w0 w1 w2 w3 w4 w5 w6 (nI (i + 1)) w8 w9 w10 ∧ P (i + 1) w0 w1 w2 w3 w4 w5 w6 w8 w9 w10)) (he : ∀ (rec : T0 → T1 → T2 → T3 → T4 → T5 → T6 → Int32 → T8 → T9 → T10 → Option Z) (v0 : T0) (v1 : T1) (v2 : T2) (v3 : T3) (v4 : T4) (v5 : T5) (v6 : T6) (v8 : T8) (v9 : T9) (v10 : T10), P n v0 v1 v2 v3 v4 v5 v6 v8 v9 v10 → Ev (b rec v0 v1 v2 v3 v4 v5 v6 (nI n) v8 v9 v10) Q) : ∀ (N i : Nat) (v0 : T0) (v1 : T1) (v2 : T2) (v3 : T3) (v4 : T4) (v5 : T5) (v6 : T6) (v8 : T8) (v9 : T9) (v10 : T10), i ≤ n → n - i < N → P i v0 v1 v2 v3 v4 v5 v6 v8 v9 v10 → Ev (zl11 b N v0 v1 v2 v3 v4 v5 v6 (nI i) v8 v9 v10) Q := by
  intro N
  induction N with
  | zero => intro i v0 v1 v2 v3 v4 v5 v6 v8 v9 v10 _ h; omega
  | succ N ih =>
    intro i v0 v1 v2 v3 v4 v5 v6 v8 v9 v10 hi hN hP
    show Ev (b (zl11 b N) v0 v1 v2 v3 v4 v5 v6 (nI i) v8 v9 v10) Q
    rcases Nat.lt_or_ge i n with h | h
    · rcases hs (zl11 b N) i v0 v1 v2 v3 v4 v5 v6 v8 v9 v10 h hP with h1 | ⟨w0, w1, w2, w3, w4, w5, w6, w8, w9, w10, e, h2⟩
      · exact h1
      · rw [e]; exact ih (i + 1) w0 w1 w2 w3 w4 w5 w6 w8 w9 w10 h (by omega) h2
    · have e : i = n := by omega
      subst e
      exact he _ v0 v1 v2 v3 v4 v5 v6 v8 v9 v10 hP
theorem zl11g7 {T0 T1 T2 T3 T4 T5 T6 T8 T9 T10 Z : Type} {b : (T0 → T1 → T2 → T3 → T4 → T5 → T6 → Int32 → T8 → T9 → T10 → Option Z) → T0 → T1 → T2 → T3 → T4 → T5 → T6 → Int32 → T8 → T9 → T10 → Option Z} (J : Option Z → Prop) (n : Nat) (P : Nat → T0 → T1 → T2 → T3 → T4 → T5 → T6 → T8 → T9 → T10 → Prop) (hs : ∀ (rec : T0 → T1 → T2 → T3 → T4 → T5 → T6 → Int32 → T8 → T9 → T10 → Option Z) (i : Nat) (v0 : T0) (v1 : T1) (v2 : T2) (v3 : T3) (v4 : T4) (v5 : T5) (v6 : T6) (v8 : T8) (v9 : T9) (v10 : T10), i < n → P i v0 v1 v2 v3 v4 v5 v6 v8 v9 v10 → J (b rec v0 v1 v2 v3 v4 v5 v6 (nI i) v8 v9 v10) ∨ (∃ w0 w1 w2 w3 w4 w5 w6 w8 w9 w10, b rec v0 v1 v2 v3 v4 v5 v6 (nI i) v8 v9 v10 = rec w0 w1 w2 w3 w4 w5 w6 (nI (i + 1)) w8 w9 w10 ∧ P (i + 1) w0 w1 w2 w3 w4 w5 w6 w8 w9 w10)) (he : ∀ (rec : T0 → T1 → T2 → T3 → T4 → T5 → T6 → Int32 → T8 → T9 → T10 → Option Z) (v0 : T0) (v1 : T1) (v2 : T2) (v3 : T3) (v4 : T4) (v5 : T5) (v6 : T6) (v8 : T8) (v9 : T9) (v10 : T10), P n v0 v1 v2 v3 v4 v5 v6 v8 v9 v10 → J (b rec v0 v1 v2 v3 v4 v5 v6 (nI n) v8 v9 v10)) : ∀ (N i : Nat) (v0 : T0) (v1 : T1) (v2 : T2) (v3 : T3) (v4 : T4) (v5 : T5) (v6 : T6) (v8 : T8) (v9 : T9) (v10 : T10), i ≤ n → n - i < N → P i v0 v1 v2 v3 v4 v5 v6 v8 v9 v10 → J (zl11 b N v0 v1 v2 v3 v4 v5 v6 (nI i) v8 v9 v10) := by
  intro N
  induction N with
  | zero => intro i v0 v1 v2 v3 v4 v5 v6 v8 v9 v10 _ h; omega
  | succ N ih =>
    intro i v0 v1 v2 v3 v4 v5 v6 v8 v9 v10 hi hN hP
    show J (b (zl11 b N) v0 v1 v2 v3 v4 v5 v6 (nI i) v8 v9 v10)
    rcases Nat.lt_or_ge i n with h | h
    · rcases hs (zl11 b N) i v0 v1 v2 v3 v4 v5 v6 v8 v9 v10 h hP with h1 | ⟨w0, w1, w2, w3, w4, w5, w6, w8, w9, w10, e, h2⟩
      · exact h1
      · rw [e]; exact ih (i + 1) w0 w1 w2 w3 w4 w5 w6 w8 w9 w10 h (by omega) h2
    · have e : i = n := by omega
      subst e
      exact he _ v0 v1 v2 v3 v4 v5 v6 v8 v9 v10 hP
theorem zl11c8 {T0 T1 T2 T3 T4 T5 T6 T7 T9 T10 Z : Type} {b : (T0 → T1 → T2 → T3 → T4 → T5 → T6 → T7 → Int32 → T9 → T10 → Option Z) → T0 → T1 → T2 → T3 → T4 → T5 → T6 → T7 → Int32 → T9 → T10 → Option Z} {Q : Z → Prop} (n : Nat) (P : Nat → T0 → T1 → T2 → T3 → T4 → T5 → T6 → T7 → T9 → T10 → Prop) (hs : ∀ (rec : T0 → T1 → T2 → T3 → T4 → T5 → T6 → T7 → Int32 → T9 → T10 → Option Z) (i : Nat) (v0 : T0) (v1 : T1) (v2 : T2) (v3 : T3) (v4 : T4) (v5 : T5) (v6 : T6) (v7 : T7) (v9 : T9) (v10 : T10), i < n → P i v0 v1 v2 v3 v4 v5 v6 v7 v9 v10 → Ev (b rec v0 v1 v2 v3 v4 v5 v6 v7 (nI i) v9 v10) Q ∨ (∃ w0 w1 w2 w3 w4 w5 w6 w7 w9 w10, b rec v0 v1 v2 v3 v4 v5 v6 v7 (nI i) v9 v10 = rec w0 w1 w2 w3 w4 w5 w6 w7 (nI (i + 1)) w9 w10 ∧ P (i + 1) w0 w1 w2 w3 w4 w5 w6 w7 w9 w10)) (he : ∀ (rec : T0 → T1 → T2 → T3 → T4 → T5 → T6 → T7 → Int32 → T9 → T10 → Option Z) (v0 : T0) (v1 : T1) (v2 : T2) (v3 : T3) (v4 : T4) (v5 : T5) (v6 : T6) (v7 : T7) (v9 : T9) (v10 : T10), P n v0 v1 v2 v3 v4 v5 v6 v7 v9 v10 → Ev (b rec v0 v1 v2 v3 v4 v5 v6 v7 (nI n) v9 v10) Q) : ∀ (N i : Nat) (v0 : T0) (v1 : T1) (v2 : T2) (v3 : T3) (v4 : T4) (v5 : T5) (v6 : T6) (v7 : T7) (v9 : T9) (v10 : T10), i ≤ n → n - i < N → P i v0 v1 v2 v3 v4 v5 v6 v7 v9 v10 → Ev (zl11 b N v0 v1 v2 v3 v4 v5 v6 v7 (nI i) v9 v10) Q := by
  intro N
  induction N with
  | zero => intro i v0 v1 v2 v3 v4 v5 v6 v7 v9 v10 _ h; omega
  | succ N ih =>
    intro i v0 v1 v2 v3 v4 v5 v6 v7 v9 v10 hi hN hP
    show Ev (b (zl11 b N) v0 v1 v2 v3 v4 v5 v6 v7 (nI i) v9 v10) Q
    rcases Nat.lt_or_ge i n with h | h
    · rcases hs (zl11 b N) i v0 v1 v2 v3 v4 v5 v6 v7 v9 v10 h hP with h1 | ⟨w0, w1, w2, w3, w4, w5, w6, w7, w9, w10, e, h2⟩
      · exact h1
      · rw [e]; exact ih (i + 1) w0 w1 w2 w3 w4 w5 w6 w7 w9 w10 h (by omega) h2
    · have e : i = n := by omega
      subst e
      exact he _ v0 v1 v2 v3 v4 v5 v6 v7 v9 v10 hP
theorem zl11g8 {T0 T1 T2 T3 T4 T5 T6 T7 T9 T10 Z : Type} {b : (T0 → T1 → T2 → T3 → T4 → T5 → T6 → T7 → Int32 → T9 → T10 → Option Z) → T0 → T1 → T2 → T3 → T4 → T5 → T6 → T7 → Int32 → T9 → T10 → Option Z} (J : Option Z → Prop) (n : Nat) (P : Nat → T0 → T1 → T2 → T3 → T4 → T5 → T6 → T7 → T9 → T10 → Prop) (hs : ∀ (rec : T0 → T1 → T2 → T3 → T4 → T5 → T6 → T7 → Int32 → T9 → T10 → Option Z) (i : Nat) (v0 : T0) (v1 : T1) (v2 : T2) (v3 : T3) (v4 : T4) (v5 : T5) (v6 : T6) (v7 : T7) (v9 : T9) (v10 : T10), i < n → P i v0 v1 v2 v3 v4 v5 v6 v7 v9 v10 → J (b rec v0 v1 v2 v3 v4 v5 v6 v7 (nI i) v9 v10) ∨ (∃ w0 w1 w2 w3 w4 w5 w6 w7 w9 w10, b rec v0 v1 v2 v3 v4 v5 v6 v7 (nI i) v9 v10 = rec w0 w1 w2 w3 w4 w5 w6 w7 (nI (i + 1)) w9 w10 ∧ P (i + 1) w0 w1 w2 w3 w4 w5 w6 w7 w9 w10)) (he : ∀ (rec : T0 → T1 → T2 → T3 → T4 → T5 → T6 → T7 → Int32 → T9 → T10 → Option Z) (v0 : T0) (v1 : T1) (v2 : T2) (v3 : T3) (v4 : T4) (v5 : T5) (v6 : T6) (v7 : T7) (v9 : T9) (v10 : T10), P n v0 v1 v2 v3 v4 v5 v6 v7 v9 v10 → J (b rec v0 v1 v2 v3 v4 v5 v6 v7 (nI n) v9 v10)) : ∀ (N i : Nat) (v0 : T0) (v1 : T1) (v2 : T2) (v3 : T3) (v4 : T4) (v5 : T5) (v6 : T6) (v7 : T7) (v9 : T9) (v10 : T10), i ≤ n → n - i < N → P i v0 v1 v2 v3 v4 v5 v6 v7 v9 v10 → J (zl11 b N v0 v1 v2 v3 v4 v5 v6 v7 (nI i) v9 v10) := by
  intro N
  induction N with
  | zero => intro i v0 v1 v2 v3 v4 v5 v6 v7 v9 v10 _ h; omega
  | succ N ih =>
    intro i v0 v1 v2 v3 v4 v5 v6 v7 v9 v10 hi hN hP
    show J (b (zl11 b N) v0 v1 v2 v3 v4 v5 v6 v7 (nI i) v9 v10)
    rcases Nat.lt_or_ge i n with h | h
    · rcases hs (zl11 b N) i v0 v1 v2 v3 v4 v5 v6 v7 v9 v10 h hP with h1 | ⟨w0, w1, w2, w3, w4, w5, w6, w7, w9, w10, e, h2⟩
      · exact h1
      · rw [e]; exact ih (i + 1) w0 w1 w2 w3 w4 w5 w6 w7 w9 w10 h (by omega) h2
    · have e : i = n := by omega
      subst e
      exact he _ v0 v1 v2 v3 v4 v5 v6 v7 v9 v10 hP
theorem zl11c9 {T0 T1 T2 T3 T4 T5 T6 T7 T8 T10 Z : Type} {b : (T0 → T1 → T2 → T3 → T4 → T5 → T6 → T7 → T8 → Int32 → T10 → Option Z) → T0 → T1 → T2 → T3 → T4 → T5 → T6 → T7 → T8 → Int32 → T10 → Option Z} {Q : Z → Prop} (n : Nat) (P : Nat → T0 → T1 → T2 → T3 → T4 → T5 → T6 → T7 → T8 → T10 → Prop) (hs : ∀ (rec : T0 → T1 → T2 → T3 → T4 → T5 → T6 → T7 → T8 → Int32 → T10 → Option Z) (i : Nat) (v0 : T0) (v1 : T1) (v2 : T2) (v3 : T3) (v4 : T4) (v5 : T5) (v6 : T6) (v7 : T7) (v8 : T8) (v10 : T10), i < n → P i v0 v1 v2 v3 v4 v5 v6 v7 v8 v10 → Ev (b rec v0 v1 v2 v3 v4 v5 v6 v7 v8 (nI i) v10) Q ∨ (∃ w0 w1 w2 w3 w4 w5 w6 w7 w8 w10, b rec v0 v1 v2 v3 v4 v5 v6 v7 v8 (nI i) v10 = rec w0 w1 w2 w3 w4 w5 w6 w7 w8 (nI (i + 1)) w10 ∧ P (i + 1) w0 w1 w2 w3 w4 w5 w6 w7 w8 w10)) (he : ∀ (rec : T0 → T1 → T2 → T3 → T4 → T5 → T6 → T7 → T8 → Int32 → T10 → Option Z) (v0 : T0) (v1 : T1) (v2 : T2) (v3 : T3) (v4 : T4) (v5 : T5) (v6 : T6) (v7 : T7) (v8 : T8) (v10 : T10), P n v0 v1 v2 v3 v4 v5 v6 v7 v8 v10 → Ev (b rec v0 v1 v2 v3 v4 v5 v6 v7 v8 (nI n) v10) Q) : ∀ (N i : Nat) (v0 : T0) (v1 : T1) (v2 : T2) (v3 : T3) (v4 : T4) (v5 : T5) (v6 : T6) (v7 : T7) (v8 : T8) (v10 : T10), i ≤ n → n - i < N → P i v0 v1 v2 v3 v4 v5 v6 v7 v8 v10 → Ev (zl11 b N v0 v1 v2 v3 v4 v5 v6 v7 v8 (nI i) v10) Q := by
  intro N
  induction N with
  | zero => intro i v0 v1 v2 v3 v4 v5 v6 v7 v8 v10 _ h; omega
  | succ N ih =>
    intro i v0 v1 v2 v3 v4 v5 v6 v7 v8 v10 hi hN hP
    show Ev (b (zl11 b N) v0 v1 v2 v3 v4 v5 v6 v7 v8 (nI i) v10) Q
    rcases Nat.lt_or_ge i n with h | h
    · rcases hs (zl11 b N) i v0 v1 v2 v3 v4 v5 v6 v7 v8 v10 h hP with h1 | ⟨w0, w1, w2, w3, w4, w5, w6, w7, w8, w10, e, h2⟩
      · exact h1
      · rw [e]; exact ih (i + 1) w0 w1 w2 w3 w4 w5 w6 w7 w8 w10 h (by omega) h2
    · have e : i = n := by omega
      subst e
      exact he _ v0 v1 v2 v3 v4 v5 v6 v7 v8 v10 hP
theorem zl11g9 {T0 T1 T2 T3 T4 T5 T6 T7 T8 T10 Z : Type} {b : (T0 → T1 → T2 → T3 → T4 → T5 → T6 → T7 → T8 → Int32 → T10 → Option Z) → T0 → T1 → T2 → T3 → T4 → T5 → T6 → T7 → T8 → Int32 → T10 → Option Z} (J : Option Z → Prop) (n : Nat) (P : Nat → T0 → T1 → T2 → T3 → T4 → T5 → T6 → T7 → T8 → T10 → Prop) (hs : ∀ (rec : T0 → T1 → T2 → T3 → T4 → T5 → T6 → T7 → T8 → Int32 → T10 → Option Z) (i : Nat) (v0 : T0) (v1 : T1) (v2 : T2) (v3 : T3) (v4 : T4) (v5 : T5) (v6 : T6) (v7 : T7) (v8 : T8) (v10 : T10), i < n → P i v0 v1 v2 v3 v4 v5 v6 v7 v8 v10 → J (b rec v0 v1 v2 v3 v4 v5 v6 v7 v8 (nI i) v10) ∨ (∃ w0 w1 w2 w3 w4 w5 w6 w7 w8 w10, b rec v0 v1 v2 v3 v4 v5 v6 v7 v8 (nI i) v10 = rec w0 w1 w2 w3 w4 w5 w6 w7 w8 (nI (i + 1)) w10 ∧ P (i + 1) w0 w1 w2 w3 w4 w5 w6 w7 w8 w10)) (he : ∀ (rec : T0 → T1 → T2 → T3 → T4 → T5 → T6 → T7 → T8 → Int32 → T10 → Option Z) (v0 : T0) (v1 : T1) (v2 : T2) (v3 : T3) (v4 : T4) (v5 : T5) (v6 : T6) (v7 : T7) (v8 : T8) (v10 : T10), P n v0 v1 v2 v3 v4 v5 v6 v7 v8 v10 → J (b rec v0 v1 v2 v3 v4 v5 v6 v7 v8 (nI n) v10)) : ∀ (N i : Nat) (v0 : T0) (v1 : T1) (v2 : T2) (v3 : T3) (v4 : T4) (v5 : T5) (v6 : T6) (v7 : T7) (v8 : T8) (v10 : T10), i ≤ n → n - i < N → P i v0 v1 v2 v3 v4 v5 v6 v7 v8 v10 → J (zl11 b N v0 v1 v2 v3 v4 v5 v6 v7 v8 (nI i) v10) := by
  intro N
  induction N with
  | zero => intro i v0 v1 v2 v3 v4 v5 v6 v7 v8 v10 _ h; omega
  | succ N ih =>
    intro i v0 v1 v2 v3 v4 v5 v6 v7 v8 v10 hi hN hP
    show J (b (zl11 b N) v0 v1 v2 v3 v4 v5 v6 v7 v8 (nI i) v10)
    rcases Nat.lt_or_ge i n with h | h
    · rcases hs (zl11 b N) i v0 v1 v2 v3 v4 v5 v6 v7 v8 v10 h hP with h1 | ⟨w0, w1, w2, w3, w4, w5, w6, w7, w8, w10, e, h2⟩
      · exact h1
      · rw [e]; exact ih (i + 1) w0 w1 w2 w3 w4 w5 w6 w7 w8 w10 h (by omega) h2
    · have e : i = n := by omega
      subst e
      exact he _ v0 v1 v2 v3 v4 v5 v6 v7 v8 v10 hP
theorem zl11c10 {T0 T1 T2 T3 T4 T5 T6 T7 T8 T9 Z : Type} {b : (T0 → T1 → T2 → T3 → T4 → T5 → T6 → T7 → T8 → T9 → Int32 → Option Z) → T0 → T1 → T2 → T3 → T4 → T5 → T6 → T7 → T8 → T9 → Int32 → Option Z} {Q : Z → Prop} (n : Nat) (P : Nat → T0 → T1 → T2 → T3 → T4 → T5 → T6 → T7 → T8 → T9 → Prop) (hs : ∀ (rec : T0 → T1 → T2 → T3 → T4 → T5 → T6 → T7 → T8 → T9 → Int32 → Option Z) (i : Nat) (v0 : T0) (v1 : T1) (v2 : T2) (v3 : T3) (v4 : T4) (v5 : T5) (v6 : T6) (v7 : T7) (v8 : T8) (v9 : T9), i < n → P i v0 v1 v2 v3 v4 v5 v6 v7 v8 v9 → Ev (b rec v0 v1 v2 v3 v4 v5 v6 v7 v8 v9 (nI i)) Q ∨ (∃ w0 w1 w2 w3 w4 w5 w6 w7 w8 w9, b rec v0 v1 v2 v3 v4 v5 v6 v7 v8 v9 (nI i) = rec w0 w1 w2 w3 w4 w5 w6 w7 w8 w9 (nI (i + 1)) ∧ P (i + 1) w0 w1 w2 w3 w4 w5 w6 w7 w8 w9)) (he : ∀ (rec : T0 → T1 → T2 → T3 → T4 → T5 → T6 → T7 → T8 → T9 → Int32 → Option Z) (v0 : T0) (v1 : T1) (v2 : T2) (v3 : T3) (v4 : T4) (v5 : T5) (v6 : T6) (v7 : T7) (v8 : T8) (v9 : T9), P n v0 v1 v2 v3 v4 v5 v6 v7 v8 v9 → Ev (b rec v0 v1 v2 v3 v4 v5 v6 v7 v8 v9 (nI n)) Q) : ∀ (N i : Nat) (v0 : T0) (v1 : T1) (v2 : T2) (v3 : T3) (v4 : T4) (v5 : T5) (v6 : T6) (v7 : T7) (v8 : T8) (v9 : T9), i ≤ n → n - i < N → P i v0 v1 v2 v3 v4 v5 v6 v7 v8 v9 → Ev (zl11 b N v0 v1 v2 v3 v4 v5 v6 v7 v8 v9 (nI i)) Q := by
  intro N
  induction N with
  | zero => intro i v0 v1 v2 v3 v4 v5 v6 v7 v8 v9 _ h; omega
  | succ N ih =>
    intro i v0 v1 v2 v3 v4 v5 v6 v7 v8 v9 hi hN hP
    show Ev (b (zl11 b N) v0 v1 v2 v3 v4 v5 v6 v7 v8 v9 (nI i)) Q
    rcases Nat.lt_or_ge i n with h | h
    · rcases hs (zl11 b N) i v0 v1 v2 v3 v4 v5 v6 v7 v8 v9 h hP with h1 | ⟨w0, w1, w2, w3, w4, w5, w6, w7, w8, w9, e, h2⟩
      · exact h1
      · rw [e]; exact ih (i + 1) w0 w1 w2 w3 w4 w5 w6 w7 w8 w9 h (by omega) h2
    · have e : i = n := by omega
      subst e
      exact he _ v0 v1 v2 v3 v4 v5 v6 v7 v8 v9 hP
theorem zl11g10 {T0 T1 T2 T3 T4 T5 T6 T7 T8 T9 Z : Type} {b : (T0 → T1 → T2 → T3 → T4 → T5 → T6 → T7 → T8 → T9 → Int32 → Option Z) → T0 → T1 → T2 → T3 → T4 → T5 → T6 → T7 → T8 → T9 → Int32 → Option Z} (J : Option Z → Prop) (n : Nat) (P : Nat → T0 → T1 → T2 → T3 → T4 → T5 → T6 → T7 → T8 → T9 → Prop) (hs : ∀ (rec : T0 → T1 → T2 → T3 → T4 → T5 → T6 → T7 → T8 → T9 → Int32 → Option Z) (i : Nat) (v0 : T0) (v1 : T1) (v2 : T2) (v3 : T3) (v4 : T4) (v5 : T5) (v6 : T6) (v7 : T7) (v8 : T8) (v9 : T9), i < n → P i v0 v1 v2 v3 v4 v5 v6 v7 v8 v9 → J (b rec v0 v1 v2 v3 v4 v5 v6 v7 v8 v9 (nI i)) ∨ (∃ w0 w1 w2 w3 w4 w5 w6 w7 w8 w9, b rec v0 v1 v2 v3 v4 v5 v6 v7 v8 v9 (nI i) = rec w0 w1 w2 w3 w4 w5 w6 w7 w8 w9 (nI (i + 1)) ∧ P (i + 1) w0 w1 w2 w3 w4 w5 w6 w7 w8 w9)) (he : ∀ (rec : T0 → T1 → T2 → T3 → T4 → T5 → T6 → T7 → T8 → T9 → Int32 → Option Z) (v0 : T0) (v1 : T1) (v2 : T2) (v3 : T3) (v4 : T4) (v5 : T5) (v6 : T6) (v7 : T7) (v8 : T8) (v9 : T9), P n v0 v1 v2 v3 v4 v5 v6 v7 v8 v9 → J (b rec v0 v1 v2 v3 v4 v5 v6 v7 v8 v9 (nI n))) : ∀ (N i : Nat) (v0 : T0) (v1 : T1) (v2 : T2) (v3 : T3) (v4 : T4) (v5 : T5) (v6 : T6) (v7 : T7) (v8 : T8) (v9 : T9), i ≤ n → n - i < N → P i v0 v1 v2 v3 v4 v5 v6 v7 v8 v9 → J (zl11 b N v0 v1 v2 v3 v4 v5 v6 v7 v8 v9 (nI i)) := by
  intro N
  induction N with
  | zero => intro i v0 v1 v2 v3 v4 v5 v6 v7 v8 v9 _ h; omega
  | succ N ih =>
    intro i v0 v1 v2 v3 v4 v5 v6 v7 v8 v9 hi hN hP
    show J (b (zl11 b N) v0 v1 v2 v3 v4 v5 v6 v7 v8 v9 (nI i))
    rcases Nat.lt_or_ge i n with h | h
    · rcases hs (zl11 b N) i v0 v1 v2 v3 v4 v5 v6 v7 v8 v9 h hP with h1 | ⟨w0, w1, w2, w3, w4, w5, w6, w7, w8, w9, e, h2⟩
      · exact h1
      · rw [e]; exact ih (i + 1) w0 w1 w2 w3 w4 w5 w6 w7 w8 w9 h (by omega) h2
    · have e : i = n := by omega
      subst e
      exact he _ v0 v1 v2 v3 v4 v5 v6 v7 v8 v9 hP
theorem zl1m {T0 Z : Type} {b : (T0 → Option Z) → T0 → Option Z} {Q : Z → Prop} (I : T0 → Prop) (μ : T0 → Nat) (hs : ∀ (rec : T0 → Option Z) v0, I v0 → Ev (b rec v0) Q ∨ (∃ w0, b rec v0 = rec w0 ∧ I w0 ∧ μ w0 < μ v0)) : ∀ (N : Nat) v0, I v0 → μ v0 < N → Ev (zl1 b N v0) Q := by
  intro N
  induction N with
  | zero => intro v0 _ h; omega
  | succ N ih =>
    intro v0 hI hN
    show Ev (b (zl1 b N) v0) Q
    rcases hs (zl1 b N) v0 hI with h1 | ⟨w0, e, h2, h3⟩
    · exact h1
    · rw [e]; exact ih w0 h2 (by omega)
theorem zl2m {T0 T1 Z : Type} {b : (T0 → T1 → Option Z) → T0 → T1 → Option Z} {Q : Z → Prop} (I : T0 → T1 → Prop) (μ : T0 → T1 → Nat) (hs : ∀ (rec : T0 → T1 → Option Z) v0 v1, I v0 v1 → Ev (b rec v0 v1) Q ∨ (∃ w0 w1, b rec v0 v1 = rec w0 w1 ∧ I w0 w1 ∧ μ w0 w1 < μ v0 v1)) : ∀ (N : Nat) v0 v1, I v0 v1 → μ v0 v1 < N → Ev (zl2 b N v0 v1) Q := by
  intro N
  induction N with
  | zero => intro v0 v1 _ h; omega
  | succ N ih =>
    intro v0 v1 hI hN
    show Ev (b (zl2 b N) v0 v1) Q
    rcases hs (zl2 b N) v0 v1 hI with h1 | ⟨w0, w1, e, h2, h3⟩
    · exact h1
    · rw [e]; exact ih w0 w1 h2 (by omega)
theorem zl3m {T0 T1 T2 Z : Type} {b : (T0 → T1 → T2 → Option Z) → T0 → T1 → T2 → Option Z} {Q : Z → Prop} (I : T0 → T1 → T2 → Prop) (μ : T0 → T1 → T2 → Nat) (hs : ∀ (rec : T0 → T1 → T2 → Option Z) v0 v1 v2, I v0 v1 v2 → Ev (b rec v0 v1 v2) Q ∨ (∃ w0 w1 w2, b rec v0 v1 v2 = rec w0 w1 w2 ∧ I w0 w1 w2 ∧ μ w0 w1 w2 < μ v0 v1 v2)) : ∀ (N : Nat) v0 v1 v2, I v0 v1 v2 → μ v0 v1 v2 < N → Ev (zl3 b N v0 v1 v2) Q := by
  intro N
  induction N with
  | zero => intro v0 v1 v2 _ h; omega
  | succ N ih =>
    intro v0 v1 v2 hI hN
    show Ev (b (zl3 b N) v0 v1 v2) Q
    rcases hs (zl3 b N) v0 v1 v2 hI with h1 | ⟨w0, w1, w2, e, h2, h3⟩
    · exact h1
    · rw [e]; exact ih w0 w1 w2 h2 (by omega)
theorem zl4m {T0 T1 T2 T3 Z : Type} {b : (T0 → T1 → T2 → T3 → Option Z) → T0 → T1 → T2 → T3 → Option Z} {Q : Z → Prop} (I : T0 → T1 → T2 → T3 → Prop) (μ : T0 → T1 → T2 → T3 → Nat) (hs : ∀ (rec : T0 → T1 → T2 → T3 → Option Z) v0 v1 v2 v3, I v0 v1 v2 v3 → Ev (b rec v0 v1 v2 v3) Q ∨ (∃ w0 w1 w2 w3, b rec v0 v1 v2 v3 = rec w0 w1 w2 w3 ∧ I w0 w1 w2 w3 ∧ μ w0 w1 w2 w3 < μ v0 v1 v2 v3)) : ∀ (N : Nat) v0 v1 v2 v3, I v0 v1 v2 v3 → μ v0 v1 v2 v3 < N → Ev (zl4 b N v0 v1 v2 v3) Q := by
  intro N
  induction N with
  | zero => intro v0 v1 v2 v3 _ h; omega
  | succ N ih =>
    intro v0 v1 v2 v3 hI hN
    show Ev (b (zl4 b N) v0 v1 v2 v3) Q
    rcases hs (zl4 b N) v0 v1 v2 v3 hI with h1 | ⟨w0, w1, w2, w3, e, h2, h3⟩
    · exact h1
    · rw [e]; exact ih w0 w1 w2 w3 h2 (by omega)
theorem zl5m {T0 T1 T2 T3 T4 Z : Type} {b : (T0 → T1 → T2 → T3 → T4 → Option Z) → T0 → T1 → T2 → T3 → T4 → Option Z} {Q : Z → Prop} (I : T0 → T1 → T2 → T3 → T4 → Prop) (μ : T0 → T1 → T2 → T3 → T4 → Nat) (hs : ∀ (rec : T0 → T1 → T2 → T3 → T4 → Option Z) v0 v1 v2 v3 v4, I v0 v1 v2 v3 v4 → Ev (b rec v0 v1 v2 v3 v4) Q ∨ (∃ w0 w1 w2 w3 w4, b rec v0 v1 v2 v3 v4 = rec w0 w1 w2 w3 w4 ∧ I w0 w1 w2 w3 w4 ∧ μ w0 w1 w2 w3 w4 < μ v0 v1 v2 v3 v4)) : ∀ (N : Nat) v0 v1 v2 v3 v4, I v0 v1 v2 v3 v4 → μ v0 v1 v2 v3 v4 < N → Ev (zl5 b N v0 v1 v2 v3 v4) Q := by
  intro N
  induction N with
  | zero => intro v0 v1 v2 v3 v4 _ h; omega
  | succ N ih =>
    intro v0 v1 v2 v3 v4 hI hN
    show Ev (b (zl5 b N) v0 v1 v2 v3 v4) Q
    rcases hs (zl5 b N) v0 v1 v2 v3 v4 hI with h1 | ⟨w0, w1, w2, w3, w4, e, h2, h3⟩
    · exact h1
    · rw [e]; exact ih w0 w1 w2 w3 w4 h2 (by omega)
theorem zl6m {T0 T1 T2 T3 T4 T5 Z : Type} {b : (T0 → T1 → T2 → T3 → T4 → T5 → Option Z) → T0 → T1 → T2 → T3 → T4 → T5 → Option Z} {Q : Z → Prop} (I : T0 → T1 → T2 → T3 → T4 → T5 → Prop) (μ : T0 → T1 → T2 → T3 → T4 → T5 → Nat) (hs : ∀ (rec : T0 → T1 → T2 → T3 → T4 → T5 → Option Z) v0 v1 v2 v3 v4 v5, I v0 v1 v2 v3 v4 v5 → Ev (b rec v0 v1 v2 v3 v4 v5) Q ∨ (∃ w0 w1 w2 w3 w4 w5, b rec v0 v1 v2 v3 v4 v5 = rec w0 w1 w2 w3 w4 w5 ∧ I w0 w1 w2 w3 w4 w5 ∧ μ w0 w1 w2 w3 w4 w5 < μ v0 v1 v2 v3 v4 v5)) : ∀ (N : Nat) v0 v1 v2 v3 v4 v5, I v0 v1 v2 v3 v4 v5 → μ v0 v1 v2 v3 v4 v5 < N → Ev (zl6 b N v0 v1 v2 v3 v4 v5) Q := by
  intro N
  induction N with
  | zero => intro v0 v1 v2 v3 v4 v5 _ h; omega
  | succ N ih =>
    intro v0 v1 v2 v3 v4 v5 hI hN
    show Ev (b (zl6 b N) v0 v1 v2 v3 v4 v5) Q
    rcases hs (zl6 b N) v0 v1 v2 v3 v4 v5 hI with h1 | ⟨w0, w1, w2, w3, w4, w5, e, h2, h3⟩
    · exact h1
    · rw [e]; exact ih w0 w1 w2 w3 w4 w5 h2 (by omega)
theorem zl7m {T0 T1 T2 T3 T4 T5 T6 Z : Type} {b : (T0 → T1 → T2 → T3 → T4 → T5 → T6 → Option Z) → T0 → T1 → T2 → T3 → T4 → T5 → T6 → Option Z} {Q : Z → Prop} (I : T0 → T1 → T2 → T3 → T4 → T5 → T6 → Prop) (μ : T0 → T1 → T2 → T3 → T4 → T5 → T6 → Nat) (hs : ∀ (rec : T0 → T1 → T2 → T3 → T4 → T5 → T6 → Option Z) v0 v1 v2 v3 v4 v5 v6, I v0 v1 v2 v3 v4 v5 v6 → Ev (b rec v0 v1 v2 v3 v4 v5 v6) Q ∨ (∃ w0 w1 w2 w3 w4 w5 w6, b rec v0 v1 v2 v3 v4 v5 v6 = rec w0 w1 w2 w3 w4 w5 w6 ∧ I w0 w1 w2 w3 w4 w5 w6 ∧ μ w0 w1 w2 w3 w4 w5 w6 < μ v0 v1 v2 v3 v4 v5 v6)) : ∀ (N : Nat) v0 v1 v2 v3 v4 v5 v6, I v0 v1 v2 v3 v4 v5 v6 → μ v0 v1 v2 v3 v4 v5 v6 < N → Ev (zl7 b N v0 v1 v2 v3 v4 v5 v6) Q := by
  intro N
  induction N with
  | zero => intro v0 v1 v2 v3 v4 v5 v6 _ h; omega
  | succ N ih =>
    intro v0 v1 v2 v3 v4 v5 v6 hI hN
    show Ev (b (zl7 b N) v0 v1 v2 v3 v4 v5 v6) Q
    rcases hs (zl7 b N) v0 v1 v2 v3 v4 v5 v6 hI with h1 | ⟨w0, w1, w2, w3, w4, w5, w6, e, h2, h3⟩
    · exact h1
    · rw [e]; exact ih w0 w1 w2 w3 w4 w5 w6 h2 (by omega)
theorem zl8m {T0 T1 T2 T3 T4 T5 T6 T7 Z : Type} {b : (T0 → T1 → T2 → T3 → T4 → T5 → T6 → T7 → Option Z) → T0 → T1 → T2 → T3 → T4 → T5 → T6 → T7 → Option Z} {Q : Z → Prop} (I : T0 → T1 → T2 → T3 → T4 → T5 → T6 → T7 → Prop) (μ : T0 → T1 → T2 → T3 → T4 → T5 → T6 → T7 → Nat) (hs : ∀ (rec : T0 → T1 → T2 → T3 → T4 → T5 → T6 → T7 → Option Z) v0 v1 v2 v3 v4 v5 v6 v7, I v0 v1 v2 v3 v4 v5 v6 v7 → Ev (b rec v0 v1 v2 v3 v4 v5 v6 v7) Q ∨ (∃ w0 w1 w2 w3 w4 w5 w6 w7, b rec v0 v1 v2 v3 v4 v5 v6 v7 = rec w0 w1 w2 w3 w4 w5 w6 w7 ∧ I w0 w1 w2 w3 w4 w5 w6 w7 ∧ μ w0 w1 w2 w3 w4 w5 w6 w7 < μ v0 v1 v2 v3 v4 v5 v6 v7)) : ∀ (N : Nat) v0 v1 v2 v3 v4 v5 v6 v7, I v0 v1 v2 v3 v4 v5 v6 v7 → μ v0 v1 v2 v3 v4 v5 v6 v7 < N → Ev (zl8 b N v0 v1 v2 v3 v4 v5 v6 v7) Q := by
  intro N
  induction N with
  | zero => intro v0 v1 v2 v3 v4 v5 v6 v7 _ h; omega
  | succ N ih =>
    intro v0 v1 v2 v3 v4 v5 v6 v7 hI hN
    show Ev (b (zl8 b N) v0 v1 v2 v3 v4 v5 v6 v7) Q
    rcases hs (zl8 b N) v0 v1 v2 v3 v4 v5 v6 v7 hI with h1 | ⟨w0, w1, w2, w3, w4, w5, w6, w7, e, h2, h3⟩
    · exact h1
    · rw [e]; exact ih w0 w1 w2 w3 w4 w5 w6 w7 h2 (by omega)
theorem zl9m {T0 T1 T2 T3 T4 T5 T6 T7 T8 Z : Type} {b : (T0 → T1 → T2 → T3 → T4 → T5 → T6 → T7 → T8 → Option Z) → T0 → T1 → T2 → T3 → T4 → T5 → T6 → T7 → T8 → Option Z} {Q : Z → Prop} (I : T0 → T1 → T2 → T3 → T4 → T5 → T6 → T7 → T8 → Prop) (μ : T0 → T1 → T2 → T3 → T4 → T5 → T6 → T7 → T8 → Nat) (hs : ∀ (rec : T0 → T1 → T2 → T3 → T4 → T5 → T6 → T7 → T8 → Option Z) v0 v1 v2 v3 v4 v5 v6 v7 v8, I v0 v1 v2 v3 v4 v5 v6 v7 v8 → Ev (b rec v0 v1 v2 v3 v4 v5 v6 v7 v8) Q ∨ (∃ w0 w1 w2 w3 w4 w5 w6 w7 w8, b rec v0 v1 v2 v3 v4 v5 v6 v7 v8 = rec w0 w1 w2 w3 w4 w5 w6 w7 w8 ∧ I w0 w1 w2 w3 w4 w5 w6 w7 w8 ∧ μ w0 w1 w2 w3 w4 w5 w6 w7 w8 < μ v0 v1 v2 v3 v4 v5 v6 v7 v8)) : ∀ (N : Nat) v0 v1 v2 v3 v4 v5 v6 v7 v8, I v0 v1 v2 v3 v4 v5 v6 v7 v8 → μ v0 v1 v2 v3 v4 v5 v6 v7 v8 < N → Ev (zl9 b N v0 v1 v2 v3 v4 v5 v6 v7 v8) Q := by
  intro N
  induction N with
  | zero => intro v0 v1 v2 v3 v4 v5 v6 v7 v8 _ h; omega
  | succ N ih =>
    intro v0 v1 v2 v3 v4 v5 v6 v7 v8 hI hN
    show Ev (b (zl9 b N) v0 v1 v2 v3 v4 v5 v6 v7 v8) Q
    rcases hs (zl9 b N) v0 v1 v2 v3 v4 v5 v6 v7 v8 hI with h1 | ⟨w0, w1, w2, w3, w4, w5, w6, w7, w8, e, h2, h3⟩
    · exact h1
    · rw [e]; exact ih w0 w1 w2 w3 w4 w5 w6 w7 w8 h2 (by omega)
theorem zl11m {T0 T1 T2 T3 T4 T5 T6 T7 T8 T9 T10 Z : Type} {b : (T0 → T1 → T2 → T3 → T4 → T5 → T6 → T7 → T8 → T9 → T10 → Option Z) → T0 → T1 → T2 → T3 → T4 → T5 → T6 → T7 → T8 → T9 → T10 → Option Z} {Q : Z → Prop} (I : T0 → T1 → T2 → T3 → T4 → T5 → T6 → T7 → T8 → T9 → T10 → Prop) (μ : T0 → T1 → T2 → T3 → T4 → T5 → T6 → T7 → T8 → T9 → T10 → Nat) (hs : ∀ (rec : T0 → T1 → T2 → T3 → T4 → T5 → T6 → T7 → T8 → T9 → T10 → Option Z) v0 v1 v2 v3 v4 v5 v6 v7 v8 v9 v10, I v0 v1 v2 v3 v4 v5 v6 v7 v8 v9 v10 → Ev (b rec v0 v1 v2 v3 v4 v5 v6 v7 v8 v9 v10) Q ∨ (∃ w0 w1 w2 w3 w4 w5 w6 w7 w8 w9 w10, b rec v0 v1 v2 v3 v4 v5 v6 v7 v8 v9 v10 = rec w0 w1 w2 w3 w4 w5 w6 w7 w8 w9 w10 ∧ I w0 w1 w2 w3 w4 w5 w6 w7 w8 w9 w10 ∧ μ w0 w1 w2 w3 w4 w5 w6 w7 w8 w9 w10 < μ v0 v1 v2 v3 v4 v5 v6 v7 v8 v9 v10)) : ∀ (N : Nat) v0 v1 v2 v3 v4 v5 v6 v7 v8 v9 v10, I v0 v1 v2 v3 v4 v5 v6 v7 v8 v9 v10 → μ v0 v1 v2 v3 v4 v5 v6 v7 v8 v9 v10 < N → Ev (zl11 b N v0 v1 v2 v3 v4 v5 v6 v7 v8 v9 v10) Q := by
  intro N
  induction N with
  | zero => intro v0 v1 v2 v3 v4 v5 v6 v7 v8 v9 v10 _ h; omega
  | succ N ih =>
    intro v0 v1 v2 v3 v4 v5 v6 v7 v8 v9 v10 hI hN
    show Ev (b (zl11 b N) v0 v1 v2 v3 v4 v5 v6 v7 v8 v9 v10) Q
    rcases hs (zl11 b N) v0 v1 v2 v3 v4 v5 v6 v7 v8 v9 v10 hI with h1 | ⟨w0, w1, w2, w3, w4, w5, w6, w7, w8, w9, w10, e, h2, h3⟩
    · exact h1
    · rw [e]; exact ih w0 w1 w2 w3 w4 w5 w6 w7 w8 w9 w10 h2 (by omega)
/-- numbers -/
theorem vAt_nI {n i : Nat} {f : Nat → Int32} (h : i < n) (hn : n < 2 ^ 31) : vAt n f (nI i) = f i := by
  unfold vAt
  rw [if_neg (nI_pos (by omega)), if_neg (nI_ge h hn), nI_clamp (by omega)]
theorem vAt_m1 (n : Nat) (f : Nat → Int32) : vAt n f (-1) = 0 := by
  unfold vAt
  rw [if_pos (by decide)]
theorem vPut_nI {n i : Nat} {f : Nat → Int32} {x : Int32} (h : i < n) (hn : n < 2 ^ 31) : vPut n f (nI i) x = upd f i x := by
  unfold vPut
  rw [if_neg (nI_pos (by omega)), if_neg (nI_ge h hn), nI_clamp (by omega)]
theorem vAdd_nI {n i : Nat} {f : Nat → Int32} {x : Int32} (h : i < n) (hn : n < 2 ^ 31) : vAdd n f (nI i) x = upd f i (f i + x) := by
  unfold vAdd
  rw [if_neg (nI_pos (by omega)), if_neg (nI_ge h hn), nI_clamp (by omega)]
theorem rd_nI {Z : Type} {n i : Nat} {f : Nat → Int32} {k : Int32 → Option Z} (h : i < n) (hn : n < 2 ^ 31) : rd n f (nI i) k = k (f i) := by
  unfold rd
  rw [if_neg (nI_in h hn), nI_clamp (by omega)]
theorem wr_nI {Z : Type} {n i : Nat} {f : Nat → Int32} {x : Int32} {k : (Nat → Int32) → Option Z} (h : i < n) (hn : n < 2 ^ 31) : wr n f (nI i) x k = k (upd f i x) := by
  unfold wr
  rw [if_neg (nI_in h hn), nI_clamp (by omega)]
theorem rdL_nI {Z : Type} {n i : Nat} {f : Nat → Int64} {k : Int64 → Option Z} (h : i < n) (hn : n < 2 ^ 31) : rdL n f (nI i) k = k (f i) := by
  unfold rdL
  rw [if_neg (nI_in h hn), nI_clamp (by omega)]
theorem wrL_nI {Z : Type} {n i : Nat} {f : Nat → Int64} {x : Int64} {k : (Nat → Int64) → Option Z} (h : i < n) (hn : n < 2 ^ 31) : wrL n f (nI i) x k = k (vp_updL f i x) := by
  unfold wrL
  rw [if_neg (nI_in h hn), nI_clamp (by omega)]
theorem dvd_nI {Z : Type} {a d : Nat} {k : Int32 → Option Z} (ha : a < 2 ^ 31) (h0 : 0 < d) (hd : d < 2 ^ 31) : dvd (nI a) (nI d) k = k (nI (a / d)) := by
  unfold dvd
  rw [if_neg (nI_ne0 h0 hd), pk_div ha h0 hd]
theorem rmd_nI {Z : Type} {a d : Nat} {k : Int32 → Option Z} (ha : a < 2 ^ 31) (h0 : 0 < d) (hd : d < 2 ^ 31) : rmd (nI a) (nI d) k = k (nI (a % d)) := by
  unfold rmd
  rw [if_neg (nI_ne0 h0 hd), pk_rem ha h0 hd]
theorem upd_s {f : Nat → Int32} {k : Nat} {x : Int32} : upd f k x k = x := if_pos rfl
theorem upd_n {f : Nat → Int32} {k j : Nat} {x : Int32} (h : j ≠ k) : upd f k x j = f j := if_neg h
theorem nI_i {a b : Nat} (ha : a < 2 ^ 31) (hb : b < 2 ^ 31) (h : nI a = nI b) : a = b := (nI_eq ha hb).mp h
theorem nI_nm1 {a : Nat} (ha : a < 2 ^ 31) : ¬ nI a = -1 := fun h => absurd (show nI a < 0 by rw [h]; decide) (nI_pos ha)
theorem q0 : (0 : Int32) = nI 0 := rfl
theorem kk0_ge {i : Nat} (h : i < 0) : ¬ (0 : Int32) ≤ nI i := nI_ge (b := 0) h (by omega)
theorem kk0_le {i : Nat} (h : 0 ≤ i) (hi : i < 2 ^ 31) : (0 : Int32) ≤ nI i := nI_le (a := 0) h hi
theorem kk0_lt {i : Nat} (h : i < 0) : nI i < (0 : Int32) := nI_lt (b := 0) h (by omega)
theorem kk0_nl {i : Nat} (h : 0 ≤ i) (hi : i < 2 ^ 31) : ¬ nI i < (0 : Int32) := nI_nlt (b := 0) h hi
theorem kk0_leI {i : Nat} (hi : i < 2 ^ 31) : (0 : Int32) ≤ nI i ↔ 0 ≤ i := nI_leI (a := 0) (by omega) hi
theorem kk0_Ile {i : Nat} (hi : i < 2 ^ 31) : nI i ≤ (0 : Int32) ↔ i ≤ 0 := nI_leI (b := 0) hi (by omega)
theorem kk0_Ilt {i : Nat} (hi : i < 2 ^ 31) : nI i < (0 : Int32) ↔ i < 0 := nI_ltI (b := 0) hi (by omega)
theorem kk0_ltI {i : Nat} (hi : i < 2 ^ 31) : (0 : Int32) < nI i ↔ 0 < i := nI_ltI (a := 0) (by omega) hi
theorem kk0_eq {i : Nat} (hi : i < 2 ^ 31) : nI i = (0 : Int32) ↔ i = 0 := nI_eq (b := 0) hi (by omega)
theorem q1 : (1 : Int32) = nI 1 := rfl
theorem kk1_ge {i : Nat} (h : i < 1) : ¬ (1 : Int32) ≤ nI i := nI_ge (b := 1) h (by omega)
theorem kk1_le {i : Nat} (h : 1 ≤ i) (hi : i < 2 ^ 31) : (1 : Int32) ≤ nI i := nI_le (a := 1) h hi
theorem kk1_lt {i : Nat} (h : i < 1) : nI i < (1 : Int32) := nI_lt (b := 1) h (by omega)
theorem kk1_nl {i : Nat} (h : 1 ≤ i) (hi : i < 2 ^ 31) : ¬ nI i < (1 : Int32) := nI_nlt (b := 1) h hi
theorem kk1_leI {i : Nat} (hi : i < 2 ^ 31) : (1 : Int32) ≤ nI i ↔ 1 ≤ i := nI_leI (a := 1) (by omega) hi
theorem kk1_Ile {i : Nat} (hi : i < 2 ^ 31) : nI i ≤ (1 : Int32) ↔ i ≤ 1 := nI_leI (b := 1) hi (by omega)
theorem kk1_Ilt {i : Nat} (hi : i < 2 ^ 31) : nI i < (1 : Int32) ↔ i < 1 := nI_ltI (b := 1) hi (by omega)
theorem kk1_ltI {i : Nat} (hi : i < 2 ^ 31) : (1 : Int32) < nI i ↔ 1 < i := nI_ltI (a := 1) (by omega) hi
theorem kk1_eq {i : Nat} (hi : i < 2 ^ 31) : nI i = (1 : Int32) ↔ i = 1 := nI_eq (b := 1) hi (by omega)
theorem q2 : (2 : Int32) = nI 2 := rfl
theorem kk2_ge {i : Nat} (h : i < 2) : ¬ (2 : Int32) ≤ nI i := nI_ge (b := 2) h (by omega)
theorem kk2_le {i : Nat} (h : 2 ≤ i) (hi : i < 2 ^ 31) : (2 : Int32) ≤ nI i := nI_le (a := 2) h hi
theorem kk2_lt {i : Nat} (h : i < 2) : nI i < (2 : Int32) := nI_lt (b := 2) h (by omega)
theorem kk2_nl {i : Nat} (h : 2 ≤ i) (hi : i < 2 ^ 31) : ¬ nI i < (2 : Int32) := nI_nlt (b := 2) h hi
theorem kk2_leI {i : Nat} (hi : i < 2 ^ 31) : (2 : Int32) ≤ nI i ↔ 2 ≤ i := nI_leI (a := 2) (by omega) hi
theorem kk2_Ile {i : Nat} (hi : i < 2 ^ 31) : nI i ≤ (2 : Int32) ↔ i ≤ 2 := nI_leI (b := 2) hi (by omega)
theorem kk2_Ilt {i : Nat} (hi : i < 2 ^ 31) : nI i < (2 : Int32) ↔ i < 2 := nI_ltI (b := 2) hi (by omega)
theorem kk2_ltI {i : Nat} (hi : i < 2 ^ 31) : (2 : Int32) < nI i ↔ 2 < i := nI_ltI (a := 2) (by omega) hi
theorem kk2_eq {i : Nat} (hi : i < 2 ^ 31) : nI i = (2 : Int32) ↔ i = 2 := nI_eq (b := 2) hi (by omega)
theorem q3 : (3 : Int32) = nI 3 := rfl
theorem kk3_ge {i : Nat} (h : i < 3) : ¬ (3 : Int32) ≤ nI i := nI_ge (b := 3) h (by omega)
theorem kk3_le {i : Nat} (h : 3 ≤ i) (hi : i < 2 ^ 31) : (3 : Int32) ≤ nI i := nI_le (a := 3) h hi
theorem kk3_lt {i : Nat} (h : i < 3) : nI i < (3 : Int32) := nI_lt (b := 3) h (by omega)
theorem kk3_nl {i : Nat} (h : 3 ≤ i) (hi : i < 2 ^ 31) : ¬ nI i < (3 : Int32) := nI_nlt (b := 3) h hi
theorem kk3_leI {i : Nat} (hi : i < 2 ^ 31) : (3 : Int32) ≤ nI i ↔ 3 ≤ i := nI_leI (a := 3) (by omega) hi
theorem kk3_Ile {i : Nat} (hi : i < 2 ^ 31) : nI i ≤ (3 : Int32) ↔ i ≤ 3 := nI_leI (b := 3) hi (by omega)
theorem kk3_Ilt {i : Nat} (hi : i < 2 ^ 31) : nI i < (3 : Int32) ↔ i < 3 := nI_ltI (b := 3) hi (by omega)
theorem kk3_ltI {i : Nat} (hi : i < 2 ^ 31) : (3 : Int32) < nI i ↔ 3 < i := nI_ltI (a := 3) (by omega) hi
theorem kk3_eq {i : Nat} (hi : i < 2 ^ 31) : nI i = (3 : Int32) ↔ i = 3 := nI_eq (b := 3) hi (by omega)
theorem q4 : (4 : Int32) = nI 4 := rfl
theorem kk4_ge {i : Nat} (h : i < 4) : ¬ (4 : Int32) ≤ nI i := nI_ge (b := 4) h (by omega)
theorem kk4_le {i : Nat} (h : 4 ≤ i) (hi : i < 2 ^ 31) : (4 : Int32) ≤ nI i := nI_le (a := 4) h hi
theorem kk4_lt {i : Nat} (h : i < 4) : nI i < (4 : Int32) := nI_lt (b := 4) h (by omega)
theorem kk4_nl {i : Nat} (h : 4 ≤ i) (hi : i < 2 ^ 31) : ¬ nI i < (4 : Int32) := nI_nlt (b := 4) h hi
theorem kk4_leI {i : Nat} (hi : i < 2 ^ 31) : (4 : Int32) ≤ nI i ↔ 4 ≤ i := nI_leI (a := 4) (by omega) hi
theorem kk4_Ile {i : Nat} (hi : i < 2 ^ 31) : nI i ≤ (4 : Int32) ↔ i ≤ 4 := nI_leI (b := 4) hi (by omega)
theorem kk4_Ilt {i : Nat} (hi : i < 2 ^ 31) : nI i < (4 : Int32) ↔ i < 4 := nI_ltI (b := 4) hi (by omega)
theorem kk4_ltI {i : Nat} (hi : i < 2 ^ 31) : (4 : Int32) < nI i ↔ 4 < i := nI_ltI (a := 4) (by omega) hi
theorem kk4_eq {i : Nat} (hi : i < 2 ^ 31) : nI i = (4 : Int32) ↔ i = 4 := nI_eq (b := 4) hi (by omega)
theorem q5 : (5 : Int32) = nI 5 := rfl
theorem kk5_ge {i : Nat} (h : i < 5) : ¬ (5 : Int32) ≤ nI i := nI_ge (b := 5) h (by omega)
theorem kk5_le {i : Nat} (h : 5 ≤ i) (hi : i < 2 ^ 31) : (5 : Int32) ≤ nI i := nI_le (a := 5) h hi
theorem kk5_lt {i : Nat} (h : i < 5) : nI i < (5 : Int32) := nI_lt (b := 5) h (by omega)
theorem kk5_nl {i : Nat} (h : 5 ≤ i) (hi : i < 2 ^ 31) : ¬ nI i < (5 : Int32) := nI_nlt (b := 5) h hi
theorem kk5_leI {i : Nat} (hi : i < 2 ^ 31) : (5 : Int32) ≤ nI i ↔ 5 ≤ i := nI_leI (a := 5) (by omega) hi
theorem kk5_Ile {i : Nat} (hi : i < 2 ^ 31) : nI i ≤ (5 : Int32) ↔ i ≤ 5 := nI_leI (b := 5) hi (by omega)
theorem kk5_Ilt {i : Nat} (hi : i < 2 ^ 31) : nI i < (5 : Int32) ↔ i < 5 := nI_ltI (b := 5) hi (by omega)
theorem kk5_ltI {i : Nat} (hi : i < 2 ^ 31) : (5 : Int32) < nI i ↔ 5 < i := nI_ltI (a := 5) (by omega) hi
theorem kk5_eq {i : Nat} (hi : i < 2 ^ 31) : nI i = (5 : Int32) ↔ i = 5 := nI_eq (b := 5) hi (by omega)
theorem q6 : (6 : Int32) = nI 6 := rfl
theorem kk6_ge {i : Nat} (h : i < 6) : ¬ (6 : Int32) ≤ nI i := nI_ge (b := 6) h (by omega)
theorem kk6_le {i : Nat} (h : 6 ≤ i) (hi : i < 2 ^ 31) : (6 : Int32) ≤ nI i := nI_le (a := 6) h hi
theorem kk6_lt {i : Nat} (h : i < 6) : nI i < (6 : Int32) := nI_lt (b := 6) h (by omega)
theorem kk6_nl {i : Nat} (h : 6 ≤ i) (hi : i < 2 ^ 31) : ¬ nI i < (6 : Int32) := nI_nlt (b := 6) h hi
theorem kk6_leI {i : Nat} (hi : i < 2 ^ 31) : (6 : Int32) ≤ nI i ↔ 6 ≤ i := nI_leI (a := 6) (by omega) hi
theorem kk6_Ile {i : Nat} (hi : i < 2 ^ 31) : nI i ≤ (6 : Int32) ↔ i ≤ 6 := nI_leI (b := 6) hi (by omega)
theorem kk6_Ilt {i : Nat} (hi : i < 2 ^ 31) : nI i < (6 : Int32) ↔ i < 6 := nI_ltI (b := 6) hi (by omega)
theorem kk6_ltI {i : Nat} (hi : i < 2 ^ 31) : (6 : Int32) < nI i ↔ 6 < i := nI_ltI (a := 6) (by omega) hi
theorem kk6_eq {i : Nat} (hi : i < 2 ^ 31) : nI i = (6 : Int32) ↔ i = 6 := nI_eq (b := 6) hi (by omega)
theorem q7 : (7 : Int32) = nI 7 := rfl
theorem kk7_ge {i : Nat} (h : i < 7) : ¬ (7 : Int32) ≤ nI i := nI_ge (b := 7) h (by omega)
theorem kk7_le {i : Nat} (h : 7 ≤ i) (hi : i < 2 ^ 31) : (7 : Int32) ≤ nI i := nI_le (a := 7) h hi
theorem kk7_lt {i : Nat} (h : i < 7) : nI i < (7 : Int32) := nI_lt (b := 7) h (by omega)
theorem kk7_nl {i : Nat} (h : 7 ≤ i) (hi : i < 2 ^ 31) : ¬ nI i < (7 : Int32) := nI_nlt (b := 7) h hi
theorem kk7_leI {i : Nat} (hi : i < 2 ^ 31) : (7 : Int32) ≤ nI i ↔ 7 ≤ i := nI_leI (a := 7) (by omega) hi
theorem kk7_Ile {i : Nat} (hi : i < 2 ^ 31) : nI i ≤ (7 : Int32) ↔ i ≤ 7 := nI_leI (b := 7) hi (by omega)
theorem kk7_Ilt {i : Nat} (hi : i < 2 ^ 31) : nI i < (7 : Int32) ↔ i < 7 := nI_ltI (b := 7) hi (by omega)
theorem kk7_ltI {i : Nat} (hi : i < 2 ^ 31) : (7 : Int32) < nI i ↔ 7 < i := nI_ltI (a := 7) (by omega) hi
theorem kk7_eq {i : Nat} (hi : i < 2 ^ 31) : nI i = (7 : Int32) ↔ i = 7 := nI_eq (b := 7) hi (by omega)
theorem q8 : (8 : Int32) = nI 8 := rfl
theorem kk8_ge {i : Nat} (h : i < 8) : ¬ (8 : Int32) ≤ nI i := nI_ge (b := 8) h (by omega)
theorem kk8_le {i : Nat} (h : 8 ≤ i) (hi : i < 2 ^ 31) : (8 : Int32) ≤ nI i := nI_le (a := 8) h hi
theorem kk8_lt {i : Nat} (h : i < 8) : nI i < (8 : Int32) := nI_lt (b := 8) h (by omega)
theorem kk8_nl {i : Nat} (h : 8 ≤ i) (hi : i < 2 ^ 31) : ¬ nI i < (8 : Int32) := nI_nlt (b := 8) h hi
theorem kk8_leI {i : Nat} (hi : i < 2 ^ 31) : (8 : Int32) ≤ nI i ↔ 8 ≤ i := nI_leI (a := 8) (by omega) hi
theorem kk8_Ile {i : Nat} (hi : i < 2 ^ 31) : nI i ≤ (8 : Int32) ↔ i ≤ 8 := nI_leI (b := 8) hi (by omega)
theorem kk8_Ilt {i : Nat} (hi : i < 2 ^ 31) : nI i < (8 : Int32) ↔ i < 8 := nI_ltI (b := 8) hi (by omega)
theorem kk8_ltI {i : Nat} (hi : i < 2 ^ 31) : (8 : Int32) < nI i ↔ 8 < i := nI_ltI (a := 8) (by omega) hi
theorem kk8_eq {i : Nat} (hi : i < 2 ^ 31) : nI i = (8 : Int32) ↔ i = 8 := nI_eq (b := 8) hi (by omega)
theorem q9 : (9 : Int32) = nI 9 := rfl
theorem kk9_ge {i : Nat} (h : i < 9) : ¬ (9 : Int32) ≤ nI i := nI_ge (b := 9) h (by omega)
theorem kk9_le {i : Nat} (h : 9 ≤ i) (hi : i < 2 ^ 31) : (9 : Int32) ≤ nI i := nI_le (a := 9) h hi
theorem kk9_lt {i : Nat} (h : i < 9) : nI i < (9 : Int32) := nI_lt (b := 9) h (by omega)
theorem kk9_nl {i : Nat} (h : 9 ≤ i) (hi : i < 2 ^ 31) : ¬ nI i < (9 : Int32) := nI_nlt (b := 9) h hi
theorem kk9_leI {i : Nat} (hi : i < 2 ^ 31) : (9 : Int32) ≤ nI i ↔ 9 ≤ i := nI_leI (a := 9) (by omega) hi
theorem kk9_Ile {i : Nat} (hi : i < 2 ^ 31) : nI i ≤ (9 : Int32) ↔ i ≤ 9 := nI_leI (b := 9) hi (by omega)
theorem kk9_Ilt {i : Nat} (hi : i < 2 ^ 31) : nI i < (9 : Int32) ↔ i < 9 := nI_ltI (b := 9) hi (by omega)
theorem kk9_ltI {i : Nat} (hi : i < 2 ^ 31) : (9 : Int32) < nI i ↔ 9 < i := nI_ltI (a := 9) (by omega) hi
theorem kk9_eq {i : Nat} (hi : i < 2 ^ 31) : nI i = (9 : Int32) ↔ i = 9 := nI_eq (b := 9) hi (by omega)
theorem q10 : (10 : Int32) = nI 10 := rfl
theorem kk10_ge {i : Nat} (h : i < 10) : ¬ (10 : Int32) ≤ nI i := nI_ge (b := 10) h (by omega)
theorem kk10_le {i : Nat} (h : 10 ≤ i) (hi : i < 2 ^ 31) : (10 : Int32) ≤ nI i := nI_le (a := 10) h hi
theorem kk10_lt {i : Nat} (h : i < 10) : nI i < (10 : Int32) := nI_lt (b := 10) h (by omega)
theorem kk10_nl {i : Nat} (h : 10 ≤ i) (hi : i < 2 ^ 31) : ¬ nI i < (10 : Int32) := nI_nlt (b := 10) h hi
theorem kk10_leI {i : Nat} (hi : i < 2 ^ 31) : (10 : Int32) ≤ nI i ↔ 10 ≤ i := nI_leI (a := 10) (by omega) hi
theorem kk10_Ile {i : Nat} (hi : i < 2 ^ 31) : nI i ≤ (10 : Int32) ↔ i ≤ 10 := nI_leI (b := 10) hi (by omega)
theorem kk10_Ilt {i : Nat} (hi : i < 2 ^ 31) : nI i < (10 : Int32) ↔ i < 10 := nI_ltI (b := 10) hi (by omega)
theorem kk10_ltI {i : Nat} (hi : i < 2 ^ 31) : (10 : Int32) < nI i ↔ 10 < i := nI_ltI (a := 10) (by omega) hi
theorem kk10_eq {i : Nat} (hi : i < 2 ^ 31) : nI i = (10 : Int32) ↔ i = 10 := nI_eq (b := 10) hi (by omega)
theorem q11 : (11 : Int32) = nI 11 := rfl
theorem kk11_ge {i : Nat} (h : i < 11) : ¬ (11 : Int32) ≤ nI i := nI_ge (b := 11) h (by omega)
theorem kk11_le {i : Nat} (h : 11 ≤ i) (hi : i < 2 ^ 31) : (11 : Int32) ≤ nI i := nI_le (a := 11) h hi
theorem kk11_lt {i : Nat} (h : i < 11) : nI i < (11 : Int32) := nI_lt (b := 11) h (by omega)
theorem kk11_nl {i : Nat} (h : 11 ≤ i) (hi : i < 2 ^ 31) : ¬ nI i < (11 : Int32) := nI_nlt (b := 11) h hi
theorem kk11_leI {i : Nat} (hi : i < 2 ^ 31) : (11 : Int32) ≤ nI i ↔ 11 ≤ i := nI_leI (a := 11) (by omega) hi
theorem kk11_Ile {i : Nat} (hi : i < 2 ^ 31) : nI i ≤ (11 : Int32) ↔ i ≤ 11 := nI_leI (b := 11) hi (by omega)
theorem kk11_Ilt {i : Nat} (hi : i < 2 ^ 31) : nI i < (11 : Int32) ↔ i < 11 := nI_ltI (b := 11) hi (by omega)
theorem kk11_ltI {i : Nat} (hi : i < 2 ^ 31) : (11 : Int32) < nI i ↔ 11 < i := nI_ltI (a := 11) (by omega) hi
theorem kk11_eq {i : Nat} (hi : i < 2 ^ 31) : nI i = (11 : Int32) ↔ i = 11 := nI_eq (b := 11) hi (by omega)
theorem q12 : (12 : Int32) = nI 12 := rfl
theorem kk12_ge {i : Nat} (h : i < 12) : ¬ (12 : Int32) ≤ nI i := nI_ge (b := 12) h (by omega)
theorem kk12_le {i : Nat} (h : 12 ≤ i) (hi : i < 2 ^ 31) : (12 : Int32) ≤ nI i := nI_le (a := 12) h hi
theorem kk12_lt {i : Nat} (h : i < 12) : nI i < (12 : Int32) := nI_lt (b := 12) h (by omega)
theorem kk12_nl {i : Nat} (h : 12 ≤ i) (hi : i < 2 ^ 31) : ¬ nI i < (12 : Int32) := nI_nlt (b := 12) h hi
theorem kk12_leI {i : Nat} (hi : i < 2 ^ 31) : (12 : Int32) ≤ nI i ↔ 12 ≤ i := nI_leI (a := 12) (by omega) hi
theorem kk12_Ile {i : Nat} (hi : i < 2 ^ 31) : nI i ≤ (12 : Int32) ↔ i ≤ 12 := nI_leI (b := 12) hi (by omega)
theorem kk12_Ilt {i : Nat} (hi : i < 2 ^ 31) : nI i < (12 : Int32) ↔ i < 12 := nI_ltI (b := 12) hi (by omega)
theorem kk12_ltI {i : Nat} (hi : i < 2 ^ 31) : (12 : Int32) < nI i ↔ 12 < i := nI_ltI (a := 12) (by omega) hi
theorem kk12_eq {i : Nat} (hi : i < 2 ^ 31) : nI i = (12 : Int32) ↔ i = 12 := nI_eq (b := 12) hi (by omega)
theorem q13 : (13 : Int32) = nI 13 := rfl
theorem kk13_ge {i : Nat} (h : i < 13) : ¬ (13 : Int32) ≤ nI i := nI_ge (b := 13) h (by omega)
theorem kk13_le {i : Nat} (h : 13 ≤ i) (hi : i < 2 ^ 31) : (13 : Int32) ≤ nI i := nI_le (a := 13) h hi
theorem kk13_lt {i : Nat} (h : i < 13) : nI i < (13 : Int32) := nI_lt (b := 13) h (by omega)
theorem kk13_nl {i : Nat} (h : 13 ≤ i) (hi : i < 2 ^ 31) : ¬ nI i < (13 : Int32) := nI_nlt (b := 13) h hi
theorem kk13_leI {i : Nat} (hi : i < 2 ^ 31) : (13 : Int32) ≤ nI i ↔ 13 ≤ i := nI_leI (a := 13) (by omega) hi
theorem kk13_Ile {i : Nat} (hi : i < 2 ^ 31) : nI i ≤ (13 : Int32) ↔ i ≤ 13 := nI_leI (b := 13) hi (by omega)
theorem kk13_Ilt {i : Nat} (hi : i < 2 ^ 31) : nI i < (13 : Int32) ↔ i < 13 := nI_ltI (b := 13) hi (by omega)
theorem kk13_ltI {i : Nat} (hi : i < 2 ^ 31) : (13 : Int32) < nI i ↔ 13 < i := nI_ltI (a := 13) (by omega) hi
theorem kk13_eq {i : Nat} (hi : i < 2 ^ 31) : nI i = (13 : Int32) ↔ i = 13 := nI_eq (b := 13) hi (by omega)
theorem q14 : (14 : Int32) = nI 14 := rfl
theorem kk14_ge {i : Nat} (h : i < 14) : ¬ (14 : Int32) ≤ nI i := nI_ge (b := 14) h (by omega)
theorem kk14_le {i : Nat} (h : 14 ≤ i) (hi : i < 2 ^ 31) : (14 : Int32) ≤ nI i := nI_le (a := 14) h hi
theorem kk14_lt {i : Nat} (h : i < 14) : nI i < (14 : Int32) := nI_lt (b := 14) h (by omega)
theorem kk14_nl {i : Nat} (h : 14 ≤ i) (hi : i < 2 ^ 31) : ¬ nI i < (14 : Int32) := nI_nlt (b := 14) h hi
theorem kk14_leI {i : Nat} (hi : i < 2 ^ 31) : (14 : Int32) ≤ nI i ↔ 14 ≤ i := nI_leI (a := 14) (by omega) hi
theorem kk14_Ile {i : Nat} (hi : i < 2 ^ 31) : nI i ≤ (14 : Int32) ↔ i ≤ 14 := nI_leI (b := 14) hi (by omega)
theorem kk14_Ilt {i : Nat} (hi : i < 2 ^ 31) : nI i < (14 : Int32) ↔ i < 14 := nI_ltI (b := 14) hi (by omega)
theorem kk14_ltI {i : Nat} (hi : i < 2 ^ 31) : (14 : Int32) < nI i ↔ 14 < i := nI_ltI (a := 14) (by omega) hi
theorem kk14_eq {i : Nat} (hi : i < 2 ^ 31) : nI i = (14 : Int32) ↔ i = 14 := nI_eq (b := 14) hi (by omega)
theorem q15 : (15 : Int32) = nI 15 := rfl
theorem kk15_ge {i : Nat} (h : i < 15) : ¬ (15 : Int32) ≤ nI i := nI_ge (b := 15) h (by omega)
theorem kk15_le {i : Nat} (h : 15 ≤ i) (hi : i < 2 ^ 31) : (15 : Int32) ≤ nI i := nI_le (a := 15) h hi
theorem kk15_lt {i : Nat} (h : i < 15) : nI i < (15 : Int32) := nI_lt (b := 15) h (by omega)
theorem kk15_nl {i : Nat} (h : 15 ≤ i) (hi : i < 2 ^ 31) : ¬ nI i < (15 : Int32) := nI_nlt (b := 15) h hi
theorem kk15_leI {i : Nat} (hi : i < 2 ^ 31) : (15 : Int32) ≤ nI i ↔ 15 ≤ i := nI_leI (a := 15) (by omega) hi
theorem kk15_Ile {i : Nat} (hi : i < 2 ^ 31) : nI i ≤ (15 : Int32) ↔ i ≤ 15 := nI_leI (b := 15) hi (by omega)
theorem kk15_Ilt {i : Nat} (hi : i < 2 ^ 31) : nI i < (15 : Int32) ↔ i < 15 := nI_ltI (b := 15) hi (by omega)
theorem kk15_ltI {i : Nat} (hi : i < 2 ^ 31) : (15 : Int32) < nI i ↔ 15 < i := nI_ltI (a := 15) (by omega) hi
theorem kk15_eq {i : Nat} (hi : i < 2 ^ 31) : nI i = (15 : Int32) ↔ i = 15 := nI_eq (b := 15) hi (by omega)
theorem q20 : (20 : Int32) = nI 20 := rfl
theorem kk20_ge {i : Nat} (h : i < 20) : ¬ (20 : Int32) ≤ nI i := nI_ge (b := 20) h (by omega)
theorem kk20_le {i : Nat} (h : 20 ≤ i) (hi : i < 2 ^ 31) : (20 : Int32) ≤ nI i := nI_le (a := 20) h hi
theorem kk20_lt {i : Nat} (h : i < 20) : nI i < (20 : Int32) := nI_lt (b := 20) h (by omega)
theorem kk20_nl {i : Nat} (h : 20 ≤ i) (hi : i < 2 ^ 31) : ¬ nI i < (20 : Int32) := nI_nlt (b := 20) h hi
theorem kk20_leI {i : Nat} (hi : i < 2 ^ 31) : (20 : Int32) ≤ nI i ↔ 20 ≤ i := nI_leI (a := 20) (by omega) hi
theorem kk20_Ile {i : Nat} (hi : i < 2 ^ 31) : nI i ≤ (20 : Int32) ↔ i ≤ 20 := nI_leI (b := 20) hi (by omega)
theorem kk20_Ilt {i : Nat} (hi : i < 2 ^ 31) : nI i < (20 : Int32) ↔ i < 20 := nI_ltI (b := 20) hi (by omega)
theorem kk20_ltI {i : Nat} (hi : i < 2 ^ 31) : (20 : Int32) < nI i ↔ 20 < i := nI_ltI (a := 20) (by omega) hi
theorem kk20_eq {i : Nat} (hi : i < 2 ^ 31) : nI i = (20 : Int32) ↔ i = 20 := nI_eq (b := 20) hi (by omega)
theorem q24 : (24 : Int32) = nI 24 := rfl
theorem kk24_ge {i : Nat} (h : i < 24) : ¬ (24 : Int32) ≤ nI i := nI_ge (b := 24) h (by omega)
theorem kk24_le {i : Nat} (h : 24 ≤ i) (hi : i < 2 ^ 31) : (24 : Int32) ≤ nI i := nI_le (a := 24) h hi
theorem kk24_lt {i : Nat} (h : i < 24) : nI i < (24 : Int32) := nI_lt (b := 24) h (by omega)
theorem kk24_nl {i : Nat} (h : 24 ≤ i) (hi : i < 2 ^ 31) : ¬ nI i < (24 : Int32) := nI_nlt (b := 24) h hi
theorem kk24_leI {i : Nat} (hi : i < 2 ^ 31) : (24 : Int32) ≤ nI i ↔ 24 ≤ i := nI_leI (a := 24) (by omega) hi
theorem kk24_Ile {i : Nat} (hi : i < 2 ^ 31) : nI i ≤ (24 : Int32) ↔ i ≤ 24 := nI_leI (b := 24) hi (by omega)
theorem kk24_Ilt {i : Nat} (hi : i < 2 ^ 31) : nI i < (24 : Int32) ↔ i < 24 := nI_ltI (b := 24) hi (by omega)
theorem kk24_ltI {i : Nat} (hi : i < 2 ^ 31) : (24 : Int32) < nI i ↔ 24 < i := nI_ltI (a := 24) (by omega) hi
theorem kk24_eq {i : Nat} (hi : i < 2 ^ 31) : nI i = (24 : Int32) ↔ i = 24 := nI_eq (b := 24) hi (by omega)
theorem q31 : (31 : Int32) = nI 31 := rfl
theorem kk31_ge {i : Nat} (h : i < 31) : ¬ (31 : Int32) ≤ nI i := nI_ge (b := 31) h (by omega)
theorem kk31_le {i : Nat} (h : 31 ≤ i) (hi : i < 2 ^ 31) : (31 : Int32) ≤ nI i := nI_le (a := 31) h hi
theorem kk31_lt {i : Nat} (h : i < 31) : nI i < (31 : Int32) := nI_lt (b := 31) h (by omega)
theorem kk31_nl {i : Nat} (h : 31 ≤ i) (hi : i < 2 ^ 31) : ¬ nI i < (31 : Int32) := nI_nlt (b := 31) h hi
theorem kk31_leI {i : Nat} (hi : i < 2 ^ 31) : (31 : Int32) ≤ nI i ↔ 31 ≤ i := nI_leI (a := 31) (by omega) hi
theorem kk31_Ile {i : Nat} (hi : i < 2 ^ 31) : nI i ≤ (31 : Int32) ↔ i ≤ 31 := nI_leI (b := 31) hi (by omega)
theorem kk31_Ilt {i : Nat} (hi : i < 2 ^ 31) : nI i < (31 : Int32) ↔ i < 31 := nI_ltI (b := 31) hi (by omega)
theorem kk31_ltI {i : Nat} (hi : i < 2 ^ 31) : (31 : Int32) < nI i ↔ 31 < i := nI_ltI (a := 31) (by omega) hi
theorem kk31_eq {i : Nat} (hi : i < 2 ^ 31) : nI i = (31 : Int32) ↔ i = 31 := nI_eq (b := 31) hi (by omega)
theorem q32 : (32 : Int32) = nI 32 := rfl
theorem kk32_ge {i : Nat} (h : i < 32) : ¬ (32 : Int32) ≤ nI i := nI_ge (b := 32) h (by omega)
theorem kk32_le {i : Nat} (h : 32 ≤ i) (hi : i < 2 ^ 31) : (32 : Int32) ≤ nI i := nI_le (a := 32) h hi
theorem kk32_lt {i : Nat} (h : i < 32) : nI i < (32 : Int32) := nI_lt (b := 32) h (by omega)
theorem kk32_nl {i : Nat} (h : 32 ≤ i) (hi : i < 2 ^ 31) : ¬ nI i < (32 : Int32) := nI_nlt (b := 32) h hi
theorem kk32_leI {i : Nat} (hi : i < 2 ^ 31) : (32 : Int32) ≤ nI i ↔ 32 ≤ i := nI_leI (a := 32) (by omega) hi
theorem kk32_Ile {i : Nat} (hi : i < 2 ^ 31) : nI i ≤ (32 : Int32) ↔ i ≤ 32 := nI_leI (b := 32) hi (by omega)
theorem kk32_Ilt {i : Nat} (hi : i < 2 ^ 31) : nI i < (32 : Int32) ↔ i < 32 := nI_ltI (b := 32) hi (by omega)
theorem kk32_ltI {i : Nat} (hi : i < 2 ^ 31) : (32 : Int32) < nI i ↔ 32 < i := nI_ltI (a := 32) (by omega) hi
theorem kk32_eq {i : Nat} (hi : i < 2 ^ 31) : nI i = (32 : Int32) ↔ i = 32 := nI_eq (b := 32) hi (by omega)
theorem q37 : (37 : Int32) = nI 37 := rfl
theorem kk37_ge {i : Nat} (h : i < 37) : ¬ (37 : Int32) ≤ nI i := nI_ge (b := 37) h (by omega)
theorem kk37_le {i : Nat} (h : 37 ≤ i) (hi : i < 2 ^ 31) : (37 : Int32) ≤ nI i := nI_le (a := 37) h hi
theorem kk37_lt {i : Nat} (h : i < 37) : nI i < (37 : Int32) := nI_lt (b := 37) h (by omega)
theorem kk37_nl {i : Nat} (h : 37 ≤ i) (hi : i < 2 ^ 31) : ¬ nI i < (37 : Int32) := nI_nlt (b := 37) h hi
theorem kk37_leI {i : Nat} (hi : i < 2 ^ 31) : (37 : Int32) ≤ nI i ↔ 37 ≤ i := nI_leI (a := 37) (by omega) hi
theorem kk37_Ile {i : Nat} (hi : i < 2 ^ 31) : nI i ≤ (37 : Int32) ↔ i ≤ 37 := nI_leI (b := 37) hi (by omega)
theorem kk37_Ilt {i : Nat} (hi : i < 2 ^ 31) : nI i < (37 : Int32) ↔ i < 37 := nI_ltI (b := 37) hi (by omega)
theorem kk37_ltI {i : Nat} (hi : i < 2 ^ 31) : (37 : Int32) < nI i ↔ 37 < i := nI_ltI (a := 37) (by omega) hi
theorem kk37_eq {i : Nat} (hi : i < 2 ^ 31) : nI i = (37 : Int32) ↔ i = 37 := nI_eq (b := 37) hi (by omega)
theorem q42 : (42 : Int32) = nI 42 := rfl
theorem kk42_ge {i : Nat} (h : i < 42) : ¬ (42 : Int32) ≤ nI i := nI_ge (b := 42) h (by omega)
theorem kk42_le {i : Nat} (h : 42 ≤ i) (hi : i < 2 ^ 31) : (42 : Int32) ≤ nI i := nI_le (a := 42) h hi
theorem kk42_lt {i : Nat} (h : i < 42) : nI i < (42 : Int32) := nI_lt (b := 42) h (by omega)
theorem kk42_nl {i : Nat} (h : 42 ≤ i) (hi : i < 2 ^ 31) : ¬ nI i < (42 : Int32) := nI_nlt (b := 42) h hi
theorem kk42_leI {i : Nat} (hi : i < 2 ^ 31) : (42 : Int32) ≤ nI i ↔ 42 ≤ i := nI_leI (a := 42) (by omega) hi
theorem kk42_Ile {i : Nat} (hi : i < 2 ^ 31) : nI i ≤ (42 : Int32) ↔ i ≤ 42 := nI_leI (b := 42) hi (by omega)
theorem kk42_Ilt {i : Nat} (hi : i < 2 ^ 31) : nI i < (42 : Int32) ↔ i < 42 := nI_ltI (b := 42) hi (by omega)
theorem kk42_ltI {i : Nat} (hi : i < 2 ^ 31) : (42 : Int32) < nI i ↔ 42 < i := nI_ltI (a := 42) (by omega) hi
theorem kk42_eq {i : Nat} (hi : i < 2 ^ 31) : nI i = (42 : Int32) ↔ i = 42 := nI_eq (b := 42) hi (by omega)
theorem q47 : (47 : Int32) = nI 47 := rfl
theorem kk47_ge {i : Nat} (h : i < 47) : ¬ (47 : Int32) ≤ nI i := nI_ge (b := 47) h (by omega)
theorem kk47_le {i : Nat} (h : 47 ≤ i) (hi : i < 2 ^ 31) : (47 : Int32) ≤ nI i := nI_le (a := 47) h hi
theorem kk47_lt {i : Nat} (h : i < 47) : nI i < (47 : Int32) := nI_lt (b := 47) h (by omega)
theorem kk47_nl {i : Nat} (h : 47 ≤ i) (hi : i < 2 ^ 31) : ¬ nI i < (47 : Int32) := nI_nlt (b := 47) h hi
theorem kk47_leI {i : Nat} (hi : i < 2 ^ 31) : (47 : Int32) ≤ nI i ↔ 47 ≤ i := nI_leI (a := 47) (by omega) hi
theorem kk47_Ile {i : Nat} (hi : i < 2 ^ 31) : nI i ≤ (47 : Int32) ↔ i ≤ 47 := nI_leI (b := 47) hi (by omega)
theorem kk47_Ilt {i : Nat} (hi : i < 2 ^ 31) : nI i < (47 : Int32) ↔ i < 47 := nI_ltI (b := 47) hi (by omega)
theorem kk47_ltI {i : Nat} (hi : i < 2 ^ 31) : (47 : Int32) < nI i ↔ 47 < i := nI_ltI (a := 47) (by omega) hi
theorem kk47_eq {i : Nat} (hi : i < 2 ^ 31) : nI i = (47 : Int32) ↔ i = 47 := nI_eq (b := 47) hi (by omega)
theorem q48 : (48 : Int32) = nI 48 := rfl
theorem kk48_ge {i : Nat} (h : i < 48) : ¬ (48 : Int32) ≤ nI i := nI_ge (b := 48) h (by omega)
theorem kk48_le {i : Nat} (h : 48 ≤ i) (hi : i < 2 ^ 31) : (48 : Int32) ≤ nI i := nI_le (a := 48) h hi
theorem kk48_lt {i : Nat} (h : i < 48) : nI i < (48 : Int32) := nI_lt (b := 48) h (by omega)
theorem kk48_nl {i : Nat} (h : 48 ≤ i) (hi : i < 2 ^ 31) : ¬ nI i < (48 : Int32) := nI_nlt (b := 48) h hi
theorem kk48_leI {i : Nat} (hi : i < 2 ^ 31) : (48 : Int32) ≤ nI i ↔ 48 ≤ i := nI_leI (a := 48) (by omega) hi
theorem kk48_Ile {i : Nat} (hi : i < 2 ^ 31) : nI i ≤ (48 : Int32) ↔ i ≤ 48 := nI_leI (b := 48) hi (by omega)
theorem kk48_Ilt {i : Nat} (hi : i < 2 ^ 31) : nI i < (48 : Int32) ↔ i < 48 := nI_ltI (b := 48) hi (by omega)
theorem kk48_ltI {i : Nat} (hi : i < 2 ^ 31) : (48 : Int32) < nI i ↔ 48 < i := nI_ltI (a := 48) (by omega) hi
theorem kk48_eq {i : Nat} (hi : i < 2 ^ 31) : nI i = (48 : Int32) ↔ i = 48 := nI_eq (b := 48) hi (by omega)
theorem q49 : (49 : Int32) = nI 49 := rfl
theorem kk49_ge {i : Nat} (h : i < 49) : ¬ (49 : Int32) ≤ nI i := nI_ge (b := 49) h (by omega)
theorem kk49_le {i : Nat} (h : 49 ≤ i) (hi : i < 2 ^ 31) : (49 : Int32) ≤ nI i := nI_le (a := 49) h hi
theorem kk49_lt {i : Nat} (h : i < 49) : nI i < (49 : Int32) := nI_lt (b := 49) h (by omega)
theorem kk49_nl {i : Nat} (h : 49 ≤ i) (hi : i < 2 ^ 31) : ¬ nI i < (49 : Int32) := nI_nlt (b := 49) h hi
theorem kk49_leI {i : Nat} (hi : i < 2 ^ 31) : (49 : Int32) ≤ nI i ↔ 49 ≤ i := nI_leI (a := 49) (by omega) hi
theorem kk49_Ile {i : Nat} (hi : i < 2 ^ 31) : nI i ≤ (49 : Int32) ↔ i ≤ 49 := nI_leI (b := 49) hi (by omega)
theorem kk49_Ilt {i : Nat} (hi : i < 2 ^ 31) : nI i < (49 : Int32) ↔ i < 49 := nI_ltI (b := 49) hi (by omega)
theorem kk49_ltI {i : Nat} (hi : i < 2 ^ 31) : (49 : Int32) < nI i ↔ 49 < i := nI_ltI (a := 49) (by omega) hi
theorem kk49_eq {i : Nat} (hi : i < 2 ^ 31) : nI i = (49 : Int32) ↔ i = 49 := nI_eq (b := 49) hi (by omega)
theorem q50 : (50 : Int32) = nI 50 := rfl
theorem kk50_ge {i : Nat} (h : i < 50) : ¬ (50 : Int32) ≤ nI i := nI_ge (b := 50) h (by omega)
theorem kk50_le {i : Nat} (h : 50 ≤ i) (hi : i < 2 ^ 31) : (50 : Int32) ≤ nI i := nI_le (a := 50) h hi
theorem kk50_lt {i : Nat} (h : i < 50) : nI i < (50 : Int32) := nI_lt (b := 50) h (by omega)
theorem kk50_nl {i : Nat} (h : 50 ≤ i) (hi : i < 2 ^ 31) : ¬ nI i < (50 : Int32) := nI_nlt (b := 50) h hi
theorem kk50_leI {i : Nat} (hi : i < 2 ^ 31) : (50 : Int32) ≤ nI i ↔ 50 ≤ i := nI_leI (a := 50) (by omega) hi
theorem kk50_Ile {i : Nat} (hi : i < 2 ^ 31) : nI i ≤ (50 : Int32) ↔ i ≤ 50 := nI_leI (b := 50) hi (by omega)
theorem kk50_Ilt {i : Nat} (hi : i < 2 ^ 31) : nI i < (50 : Int32) ↔ i < 50 := nI_ltI (b := 50) hi (by omega)
theorem kk50_ltI {i : Nat} (hi : i < 2 ^ 31) : (50 : Int32) < nI i ↔ 50 < i := nI_ltI (a := 50) (by omega) hi
theorem kk50_eq {i : Nat} (hi : i < 2 ^ 31) : nI i = (50 : Int32) ↔ i = 50 := nI_eq (b := 50) hi (by omega)
theorem q56 : (56 : Int32) = nI 56 := rfl
theorem kk56_ge {i : Nat} (h : i < 56) : ¬ (56 : Int32) ≤ nI i := nI_ge (b := 56) h (by omega)
theorem kk56_le {i : Nat} (h : 56 ≤ i) (hi : i < 2 ^ 31) : (56 : Int32) ≤ nI i := nI_le (a := 56) h hi
theorem kk56_lt {i : Nat} (h : i < 56) : nI i < (56 : Int32) := nI_lt (b := 56) h (by omega)
theorem kk56_nl {i : Nat} (h : 56 ≤ i) (hi : i < 2 ^ 31) : ¬ nI i < (56 : Int32) := nI_nlt (b := 56) h hi
theorem kk56_leI {i : Nat} (hi : i < 2 ^ 31) : (56 : Int32) ≤ nI i ↔ 56 ≤ i := nI_leI (a := 56) (by omega) hi
theorem kk56_Ile {i : Nat} (hi : i < 2 ^ 31) : nI i ≤ (56 : Int32) ↔ i ≤ 56 := nI_leI (b := 56) hi (by omega)
theorem kk56_Ilt {i : Nat} (hi : i < 2 ^ 31) : nI i < (56 : Int32) ↔ i < 56 := nI_ltI (b := 56) hi (by omega)
theorem kk56_ltI {i : Nat} (hi : i < 2 ^ 31) : (56 : Int32) < nI i ↔ 56 < i := nI_ltI (a := 56) (by omega) hi
theorem kk56_eq {i : Nat} (hi : i < 2 ^ 31) : nI i = (56 : Int32) ↔ i = 56 := nI_eq (b := 56) hi (by omega)
theorem q74 : (74 : Int32) = nI 74 := rfl
theorem kk74_ge {i : Nat} (h : i < 74) : ¬ (74 : Int32) ≤ nI i := nI_ge (b := 74) h (by omega)
theorem kk74_le {i : Nat} (h : 74 ≤ i) (hi : i < 2 ^ 31) : (74 : Int32) ≤ nI i := nI_le (a := 74) h hi
theorem kk74_lt {i : Nat} (h : i < 74) : nI i < (74 : Int32) := nI_lt (b := 74) h (by omega)
theorem kk74_nl {i : Nat} (h : 74 ≤ i) (hi : i < 2 ^ 31) : ¬ nI i < (74 : Int32) := nI_nlt (b := 74) h hi
theorem kk74_leI {i : Nat} (hi : i < 2 ^ 31) : (74 : Int32) ≤ nI i ↔ 74 ≤ i := nI_leI (a := 74) (by omega) hi
theorem kk74_Ile {i : Nat} (hi : i < 2 ^ 31) : nI i ≤ (74 : Int32) ↔ i ≤ 74 := nI_leI (b := 74) hi (by omega)
theorem kk74_Ilt {i : Nat} (hi : i < 2 ^ 31) : nI i < (74 : Int32) ↔ i < 74 := nI_ltI (b := 74) hi (by omega)
theorem kk74_ltI {i : Nat} (hi : i < 2 ^ 31) : (74 : Int32) < nI i ↔ 74 < i := nI_ltI (a := 74) (by omega) hi
theorem kk74_eq {i : Nat} (hi : i < 2 ^ 31) : nI i = (74 : Int32) ↔ i = 74 := nI_eq (b := 74) hi (by omega)
theorem q75 : (75 : Int32) = nI 75 := rfl
theorem kk75_ge {i : Nat} (h : i < 75) : ¬ (75 : Int32) ≤ nI i := nI_ge (b := 75) h (by omega)
theorem kk75_le {i : Nat} (h : 75 ≤ i) (hi : i < 2 ^ 31) : (75 : Int32) ≤ nI i := nI_le (a := 75) h hi
theorem kk75_lt {i : Nat} (h : i < 75) : nI i < (75 : Int32) := nI_lt (b := 75) h (by omega)
theorem kk75_nl {i : Nat} (h : 75 ≤ i) (hi : i < 2 ^ 31) : ¬ nI i < (75 : Int32) := nI_nlt (b := 75) h hi
theorem kk75_leI {i : Nat} (hi : i < 2 ^ 31) : (75 : Int32) ≤ nI i ↔ 75 ≤ i := nI_leI (a := 75) (by omega) hi
theorem kk75_Ile {i : Nat} (hi : i < 2 ^ 31) : nI i ≤ (75 : Int32) ↔ i ≤ 75 := nI_leI (b := 75) hi (by omega)
theorem kk75_Ilt {i : Nat} (hi : i < 2 ^ 31) : nI i < (75 : Int32) ↔ i < 75 := nI_ltI (b := 75) hi (by omega)
theorem kk75_ltI {i : Nat} (hi : i < 2 ^ 31) : (75 : Int32) < nI i ↔ 75 < i := nI_ltI (a := 75) (by omega) hi
theorem kk75_eq {i : Nat} (hi : i < 2 ^ 31) : nI i = (75 : Int32) ↔ i = 75 := nI_eq (b := 75) hi (by omega)
theorem q100 : (100 : Int32) = nI 100 := rfl
theorem kk100_ge {i : Nat} (h : i < 100) : ¬ (100 : Int32) ≤ nI i := nI_ge (b := 100) h (by omega)
theorem kk100_le {i : Nat} (h : 100 ≤ i) (hi : i < 2 ^ 31) : (100 : Int32) ≤ nI i := nI_le (a := 100) h hi
theorem kk100_lt {i : Nat} (h : i < 100) : nI i < (100 : Int32) := nI_lt (b := 100) h (by omega)
theorem kk100_nl {i : Nat} (h : 100 ≤ i) (hi : i < 2 ^ 31) : ¬ nI i < (100 : Int32) := nI_nlt (b := 100) h hi
theorem kk100_leI {i : Nat} (hi : i < 2 ^ 31) : (100 : Int32) ≤ nI i ↔ 100 ≤ i := nI_leI (a := 100) (by omega) hi
theorem kk100_Ile {i : Nat} (hi : i < 2 ^ 31) : nI i ≤ (100 : Int32) ↔ i ≤ 100 := nI_leI (b := 100) hi (by omega)
theorem kk100_Ilt {i : Nat} (hi : i < 2 ^ 31) : nI i < (100 : Int32) ↔ i < 100 := nI_ltI (b := 100) hi (by omega)
theorem kk100_ltI {i : Nat} (hi : i < 2 ^ 31) : (100 : Int32) < nI i ↔ 100 < i := nI_ltI (a := 100) (by omega) hi
theorem kk100_eq {i : Nat} (hi : i < 2 ^ 31) : nI i = (100 : Int32) ↔ i = 100 := nI_eq (b := 100) hi (by omega)
theorem q126 : (126 : Int32) = nI 126 := rfl
theorem kk126_ge {i : Nat} (h : i < 126) : ¬ (126 : Int32) ≤ nI i := nI_ge (b := 126) h (by omega)
theorem kk126_le {i : Nat} (h : 126 ≤ i) (hi : i < 2 ^ 31) : (126 : Int32) ≤ nI i := nI_le (a := 126) h hi
theorem kk126_lt {i : Nat} (h : i < 126) : nI i < (126 : Int32) := nI_lt (b := 126) h (by omega)
theorem kk126_nl {i : Nat} (h : 126 ≤ i) (hi : i < 2 ^ 31) : ¬ nI i < (126 : Int32) := nI_nlt (b := 126) h hi
theorem kk126_leI {i : Nat} (hi : i < 2 ^ 31) : (126 : Int32) ≤ nI i ↔ 126 ≤ i := nI_leI (a := 126) (by omega) hi
theorem kk126_Ile {i : Nat} (hi : i < 2 ^ 31) : nI i ≤ (126 : Int32) ↔ i ≤ 126 := nI_leI (b := 126) hi (by omega)
theorem kk126_Ilt {i : Nat} (hi : i < 2 ^ 31) : nI i < (126 : Int32) ↔ i < 126 := nI_ltI (b := 126) hi (by omega)
theorem kk126_ltI {i : Nat} (hi : i < 2 ^ 31) : (126 : Int32) < nI i ↔ 126 < i := nI_ltI (a := 126) (by omega) hi
theorem kk126_eq {i : Nat} (hi : i < 2 ^ 31) : nI i = (126 : Int32) ↔ i = 126 := nI_eq (b := 126) hi (by omega)
theorem q144 : (144 : Int32) = nI 144 := rfl
theorem kk144_ge {i : Nat} (h : i < 144) : ¬ (144 : Int32) ≤ nI i := nI_ge (b := 144) h (by omega)
theorem kk144_le {i : Nat} (h : 144 ≤ i) (hi : i < 2 ^ 31) : (144 : Int32) ≤ nI i := nI_le (a := 144) h hi
theorem kk144_lt {i : Nat} (h : i < 144) : nI i < (144 : Int32) := nI_lt (b := 144) h (by omega)
theorem kk144_nl {i : Nat} (h : 144 ≤ i) (hi : i < 2 ^ 31) : ¬ nI i < (144 : Int32) := nI_nlt (b := 144) h hi
theorem kk144_leI {i : Nat} (hi : i < 2 ^ 31) : (144 : Int32) ≤ nI i ↔ 144 ≤ i := nI_leI (a := 144) (by omega) hi
theorem kk144_Ile {i : Nat} (hi : i < 2 ^ 31) : nI i ≤ (144 : Int32) ↔ i ≤ 144 := nI_leI (b := 144) hi (by omega)
theorem kk144_Ilt {i : Nat} (hi : i < 2 ^ 31) : nI i < (144 : Int32) ↔ i < 144 := nI_ltI (b := 144) hi (by omega)
theorem kk144_ltI {i : Nat} (hi : i < 2 ^ 31) : (144 : Int32) < nI i ↔ 144 < i := nI_ltI (a := 144) (by omega) hi
theorem kk144_eq {i : Nat} (hi : i < 2 ^ 31) : nI i = (144 : Int32) ↔ i = 144 := nI_eq (b := 144) hi (by omega)
theorem q148 : (148 : Int32) = nI 148 := rfl
theorem kk148_ge {i : Nat} (h : i < 148) : ¬ (148 : Int32) ≤ nI i := nI_ge (b := 148) h (by omega)
theorem kk148_le {i : Nat} (h : 148 ≤ i) (hi : i < 2 ^ 31) : (148 : Int32) ≤ nI i := nI_le (a := 148) h hi
theorem kk148_lt {i : Nat} (h : i < 148) : nI i < (148 : Int32) := nI_lt (b := 148) h (by omega)
theorem kk148_nl {i : Nat} (h : 148 ≤ i) (hi : i < 2 ^ 31) : ¬ nI i < (148 : Int32) := nI_nlt (b := 148) h hi
theorem kk148_leI {i : Nat} (hi : i < 2 ^ 31) : (148 : Int32) ≤ nI i ↔ 148 ≤ i := nI_leI (a := 148) (by omega) hi
theorem kk148_Ile {i : Nat} (hi : i < 2 ^ 31) : nI i ≤ (148 : Int32) ↔ i ≤ 148 := nI_leI (b := 148) hi (by omega)
theorem kk148_Ilt {i : Nat} (hi : i < 2 ^ 31) : nI i < (148 : Int32) ↔ i < 148 := nI_ltI (b := 148) hi (by omega)
theorem kk148_ltI {i : Nat} (hi : i < 2 ^ 31) : (148 : Int32) < nI i ↔ 148 < i := nI_ltI (a := 148) (by omega) hi
theorem kk148_eq {i : Nat} (hi : i < 2 ^ 31) : nI i = (148 : Int32) ↔ i = 148 := nI_eq (b := 148) hi (by omega)
theorem q160 : (160 : Int32) = nI 160 := rfl
theorem kk160_ge {i : Nat} (h : i < 160) : ¬ (160 : Int32) ≤ nI i := nI_ge (b := 160) h (by omega)
theorem kk160_le {i : Nat} (h : 160 ≤ i) (hi : i < 2 ^ 31) : (160 : Int32) ≤ nI i := nI_le (a := 160) h hi
theorem kk160_lt {i : Nat} (h : i < 160) : nI i < (160 : Int32) := nI_lt (b := 160) h (by omega)
theorem kk160_nl {i : Nat} (h : 160 ≤ i) (hi : i < 2 ^ 31) : ¬ nI i < (160 : Int32) := nI_nlt (b := 160) h hi
theorem kk160_leI {i : Nat} (hi : i < 2 ^ 31) : (160 : Int32) ≤ nI i ↔ 160 ≤ i := nI_leI (a := 160) (by omega) hi
theorem kk160_Ile {i : Nat} (hi : i < 2 ^ 31) : nI i ≤ (160 : Int32) ↔ i ≤ 160 := nI_leI (b := 160) hi (by omega)
theorem kk160_Ilt {i : Nat} (hi : i < 2 ^ 31) : nI i < (160 : Int32) ↔ i < 160 := nI_ltI (b := 160) hi (by omega)
theorem kk160_ltI {i : Nat} (hi : i < 2 ^ 31) : (160 : Int32) < nI i ↔ 160 < i := nI_ltI (a := 160) (by omega) hi
theorem kk160_eq {i : Nat} (hi : i < 2 ^ 31) : nI i = (160 : Int32) ↔ i = 160 := nI_eq (b := 160) hi (by omega)
theorem q196 : (196 : Int32) = nI 196 := rfl
theorem kk196_ge {i : Nat} (h : i < 196) : ¬ (196 : Int32) ≤ nI i := nI_ge (b := 196) h (by omega)
theorem kk196_le {i : Nat} (h : 196 ≤ i) (hi : i < 2 ^ 31) : (196 : Int32) ≤ nI i := nI_le (a := 196) h hi
theorem kk196_lt {i : Nat} (h : i < 196) : nI i < (196 : Int32) := nI_lt (b := 196) h (by omega)
theorem kk196_nl {i : Nat} (h : 196 ≤ i) (hi : i < 2 ^ 31) : ¬ nI i < (196 : Int32) := nI_nlt (b := 196) h hi
theorem kk196_leI {i : Nat} (hi : i < 2 ^ 31) : (196 : Int32) ≤ nI i ↔ 196 ≤ i := nI_leI (a := 196) (by omega) hi
theorem kk196_Ile {i : Nat} (hi : i < 2 ^ 31) : nI i ≤ (196 : Int32) ↔ i ≤ 196 := nI_leI (b := 196) hi (by omega)
theorem kk196_Ilt {i : Nat} (hi : i < 2 ^ 31) : nI i < (196 : Int32) ↔ i < 196 := nI_ltI (b := 196) hi (by omega)
theorem kk196_ltI {i : Nat} (hi : i < 2 ^ 31) : (196 : Int32) < nI i ↔ 196 < i := nI_ltI (a := 196) (by omega) hi
theorem kk196_eq {i : Nat} (hi : i < 2 ^ 31) : nI i = (196 : Int32) ↔ i = 196 := nI_eq (b := 196) hi (by omega)
theorem q200 : (200 : Int32) = nI 200 := rfl
theorem kk200_ge {i : Nat} (h : i < 200) : ¬ (200 : Int32) ≤ nI i := nI_ge (b := 200) h (by omega)
theorem kk200_le {i : Nat} (h : 200 ≤ i) (hi : i < 2 ^ 31) : (200 : Int32) ≤ nI i := nI_le (a := 200) h hi
theorem kk200_lt {i : Nat} (h : i < 200) : nI i < (200 : Int32) := nI_lt (b := 200) h (by omega)
theorem kk200_nl {i : Nat} (h : 200 ≤ i) (hi : i < 2 ^ 31) : ¬ nI i < (200 : Int32) := nI_nlt (b := 200) h hi
theorem kk200_leI {i : Nat} (hi : i < 2 ^ 31) : (200 : Int32) ≤ nI i ↔ 200 ≤ i := nI_leI (a := 200) (by omega) hi
theorem kk200_Ile {i : Nat} (hi : i < 2 ^ 31) : nI i ≤ (200 : Int32) ↔ i ≤ 200 := nI_leI (b := 200) hi (by omega)
theorem kk200_Ilt {i : Nat} (hi : i < 2 ^ 31) : nI i < (200 : Int32) ↔ i < 200 := nI_ltI (b := 200) hi (by omega)
theorem kk200_ltI {i : Nat} (hi : i < 2 ^ 31) : (200 : Int32) < nI i ↔ 200 < i := nI_ltI (a := 200) (by omega) hi
theorem kk200_eq {i : Nat} (hi : i < 2 ^ 31) : nI i = (200 : Int32) ↔ i = 200 := nI_eq (b := 200) hi (by omega)
theorem q232 : (232 : Int32) = nI 232 := rfl
theorem kk232_ge {i : Nat} (h : i < 232) : ¬ (232 : Int32) ≤ nI i := nI_ge (b := 232) h (by omega)
theorem kk232_le {i : Nat} (h : 232 ≤ i) (hi : i < 2 ^ 31) : (232 : Int32) ≤ nI i := nI_le (a := 232) h hi
theorem kk232_lt {i : Nat} (h : i < 232) : nI i < (232 : Int32) := nI_lt (b := 232) h (by omega)
theorem kk232_nl {i : Nat} (h : 232 ≤ i) (hi : i < 2 ^ 31) : ¬ nI i < (232 : Int32) := nI_nlt (b := 232) h hi
theorem kk232_leI {i : Nat} (hi : i < 2 ^ 31) : (232 : Int32) ≤ nI i ↔ 232 ≤ i := nI_leI (a := 232) (by omega) hi
theorem kk232_Ile {i : Nat} (hi : i < 2 ^ 31) : nI i ≤ (232 : Int32) ↔ i ≤ 232 := nI_leI (b := 232) hi (by omega)
theorem kk232_Ilt {i : Nat} (hi : i < 2 ^ 31) : nI i < (232 : Int32) ↔ i < 232 := nI_ltI (b := 232) hi (by omega)
theorem kk232_ltI {i : Nat} (hi : i < 2 ^ 31) : (232 : Int32) < nI i ↔ 232 < i := nI_ltI (a := 232) (by omega) hi
theorem kk232_eq {i : Nat} (hi : i < 2 ^ 31) : nI i = (232 : Int32) ↔ i = 232 := nI_eq (b := 232) hi (by omega)
theorem q244 : (244 : Int32) = nI 244 := rfl
theorem kk244_ge {i : Nat} (h : i < 244) : ¬ (244 : Int32) ≤ nI i := nI_ge (b := 244) h (by omega)
theorem kk244_le {i : Nat} (h : 244 ≤ i) (hi : i < 2 ^ 31) : (244 : Int32) ≤ nI i := nI_le (a := 244) h hi
theorem kk244_lt {i : Nat} (h : i < 244) : nI i < (244 : Int32) := nI_lt (b := 244) h (by omega)
theorem kk244_nl {i : Nat} (h : 244 ≤ i) (hi : i < 2 ^ 31) : ¬ nI i < (244 : Int32) := nI_nlt (b := 244) h hi
theorem kk244_leI {i : Nat} (hi : i < 2 ^ 31) : (244 : Int32) ≤ nI i ↔ 244 ≤ i := nI_leI (a := 244) (by omega) hi
theorem kk244_Ile {i : Nat} (hi : i < 2 ^ 31) : nI i ≤ (244 : Int32) ↔ i ≤ 244 := nI_leI (b := 244) hi (by omega)
theorem kk244_Ilt {i : Nat} (hi : i < 2 ^ 31) : nI i < (244 : Int32) ↔ i < 244 := nI_ltI (b := 244) hi (by omega)
theorem kk244_ltI {i : Nat} (hi : i < 2 ^ 31) : (244 : Int32) < nI i ↔ 244 < i := nI_ltI (a := 244) (by omega) hi
theorem kk244_eq {i : Nat} (hi : i < 2 ^ 31) : nI i = (244 : Int32) ↔ i = 244 := nI_eq (b := 244) hi (by omega)
theorem q732 : (732 : Int32) = nI 732 := rfl
theorem kk732_ge {i : Nat} (h : i < 732) : ¬ (732 : Int32) ≤ nI i := nI_ge (b := 732) h (by omega)
theorem kk732_le {i : Nat} (h : 732 ≤ i) (hi : i < 2 ^ 31) : (732 : Int32) ≤ nI i := nI_le (a := 732) h hi
theorem kk732_lt {i : Nat} (h : i < 732) : nI i < (732 : Int32) := nI_lt (b := 732) h (by omega)
theorem kk732_nl {i : Nat} (h : 732 ≤ i) (hi : i < 2 ^ 31) : ¬ nI i < (732 : Int32) := nI_nlt (b := 732) h hi
theorem kk732_leI {i : Nat} (hi : i < 2 ^ 31) : (732 : Int32) ≤ nI i ↔ 732 ≤ i := nI_leI (a := 732) (by omega) hi
theorem kk732_Ile {i : Nat} (hi : i < 2 ^ 31) : nI i ≤ (732 : Int32) ↔ i ≤ 732 := nI_leI (b := 732) hi (by omega)
theorem kk732_Ilt {i : Nat} (hi : i < 2 ^ 31) : nI i < (732 : Int32) ↔ i < 732 := nI_ltI (b := 732) hi (by omega)
theorem kk732_ltI {i : Nat} (hi : i < 2 ^ 31) : (732 : Int32) < nI i ↔ 732 < i := nI_ltI (a := 732) (by omega) hi
theorem kk732_eq {i : Nat} (hi : i < 2 ^ 31) : nI i = (732 : Int32) ↔ i = 732 := nI_eq (b := 732) hi (by omega)
theorem q976 : (976 : Int32) = nI 976 := rfl
theorem kk976_ge {i : Nat} (h : i < 976) : ¬ (976 : Int32) ≤ nI i := nI_ge (b := 976) h (by omega)
theorem kk976_le {i : Nat} (h : 976 ≤ i) (hi : i < 2 ^ 31) : (976 : Int32) ≤ nI i := nI_le (a := 976) h hi
theorem kk976_lt {i : Nat} (h : i < 976) : nI i < (976 : Int32) := nI_lt (b := 976) h (by omega)
theorem kk976_nl {i : Nat} (h : 976 ≤ i) (hi : i < 2 ^ 31) : ¬ nI i < (976 : Int32) := nI_nlt (b := 976) h hi
theorem kk976_leI {i : Nat} (hi : i < 2 ^ 31) : (976 : Int32) ≤ nI i ↔ 976 ≤ i := nI_leI (a := 976) (by omega) hi
theorem kk976_Ile {i : Nat} (hi : i < 2 ^ 31) : nI i ≤ (976 : Int32) ↔ i ≤ 976 := nI_leI (b := 976) hi (by omega)
theorem kk976_Ilt {i : Nat} (hi : i < 2 ^ 31) : nI i < (976 : Int32) ↔ i < 976 := nI_ltI (b := 976) hi (by omega)
theorem kk976_ltI {i : Nat} (hi : i < 2 ^ 31) : (976 : Int32) < nI i ↔ 976 < i := nI_ltI (a := 976) (by omega) hi
theorem kk976_eq {i : Nat} (hi : i < 2 ^ 31) : nI i = (976 : Int32) ↔ i = 976 := nI_eq (b := 976) hi (by omega)
theorem q65535 : (65535 : Int32) = nI 65535 := rfl
theorem kk65535_ge {i : Nat} (h : i < 65535) : ¬ (65535 : Int32) ≤ nI i := nI_ge (b := 65535) h (by omega)
theorem kk65535_le {i : Nat} (h : 65535 ≤ i) (hi : i < 2 ^ 31) : (65535 : Int32) ≤ nI i := nI_le (a := 65535) h hi
theorem kk65535_lt {i : Nat} (h : i < 65535) : nI i < (65535 : Int32) := nI_lt (b := 65535) h (by omega)
theorem kk65535_nl {i : Nat} (h : 65535 ≤ i) (hi : i < 2 ^ 31) : ¬ nI i < (65535 : Int32) := nI_nlt (b := 65535) h hi
theorem kk65535_leI {i : Nat} (hi : i < 2 ^ 31) : (65535 : Int32) ≤ nI i ↔ 65535 ≤ i := nI_leI (a := 65535) (by omega) hi
theorem kk65535_Ile {i : Nat} (hi : i < 2 ^ 31) : nI i ≤ (65535 : Int32) ↔ i ≤ 65535 := nI_leI (b := 65535) hi (by omega)
theorem kk65535_Ilt {i : Nat} (hi : i < 2 ^ 31) : nI i < (65535 : Int32) ↔ i < 65535 := nI_ltI (b := 65535) hi (by omega)
theorem kk65535_ltI {i : Nat} (hi : i < 2 ^ 31) : (65535 : Int32) < nI i ↔ 65535 < i := nI_ltI (a := 65535) (by omega) hi
theorem kk65535_eq {i : Nat} (hi : i < 2 ^ 31) : nI i = (65535 : Int32) ↔ i = 65535 := nI_eq (b := 65535) hi (by omega)
theorem q65537 : (65537 : Int32) = nI 65537 := rfl
theorem kk65537_ge {i : Nat} (h : i < 65537) : ¬ (65537 : Int32) ≤ nI i := nI_ge (b := 65537) h (by omega)
theorem kk65537_le {i : Nat} (h : 65537 ≤ i) (hi : i < 2 ^ 31) : (65537 : Int32) ≤ nI i := nI_le (a := 65537) h hi
theorem kk65537_lt {i : Nat} (h : i < 65537) : nI i < (65537 : Int32) := nI_lt (b := 65537) h (by omega)
theorem kk65537_nl {i : Nat} (h : 65537 ≤ i) (hi : i < 2 ^ 31) : ¬ nI i < (65537 : Int32) := nI_nlt (b := 65537) h hi
theorem kk65537_leI {i : Nat} (hi : i < 2 ^ 31) : (65537 : Int32) ≤ nI i ↔ 65537 ≤ i := nI_leI (a := 65537) (by omega) hi
theorem kk65537_Ile {i : Nat} (hi : i < 2 ^ 31) : nI i ≤ (65537 : Int32) ↔ i ≤ 65537 := nI_leI (b := 65537) hi (by omega)
theorem kk65537_Ilt {i : Nat} (hi : i < 2 ^ 31) : nI i < (65537 : Int32) ↔ i < 65537 := nI_ltI (b := 65537) hi (by omega)
theorem kk65537_ltI {i : Nat} (hi : i < 2 ^ 31) : (65537 : Int32) < nI i ↔ 65537 < i := nI_ltI (a := 65537) (by omega) hi
theorem kk65537_eq {i : Nat} (hi : i < 2 ^ 31) : nI i = (65537 : Int32) ↔ i = 65537 := nI_eq (b := 65537) hi (by omega)
