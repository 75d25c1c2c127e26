/-! layer 2, pure: what a mirror comes to; loops that count; numbers in range -/
def Ev {Z : Type} (o : Option Z) (Q : Z → Prop) : Prop := ∃ z, o = some z ∧ Q z
theorem Ev.some {Z : Type} {z : Z} {Q : Z → Prop} (h : Q z) : Ev (some z) Q := ⟨z, rfl, h⟩
theorem Ev.mono {Z : Type} {o : Option Z} {Q R : Z → Prop} (h : Ev o Q) (k : ∀ z, Q z → R z) : Ev o R := by
  obtain ⟨z, h1, h2⟩ := h
  exact ⟨z, h1, k z h2⟩
theorem Ev.eq {Z : Type} {o : Option Z} {z : Z} (h : Ev o (fun y => y = z)) : o = Option.some z := by
  obtain ⟨y, h1, rfl⟩ := h
  exact h1
theorem Ev.of {Z : Type} {o : Option Z} {z : Z} (h : o = Option.some z) : Ev o (fun y => y = z) := ⟨z, h, rfl⟩
theorem Ev.at {Z : Type} {o o' : Option Z} {Q : Z → Prop} (e : o = o') (h : Ev o' Q) : Ev o Q := by rw [e]; exact h
theorem Ev.bd1 {T0 Z : Type} {o : Option (T0)} {k : T0 → Option Z} {Q : Z → Prop} {G : (T0) → Prop} (h : Ev o G) (g : ∀ t : T0, G t → Ev (k t) Q) : Ev (bd1 o k) Q := by
  obtain ⟨t, rfl, h2⟩ := h
  exact g t h2
theorem Ev.bd2 {T0 T1 Z : Type} {o : Option (T0 × T1)} {k : T0 → T1 → Option Z} {Q : Z → Prop} {G : (T0 × T1) → Prop} (h : Ev o G) (g : ∀ t : T0 × T1, G t → Ev (k t.1 t.2) Q) : Ev (bd2 o k) Q := by
  obtain ⟨t, rfl, h2⟩ := h
  exact g t h2
theorem Ev.bd3 {T0 T1 T2 Z : Type} {o : Option (T0 × T1 × T2)} {k : T0 → T1 → T2 → Option Z} {Q : Z → Prop} {G : (T0 × T1 × T2) → Prop} (h : Ev o G) (g : ∀ t : T0 × T1 × T2, G t → Ev (k t.1 t.2.1 t.2.2) Q) : Ev (bd3 o k) Q := by
  obtain ⟨t, rfl, h2⟩ := h
  exact g t h2
theorem Ev.bd4 {T0 T1 T2 T3 Z : Type} {o : Option (T0 × T1 × T2 × T3)} {k : T0 → T1 → T2 → T3 → Option Z} {Q : Z → Prop} {G : (T0 × T1 × T2 × T3) → Prop} (h : Ev o G) (g : ∀ t : T0 × T1 × T2 × T3, G t → Ev (k t.1 t.2.1 t.2.2.1 t.2.2.2) Q) : Ev (bd4 o k) Q := by
  obtain ⟨t, rfl, h2⟩ := h
  exact g t h2
theorem Ev.bd5 {T0 T1 T2 T3 T4 Z : Type} {o : Option (T0 × T1 × T2 × T3 × T4)} {k : T0 → T1 → T2 → T3 → T4 → Option Z} {Q : Z → Prop} {G : (T0 × T1 × T2 × T3 × T4) → Prop} (h : Ev o G) (g : ∀ t : T0 × T1 × T2 × T3 × T4, G t → Ev (k t.1 t.2.1 t.2.2.1 t.2.2.2.1 t.2.2.2.2) Q) : Ev (bd5 o k) Q := by
  obtain ⟨t, rfl, h2⟩ := h
  exact g t h2
theorem Ev.bd6 {T0 T1 T2 T3 T4 T5 Z : Type} {o : Option (T0 × T1 × T2 × T3 × T4 × T5)} {k : T0 → T1 → T2 → T3 → T4 → T5 → Option Z} {Q : Z → Prop} {G : (T0 × T1 × T2 × T3 × T4 × T5) → Prop} (h : Ev o G) (g : ∀ t : T0 × T1 × T2 × T3 × T4 × T5, G t → Ev (k t.1 t.2.1 t.2.2.1 t.2.2.2.1 t.2.2.2.2.1 t.2.2.2.2.2) Q) : Ev (bd6 o k) Q := by
  obtain ⟨t, rfl, h2⟩ := h
  exact g t h2
theorem Ev.bd7 {T0 T1 T2 T3 T4 T5 T6 Z : Type} {o : Option (T0 × T1 × T2 × T3 × T4 × T5 × T6)} {k : T0 → T1 → T2 → T3 → T4 → T5 → T6 → Option Z} {Q : Z → Prop} {G : (T0 × T1 × T2 × T3 × T4 × T5 × T6) → Prop} (h : Ev o G) (g : ∀ t : T0 × T1 × T2 × T3 × T4 × T5 × T6, G t → Ev (k t.1 t.2.1 t.2.2.1 t.2.2.2.1 t.2.2.2.2.1 t.2.2.2.2.2.1 t.2.2.2.2.2.2) Q) : Ev (bd7 o k) Q := by
  obtain ⟨t, rfl, h2⟩ := h
  exact g t h2
theorem Ev.bd8 {T0 T1 T2 T3 T4 T5 T6 T7 Z : Type} {o : Option (T0 × T1 × T2 × T3 × T4 × T5 × T6 × T7)} {k : T0 → T1 → T2 → T3 → T4 → T5 → T6 → T7 → Option Z} {Q : Z → Prop} {G : (T0 × T1 × T2 × T3 × T4 × T5 × T6 × T7) → Prop} (h : Ev o G) (g : ∀ t : T0 × T1 × T2 × T3 × T4 × T5 × T6 × T7, G t → Ev (k t.1 t.2.1 t.2.2.1 t.2.2.2.1 t.2.2.2.2.1 t.2.2.2.2.2.1 t.2.2.2.2.2.2.1 t.2.2.2.2.2.2.2) Q) : Ev (bd8 o k) Q := by
  obtain ⟨t, rfl, h2⟩ := h
  exact g t h2
theorem Ev.bd9 {T0 T1 T2 T3 T4 T5 T6 T7 T8 Z : Type} {o : Option (T0 × T1 × T2 × T3 × T4 × T5 × T6 × T7 × T8)} {k : T0 → T1 → T2 → T3 → T4 → T5 → T6 → T7 → T8 → Option Z} {Q : Z → Prop} {G : (T0 × T1 × T2 × T3 × T4 × T5 × T6 × T7 × T8) → Prop} (h : Ev o G) (g : ∀ t : T0 × T1 × T2 × T3 × T4 × T5 × T6 × T7 × T8, G t → Ev (k t.1 t.2.1 t.2.2.1 t.2.2.2.1 t.2.2.2.2.1 t.2.2.2.2.2.1 t.2.2.2.2.2.2.1 t.2.2.2.2.2.2.2.1 t.2.2.2.2.2.2.2.2) Q) : Ev (bd9 o k) Q := by
  obtain ⟨t, rfl, h2⟩ := h
  exact g t h2
theorem Ev.bd10 {T0 T1 T2 T3 T4 T5 T6 T7 T8 T9 Z : Type} {o : Option (T0 × T1 × T2 × T3 × T4 × T5 × T6 × T7 × T8 × T9)} {k : T0 → T1 → T2 → T3 → T4 → T5 → T6 → T7 → T8 → T9 → Option Z} {Q : Z → Prop} {G : (T0 × T1 × T2 × T3 × T4 × T5 × T6 × T7 × T8 × T9) → Prop} (h : Ev o G) (g : ∀ t : T0 × T1 × T2 × T3 × T4 × T5 × T6 × T7 × T8 × T9, G t → Ev (k t.1 t.2.1 t.2.2.1 t.2.2.2.1 t.2.2.2.2.1 t.2.2.2.2.2.1 t.2.2.2.2.2.2.1 t.2.2.2.2.2.2.2.1 t.2.2.2.2.2.2.2.2.1 t.2.2.2.2.2.2.2.2.2) Q) : Ev (bd10 o k) Q := by
  obtain ⟨t, rfl, h2⟩ := h
  exact g t h2
theorem Ev.bd11 {T0 T1 T2 T3 T4 T5 T6 T7 T8 T9 T10 Z : Type} {o : Option (T0 × T1 × T2 × T3 × T4 × T5 × T6 × T7 × T8 × T9 × T10)} {k : T0 → T1 → T2 → T3 → T4 → T5 → T6 → T7 → T8 → T9 → T10 → Option Z} {Q : Z → Prop} {G : (T0 × T1 × T2 × T3 × T4 × T5 × T6 × T7 × T8 × T9 × T10) → Prop} (h : Ev o G) (g : ∀ t : T0 × T1 × T2 × T3 × T4 × T5 × T6 × T7 × T8 × T9 × T10, G t → Ev (k t.1 t.2.1 t.2.2.1 t.2.2.2.1 t.2.2.2.2.1 t.2.2.2.2.2.1 t.2.2.2.2.2.2.1 t.2.2.2.2.2.2.2.1 t.2.2.2.2.2.2.2.2.1 t.2.2.2.2.2.2.2.2.2.1 t.2.2.2.2.2.2.2.2.2.2) Q) : Ev (bd11 o k) Q := by
  obtain ⟨t, rfl, h2⟩ := h
  exact g t h2
theorem Ev.bd12 {T0 T1 T2 T3 T4 T5 T6 T7 T8 T9 T10 T11 Z : Type} {o : Option (T0 × T1 × T2 × T3 × T4 × T5 × T6 × T7 × T8 × T9 × T10 × T11)} {k : T0 → T1 → T2 → T3 → T4 → T5 → T6 → T7 → T8 → T9 → T10 → T11 → Option Z} {Q : Z → Prop} {G : (T0 × T1 × T2 × T3 × T4 × T5 × T6 × T7 × T8 × T9 × T10 × T11) → Prop} (h : Ev o G) (g : ∀ t : T0 × T1 × T2 × T3 × T4 × T5 × T6 × T7 × T8 × T9 × T10 × T11, G t → Ev (k t.1 t.2.1 t.2.2.1 t.2.2.2.1 t.2.2.2.2.1 t.2.2.2.2.2.1 t.2.2.2.2.2.2.1 t.2.2.2.2.2.2.2.1 t.2.2.2.2.2.2.2.2.1 t.2.2.2.2.2.2.2.2.2.1 t.2.2.2.2.2.2.2.2.2.2.1 t.2.2.2.2.2.2.2.2.2.2.2) Q) : Ev (bd12 o k) Q := by
  obtain ⟨t, rfl, h2⟩ := h
  exact g t h2
theorem Ev.bd13 {T0 T1 T2 T3 T4 T5 T6 T7 T8 T9 T10 T11 T12 Z : Type} {o : Option (T0 × T1 × T2 × T3 × T4 × T5 × T6 × T7 × T8 × T9 × T10 × T11 × T12)} {k : T0 → T1 → T2 → T3 → T4 → T5 → T6 → T7 → T8 → T9 → T10 → T11 → T12 → Option Z} {Q : Z → Prop} {G : (T0 × T1 × T2 × T3 × T4 × T5 × T6 × T7 × T8 × T9 × T10 × T11 × T12) → Prop} (h : Ev o G) (g : ∀ t : T0 × T1 × T2 × T3 × T4 × T5 × T6 × T7 × T8 × T9 × T10 × T11 × T12, G t → Ev (k t.1 t.2.1 t.2.2.1 t.2.2.2.1 t.2.2.2.2.1 t.2.2.2.2.2.1 t.2.2.2.2.2.2.1 t.2.2.2.2.2.2.2.1 t.2.2.2.2.2.2.2.2.1 t.2.2.2.2.2.2.2.2.2.1 t.2.2.2.2.2.2.2.2.2.2.1 t.2.2.2.2.2.2.2.2.2.2.2.1 t.2.2.2.2.2.2.2.2.2.2.2.2) Q) : Ev (bd13 o k) Q := by
  obtain ⟨t, rfl, h2⟩ := h
  exact g t h2
theorem Ev.bd14 {T0 T1 T2 T3 T4 T5 T6 T7 T8 T9 T10 T11 T12 T13 Z : Type} {o : Option (T0 × T1 × T2 × T3 × T4 × T5 × T6 × T7 × T8 × T9 × T10 × T11 × T12 × T13)} {k : T0 → T1 → T2 → T3 → T4 → T5 → T6 → T7 → T8 → T9 → T10 → T11 → T12 → T13 → Option Z} {Q : Z → Prop} {G : (T0 × T1 × T2 × T3 × T4 × T5 × T6 × T7 × T8 × T9 × T10 × T11 × T12 × T13) → Prop} (h : Ev o G) (g : ∀ t : T0 × T1 × T2 × T3 × T4 × T5 × T6 × T7 × T8 × T9 × T10 × T11 × T12 × T13, G t → Ev (k t.1 t.2.1 t.2.2.1 t.2.2.2.1 t.2.2.2.2.1 t.2.2.2.2.2.1 t.2.2.2.2.2.2.1 t.2.2.2.2.2.2.2.1 t.2.2.2.2.2.2.2.2.1 t.2.2.2.2.2.2.2.2.2.1 t.2.2.2.2.2.2.2.2.2.2.1 t.2.2.2.2.2.2.2.2.2.2.2.1 t.2.2.2.2.2.2.2.2.2.2.2.2.1 t.2.2.2.2.2.2.2.2.2.2.2.2.2) Q) : Ev (bd14 o k) Q := by
  obtain ⟨t, rfl, h2⟩ := h
  exact g t h2
theorem Ev.bd15 {T0 T1 T2 T3 T4 T5 T6 T7 T8 T9 T10 T11 T12 T13 T14 Z : Type} {o : Option (T0 × T1 × T2 × T3 × T4 × T5 × T6 × T7 × T8 × T9 × T10 × T11 × T12 × T13 × T14)} {k : T0 → T1 → T2 → T3 → T4 → T5 → T6 → T7 → T8 → T9 → T10 → T11 → T12 → T13 → T14 → Option Z} {Q : Z → Prop} {G : (T0 × T1 × T2 × T3 × T4 × T5 × T6 × T7 × T8 × T9 × T10 × T11 × T12 × T13 × T14) → Prop} (h : Ev o G) (g : ∀ t : T0 × T1 × T2 × T3 × T4 × T5 × T6 × T7 × T8 × T9 × T10 × T11 × T12 × T13 × T14, G t → Ev (k t.1 t.2.1 t.2.2.1 t.2.2.2.1 t.2.2.2.2.1 t.2.2.2.2.2.1 t.2.2.2.2.2.2.1 t.2.2.2.2.2.2.2.1 t.2.2.2.2.2.2.2.2.1 t.2.2.2.2.2.2.2.2.2.1 t.2.2.2.2.2.2.2.2.2.2.1 t.2.2.2.2.2.2.2.2.2.2.2.1 t.2.2.2.2.2.2.2.2.2.2.2.2.1 t.2.2.2.2.2.2.2.2.2.2.2.2.2.1 t.2.2.2.2.2.2.2.2.2.2.2.2.2.2) Q) : Ev (bd15 o k) Q := by
  obtain ⟨t, rfl, h2⟩ := h
  exact g t h2
theorem Ev.bd16 {T0 T1 T2 T3 T4 T5 T6 T7 T8 T9 T10 T11 T12 T13 T14 T15 Z : Type} {o : Option (T0 × T1 × T2 × T3 × T4 × T5 × T6 × T7 × T8 × T9 × T10 × T11 × T12 × T13 × T14 × T15)} {k : T0 → T1 → T2 → T3 → T4 → T5 → T6 → T7 → T8 → T9 → T10 → T11 → T12 → T13 → T14 → T15 → Option Z} {Q : Z → Prop} {G : (T0 × T1 × T2 × T3 × T4 × T5 × T6 × T7 × T8 × T9 × T10 × T11 × T12 × T13 × T14 × T15) → Prop} (h : Ev o G) (g : ∀ t : T0 × T1 × T2 × T3 × T4 × T5 × T6 × T7 × T8 × T9 × T10 × T11 × T12 × T13 × T14 × T15, G t → Ev (k t.1 t.2.1 t.2.2.1 t.2.2.2.1 t.2.2.2.2.1 t.2.2.2.2.2.1 t.2.2.2.2.2.2.1 t.2.2.2.2.2.2.2.1 t.2.2.2.2.2.2.2.2.1 t.2.2.2.2.2.2.2.2.2.1 t.2.2.2.2.2.2.2.2.2.2.1 t.2.2.2.2.2.2.2.2.2.2.2.1 t.2.2.2.2.2.2.2.2.2.2.2.2.1 t.2.2.2.2.2.2.2.2.2.2.2.2.2.1 t.2.2.2.2.2.2.2.2.2.2.2.2.2.2.1 t.2.2.2.2.2.2.2.2.2.2.2.2.2.2.2) Q) : Ev (bd16 o k) Q := by
  obtain ⟨t, rfl, h2⟩ := h
  exact g t h2
theorem Ev.bd17 {T0 T1 T2 T3 T4 T5 T6 T7 T8 T9 T10 T11 T12 T13 T14 T15 T16 Z : Type} {o : Option (T0 × T1 × T2 × T3 × T4 × T5 × T6 × T7 × T8 × T9 × T10 × T11 × T12 × T13 × T14 × T15 × T16)} {k : T0 → T1 → T2 → T3 → T4 → T5 → T6 → T7 → T8 → T9 → T10 → T11 → T12 → T13 → T14 → T15 → T16 → Option Z} {Q : Z → Prop} {G : (T0 × T1 × T2 × T3 × T4 × T5 × T6 × T7 × T8 × T9 × T10 × T11 × T12 × T13 × T14 × T15 × T16) → Prop} (h : Ev o G) (g : ∀ t : T0 × T1 × T2 × T3 × T4 × T5 × T6 × T7 × T8 × T9 × T10 × T11 × T12 × T13 × T14 × T15 × T16, G t → Ev (k t.1 t.2.1 t.2.2.1 t.2.2.2.1 t.2.2.2.2.1 t.2.2.2.2.2.1 t.2.2.2.2.2.2.1 t.2.2.2.2.2.2.2.1 t.2.2.2.2.2.2.2.2.1 t.2.2.2.2.2.2.2.2.2.1 t.2.2.2.2.2.2.2.2.2.2.1 t.2.2.2.2.2.2.2.2.2.2.2.1 t.2.2.2.2.2.2.2.2.2.2.2.2.1 t.2.2.2.2.2.2.2.2.2.2.2.2.2.1 t.2.2.2.2.2.2.2.2.2.2.2.2.2.2.1 t.2.2.2.2.2.2.2.2.2.2.2.2.2.2.2.1 t.2.2.2.2.2.2.2.2.2.2.2.2.2.2.2.2) Q) : Ev (bd17 o k) Q := by
  obtain ⟨t, rfl, h2⟩ := h
  exact g t h2
theorem Ev.bd18 {T0 T1 T2 T3 T4 T5 T6 T7 T8 T9 T10 T11 T12 T13 T14 T15 T16 T17 Z : Type} {o : Option (T0 × T1 × T2 × T3 × T4 × T5 × T6 × T7 × T8 × T9 × T10 × T11 × T12 × T13 × T14 × T15 × T16 × T17)} {k : T0 → T1 → T2 → T3 → T4 → T5 → T6 → T7 → T8 → T9 → T10 → T11 → T12 → T13 → T14 → T15 → T16 → T17 → Option Z} {Q : Z → Prop} {G : (T0 × T1 × T2 × T3 × T4 × T5 × T6 × T7 × T8 × T9 × T10 × T11 × T12 × T13 × T14 × T15 × T16 × T17) → Prop} (h : Ev o G) (g : ∀ t : T0 × T1 × T2 × T3 × T4 × T5 × T6 × T7 × T8 × T9 × T10 × T11 × T12 × T13 × T14 × T15 × T16 × T17, G t → Ev (k t.1 t.2.1 t.2.2.1 t.2.2.2.1 t.2.2.2.2.1 t.2.2.2.2.2.1 t.2.2.2.2.2.2.1 t.2.2.2.2.2.2.2.1 t.2.2.2.2.2.2.2.2.1 t.2.2.2.2.2.2.2.2.2.1 t.2.2.2.2.2.2.2.2.2.2.1 t.2.2.2.2.2.2.2.2.2.2.2.1 t.2.2.2.2.2.2.2.2.2.2.2.2.1 t.2.2.2.2.2.2.2.2.2.2.2.2.2.1 t.2.2.2.2.2.2.2.2.2.2.2.2.2.2.1 t.2.2.2.2.2.2.2.2.2.2.2.2.2.2.2.1 t.2.2.2.2.2.2.2.2.2.2.2.2.2.2.2.2.1 t.2.2.2.2.2.2.2.2.2.2.2.2.2.2.2.2.2) Q) : Ev (bd18 o k) Q := by
  obtain ⟨t, rfl, h2⟩ := h
  exact g t h2
theorem Ev.bd19 {T0 T1 T2 T3 T4 T5 T6 T7 T8 T9 T10 T11 T12 T13 T14 T15 T16 T17 T18 Z : Type} {o : Option (T0 × T1 × T2 × T3 × T4 × T5 × T6 × T7 × T8 × T9 × T10 × T11 × T12 × T13 × T14 × T15 × T16 × T17 × T18)} {k : T0 → T1 → T2 → T3 → T4 → T5 → T6 → T7 → T8 → T9 → T10 → T11 → T12 → T13 → T14 → T15 → T16 → T17 → T18 → Option Z} {Q : Z → Prop} {G : (T0 × T1 × T2 × T3 × T4 × T5 × T6 × T7 × T8 × T9 × T10 × T11 × T12 × T13 × T14 × T15 × T16 × T17 × T18) → Prop} (h : Ev o G) (g : ∀ t : T0 × T1 × T2 × T3 × T4 × T5 × T6 × T7 × T8 × T9 × T10 × T11 × T12 × T13 × T14 × T15 × T16 × T17 × T18, G t → Ev (k t.1 t.2.1 t.2.2.1 t.2.2.2.1 t.2.2.2.2.1 t.2.2.2.2.2.1 t.2.2.2.2.2.2.1 t.2.2.2.2.2.2.2.1 t.2.2.2.2.2.2.2.2.1 t.2.2.2.2.2.2.2.2.2.1 t.2.2.2.2.2.2.2.2.2.2.1 t.2.2.2.2.2.2.2.2.2.2.2.1 t.2.2.2.2.2.2.2.2.2.2.2.2.1 t.2.2.2.2.2.2.2.2.2.2.2.2.2.1 t.2.2.2.2.2.2.2.2.2.2.2.2.2.2.1 t.2.2.2.2.2.2.2.2.2.2.2.2.2.2.2.1 t.2.2.2.2.2.2.2.2.2.2.2.2.2.2.2.2.1 t.2.2.2.2.2.2.2.2.2.2.2.2.2.2.2.2.2.1 t.2.2.2.2.2.2.2.2.2.2.2.2.2.2.2.2.2.2) Q) : Ev (bd19 o k) Q := by
  obtain ⟨t, rfl, h2⟩ := h
  exact g t h2
theorem Ev.bd20 {T0 T1 T2 T3 T4 T5 T6 T7 T8 T9 T10 T11 T12 T13 T14 T15 T16 T17 T18 T19 Z : Type} {o : Option (T0 × T1 × T2 × T3 × T4 × T5 × T6 × T7 × T8 × T9 × T10 × T11 × T12 × T13 × T14 × T15 × T16 × T17 × T18 × T19)} {k : T0 → T1 → T2 → T3 → T4 → T5 → T6 → T7 → T8 → T9 → T10 → T11 → T12 → T13 → T14 → T15 → T16 → T17 → T18 → T19 → Option Z} {Q : Z → Prop} {G : (T0 × T1 × T2 × T3 × T4 × T5 × T6 × T7 × T8 × T9 × T10 × T11 × T12 × T13 × T14 × T15 × T16 × T17 × T18 × T19) → Prop} (h : Ev o G) (g : ∀ t : T0 × T1 × T2 × T3 × T4 × T5 × T6 × T7 × T8 × T9 × T10 × T11 × T12 × T13 × T14 × T15 × T16 × T17 × T18 × T19, G t → Ev (k t.1 t.2.1 t.2.2.1 t.2.2.2.1 t.2.2.2.2.1 t.2.2.2.2.2.1 t.2.2.2.2.2.2.1 t.2.2.2.2.2.2.2.1 t.2.2.2.2.2.2.2.2.1 t.2.2.2.2.2.2.2.2.2.1 t.2.2.2.2.2.2.2.2.2.2.1 t.2.2.2.2.2.2.2.2.2.2.2.1 t.2.2.2.2.2.2.2.2.2.2.2.2.1 t.2.2.2.2.2.2.2.2.2.2.2.2.2.1 t.2.2.2.2.2.2.2.2.2.2.2.2.2.2.1 t.2.2.2.2.2.2.2.2.2.2.2.2.2.2.2.1 t.2.2.2.2.2.2.2.2.2.2.2.2.2.2.2.2.1 t.2.2.2.2.2.2.2.2.2.2.2.2.2.2.2.2.2.1 t.2.2.2.2.2.2.2.2.2.2.2.2.2.2.2.2.2.2.1 t.2.2.2.2.2.2.2.2.2.2.2.2.2.2.2.2.2.2.2) Q) : Ev (bd20 o k) Q := by
  obtain ⟨t, rfl, h2⟩ := h
  exact g t h2
theorem zl1c0 { Z : Type} {b : (Int32 → Option Z) → Int32 → Option Z} {Q : Z → Prop} (n : Nat) (P : Nat → Prop) (hs : ∀ (rec : Int32 → Option Z) (i : Nat) , i < n → P i  → Ev (b rec (nI i)) Q ∨ (b rec (nI i) = rec (nI (i + 1)) ∧ P (i + 1) )) (he : ∀ (rec : Int32 → Option Z) , P n  → Ev (b rec (nI n)) Q) : ∀ (N i : Nat) , i ≤ n → n - i < N → P i  → Ev (zl1 b N (nI i)) Q := by
  intro N
  induction N with
  | zero => intro i  _ h; omega
  | succ N ih =>
    intro i  hi hN hP
    show Ev (b (zl1 b N) (nI i)) Q
    rcases Nat.lt_or_ge i n with h | h
    · rcases hs (zl1 b N) i  h hP with h1 | ⟨e, h2⟩
      · exact h1
      · rw [e]; exact ih (i + 1)  h (by omega) h2
    · have e : i = n := by omega
      subst e
      exact he _  hP
theorem zl2c0 {T1 Z : Type} {b : (Int32 → T1 → Option Z) → Int32 → T1 → Option Z} {Q : Z → Prop} (n : Nat) (P : Nat → T1 → Prop) (hs : ∀ (rec : Int32 → T1 → Option Z) (i : Nat) (v1 : T1), i < n → P i v1 → Ev (b rec (nI i) v1) Q ∨ (∃ w1, b rec (nI i) v1 = rec (nI (i + 1)) w1 ∧ P (i + 1) w1)) (he : ∀ (rec : Int32 → T1 → Option Z) (v1 : T1), P n v1 → Ev (b rec (nI n) v1) Q) : ∀ (N i : Nat) (v1 : T1), i ≤ n → n - i < N → P i v1 → Ev (zl2 b N (nI i) v1) Q := by
  intro N
  induction N with
  | zero => intro i v1 _ h; omega
  | succ N ih =>
    intro i v1 hi hN hP
    show Ev (b (zl2 b N) (nI i) v1) Q
    rcases Nat.lt_or_ge i n with h | h
    · rcases hs (zl2 b N) i v1 h hP with h1 | ⟨w1, e, h2⟩
      · exact h1
      · rw [e]; exact ih (i + 1) w1 h (by omega) h2
    · have e : i = n := by omega
      subst e
      exact he _ v1 hP
theorem zl2c1 {T0 Z : Type} {b : (T0 → Int32 → Option Z) → T0 → Int32 → Option Z} {Q : Z → Prop} (n : Nat) (P : Nat → T0 → Prop) (hs : ∀ (rec : T0 → Int32 → Option Z) (i : Nat) (v0 : T0), i < n → P i v0 → Ev (b rec v0 (nI i)) Q ∨ (∃ w0, b rec v0 (nI i) = rec w0 (nI (i + 1)) ∧ P (i + 1) w0)) (he : ∀ (rec : T0 → Int32 → Option Z) (v0 : T0), P n v0 → Ev (b rec v0 (nI n)) Q) : ∀ (N i : Nat) (v0 : T0), i ≤ n → n - i < N → P i v0 → Ev (zl2 b N v0 (nI i)) Q := by
  intro N
  induction N with
  | zero => intro i v0 _ h; omega
  | succ N ih =>
    intro i v0 hi hN hP
    show Ev (b (zl2 b N) v0 (nI i)) Q
    rcases Nat.lt_or_ge i n with h | h
    · rcases hs (zl2 b N) i v0 h hP with h1 | ⟨w0, e, h2⟩
      · exact h1
      · rw [e]; exact ih (i + 1) w0 h (by omega) h2
    · have e : i = n := by omega
      subst e
      exact he _ v0 hP
theorem zl3c0 {T1 T2 Z : Type} {b : (Int32 → T1 → T2 → Option Z) → Int32 → T1 → T2 → Option Z} {Q : Z → Prop} (n : Nat) (P : Nat → T1 → T2 → Prop) (hs : ∀ (rec : Int32 → T1 → T2 → Option Z) (i : Nat) (v1 : T1) (v2 : T2), i < n → P i v1 v2 → Ev (b rec (nI i) v1 v2) Q ∨ (∃ w1 w2, b rec (nI i) v1 v2 = rec (nI (i + 1)) w1 w2 ∧ P (i + 1) w1 w2)) (he : ∀ (rec : Int32 → T1 → T2 → Option Z) (v1 : T1) (v2 : T2), P n v1 v2 → Ev (b rec (nI n) v1 v2) Q) : ∀ (N i : Nat) (v1 : T1) (v2 : T2), i ≤ n → n - i < N → P i v1 v2 → Ev (zl3 b N (nI i) v1 v2) Q := by
  intro N
  induction N with
  | zero => intro i v1 v2 _ h; omega
  | succ N ih =>
    intro i v1 v2 hi hN hP
    show Ev (b (zl3 b N) (nI i) v1 v2) Q
    rcases Nat.lt_or_ge i n with h | h
    · rcases hs (zl3 b N) i v1 v2 h hP with h1 | ⟨w1, w2, e, h2⟩
      · exact h1
      · rw [e]; exact ih (i + 1) w1 w2 h (by omega) h2
    · have e : i = n := by omega
      subst e
      exact he _ v1 v2 hP
theorem zl3c1 {T0 T2 Z : Type} {b : (T0 → Int32 → T2 → Option Z) → T0 → Int32 → T2 → Option Z} {Q : Z → Prop} (n : Nat) (P : Nat → T0 → T2 → Prop) (hs : ∀ (rec : T0 → Int32 → T2 → Option Z) (i : Nat) (v0 : T0) (v2 : T2), i < n → P i v0 v2 → Ev (b rec v0 (nI i) v2) Q ∨ (∃ w0 w2, b rec v0 (nI i) v2 = rec w0 (nI (i + 1)) w2 ∧ P (i + 1) w0 w2)) (he : ∀ (rec : T0 → Int32 → T2 → Option Z) (v0 : T0) (v2 : T2), P n v0 v2 → Ev (b rec v0 (nI n) v2) Q) : ∀ (N i : Nat) (v0 : T0) (v2 : T2), i ≤ n → n - i < N → P i v0 v2 → Ev (zl3 b N v0 (nI i) v2) Q := by
  intro N
  induction N with
  | zero => intro i v0 v2 _ h; omega
  | succ N ih =>
    intro i v0 v2 hi hN hP
    show Ev (b (zl3 b N) v0 (nI i) v2) Q
    rcases Nat.lt_or_ge i n with h | h
    · rcases hs (zl3 b N) i v0 v2 h hP with h1 | ⟨w0, w2, e, h2⟩
      · exact h1
      · rw [e]; exact ih (i + 1) w0 w2 h (by omega) h2
    · have e : i = n := by omega
      subst e
      exact he _ v0 v2 hP
theorem zl3c2 {T0 T1 Z : Type} {b : (T0 → T1 → Int32 → Option Z) → T0 → T1 → Int32 → Option Z} {Q : Z → Prop} (n : Nat) (P : Nat → T0 → T1 → Prop) (hs : ∀ (rec : T0 → T1 → Int32 → Option Z) (i : Nat) (v0 : T0) (v1 : T1), i < n → P i v0 v1 → Ev (b rec v0 v1 (nI i)) Q ∨ (∃ w0 w1, b rec v0 v1 (nI i) = rec w0 w1 (nI (i + 1)) ∧ P (i + 1) w0 w1)) (he : ∀ (rec : T0 → T1 → Int32 → Option Z) (v0 : T0) (v1 : T1), P n v0 v1 → Ev (b rec v0 v1 (nI n)) Q) : ∀ (N i : Nat) (v0 : T0) (v1 : T1), i ≤ n → n - i < N → P i v0 v1 → Ev (zl3 b N v0 v1 (nI i)) Q := by
  intro N
  induction N with
  | zero => intro i v0 v1 _ h; omega
  | succ N ih =>
    intro i v0 v1 hi hN hP
    show Ev (b (zl3 b N) v0 v1 (nI i)) Q
    rcases Nat.lt_or_ge i n with h | h
    · rcases hs (zl3 b N) i v0 v1 h hP with h1 | ⟨w0, w1, e, h2⟩
      · exact h1
      · rw [e]; exact ih (i + 1) w0 w1 h (by omega) h2
    · have e : i = n := by omega
      subst e
      exact he _ v0 v1 hP
theorem zl4c0 {T1 T2 T3 Z : Type} {b : (Int32 → T1 → T2 → T3 → Option Z) → Int32 → T1 → T2 → T3 → Option Z} {Q : Z → Prop} (n : Nat) (P : Nat → T1 → T2 → T3 → Prop) (hs : ∀ (rec : Int32 → T1 → T2 → T3 → Option Z) (i : Nat) (v1 : T1) (v2 : T2) (v3 : T3), i < n → P i v1 v2 v3 → Ev (b rec (nI i) v1 v2 v3) Q ∨ (∃ w1 w2 w3, b rec (nI i) v1 v2 v3 = rec (nI (i + 1)) w1 w2 w3 ∧ P (i + 1) w1 w2 w3)) (he : ∀ (rec : Int32 → T1 → T2 → T3 → Option Z) (v1 : T1) (v2 : T2) (v3 : T3), P n v1 v2 v3 → Ev (b rec (nI n) v1 v2 v3) Q) : ∀ (N i : Nat) (v1 : T1) (v2 : T2) (v3 : T3), i ≤ n → n - i < N → P i v1 v2 v3 → Ev (zl4 b N (nI i) v1 v2 v3) Q := by
  intro N
  induction N with
  | zero => intro i v1 v2 v3 _ h; omega
  | succ N ih =>
    intro i v1 v2 v3 hi hN hP
    show Ev (b (zl4 b N) (nI i) v1 v2 v3) Q
    rcases Nat.lt_or_ge i n with h | h
    · rcases hs (zl4 b N) i v1 v2 v3 h hP with h1 | ⟨w1, w2, w3, e, h2⟩
      · exact h1
      · rw [e]; exact ih (i + 1) w1 w2 w3 h (by omega) h2
    · have e : i = n := by omega
      subst e
      exact he _ v1 v2 v3 hP
theorem zl4c1 {T0 T2 T3 Z : Type} {b : (T0 → Int32 → T2 → T3 → Option Z) → T0 → Int32 → T2 → T3 → Option Z} {Q : Z → Prop} (n : Nat) (P : Nat → T0 → T2 → T3 → Prop) (hs : ∀ (rec : T0 → Int32 → T2 → T3 → Option Z) (i : Nat) (v0 : T0) (v2 : T2) (v3 : T3), i < n → P i v0 v2 v3 → Ev (b rec v0 (nI i) v2 v3) Q ∨ (∃ w0 w2 w3, b rec v0 (nI i) v2 v3 = rec w0 (nI (i + 1)) w2 w3 ∧ P (i + 1) w0 w2 w3)) (he : ∀ (rec : T0 → Int32 → T2 → T3 → Option Z) (v0 : T0) (v2 : T2) (v3 : T3), P n v0 v2 v3 → Ev (b rec v0 (nI n) v2 v3) Q) : ∀ (N i : Nat) (v0 : T0) (v2 : T2) (v3 : T3), i ≤ n → n - i < N → P i v0 v2 v3 → Ev (zl4 b N v0 (nI i) v2 v3) Q := by
  intro N
  induction N with
  | zero => intro i v0 v2 v3 _ h; omega
  | succ N ih =>
    intro i v0 v2 v3 hi hN hP
    show Ev (b (zl4 b N) v0 (nI i) v2 v3) Q
    rcases Nat.lt_or_ge i n with h | h
    · rcases hs (zl4 b N) i v0 v2 v3 h hP with h1 | ⟨w0, w2, w3, e, h2⟩
      · exact h1
      · rw [e]; exact ih (i + 1) w0 w2 w3 h (by omega) h2
    · have e : i = n := by omega
      subst e
      exact he _ v0 v2 v3 hP
theorem zl4c2 {T0 T1 T3 Z : Type} {b : (T0 → T1 → Int32 → T3 → Option Z) → T0 → T1 → Int32 → T3 → Option Z} {Q : Z → Prop} (n : Nat) (P : Nat → T0 → T1 → T3 → Prop) (hs : ∀ (rec : T0 → T1 → Int32 → T3 → Option Z) (i : Nat) (v0 : T0) (v1 : T1) (v3 : T3), i < n → P i v0 v1 v3 → Ev (b rec v0 v1 (nI i) v3) Q ∨ (∃ w0 w1 w3, b rec v0 v1 (nI i) v3 = rec w0 w1 (nI (i + 1)) w3 ∧ P (i + 1) w0 w1 w3)) (he : ∀ (rec : T0 → T1 → Int32 → T3 → Option Z) (v0 : T0) (v1 : T1) (v3 : T3), P n v0 v1 v3 → Ev (b rec v0 v1 (nI n) v3) Q) : ∀ (N i : Nat) (v0 : T0) (v1 : T1) (v3 : T3), i ≤ n → n - i < N → P i v0 v1 v3 → Ev (zl4 b N v0 v1 (nI i) v3) Q := by
  intro N
  induction N with
  | zero => intro i v0 v1 v3 _ h; omega
  | succ N ih =>
    intro i v0 v1 v3 hi hN hP
    show Ev (b (zl4 b N) v0 v1 (nI i) v3) Q
    rcases Nat.lt_or_ge i n with h | h
    · rcases hs (zl4 b N) i v0 v1 v3 h hP with h1 | ⟨w0, w1, w3, e, h2⟩
      · exact h1
      · rw [e]; exact ih (i + 1) w0 w1 w3 h (by omega) h2
    · have e : i = n := by omega
      subst e
      exact he _ v0 v1 v3 hP
theorem zl4c3 {T0 T1 T2 Z : Type} {b : (T0 → T1 → T2 → Int32 → Option Z) → T0 → T1 → T2 → Int32 → Option Z} {Q : Z → Prop} (n : Nat) (P : Nat → T0 → T1 → T2 → Prop) (hs : ∀ (rec : T0 → T1 → T2 → Int32 → Option Z) (i : Nat) (v0 : T0) (v1 : T1) (v2 : T2), i < n → P i v0 v1 v2 → Ev (b rec v0 v1 v2 (nI i)) Q ∨ (∃ w0 w1 w2, b rec v0 v1 v2 (nI i) = rec w0 w1 w2 (nI (i + 1)) ∧ P (i + 1) w0 w1 w2)) (he : ∀ (rec : T0 → T1 → T2 → Int32 → Option Z) (v0 : T0) (v1 : T1) (v2 : T2), P n v0 v1 v2 → Ev (b rec v0 v1 v2 (nI n)) Q) : ∀ (N i : Nat) (v0 : T0) (v1 : T1) (v2 : T2), i ≤ n → n - i < N → P i v0 v1 v2 → Ev (zl4 b N v0 v1 v2 (nI i)) Q := by
  intro N
  induction N with
  | zero => intro i v0 v1 v2 _ h; omega
  | succ N ih =>
    intro i v0 v1 v2 hi hN hP
    show Ev (b (zl4 b N) v0 v1 v2 (nI i)) Q
    rcases Nat.lt_or_ge i n with h | h
    · rcases hs (zl4 b N) i v0 v1 v2 h hP with h1 | ⟨w0, w1, w2, e, h2⟩
      · exact h1
      · rw [e]; exact ih (i + 1) w0 w1 w2 h (by omega) h2
    · have e : i = n := by omega
      subst e
      exact he _ v0 v1 v2 hP
theorem zl5c0 {T1 T2 T3 T4 Z : Type} {b : (Int32 → T1 → T2 → T3 → T4 → Option Z) → Int32 → T1 → T2 → T3 → T4 → Option Z} {Q : Z → Prop} (n : Nat) (P : Nat → T1 → T2 → T3 → T4 → Prop) (hs : ∀ (rec : Int32 → T1 → T2 → T3 → T4 → Option Z) (i : Nat) (v1 : T1) (v2 : T2) (v3 : T3) (v4 : T4), i < n → P i v1 v2 v3 v4 → Ev (b rec (nI i) v1 v2 v3 v4) Q ∨ (∃ w1 w2 w3 w4, b rec (nI i) v1 v2 v3 v4 = rec (nI (i + 1)) w1 w2 w3 w4 ∧ P (i + 1) w1 w2 w3 w4)) (he : ∀ (rec : Int32 → T1 → T2 → T3 → T4 → Option Z) (v1 : T1) (v2 : T2) (v3 : T3) (v4 : T4), P n v1 v2 v3 v4 → Ev (b rec (nI n) v1 v2 v3 v4) Q) : ∀ (N i : Nat) (v1 : T1) (v2 : T2) (v3 : T3) (v4 : T4), i ≤ n → n - i < N → P i v1 v2 v3 v4 → Ev (zl5 b N (nI i) v1 v2 v3 v4) Q := by
  intro N
  induction N with
  | zero => intro i v1 v2 v3 v4 _ h; omega
  | succ N ih =>
    intro i v1 v2 v3 v4 hi hN hP
    show Ev (b (zl5 b N) (nI i) v1 v2 v3 v4) Q
    rcases Nat.lt_or_ge i n with h | h
    · rcases hs (zl5 b N) i v1 v2 v3 v4 h hP with h1 | ⟨w1, w2, w3, w4, e, h2⟩
      · exact h1
      · rw [e]; exact ih (i + 1) w1 w2 w3 w4 h (by omega) h2
    · have e : i = n := by omega
      subst e
      exact he _ v1 v2 v3 v4 hP
theorem zl5c1 {T0 T2 T3 T4 Z : Type} {b : (T0 → Int32 → T2 → T3 → T4 → Option Z) → T0 → Int32 → T2 → T3 → T4 → Option Z} {Q : Z → Prop} (n : Nat) (P : Nat → T0 → T2 → T3 → T4 → Prop) (hs : ∀ (rec : T0 → Int32 → T2 → T3 → T4 → Option Z) (i : Nat) (v0 : T0) (v2 : T2) (v3 : T3) (v4 : T4), i < n → P i v0 v2 v3 v4 → Ev (b rec v0 (nI i) v2 v3 v4) Q ∨ (∃ w0 w2 w3 w4, b rec v0 (nI i) v2 v3 v4 = rec w0 (nI (i + 1)) w2 w3 w4 ∧ P (i + 1) w0 w2 w3 w4)) (he : ∀ (rec : T0 → Int32 → T2 → T3 → T4 → Option Z) (v0 : T0) (v2 : T2) (v3 : T3) (v4 : T4), P n v0 v2 v3 v4 → Ev (b rec v0 (nI n) v2 v3 v4) Q) : ∀ (N i : Nat) (v0 : T0) (v2 : T2) (v3 : T3) (v4 : T4), i ≤ n → n - i < N → P i v0 v2 v3 v4 → Ev (zl5 b N v0 (nI i) v2 v3 v4) Q := by
  intro N
  induction N with
  | zero => intro i v0 v2 v3 v4 _ h; omega
  | succ N ih =>
    intro i v0 v2 v3 v4 hi hN hP
    show Ev (b (zl5 b N) v0 (nI i) v2 v3 v4) Q
    rcases Nat.lt_or_ge i n with h | h
    · rcases hs (zl5 b N) i v0 v2 v3 v4 h hP with h1 | ⟨w0, w2, w3, w4, e, h2⟩
      · exact h1
      · rw [e]; exact ih (i + 1) w0 w2 w3 w4 h (by omega) h2
    · have e : i = n := by omega
      subst e
      exact he _ v0 v2 v3 v4 hP
theorem zl5c2 {T0 T1 T3 T4 Z : Type} {b : (T0 → T1 → Int32 → T3 → T4 → Option Z) → T0 → T1 → Int32 → T3 → T4 → Option Z} {Q : Z → Prop} (n : Nat) (P : Nat → T0 → T1 → T3 → T4 → Prop) (hs : ∀ (rec : T0 → T1 → Int32 → T3 → T4 → Option Z) (i : Nat) (v0 : T0) (v1 : T1) (v3 : T3) (v4 : T4), i < n → P i v0 v1 v3 v4 → Ev (b rec v0 v1 (nI i) v3 v4) Q ∨ (∃ w0 w1 w3 w4, b rec v0 v1 (nI i) v3 v4 = rec w0 w1 (nI (i + 1)) w3 w4 ∧ P (i + 1) w0 w1 w3 w4)) (he : ∀ (rec : T0 → T1 → Int32 → T3 → T4 → Option Z) (v0 : T0) (v1 : T1) (v3 : T3) (v4 : T4), P n v0 v1 v3 v4 → Ev (b rec v0 v1 (nI n) v3 v4) Q) : ∀ (N i : Nat) (v0 : T0) (v1 : T1) (v3 : T3) (v4 : T4), i ≤ n → n - i < N → P i v0 v1 v3 v4 → Ev (zl5 b N v0 v1 (nI i) v3 v4) Q := by
  intro N
  induction N with
  | zero => intro i v0 v1 v3 v4 _ h; omega
  | succ N ih =>
    intro i v0 v1 v3 v4 hi hN hP
    show Ev (b (zl5 b N) v0 v1 (nI i) v3 v4) Q
    rcases Nat.lt_or_ge i n with h | h
    · rcases hs (zl5 b N) i v0 v1 v3 v4 h hP with h1 | ⟨w0, w1, w3, w4, e, h2⟩
      · exact h1
      · rw [e]; exact ih (i + 1) w0 w1 w3 w4 h (by omega) h2
    · have e : i = n := by omega
      subst e
      exact he _ v0 v1 v3 v4 hP
theorem zl5c3 {T0 T1 T2 T4 Z : Type} {b : (T0 → T1 → T2 → Int32 → T4 → Option Z) → T0 → T1 → T2 → Int32 → T4 → Option Z} {Q : Z → Prop} (n : Nat) (P : Nat → T0 → T1 → T2 → T4 → Prop) (hs : ∀ (rec : T0 → T1 → T2 → Int32 → T4 → Option Z) (i : Nat) (v0 : T0) (v1 : T1) (v2 : T2) (v4 : T4), i < n → P i v0 v1 v2 v4 → Ev (b rec v0 v1 v2 (nI i) v4) Q ∨ (∃ w0 w1 w2 w4, b rec v0 v1 v2 (nI i) v4 = rec w0 w1 w2 (nI (i + 1)) w4 ∧ P (i + 1) w0 w1 w2 w4)) (he : ∀ (rec : T0 → T1 → T2 → Int32 → T4 → Option Z) (v0 : T0) (v1 : T1) (v2 : T2) (v4 : T4), P n v0 v1 v2 v4 → Ev (b rec v0 v1 v2 (nI n) v4) Q) : ∀ (N i : Nat) (v0 : T0) (v1 : T1) (v2 : T2) (v4 : T4), i ≤ n → n - i < N → P i v0 v1 v2 v4 → Ev (zl5 b N v0 v1 v2 (nI i) v4) Q := by
  intro N
  induction N with
  | zero => intro i v0 v1 v2 v4 _ h; omega
  | succ N ih =>
    intro i v0 v1 v2 v4 hi hN hP
    show Ev (b (zl5 b N) v0 v1 v2 (nI i) v4) Q
    rcases Nat.lt_or_ge i n with h | h
    · rcases hs (zl5 b N) i v0 v1 v2 v4 h hP with h1 | ⟨w0, w1, w2, w4, e, h2⟩
      · exact h1
      · rw [e]; exact ih (i + 1) w0 w1 w2 w4 h (by omega) h2
    · have e : i = n := by omega
      subst e
      exact he _ v0 v1 v2 v4 hP
theorem zl5c4 {T0 T1 T2 T3 Z : Type} {b : (T0 → T1 → T2 → T3 → Int32 → Option Z) → T0 → T1 → T2 → T3 → Int32 → Option Z} {Q : Z → Prop} (n : Nat) (P : Nat → T0 → T1 → T2 → T3 → Prop) (hs : ∀ (rec : T0 → T1 → T2 → T3 → Int32 → Option Z) (i : Nat) (v0 : T0) (v1 : T1) (v2 : T2) (v3 : T3), i < n → P i v0 v1 v2 v3 → Ev (b rec v0 v1 v2 v3 (nI i)) Q ∨ (∃ w0 w1 w2 w3, b rec v0 v1 v2 v3 (nI i) = rec w0 w1 w2 w3 (nI (i + 1)) ∧ P (i + 1) w0 w1 w2 w3)) (he : ∀ (rec : T0 → T1 → T2 → T3 → Int32 → Option Z) (v0 : T0) (v1 : T1) (v2 : T2) (v3 : T3), P n v0 v1 v2 v3 → Ev (b rec v0 v1 v2 v3 (nI n)) Q) : ∀ (N i : Nat) (v0 : T0) (v1 : T1) (v2 : T2) (v3 : T3), i ≤ n → n - i < N → P i v0 v1 v2 v3 → Ev (zl5 b N v0 v1 v2 v3 (nI i)) Q := by
  intro N
  induction N with
  | zero => intro i v0 v1 v2 v3 _ h; omega
  | succ N ih =>
    intro i v0 v1 v2 v3 hi hN hP
    show Ev (b (zl5 b N) v0 v1 v2 v3 (nI i)) Q
    rcases Nat.lt_or_ge i n with h | h
    · rcases hs (zl5 b N) i v0 v1 v2 v3 h hP with h1 | ⟨w0, w1, w2, w3, e, h2⟩
      · exact h1
      · rw [e]; exact ih (i + 1) w0 w1 w2 w3 h (by omega) h2
    · have e : i = n := by omega
      subst e
      exact he _ v0 v1 v2 v3 hP
theorem zl6c0 {T1 T2 T3 T4 T5 Z : Type} {b : (Int32 → T1 → T2 → T3 → T4 → T5 → Option Z) → Int32 → T1 → T2 → T3 → T4 → T5 → Option Z} {Q : Z → Prop} (n : Nat) (P : Nat → T1 → T2 → T3 → T4 → T5 → Prop) (hs : ∀ (rec : Int32 → T1 → T2 → T3 → T4 → T5 → Option Z) (i : Nat) (v1 : T1) (v2 : T2) (v3 : T3) (v4 : T4) (v5 : T5), i < n → P i v1 v2 v3 v4 v5 → Ev (b rec (nI i) v1 v2 v3 v4 v5) Q ∨ (∃ w1 w2 w3 w4 w5, b rec (nI i) v1 v2 v3 v4 v5 = rec (nI (i + 1)) w1 w2 w3 w4 w5 ∧ P (i + 1) w1 w2 w3 w4 w5)) (he : ∀ (rec : Int32 → T1 → T2 → T3 → T4 → T5 → Option Z) (v1 : T1) (v2 : T2) (v3 : T3) (v4 : T4) (v5 : T5), P n v1 v2 v3 v4 v5 → Ev (b rec (nI n) v1 v2 v3 v4 v5) Q) : ∀ (N i : Nat) (v1 : T1) (v2 : T2) (v3 : T3) (v4 : T4) (v5 : T5), i ≤ n → n - i < N → P i v1 v2 v3 v4 v5 → Ev (zl6 b N (nI i) v1 v2 v3 v4 v5) Q := by
  intro N
  induction N with
  | zero => intro i v1 v2 v3 v4 v5 _ h; omega
  | succ N ih =>
    intro i v1 v2 v3 v4 v5 hi hN hP
    show Ev (b (zl6 b N) (nI i) v1 v2 v3 v4 v5) Q
    rcases Nat.lt_or_ge i n with h | h
    · rcases hs (zl6 b N) i v1 v2 v3 v4 v5 h hP with h1 | ⟨w1, w2, w3, w4, w5, e, h2⟩
      · exact h1
      · rw [e]; exact ih (i + 1) w1 w2 w3 w4 w5 h (by omega) h2
    · have e : i = n := by omega
      subst e
      exact he _ v1 v2 v3 v4 v5 hP
theorem zl6c1 {T0 T2 T3 T4 T5 Z : Type} {b : (T0 → Int32 → T2 → T3 → T4 → T5 → Option Z) → T0 → Int32 → T2 → T3 → T4 → T5 → Option Z} {Q : Z → Prop} (n : Nat) (P : Nat → T0 → T2 → T3 → T4 → T5 → Prop) (hs : ∀ (rec : T0 → Int32 → T2 → T3 → T4 → T5 → Option Z) (i : Nat) (v0 : T0) (v2 : T2) (v3 : T3) (v4 : T4) (v5 : T5), i < n → P i v0 v2 v3 v4 v5 → Ev (b rec v0 (nI i) v2 v3 v4 v5) Q ∨ (∃ w0 w2 w3 w4 w5, b rec v0 (nI i) v2 v3 v4 v5 = rec w0 (nI (i + 1)) w2 w3 w4 w5 ∧ P (i + 1) w0 w2 w3 w4 w5)) (he : ∀ (rec : T0 → Int32 → T2 → T3 → T4 → T5 → Option Z) (v0 : T0) (v2 : T2) (v3 : T3) (v4 : T4) (v5 : T5), P n v0 v2 v3 v4 v5 → Ev (b rec v0 (nI n) v2 v3 v4 v5) Q) : ∀ (N i : Nat) (v0 : T0) (v2 : T2) (v3 : T3) (v4 : T4) (v5 : T5), i ≤ n → n - i < N → P i v0 v2 v3 v4 v5 → Ev (zl6 b N v0 (nI i) v2 v3 v4 v5) Q := by
  intro N
  induction N with
  | zero => intro i v0 v2 v3 v4 v5 _ h; omega
  | succ N ih =>
    intro i v0 v2 v3 v4 v5 hi hN hP
    show Ev (b (zl6 b N) v0 (nI i) v2 v3 v4 v5) Q
    rcases Nat.lt_or_ge i n with h | h
    · rcases hs (zl6 b N) i v0 v2 v3 v4 v5 h hP with h1 | ⟨w0, w2, w3, w4, w5, e, h2⟩
      · exact h1
      · rw [e]; exact ih (i + 1) w0 w2 w3 w4 w5 h (by omega) h2
    · have e : i = n := by omega
      subst e
      exact he _ v0 v2 v3 v4 v5 hP
theorem zl6c2 {T0 T1 T3 T4 T5 Z : Type} {b : (T0 → T1 → Int32 → T3 → T4 → T5 → Option Z) → T0 → T1 → Int32 → T3 → T4 → T5 → Option Z} {Q : Z → Prop} (n : Nat) (P : Nat → T0 → T1 → T3 → T4 → T5 → Prop) (hs : ∀ (rec : T0 → T1 → Int32 → T3 → T4 → T5 → Option Z) (i : Nat) (v0 : T0) (v1 : T1) (v3 : T3) (v4 : T4) (v5 : T5), i < n → P i v0 v1 v3 v4 v5 → Ev (b rec v0 v1 (nI i) v3 v4 v5) Q ∨ (∃ w0 w1 w3 w4 w5, b rec v0 v1 (nI i) v3 v4 v5 = rec w0 w1 (nI (i + 1)) w3 w4 w5 ∧ P (i + 1) w0 w1 w3 w4 w5)) (he : ∀ (rec : T0 → T1 → Int32 → T3 → T4 → T5 → Option Z) (v0 : T0) (v1 : T1) (v3 : T3) (v4 : T4) (v5 : T5), P n v0 v1 v3 v4 v5 → Ev (b rec v0 v1 (nI n) v3 v4 v5) Q) : ∀ (N i : Nat) (v0 : T0) (v1 : T1) (v3 : T3) (v4 : T4) (v5 : T5), i ≤ n → n - i < N → P i v0 v1 v3 v4 v5 → Ev (zl6 b N v0 v1 (nI i) v3 v4 v5) Q := by
  intro N
  induction N with
  | zero => intro i v0 v1 v3 v4 v5 _ h; omega
  | succ N ih =>
    intro i v0 v1 v3 v4 v5 hi hN hP
    show Ev (b (zl6 b N) v0 v1 (nI i) v3 v4 v5) Q
    rcases Nat.lt_or_ge i n with h | h
    · rcases hs (zl6 b N) i v0 v1 v3 v4 v5 h hP with h1 | ⟨w0, w1, w3, w4, w5, e, h2⟩
      · exact h1
      · rw [e]; exact ih (i + 1) w0 w1 w3 w4 w5 h (by omega) h2
    · have e : i = n := by omega
      subst e
      exact he _ v0 v1 v3 v4 v5 hP
theorem zl6c3 {T0 T1 T2 T4 T5 Z : Type} {b : (T0 → T1 → T2 → Int32 → T4 → T5 → Option Z) → T0 → T1 → T2 → Int32 → T4 → T5 → Option Z} {Q : Z → Prop} (n : Nat) (P : Nat → T0 → T1 → T2 → T4 → T5 → Prop) (hs : ∀ (rec : T0 → T1 → T2 → Int32 → T4 → T5 → Option Z) (i : Nat) (v0 : T0) (v1 : T1) (v2 : T2) (v4 : T4) (v5 : T5), i < n → P i v0 v1 v2 v4 v5 → Ev (b rec v0 v1 v2 (nI i) v4 v5) Q ∨ (∃ w0 w1 w2 w4 w5, b rec v0 v1 v2 (nI i) v4 v5 = rec w0 w1 w2 (nI (i + 1)) w4 w5 ∧ P (i + 1) w0 w1 w2 w4 w5)) (he : ∀ (rec : T0 → T1 → T2 → Int32 → T4 → T5 → Option Z) (v0 : T0) (v1 : T1) (v2 : T2) (v4 : T4) (v5 : T5), P n v0 v1 v2 v4 v5 → Ev (b rec v0 v1 v2 (nI n) v4 v5) Q) : ∀ (N i : Nat) (v0 : T0) (v1 : T1) (v2 : T2) (v4 : T4) (v5 : T5), i ≤ n → n - i < N → P i v0 v1 v2 v4 v5 → Ev (zl6 b N v0 v1 v2 (nI i) v4 v5) Q := by
  intro N
  induction N with
  | zero => intro i v0 v1 v2 v4 v5 _ h; omega
  | succ N ih =>
    intro i v0 v1 v2 v4 v5 hi hN hP
    show Ev (b (zl6 b N) v0 v1 v2 (nI i) v4 v5) Q
    rcases Nat.lt_or_ge i n with h | h
    · rcases hs (zl6 b N) i v0 v1 v2 v4 v5 h hP with h1 | ⟨w0, w1, w2, w4, w5, e, h2⟩
      · exact h1
      · rw [e]; exact ih (i + 1) w0 w1 w2 w4 w5 h (by omega) h2
    · have e : i = n := by omega
      subst e
      exact he _ v0 v1 v2 v4 v5 hP
theorem zl6c4 {T0 T1 T2 T3 T5 Z : Type} {b : (T0 → T1 → T2 → T3 → Int32 → T5 → Option Z) → T0 → T1 → T2 → T3 → Int32 → T5 → Option Z} {Q : Z → Prop} (n : Nat) (P : Nat → T0 → T1 → T2 → T3 → T5 → Prop) (hs : ∀ (rec : T0 → T1 → T2 → T3 → Int32 → T5 → Option Z) (i : Nat) (v0 : T0) (v1 : T1) (v2 : T2) (v3 : T3) (v5 : T5), i < n → P i v0 v1 v2 v3 v5 → Ev (b rec v0 v1 v2 v3 (nI i) v5) Q ∨ (∃ w0 w1 w2 w3 w5, b rec v0 v1 v2 v3 (nI i) v5 = rec w0 w1 w2 w3 (nI (i + 1)) w5 ∧ P (i + 1) w0 w1 w2 w3 w5)) (he : ∀ (rec : T0 → T1 → T2 → T3 → Int32 → T5 → Option Z) (v0 : T0) (v1 : T1) (v2 : T2) (v3 : T3) (v5 : T5), P n v0 v1 v2 v3 v5 → Ev (b rec v0 v1 v2 v3 (nI n) v5) Q) : ∀ (N i : Nat) (v0 : T0) (v1 : T1) (v2 : T2) (v3 : T3) (v5 : T5), i ≤ n → n - i < N → P i v0 v1 v2 v3 v5 → Ev (zl6 b N v0 v1 v2 v3 (nI i) v5) Q := by
  intro N
  induction N with
  | zero => intro i v0 v1 v2 v3 v5 _ h; omega
  | succ N ih =>
    intro i v0 v1 v2 v3 v5 hi hN hP
    show Ev (b (zl6 b N) v0 v1 v2 v3 (nI i) v5) Q
    rcases Nat.lt_or_ge i n with h | h
    · rcases hs (zl6 b N) i v0 v1 v2 v3 v5 h hP with h1 | ⟨w0, w1, w2, w3, w5, e, h2⟩
      · exact h1
      · rw [e]; exact ih (i + 1) w0 w1 w2 w3 w5 h (by omega) h2
    · have e : i = n := by omega
      subst e
      exact he _ v0 v1 v2 v3 v5 hP
theorem zl6c5 {T0 T1 T2 T3 T4 Z : Type} {b : (T0 → T1 → T2 → T3 → T4 → Int32 → Option Z) → T0 → T1 → T2 → T3 → T4 → Int32 → Option Z} {Q : Z → Prop} (n : Nat) (P : Nat → T0 → T1 → T2 → T3 → T4 → Prop) (hs : ∀ (rec : T0 → T1 → T2 → T3 → T4 → Int32 → Option Z) (i : Nat) (v0 : T0) (v1 : T1) (v2 : T2) (v3 : T3) (v4 : T4), i < n → P i v0 v1 v2 v3 v4 → Ev (b rec v0 v1 v2 v3 v4 (nI i)) Q ∨ (∃ w0 w1 w2 w3 w4, b rec v0 v1 v2 v3 v4 (nI i) = rec w0 w1 w2 w3 w4 (nI (i + 1)) ∧ P (i + 1) w0 w1 w2 w3 w4)) (he : ∀ (rec : T0 → T1 → T2 → T3 → T4 → Int32 → Option Z) (v0 : T0) (v1 : T1) (v2 : T2) (v3 : T3) (v4 : T4), P n v0 v1 v2 v3 v4 → Ev (b rec v0 v1 v2 v3 v4 (nI n)) Q) : ∀ (N i : Nat) (v0 : T0) (v1 : T1) (v2 : T2) (v3 : T3) (v4 : T4), i ≤ n → n - i < N → P i v0 v1 v2 v3 v4 → Ev (zl6 b N v0 v1 v2 v3 v4 (nI i)) Q := by
  intro N
  induction N with
  | zero => intro i v0 v1 v2 v3 v4 _ h; omega
  | succ N ih =>
    intro i v0 v1 v2 v3 v4 hi hN hP
    show Ev (b (zl6 b N) v0 v1 v2 v3 v4 (nI i)) Q
    rcases Nat.lt_or_ge i n with h | h
    · rcases hs (zl6 b N) i v0 v1 v2 v3 v4 h hP with h1 | ⟨w0, w1, w2, w3, w4, e, h2⟩
      · exact h1
      · rw [e]; exact ih (i + 1) w0 w1 w2 w3 w4 h (by omega) h2
    · have e : i = n := by omega
      subst e
      exact he _ v0 v1 v2 v3 v4 hP
theorem zl7c0 {T1 T2 T3 T4 T5 T6 Z : Type} {b : (Int32 → T1 → T2 → T3 → T4 → T5 → T6 → Option Z) → Int32 → T1 → T2 → T3 → T4 → T5 → T6 → Option Z} {Q : Z → Prop} (n : Nat) (P : Nat → T1 → T2 → T3 → T4 → T5 → T6 → Prop) (hs : ∀ (rec : Int32 → T1 → T2 → T3 → T4 → T5 → T6 → Option Z) (i : Nat) (v1 : T1) (v2 : T2) (v3 : T3) (v4 : T4) (v5 : T5) (v6 : T6), i < n → P i v1 v2 v3 v4 v5 v6 → Ev (b rec (nI i) v1 v2 v3 v4 v5 v6) Q ∨ (∃ w1 w2 w3 w4 w5 w6, b rec (nI i) v1 v2 v3 v4 v5 v6 = rec (nI (i + 1)) w1 w2 w3 w4 w5 w6 ∧ P (i + 1) w1 w2 w3 w4 w5 w6)) (he : ∀ (rec : Int32 → T1 → T2 → T3 → T4 → T5 → T6 → Option Z) (v1 : T1) (v2 : T2) (v3 : T3) (v4 : T4) (v5 : T5) (v6 : T6), P n v1 v2 v3 v4 v5 v6 → Ev (b rec (nI n) v1 v2 v3 v4 v5 v6) Q) : ∀ (N i : Nat) (v1 : T1) (v2 : T2) (v3 : T3) (v4 : T4) (v5 : T5) (v6 : T6), i ≤ n → n - i < N → P i v1 v2 v3 v4 v5 v6 → Ev (zl7 b N (nI i) v1 v2 v3 v4 v5 v6) Q := by
  intro N
  induction N with
  | zero => intro i v1 v2 v3 v4 v5 v6 _ h; omega
  | succ N ih =>
    intro i v1 v2 v3 v4 v5 v6 hi hN hP
    show Ev (b (zl7 b N) (nI i) v1 v2 v3 v4 v5 v6) Q
    rcases Nat.lt_or_ge i n with h | h
    · rcases hs (zl7 b N) i v1 v2 v3 v4 v5 v6 h hP with h1 | ⟨w1, w2, w3, w4, w5, w6, e, h2⟩
      · exact h1
      · rw [e]; exact ih (i + 1) w1 w2 w3 w4 w5 w6 h (by omega) h2
    · have e : i = n := by omega
      subst e
      exact he _ v1 v2 v3 v4 v5 v6 hP
theorem zl7c1 {T0 T2 T3 T4 T5 T6 Z : Type} {b : (T0 → Int32 → T2 → T3 → T4 → T5 → T6 → Option Z) → T0 → Int32 → T2 → T3 → T4 → T5 → T6 → Option Z} {Q : Z → Prop} (n : Nat) (P : Nat → T0 → T2 → T3 → T4 → T5 → T6 → Prop) (hs : ∀ (rec : T0 → Int32 → T2 → T3 → T4 → T5 → T6 → Option Z) (i : Nat) (v0 : T0) (v2 : T2) (v3 : T3) (v4 : T4) (v5 : T5) (v6 : T6), i < n → P i v0 v2 v3 v4 v5 v6 → Ev (b rec v0 (nI i) v2 v3 v4 v5 v6) Q ∨ (∃ w0 w2 w3 w4 w5 w6, b rec v0 (nI i) v2 v3 v4 v5 v6 = rec w0 (nI (i + 1)) w2 w3 w4 w5 w6 ∧ P (i + 1) w0 w2 w3 w4 w5 w6)) (he : ∀ (rec : T0 → Int32 → T2 → T3 → T4 → T5 → T6 → Option Z) (v0 : T0) (v2 : T2) (v3 : T3) (v4 : T4) (v5 : T5) (v6 : T6), P n v0 v2 v3 v4 v5 v6 → Ev (b rec v0 (nI n) v2 v3 v4 v5 v6) Q) : ∀ (N i : Nat) (v0 : T0) (v2 : T2) (v3 : T3) (v4 : T4) (v5 : T5) (v6 : T6), i ≤ n → n - i < N → P i v0 v2 v3 v4 v5 v6 → Ev (zl7 b N v0 (nI i) v2 v3 v4 v5 v6) Q := by
  intro N
  induction N with
  | zero => intro i v0 v2 v3 v4 v5 v6 _ h; omega
  | succ N ih =>
    intro i v0 v2 v3 v4 v5 v6 hi hN hP
    show Ev (b (zl7 b N) v0 (nI i) v2 v3 v4 v5 v6) Q
    rcases Nat.lt_or_ge i n with h | h
    · rcases hs (zl7 b N) i v0 v2 v3 v4 v5 v6 h hP with h1 | ⟨w0, w2, w3, w4, w5, w6, e, h2⟩
      · exact h1
      · rw [e]; exact ih (i + 1) w0 w2 w3 w4 w5 w6 h (by omega) h2
    · have e : i = n := by omega
      subst e
      exact he _ v0 v2 v3 v4 v5 v6 hP
theorem zl7c2 {T0 T1 T3 T4 T5 T6 Z : Type} {b : (T0 → T1 → Int32 → T3 → T4 → T5 → T6 → Option Z) → T0 → T1 → Int32 → T3 → T4 → T5 → T6 → Option Z} {Q : Z → Prop} (n : Nat) (P : Nat → T0 → T1 → T3 → T4 → T5 → T6 → Prop) (hs : ∀ (rec : T0 → T1 → Int32 → T3 → T4 → T5 → T6 → Option Z) (i : Nat) (v0 : T0) (v1 : T1) (v3 : T3) (v4 : T4) (v5 : T5) (v6 : T6), i < n → P i v0 v1 v3 v4 v5 v6 → Ev (b rec v0 v1 (nI i) v3 v4 v5 v6) Q ∨ (∃ w0 w1 w3 w4 w5 w6, b rec v0 v1 (nI i) v3 v4 v5 v6 = rec w0 w1 (nI (i + 1)) w3 w4 w5 w6 ∧ P (i + 1) w0 w1 w3 w4 w5 w6)) (he : ∀ (rec : T0 → T1 → Int32 → T3 → T4 → T5 → T6 → Option Z) (v0 : T0) (v1 : T1) (v3 : T3) (v4 : T4) (v5 : T5) (v6 : T6), P n v0 v1 v3 v4 v5 v6 → Ev (b rec v0 v1 (nI n) v3 v4 v5 v6) Q) : ∀ (N i : Nat) (v0 : T0) (v1 : T1) (v3 : T3) (v4 : T4) (v5 : T5) (v6 : T6), i ≤ n → n - i < N → P i v0 v1 v3 v4 v5 v6 → Ev (zl7 b N v0 v1 (nI i) v3 v4 v5 v6) Q := by
  intro N
  induction N with
  | zero => intro i v0 v1 v3 v4 v5 v6 _ h; omega
  | succ N ih =>
    intro i v0 v1 v3 v4 v5 v6 hi hN hP
    show Ev (b (zl7 b N) v0 v1 (nI i) v3 v4 v5 v6) Q
    rcases Nat.lt_or_ge i n with h | h
    · rcases hs (zl7 b N) i v0 v1 v3 v4 v5 v6 h hP with h1 | ⟨w0, w1, w3, w4, w5, w6, e, h2⟩
      · exact h1
      · rw [e]; exact ih (i + 1) w0 w1 w3 w4 w5 w6 h (by omega) h2
    · have e : i = n := by omega
      subst e
      exact he _ v0 v1 v3 v4 v5 v6 hP
theorem zl7c3 {T0 T1 T2 T4 T5 T6 Z : Type} {b : (T0 → T1 → T2 → Int32 → T4 → T5 → T6 → Option Z) → T0 → T1 → T2 → Int32 → T4 → T5 → T6 → Option Z} {Q : Z → Prop} (n : Nat) (P : Nat → T0 → T1 → T2 → T4 → T5 → T6 → Prop) (hs : ∀ (rec : T0 → T1 → T2 → Int32 → T4 → T5 → T6 → Option Z) (i : Nat) (v0 : T0) (v1 : T1) (v2 : T2) (v4 : T4) (v5 : T5) (v6 : T6), i < n → P i v0 v1 v2 v4 v5 v6 → Ev (b rec v0 v1 v2 (nI i) v4 v5 v6) Q ∨ (∃ w0 w1 w2 w4 w5 w6, b rec v0 v1 v2 (nI i) v4 v5 v6 = rec w0 w1 w2 (nI (i + 1)) w4 w5 w6 ∧ P (i + 1) w0 w1 w2 w4 w5 w6)) (he : ∀ (rec : T0 → T1 → T2 → Int32 → T4 → T5 → T6 → Option Z) (v0 : T0) (v1 : T1) (v2 : T2) (v4 : T4) (v5 : T5) (v6 : T6), P n v0 v1 v2 v4 v5 v6 → Ev (b rec v0 v1 v2 (nI n) v4 v5 v6) Q) : ∀ (N i : Nat) (v0 : T0) (v1 : T1) (v2 : T2) (v4 : T4) (v5 : T5) (v6 : T6), i ≤ n → n - i < N → P i v0 v1 v2 v4 v5 v6 → Ev (zl7 b N v0 v1 v2 (nI i) v4 v5 v6) Q := by
  intro N
  induction N with
  | zero => intro i v0 v1 v2 v4 v5 v6 _ h; omega
  | succ N ih =>
    intro i v0 v1 v2 v4 v5 v6 hi hN hP
    show Ev (b (zl7 b N) v0 v1 v2 (nI i) v4 v5 v6) Q
    rcases Nat.lt_or_ge i n with h | h
    · rcases hs (zl7 b N) i v0 v1 v2 v4 v5 v6 h hP with h1 | ⟨w0, w1, w2, w4, w5, w6, e, h2⟩
      · exact h1
      · rw [e]; exact ih (i + 1) w0 w1 w2 w4 w5 w6 h (by omega) h2
    · have e : i = n := by omega
      subst e
      exact he _ v0 v1 v2 v4 v5 v6 hP
theorem zl7c4 {T0 T1 T2 T3 T5 T6 Z : Type} {b : (T0 → T1 → T2 → T3 → Int32 → T5 → T6 → Option Z) → T0 → T1 → T2 → T3 → Int32 → T5 → T6 → Option Z} {Q : Z → Prop} (n : Nat) (P : Nat → T0 → T1 → T2 → T3 → T5 → T6 → Prop) (hs : ∀ (rec : T0 → T1 → T2 → T3 → Int32 → T5 → T6 → Option Z) (i : Nat) (v0 : T0) (v1 : T1) (v2 : T2) (v3 : T3) (v5 : T5) (v6 : T6), i < n → P i v0 v1 v2 v3 v5 v6 → Ev (b rec v0 v1 v2 v3 (nI i) v5 v6) Q ∨ (∃ w0 w1 w2 w3 w5 w6, b rec v0 v1 v2 v3 (nI i) v5 v6 = rec w0 w1 w2 w3 (nI (i + 1)) w5 w6 ∧ P (i + 1) w0 w1 w2 w3 w5 w6)) (he : ∀ (rec : T0 → T1 → T2 → T3 → Int32 → T5 → T6 → Option Z) (v0 : T0) (v1 : T1) (v2 : T2) (v3 : T3) (v5 : T5) (v6 : T6), P n v0 v1 v2 v3 v5 v6 → Ev (b rec v0 v1 v2 v3 (nI n) v5 v6) Q) : ∀ (N i : Nat) (v0 : T0) (v1 : T1) (v2 : T2) (v3 : T3) (v5 : T5) (v6 : T6), i ≤ n → n - i < N → P i v0 v1 v2 v3 v5 v6 → Ev (zl7 b N v0 v1 v2 v3 (nI i) v5 v6) Q := by
  intro N
  induction N with
  | zero => intro i v0 v1 v2 v3 v5 v6 _ h; omega
  | succ N ih =>
    intro i v0 v1 v2 v3 v5 v6 hi hN hP
    show Ev (b (zl7 b N) v0 v1 v2 v3 (nI i) v5 v6) Q
    rcases Nat.lt_or_ge i n with h | h
    · rcases hs (zl7 b N) i v0 v1 v2 v3 v5 v6 h hP with h1 | ⟨w0, w1, w2, w3, w5, w6, e, h2⟩
      · exact h1
      · rw [e]; exact ih (i + 1) w0 w1 w2 w3 w5 w6 h (by omega) h2
    · have e : i = n := by omega
      subst e
      exact he _ v0 v1 v2 v3 v5 v6 hP
theorem zl7c5 {T0 T1 T2 T3 T4 T6 Z : Type} {b : (T0 → T1 → T2 → T3 → T4 → Int32 → T6 → Option Z) → T0 → T1 → T2 → T3 → T4 → Int32 → T6 → Option Z} {Q : Z → Prop} (n : Nat) (P : Nat → T0 → T1 → T2 → T3 → T4 → T6 → Prop) (hs : ∀ (rec : T0 → T1 → T2 → T3 → T4 → Int32 → T6 → Option Z) (i : Nat) (v0 : T0) (v1 : T1) (v2 : T2) (v3 : T3) (v4 : T4) (v6 : T6), i < n → P i v0 v1 v2 v3 v4 v6 → Ev (b rec v0 v1 v2 v3 v4 (nI i) v6) Q ∨ (∃ w0 w1 w2 w3 w4 w6, b rec v0 v1 v2 v3 v4 (nI i) v6 = rec w0 w1 w2 w3 w4 (nI (i + 1)) w6 ∧ P (i + 1) w0 w1 w2 w3 w4 w6)) (he : ∀ (rec : T0 → T1 → T2 → T3 → T4 → Int32 → T6 → Option Z) (v0 : T0) (v1 : T1) (v2 : T2) (v3 : T3) (v4 : T4) (v6 : T6), P n v0 v1 v2 v3 v4 v6 → Ev (b rec v0 v1 v2 v3 v4 (nI n) v6) Q) : ∀ (N i : Nat) (v0 : T0) (v1 : T1) (v2 : T2) (v3 : T3) (v4 : T4) (v6 : T6), i ≤ n → n - i < N → P i v0 v1 v2 v3 v4 v6 → Ev (zl7 b N v0 v1 v2 v3 v4 (nI i) v6) Q := by
  intro N
  induction N with
  | zero => intro i v0 v1 v2 v3 v4 v6 _ h; omega
  | succ N ih =>
    intro i v0 v1 v2 v3 v4 v6 hi hN hP
    show Ev (b (zl7 b N) v0 v1 v2 v3 v4 (nI i) v6) Q
    rcases Nat.lt_or_ge i n with h | h
    · rcases hs (zl7 b N) i v0 v1 v2 v3 v4 v6 h hP with h1 | ⟨w0, w1, w2, w3, w4, w6, e, h2⟩
      · exact h1
      · rw [e]; exact ih (i + 1) w0 w1 w2 w3 w4 w6 h (by omega) h2
    · have e : i = n := by omega
      subst e
      exact he _ v0 v1 v2 v3 v4 v6 hP
theorem zl7c6 {T0 T1 T2 T3 T4 T5 Z : Type} {b : (T0 → T1 → T2 → T3 → T4 → T5 → Int32 → Option Z) → T0 → T1 → T2 → T3 → T4 → T5 → Int32 → Option Z} {Q : Z → Prop} (n : Nat) (P : Nat → T0 → T1 → T2 → T3 → T4 → T5 → Prop) (hs : ∀ (rec : T0 → T1 → T2 → T3 → T4 → T5 → Int32 → Option Z) (i : Nat) (v0 : T0) (v1 : T1) (v2 : T2) (v3 : T3) (v4 : T4) (v5 : T5), i < n → P i v0 v1 v2 v3 v4 v5 → Ev (b rec v0 v1 v2 v3 v4 v5 (nI i)) Q ∨ (∃ w0 w1 w2 w3 w4 w5, b rec v0 v1 v2 v3 v4 v5 (nI i) = rec w0 w1 w2 w3 w4 w5 (nI (i + 1)) ∧ P (i + 1) w0 w1 w2 w3 w4 w5)) (he : ∀ (rec : T0 → T1 → T2 → T3 → T4 → T5 → Int32 → Option Z) (v0 : T0) (v1 : T1) (v2 : T2) (v3 : T3) (v4 : T4) (v5 : T5), P n v0 v1 v2 v3 v4 v5 → Ev (b rec v0 v1 v2 v3 v4 v5 (nI n)) Q) : ∀ (N i : Nat) (v0 : T0) (v1 : T1) (v2 : T2) (v3 : T3) (v4 : T4) (v5 : T5), i ≤ n → n - i < N → P i v0 v1 v2 v3 v4 v5 → Ev (zl7 b N v0 v1 v2 v3 v4 v5 (nI i)) Q := by
  intro N
  induction N with
  | zero => intro i v0 v1 v2 v3 v4 v5 _ h; omega
  | succ N ih =>
    intro i v0 v1 v2 v3 v4 v5 hi hN hP
    show Ev (b (zl7 b N) v0 v1 v2 v3 v4 v5 (nI i)) Q
    rcases Nat.lt_or_ge i n with h | h
    · rcases hs (zl7 b N) i v0 v1 v2 v3 v4 v5 h hP with h1 | ⟨w0, w1, w2, w3, w4, w5, e, h2⟩
      · exact h1
      · rw [e]; exact ih (i + 1) w0 w1 w2 w3 w4 w5 h (by omega) h2
    · have e : i = n := by omega
      subst e
      exact he _ v0 v1 v2 v3 v4 v5 hP
theorem zl8c0 {T1 T2 T3 T4 T5 T6 T7 Z : Type} {b : (Int32 → T1 → T2 → T3 → T4 → T5 → T6 → T7 → Option Z) → Int32 → T1 → T2 → T3 → T4 → T5 → T6 → T7 → Option Z} {Q : Z → Prop} (n : Nat) (P : Nat → T1 → T2 → T3 → T4 → T5 → T6 → T7 → Prop) (hs : ∀ (rec : Int32 → T1 → T2 → T3 → T4 → T5 → T6 → T7 → Option Z) (i : Nat) (v1 : T1) (v2 : T2) (v3 : T3) (v4 : T4) (v5 : T5) (v6 : T6) (v7 : T7), i < n → P i v1 v2 v3 v4 v5 v6 v7 → Ev (b rec (nI i) v1 v2 v3 v4 v5 v6 v7) Q ∨ (∃ w1 w2 w3 w4 w5 w6 w7, b rec (nI i) v1 v2 v3 v4 v5 v6 v7 = rec (nI (i + 1)) w1 w2 w3 w4 w5 w6 w7 ∧ P (i + 1) w1 w2 w3 w4 w5 w6 w7)) (he : ∀ (rec : Int32 → T1 → T2 → T3 → T4 → T5 → T6 → T7 → Option Z) (v1 : T1) (v2 : T2) (v3 : T3) (v4 : T4) (v5 : T5) (v6 : T6) (v7 : T7), P n v1 v2 v3 v4 v5 v6 v7 → Ev (b rec (nI n) v1 v2 v3 v4 v5 v6 v7) Q) : ∀ (N i : Nat) (v1 : T1) (v2 : T2) (v3 : T3) (v4 : T4) (v5 : T5) (v6 : T6) (v7 : T7), i ≤ n → n - i < N → P i v1 v2 v3 v4 v5 v6 v7 → Ev (zl8 b N (nI i) v1 v2 v3 v4 v5 v6 v7) Q := by
  intro N
  induction N with
  | zero => intro i v1 v2 v3 v4 v5 v6 v7 _ h; omega
  | succ N ih =>
    intro i v1 v2 v3 v4 v5 v6 v7 hi hN hP
    show Ev (b (zl8 b N) (nI i) v1 v2 v3 v4 v5 v6 v7) Q
    rcases Nat.lt_or_ge i n with h | h
    · rcases hs (zl8 b N) i v1 v2 v3 v4 v5 v6 v7 h hP with h1 | ⟨w1, w2, w3, w4, w5, w6, w7, e, h2⟩
      · exact h1
      · rw [e]; exact ih (i + 1) w1 w2 w3 w4 w5 w6 w7 h (by omega) h2
    · have e : i = n := by omega
      subst e
      exact he _ v1 v2 v3 v4 v5 v6 v7 hP
theorem zl8c1 {T0 T2 T3 T4 T5 T6 T7 Z : Type} {b : (T0 → Int32 → T2 → T3 → T4 → T5 → T6 → T7 → Option Z) → T0 → Int32 → T2 → T3 → T4 → T5 → T6 → T7 → Option Z} {Q : Z → Prop} (n : Nat) (P : Nat → T0 → T2 → T3 → T4 → T5 → T6 → T7 → Prop) (hs : ∀ (rec : T0 → Int32 → T2 → T3 → T4 → T5 → T6 → T7 → Option Z) (i : Nat) (v0 : T0) (v2 : T2) (v3 : T3) (v4 : T4) (v5 : T5) (v6 : T6) (v7 : T7), i < n → P i v0 v2 v3 v4 v5 v6 v7 → Ev (b rec v0 (nI i) v2 v3 v4 v5 v6 v7) Q ∨ (∃ w0 w2 w3 w4 w5 w6 w7, b rec v0 (nI i) v2 v3 v4 v5 v6 v7 = rec w0 (nI (i + 1)) w2 w3 w4 w5 w6 w7 ∧ P (i + 1) w0 w2 w3 w4 w5 w6 w7)) (he : ∀ (rec : T0 → Int32 → T2 → T3 → T4 → T5 → T6 → T7 → Option Z) (v0 : T0) (v2 : T2) (v3 : T3) (v4 : T4) (v5 : T5) (v6 : T6) (v7 : T7), P n v0 v2 v3 v4 v5 v6 v7 → Ev (b rec v0 (nI n) v2 v3 v4 v5 v6 v7) Q) : ∀ (N i : Nat) (v0 : T0) (v2 : T2) (v3 : T3) (v4 : T4) (v5 : T5) (v6 : T6) (v7 : T7), i ≤ n → n - i < N → P i v0 v2 v3 v4 v5 v6 v7 → Ev (zl8 b N v0 (nI i) v2 v3 v4 v5 v6 v7) Q := by
  intro N
  induction N with
  | zero => intro i v0 v2 v3 v4 v5 v6 v7 _ h; omega
  | succ N ih =>
    intro i v0 v2 v3 v4 v5 v6 v7 hi hN hP
    show Ev (b (zl8 b N) v0 (nI i) v2 v3 v4 v5 v6 v7) Q
    rcases Nat.lt_or_ge i n with h | h
    · rcases hs (zl8 b N) i v0 v2 v3 v4 v5 v6 v7 h hP with h1 | ⟨w0, w2, w3, w4, w5, w6, w7, e, h2⟩
      · exact h1
      · rw [e]; exact ih (i + 1) w0 w2 w3 w4 w5 w6 w7 h (by omega) h2
    · have e : i = n := by omega
      subst e
      exact he _ v0 v2 v3 v4 v5 v6 v7 hP
theorem zl8c2 {T0 T1 T3 T4 T5 T6 T7 Z : Type} {b : (T0 → T1 → Int32 → T3 → T4 → T5 → T6 → T7 → Option Z) → T0 → T1 → Int32 → T3 → T4 → T5 → T6 → T7 → Option Z} {Q : Z → Prop} (n : Nat) (P : Nat → T0 → T1 → T3 → T4 → T5 → T6 → T7 → Prop) (hs : ∀ (rec : T0 → T1 → Int32 → T3 → T4 → T5 → T6 → T7 → Option Z) (i : Nat) (v0 : T0) (v1 : T1) (v3 : T3) (v4 : T4) (v5 : T5) (v6 : T6) (v7 : T7), i < n → P i v0 v1 v3 v4 v5 v6 v7 → Ev (b rec v0 v1 (nI i) v3 v4 v5 v6 v7) Q ∨ (∃ w0 w1 w3 w4 w5 w6 w7, b rec v0 v1 (nI i) v3 v4 v5 v6 v7 = rec w0 w1 (nI (i + 1)) w3 w4 w5 w6 w7 ∧ P (i + 1) w0 w1 w3 w4 w5 w6 w7)) (he : ∀ (rec : T0 → T1 → Int32 → T3 → T4 → T5 → T6 → T7 → Option Z) (v0 : T0) (v1 : T1) (v3 : T3) (v4 : T4) (v5 : T5) (v6 : T6) (v7 : T7), P n v0 v1 v3 v4 v5 v6 v7 → Ev (b rec v0 v1 (nI n) v3 v4 v5 v6 v7) Q) : ∀ (N i : Nat) (v0 : T0) (v1 : T1) (v3 : T3) (v4 : T4) (v5 : T5) (v6 : T6) (v7 : T7), i ≤ n → n - i < N → P i v0 v1 v3 v4 v5 v6 v7 → Ev (zl8 b N v0 v1 (nI i) v3 v4 v5 v6 v7) Q := by
  intro N
  induction N with
  | zero => intro i v0 v1 v3 v4 v5 v6 v7 _ h; omega
  | succ N ih =>
    intro i v0 v1 v3 v4 v5 v6 v7 hi hN hP
    show Ev (b (zl8 b N) v0 v1 (nI i) v3 v4 v5 v6 v7) Q
    rcases Nat.lt_or_ge i n with h | h
    · rcases hs (zl8 b N) i v0 v1 v3 v4 v5 v6 v7 h hP with h1 | ⟨w0, w1, w3, w4, w5, w6, w7, e, h2⟩
      · exact h1
      · rw [e]; exact ih (i + 1) w0 w1 w3 w4 w5 w6 w7 h (by omega) h2
    · have e : i = n := by omega
      subst e
      exact he _ v0 v1 v3 v4 v5 v6 v7 hP
theorem zl8c3 {T0 T1 T2 T4 T5 T6 T7 Z : Type} {b : (T0 → T1 → T2 → Int32 → T4 → T5 → T6 → T7 → Option Z) → T0 → T1 → T2 → Int32 → T4 → T5 → T6 → T7 → Option Z} {Q : Z → Prop} (n : Nat) (P : Nat → T0 → T1 → T2 → T4 → T5 → T6 → T7 → Prop) (hs : ∀ (rec : T0 → T1 → T2 → Int32 → T4 → T5 → T6 → T7 → Option Z) (i : Nat) (v0 : T0) (v1 : T1) (v2 : T2) (v4 : T4) (v5 : T5) (v6 : T6) (v7 : T7), i < n → P i v0 v1 v2 v4 v5 v6 v7 → Ev (b rec v0 v1 v2 (nI i) v4 v5 v6 v7) Q ∨ (∃ w0 w1 w2 w4 w5 w6 w7, b rec v0 v1 v2 (nI i) v4 v5 v6 v7 = rec w0 w1 w2 (nI (i + 1)) w4 w5 w6 w7 ∧ P (i + 1) w0 w1 w2 w4 w5 w6 w7)) (he : ∀ (rec : T0 → T1 → T2 → Int32 → T4 → T5 → T6 → T7 → Option Z) (v0 : T0) (v1 : T1) (v2 : T2) (v4 : T4) (v5 : T5) (v6 : T6) (v7 : T7), P n v0 v1 v2 v4 v5 v6 v7 → Ev (b rec v0 v1 v2 (nI n) v4 v5 v6 v7) Q) : ∀ (N i : Nat) (v0 : T0) (v1 : T1) (v2 : T2) (v4 : T4) (v5 : T5) (v6 : T6) (v7 : T7), i ≤ n → n - i < N → P i v0 v1 v2 v4 v5 v6 v7 → Ev (zl8 b N v0 v1 v2 (nI i) v4 v5 v6 v7) Q := by
  intro N
  induction N with
  | zero => intro i v0 v1 v2 v4 v5 v6 v7 _ h; omega
  | succ N ih =>
    intro i v0 v1 v2 v4 v5 v6 v7 hi hN hP
    show Ev (b (zl8 b N) v0 v1 v2 (nI i) v4 v5 v6 v7) Q
    rcases Nat.lt_or_ge i n with h | h
    · rcases hs (zl8 b N) i v0 v1 v2 v4 v5 v6 v7 h hP with h1 | ⟨w0, w1, w2, w4, w5, w6, w7, e, h2⟩
      · exact h1
      · rw [e]; exact ih (i + 1) w0 w1 w2 w4 w5 w6 w7 h (by omega) h2
    · have e : i = n := by omega
      subst e
      exact he _ v0 v1 v2 v4 v5 v6 v7 hP
theorem zl8c4 {T0 T1 T2 T3 T5 T6 T7 Z : Type} {b : (T0 → T1 → T2 → T3 → Int32 → T5 → T6 → T7 → Option Z) → T0 → T1 → T2 → T3 → Int32 → T5 → T6 → T7 → Option Z} {Q : Z → Prop} (n : Nat) (P : Nat → T0 → T1 → T2 → T3 → T5 → T6 → T7 → Prop) (hs : ∀ (rec : T0 → T1 → T2 → T3 → Int32 → T5 → T6 → T7 → Option Z) (i : Nat) (v0 : T0) (v1 : T1) (v2 : T2) (v3 : T3) (v5 : T5) (v6 : T6) (v7 : T7), i < n → P i v0 v1 v2 v3 v5 v6 v7 → Ev (b rec v0 v1 v2 v3 (nI i) v5 v6 v7) Q ∨ (∃ w0 w1 w2 w3 w5 w6 w7, b rec v0 v1 v2 v3 (nI i) v5 v6 v7 = rec w0 w1 w2 w3 (nI (i + 1)) w5 w6 w7 ∧ P (i + 1) w0 w1 w2 w3 w5 w6 w7)) (he : ∀ (rec : T0 → T1 → T2 → T3 → Int32 → T5 → T6 → T7 → Option Z) (v0 : T0) (v1 : T1) (v2 : T2) (v3 : T3) (v5 : T5) (v6 : T6) (v7 : T7), P n v0 v1 v2 v3 v5 v6 v7 → Ev (b rec v0 v1 v2 v3 (nI n) v5 v6 v7) Q) : ∀ (N i : Nat) (v0 : T0) (v1 : T1) (v2 : T2) (v3 : T3) (v5 : T5) (v6 : T6) (v7 : T7), i ≤ n → n - i < N → P i v0 v1 v2 v3 v5 v6 v7 → Ev (zl8 b N v0 v1 v2 v3 (nI i) v5 v6 v7) Q := by
  intro N
  induction N with
  | zero => intro i v0 v1 v2 v3 v5 v6 v7 _ h; omega
  | succ N ih =>
    intro i v0 v1 v2 v3 v5 v6 v7 hi hN hP
    show Ev (b (zl8 b N) v0 v1 v2 v3 (nI i) v5 v6 v7) Q
    rcases Nat.lt_or_ge i n with h | h
    · rcases hs (zl8 b N) i v0 v1 v2 v3 v5 v6 v7 h hP with h1 | ⟨w0, w1, w2, w3, w5, w6, w7, e, h2⟩
      · exact h1
      · rw [e]; exact ih (i + 1) w0 w1 w2 w3 w5 w6 w7 h (by omega) h2
    · have e : i = n := by omega
      subst e
      exact he _ v0 v1 v2 v3 v5 v6 v7 hP
theorem zl8c5 {T0 T1 T2 T3 T4 T6 T7 Z : Type} {b : (T0 → T1 → T2 → T3 → T4 → Int32 → T6 → T7 → Option Z) → T0 → T1 → T2 → T3 → T4 → Int32 → T6 → T7 → Option Z} {Q : Z → Prop} (n : Nat) (P : Nat → T0 → T1 → T2 → T3 → T4 → T6 → T7 → Prop) (hs : ∀ (rec : T0 → T1 → T2 → T3 → T4 → Int32 → T6 → T7 → Option Z) (i : Nat) (v0 : T0) (v1 : T1) (v2 : T2) (v3 : T3) (v4 : T4) (v6 : T6) (v7 : T7), i < n → P i v0 v1 v2 v3 v4 v6 v7 → Ev (b rec v0 v1 v2 v3 v4 (nI i) v6 v7) Q ∨ (∃ w0 w1 w2 w3 w4 w6 w7, b rec v0 v1 v2 v3 v4 (nI i) v6 v7 = rec w0 w1 w2 w3 w4 (nI (i + 1)) w6 w7 ∧ P (i + 1) w0 w1 w2 w3 w4 w6 w7)) (he : ∀ (rec : T0 → T1 → T2 → T3 → T4 → Int32 → T6 → T7 → Option Z) (v0 : T0) (v1 : T1) (v2 : T2) (v3 : T3) (v4 : T4) (v6 : T6) (v7 : T7), P n v0 v1 v2 v3 v4 v6 v7 → Ev (b rec v0 v1 v2 v3 v4 (nI n) v6 v7) Q) : ∀ (N i : Nat) (v0 : T0) (v1 : T1) (v2 : T2) (v3 : T3) (v4 : T4) (v6 : T6) (v7 : T7), i ≤ n → n - i < N → P i v0 v1 v2 v3 v4 v6 v7 → Ev (zl8 b N v0 v1 v2 v3 v4 (nI i) v6 v7) Q := by
  intro N
  induction N with
  | zero => intro i v0 v1 v2 v3 v4 v6 v7 _ h; omega
  | succ N ih =>
    intro i v0 v1 v2 v3 v4 v6 v7 hi hN hP
    show Ev (b (zl8 b N) v0 v1 v2 v3 v4 (nI i) v6 v7) Q
    rcases Nat.lt_or_ge i n with h | h
    · rcases hs (zl8 b N) i v0 v1 v2 v3 v4 v6 v7 h hP with h1 | ⟨w0, w1, w2, w3, w4, w6, w7, e, h2⟩
      · exact h1
      · rw [e]; exact ih (i + 1) w0 w1 w2 w3 w4 w6 w7 h (by omega) h2
    · have e : i = n := by omega
      subst e
      exact he _ v0 v1 v2 v3 v4 v6 v7 hP
theorem zl8c6 {T0 T1 T2 T3 T4 T5 T7 Z : Type} {b : (T0 → T1 → T2 → T3 → T4 → T5 → Int32 → T7 → Option Z) → T0 → T1 → T2 → T3 → T4 → T5 → Int32 → T7 → Option Z} {Q : Z → Prop} (n : Nat) (P : Nat → T0 → T1 → T2 → T3 → T4 → T5 → T7 → Prop) (hs : ∀ (rec : T0 → T1 → T2 → T3 → T4 → T5 → Int32 → T7 → Option Z) (i : Nat) (v0 : T0) (v1 : T1) (v2 : T2) (v3 : T3) (v4 : T4) (v5 : T5) (v7 : T7), i < n → P i v0 v1 v2 v3 v4 v5 v7 → Ev (b rec v0 v1 v2 v3 v4 v5 (nI i) v7) Q ∨ (∃ w0 w1 w2 w3 w4 w5 w7, b rec v0 v1 v2 v3 v4 v5 (nI i) v7 = rec w0 w1 w2 w3 w4 w5 (nI (i + 1)) w7 ∧ P (i + 1) w0 w1 w2 w3 w4 w5 w7)) (he : ∀ (rec : T0 → T1 → T2 → T3 → T4 → T5 → Int32 → T7 → Option Z) (v0 : T0) (v1 : T1) (v2 : T2) (v3 : T3) (v4 : T4) (v5 : T5) (v7 : T7), P n v0 v1 v2 v3 v4 v5 v7 → Ev (b rec v0 v1 v2 v3 v4 v5 (nI n) v7) Q) : ∀ (N i : Nat) (v0 : T0) (v1 : T1) (v2 : T2) (v3 : T3) (v4 : T4) (v5 : T5) (v7 : T7), i ≤ n → n - i < N → P i v0 v1 v2 v3 v4 v5 v7 → Ev (zl8 b N v0 v1 v2 v3 v4 v5 (nI i) v7) Q := by
  intro N
  induction N with
  | zero => intro i v0 v1 v2 v3 v4 v5 v7 _ h; omega
  | succ N ih =>
    intro i v0 v1 v2 v3 v4 v5 v7 hi hN hP
    show Ev (b (zl8 b N) v0 v1 v2 v3 v4 v5 (nI i) v7) Q
    rcases Nat.lt_or_ge i n with h | h
    · rcases hs (zl8 b N) i v0 v1 v2 v3 v4 v5 v7 h hP with h1 | ⟨w0, w1, w2, w3, w4, w5, w7, e, h2⟩
      · exact h1
      · rw [e]; exact ih (i + 1) w0 w1 w2 w3 w4 w5 w7 h (by omega) h2
    · have e : i = n := by omega
      subst e
      exact he _ v0 v1 v2 v3 v4 v5 v7 hP
theorem zl8c7 {T0 T1 T2 T3 T4 T5 T6 Z : Type} {b : (T0 → T1 → T2 → T3 → T4 → T5 → T6 → Int32 → Option Z) → T0 → T1 → T2 → T3 → T4 → T5 → T6 → Int32 → Option Z} {Q : Z → Prop} (n : Nat) (P : Nat → T0 → T1 → T2 → T3 → T4 → T5 → T6 → Prop) (hs : ∀ (rec : T0 → T1 → T2 → T3 → T4 → T5 → T6 → Int32 → Option Z) (i : Nat) (v0 : T0) (v1 : T1) (v2 : T2) (v3 : T3) (v4 : T4) (v5 : T5) (v6 : T6), i < n → P i v0 v1 v2 v3 v4 v5 v6 → Ev (b rec v0 v1 v2 v3 v4 v5 v6 (nI i)) Q ∨ (∃ w0 w1 w2 w3 w4 w5 w6, b rec v0 v1 v2 v3 v4 v5 v6 (nI i) = rec w0 w1 w2 w3 w4 w5 w6 (nI (i + 1)) ∧ P (i + 1) w0 w1 w2 w3 w4 w5 w6)) (he : ∀ (rec : T0 → T1 → T2 → T3 → T4 → T5 → T6 → Int32 → Option Z) (v0 : T0) (v1 : T1) (v2 : T2) (v3 : T3) (v4 : T4) (v5 : T5) (v6 : T6), P n v0 v1 v2 v3 v4 v5 v6 → Ev (b rec v0 v1 v2 v3 v4 v5 v6 (nI n)) Q) : ∀ (N i : Nat) (v0 : T0) (v1 : T1) (v2 : T2) (v3 : T3) (v4 : T4) (v5 : T5) (v6 : T6), i ≤ n → n - i < N → P i v0 v1 v2 v3 v4 v5 v6 → Ev (zl8 b N v0 v1 v2 v3 v4 v5 v6 (nI i)) Q := by
  intro N
  induction N with
  | zero => intro i v0 v1 v2 v3 v4 v5 v6 _ h; omega
  | succ N ih =>
    intro i v0 v1 v2 v3 v4 v5 v6 hi hN hP
    show Ev (b (zl8 b N) v0 v1 v2 v3 v4 v5 v6 (nI i)) Q
    rcases Nat.lt_or_ge i n with h | h
    · rcases hs (zl8 b N) i v0 v1 v2 v3 v4 v5 v6 h hP with h1 | ⟨w0, w1, w2, w3, w4, w5, w6, e, h2⟩
      · exact h1
      · rw [e]; exact ih (i + 1) w0 w1 w2 w3 w4 w5 w6 h (by omega) h2
    · have e : i = n := by omega
      subst e
      exact he _ v0 v1 v2 v3 v4 v5 v6 hP
theorem zl9c0 {T1 T2 T3 T4 T5 T6 T7 T8 Z : Type} {b : (Int32 → T1 → T2 → T3 → T4 → T5 → T6 → T7 → T8 → Option Z) → Int32 → T1 → T2 → T3 → T4 → T5 → T6 → T7 → T8 → Option Z} {Q : Z → Prop} (n : Nat) (P : Nat → T1 → T2 → T3 → T4 → T5 → T6 → T7 → T8 → Prop) (hs : ∀ (rec : Int32 → T1 → T2 → T3 → T4 → T5 → T6 → T7 → T8 → Option Z) (i : Nat) (v1 : T1) (v2 : T2) (v3 : T3) (v4 : T4) (v5 : T5) (v6 : T6) (v7 : T7) (v8 : T8), i < n → P i v1 v2 v3 v4 v5 v6 v7 v8 → Ev (b rec (nI i) v1 v2 v3 v4 v5 v6 v7 v8) Q ∨ (∃ w1 w2 w3 w4 w5 w6 w7 w8, b rec (nI i) v1 v2 v3 v4 v5 v6 v7 v8 = rec (nI (i + 1)) w1 w2 w3 w4 w5 w6 w7 w8 ∧ P (i + 1) w1 w2 w3 w4 w5 w6 w7 w8)) (he : ∀ (rec : Int32 → T1 → T2 → T3 → T4 → T5 → T6 → T7 → T8 → Option Z) (v1 : T1) (v2 : T2) (v3 : T3) (v4 : T4) (v5 : T5) (v6 : T6) (v7 : T7) (v8 : T8), P n v1 v2 v3 v4 v5 v6 v7 v8 → Ev (b rec (nI n) v1 v2 v3 v4 v5 v6 v7 v8) Q) : ∀ (N i : Nat) (v1 : T1) (v2 : T2) (v3 : T3) (v4 : T4) (v5 : T5) (v6 : T6) (v7 : T7) (v8 : T8), i ≤ n → n - i < N → P i v1 v2 v3 v4 v5 v6 v7 v8 → Ev (zl9 b N (nI i) v1 v2 v3 v4 v5 v6 v7 v8) Q := by
  intro N
  induction N with
  | zero => intro i v1 v2 v3 v4 v5 v6 v7 v8 _ h; omega
  | succ N ih =>
    intro i v1 v2 v3 v4 v5 v6 v7 v8 hi hN hP
    show Ev (b (zl9 b N) (nI i) v1 v2 v3 v4 v5 v6 v7 v8) Q
    rcases Nat.lt_or_ge i n with h | h
    · rcases hs (zl9 b N) i v1 v2 v3 v4 v5 v6 v7 v8 h hP with h1 | ⟨w1, w2, w3, w4, w5, w6, w7, w8, e, h2⟩
      · exact h1
      · rw [e]; exact ih (i + 1) w1 w2 w3 w4 w5 w6 w7 w8 h (by omega) h2
    · have e : i = n := by omega
      subst e
      exact he _ v1 v2 v3 v4 v5 v6 v7 v8 hP
theorem zl9c1 {T0 T2 T3 T4 T5 T6 T7 T8 Z : Type} {b : (T0 → Int32 → T2 → T3 → T4 → T5 → T6 → T7 → T8 → Option Z) → T0 → Int32 → T2 → T3 → T4 → T5 → T6 → T7 → T8 → Option Z} {Q : Z → Prop} (n : Nat) (P : Nat → T0 → T2 → T3 → T4 → T5 → T6 → T7 → T8 → Prop) (hs : ∀ (rec : T0 → Int32 → T2 → T3 → T4 → T5 → T6 → T7 → T8 → Option Z) (i : Nat) (v0 : T0) (v2 : T2) (v3 : T3) (v4 : T4) (v5 : T5) (v6 : T6) (v7 : T7) (v8 : T8), i < n → P i v0 v2 v3 v4 v5 v6 v7 v8 → Ev (b rec v0 (nI i) v2 v3 v4 v5 v6 v7 v8) Q ∨ (∃ w0 w2 w3 w4 w5 w6 w7 w8, b rec v0 (nI i) v2 v3 v4 v5 v6 v7 v8 = rec w0 (nI (i + 1)) w2 w3 w4 w5 w6 w7 w8 ∧ P (i + 1) w0 w2 w3 w4 w5 w6 w7 w8)) (he : ∀ (rec : T0 → Int32 → T2 → T3 → T4 → T5 → T6 → T7 → T8 → Option Z) (v0 : T0) (v2 : T2) (v3 : T3) (v4 : T4) (v5 : T5) (v6 : T6) (v7 : T7) (v8 : T8), P n v0 v2 v3 v4 v5 v6 v7 v8 → Ev (b rec v0 (nI n) v2 v3 v4 v5 v6 v7 v8) Q) : ∀ (N i : Nat) (v0 : T0) (v2 : T2) (v3 : T3) (v4 : T4) (v5 : T5) (v6 : T6) (v7 : T7) (v8 : T8), i ≤ n → n - i < N → P i v0 v2 v3 v4 v5 v6 v7 v8 → Ev (zl9 b N v0 (nI i) v2 v3 v4 v5 v6 v7 v8) Q := by
  intro N
  induction N with
  | zero => intro i v0 v2 v3 v4 v5 v6 v7 v8 _ h; omega
  | succ N ih =>
    intro i v0 v2 v3 v4 v5 v6 v7 v8 hi hN hP
    show Ev (b (zl9 b N) v0 (nI i) v2 v3 v4 v5 v6 v7 v8) Q
    rcases Nat.lt_or_ge i n with h | h
    · rcases hs (zl9 b N) i v0 v2 v3 v4 v5 v6 v7 v8 h hP with h1 | ⟨w0, w2, w3, w4, w5, w6, w7, w8, e, h2⟩
      · exact h1
      · rw [e]; exact ih (i + 1) w0 w2 w3 w4 w5 w6 w7 w8 h (by omega) h2
    · have e : i = n := by omega
      subst e
      exact he _ v0 v2 v3 v4 v5 v6 v7 v8 hP
theorem zl9c2 {T0 T1 T3 T4 T5 T6 T7 T8 Z : Type} {b : (T0 → T1 → Int32 → T3 → T4 → T5 → T6 → T7 → T8 → Option Z) → T0 → T1 → Int32 → T3 → T4 → T5 → T6 → T7 → T8 → Option Z} {Q : Z → Prop} (n : Nat) (P : Nat → T0 → T1 → T3 → T4 → T5 → T6 → T7 → T8 → Prop) (hs : ∀ (rec : T0 → T1 → Int32 → T3 → T4 → T5 → T6 → T7 → T8 → Option Z) (i : Nat) (v0 : T0) (v1 : T1) (v3 : T3) (v4 : T4) (v5 : T5) (v6 : T6) (v7 : T7) (v8 : T8), i < n → P i v0 v1 v3 v4 v5 v6 v7 v8 → Ev (b rec v0 v1 (nI i) v3 v4 v5 v6 v7 v8) Q ∨ (∃ w0 w1 w3 w4 w5 w6 w7 w8, b rec v0 v1 (nI i) v3 v4 v5 v6 v7 v8 = rec w0 w1 (nI (i + 1)) w3 w4 w5 w6 w7 w8 ∧ P (i + 1) w0 w1 w3 w4 w5 w6 w7 w8)) (he : ∀ (rec : T0 → T1 → Int32 → T3 → T4 → T5 → T6 → T7 → T8 → Option Z) (v0 : T0) (v1 : T1) (v3 : T3) (v4 : T4) (v5 : T5) (v6 : T6) (v7 : T7) (v8 : T8), P n v0 v1 v3 v4 v5 v6 v7 v8 → Ev (b rec v0 v1 (nI n) v3 v4 v5 v6 v7 v8) Q) : ∀ (N i : Nat) (v0 : T0) (v1 : T1) (v3 : T3) (v4 : T4) (v5 : T5) (v6 : T6) (v7 : T7) (v8 : T8), i ≤ n → n - i < N → P i v0 v1 v3 v4 v5 v6 v7 v8 → Ev (zl9 b N v0 v1 (nI i) v3 v4 v5 v6 v7 v8) Q := by
  intro N
  induction N with
  | zero => intro i v0 v1 v3 v4 v5 v6 v7 v8 _ h; omega
  | succ N ih =>
    intro i v0 v1 v3 v4 v5 v6 v7 v8 hi hN hP
    show Ev (b (zl9 b N) v0 v1 (nI i) v3 v4 v5 v6 v7 v8) Q
    rcases Nat.lt_or_ge i n with h | h
    · rcases hs (zl9 b N) i v0 v1 v3 v4 v5 v6 v7 v8 h hP with h1 | ⟨w0, w1, w3, w4, w5, w6, w7, w8, e, h2⟩
      · exact h1
      · rw [e]; exact ih (i + 1) w0 w1 w3 w4 w5 w6 w7 w8 h (by omega) h2
    · have e : i = n := by omega
      subst e
      exact he _ v0 v1 v3 v4 v5 v6 v7 v8 hP
theorem zl9c3 {T0 T1 T2 T4 T5 T6 T7 T8 Z : Type} {b : (T0 → T1 → T2 → Int32 → T4 → T5 → T6 → T7 → T8 → Option Z) → T0 → T1 → T2 → Int32 → T4 → T5 → T6 → T7 → T8 → Option Z} {Q : Z → Prop} (n : Nat) (P : Nat → T0 → T1 → T2 → T4 → T5 → T6 → T7 → T8 → Prop) (hs : ∀ (rec : T0 → T1 → T2 → Int32 → T4 → T5 → T6 → T7 → T8 → Option Z) (i : Nat) (v0 : T0) (v1 : T1) (v2 : T2) (v4 : T4) (v5 : T5) (v6 : T6) (v7 : T7) (v8 : T8), i < n → P i v0 v1 v2 v4 v5 v6 v7 v8 → Ev (b rec v0 v1 v2 (nI i) v4 v5 v6 v7 v8) Q ∨ (∃ w0 w1 w2 w4 w5 w6 w7 w8, b rec v0 v1 v2 (nI i) v4 v5 v6 v7 v8 = rec w0 w1 w2 (nI (i + 1)) w4 w5 w6 w7 w8 ∧ P (i + 1) w0 w1 w2 w4 w5 w6 w7 w8)) (he : ∀ (rec : T0 → T1 → T2 → Int32 → T4 → T5 → T6 → T7 → T8 → Option Z) (v0 : T0) (v1 : T1) (v2 : T2) (v4 : T4) (v5 : T5) (v6 : T6) (v7 : T7) (v8 : T8), P n v0 v1 v2 v4 v5 v6 v7 v8 → Ev (b rec v0 v1 v2 (nI n) v4 v5 v6 v7 v8) Q) : ∀ (N i : Nat) (v0 : T0) (v1 : T1) (v2 : T2) (v4 : T4) (v5 : T5) (v6 : T6) (v7 : T7) (v8 : T8), i ≤ n → n - i < N → P i v0 v1 v2 v4 v5 v6 v7 v8 → Ev (zl9 b N v0 v1 v2 (nI i) v4 v5 v6 v7 v8) Q := by
  intro N
  induction N with
  | zero => intro i v0 v1 v2 v4 v5 v6 v7 v8 _ h; omega
  | succ N ih =>
    intro i v0 v1 v2 v4 v5 v6 v7 v8 hi hN hP
    show Ev (b (zl9 b N) v0 v1 v2 (nI i) v4 v5 v6 v7 v8) Q
    rcases Nat.lt_or_ge i n with h | h
    · rcases hs (zl9 b N) i v0 v1 v2 v4 v5 v6 v7 v8 h hP with h1 | ⟨w0, w1, w2, w4, w5, w6, w7, w8, e, h2⟩
      · exact h1
      · rw [e]; exact ih (i + 1) w0 w1 w2 w4 w5 w6 w7 w8 h (by omega) h2
    · have e : i = n := by omega
      subst e
      exact he _ v0 v1 v2 v4 v5 v6 v7 v8 hP
theorem zl9c4 {T0 T1 T2 T3 T5 T6 T7 T8 Z : Type} {b : (T0 → T1 → T2 → T3 → Int32 → T5 → T6 → T7 → T8 → Option Z) → T0 → T1 → T2 → T3 → Int32 → T5 → T6 → T7 → T8 → Option Z} {Q : Z → Prop} (n : Nat) (P : Nat → T0 → T1 → T2 → T3 → T5 → T6 → T7 → T8 → Prop) (hs : ∀ (rec : T0 → T1 → T2 → T3 → Int32 → T5 → T6 → T7 → T8 → Option Z) (i : Nat) (v0 : T0) (v1 : T1) (v2 : T2) (v3 : T3) (v5 : T5) (v6 : T6) (v7 : T7) (v8 : T8), i < n → P i v0 v1 v2 v3 v5 v6 v7 v8 → Ev (b rec v0 v1 v2 v3 (nI i) v5 v6 v7 v8) Q ∨ (∃ w0 w1 w2 w3 w5 w6 w7 w8, b rec v0 v1 v2 v3 (nI i) v5 v6 v7 v8 = rec w0 w1 w2 w3 (nI (i + 1)) w5 w6 w7 w8 ∧ P (i + 1) w0 w1 w2 w3 w5 w6 w7 w8)) (he : ∀ (rec : T0 → T1 → T2 → T3 → Int32 → T5 → T6 → T7 → T8 → Option Z) (v0 : T0) (v1 : T1) (v2 : T2) (v3 : T3) (v5 : T5) (v6 : T6) (v7 : T7) (v8 : T8), P n v0 v1 v2 v3 v5 v6 v7 v8 → Ev (b rec v0 v1 v2 v3 (nI n) v5 v6 v7 v8) Q) : ∀ (N i : Nat) (v0 : T0) (v1 : T1) (v2 : T2) (v3 : T3) (v5 : T5) (v6 : T6) (v7 : T7) (v8 : T8), i ≤ n → n - i < N → P i v0 v1 v2 v3 v5 v6 v7 v8 → Ev (zl9 b N v0 v1 v2 v3 (nI i) v5 v6 v7 v8) Q := by
  intro N
  induction N with
  | zero => intro i v0 v1 v2 v3 v5 v6 v7 v8 _ h; omega
  | succ N ih =>
    intro i v0 v1 v2 v3 v5 v6 v7 v8 hi hN hP
    show Ev (b (zl9 b N) v0 v1 v2 v3 (nI i) v5 v6 v7 v8) Q
    rcases Nat.lt_or_ge i n with h | h
    · rcases hs (zl9 b N) i v0 v1 v2 v3 v5 v6 v7 v8 h hP with h1 | ⟨w0, w1, w2, w3, w5, w6, w7, w8, e, h2⟩
      · exact h1
      · rw [e]; exact ih (i + 1) w0 w1 w2 w3 w5 w6 w7 w8 h (by omega) h2
    · have e : i = n := by omega
      subst e
      exact he _ v0 v1 v2 v3 v5 v6 v7 v8 hP
theorem zl9c5 {T0 T1 T2 T3 T4 T6 T7 T8 Z : Type} {b : (T0 → T1 → T2 → T3 → T4 → Int32 → T6 → T7 → T8 → Option Z) → T0 → T1 → T2 → T3 → T4 → Int32 → T6 → T7 → T8 → Option Z} {Q : Z → Prop} (n : Nat) (P : Nat → T0 → T1 → T2 → T3 → T4 → T6 → T7 → T8 → Prop) (hs : ∀ (rec : T0 → T1 → T2 → T3 → T4 → Int32 → T6 → T7 → T8 → Option Z) (i : Nat) (v0 : T0) (v1 : T1) (v2 : T2) (v3 : T3) (v4 : T4) (v6 : T6) (v7 : T7) (v8 : T8), i < n → P i v0 v1 v2 v3 v4 v6 v7 v8 → Ev (b rec v0 v1 v2 v3 v4 (nI i) v6 v7 v8) Q ∨ (∃ w0 w1 w2 w3 w4 w6 w7 w8, b rec v0 v1 v2 v3 v4 (nI i) v6 v7 v8 = rec w0 w1 w2 w3 w4 (nI (i + 1)) w6 w7 w8 ∧ P (i + 1) w0 w1 w2 w3 w4 w6 w7 w8)) (he : ∀ (rec : T0 → T1 → T2 → T3 → T4 → Int32 → T6 → T7 → T8 → Option Z) (v0 : T0) (v1 : T1) (v2 : T2) (v3 : T3) (v4 : T4) (v6 : T6) (v7 : T7) (v8 : T8), P n v0 v1 v2 v3 v4 v6 v7 v8 → Ev (b rec v0 v1 v2 v3 v4 (nI n) v6 v7 v8) Q) : ∀ (N i : Nat) (v0 : T0) (v1 : T1) (v2 : T2) (v3 : T3) (v4 : T4) (v6 : T6) (v7 : T7) (v8 : T8), i ≤ n → n - i < N → P i v0 v1 v2 v3 v4 v6 v7 v8 → Ev (zl9 b N v0 v1 v2 v3 v4 (nI i) v6 v7 v8) Q := by
  intro N
  induction N with
  | zero => intro i v0 v1 v2 v3 v4 v6 v7 v8 _ h; omega
  | succ N ih =>
    intro i v0 v1 v2 v3 v4 v6 v7 v8 hi hN hP
    show Ev (b (zl9 b N) v0 v1 v2 v3 v4 (nI i) v6 v7 v8) Q
    rcases Nat.lt_or_ge i n with h | h
    · rcases hs (zl9 b N) i v0 v1 v2 v3 v4 v6 v7 v8 h hP with h1 | ⟨w0, w1, w2, w3, w4, w6, w7, w8, e, h2⟩
      · exact h1
      · rw [e]; exact ih (i + 1) w0 w1 w2 w3 w4 w6 w7 w8 h (by omega) h2
    · have e : i = n := by omega
      subst e
      exact he _ v0 v1 v2 v3 v4 v6 v7 v8 hP
theorem zl9c6 {T0 T1 T2 T3 T4 T5 T7 T8 Z : Type} {b : (T0 → T1 → T2 → T3 → T4 → T5 → Int32 → T7 → T8 → Option Z) → T0 → T1 → T2 → T3 → T4 → T5 → Int32 → T7 → T8 → Option Z} {Q : Z → Prop} (n : Nat) (P : Nat → T0 → T1 → T2 → T3 → T4 → T5 → T7 → T8 → Prop) (hs : ∀ (rec : T0 → T1 → T2 → T3 → T4 → T5 → Int32 → T7 → T8 → Option Z) (i : Nat) (v0 : T0) (v1 : T1) (v2 : T2) (v3 : T3) (v4 : T4) (v5 : T5) (v7 : T7) (v8 : T8), i < n → P i v0 v1 v2 v3 v4 v5 v7 v8 → Ev (b rec v0 v1 v2 v3 v4 v5 (nI i) v7 v8) Q ∨ (∃ w0 w1 w2 w3 w4 w5 w7 w8, b rec v0 v1 v2 v3 v4 v5 (nI i) v7 v8 = rec w0 w1 w2 w3 w4 w5 (nI (i + 1)) w7 w8 ∧ P (i + 1) w0 w1 w2 w3 w4 w5 w7 w8)) (he : ∀ (rec : T0 → T1 → T2 → T3 → T4 → T5 → Int32 → T7 → T8 → Option Z) (v0 : T0) (v1 : T1) (v2 : T2) (v3 : T3) (v4 : T4) (v5 : T5) (v7 : T7) (v8 : T8), P n v0 v1 v2 v3 v4 v5 v7 v8 → Ev (b rec v0 v1 v2 v3 v4 v5 (nI n) v7 v8) Q) : ∀ (N i : Nat) (v0 : T0) (v1 : T1) (v2 : T2) (v3 : T3) (v4 : T4) (v5 : T5) (v7 : T7) (v8 : T8), i ≤ n → n - i < N → P i v0 v1 v2 v3 v4 v5 v7 v8 → Ev (zl9 b N v0 v1 v2 v3 v4 v5 (nI i) v7 v8) Q := by
  intro N
  induction N with
  | zero => intro i v0 v1 v2 v3 v4 v5 v7 v8 _ h; omega
  | succ N ih =>
    intro i v0 v1 v2 v3 v4 v5 v7 v8 hi hN hP
    show Ev (b (zl9 b N) v0 v1 v2 v3 v4 v5 (nI i) v7 v8) Q
    rcases Nat.lt_or_ge i n with h | h
    · rcases hs (zl9 b N) i v0 v1 v2 v3 v4 v5 v7 v8 h hP with h1 | ⟨w0, w1, w2, w3, w4, w5, w7, w8, e, h2⟩
      · exact h1
      · rw [e]; exact ih (i + 1) w0 w1 w2 w3 w4 w5 w7 w8 h (by omega) h2
    · have e : i = n := by omega
      subst e
      exact he _ v0 v1 v2 v3 v4 v5 v7 v8 hP
theorem zl9c7 {T0 T1 T2 T3 T4 T5 T6 T8 Z : Type} {b : (T0 → T1 → T2 → T3 → T4 → T5 → T6 → Int32 → T8 → Option Z) → T0 → T1 → T2 → T3 → T4 → T5 → T6 → Int32 → T8 → Option Z} {Q : Z → Prop} (n : Nat) (P : Nat → T0 → T1 → T2 → T3 → T4 → T5 → T6 → T8 → Prop) (hs : ∀ (rec : T0 → T1 → T2 → T3 → T4 → T5 → T6 → Int32 → T8 → Option Z) (i : Nat) (v0 : T0) (v1 : T1) (v2 : T2) (v3 : T3) (v4 : T4) (v5 : T5) (v6 : T6) (v8 : T8), i < n → P i v0 v1 v2 v3 v4 v5 v6 v8 → Ev (b rec v0 v1 v2 v3 v4 v5 v6 (nI i) v8) Q ∨ (∃ w0 w1 w2 w3 w4 w5 w6 w8, b rec v0 v1 v2 v3 v4 v5 v6 (nI i) v8 = rec w0 w1 w2 w3 w4 w5 w6 (nI (i + 1)) w8 ∧ P (i + 1) w0 w1 w2 w3 w4 w5 w6 w8)) (he : ∀ (rec : T0 → T1 → T2 → T3 → T4 → T5 → T6 → Int32 → T8 → Option Z) (v0 : T0) (v1 : T1) (v2 : T2) (v3 : T3) (v4 : T4) (v5 : T5) (v6 : T6) (v8 : T8), P n v0 v1 v2 v3 v4 v5 v6 v8 → Ev (b rec v0 v1 v2 v3 v4 v5 v6 (nI n) v8) Q) : ∀ (N i : Nat) (v0 : T0) (v1 : T1) (v2 : T2) (v3 : T3) (v4 : T4) (v5 : T5) (v6 : T6) (v8 : T8), i ≤ n → n - i < N → P i v0 v1 v2 v3 v4 v5 v6 v8 → Ev (zl9 b N v0 v1 v2 v3 v4 v5 v6 (nI i) v8) Q := by
  intro N
  induction N with
  | zero => intro i v0 v1 v2 v3 v4 v5 v6 v8 _ h; omega
  | succ N ih =>
    intro i v0 v1 v2 v3 v4 v5 v6 v8 hi hN hP
    show Ev (b (zl9 b N) v0 v1 v2 v3 v4 v5 v6 (nI i) v8) Q
    rcases Nat.lt_or_ge i n with h | h
    · rcases hs (zl9 b N) i v0 v1 v2 v3 v4 v5 v6 v8 h hP with h1 | ⟨w0, w1, w2, w3, w4, w5, w6, w8, e, h2⟩
      · exact h1
      · rw [e]; exact ih (i + 1) w0 w1 w2 w3 w4 w5 w6 w8 h (by omega) h2
    · have e : i = n := by omega
      subst e
      exact he _ v0 v1 v2 v3 v4 v5 v6 v8 hP
theorem zl9c8 {T0 T1 T2 T3 T4 T5 T6 T7 Z : Type} {b : (T0 → T1 → T2 → T3 → T4 → T5 → T6 → T7 → Int32 → Option Z) → T0 → T1 → T2 → T3 → T4 → T5 → T6 → T7 → Int32 → Option Z} {Q : Z → Prop} (n : Nat) (P : Nat → T0 → T1 → T2 → T3 → T4 → T5 → T6 → T7 → Prop) (hs : ∀ (rec : T0 → T1 → T2 → T3 → T4 → T5 → T6 → T7 → Int32 → Option Z) (i : Nat) (v0 : T0) (v1 : T1) (v2 : T2) (v3 : T3) (v4 : T4) (v5 : T5) (v6 : T6) (v7 : T7), i < n → P i v0 v1 v2 v3 v4 v5 v6 v7 → Ev (b rec v0 v1 v2 v3 v4 v5 v6 v7 (nI i)) Q ∨ (∃ w0 w1 w2 w3 w4 w5 w6 w7, b rec v0 v1 v2 v3 v4 v5 v6 v7 (nI i) = rec w0 w1 w2 w3 w4 w5 w6 w7 (nI (i + 1)) ∧ P (i + 1) w0 w1 w2 w3 w4 w5 w6 w7)) (he : ∀ (rec : T0 → T1 → T2 → T3 → T4 → T5 → T6 → T7 → Int32 → Option Z) (v0 : T0) (v1 : T1) (v2 : T2) (v3 : T3) (v4 : T4) (v5 : T5) (v6 : T6) (v7 : T7), P n v0 v1 v2 v3 v4 v5 v6 v7 → Ev (b rec v0 v1 v2 v3 v4 v5 v6 v7 (nI n)) Q) : ∀ (N i : Nat) (v0 : T0) (v1 : T1) (v2 : T2) (v3 : T3) (v4 : T4) (v5 : T5) (v6 : T6) (v7 : T7), i ≤ n → n - i < N → P i v0 v1 v2 v3 v4 v5 v6 v7 → Ev (zl9 b N v0 v1 v2 v3 v4 v5 v6 v7 (nI i)) Q := by
  intro N
  induction N with
  | zero => intro i v0 v1 v2 v3 v4 v5 v6 v7 _ h; omega
  | succ N ih =>
    intro i v0 v1 v2 v3 v4 v5 v6 v7 hi hN hP
    show Ev (b (zl9 b N) v0 v1 v2 v3 v4 v5 v6 v7 (nI i)) Q
    rcases Nat.lt_or_ge i n with h | h
    · rcases hs (zl9 b N) i v0 v1 v2 v3 v4 v5 v6 v7 h hP with h1 | ⟨w0, w1, w2, w3, w4, w5, w6, w7, e, h2⟩
      · exact h1
      · rw [e]; exact ih (i + 1) w0 w1 w2 w3 w4 w5 w6 w7 h (by omega) h2
    · have e : i = n := by omega
      subst e
      exact he _ v0 v1 v2 v3 v4 v5 v6 v7 hP
theorem zl11c0 {T1 T2 T3 T4 T5 T6 T7 T8 T9 T10 Z : Type} {b : (Int32 → T1 → T2 → T3 → T4 → T5 → T6 → T7 → T8 → T9 → T10 → Option Z) → Int32 → T1 → T2 → T3 → T4 → T5 → T6 → T7 → T8 → T9 → T10 → Option Z} {Q : Z → Prop} (n : Nat) (P : Nat → T1 → T2 → T3 → T4 → T5 → T6 → T7 → T8 → T9 → T10 → Prop) (hs : ∀ (rec : Int32 → T1 → T2 → T3 → T4 → T5 → T6 → T7 → T8 → T9 → T10 → Option Z) (i : Nat) (v1 : T1) (v2 : T2) (v3 : T3) (v4 : T4) (v5 : T5) (v6 : T6) (v7 : T7) (v8 : T8) (v9 : T9) (v10 : T10), i < n → P i v1 v2 v3 v4 v5 v6 v7 v8 v9 v10 → Ev (b rec (nI i) v1 v2 v3 v4 v5 v6 v7 v8 v9 v10) Q ∨ (∃ w1 w2 w3 w4 w5 w6 w7 w8 w9 w10, b rec (nI i) v1 v2 v3 v4 v5 v6 v7 v8 v9 v10 = rec (nI (i + 1)) w1 w2 w3 w4 w5 w6 w7 w8 w9 w10 ∧ P (i + 1) w1 w2 w3 w4 w5 w6 w7 w8 w9 w10)) (he : ∀ (rec : Int32 → T1 → T2 → T3 → T4 → T5 → T6 → T7 → T8 → T9 → T10 → Option Z) (v1 : T1) (v2 : T2) (v3 : T3) (v4 : T4) (v5 : T5) (v6 : T6) (v7 : T7) (v8 : T8) (v9 : T9) (v10 : T10), P n v1 v2 v3 v4 v5 v6 v7 v8 v9 v10 → Ev (b rec (nI n) v1 v2 v3 v4 v5 v6 v7 v8 v9 v10) Q) : ∀ (N i : Nat) (v1 : T1) (v2 : T2) (v3 : T3) (v4 : T4) (v5 : T5) (v6 : T6) (v7 : T7) (v8 : T8) (v9 : T9) (v10 : T10), i ≤ n → n - i < N → P i v1 v2 v3 v4 v5 v6 v7 v8 v9 v10 → Ev (zl11 b N (nI i) v1 v2 v3 v4 v5 v6 v7 v8 v9 v10) Q := by
  intro N
  induction N with
  | zero => intro i v1 v2 v3 v4 v5 v6 v7 v8 v9 v10 _ h; omega
  | succ N ih =>
    intro i v1 v2 v3 v4 v5 v6 v7 v8 v9 v10 hi hN hP
    show Ev (b (zl11 b N) (nI i) v1 v2 v3 v4 v5 v6 v7 v8 v9 v10) Q
    rcases Nat.lt_or_ge i n with h | h
    · rcases hs (zl11 b N) i v1 v2 v3 v4 v5 v6 v7 v8 v9 v10 h hP with h1 | ⟨w1, w2, w3, w4, w5, w6, w7, w8, w9, w10, e, h2⟩
      · exact h1
      · rw [e]; exact ih (i + 1) w1 w2 w3 w4 w5 w6 w7 w8 w9 w10 h (by omega) h2
    · have e : i = n := by omega
      subst e
      exact he _ v1 v2 v3 v4 v5 v6 v7 v8 v9 v10 hP
theorem zl11c1 {T0 T2 T3 T4 T5 T6 T7 T8 T9 T10 Z : Type} {b : (T0 → Int32 → T2 → T3 → T4 → T5 → T6 → T7 → T8 → T9 → T10 → Option Z) → T0 → Int32 → T2 → T3 → T4 → T5 → T6 → T7 → T8 → T9 → T10 → Option Z} {Q : Z → Prop} (n : Nat) (P : Nat → T0 → T2 → T3 → T4 → T5 → T6 → T7 → T8 → T9 → T10 → Prop) (hs : ∀ (rec : T0 → Int32 → T2 → T3 → T4 → T5 → T6 → T7 → T8 → T9 → T10 → Option Z) (i : Nat) (v0 : T0) (v2 : T2) (v3 : T3) (v4 : T4) (v5 : T5) (v6 : T6) (v7 : T7) (v8 : T8) (v9 : T9) (v10 : T10), i < n → P i v0 v2 v3 v4 v5 v6 v7 v8 v9 v10 → Ev (b rec v0 (nI i) v2 v3 v4 v5 v6 v7 v8 v9 v10) Q ∨ (∃ w0 w2 w3 w4 w5 w6 w7 w8 w9 w10, b rec v0 (nI i) v2 v3 v4 v5 v6 v7 v8 v9 v10 = rec w0 (nI (i + 1)) w2 w3 w4 w5 w6 w7 w8 w9 w10 ∧ P (i + 1) w0 w2 w3 w4 w5 w6 w7 w8 w9 w10)) (he : ∀ (rec : T0 → Int32 → T2 → T3 → T4 → T5 → T6 → T7 → T8 → T9 → T10 → Option Z) (v0 : T0) (v2 : T2) (v3 : T3) (v4 : T4) (v5 : T5) (v6 : T6) (v7 : T7) (v8 : T8) (v9 : T9) (v10 : T10), P n v0 v2 v3 v4 v5 v6 v7 v8 v9 v10 → Ev (b rec v0 (nI n) v2 v3 v4 v5 v6 v7 v8 v9 v10) Q) : ∀ (N i : Nat) (v0 : T0) (v2 : T2) (v3 : T3) (v4 : T4) (v5 : T5) (v6 : T6) (v7 : T7) (v8 : T8) (v9 : T9) (v10 : T10), i ≤ n → n - i < N → P i v0 v2 v3 v4 v5 v6 v7 v8 v9 v10 → Ev (zl11 b N v0 (nI i) v2 v3 v4 v5 v6 v7 v8 v9 v10) Q := by
  intro N
  induction N with
  | zero => intro i v0 v2 v3 v4 v5 v6 v7 v8 v9 v10 _ h; omega
  | succ N ih =>
    intro i v0 v2 v3 v4 v5 v6 v7 v8 v9 v10 hi hN hP
    show Ev (b (zl11 b N) v0 (nI i) v2 v3 v4 v5 v6 v7 v8 v9 v10) Q
    rcases Nat.lt_or_ge i n with h | h
    · rcases hs (zl11 b N) i v0 v2 v3 v4 v5 v6 v7 v8 v9 v10 h hP with h1 | ⟨w0, w2, w3, w4, w5, w6, w7, w8, w9, w10, e, h2⟩
      · exact h1
      · rw [e]; exact ih (i + 1) w0 w2 w3 w4 w5 w6 w7 w8 w9 w10 h (by omega) h2
    · have e : i = n := by omega
      subst e
      exact he _ v0 v2 v3 v4 v5 v6 v7 v8 v9 v10 hP
theorem zl11c2 {T0 T1 T3 T4 T5 T6 T7 T8 T9 T10 Z : Type} {b : (T0 → T1 → Int32 → T3 → T4 → T5 → T6 → T7 → T8 → T9 → T10 → Option Z) → T0 → T1 → Int32 → T3 → T4 → T5 → T6 → T7 → T8 → T9 → T10 → Option Z} {Q : Z → Prop} (n : Nat) (P : Nat → T0 → T1 → T3 → T4 → T5 → T6 → T7 → T8 → T9 → T10 → Prop) (hs : ∀ (rec : T0 → T1 → Int32 → T3 → T4 → T5 → T6 → T7 → T8 → T9 → T10 → Option Z) (i : Nat) (v0 : T0) (v1 : T1) (v3 : T3) (v4 : T4) (v5 : T5) (v6 : T6) (v7 : T7) (v8 : T8) (v9 : T9) (v10 : T10), i < n → P i v0 v1 v3 v4 v5 v6 v7 v8 v9 v10 → Ev (b rec v0 v1 (nI i) v3 v4 v5 v6 v7 v8 v9 v10) Q ∨ (∃ w0 w1 w3 w4 w5 w6 w7 w8 w9 w10, b rec v0 v1 (nI i) v3 v4 v5 v6 v7 v8 v9 v10 = rec w0 w1 (nI (i + 1)) w3 w4 w5 w6 w7 w8 w9 w10 ∧ P (i + 1) w0 w1 w3 w4 w5 w6 w7 w8 w9 w10)) (he : ∀ (rec : T0 → T1 → Int32 → T3 → T4 → T5 → T6 → T7 → T8 → T9 → T10 → Option Z) (v0 : T0) (v1 : T1) (v3 : T3) (v4 : T4) (v5 : T5) (v6 : T6) (v7 : T7) (v8 : T8) (v9 : T9) (v10 : T10), P n v0 v1 v3 v4 v5 v6 v7 v8 v9 v10 → Ev (b rec v0 v1 (nI n) v3 v4 v5 v6 v7 v8 v9 v10) Q) : ∀ (N i : Nat) (v0 : T0) (v1 : T1) (v3 : T3) (v4 : T4) (v5 : T5) (v6 : T6) (v7 : T7) (v8 : T8) (v9 : T9) (v10 : T10), i ≤ n → n - i < N → P i v0 v1 v3 v4 v5 v6 v7 v8 v9 v10 → Ev (zl11 b N v0 v1 (nI i) v3 v4 v5 v6 v7 v8 v9 v10) Q := by
  intro N
  induction N with
  | zero => intro i v0 v1 v3 v4 v5 v6 v7 v8 v9 v10 _ h; omega
  | succ N ih =>
    intro i v0 v1 v3 v4 v5 v6 v7 v8 v9 v10 hi hN hP
    show Ev (b (zl11 b N) v0 v1 (nI i) v3 v4 v5 v6 v7 v8 v9 v10) Q
    rcases Nat.lt_or_ge i n with h | h
    · rcases hs (zl11 b N) i v0 v1 v3 v4 v5 v6 v7 v8 v9 v10 h hP with h1 | ⟨w0, w1, w3, w4, w5, w6, w7, w8, w9, w10, e, h2⟩
      · exact h1
      · rw [e]; exact ih (i + 1) w0 w1 w3 w4 w5 w6 w7 w8 w9 w10 h (by omega) h2
    · have e : i = n := by omega
      subst e
      exact he _ v0 v1 v3 v4 v5 v6 v7 v8 v9 v10 hP
theorem zl11c3 {T0 T1 T2 T4 T5 T6 T7 T8 T9 T10 Z : Type} {b : (T0 → T1 → T2 → Int32 → T4 → T5 → T6 → T7 → T8 → T9 → T10 → Option Z) → T0 → T1 → T2 → Int32 → T4 → T5 → T6 → T7 → T8 → T9 → T10 → Option Z} {Q : Z → Prop} (n : Nat) (P : Nat → T0 → T1 → T2 → T4 → T5 → T6 → T7 → T8 → T9 → T10 → Prop) (hs : ∀ (rec : T0 → T1 → T2 → Int32 → T4 → T5 → T6 → T7 → T8 → T9 → T10 → Option Z) (i : Nat) (v0 : T0) (v1 : T1) (v2 : T2) (v4 : T4) (v5 : T5) (v6 : T6) (v7 : T7) (v8 : T8) (v9 : T9) (v10 : T10), i < n → P i v0 v1 v2 v4 v5 v6 v7 v8 v9 v10 → Ev (b rec v0 v1 v2 (nI i) v4 v5 v6 v7 v8 v9 v10) Q ∨ (∃ w0 w1 w2 w4 w5 w6 w7 w8 w9 w10, b rec v0 v1 v2 (nI i) v4 v5 v6 v7 v8 v9 v10 = rec w0 w1 w2 (nI (i + 1)) w4 w5 w6 w7 w8 w9 w10 ∧ P (i + 1) w0 w1 w2 w4 w5 w6 w7 w8 w9 w10)) (he : ∀ (rec : T0 → T1 → T2 → Int32 → T4 → T5 → T6 → T7 → T8 → T9 → T10 → Option Z) (v0 : T0) (v1 : T1) (v2 : T2) (v4 : T4) (v5 : T5) (v6 : T6) (v7 : T7) (v8 : T8) (v9 : T9) (v10 : T10), P n v0 v1 v2 v4 v5 v6 v7 v8 v9 v10 → Ev (b rec v0 v1 v2 (nI n) v4 v5 v6 v7 v8 v9 v10) Q) : ∀ (N i : Nat) (v0 : T0) (v1 : T1) (v2 : T2) (v4 : T4) (v5 : T5) (v6 : T6) (v7 : T7) (v8 : T8) (v9 : T9) (v10 : T10), i ≤ n → n - i < N → P i v0 v1 v2 v4 v5 v6 v7 v8 v9 v10 → Ev (zl11 b N v0 v1 v2 (nI i) v4 v5 v6 v7 v8 v9 v10) Q := by
  intro N
  induction N with
  | zero => intro i v0 v1 v2 v4 v5 v6 v7 v8 v9 v10 _ h; omega
  | succ N ih =>
    intro i v0 v1 v2 v4 v5 v6 v7 v8 v9 v10 hi hN hP
    show Ev (b (zl11 b N) v0 v1 v2 (nI i) v4 v5 v6 v7 v8 v9 v10) Q
    rcases Nat.lt_or_ge i n with h | h
    · rcases hs (zl11 b N) i v0 v1 v2 v4 v5 v6 v7 v8 v9 v10 h hP with h1 | ⟨w0, w1, w2, w4, w5, w6, w7, w8, w9, w10, e, h2⟩
      · exact h1
      · rw [e]; exact ih (i + 1) w0 w1 w2 w4 w5 w6 w7 w8 w9 w10 h (by omega) h2
    · have e : i = n := by omega
      subst e
      exact he _ v0 v1 v2 v4 v5 v6 v7 v8 v9 v10 hP
theorem zl11c4 {T0 T1 T2 T3 T5 T6 T7 T8 T9 T10 Z : Type} {b : (T0 → T1 → T2 → T3 → Int32 → T5 → T6 → T7 → T8 → T9 → T10 → Option Z) → T0 → T1 → T2 → T3 → Int32 → T5 → T6 → T7 → T8 → T9 → T10 → Option Z} {Q : Z → Prop} (n : Nat) (P : Nat → T0 → T1 → T2 → T3 → T5 → T6 → T7 → T8 → T9 → T10 → Prop) (hs : ∀ (rec : T0 → T1 → T2 → T3 → Int32 → T5 → T6 → T7 → T8 → T9 → T10 → Option Z) (i : Nat) (v0 : T0) (v1 : T1) (v2 : T2) (v3 : T3) (v5 : T5) (v6 : T6) (v7 : T7) (v8 : T8) (v9 : T9) (v10 : T10), i < n → P i v0 v1 v2 v3 v5 v6 v7 v8 v9 v10 → Ev (b rec v0 v1 v2 v3 (nI i) v5 v6 v7 v8 v9 v10) Q ∨ (∃ w0 w1 w2 w3 w5 w6 w7 w8 w9 w10, b rec v0 v1 v2 v3 (nI i) v5 v6 v7 v8 v9 v10 = rec w0 w1 w2 w3 (nI (i + 1)) w5 w6 w7 w8 w9 w10 ∧ P (i + 1) w0 w1 w2 w3 w5 w6 w7 w8 w9 w10)) (he : ∀ (rec : T0 → T1 → T2 → T3 → Int32 → T5 → T6 → T7 → T8 → T9 → T10 → Option Z) (v0 : T0) (v1 : T1) (v2 : T2) (v3 : T3) (v5 : T5) (v6 : T6) (v7 : T7) (v8 : T8) (v9 : T9) (v10 : T10), P n v0 v1 v2 v3 v5 v6 v7 v8 v9 v10 → Ev (b rec v0 v1 v2 v3 (nI n) v5 v6 v7 v8 v9 v10) Q) : ∀ (N i : Nat) (v0 : T0) (v1 : T1) (v2 : T2) (v3 : T3) (v5 : T5) (v6 : T6) (v7 : T7) (v8 : T8) (v9 : T9) (v10 : T10), i ≤ n → n - i < N → P i v0 v1 v2 v3 v5 v6 v7 v8 v9 v10 → Ev (zl11 b N v0 v1 v2 v3 (nI i) v5 v6 v7 v8 v9 v10) Q := by
  intro N
  induction N with
  | zero => intro i v0 v1 v2 v3 v5 v6 v7 v8 v9 v10 _ h; omega
  | succ N ih =>
    intro i v0 v1 v2 v3 v5 v6 v7 v8 v9 v10 hi hN hP
    show Ev (b (zl11 b N) v0 v1 v2 v3 (nI i) v5 v6 v7 v8 v9 v10) Q
    rcases Nat.lt_or_ge i n with h | h
    · rcases hs (zl11 b N) i v0 v1 v2 v3 v5 v6 v7 v8 v9 v10 h hP with h1 | ⟨w0, w1, w2, w3, w5, w6, w7, w8, w9, w10, e, h2⟩
      · exact h1
      · rw [e]; exact ih (i + 1) w0 w1 w2 w3 w5 w6 w7 w8 w9 w10 h (by omega) h2
    · have e : i = n := by omega
      subst e
      exact he _ v0 v1 v2 v3 v5 v6 v7 v8 v9 v10 hP
theorem zl11c5 {T0 T1 T2 T3 T4 T6 T7 T8 T9 T10 Z : Type} {b : (T0 → T1 → T2 → T3 → T4 → Int32 → T6 → T7 → T8 → T9 → T10 → Option Z) → T0 → T1 → T2 → T3 → T4 → Int32 → T6 → T7 → T8 → T9 → T10 → Option Z} {Q : Z → Prop} (n : Nat) (P : Nat → T0 → T1 → T2 → T3 → T4 → T6 → T7 → T8 → T9 → T10 → Prop) (hs : ∀ (rec : T0 → T1 → T2 → T3 → T4 → Int32 → T6 → T7 → T8 → T9 → T10 → Option Z) (i : Nat) (v0 : T0) (v1 : T1) (v2 : T2) (v3 : T3) (v4 : T4) (v6 : T6) (v7 : T7) (v8 : T8) (v9 : T9) (v10 : T10), i < n → P i v0 v1 v2 v3 v4 v6 v7 v8 v9 v10 → Ev (b rec v0 v1 v2 v3 v4 (nI i) v6 v7 v8 v9 v10) Q ∨ (∃ w0 w1 w2 w3 w4 w6 w7 w8 w9 w10, b rec v0 v1 v2 v3 v4 (nI i) v6 v7 v8 v9 v10 = rec w0 w1 w2 w3 w4 (nI (i + 1)) w6 w7 w8 w9 w10 ∧ P (i + 1) w0 w1 w2 w3 w4 w6 w7 w8 w9 w10)) (he : ∀ (rec : T0 → T1 → T2 → T3 → T4 → Int32 → T6 → T7 → T8 → T9 → T10 → Option Z) (v0 : T0) (v1 : T1) (v2 : T2) (v3 : T3) (v4 : T4) (v6 : T6) (v7 : T7) (v8 : T8) (v9 : T9) (v10 : T10), P n v0 v1 v2 v3 v4 v6 v7 v8 v9 v10 → Ev (b rec v0 v1 v2 v3 v4 (nI n) v6 v7 v8 v9 v10) Q) : ∀ (N i : Nat) (v0 : T0) (v1 : T1) (v2 : T2) (v3 : T3) (v4 : T4) (v6 : T6) (v7 : T7) (v8 : T8) (v9 : T9) (v10 : T10), i ≤ n → n - i < N → P i v0 v1 v2 v3 v4 v6 v7 v8 v9 v10 → Ev (zl11 b N v0 v1 v2 v3 v4 (nI i) v6 v7 v8 v9 v10) Q := by
  intro N
  induction N with
  | zero => intro i v0 v1 v2 v3 v4 v6 v7 v8 v9 v10 _ h; omega
  | succ N ih =>
    intro i v0 v1 v2 v3 v4 v6 v7 v8 v9 v10 hi hN hP
    show Ev (b (zl11 b N) v0 v1 v2 v3 v4 (nI i) v6 v7 v8 v9 v10) Q
    rcases Nat.lt_or_ge i n with h | h
    · rcases hs (zl11 b N) i v0 v1 v2 v3 v4 v6 v7 v8 v9 v10 h hP with h1 | ⟨w0, w1, w2, w3, w4, w6, w7, w8, w9, w10, e, h2⟩
      · exact h1
      · rw [e]; exact ih (i + 1) w0 w1 w2 w3 w4 w6 w7 w8 w9 w10 h (by omega) h2
    · have e : i = n := by omega
      subst e
      exact he _ v0 v1 v2 v3 v4 v6 v7 v8 v9 v10 hP
theorem zl11c6 {T0 T1 T2 T3 T4 T5 T7 T8 T9 T10 Z : Type} {b : (T0 → T1 → T2 → T3 → T4 → T5 → Int32 → T7 → T8 → T9 → T10 → Option Z) → T0 → T1 → T2 → T3 → T4 → T5 → Int32 → T7 → T8 → T9 → T10 → Option Z} {Q : Z → Prop} (n : Nat) (P : Nat → T0 → T1 → T2 → T3 → T4 → T5 → T7 → T8 → T9 → T10 → Prop) (hs : ∀ (rec : T0 → T1 → T2 → T3 → T4 → T5 → Int32 → T7 → T8 → T9 → T10 → Option Z) (i : Nat) (v0 : T0) (v1 : T1) (v2 : T2) (v3 : T3) (v4 : T4) (v5 : T5) (v7 : T7) (v8 : T8) (v9 : T9) (v10 : T10), i < n → P i v0 v1 v2 v3 v4 v5 v7 v8 v9 v10 → Ev (b rec v0 v1 v2 v3 v4 v5 (nI i) v7 v8 v9 v10) Q ∨ (∃ w0 w1 w2 w3 w4 w5 w7 w8 w9 w10, b rec v0 v1 v2 v3 v4 v5 (nI i) v7 v8 v9 v10 = rec w0 w1 w2 w3 w4 w5 (nI (i + 1)) w7 w8 w9 w10 ∧ P (i + 1) w0 w1 w2 w3 w4 w5 w7 w8 w9 w10)) (he : ∀ (rec : T0 → T1 → T2 → T3 → T4 → T5 → Int32 → T7 → T8 → T9 → T10 → Option Z) (v0 : T0) (v1 : T1) (v2 : T2) (v3 : T3) (v4 : T4) (v5 : T5) (v7 : T7) (v8 : T8) (v9 : T9) (v10 : T10), P n v0 v1 v2 v3 v4 v5 v7 v8 v9 v10 → Ev (b rec v0 v1 v2 v3 v4 v5 (nI n) v7 v8 v9 v10) Q) : ∀ (N i : Nat) (v0 : T0) (v1 : T1) (v2 : T2) (v3 : T3) (v4 : T4) (v5 : T5) (v7 : T7) (v8 : T8) (v9 : T9) (v10 : T10), i ≤ n → n - i < N → P i v0 v1 v2 v3 v4 v5 v7 v8 v9 v10 → Ev (zl11 b N v0 v1 v2 v3 v4 v5 (nI i) v7 v8 v9 v10) Q := by
  intro N
  induction N with
  | zero => intro i v0 v1 v2 v3 v4 v5 v7 v8 v9 v10 _ h; omega
  | succ N ih =>
    intro i v0 v1 v2 v3 v4 v5 v7 v8 v9 v10 hi hN hP
    show Ev (b (zl11 b N) v0 v1 v2 v3 v4 v5 (nI i) v7 v8 v9 v10) Q
    rcases Nat.lt_or_ge i n with h | h
    · rcases hs (zl11 b N) i v0 v1 v2 v3 v4 v5 v7 v8 v9 v10 h hP with h1 | ⟨w0, w1, w2, w3, w4, w5, w7, w8, w9, w10, e, h2⟩
      · exact h1
      · rw [e]; exact ih (i + 1) w0 w1 w2 w3 w4 w5 w7 w8 w9 w10 h (by omega) h2
    · have e : i = n := by omega
      subst e
      exact he _ v0 v1 v2 v3 v4 v5 v7 v8 v9 v10 hP
theorem zl11c7 {T0 T1 T2 T3 T4 T5 T6 T8 T9 T10 Z : Type} {b : (T0 → T1 → T2 → T3 → T4 → T5 → T6 → Int32 → T8 → T9 → T10 → Option Z) → T0 → T1 → T2 → T3 → T4 → T5 → T6 → Int32 → T8 → T9 → T10 → Option Z} {Q : Z → Prop} (n : Nat) (P : Nat → T0 → T1 → T2 → T3 → T4 → T5 → T6 → T8 → T9 → T10 → Prop) (hs : ∀ (rec : T0 → T1 → T2 → T3 → T4 → T5 → T6 → Int32 → T8 → T9 → T10 → Option Z) (i : Nat) (v0 : T0) (v1 : T1) (v2 : T2) (v3 : T3) (v4 : T4) (v5 : T5) (v6 : T6) (v8 : T8) (v9 : T9) (v10 : T10), i < n → P i v0 v1 v2 v3 v4 v5 v6 v8 v9 v10 → Ev (b rec v0 v1 v2 v3 v4 v5 v6 (nI i) v8 v9 v10) Q ∨ (∃ w0 w1 w2 w3 w4 w5 w6 w8 w9 w10, b rec v0 v1 v2 v3 v4 v5 v6 (nI i) v8 v9 v10 = rec w0 w1 w2 w3 w4 w5 w6 (nI (i + 1)) w8 w9 w10 ∧ P (i + 1) w0 w1 w2 w3 w4 w5 w6 w8 w9 w10)) (he : ∀ (rec : T0 → T1 → T2 → T3 → T4 → T5 → T6 → Int32 → T8 → T9 → T10 → Option Z) (v0 : T0) (v1 : T1) (v2 : T2) (v3 : T3) (v4 : T4) (v5 : T5) (v6 : T6) (v8 : T8) (v9 : T9) (v10 : T10), P n v0 v1 v2 v3 v4 v5 v6 v8 v9 v10 → Ev (b rec v0 v1 v2 v3 v4 v5 v6 (nI n) v8 v9 v10) Q) : ∀ (N i : Nat) (v0 : T0) (v1 : T1) (v2 : T2) (v3 : T3) (v4 : T4) (v5 : T5) (v6 : T6) (v8 : T8) (v9 : T9) (v10 : T10), i ≤ n → n - i < N → P i v0 v1 v2 v3 v4 v5 v6 v8 v9 v10 → Ev (zl11 b N v0 v1 v2 v3 v4 v5 v6 (nI i) v8 v9 v10) Q := by
  intro N
  induction N with
  | zero => intro i v0 v1 v2 v3 v4 v5 v6 v8 v9 v10 _ h; omega
  | succ N ih =>
    intro i v0 v1 v2 v3 v4 v5 v6 v8 v9 v10 hi hN hP
    show Ev (b (zl11 b N) v0 v1 v2 v3 v4 v5 v6 (nI i) v8 v9 v10) Q
    rcases Nat.lt_or_ge i n with h | h
    · rcases hs (zl11 b N) i v0 v1 v2 v3 v4 v5 v6 v8 v9 v10 h hP with h1 | ⟨w0, w1, w2, w3, w4, w5, w6, w8, w9, w10, e, h2⟩
      · exact h1
      · rw [e]; exact ih (i + 1) w0 w1 w2 w3 w4 w5 w6 w8 w9 w10 h (by omega) h2
    · have e : i = n := by omega
      subst e
      exact he _ v0 v1 v2 v3 v4 v5 v6 v8 v9 v10 hP
theorem zl11c8 {T0 T1 T2 T3 T4 T5 T6 T7 T9 T10 Z : Type} {b : (T0 → T1 → T2 → T3 → T4 → T5 → T6 → T7 → Int32 → T9 → T10 → Option Z) → T0 → T1 → T2 → T3 → T4 → T5 → T6 → T7 → Int32 → T9 → T10 → Option Z} {Q : Z → Prop} (n : Nat) (P : Nat → T0 → T1 → T2 → T3 → T4 → T5 → T6 → T7 → T9 → T10 → Prop) (hs : ∀ (rec : T0 → T1 → T2 → T3 → T4 → T5 → T6 → T7 → Int32 → T9 → T10 → Option Z) (i : Nat) (v0 : T0) (v1 : T1) (v2 : T2) (v3 : T3) (v4 : T4) (v5 : T5) (v6 : T6) (v7 : T7) (v9 : T9) (v10 : T10), i < n → P i v0 v1 v2 v3 v4 v5 v6 v7 v9 v10 → Ev (b rec v0 v1 v2 v3 v4 v5 v6 v7 (nI i) v9 v10) Q ∨ (∃ w0 w1 w2 w3 w4 w5 w6 w7 w9 w10, b rec v0 v1 v2 v3 v4 v5 v6 v7 (nI i) v9 v10 = rec w0 w1 w2 w3 w4 w5 w6 w7 (nI (i + 1)) w9 w10 ∧ P (i + 1) w0 w1 w2 w3 w4 w5 w6 w7 w9 w10)) (he : ∀ (rec : T0 → T1 → T2 → T3 → T4 → T5 → T6 → T7 → Int32 → T9 → T10 → Option Z) (v0 : T0) (v1 : T1) (v2 : T2) (v3 : T3) (v4 : T4) (v5 : T5) (v6 : T6) (v7 : T7) (v9 : T9) (v10 : T10), P n v0 v1 v2 v3 v4 v5 v6 v7 v9 v10 → Ev (b rec v0 v1 v2 v3 v4 v5 v6 v7 (nI n) v9 v10) Q) : ∀ (N i : Nat) (v0 : T0) (v1 : T1) (v2 : T2) (v3 : T3) (v4 : T4) (v5 : T5) (v6 : T6) (v7 : T7) (v9 : T9) (v10 : T10), i ≤ n → n - i < N → P i v0 v1 v2 v3 v4 v5 v6 v7 v9 v10 → Ev (zl11 b N v0 v1 v2 v3 v4 v5 v6 v7 (nI i) v9 v10) Q := by
  intro N
  induction N with
  | zero => intro i v0 v1 v2 v3 v4 v5 v6 v7 v9 v10 _ h; omega
  | succ N ih =>
    intro i v0 v1 v2 v3 v4 v5 v6 v7 v9 v10 hi hN hP
    show Ev (b (zl11 b N) v0 v1 v2 v3 v4 v5 v6 v7 (nI i) v9 v10) Q
    rcases Nat.lt_or_ge i n with h | h
    · rcases hs (zl11 b N) i v0 v1 v2 v3 v4 v5 v6 v7 v9 v10 h hP with h1 | ⟨w0, w1, w2, w3, w4, w5, w6, w7, w9, w10, e, h2⟩
      · exact h1
      · rw [e]; exact ih (i + 1) w0 w1 w2 w3 w4 w5 w6 w7 w9 w10 h (by omega) h2
    · have e : i = n := by omega
      subst e
      exact he _ v0 v1 v2 v3 v4 v5 v6 v7 v9 v10 hP
theorem zl11c9 {T0 T1 T2 T3 T4 T5 T6 T7 T8 T10 Z : Type} {b : (T0 → T1 → T2 → T3 → T4 → T5 → T6 → T7 → T8 → Int32 → T10 → Option Z) → T0 → T1 → T2 → T3 → T4 → T5 → T6 → T7 → T8 → Int32 → T10 → Option Z} {Q : Z → Prop} (n : Nat) (P : Nat → T0 → T1 → T2 → T3 → T4 → T5 → T6 → T7 → T8 → T10 → Prop) (hs : ∀ (rec : T0 → T1 → T2 → T3 → T4 → T5 → T6 → T7 → T8 → Int32 → T10 → Option Z) (i : Nat) (v0 : T0) (v1 : T1) (v2 : T2) (v3 : T3) (v4 : T4) (v5 : T5) (v6 : T6) (v7 : T7) (v8 : T8) (v10 : T10), i < n → P i v0 v1 v2 v3 v4 v5 v6 v7 v8 v10 → Ev (b rec v0 v1 v2 v3 v4 v5 v6 v7 v8 (nI i) v10) Q ∨ (∃ w0 w1 w2 w3 w4 w5 w6 w7 w8 w10, b rec v0 v1 v2 v3 v4 v5 v6 v7 v8 (nI i) v10 = rec w0 w1 w2 w3 w4 w5 w6 w7 w8 (nI (i + 1)) w10 ∧ P (i + 1) w0 w1 w2 w3 w4 w5 w6 w7 w8 w10)) (he : ∀ (rec : T0 → T1 → T2 → T3 → T4 → T5 → T6 → T7 → T8 → Int32 → T10 → Option Z) (v0 : T0) (v1 : T1) (v2 : T2) (v3 : T3) (v4 : T4) (v5 : T5) (v6 : T6) (v7 : T7) (v8 : T8) (v10 : T10), P n v0 v1 v2 v3 v4 v5 v6 v7 v8 v10 → Ev (b rec v0 v1 v2 v3 v4 v5 v6 v7 v8 (nI n) v10) Q) : ∀ (N i : Nat) (v0 : T0) (v1 : T1) (v2 : T2) (v3 : T3) (v4 : T4) (v5 : T5) (v6 : T6) (v7 : T7) (v8 : T8) (v10 : T10), i ≤ n → n - i < N → P i v0 v1 v2 v3 v4 v5 v6 v7 v8 v10 → Ev (zl11 b N v0 v1 v2 v3 v4 v5 v6 v7 v8 (nI i) v10) Q := by
  intro N
  induction N with
  | zero => intro i v0 v1 v2 v3 v4 v5 v6 v7 v8 v10 _ h; omega
  | succ N ih =>
    intro i v0 v1 v2 v3 v4 v5 v6 v7 v8 v10 hi hN hP
    show Ev (b (zl11 b N) v0 v1 v2 v3 v4 v5 v6 v7 v8 (nI i) v10) Q
    rcases Nat.lt_or_ge i n with h | h
    · rcases hs (zl11 b N) i v0 v1 v2 v3 v4 v5 v6 v7 v8 v10 h hP with h1 | ⟨w0, w1, w2, w3, w4, w5, w6, w7, w8, w10, e, h2⟩
      · exact h1
      · rw [e]; exact ih (i + 1) w0 w1 w2 w3 w4 w5 w6 w7 w8 w10 h (by omega) h2
    · have e : i = n := by omega
      subst e
      exact he _ v0 v1 v2 v3 v4 v5 v6 v7 v8 v10 hP
theorem zl11c10 {T0 T1 T2 T3 T4 T5 T6 T7 T8 T9 Z : Type} {b : (T0 → T1 → T2 → T3 → T4 → T5 → T6 → T7 → T8 → T9 → Int32 → Option Z) → T0 → T1 → T2 → T3 → T4 → T5 → T6 → T7 → T8 → T9 → Int32 → Option Z} {Q : Z → Prop} (n : Nat) (P : Nat → T0 → T1 → T2 → T3 → T4 → T5 → T6 → T7 → T8 → T9 → Prop) (hs : ∀ (rec : T0 → T1 → T2 → T3 → T4 → T5 → T6 → T7 → T8 → T9 → Int32 → Option Z) (i : Nat) (v0 : T0) (v1 : T1) (v2 : T2) (v3 : T3) (v4 : T4) (v5 : T5) (v6 : T6) (v7 : T7) (v8 : T8) (v9 : T9), i < n → P i v0 v1 v2 v3 v4 v5 v6 v7 v8 v9 → Ev (b rec v0 v1 v2 v3 v4 v5 v6 v7 v8 v9 (nI i)) Q ∨ (∃ w0 w1 w2 w3 w4 w5 w6 w7 w8 w9, b rec v0 v1 v2 v3 v4 v5 v6 v7 v8 v9 (nI i) = rec w0 w1 w2 w3 w4 w5 w6 w7 w8 w9 (nI (i + 1)) ∧ P (i + 1) w0 w1 w2 w3 w4 w5 w6 w7 w8 w9)) (he : ∀ (rec : T0 → T1 → T2 → T3 → T4 → T5 → T6 → T7 → T8 → T9 → Int32 → Option Z) (v0 : T0) (v1 : T1) (v2 : T2) (v3 : T3) (v4 : T4) (v5 : T5) (v6 : T6) (v7 : T7) (v8 : T8) (v9 : T9), P n v0 v1 v2 v3 v4 v5 v6 v7 v8 v9 → Ev (b rec v0 v1 v2 v3 v4 v5 v6 v7 v8 v9 (nI n)) Q) : ∀ (N i : Nat) (v0 : T0) (v1 : T1) (v2 : T2) (v3 : T3) (v4 : T4) (v5 : T5) (v6 : T6) (v7 : T7) (v8 : T8) (v9 : T9), i ≤ n → n - i < N → P i v0 v1 v2 v3 v4 v5 v6 v7 v8 v9 → Ev (zl11 b N v0 v1 v2 v3 v4 v5 v6 v7 v8 v9 (nI i)) Q := by
  intro N
  induction N with
  | zero => intro i v0 v1 v2 v3 v4 v5 v6 v7 v8 v9 _ h; omega
  | succ N ih =>
    intro i v0 v1 v2 v3 v4 v5 v6 v7 v8 v9 hi hN hP
    show Ev (b (zl11 b N) v0 v1 v2 v3 v4 v5 v6 v7 v8 v9 (nI i)) Q
    rcases Nat.lt_or_ge i n with h | h
    · rcases hs (zl11 b N) i v0 v1 v2 v3 v4 v5 v6 v7 v8 v9 h hP with h1 | ⟨w0, w1, w2, w3, w4, w5, w6, w7, w8, w9, e, h2⟩
      · exact h1
      · rw [e]; exact ih (i + 1) w0 w1 w2 w3 w4 w5 w6 w7 w8 w9 h (by omega) h2
    · have e : i = n := by omega
      subst e
      exact he _ v0 v1 v2 v3 v4 v5 v6 v7 v8 v9 hP
theorem zl1m {T0 Z : Type} {b : (T0 → Option Z) → T0 → Option Z} {Q : Z → Prop} (I : T0 → Prop) (μ : T0 → Nat) (hs : ∀ (rec : T0 → Option Z) v0, I v0 → Ev (b rec v0) Q ∨ (∃ w0, b rec v0 = rec w0 ∧ I w0 ∧ μ w0 < μ v0)) : ∀ (N : Nat) v0, I v0 → μ v0 < N → Ev (zl1 b N v0) Q := by
  intro N
  induction N with
  | zero => intro v0 _ h; omega
  | succ N ih =>
    intro v0 hI hN
    show Ev (b (zl1 b N) v0) Q
    rcases hs (zl1 b N) v0 hI with h1 | ⟨w0, e, h2, h3⟩
    · exact h1
    · rw [e]; exact ih w0 h2 (by omega)
theorem zl2m {T0 T1 Z : Type} {b : (T0 → T1 → Option Z) → T0 → T1 → Option Z} {Q : Z → Prop} (I : T0 → T1 → Prop) (μ : T0 → T1 → Nat) (hs : ∀ (rec : T0 → T1 → Option Z) v0 v1, I v0 v1 → Ev (b rec v0 v1) Q ∨ (∃ w0 w1, b rec v0 v1 = rec w0 w1 ∧ I w0 w1 ∧ μ w0 w1 < μ v0 v1)) : ∀ (N : Nat) v0 v1, I v0 v1 → μ v0 v1 < N → Ev (zl2 b N v0 v1) Q := by
  intro N
  induction N with
  | zero => intro v0 v1 _ h; omega
  | succ N ih =>
    intro v0 v1 hI hN
    show Ev (b (zl2 b N) v0 v1) Q
    rcases hs (zl2 b N) v0 v1 hI with h1 | ⟨w0, w1, e, h2, h3⟩
    · exact h1
    · rw [e]; exact ih w0 w1 h2 (by omega)
theorem zl3m {T0 T1 T2 Z : Type} {b : (T0 → T1 → T2 → Option Z) → T0 → T1 → T2 → Option Z} {Q : Z → Prop} (I : T0 → T1 → T2 → Prop) (μ : T0 → T1 → T2 → Nat) (hs : ∀ (rec : T0 → T1 → T2 → Option Z) v0 v1 v2, I v0 v1 v2 → Ev (b rec v0 v1 v2) Q ∨ (∃ w0 w1 w2, b rec v0 v1 v2 = rec w0 w1 w2 ∧ I w0 w1 w2 ∧ μ w0 w1 w2 < μ v0 v1 v2)) : ∀ (N : Nat) v0 v1 v2, I v0 v1 v2 → μ v0 v1 v2 < N → Ev (zl3 b N v0 v1 v2) Q := by
  intro N
  induction N with
  | zero => intro v0 v1 v2 _ h; omega
  | succ N ih =>
    intro v0 v1 v2 hI hN
    show Ev (b (zl3 b N) v0 v1 v2) Q
    rcases hs (zl3 b N) v0 v1 v2 hI with h1 | ⟨w0, w1, w2, e, h2, h3⟩
    · exact h1
    · rw [e]; exact ih w0 w1 w2 h2 (by omega)
theorem zl4m {T0 T1 T2 T3 Z : Type} {b : (T0 → T1 → T2 → T3 → Option Z) → T0 → T1 → T2 → T3 → Option Z} {Q : Z → Prop} (I : T0 → T1 → T2 → T3 → Prop) (μ : T0 → T1 → T2 → T3 → Nat) (hs : ∀ (rec : T0 → T1 → T2 → T3 → Option Z) v0 v1 v2 v3, I v0 v1 v2 v3 → Ev (b rec v0 v1 v2 v3) Q ∨ (∃ w0 w1 w2 w3, b rec v0 v1 v2 v3 = rec w0 w1 w2 w3 ∧ I w0 w1 w2 w3 ∧ μ w0 w1 w2 w3 < μ v0 v1 v2 v3)) : ∀ (N : Nat) v0 v1 v2 v3, I v0 v1 v2 v3 → μ v0 v1 v2 v3 < N → Ev (zl4 b N v0 v1 v2 v3) Q := by
  intro N
  induction N with
  | zero => intro v0 v1 v2 v3 _ h; omega
  | succ N ih =>
    intro v0 v1 v2 v3 hI hN
    show Ev (b (zl4 b N) v0 v1 v2 v3) Q
    rcases hs (zl4 b N) v0 v1 v2 v3 hI with h1 | ⟨w0, w1, w2, w3, e, h2, h3⟩
    · exact h1
    · rw [e]; exact ih w0 w1 w2 w3 h2 (by omega)
theorem zl5m {T0 T1 T2 T3 T4 Z : Type} {b : (T0 → T1 → T2 → T3 → T4 → Option Z) → T0 → T1 → T2 → T3 → T4 → Option Z} {Q : Z → Prop} (I : T0 → T1 → T2 → T3 → T4 → Prop) (μ : T0 → T1 → T2 → T3 → T4 → Nat) (hs : ∀ (rec : T0 → T1 → T2 → T3 → T4 → Option Z) v0 v1 v2 v3 v4, I v0 v1 v2 v3 v4 → Ev (b rec v0 v1 v2 v3 v4) Q ∨ (∃ w0 w1 w2 w3 w4, b rec v0 v1 v2 v3 v4 = rec w0 w1 w2 w3 w4 ∧ I w0 w1 w2 w3 w4 ∧ μ w0 w1 w2 w3 w4 < μ v0 v1 v2 v3 v4)) : ∀ (N : Nat) v0 v1 v2 v3 v4, I v0 v1 v2 v3 v4 → μ v0 v1 v2 v3 v4 < N → Ev (zl5 b N v0 v1 v2 v3 v4) Q := by
  intro N
  induction N with
  | zero => intro v0 v1 v2 v3 v4 _ h; omega
  | succ N ih =>
    intro v0 v1 v2 v3 v4 hI hN
    show Ev (b (zl5 b N) v0 v1 v2 v3 v4) Q
    rcases hs (zl5 b N) v0 v1 v2 v3 v4 hI with h1 | ⟨w0, w1, w2, w3, w4, e, h2, h3⟩
    · exact h1
    · rw [e]; exact ih w0 w1 w2 w3 w4 h2 (by omega)
theorem zl6m {T0 T1 T2 T3 T4 T5 Z : Type} {b : (T0 → T1 → T2 → T3 → T4 → T5 → Option Z) → T0 → T1 → T2 → T3 → T4 → T5 → Option Z} {Q : Z → Prop} (I : T0 → T1 → T2 → T3 → T4 → T5 → Prop) (μ : T0 → T1 → T2 → T3 → T4 → T5 → Nat) (hs : ∀ (rec : T0 → T1 → T2 → T3 → T4 → T5 → Option Z) v0 v1 v2 v3 v4 v5, I v0 v1 v2 v3 v4 v5 → Ev (b rec v0 v1 v2 v3 v4 v5) Q ∨ (∃ w0 w1 w2 w3 w4 w5, b rec v0 v1 v2 v3 v4 v5 = rec w0 w1 w2 w3 w4 w5 ∧ I w0 w1 w2 w3 w4 w5 ∧ μ w0 w1 w2 w3 w4 w5 < μ v0 v1 v2 v3 v4 v5)) : ∀ (N : Nat) v0 v1 v2 v3 v4 v5, I v0 v1 v2 v3 v4 v5 → μ v0 v1 v2 v3 v4 v5 < N → Ev (zl6 b N v0 v1 v2 v3 v4 v5) Q := by
  intro N
  induction N with
  | zero => intro v0 v1 v2 v3 v4 v5 _ h; omega
  | succ N ih =>
    intro v0 v1 v2 v3 v4 v5 hI hN
    show Ev (b (zl6 b N) v0 v1 v2 v3 v4 v5) Q
    rcases hs (zl6 b N) v0 v1 v2 v3 v4 v5 hI with h1 | ⟨w0, w1, w2, w3, w4, w5, e, h2, h3⟩
    · exact h1
    · rw [e]; exact ih w0 w1 w2 w3 w4 w5 h2 (by omega)
theorem zl7m {T0 T1 T2 T3 T4 T5 T6 Z : Type} {b : (T0 → T1 → T2 → T3 → T4 → T5 → T6 → Option Z) → T0 → T1 → T2 → T3 → T4 → T5 → T6 → Option Z} {Q : Z → Prop} (I : T0 → T1 → T2 → T3 → T4 → T5 → T6 → Prop) (μ : T0 → T1 → T2 → T3 → T4 → T5 → T6 → Nat) (hs : ∀ (rec : T0 → T1 → T2 → T3 → T4 → T5 → T6 → Option Z) v0 v1 v2 v3 v4 v5 v6, I v0 v1 v2 v3 v4 v5 v6 → Ev (b rec v0 v1 v2 v3 v4 v5 v6) Q ∨ (∃ w0 w1 w2 w3 w4 w5 w6, b rec v0 v1 v2 v3 v4 v5 v6 = rec w0 w1 w2 w3 w4 w5 w6 ∧ I w0 w1 w2 w3 w4 w5 w6 ∧ μ w0 w1 w2 w3 w4 w5 w6 < μ v0 v1 v2 v3 v4 v5 v6)) : ∀ (N : Nat) v0 v1 v2 v3 v4 v5 v6, I v0 v1 v2 v3 v4 v5 v6 → μ v0 v1 v2 v3 v4 v5 v6 < N → Ev (zl7 b N v0 v1 v2 v3 v4 v5 v6) Q := by
  intro N
  induction N with
  | zero => intro v0 v1 v2 v3 v4 v5 v6 _ h; omega
  | succ N ih =>
    intro v0 v1 v2 v3 v4 v5 v6 hI hN
    show Ev (b (zl7 b N) v0 v1 v2 v3 v4 v5 v6) Q
    rcases hs (zl7 b N) v0 v1 v2 v3 v4 v5 v6 hI with h1 | ⟨w0, w1, w2, w3, w4, w5, w6, e, h2, h3⟩
    · exact h1
    · rw [e]; exact ih w0 w1 w2 w3 w4 w5 w6 h2 (by omega)
theorem zl8m {T0 T1 T2 T3 T4 T5 T6 T7 Z : Type} {b : (T0 → T1 → T2 → T3 → T4 → T5 → T6 → T7 → Option Z) → T0 → T1 → T2 → T3 → T4 → T5 → T6 → T7 → Option Z} {Q : Z → Prop} (I : T0 → T1 → T2 → T3 → T4 → T5 → T6 → T7 → Prop) (μ : T0 → T1 → T2 → T3 → T4 → T5 → T6 → T7 → Nat) (hs : ∀ (rec : T0 → T1 → T2 → T3 → T4 → T5 → T6 → T7 → Option Z) v0 v1 v2 v3 v4 v5 v6 v7, I v0 v1 v2 v3 v4 v5 v6 v7 → Ev (b rec v0 v1 v2 v3 v4 v5 v6 v7) Q ∨ (∃ w0 w1 w2 w3 w4 w5 w6 w7, b rec v0 v1 v2 v3 v4 v5 v6 v7 = rec w0 w1 w2 w3 w4 w5 w6 w7 ∧ I w0 w1 w2 w3 w4 w5 w6 w7 ∧ μ w0 w1 w2 w3 w4 w5 w6 w7 < μ v0 v1 v2 v3 v4 v5 v6 v7)) : ∀ (N : Nat) v0 v1 v2 v3 v4 v5 v6 v7, I v0 v1 v2 v3 v4 v5 v6 v7 → μ v0 v1 v2 v3 v4 v5 v6 v7 < N → Ev (zl8 b N v0 v1 v2 v3 v4 v5 v6 v7) Q := by
  intro N
  induction N with
  | zero => intro v0 v1 v2 v3 v4 v5 v6 v7 _ h; omega
  | succ N ih =>
    intro v0 v1 v2 v3 v4 v5 v6 v7 hI hN
    show Ev (b (zl8 b N) v0 v1 v2 v3 v4 v5 v6 v7) Q
    rcases hs (zl8 b N) v0 v1 v2 v3 v4 v5 v6 v7 hI with h1 | ⟨w0, w1, w2, w3, w4, w5, w6, w7, e, h2, h3⟩
    · exact h1
    · rw [e]; exact ih w0 w1 w2 w3 w4 w5 w6 w7 h2 (by omega)
theorem zl9m {T0 T1 T2 T3 T4 T5 T6 T7 T8 Z : Type} {b : (T0 → T1 → T2 → T3 → T4 → T5 → T6 → T7 → T8 → Option Z) → T0 → T1 → T2 → T3 → T4 → T5 → T6 → T7 → T8 → Option Z} {Q : Z → Prop} (I : T0 → T1 → T2 → T3 → T4 → T5 → T6 → T7 → T8 → Prop) (μ : T0 → T1 → T2 → T3 → T4 → T5 → T6 → T7 → T8 → Nat) (hs : ∀ (rec : T0 → T1 → T2 → T3 → T4 → T5 → T6 → T7 → T8 → Option Z) v0 v1 v2 v3 v4 v5 v6 v7 v8, I v0 v1 v2 v3 v4 v5 v6 v7 v8 → Ev (b rec v0 v1 v2 v3 v4 v5 v6 v7 v8) Q ∨ (∃ w0 w1 w2 w3 w4 w5 w6 w7 w8, b rec v0 v1 v2 v3 v4 v5 v6 v7 v8 = rec w0 w1 w2 w3 w4 w5 w6 w7 w8 ∧ I w0 w1 w2 w3 w4 w5 w6 w7 w8 ∧ μ w0 w1 w2 w3 w4 w5 w6 w7 w8 < μ v0 v1 v2 v3 v4 v5 v6 v7 v8)) : ∀ (N : Nat) v0 v1 v2 v3 v4 v5 v6 v7 v8, I v0 v1 v2 v3 v4 v5 v6 v7 v8 → μ v0 v1 v2 v3 v4 v5 v6 v7 v8 < N → Ev (zl9 b N v0 v1 v2 v3 v4 v5 v6 v7 v8) Q := by
  intro N
  induction N with
  | zero => intro v0 v1 v2 v3 v4 v5 v6 v7 v8 _ h; omega
  | succ N ih =>
    intro v0 v1 v2 v3 v4 v5 v6 v7 v8 hI hN
    show Ev (b (zl9 b N) v0 v1 v2 v3 v4 v5 v6 v7 v8) Q
    rcases hs (zl9 b N) v0 v1 v2 v3 v4 v5 v6 v7 v8 hI with h1 | ⟨w0, w1, w2, w3, w4, w5, w6, w7, w8, e, h2, h3⟩
    · exact h1
    · rw [e]; exact ih w0 w1 w2 w3 w4 w5 w6 w7 w8 h2 (by omega)
theorem zl11m {T0 T1 T2 T3 T4 T5 T6 T7 T8 T9 T10 Z : Type} {b : (T0 → T1 → T2 → T3 → T4 → T5 → T6 → T7 → T8 → T9 → T10 → Option Z) → T0 → T1 → T2 → T3 → T4 → T5 → T6 → T7 → T8 → T9 → T10 → Option Z} {Q : Z → Prop} (I : T0 → T1 → T2 → T3 → T4 → T5 → T6 → T7 → T8 → T9 → T10 → Prop) (μ : T0 → T1 → T2 → T3 → T4 → T5 → T6 → T7 → T8 → T9 → T10 → Nat) (hs : ∀ (rec : T0 → T1 → T2 → T3 → T4 → T5 → T6 → T7 → T8 → T9 → T10 → Option Z) v0 v1 v2 v3 v4 v5 v6 v7 v8 v9 v10, I v0 v1 v2 v3 v4 v5 v6 v7 v8 v9 v10 → Ev (b rec v0 v1 v2 v3 v4 v5 v6 v7 v8 v9 v10) Q ∨ (∃ w0 w1 w2 w3 w4 w5 w6 w7 w8 w9 w10, b rec v0 v1 v2 v3 v4 v5 v6 v7 v8 v9 v10 = rec w0 w1 w2 w3 w4 w5 w6 w7 w8 w9 w10 ∧ I w0 w1 w2 w3 w4 w5 w6 w7 w8 w9 w10 ∧ μ w0 w1 w2 w3 w4 w5 w6 w7 w8 w9 w10 < μ v0 v1 v2 v3 v4 v5 v6 v7 v8 v9 v10)) : ∀ (N : Nat) v0 v1 v2 v3 v4 v5 v6 v7 v8 v9 v10, I v0 v1 v2 v3 v4 v5 v6 v7 v8 v9 v10 → μ v0 v1 v2 v3 v4 v5 v6 v7 v8 v9 v10 < N → Ev (zl11 b N v0 v1 v2 v3 v4 v5 v6 v7 v8 v9 v10) Q := by
  intro N
  induction N with
  | zero => intro v0 v1 v2 v3 v4 v5 v6 v7 v8 v9 v10 _ h; omega
  | succ N ih =>
    intro v0 v1 v2 v3 v4 v5 v6 v7 v8 v9 v10 hI hN
    show Ev (b (zl11 b N) v0 v1 v2 v3 v4 v5 v6 v7 v8 v9 v10) Q
    rcases hs (zl11 b N) v0 v1 v2 v3 v4 v5 v6 v7 v8 v9 v10 hI with h1 | ⟨w0, w1, w2, w3, w4, w5, w6, w7, w8, w9, w10, e, h2, h3⟩
    · exact h1
    · rw [e]; exact ih w0 w1 w2 w3 w4 w5 w6 w7 w8 w9 w10 h2 (by omega)
/-- numbers -/
theorem vAt_nI {n i : Nat} {f : Nat → Int32} (h : i < n) (hn : n < 2 ^ 31) : vAt n f (nI i) = f i := by
  unfold vAt
  rw [if_neg (nI_pos (by omega)), if_neg (nI_ge h hn), nI_clamp (by omega)]
theorem vAt_m1 (n : Nat) (f : Nat → Int32) : vAt n f (-1) = 0 := by
  unfold vAt
  rw [if_pos (by decide)]
theorem vPut_nI {n i : Nat} {f : Nat → Int32} {x : Int32} (h : i < n) (hn : n < 2 ^ 31) : vPut n f (nI i) x = upd f i x := by
  unfold vPut
  rw [if_neg (nI_pos (by omega)), if_neg (nI_ge h hn), nI_clamp (by omega)]
theorem vAdd_nI {n i : Nat} {f : Nat → Int32} {x : Int32} (h : i < n) (hn : n < 2 ^ 31) : vAdd n f (nI i) x = upd f i (f i + x) := by
  unfold vAdd
  rw [if_neg (nI_pos (by omega)), if_neg (nI_ge h hn), nI_clamp (by omega)]
theorem rd_nI {Z : Type} {n i : Nat} {f : Nat → Int32} {k : Int32 → Option Z} (h : i < n) (hn : n < 2 ^ 31) : rd n f (nI i) k = k (f i) := by
  unfold rd
  rw [if_neg (nI_in h hn), nI_clamp (by omega)]
theorem wr_nI {Z : Type} {n i : Nat} {f : Nat → Int32} {x : Int32} {k : (Nat → Int32) → Option Z} (h : i < n) (hn : n < 2 ^ 31) : wr n f (nI i) x k = k (upd f i x) := by
  unfold wr
  rw [if_neg (nI_in h hn), nI_clamp (by omega)]
theorem rdL_nI {Z : Type} {n i : Nat} {f : Nat → Int64} {k : Int64 → Option Z} (h : i < n) (hn : n < 2 ^ 31) : rdL n f (nI i) k = k (f i) := by
  unfold rdL
  rw [if_neg (nI_in h hn), nI_clamp (by omega)]
theorem wrL_nI {Z : Type} {n i : Nat} {f : Nat → Int64} {x : Int64} {k : (Nat → Int64) → Option Z} (h : i < n) (hn : n < 2 ^ 31) : wrL n f (nI i) x k = k (vp_updL f i x) := by
  unfold wrL
  rw [if_neg (nI_in h hn), nI_clamp (by omega)]
theorem dvd_nI {Z : Type} {a d : Nat} {k : Int32 → Option Z} (ha : a < 2 ^ 31) (h0 : 0 < d) (hd : d < 2 ^ 31) : dvd (nI a) (nI d) k = k (nI (a / d)) := by
  unfold dvd
  rw [if_neg (nI_ne0 h0 hd), pk_div ha h0 hd]
theorem rmd_nI {Z : Type} {a d : Nat} {k : Int32 → Option Z} (ha : a < 2 ^ 31) (h0 : 0 < d) (hd : d < 2 ^ 31) : rmd (nI a) (nI d) k = k (nI (a % d)) := by
  unfold rmd
  rw [if_neg (nI_ne0 h0 hd), pk_rem ha h0 hd]
theorem upd_s {f : Nat → Int32} {k : Nat} {x : Int32} : upd f k x k = x := if_pos rfl
theorem upd_n {f : Nat → Int32} {k j : Nat} {x : Int32} (h : j ≠ k) : upd f k x j = f j := if_neg h
theorem nI_i {a b : Nat} (ha : a < 2 ^ 31) (hb : b < 2 ^ 31) (h : nI a = nI b) : a = b := (nI_eq ha hb).mp h
theorem nI_nm1 {a : Nat} (ha : a < 2 ^ 31) : ¬ nI a = -1 := fun h => absurd (show nI a < 0 by rw [h]; decide) (nI_pos ha)
theorem q0 : (0 : Int32) = nI 0 := rfl
theorem q1 : (1 : Int32) = nI 1 := rfl
theorem q2 : (2 : Int32) = nI 2 := rfl
theorem q3 : (3 : Int32) = nI 3 := rfl
theorem q4 : (4 : Int32) = nI 4 := rfl
theorem q5 : (5 : Int32) = nI 5 := rfl
theorem q6 : (6 : Int32) = nI 6 := rfl
theorem q7 : (7 : Int32) = nI 7 := rfl
theorem q8 : (8 : Int32) = nI 8 := rfl
theorem q9 : (9 : Int32) = nI 9 := rfl
theorem q10 : (10 : Int32) = nI 10 := rfl
theorem q11 : (11 : Int32) = nI 11 := rfl
theorem q12 : (12 : Int32) = nI 12 := rfl
theorem q13 : (13 : Int32) = nI 13 := rfl
theorem q14 : (14 : Int32) = nI 14 := rfl
theorem q15 : (15 : Int32) = nI 15 := rfl
theorem q20 : (20 : Int32) = nI 20 := rfl
theorem q24 : (24 : Int32) = nI 24 := rfl
theorem q31 : (31 : Int32) = nI 31 := rfl
theorem q32 : (32 : Int32) = nI 32 := rfl
theorem q37 : (37 : Int32) = nI 37 := rfl
theorem q42 : (42 : Int32) = nI 42 := rfl
theorem q47 : (47 : Int32) = nI 47 := rfl
theorem q48 : (48 : Int32) = nI 48 := rfl
theorem q49 : (49 : Int32) = nI 49 := rfl
theorem q50 : (50 : Int32) = nI 50 := rfl
theorem q56 : (56 : Int32) = nI 56 := rfl
theorem q74 : (74 : Int32) = nI 74 := rfl
theorem q75 : (75 : Int32) = nI 75 := rfl
theorem q100 : (100 : Int32) = nI 100 := rfl
theorem q126 : (126 : Int32) = nI 126 := rfl
theorem q144 : (144 : Int32) = nI 144 := rfl
theorem q148 : (148 : Int32) = nI 148 := rfl
theorem q160 : (160 : Int32) = nI 160 := rfl
theorem q196 : (196 : Int32) = nI 196 := rfl
theorem q200 : (200 : Int32) = nI 200 := rfl
theorem q232 : (232 : Int32) = nI 232 := rfl
theorem q244 : (244 : Int32) = nI 244 := rfl
theorem q732 : (732 : Int32) = nI 732 := rfl
theorem q976 : (976 : Int32) = nI 976 := rfl
theorem q65535 : (65535 : Int32) = nI 65535 := rfl
theorem q65537 : (65537 : Int32) = nI 65537 := rfl
