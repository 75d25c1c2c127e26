/-! more of what a mirror comes to: by separate values; loops by what comes behind a turn -/
theorem evc1 {T0 Z : Type} {o : Option (T0)} {k : T0 → Option Z} {Q : Z → Prop} {G : (T0) → Prop} (h : Ev o G) (g : ∀ (v0 : T0), G v0 → Ev (k v0) Q) : Ev (bd1 o k) Q := by
  obtain ⟨v0, rfl, h2⟩ := h
  exact g v0 h2
theorem evc4 {T0 T1 T2 T3 Z : Type} {o : Option (T0 × T1 × T2 × T3)} {k : T0 → T1 → T2 → T3 → Option Z} {Q : Z → Prop} {G : (T0 × T1 × T2 × T3) → Prop} (h : Ev o G) (g : ∀ (v0 : T0) (v1 : T1) (v2 : T2) (v3 : T3), G (v0, v1, v2, v3) → Ev (k v0 v1 v2 v3) Q) : Ev (bd4 o k) Q := by
  obtain ⟨⟨v0, v1, v2, v3⟩, rfl, h2⟩ := h
  exact g v0 v1 v2 v3 h2
theorem evc5 {T0 T1 T2 T3 T4 Z : Type} {o : Option (T0 × T1 × T2 × T3 × T4)} {k : T0 → T1 → T2 → T3 → T4 → Option Z} {Q : Z → Prop} {G : (T0 × T1 × T2 × T3 × T4) → Prop} (h : Ev o G) (g : ∀ (v0 : T0) (v1 : T1) (v2 : T2) (v3 : T3) (v4 : T4), G (v0, v1, v2, v3, v4) → Ev (k v0 v1 v2 v3 v4) Q) : Ev (bd5 o k) Q := by
  obtain ⟨⟨v0, v1, v2, v3, v4⟩, rfl, h2⟩ := h
  exact g v0 v1 v2 v3 v4 h2
theorem evc6 {T0 T1 T2 T3 T4 T5 Z : Type} {o : Option (T0 × T1 × T2 × T3 × T4 × T5)} {k : T0 → T1 → T2 → T3 → T4 → T5 → Option Z} {Q : Z → Prop} {G : (T0 × T1 × T2 × T3 × T4 × T5) → Prop} (h : Ev o G) (g : ∀ (v0 : T0) (v1 : T1) (v2 : T2) (v3 : T3) (v4 : T4) (v5 : T5), G (v0, v1, v2, v3, v4, v5) → Ev (k v0 v1 v2 v3 v4 v5) Q) : Ev (bd6 o k) Q := by
  obtain ⟨⟨v0, v1, v2, v3, v4, v5⟩, rfl, h2⟩ := h
  exact g v0 v1 v2 v3 v4 v5 h2
theorem evc7 {T0 T1 T2 T3 T4 T5 T6 Z : Type} {o : Option (T0 × T1 × T2 × T3 × T4 × T5 × T6)} {k : T0 → T1 → T2 → T3 → T4 → T5 → T6 → Option Z} {Q : Z → Prop} {G : (T0 × T1 × T2 × T3 × T4 × T5 × T6) → Prop} (h : Ev o G) (g : ∀ (v0 : T0) (v1 : T1) (v2 : T2) (v3 : T3) (v4 : T4) (v5 : T5) (v6 : T6), G (v0, v1, v2, v3, v4, v5, v6) → Ev (k v0 v1 v2 v3 v4 v5 v6) Q) : Ev (bd7 o k) Q := by
  obtain ⟨⟨v0, v1, v2, v3, v4, v5, v6⟩, rfl, h2⟩ := h
  exact g v0 v1 v2 v3 v4 v5 v6 h2
theorem evc20 {T0 T1 T2 T3 T4 T5 T6 T7 T8 T9 T10 T11 T12 T13 T14 T15 T16 T17 T18 T19 Z : Type} {o : Option (T0 × T1 × T2 × T3 × T4 × T5 × T6 × T7 × T8 × T9 × T10 × T11 × T12 × T13 × T14 × T15 × T16 × T17 × T18 × T19)} {k : T0 → T1 → T2 → T3 → T4 → T5 → T6 → T7 → T8 → T9 → T10 → T11 → T12 → T13 → T14 → T15 → T16 → T17 → T18 → T19 → Option Z} {Q : Z → Prop} {G : (T0 × T1 × T2 × T3 × T4 × T5 × T6 × T7 × T8 × T9 × T10 × T11 × T12 × T13 × T14 × T15 × T16 × T17 × T18 × T19) → Prop} (h : Ev o G) (g : ∀ (v0 : T0) (v1 : T1) (v2 : T2) (v3 : T3) (v4 : T4) (v5 : T5) (v6 : T6) (v7 : T7) (v8 : T8) (v9 : T9) (v10 : T10) (v11 : T11) (v12 : T12) (v13 : T13) (v14 : T14) (v15 : T15) (v16 : T16) (v17 : T17) (v18 : T18) (v19 : T19), G (v0, v1, v2, v3, v4, v5, v6, v7, v8, v9, v10, v11, v12, v13, v14, v15, v16, v17, v18, v19) → Ev (k v0 v1 v2 v3 v4 v5 v6 v7 v8 v9 v10 v11 v12 v13 v14 v15 v16 v17 v18 v19) Q) : Ev (bd20 o k) Q := by
  obtain ⟨⟨v0, v1, v2, v3, v4, v5, v6, v7, v8, v9, v10, v11, v12, v13, v14, v15, v16, v17, v18, v19⟩, rfl, h2⟩ := h
  exact g v0 v1 v2 v3 v4 v5 v6 v7 v8 v9 v10 v11 v12 v13 v14 v15 v16 v17 v18 v19 h2
theorem evc41 {T0 T1 T2 T3 T4 T5 T6 T7 T8 T9 T10 T11 T12 T13 T14 T15 T16 T17 T18 T19 T20 T21 T22 T23 T24 T25 T26 T27 T28 T29 T30 T31 T32 T33 T34 T35 T36 T37 T38 T39 T40 Z : Type} {o : Option (T0 × T1 × T2 × T3 × T4 × T5 × T6 × T7 × T8 × T9 × T10 × T11 × T12 × T13 × T14 × T15 × T16 × T17 × T18 × T19 × T20 × T21 × T22 × T23 × T24 × T25 × T26 × T27 × T28 × T29 × T30 × T31 × T32 × T33 × T34 × T35 × T36 × T37 × T38 × T39 × T40)} {k : T0 → T1 → T2 → T3 → T4 → T5 → T6 → T7 → T8 → T9 → T10 → T11 → T12 → T13 → T14 → T15 → T16 → T17 → T18 → T19 → T20 → T21 → T22 → T23 → T24 → T25 → T26 → T27 → T28 → T29 → T30 → T31 → T32 → T33 → T34 → T35 → T36 → T37 → T38 → T39 → T40 → Option Z} {Q : Z → Prop} {G : (T0 × T1 × T2 × T3 × T4 × T5 × T6 × T7 × T8 × T9 × T10 × T11 × T12 × T13 × T14 × T15 × T16 × T17 × T18 × T19 × T20 × T21 × T22 × T23 × T24 × T25 × T26 × T27 × T28 × T29 × T30 × T31 × T32 × T33 × T34 × T35 × T36 × T37 × T38 × T39 × T40) → Prop} (h : Ev o G) (g : ∀ (v0 : T0) (v1 : T1) (v2 : T2) (v3 : T3) (v4 : T4) (v5 : T5) (v6 : T6) (v7 : T7) (v8 : T8) (v9 : T9) (v10 : T10) (v11 : T11) (v12 : T12) (v13 : T13) (v14 : T14) (v15 : T15) (v16 : T16) (v17 : T17) (v18 : T18) (v19 : T19) (v20 : T20) (v21 : T21) (v22 : T22) (v23 : T23) (v24 : T24) (v25 : T25) (v26 : T26) (v27 : T27) (v28 : T28) (v29 : T29) (v30 : T30) (v31 : T31) (v32 : T32) (v33 : T33) (v34 : T34) (v35 : T35) (v36 : T36) (v37 : T37) (v38 : T38) (v39 : T39) (v40 : T40), G (v0, v1, v2, v3, v4, v5, v6, v7, v8, v9, v10, v11, v12, v13, v14, v15, v16, v17, v18, v19, v20, v21, v22, v23, v24, v25, v26, v27, v28, v29, v30, v31, v32, v33, v34, v35, v36, v37, v38, v39, v40) → Ev (k v0 v1 v2 v3 v4 v5 v6 v7 v8 v9 v10 v11 v12 v13 v14 v15 v16 v17 v18 v19 v20 v21 v22 v23 v24 v25 v26 v27 v28 v29 v30 v31 v32 v33 v34 v35 v36 v37 v38 v39 v40) Q) : Ev (bd41 o k) Q := by
  obtain ⟨⟨v0, v1, v2, v3, v4, v5, v6, v7, v8, v9, v10, v11, v12, v13, v14, v15, v16, v17, v18, v19, v20, v21, v22, v23, v24, v25, v26, v27, v28, v29, v30, v31, v32, v33, v34, v35, v36, v37, v38, v39, v40⟩, rfl, h2⟩ := h
  exact g v0 v1 v2 v3 v4 v5 v6 v7 v8 v9 v10 v11 v12 v13 v14 v15 v16 v17 v18 v19 v20 v21 v22 v23 v24 v25 v26 v27 v28 v29 v30 v31 v32 v33 v34 v35 v36 v37 v38 v39 v40 h2
theorem zl2e1 {T0 Z : Type} {b : (T0 → Int32 → Option Z) → T0 → Int32 → Option Z} {Q : Z → Prop} (n : Nat) (P : Nat → T0 → Prop) (hs : ∀ (rec : T0 → Int32 → Option Z) (i : Nat) (v0 : T0), i < n → P i v0 → (∀ (w0 : T0), P (i + 1) w0 → Ev (rec w0 (nI (i + 1))) Q) → Ev (b rec v0 (nI i)) Q) (he : ∀ (rec : T0 → Int32 → Option Z) (v0 : T0), P n v0 → Ev (b rec v0 (nI n)) Q) : ∀ (N i : Nat) (v0 : T0), i ≤ n → n - i < N → P i v0 → Ev (zl2 b N v0 (nI i)) Q := by
  intro N
  induction N with
  | zero => intro i v0 _ h; omega
  | succ N ih =>
    intro i v0 hi hN hP
    show Ev (b (zl2 b N) v0 (nI i)) Q
    rcases Nat.lt_or_ge i n with h | h
    · exact hs (zl2 b N) i v0 h hP (fun w0 h2 => ih (i + 1) w0 h (by omega) h2)
    · have e : i = n := by omega
      subst e
      exact he _ v0 hP
theorem zl6e1 {T0 T2 T3 T4 T5 Z : Type} {b : (T0 → Int32 → T2 → T3 → T4 → T5 → Option Z) → T0 → Int32 → T2 → T3 → T4 → T5 → Option Z} {Q : Z → Prop} (n : Nat) (P : Nat → T0 → T2 → T3 → T4 → T5 → Prop) (hs : ∀ (rec : T0 → Int32 → T2 → T3 → T4 → T5 → Option Z) (i : Nat) (v0 : T0) (v2 : T2) (v3 : T3) (v4 : T4) (v5 : T5), i < n → P i v0 v2 v3 v4 v5 → (∀ (w0 : T0) (w2 : T2) (w3 : T3) (w4 : T4) (w5 : T5), P (i + 1) w0 w2 w3 w4 w5 → Ev (rec w0 (nI (i + 1)) w2 w3 w4 w5) Q) → Ev (b rec v0 (nI i) v2 v3 v4 v5) Q) (he : ∀ (rec : T0 → Int32 → T2 → T3 → T4 → T5 → Option Z) (v0 : T0) (v2 : T2) (v3 : T3) (v4 : T4) (v5 : T5), P n v0 v2 v3 v4 v5 → Ev (b rec v0 (nI n) v2 v3 v4 v5) Q) : ∀ (N i : Nat) (v0 : T0) (v2 : T2) (v3 : T3) (v4 : T4) (v5 : T5), i ≤ n → n - i < N → P i v0 v2 v3 v4 v5 → Ev (zl6 b N v0 (nI i) v2 v3 v4 v5) Q := by
  intro N
  induction N with
  | zero => intro i v0 v2 v3 v4 v5 _ h; omega
  | succ N ih =>
    intro i v0 v2 v3 v4 v5 hi hN hP
    show Ev (b (zl6 b N) v0 (nI i) v2 v3 v4 v5) Q
    rcases Nat.lt_or_ge i n with h | h
    · exact hs (zl6 b N) i v0 v2 v3 v4 v5 h hP (fun w0 w2 w3 w4 w5 h2 => ih (i + 1) w0 w2 w3 w4 w5 h (by omega) h2)
    · have e : i = n := by omega
      subst e
      exact he _ v0 v2 v3 v4 v5 hP
theorem zl7e1 {T0 T2 T3 T4 T5 T6 Z : Type} {b : (T0 → Int32 → T2 → T3 → T4 → T5 → T6 → Option Z) → T0 → Int32 → T2 → T3 → T4 → T5 → T6 → Option Z} {Q : Z → Prop} (n : Nat) (P : Nat → T0 → T2 → T3 → T4 → T5 → T6 → Prop) (hs : ∀ (rec : T0 → Int32 → T2 → T3 → T4 → T5 → T6 → Option Z) (i : Nat) (v0 : T0) (v2 : T2) (v3 : T3) (v4 : T4) (v5 : T5) (v6 : T6), i < n → P i v0 v2 v3 v4 v5 v6 → (∀ (w0 : T0) (w2 : T2) (w3 : T3) (w4 : T4) (w5 : T5) (w6 : T6), P (i + 1) w0 w2 w3 w4 w5 w6 → Ev (rec w0 (nI (i + 1)) w2 w3 w4 w5 w6) Q) → Ev (b rec v0 (nI i) v2 v3 v4 v5 v6) Q) (he : ∀ (rec : T0 → Int32 → T2 → T3 → T4 → T5 → T6 → Option Z) (v0 : T0) (v2 : T2) (v3 : T3) (v4 : T4) (v5 : T5) (v6 : T6), P n v0 v2 v3 v4 v5 v6 → Ev (b rec v0 (nI n) v2 v3 v4 v5 v6) Q) : ∀ (N i : Nat) (v0 : T0) (v2 : T2) (v3 : T3) (v4 : T4) (v5 : T5) (v6 : T6), i ≤ n → n - i < N → P i v0 v2 v3 v4 v5 v6 → Ev (zl7 b N v0 (nI i) v2 v3 v4 v5 v6) Q := by
  intro N
  induction N with
  | zero => intro i v0 v2 v3 v4 v5 v6 _ h; omega
  | succ N ih =>
    intro i v0 v2 v3 v4 v5 v6 hi hN hP
    show Ev (b (zl7 b N) v0 (nI i) v2 v3 v4 v5 v6) Q
    rcases Nat.lt_or_ge i n with h | h
    · exact hs (zl7 b N) i v0 v2 v3 v4 v5 v6 h hP (fun w0 w2 w3 w4 w5 w6 h2 => ih (i + 1) w0 w2 w3 w4 w5 w6 h (by omega) h2)
    · have e : i = n := by omega
      subst e
      exact he _ v0 v2 v3 v4 v5 v6 hP
theorem zl42e1 {T0 T2 T3 T4 T5 T6 T7 T8 T9 T10 T11 T12 T13 T14 T15 T16 T17 T18 T19 T20 T21 T22 T23 T24 T25 T26 T27 T28 T29 T30 T31 T32 T33 T34 T35 T36 T37 T38 T39 T40 T41 Z : Type} {b : (T0 → Int32 → T2 → T3 → T4 → T5 → T6 → T7 → T8 → T9 → T10 → T11 → T12 → T13 → T14 → T15 → T16 → T17 → T18 → T19 → T20 → T21 → T22 → T23 → T24 → T25 → T26 → T27 → T28 → T29 → T30 → T31 → T32 → T33 → T34 → T35 → T36 → T37 → T38 → T39 → T40 → T41 → Option Z) → T0 → Int32 → T2 → T3 → T4 → T5 → T6 → T7 → T8 → T9 → T10 → T11 → T12 → T13 → T14 → T15 → T16 → T17 → T18 → T19 → T20 → T21 → T22 → T23 → T24 → T25 → T26 → T27 → T28 → T29 → T30 → T31 → T32 → T33 → T34 → T35 → T36 → T37 → T38 → T39 → T40 → T41 → Option Z} {Q : Z → Prop} (n : Nat) (P : Nat → T0 → T2 → T3 → T4 → T5 → T6 → T7 → T8 → T9 → T10 → T11 → T12 → T13 → T14 → T15 → T16 → T17 → T18 → T19 → T20 → T21 → T22 → T23 → T24 → T25 → T26 → T27 → T28 → T29 → T30 → T31 → T32 → T33 → T34 → T35 → T36 → T37 → T38 → T39 → T40 → T41 → Prop) (hs : ∀ (rec : T0 → Int32 → T2 → T3 → T4 → T5 → T6 → T7 → T8 → T9 → T10 → T11 → T12 → T13 → T14 → T15 → T16 → T17 → T18 → T19 → T20 → T21 → T22 → T23 → T24 → T25 → T26 → T27 → T28 → T29 → T30 → T31 → T32 → T33 → T34 → T35 → T36 → T37 → T38 → T39 → T40 → T41 → Option Z) (i : Nat) (v0 : T0) (v2 : T2) (v3 : T3) (v4 : T4) (v5 : T5) (v6 : T6) (v7 : T7) (v8 : T8) (v9 : T9) (v10 : T10) (v11 : T11) (v12 : T12) (v13 : T13) (v14 : T14) (v15 : T15) (v16 : T16) (v17 : T17) (v18 : T18) (v19 : T19) (v20 : T20) (v21 : T21) (v22 : T22) (v23 : T23) (v24 : T24) (v25 : T25) (v26 : T26) (v27 : T27) (v28 : T28) (v29 : T29) (v30 : T30) (v31 : T31) (v32 : T32) (v33 : T33) (v34 : T34) (v35 : T35) (v36 : T36) (v37 : T37) (v38 : T38) (v39 : T39) (v40 : T40) (v41 : T41), i < n → P i v0 v2 v3 v4 v5 v6 v7 v8 v9 v10 v11 v12 v13 v14 v15 v16 v17 v18 v19 v20 v21 v22 v23 v24 v25 v26 v27 v28 v29 v30 v31 v32 v33 v34 v35 v36 v37 v38 v39 v40 v41 → (∀ (w0 : T0) (w2 : T2) (w3 : T3) (w4 : T4) (w5 : T5) (w6 : T6) (w7 : T7) (w8 : T8) (w9 : T9) (w10 : T10) (w11 : T11) (w12 : T12) (w13 : T13) (w14 : T14) (w15 : T15) (w16 : T16) (w17 : T17) (w18 : T18) (w19 : T19) (w20 : T20) (w21 : T21) (w22 : T22) (w23 : T23) (w24 : T24) (w25 : T25) (w26 : T26) (w27 : T27) (w28 : T28) (w29 : T29) (w30 : T30) (w31 : T31) (w32 : T32) (w33 : T33) (w34 : T34) (w35 : T35) (w36 : T36) (w37 : T37) (w38 : T38) (w39 : T39) (w40 : T40) (w41 : T41), P (i + 1) w0 w2 w3 w4 w5 w6 w7 w8 w9 w10 w11 w12 w13 w14 w15 w16 w17 w18 w19 w20 w21 w22 w23 w24 w25 w26 w27 w28 w29 w30 w31 w32 w33 w34 w35 w36 w37 w38 w39 w40 w41 → Ev (rec w0 (nI (i + 1)) w2 w3 w4 w5 w6 w7 w8 w9 w10 w11 w12 w13 w14 w15 w16 w17 w18 w19 w20 w21 w22 w23 w24 w25 w26 w27 w28 w29 w30 w31 w32 w33 w34 w35 w36 w37 w38 w39 w40 w41) Q) → Ev (b rec v0 (nI i) v2 v3 v4 v5 v6 v7 v8 v9 v10 v11 v12 v13 v14 v15 v16 v17 v18 v19 v20 v21 v22 v23 v24 v25 v26 v27 v28 v29 v30 v31 v32 v33 v34 v35 v36 v37 v38 v39 v40 v41) Q) (he : ∀ (rec : T0 → Int32 → T2 → T3 → T4 → T5 → T6 → T7 → T8 → T9 → T10 → T11 → T12 → T13 → T14 → T15 → T16 → T17 → T18 → T19 → T20 → T21 → T22 → T23 → T24 → T25 → T26 → T27 → T28 → T29 → T30 → T31 → T32 → T33 → T34 → T35 → T36 → T37 → T38 → T39 → T40 → T41 → Option Z) (v0 : T0) (v2 : T2) (v3 : T3) (v4 : T4) (v5 : T5) (v6 : T6) (v7 : T7) (v8 : T8) (v9 : T9) (v10 : T10) (v11 : T11) (v12 : T12) (v13 : T13) (v14 : T14) (v15 : T15) (v16 : T16) (v17 : T17) (v18 : T18) (v19 : T19) (v20 : T20) (v21 : T21) (v22 : T22) (v23 : T23) (v24 : T24) (v25 : T25) (v26 : T26) (v27 : T27) (v28 : T28) (v29 : T29) (v30 : T30) (v31 : T31) (v32 : T32) (v33 : T33) (v34 : T34) (v35 : T35) (v36 : T36) (v37 : T37) (v38 : T38) (v39 : T39) (v40 : T40) (v41 : T41), P n v0 v2 v3 v4 v5 v6 v7 v8 v9 v10 v11 v12 v13 v14 v15 v16 v17 v18 v19 v20 v21 v22 v23 v24 v25 v26 v27 v28 v29 v30 v31 v32 v33 v34 v35 v36 v37 v38 v39 v40 v41 → Ev (b rec v0 (nI n) v2 v3 v4 v5 v6 v7 v8 v9 v10 v11 v12 v13 v14 v15 v16 v17 v18 v19 v20 v21 v22 v23 v24 v25 v26 v27 v28 v29 v30 v31 v32 v33 v34 v35 v36 v37 v38 v39 v40 v41) Q) : ∀ (N i : Nat) (v0 : T0) (v2 : T2) (v3 : T3) (v4 : T4) (v5 : T5) (v6 : T6) (v7 : T7) (v8 : T8) (v9 : T9) (v10 : T10) (v11 : T11) (v12 : T12) (v13 : T13) (v14 : T14) (v15 : T15) (v16 : T16) (v17 : T17) (v18 : T18) (v19 : T19) (v20 : T20) (v21 : T21) (v22 : T22) (v23 : T23) (v24 : T24) (v25 : T25) (v26 : T26) (v27 : T27) (v28 : T28) (v29 : T29) (v30 : T30) (v31 : T31) (v32 : T32) (v33 : T33) (v34 : T34) (v35 : T35) (v36 : T36) (v37 : T37) (v38 : T38) (v39 : T39) (v40 : T40) (v41 : T41), i ≤ n → n - i < N → P i v0 v2 v3 v4 v5 v6 v7 v8 v9 v10 v11 v12 v13 v14 v15 v16 v17 v18 v19 v20 v21 v22 v23 v24 v25 v26 v27 v28 v29 v30 v31 v32 v33 v34 v35 v36 v37 v38 v39 v40 v41 → Ev (zl42 b N v0 (nI i) v2 v3 v4 v5 v6 v7 v8 v9 v10 v11 v12 v13 v14 v15 v16 v17 v18 v19 v20 v21 v22 v23 v24 v25 v26 v27 v28 v29 v30 v31 v32 v33 v34 v35 v36 v37 v38 v39 v40 v41) Q := by
  intro N
  induction N with
  | zero => intro i v0 v2 v3 v4 v5 v6 v7 v8 v9 v10 v11 v12 v13 v14 v15 v16 v17 v18 v19 v20 v21 v22 v23 v24 v25 v26 v27 v28 v29 v30 v31 v32 v33 v34 v35 v36 v37 v38 v39 v40 v41 _ h; omega
  | succ N ih =>
    intro i v0 v2 v3 v4 v5 v6 v7 v8 v9 v10 v11 v12 v13 v14 v15 v16 v17 v18 v19 v20 v21 v22 v23 v24 v25 v26 v27 v28 v29 v30 v31 v32 v33 v34 v35 v36 v37 v38 v39 v40 v41 hi hN hP
    show Ev (b (zl42 b N) v0 (nI i) v2 v3 v4 v5 v6 v7 v8 v9 v10 v11 v12 v13 v14 v15 v16 v17 v18 v19 v20 v21 v22 v23 v24 v25 v26 v27 v28 v29 v30 v31 v32 v33 v34 v35 v36 v37 v38 v39 v40 v41) Q
    rcases Nat.lt_or_ge i n with h | h
    · exact hs (zl42 b N) i v0 v2 v3 v4 v5 v6 v7 v8 v9 v10 v11 v12 v13 v14 v15 v16 v17 v18 v19 v20 v21 v22 v23 v24 v25 v26 v27 v28 v29 v30 v31 v32 v33 v34 v35 v36 v37 v38 v39 v40 v41 h hP (fun w0 w2 w3 w4 w5 w6 w7 w8 w9 w10 w11 w12 w13 w14 w15 w16 w17 w18 w19 w20 w21 w22 w23 w24 w25 w26 w27 w28 w29 w30 w31 w32 w33 w34 w35 w36 w37 w38 w39 w40 w41 h2 => ih (i + 1) w0 w2 w3 w4 w5 w6 w7 w8 w9 w10 w11 w12 w13 w14 w15 w16 w17 w18 w19 w20 w21 w22 w23 w24 w25 w26 w27 w28 w29 w30 w31 w32 w33 w34 w35 w36 w37 w38 w39 w40 w41 h (by omega) h2)
    · have e : i = n := by omega
      subst e
      exact he _ v0 v2 v3 v4 v5 v6 v7 v8 v9 v10 v11 v12 v13 v14 v15 v16 v17 v18 v19 v20 v21 v22 v23 v24 v25 v26 v27 v28 v29 v30 v31 v32 v33 v34 v35 v36 v37 v38 v39 v40 v41 hP
/-- sums of Int32 -/
theorem a32_swap (a b c d : Int32) : (a + b) + (c + d) = (a + c) + (b + d) := by
  rw [Int32.add_assoc, Int32.add_assoc, ← Int32.add_assoc b c d, Int32.add_comm b c, Int32.add_assoc c b d]
theorem iS_add (f g : Nat → Int32) : ∀ n, iS (fun k => f k + g k) n = iS f n + iS g n := by
  intro n
  induction n with
  | zero => rfl
  | succ n ih =>
    show iS (fun k => f k + g k) n + (f n + g n) = (iS f n + f n) + (iS g n + g n)
    rw [ih, a32_swap]
theorem iS_zero : ∀ n, iS (fun _ => 0) n = 0 := by
  intro n
  induction n with
  | zero => rfl
  | succ n ih => show iS (fun _ => 0) n + 0 = 0; rw [ih]; rfl
theorem iS_swap (g : Nat → Nat → Int32) (n : Nat) : ∀ m, iS (fun c => iS (fun k => g c k) n) m = iS (fun k => iS (fun c => g c k) m) n := by
  intro m
  induction m with
  | zero => show 0 = iS (fun k => 0) n; rw [iS_zero]
  | succ m ih =>
    show iS (fun c => iS (fun k => g c k) n) m + iS (fun k => g m k) n = iS (fun k => iS (fun c => g c k) m + g m k) n
    rw [ih, iS_add]
theorem iS_one {a : Nat} {x : Int32} : ∀ m, iS (fun c => if a = c then x else 0) m = if a < m then x else 0 := by
  intro m
  induction m with
  | zero => rfl
  | succ m ih =>
    show iS (fun c => if a = c then x else 0) m + (if a = m then x else 0) = _
    rw [ih]
    by_cases h1 : a = m
    · rw [if_neg (by omega), if_pos h1, if_pos (by omega), Int32.zero_add]
    · rw [if_neg h1, Int32.add_zero]
      by_cases h2 : a < m
      · rw [if_pos h2, if_pos (by omega)]
      · rw [if_neg h2, if_neg (by omega)]
theorem iS_two {a b m : Nat} {x : Int32} (ha : a < m) (hb : b < m) (hab : a ≠ b) : iS (fun c => if a = c ∨ b = c then x else 0) m = x + x := by
  have e : ∀ k, k < m → (if a = k ∨ b = k then x else 0) = (if a = k then x else 0) + (if b = k then x else 0) := by
    intro k _
    by_cases h1 : a = k
    · rw [if_pos (Or.inl h1), if_pos h1, if_neg (by omega), Int32.add_zero]
    · by_cases h2 : b = k
      · rw [if_pos (Or.inr h2), if_neg h1, if_pos h2, Int32.zero_add]
      · rw [if_neg (fun z => z.elim h1 h2), if_neg h1, if_neg h2]; rfl
  rw [iS_congr e, iS_add, iS_one, iS_one, if_pos ha, if_pos hb]
