/-! the class's walk through the tree -/
def QC (W H : Nat) (num : Nat → Int32) (a : Nat → Nat) : Prop := grp W H num (toI a) 1
def anyV : Nat → Nat → Prop := fun _ _ => True
theorem hX_toI {W : Nat} {l : List Wy} {k : Nat} {a : Nat → Nat} (hn : l.length ≤ 48) (ha : ∀ i, a i ≤ 2) : lg_cmp (lN (msk (fun j => crs W (gw l k) (gw l j)) l.length) &&& lN (msk (fun i => decide (0 < a i)) l.length)) 0 = 0 ↔ ¬ ∃ j, j < l.length ∧ crs W (gw l k) (gw l j) = true ∧ 0 < a j := by
  have e : msk (fun i => decide (0 < a i)) l.length = msk (bm (toI a)) l.length := msk_congr fun j _ => by
    unfold bm toI
    exact decide_eq_decide.mpr (by rw [kk0_ltI (by have := ha j; omega)])
  rw [e, hX_m hn]
  unfold hX toI
  constructor
  · rintro h ⟨j, j1, j2, j3⟩
    exact h ⟨j, j1, j2, (kk0_ltI (by have := ha j; omega)).mpr j3⟩
  · rintro h ⟨j, j1, j2, j3⟩
    exact h ⟨j, j1, j2, (kk0_ltI (by have := ha j; omega)).mp j3⟩
section
variable {W H N : Nat} {num cO iA fi se fC sC st wO : Nat → Int32} {Yi Yw most wI : Int32} {cr : Nat → Int64} {xw : (Nat → Nat) → Int32}
abbrev DEC : Type := Int32 → (Nat → Int32) → Int64 → Int32 → Int32 → Int32 → (Nat → Int32) → (Nat → Int32) → (Nat → Int32) → Option ((Nat → Int32) × Int64 × Int32 × Int32 × Int32 × (Nat → Int32) × (Nat → Int32) × (Nat → Int32))
/-- the values of one way, one after the other -/
theorem vals_ev (hB : BD W H num) (hL : LO W H num Yi Yw cO iA fi se fC sC st wO cr) {m k : Nat} {a : Nat → Nat} {dec : DEC} {L : Nat} (hk : k < (WL W H num).length) (ha : lowA k a) (hLL : (L = 2 ∧ ∀ v, 0 < v → ∀ i, i < k → crs W (gw (WL W H num) k) (gw (WL W H num) i) = true → a i = 0) ∨ (L = 0 ∧ ∀ v, 0 < v → ¬ al W num (WL W H num) (up a k v) k))
    (hdec : ∀ (b : Nat → Nat) (G : Nat → Int32) (bu : Int64) (fo co di : Int32) (bri lac opn : Nat → Int32), lowA (k + 1) b → ER W H num (k + 1) b bri lac opn bu → ¬ ovI most (fo, co, di) → ∃ G' bu' bri' lac' opn', dec (nI k + 1) G bu fo co di bri lac opn = some (G', bu', (Fo most xw (fo, co, di) (Lv (al W num (WL W H num)) (QC W H num) anyV m (k + 1) b)).1, (Fo most xw (fo, co, di) (Lv (al W num (WL W H num)) (QC W H num) anyV m (k + 1) b)).2.1, (Fo most xw (fo, co, di) (Lv (al W num (WL W H num)) (QC W H num) anyV m (k + 1) b)).2.2, bri', lac', opn') ∧ ER W H num (k + 1) b bri' lac' opn' bu') :
    ∀ (j v u F : Nat) (G : Nat → Int32) (bu : Int64) (fo co di : Int32) (bri lac opn : Nat → Int32), v + j = 3 → j < F → u ≤ 2 → ER W H num (k + 1) (up a k u) bri lac opn bu →
      ∃ G' bu' bri' lac' opn' u', u' ≤ 2 ∧ zl9 (m_X5_decide_b55 fi se most (nI k) dec (nI L)) F (nI v) G bu fo co di bri lac opn = m_X5_decide_j116 fi se (nI k) G' bu' (Fo most xw (fo, co, di) (Lr (al W num (WL W H num)) (QC W H num) anyV m k a v)).1 (Fo most xw (fo, co, di) (Lr (al W num (WL W H num)) (QC W H num) anyV m k a v)).2.1 (Fo most xw (fo, co, di) (Lr (al W num (WL W H num)) (QC W H num) anyV m k a v)).2.2 bri' lac' opn' ∧ ER W H num (k + 1) (up a k u') bri' lac' opn' bu' := by
  have hn := hB.wls.2.2.1.1
  have h4 := hL.2.2.2.1
  have hwk := hB.wls.2.2.2 k hk
  have hp1 : (gw (WL W H num) k).1 < W * H := Nat.lt_trans hwk.1 hwk.2.1
  intro j
  induction j with
  | zero =>
    intro v u F G bu fo co di bri lac opn hv hF hu hE
    obtain ⟨F, rfl⟩ : ∃ f, F = f + 1 := ⟨F - 1, by omega⟩
    have hv3 : v = 3 := by omega
    subst hv3
    refine ⟨G, bu, bri, lac, opn, u, hu, ?_, hE⟩
    show m_X5_decide_b55 fi se most (nI k) dec (nI L) (zl9 (m_X5_decide_b55 fi se most (nI k) dec (nI L)) F) (nI 3) G bu fo co di bri lac opn = _
    rw [m_X5_decide_b55, if_pos (nI_lt (show L < 3 by rcases hLL with h | h <;> omega) (by omega)), Lr_3, Fo_nil]
  | succ j ih =>
    intro v u F G bu fo co di bri lac opn hv hF hu hE
    obtain ⟨F, rfl⟩ : ∃ f, F = f + 1 := ⟨F - 1, by omega⟩
    show ∃ G' bu' bri' lac' opn' u', u' ≤ 2 ∧ m_X5_decide_b55 fi se most (nI k) dec (nI L) (zl9 (m_X5_decide_b55 fi se most (nI k) dec (nI L)) F) (nI v) G bu fo co di bri lac opn = _ ∧ _
    have hnil : (∀ x, v ≤ x → x < 3 → ¬ al W num (WL W H num) (up a k x) k) → Lr (al W num (WL W H num)) (QC W H num) anyV m k a v = [] := fun hx => by
      have : ∀ i x, x + i = 3 → v ≤ x → Lr (al W num (WL W H num)) (QC W H num) anyV m k a x = [] := by
        intro i
        induction i with
        | zero => intro x h1 h2; have : x = 3 := by omega
                  subst this; rfl
        | succ i ih2 => intro x h1 h2; rw [Lr_s (by omega), Lc_f (fun z => hx x h2 (by omega) z.2), ih2 (x + 1) (by omega) (by omega)]; rfl
      exact this (j + 1) v hv (Nat.le_refl _)
    rw [m_X5_decide_b55]
    by_cases c0 : L < v
    · rw [if_pos (nI_lt c0 (by omega))]
      refine ⟨G, bu, bri, lac, opn, u, hu, ?_, hE⟩
      rw [hnil (fun x h1 h2 => by
        rcases hLL with h | h
        · omega
        · exact h.2 x (by omega)), Fo_nil]
    · rw [if_neg (nI_nlt (by omega) (by rcases hLL with h | h <;> omega)), lt1_e]
      rcases isOver_ev (most := most) (fo := fo) (co := co) (di := di) with ⟨o1, o2⟩ | ⟨o1, o2⟩
      · rw [o1, if_neg (show ¬ (1 : Int32) = 0 by decide)]
        refine ⟨G, bu, bri, lac, opn, u, hu, ?_, hE⟩
        rw [Fo_ov o2]
      · rw [o1, if_pos rfl]
        obtain ⟨bu1, bri1, lac1, e1, E1⟩ := setBridges_ev (v := v) hB h4 hk (by omega) hE
        rw [e1]
        have hlow := ha.up (show v ≤ 2 by omega)
        have f1 : m_X2_first fi (nI k) = nI (rk num (gw (WL W H num) k).1) := by
          unfold m_X2_first
          rw [vAt_nI (by omega) (by omega), (h4.2 k hk).1]; rfl
        have f2 : m_X2_second se (nI k) = nI (rk num (gw (WL W H num) k).2.1) := by
          unfold m_X2_second
          rw [vAt_nI (by omega) (by omega), (h4.2 k hk).2.1]; rfl
        have k1 := canFit_ev hB hp1 hwk.2.2.1 hlow.2 E1
        have k2 := canFit_ev hB hwk.2.1 hwk.2.2.2.1 hlow.2 E1
        have hcross : 0 < up a k v k → ∀ i, i < k → crs W (gw (WL W H num) k) (gw (WL W H num) i) = true → up a k v i = 0 := fun h1 i h2 h3 => by
          rw [up_s] at h1
          rw [up_n (by omega)]
          rcases hLL with h | h
          · exact h.2 v h1 i h2 h3
          · omega
        have e110 : ∀ (G2 : Nat → Int32) (b2 : Int64) (x1 x2 x3 : Int32) (g1 g2 g3 : Nat → Int32), m_X5_decide_j110 (zl9 (m_X5_decide_b55 fi se most (nI k) dec (nI L)) F) (nI v) G2 b2 x1 x2 x3 g1 g2 g3 = zl9 (m_X5_decide_b55 fi se most (nI k) dec (nI L)) F (nI (v + 1)) G2 b2 x1 x2 x3 g1 g2 g3 := fun G2 b2 x1 x2 x3 g1 g2 g3 => by
          unfold m_X5_decide_j110
          rw [lt1_e, nI_s]
        have skip : ¬ al W num (WL W H num) (up a k v) k → ∃ G' bu' bri' lac' opn' u', u' ≤ 2 ∧ zl9 (m_X5_decide_b55 fi se most (nI k) dec (nI L)) F (nI (v + 1)) G bu1 fo co di bri1 lac1 opn = m_X5_decide_j116 fi se (nI k) G' bu' (Fo most xw (fo, co, di) (Lr (al W num (WL W H num)) (QC W H num) anyV m k a v)).1 (Fo most xw (fo, co, di) (Lr (al W num (WL W H num)) (QC W H num) anyV m k a v)).2.1 (Fo most xw (fo, co, di) (Lr (al W num (WL W H num)) (QC W H num) anyV m k a v)).2.2 bri' lac' opn' ∧ ER W H num (k + 1) (up a k u') bri' lac' opn' bu' := fun hno => by
          rw [Lr_s (show v < 3 by omega), Lc_f (fun z => hno z.2), List.nil_append]
          exact ih (v + 1) v F G bu1 fo co di bri1 lac1 opn (by omega) (by omega) (by omega) E1
        show ∃ G' bu' bri' lac' opn' u', u' ≤ 2 ∧ (lt1 (m_X2_first fi (nI k)) (fun v50 => lt1 (m_X5_canFit lac1 opn v50) (fun v51 => if v51 = 0 then (m_X5_decide_j110 (zl9 (m_X5_decide_b55 fi se most (nI k) dec (nI L)) F) (nI v) G bu1 fo co di bri1 lac1 opn) else (lt1 (m_X2_second se (nI k)) (fun v62 => lt1 (m_X5_canFit lac1 opn v62) (fun v63 => if v63 = 0 then (m_X5_decide_j110 (zl9 (m_X5_decide_b55 fi se most (nI k) dec (nI L)) F) (nI v) G bu1 fo co di bri1 lac1 opn) else (bd8 (dec (nI k + 1) G bu1 fo co di bri1 lac1 opn) (fun v64 v65 v66 v67 v68 v69 v70 v71 => m_X5_decide_j110 (zl9 (m_X5_decide_b55 fi se most (nI k) dec (nI L)) F) (nI v) v64 v65 v66 v67 v68 v69 v70 v71)))))))) = _ ∧ _
        rw [f1, f2, lt1_e, lt1_e, lt1_e, lt1_e]
        rcases k1 with ⟨q1, q2⟩ | ⟨q1, q2⟩
        · rw [q1, if_neg (show ¬ (1 : Int32) = 0 by decide)]
          rcases k2 with ⟨q3, q4⟩ | ⟨q3, q4⟩
          · rw [q3, if_neg (show ¬ (1 : Int32) = 0 by decide)]
            obtain ⟨G2, bu2, bri2, lac2, opn2, e2, E2⟩ := hdec (up a k v) G bu1 fo co di bri1 lac1 opn hlow E1 o2
            rw [e2, bd8_some, e110, Lr_s (show v < 3 by omega), Lc_t trivial ⟨hcross, q2, q4⟩, Fo_app]
            exact ih (v + 1) v F G2 bu2 _ _ _ bri2 lac2 opn2 (by omega) (by omega) (by omega) E2
          · rw [q3, if_pos rfl, e110]
            exact skip (fun z => q4 z.2.2)
        · rw [q1, if_pos rfl, e110]
          exact skip (fun z => q2 z.2.1)
theorem decide_ev (hB : BD W H num) (hL : LO W H num Yi Yw cO iA fi se fC sC st wO cr) (h14 : (WL W H num).length ≤ 14) (hN : 1000 < N) (hx : ∀ (a : Nat → Nat) (bri : Nat → Int32), (∀ i, i < (WL W H num).length → bri i = nI (a i)) → vAt 48 bri wI = xw a) :
    ∀ (m k f : Nat) (a : Nat → Nat) (G : Nat → Int32) (bu : Int64) (fo co di : Int32) (bri lac opn : Nat → Int32), k + m = (WL W H num).length → m < f → lowA k a → ER W H num k a bri lac opn bu → ¬ ovI most (fo, co, di) →
      ∃ G' bu' bri' lac' opn', zl9 (m_X5_decide_r N Yi Yw fi se cr most wI) f (nI k) G bu fo co di bri lac opn = some (G', bu', (Fo most xw (fo, co, di) (Lv (al W num (WL W H num)) (QC W H num) anyV m k a)).1, (Fo most xw (fo, co, di) (Lv (al W num (WL W H num)) (QC W H num) anyV m k a)).2.1, (Fo most xw (fo, co, di) (Lv (al W num (WL W H num)) (QC W H num) anyV m k a)).2.2, bri', lac', opn') ∧ ER W H num k a bri' lac' opn' bu' := by
  have hn := hB.wls.2.2.1.1
  have h4 := hL.2.2.2.1
  have hYw := h4.1
  intro m
  induction m with
  | zero =>
    intro k f a G bu fo co di bri lac opn hk hf ha hE ho
    obtain ⟨f, rfl⟩ : ∃ g, f = g + 1 := ⟨f - 1, by omega⟩
    show ∃ G' bu' bri' lac' opn', m_X5_decide_r N Yi Yw fi se cr most wI (zl9 (m_X5_decide_r N Yi Yw fi se cr most wI) f) (nI k) G bu fo co di bri lac opn = _ ∧ _
    rw [m_X5_decide_r, if_pos (show Yw ≤ nI k by rw [hYw]; exact nI_le (by omega) (by omega))]
    unfold m_X5_decide_j17
    obtain ⟨g, e⟩ := note_ev (N := N) (ld := G) hB hL.1 h4 hE.1 (hx a bri hE.1) ho (by omega)
    rw [e, bd4_some]
    exact ⟨_, _, _, _, _, rfl, hE⟩
  | succ m ih =>
    intro k f a G bu fo co di bri lac opn hk hf ha hE ho
    obtain ⟨f, rfl⟩ : ∃ g, f = g + 1 := ⟨f - 1, by omega⟩
    have hk2 : k < (WL W H num).length := by omega
    show ∃ G' bu' bri' lac' opn', m_X5_decide_r N Yi Yw fi se cr most wI (zl9 (m_X5_decide_r N Yi Yw fi se cr most wI) f) (nI k) G bu fo co di bri lac opn = _ ∧ _
    rw [m_X5_decide_r, if_neg (show ¬ Yw ≤ nI k by rw [hYw]; exact nI_ge (by omega) (by omega)), if_pos (show nI k < 14 from nI_lt (b := 14) (by omega) (by omega)), crossingsOf_nI (by omega), bd1_some, hL.2.2.2.2.2 k hk2, hE.2.1]
    have go : ∀ L, (L = 2 ∧ ∀ v, 0 < v → ∀ i, i < k → crs W (gw (WL W H num) k) (gw (WL W H num) i) = true → a i = 0) ∨ (L = 0 ∧ ∀ v, 0 < v → ¬ al W num (WL W H num) (up a k v) k) → ∃ G' bu' bri' lac' opn', m_X5_decide_j45 N fi se most (nI k) (zl9 (m_X5_decide_r N Yi Yw fi se cr most wI) f) G (lN (msk (fun i => decide (0 < a i)) (WL W H num).length)) fo co di bri lac opn (nI L) = some (G', bu', (Fo most xw (fo, co, di) (Lv (al W num (WL W H num)) (QC W H num) anyV (m + 1) k a)).1, (Fo most xw (fo, co, di) (Lv (al W num (WL W H num)) (QC W H num) anyV (m + 1) k a)).2.1, (Fo most xw (fo, co, di) (Lv (al W num (WL W H num)) (QC W H num) anyV (m + 1) k a)).2.2, bri', lac', opn') ∧ ER W H num k a bri' lac' opn' bu' := fun L hLL => by
      have ha0 : up a k 0 = a := by
        have := up_id (a := a) (k := k)
        rw [ha.1 k (Nat.le_refl _)] at this
        exact this
      have E1 : ER W H num (k + 1) (up a k 0) bri lac (m_X5_addOpen fi se opn (nI k) (-2)) (lN (msk (fun i => decide (0 < a i)) (WL W H num).length)) := by
        refine ⟨by rw [ha0]; exact hE.1, by rw [ha0], by rw [ha0]; exact hE.2.2.1, fun c hc hp => ?_⟩
        rw [addOpen_nI hB h4 hk2 c hc hp, hE.2.2.2 c hc hp, ic_s (c := c) hk2]
        by_cases q : (gw (WL W H num) k).1 = c ∨ (gw (WL W H num) k).2.1 = c
        · rw [if_pos q, if_pos q, add_neg', show (2 : Int32) = nI 2 from rfl, pk_sub (by omega)]
          congr 1
        · rw [if_neg q, if_neg q, Int32.add_zero]; rfl
      obtain ⟨G2, bu2, bri2, lac2, opn2, u2, hu2, e2, E2⟩ := vals_ev (xw := xw) (most := most) hB hL (m := m) hk2 ha hLL (fun b G' bu' fo' co' di' bri' lac' opn' hb' hE' ho' => by
        rw [nI_s]
        exact ih (k + 1) f b G' bu' fo' co' di' bri' lac' opn' (by omega) (by omega) hb' hE' ho') 3 0 0 N G _ fo co di bri lac _ rfl (by omega) (by omega) E1
      unfold m_X5_decide_j45
      rw [lt1_e]
      rw [show zl9 (m_X5_decide_b55 fi se most (nI k) (zl9 (m_X5_decide_r N Yi Yw fi se cr most wI) f) (nI L)) N 0 G (lN (msk (fun i => decide (0 < a i)) (WL W H num).length)) fo co di bri lac (m_X5_addOpen fi se opn (nI k) (-2)) = _ from e2]
      unfold m_X5_decide_j116
      obtain ⟨bu3, bri3, lac3, e3, E3⟩ := setBridges_ev (v := 0) hB h4 hk2 (by omega) E2
      rw [show m_X5_setBridges fi se bu2 bri2 lac2 (nI k) 0 = _ from e3]
      rw [ha0] at E3
      refine ⟨_, _, _, _, _, rfl, E3.1, E3.2.1, E3.2.2.1, fun c hc hp => ?_⟩
      show (m_X5_addOpen fi se opn2 (nI k) 2) (rk num c) = _
      rw [addOpen_nI hB h4 hk2 c hc hp, E3.2.2.2 c hc hp, ic_s (c := c) hk2]
      by_cases q : (gw (WL W H num) k).1 = c ∨ (gw (WL W H num) k).2.1 = c
      · rw [if_pos q, if_pos q, show (2 : Int32) = nI 2 from rfl, nI_add]
        congr 1
      · rw [if_neg q, if_neg q, Int32.add_zero]; rfl
    by_cases hcr : ∃ j, j < (WL W H num).length ∧ crs W (gw (WL W H num) k) (gw (WL W H num) j) = true ∧ 0 < a j
    · rw [if_neg (fun z => (hX_toI hn ha.2).mp z hcr)]
      refine go 0 (Or.inr ⟨rfl, fun v hv hal => ?_⟩)
      obtain ⟨j, j1, j2, j3⟩ := hcr
      have hjk : j < k := by
        rcases Nat.lt_or_ge j k with r | r
        · exact r
        · rw [ha.1 j r] at j3; omega
      have := hal.1 (by rw [up_s]; exact hv) j hjk j2
      rw [up_n (by omega)] at this
      omega
    · rw [if_pos ((hX_toI hn ha.2).mpr hcr)]
      refine go 2 (Or.inl ⟨rfl, fun v hv i hi hx2 => ?_⟩)
      rcases Nat.eq_zero_or_pos (a i) with r | r
      · exact r
      · exact absurd ⟨i, by omega, hx2, r⟩ hcr
end
