/-! the class's search -/
def ER (W H : Nat) (num : Nat → Int32) (k : Nat) (a : Nat → Nat) (bri lac opn : Nat → Int32) (bu : Int64) : Prop := (∀ i, i < (WL W H num).length → bri i = nI (a i)) ∧ bu = lN (msk (fun i => decide (0 < a i)) (WL W H num).length) ∧ (∀ c, c < W * H → 0 < num c → lac (rk num c) = num c - nI (sN (WL W H num) a c)) ∧ (∀ c, c < W * H → 0 < num c → opn (rk num c) = nI (2 * ic (WL W H num) c k))
theorem sN_up {l : List Wy} {a : Nat → Nat} {k v c : Nat} (hk : k < l.length) : sN l (up a k v) c = sN l (up a k 0) c + (if (gw l k).1 = c ∨ (gw l k).2.1 = c then v else 0) := by
  unfold sN
  have h := nS_set (f := fun j => if (gw l j).1 = c ∨ (gw l j).2.1 = c then up a k 0 j else 0) (p := k) (v := if (gw l k).1 = c ∨ (gw l k).2.1 = c then v else 0) hk
  have e1 : nS (fun j => if (gw l j).1 = c ∨ (gw l j).2.1 = c then up a k v j else 0) l.length = nS (fun j => if j = k then (if (gw l k).1 = c ∨ (gw l k).2.1 = c then v else 0) else (if (gw l j).1 = c ∨ (gw l j).2.1 = c then up a k 0 j else 0)) l.length := nS_congr fun j _ => by
    show (if _ then _ else _) = (if _ then _ else _)
    by_cases e : j = k
    · subst e
      rw [if_pos rfl, up_s]
    · rw [if_neg e, up_n e, up_n e]
  have e2 : (if (gw l k).1 = c ∨ (gw l k).2.1 = c then up a k 0 k else 0) = 0 := by
    rw [up_s]; split <;> rfl
  rw [e1]
  rw [e2] at h
  omega
theorem i3 (n b u v : Int32) : n - (b + u) + (u - v) = n - (b + v) := by grind
theorem ends_add {W H k : Nat} {num fi se fC sC st f : Nat → Int32} {Yw x : Int32} (hB : BD W H num) (h4 : wrep num (WL W H num) Yw fi se fC sC st) (hk : k < (WL W H num).length) : ∀ c, c < W * H → 0 < num c → (vAdd 24 (vAdd 24 f (nI (rk num (gw (WL W H num) k).1)) x) (nI (rk num (gw (WL W H num) k).2.1)) x) (rk num c) = f (rk num c) + (if (gw (WL W H num) k).1 = c ∨ (gw (WL W H num) k).2.1 = c then x else 0) := by
  intro c hc hp
  have hwk := hB.wls.2.2.2 k hk
  have hra := hB.r (Nat.lt_trans hwk.1 hwk.2.1) hwk.2.2.1
  have hrb := hB.r hwk.2.1 hwk.2.2.2.1
  rw [vAdd_nI hra (by omega), vAdd_nI hrb (by omega)]
  exact vAdd2 hwk.2.2.1 hwk.2.2.2.1 hp (Nat.ne_of_lt hwk.1)
theorem addOpen_nI {W H k : Nat} {num fi se fC sC st f : Nat → Int32} {Yw x : Int32} (hB : BD W H num) (h4 : wrep num (WL W H num) Yw fi se fC sC st) (hk : k < (WL W H num).length) : ∀ c, c < W * H → 0 < num c → (m_X5_addOpen fi se f (nI k) x) (rk num c) = f (rk num c) + (if (gw (WL W H num) k).1 = c ∨ (gw (WL W H num) k).2.1 = c then x else 0) := by
  have hn := hB.wls.2.2.1.1
  unfold m_X5_addOpen m_X2_first m_X2_second
  rw [vAt_nI (by omega) (by omega), vAt_nI (by omega) (by omega), (h4.2 k hk).1, (h4.2 k hk).2.1]
  simp only [lt1]
  exact ends_add hB h4 hk
theorem clr_bit {p : Nat → Bool} {n k : Nat} (hn : n ≤ 48) (hk : k < n) : lN (msk p n) &&& (lN (2 ^ k) ^^^ -1) = lN (msk (fun i => p i && decide (i ≠ k)) n) := by
  apply Int64.toBitVec_inj.mp
  show BitVec.ofNat 64 (msk p n) &&& (BitVec.ofNat 64 (2 ^ k) ^^^ -1#64) = BitVec.ofNat 64 (msk (fun i => p i && decide (i ≠ k)) n)
  apply BitVec.eq_of_getLsbD_eq
  intro i hi
  rw [BitVec.getLsbD_and, BitVec.getLsbD_xor, BitVec.getLsbD_ofNat, BitVec.getLsbD_ofNat, BitVec.getLsbD_ofNat, BitVec.neg_one_eq_allOnes, BitVec.getLsbD_allOnes, msk_bit, msk_bit, Nat.testBit_two_pow, decide_eq_true hi]
  by_cases e : k = i
  · subst e
    simp
  · rw [decide_eq_false e, decide_eq_true (show i ≠ k from fun z => e z.symm)]
    simp
theorem set_bit {p : Nat → Bool} {n k : Nat} (hk : k < n) : lN (msk p n) ||| lN (2 ^ k) = lN (msk (fun i => p i || decide (i = k)) n) := by
  rw [lN_or]
  congr 1
  apply Nat.eq_of_testBit_eq
  intro i
  rw [Nat.testBit_or, msk_bit, msk_bit, Nat.testBit_two_pow]
  by_cases e : k = i
  · subst e
    rw [decide_eq_true hk]; simp
  · rw [decide_eq_false e, decide_eq_false (show ¬ i = k from fun z => e z.symm)]
    simp
/-- a way gets another number -/
theorem setBridges_ev {W H k u v : Nat} {num fi se fC sC st bri lac opn : Nat → Int32} {Yw : Int32} {bu : Int64} {a : Nat → Nat} (hB : BD W H num) (h4 : wrep num (WL W H num) Yw fi se fC sC st) (hk : k < (WL W H num).length) (hv : v ≤ 2) (hE : ER W H num (k + 1) (up a k u) bri lac opn bu) :
    ∃ bu' bri' lac', m_X5_setBridges fi se bu bri lac (nI k) (nI v) = (bu', bri', lac') ∧ ER W H num (k + 1) (up a k v) bri' lac' opn bu' := by
  have hn := hB.wls.2.2.1.1
  obtain ⟨h1, rfl, h3, h5⟩ := hE
  unfold m_X5_setBridges m_X5_setBridges_j80 m_X2_first m_X2_second
  rw [vAt_nI (by omega) (by omega), vAt_nI (by omega) (by omega), vAt_nI (by omega) (by omega), (h4.2 k hk).1, (h4.2 k hk).2.1, h1 k hk, up_s, shl_nI k (by omega), vPut_nI (by omega) (by omega)]
  simp only [lt1]
  have hb : ∀ i, i < (WL W H num).length → upd bri k (nI v) i = nI (up a k v i) := fun i hi => by
    by_cases e : i = k
    · subst e; rw [upd_s, up_s]
    · rw [upd_n e, up_n e, h1 i hi, up_n e]
  have hl : ∀ c, c < W * H → 0 < num c → (vAdd 24 (vAdd 24 lac (nI (rk num (gw (WL W H num) k).1)) (nI u - nI v)) (nI (rk num (gw (WL W H num) k).2.1)) (nI u - nI v)) (rk num c) = num c - nI (sN (WL W H num) (up a k v) c) := fun c hc hp => by
    rw [ends_add hB h4 hk c hc hp, h3 c hc hp, sN_up hk (v := u), sN_up hk (v := v)]
    by_cases q : (gw (WL W H num) k).1 = c ∨ (gw (WL W H num) k).2.1 = c
    · rw [if_pos q, if_pos q, if_pos q, ← nI_add, ← nI_add, i3]
    · rw [if_neg q, if_neg q, if_neg q, Int32.add_zero]
  by_cases c0 : v = 0
  · rw [if_pos (show nI v ≤ 0 by rw [c0]; decide), clr_bit hn hk]
    refine ⟨_, _, _, rfl, hb, ?_, hl, h5⟩
    refine congrArg lN (msk_congr fun j hj => ?_)
    by_cases e : j = k
    · subst e; rw [up_s, up_s, c0]; simp
    · rw [up_n e, up_n e]; simp [e]
  · rw [if_neg (show ¬ nI v ≤ 0 from fun z => by have := (kk0_Ile (by omega)).mp z; omega), set_bit hk]
    refine ⟨_, _, _, rfl, hb, ?_, hl, h5⟩
    refine congrArg lN (msk_congr fun j hj => ?_)
    by_cases e : j = k
    · subst e; rw [up_s, up_s, decide_eq_true (show 0 < v by omega)]; simp
    · rw [up_n e, up_n e]; simp [e]
theorem canFit_ev {W H k c : Nat} {num bri lac opn : Nat → Int32} {bu : Int64} {a : Nat → Nat} (hB : BD W H num) (hc : c < W * H) (hp : 0 < num c) (ha : ∀ i, a i ≤ 2) (hE : ER W H num (k + 1) a bri lac opn bu) : zo (m_X5_canFit lac opn (nI (rk num c))) (fit num (WL W H num) a c k) := by
  have hn := hB.wls.2.2.1.1
  have hr := hB.r hc hp
  obtain ⟨m, hm, hm2⟩ := nn_nI hB hc
  have hv : vN num c = m := by unfold vN; rw [hm, nI_clamp hm2]
  have b1 : sN (WL W H num) a c ≤ 2 * (WL W H num).length := sN_le (fun i _ => ha i)
  have b2 := ic_le (l := WL W H num) (c := c) (k := k + 1)
  obtain ⟨h1, h2, h3, h5⟩ := hE
  unfold m_X5_canFit fit
  rw [vAt_nI (by omega) (by omega), vAt_nI (by omega) (by omega), h3 c hc hp, h5 c hc hp, hv, hm]
  simp only [lt1]
  by_cases q1 : sN (WL W H num) a c ≤ m
  · rw [pk_sub q1, if_neg (nI_pos (by omega))]
    by_cases q2 : 2 * ic (WL W H num) c (k + 1) < m - sN (WL W H num) a c
    · rw [if_pos (nI_lt q2 (by omega))]
      exact Or.inr ⟨rfl, fun z => by omega⟩
    · rw [if_neg (nI_nlt (by omega) (by omega))]
      exact Or.inl ⟨rfl, q1, by omega⟩
  · rw [if_pos (nI_sub_neg (by omega) (by omega))]
    exact Or.inr ⟨rfl, fun z => q1 z.1⟩
/-! what is noted of a leaf -/
abbrev ST3 : Type := Int32 × Int32 × Int32
def ntI (x : Int32) (st : ST3) : ST3 := (st.1 + 1, if st.1 = 0 then x else st.2.1, if x = (if st.1 = 0 then x else st.2.1) then 0 else 1)
def ovI (most : Int32) (st : ST3) : Prop := most ≤ st.1 ∨ st.2.2 ≠ 0
noncomputable def Fo (most : Int32) (xw : (Nat → Nat) → Int32) (st : ST3) (l : List (Nat → Nat)) : ST3 := l.foldl (fun st b => @ite ST3 (ovI most st) (Classical.propDecidable _) st (ntI (xw b) st)) st
theorem Fo_ov {most : Int32} {xw : (Nat → Nat) → Int32} {st : ST3} {l : List (Nat → Nat)} (h : ovI most st) : Fo most xw st l = st := by
  induction l with
  | nil => rfl
  | cons b t ih =>
    unfold Fo at ih ⊢
    rw [List.foldl_cons, if_pos h]
    exact ih
theorem Fo_app {most : Int32} {xw : (Nat → Nat) → Int32} {st : ST3} {l r : List (Nat → Nat)} : Fo most xw st (l ++ r) = Fo most xw (Fo most xw st l) r := by
  unfold Fo
  rw [List.foldl_append]
theorem Fo_one {most : Int32} {xw : (Nat → Nat) → Int32} {st : ST3} {b : Nat → Nat} (h : ¬ ovI most st) : Fo most xw st [b] = ntI (xw b) st := by
  unfold Fo
  rw [List.foldl_cons, if_neg h, List.foldl_nil]
theorem Fo_nil {most : Int32} {xw : (Nat → Nat) → Int32} {st : ST3} : Fo most xw st [] = st := rfl
theorem Fo_cons {most : Int32} {xw : (Nat → Nat) → Int32} {st : ST3} {b : Nat → Nat} {t : List (Nat → Nat)} (h : ¬ ovI most st) : Fo most xw st (b :: t) = Fo most xw (ntI (xw b) st) t := by
  unfold Fo
  rw [List.foldl_cons, if_neg h]
theorem isOver_ev {most fo co di : Int32} : zo (m_X5_isOver most fo di) (ovI most (fo, co, di)) := by
  unfold m_X5_isOver m_X5_isOver_j18 ovI
  by_cases c1 : most ≤ fo
  · rw [if_pos c1]; exact Or.inl ⟨rfl, Or.inl c1⟩
  · rw [if_neg c1]
    by_cases c2 : di = 0
    · rw [if_pos c2]; exact Or.inr ⟨rfl, fun z => by rcases z with z | z; exact c1 z; exact z c2⟩
    · rw [if_neg c2]; exact Or.inl ⟨rfl, Or.inr c2⟩
theorem grp_congr {W H : Nat} {num b1 b2 : Nat → Int32} {z : Int32} (h : ∀ i, i < (WL W H num).length → b1 i = b2 i) : grp W H num b1 z ↔ grp W H num b2 z := by
  constructor
  · rintro ⟨g, h1, h2⟩
    exact ⟨g, h1.congr (fun k hk => by unfold onB; rw [h k hk]), h2⟩
  · rintro ⟨g, h1, h2⟩
    exact ⟨g, h1.congr (fun k hk => by unfold onB; rw [h k hk]), h2⟩
theorem note_ev {W H N : Nat} {num fi se fC sC st ld bri : Nat → Int32} {Yi Yw wI fo co di most : Int32} {a : Nat → Nat} {xw : (Nat → Nat) → Int32} (hB : BD W H num) (hi : Yi = nI (rk num (W * H))) (h4 : wrep num (WL W H num) Yw fi se fC sC st) (hb : ∀ i, i < (WL W H num).length → bri i = nI (a i)) (hx : vAt 48 bri wI = xw a) (ho : ¬ ovI most (fo, co, di)) (hN : 144 < N) : ∃ g, m_X5_noteIfJoined N Yi Yw fi se ld wI fo co di bri = some (g, (Fo most xw (fo, co, di) (@ite (List (Nat → Nat)) (grp W H num (toI a) 1) (Classical.propDecidable _) [a] [])).1, (Fo most xw (fo, co, di) (@ite (List (Nat → Nat)) (grp W H num (toI a) 1) (Classical.propDecidable _) [a] [])).2.1, (Fo most xw (fo, co, di) (@ite (List (Nat → Nat)) (grp W H num (toI a) 1) (Classical.propDecidable _) [a] [])).2.2) := by
  subst hi
  obtain ⟨z1, f1, gC, g1, g2⟩ := groups_ev (N := N) (br := bri) (ld := ld) hB h4 hN
  have hg : grp W H num bri (gB num gC (W * H)) := ⟨gC, g2, rfl⟩
  have hg2 : ∀ z, grp W H num (toI a) z ↔ grp W H num bri z := fun z => grp_congr (fun i hi => (hb i hi).symm)
  unfold m_X5_noteIfJoined m_X0_total
  rw [f1, bd1_some, leadersAhead_c g1 g2.2.1 hB.2.2.2.2 hN, bd1_some, bd1_some, hx]
  by_cases c1 : gB num gC (W * H) = 1
  · rw [if_pos (show iS (fun i => if gC i = i then 1 else 0) (rk num (W * H)) = 1 from c1), if_pos ((hg2 1).mpr (c1 ▸ hg)), Fo_one ho]
    unfold m_X5_noteIfJoined_j47 m_X5_noteIfJoined_j61 ntI
    simp only [lt1]
    by_cases c2 : fo = 0
    · rw [if_pos c2, if_pos c2, if_pos trivial]
      refine ⟨z1, ?_⟩
      rw [if_pos (show xw a = xw a from rfl)]
      rfl
    · rw [if_neg c2, if_neg c2]
      by_cases c3 : xw a = co
      · rw [if_pos c3, if_pos c3]
        exact ⟨z1, rfl⟩
      · rw [if_neg c3, if_neg c3]
        exact ⟨z1, rfl⟩
  · rw [if_neg (show ¬ iS (fun i => if gC i = i then 1 else 0) (rk num (W * H)) = 1 from c1), if_neg (fun z => c1 (grp_uniq hg ((hg2 1).mp z))), Fo_nil]
    exact ⟨z1, rfl⟩
