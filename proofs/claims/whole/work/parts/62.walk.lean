/-! the walk of the reference through the tree -/
def sp (m : Nat) : Nat := match m with
  | 0 => 1
  | m + 1 => 1 + (3 * sp m + 1)
theorem sp_13 : sp 13 ≤ 4000000 := by decide
theorem sp_mono {m : Nat} (h : m ≤ 13) : sp m ≤ 4000000 := by
  have : ∀ j, sp m ≤ sp (m + j) := by
    intro j
    induction j with
    | zero => exact Nat.le_refl _
    | succ j ih =>
      show sp m ≤ 1 + (3 * sp (m + j) + 1)
      omega
  have := this (13 - m)
  rw [show m + (13 - m) = 13 by omega] at this
  exact Nat.le_trans this sp_13
section
variable {W H N most : Nat} {num s one other : Nat → Int32} {Mw wI xI : Int32} {P : (Nat → Nat) → Nat → Prop} {Q : (Nat → Nat) → Prop} {ok : Nat → Nat → Prop}
/-- what the walk from a node comes to: it stops with all that were asked for, or goes on a level up -/
def WK (N : Nat) (Mw : Int32) (s one other : Nat → Int32) (wI xI : Int32) (most cnt len k B : Nat) (tr : Nat → Int32) (F : Nat) (o : Option (Int32 × (Nat → Int32) × (Nat → Int32))) : Prop :=
  (most ≤ cnt + len ∧ ∃ g' tr', o = some (nI most, g', tr')) ∨ (cnt + len < most ∧ ∃ F' g' tr', F ≤ F' + B ∧ o = zl4 (m_X10_solves_b22 N Mw s one other (nI most) wI xI) F' (nI (cnt + len)) (nI k - 1) g' tr' ∧ ∀ i, i < k → tr' i = tr i)
theorem walk (n : Nat) (hMw : Mw = nI n) (hn : n ≤ 14) (hm1 : 1 ≤ most) (hm2 : most ≤ 1000)
    (hok : ∀ k v, k < n → v ≤ 2 → ((nI k = wI → nI v = xI) ↔ ok k v))
    (hP : ∀ k a tr, k < n → lowA (k + 1) a → (∀ i, i ≤ k → tr i = nI (a i)) → Ev (m_X10_could N Mw s one other tr (nI k)) (fun z => zo z (P a k)))
    (hQ : ∀ a tr g, lowA n a → (∀ i, i < n → tr i = nI (a i)) → Ev (m_X10_isWhole N Mw s one other g tr) (fun t => zo t.1 (Q a))) :
    ∀ (m k j v cnt F : Nat) (a : Nat → Nat) (g tr : Nat → Int32), k + m + 1 = n → v + j = 3 → cnt < most → j * sp m + 1 < F → lowA k a → (∀ i, i < k → tr i = nI (a i)) → tr k = nI v - 1 →
      WK N Mw s one other wI xI most cnt (Lr P Q ok m k a v).length k (j * sp m + 1) tr F (zl4 (m_X10_solves_b22 N Mw s one other (nI most) wI xI) F (nI cnt) (nI k) g tr) := by
  intro m
  induction m with
  | zero =>
    intro k j
    induction j with
    | zero =>
      intro v cnt F a g tr hk hv hc hF ha ht htk
      obtain ⟨F, rfl⟩ : ∃ f, F = f + 1 := ⟨F - 1, by omega⟩
      have hv3 : v = 3 := by omega
      subst hv3
      show WK _ _ _ _ _ _ _ _ _ _ _ _ _ _ (m_X10_solves_b22 N Mw s one other (nI most) wI xI (zl4 (m_X10_solves_b22 N Mw s one other (nI most) wI xI) F) (nI cnt) (nI k) g tr)
      rw [m_X10_solves_b22, if_neg (nI_pos (by omega)), if_neg (nI_ge hc (by omega)), rd_nI (by omega) (by omega), wr_nI (by omega) (by omega), rd_nI (by omega) (by omega), upd_s, htk, Int32.sub_add_cancel, if_neg (show ¬ nI 3 ≤ 2 by decide), lt1_e, ← Int32.sub_eq_add_neg]
      refine Or.inr ⟨by rw [Lr_3]; exact hc, F, g, _, by omega, by rw [Lr_3]; rfl, fun i hi => upd_n (by omega)⟩
    | succ j ihj =>
      intro v cnt F a g tr hk hv hc hF ha ht htk
      obtain ⟨F, rfl⟩ : ∃ f, F = f + 1 := ⟨F - 1, by omega⟩
      have hsp : (j + 1) * sp 0 = j * sp 0 + sp 0 := Nat.succ_mul _ _
      have h1 : sp 0 = 1 := rfl
      have hlow := ha.up (show v ≤ 2 by omega)
      have hlow2 : lowA n (up a k v) := by rw [← hk]; exact hlow
      have ht2 : ∀ i, i ≤ k → upd tr k (nI v) i = nI (up a k v i) := fun i hi => by
        by_cases e : i = k
        · subst e; rw [upd_s, up_s]
        · rw [upd_n e, up_n e]; exact ht i (by omega)
      have hnext : ∀ cnt2 g2, cnt2 < most → WK N Mw s one other wI xI most cnt2 (Lr P Q ok 0 k a (v + 1)).length k (j * sp 0 + 1) (upd tr k (nI v)) F (zl4 (m_X10_solves_b22 N Mw s one other (nI most) wI xI) F (nI cnt2) (nI k) g2 (upd tr k (nI v))) := fun cnt2 g2 hc2 => ihj (v + 1) cnt2 F a g2 _ hk (by omega) hc2 (by omega) ha (fun i hi => by rw [upd_n (by omega)]; exact ht i hi) (by rw [upd_s, show (1 : Int32) = nI 1 from rfl, pk_sub (by omega), Nat.add_sub_cancel])
      have lift : ∀ cnt2 len o, cnt + (Lr P Q ok 0 k a v).length = cnt2 + len → WK N Mw s one other wI xI most cnt2 len k (j * sp 0 + 1) (upd tr k (nI v)) F o → WK N Mw s one other wI xI most cnt (Lr P Q ok 0 k a v).length k ((j + 1) * sp 0 + 1) tr (F + 1) o := fun cnt2 len o hl hw => by
        rcases hw with ⟨w1, w2⟩ | ⟨w1, F', g', tr', w2, w3, w4⟩
        · exact Or.inl ⟨by omega, w2⟩
        · refine Or.inr ⟨by omega, F', g', tr', by omega, by rw [hl]; exact w3, fun i hi => ?_⟩
          rw [w4 i hi, upd_n (by omega)]
      have hlen := congrArg List.length (Lr_s (P := P) (Q := Q) (ok := ok) (m := 0) (k := k) (a := a) (show v < 3 by omega))
      rw [List.length_append] at hlen
      show WK _ _ _ _ _ _ _ _ _ _ _ _ _ _ (m_X10_solves_b22 N Mw s one other (nI most) wI xI (zl4 (m_X10_solves_b22 N Mw s one other (nI most) wI xI) F) (nI cnt) (nI k) g tr)
      rw [m_X10_solves_b22, if_neg (nI_pos (by omega)), if_neg (nI_ge hc (by omega)), rd_nI (by omega) (by omega), wr_nI (by omega) (by omega), rd_nI (by omega) (by omega), upd_s, htk, Int32.sub_add_cancel, if_pos (show nI v ≤ 2 from nI_le (b := 2) (by omega) (by omega)), rd_nI (by omega) (by omega), upd_s]
      have skip : ¬ (ok k v ∧ P (up a k v) k) → WK N Mw s one other wI xI most cnt (Lr P Q ok 0 k a v).length k ((j + 1) * sp 0 + 1) tr (F + 1) (zl4 (m_X10_solves_b22 N Mw s one other (nI most) wI xI) F (nI cnt) (nI k) g (upd tr k (nI v))) := fun hno => by
        rw [Lc_f hno, List.length_nil, Nat.zero_add] at hlen
        exact lift cnt _ _ (by rw [hlen]) (hnext cnt g hc)
      have go : ok k v → WK N Mw s one other wI xI most cnt (Lr P Q ok 0 k a v).length k ((j + 1) * sp 0 + 1) tr (F + 1) (m_X10_solves_j78 N Mw s one other (zl4 (m_X10_solves_b22 N Mw s one other (nI most) wI xI) F) (nI cnt) (nI k) g (upd tr k (nI v))) := fun hokk => by
        unfold m_X10_solves_j78
        obtain ⟨z, e, q⟩ := hP k (up a k v) (upd tr k (nI v)) (by omega) hlow ht2
        rw [e, bd1_some]
        rcases q with ⟨rfl, q⟩ | ⟨rfl, q⟩
        · rw [if_neg (show ¬ (1 : Int32) = 0 by decide), if_pos (show nI k = Mw - 1 by rw [hMw, show (1 : Int32) = nI 1 from rfl, pk_sub (by omega)]; congr 1; omega)]
          obtain ⟨⟨z2, g2⟩, e2, q2⟩ := hQ (up a k v) (upd tr k (nI v)) g hlow2 (fun i hi => ht2 i (by omega))
          rw [e2, bd2_some]
          unfold m_X10_solves_j112
          rw [lt1_e, lt1_e]
          rw [Lc_t hokk q] at hlen
          rcases q2 with ⟨q3, q2⟩ | ⟨q3, q2⟩
          · replace q3 : z2 = 1 := q3
            subst q3
            rw [if_neg (show ¬ (1 : Int32) = 0 by decide), nI_s]
            rw [Lv_0t q2, List.length_singleton] at hlen
            by_cases hm : cnt + 1 < most
            · exact lift (cnt + 1) _ _ (by omega) (hnext (cnt + 1) g2 hm)
            · have hme : most = cnt + 1 := by omega
              obtain ⟨F, rfl⟩ : ∃ f, F = f + 1 := ⟨F - 1, by omega⟩
              refine Or.inl ⟨by omega, g2, upd tr k (nI v), ?_⟩
              show m_X10_solves_b22 N Mw s one other (nI most) wI xI (zl4 (m_X10_solves_b22 N Mw s one other (nI most) wI xI) F) (nI (cnt + 1)) (nI k) g2 (upd tr k (nI v)) = _
              rw [m_X10_solves_b22, if_neg (nI_pos (by omega)), if_pos (nI_le (by omega) (by omega)), hme]
              rfl
          · replace q3 : z2 = 0 := q3
            subst q3
            rw [if_pos rfl, Int32.add_zero]
            rw [Lv_0f q2, List.length_nil, Nat.zero_add] at hlen
            exact lift cnt _ _ (by omega) (hnext cnt g2 hc)
        · rw [if_pos rfl]
          exact skip (fun w => q w.2)
      by_cases c1 : nI k = wI
      · rw [if_pos c1]
        by_cases c2 : nI v = xI
        · rw [if_pos c2]
          exact go ((hok k v (by omega) (by omega)).mp (fun _ => c2))
        · rw [if_neg c2]
          exact skip (fun w => c2 ((hok k v (by omega) (by omega)).mpr w.1 c1))
      · rw [if_neg c1]
        exact go ((hok k v (by omega) (by omega)).mp (fun w => absurd w c1))
  | succ m ih =>
    intro k j
    induction j with
    | zero =>
      intro v cnt F a g tr hk hv hc hF ha ht htk
      obtain ⟨F, rfl⟩ : ∃ f, F = f + 1 := ⟨F - 1, by omega⟩
      have hv3 : v = 3 := by omega
      subst hv3
      show WK _ _ _ _ _ _ _ _ _ _ _ _ _ _ (m_X10_solves_b22 N Mw s one other (nI most) wI xI (zl4 (m_X10_solves_b22 N Mw s one other (nI most) wI xI) F) (nI cnt) (nI k) g tr)
      rw [m_X10_solves_b22, if_neg (nI_pos (by omega)), if_neg (nI_ge hc (by omega)), rd_nI (by omega) (by omega), wr_nI (by omega) (by omega), rd_nI (by omega) (by omega), upd_s, htk, Int32.sub_add_cancel, if_neg (show ¬ nI 3 ≤ 2 by decide), lt1_e, ← Int32.sub_eq_add_neg]
      refine Or.inr ⟨by rw [Lr_3]; exact hc, F, g, _, by omega, by rw [Lr_3]; rfl, fun i hi => upd_n (by omega)⟩
    | succ j ihj =>
      intro v cnt F a g tr hk hv hc hF ha ht htk
      obtain ⟨F, rfl⟩ : ∃ f, F = f + 1 := ⟨F - 1, by omega⟩
      have hsp : (j + 1) * sp (m + 1) = j * sp (m + 1) + sp (m + 1) := Nat.succ_mul _ _
      have h1 : sp (m + 1) = 1 + (3 * sp m + 1) := rfl
      have hlow := ha.up (show v ≤ 2 by omega)
      have ht2 : ∀ i, i ≤ k → upd tr k (nI v) i = nI (up a k v i) := fun i hi => by
        by_cases e : i = k
        · subst e; rw [upd_s, up_s]
        · rw [upd_n e, up_n e]; exact ht i (by omega)
      have hnext : ∀ F2 cnt2 g2 tr2, F ≤ F2 + (3 * sp m + 1) → (∀ i, i < k + 1 → tr2 i = upd tr k (nI v) i) → cnt2 < most → WK N Mw s one other wI xI most cnt2 (Lr P Q ok (m + 1) k a (v + 1)).length k (j * sp (m + 1) + 1) tr2 F2 (zl4 (m_X10_solves_b22 N Mw s one other (nI most) wI xI) F2 (nI cnt2) (nI k) g2 tr2) := fun F2 cnt2 g2 tr2 hF2 ht3 hc2 => ihj (v + 1) cnt2 F2 a g2 tr2 hk (by omega) hc2 (by omega) ha (fun i hi => by rw [ht3 i (by omega), upd_n (by omega)]; exact ht i hi) (by rw [ht3 k (by omega), upd_s, show (1 : Int32) = nI 1 from rfl, pk_sub (by omega), Nat.add_sub_cancel])
      have lift : ∀ F2 cnt2 len tr2 o, F ≤ F2 + (3 * sp m + 1) → (∀ i, i < k + 1 → tr2 i = upd tr k (nI v) i) → cnt + (Lr P Q ok (m + 1) k a v).length = cnt2 + len → WK N Mw s one other wI xI most cnt2 len k (j * sp (m + 1) + 1) tr2 F2 o → WK N Mw s one other wI xI most cnt (Lr P Q ok (m + 1) k a v).length k ((j + 1) * sp (m + 1) + 1) tr (F + 1) o := fun F2 cnt2 len tr2 o hF2 ht3 hl hw => by
        rcases hw with ⟨w1, w2⟩ | ⟨w1, F', g', tr', w2, w3, w4⟩
        · exact Or.inl ⟨by omega, w2⟩
        · refine Or.inr ⟨by omega, F', g', tr', by omega, by rw [hl]; exact w3, fun i hi => ?_⟩
          rw [w4 i hi, ht3 i (by omega), upd_n (by omega)]
      have hlen := congrArg List.length (Lr_s (P := P) (Q := Q) (ok := ok) (m := m + 1) (k := k) (a := a) (show v < 3 by omega))
      rw [List.length_append] at hlen
      show WK _ _ _ _ _ _ _ _ _ _ _ _ _ _ (m_X10_solves_b22 N Mw s one other (nI most) wI xI (zl4 (m_X10_solves_b22 N Mw s one other (nI most) wI xI) F) (nI cnt) (nI k) g tr)
      rw [m_X10_solves_b22, if_neg (nI_pos (by omega)), if_neg (nI_ge hc (by omega)), rd_nI (by omega) (by omega), wr_nI (by omega) (by omega), rd_nI (by omega) (by omega), upd_s, htk, Int32.sub_add_cancel, if_pos (show nI v ≤ 2 from nI_le (b := 2) (by omega) (by omega)), rd_nI (by omega) (by omega), upd_s]
      have skip : ¬ (ok k v ∧ P (up a k v) k) → WK N Mw s one other wI xI most cnt (Lr P Q ok (m + 1) k a v).length k ((j + 1) * sp (m + 1) + 1) tr (F + 1) (zl4 (m_X10_solves_b22 N Mw s one other (nI most) wI xI) F (nI cnt) (nI k) g (upd tr k (nI v))) := fun hno => by
        rw [Lc_f hno, List.length_nil, Nat.zero_add] at hlen
        exact lift F cnt _ _ _ (by omega) (fun _ _ => rfl) (by rw [hlen]) (hnext F cnt g _ (by omega) (fun _ _ => rfl) hc)
      have go : ok k v → WK N Mw s one other wI xI most cnt (Lr P Q ok (m + 1) k a v).length k ((j + 1) * sp (m + 1) + 1) tr (F + 1) (m_X10_solves_j78 N Mw s one other (zl4 (m_X10_solves_b22 N Mw s one other (nI most) wI xI) F) (nI cnt) (nI k) g (upd tr k (nI v))) := fun hokk => by
        unfold m_X10_solves_j78
        obtain ⟨z, e, q⟩ := hP k (up a k v) (upd tr k (nI v)) (by omega) hlow ht2
        rw [e, bd1_some]
        rcases q with ⟨rfl, q⟩ | ⟨rfl, q⟩
        · rw [if_neg (show ¬ (1 : Int32) = 0 by decide), if_neg (show ¬ nI k = Mw - 1 by rw [hMw, show (1 : Int32) = nI 1 from rfl, pk_sub (by omega)]; exact nI_ne (by omega) (by omega) (by omega)), nI_s, lt1_e, wr_nI (by omega) (by omega)]
          rw [Lc_t hokk q] at hlen
          have hsub := ih (k + 1) 3 0 cnt F (up a k v) g (upd (upd tr k (nI v)) (k + 1) (-1)) (by omega) rfl hc (by omega) hlow (fun i hi => by rw [upd_n (by omega)]; exact ht2 i (by omega)) (by rw [upd_s]; rfl)
          rw [← Lv_s] at hsub
          rcases hsub with ⟨w1, w2⟩ | ⟨w1, F', g', tr', w2, w3, w4⟩
          · exact Or.inl ⟨by omega, w2⟩
          · rw [w3, show nI (k + 1) - 1 = nI k by rw [show (1 : Int32) = nI 1 from rfl, pk_sub (by omega), Nat.add_sub_cancel]]
            have ht4 : ∀ i, i < k + 1 → tr' i = upd tr k (nI v) i := fun i hi => by rw [w4 i hi, upd_n (by omega)]
            exact lift F' _ _ tr' _ w2 ht4 (by omega) (hnext F' _ g' tr' w2 ht4 w1)
        · rw [if_pos rfl]
          exact skip (fun w => q w.2)
      by_cases c1 : nI k = wI
      · rw [if_pos c1]
        by_cases c2 : nI v = xI
        · rw [if_pos c2]
          exact go ((hok k v (by omega) (by omega)).mp (fun _ => c2))
        · rw [if_neg c2]
          exact skip (fun w => c2 ((hok k v (by omega) (by omega)).mpr w.1 c1))
      · rw [if_neg c1]
        exact go ((hok k v (by omega) (by omega)).mp (fun w => absurd w c1))
end
