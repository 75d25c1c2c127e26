/-! Layout.addWay, readWays -/
def iS (f : Nat → Int32) : Nat → Int32
  | 0 => 0
  | n + 1 => iS f n + f n
theorem iS_congr {f g : Nat → Int32} : ∀ {n : Nat}, (∀ k, k < n → f k = g k) → iS f n = iS g n := by
  intro n
  induction n with
  | zero => intro _; rfl
  | succ n ih =>
    intro h
    show iS f n + f n = iS g n + g n
    rw [ih (fun k hk => h k (by omega)), h n (by omega)]
def icnt (l : List Wy) (c : Nat) : Int32 := iS (fun k => if (gw l k).1 = c ∨ (gw l k).2.1 = c then 1 else 0) l.length
theorem icnt_app (l : List Wy) (x : Wy) (c : Nat) : icnt (l ++ [x]) c = icnt l c + (if x.1 = c ∨ x.2.1 = c then 1 else 0) := by
  unfold icnt
  rw [List.length_append]
  show iS _ l.length + (if (gw (l ++ [x]) l.length).1 = c ∨ (gw (l ++ [x]) l.length).2.1 = c then 1 else 0) = _
  rw [gw_e, iS_congr (g := fun k => if (gw l k).1 = c ∨ (gw l k).2.1 = c then 1 else 0) (fun k hk => by rw [gw_l hk])]
/-- the rows of the ways hold a list; each island's count of ways -/
def wrep (num : Nat → Int32) (l : List Wy) (Yw : Int32) (fi se fC sC st : Nat → Int32) : Prop := Yw = nI l.length ∧ ∀ k, k < l.length → fi k = nI (rk num (gw l k).1) ∧ se k = nI (rk num (gw l k).2.1) ∧ fC k = nI (gw l k).1 ∧ sC k = nI (gw l k).2.1 ∧ st k = nI (gw l k).2.2
def wcnt (num : Nat → Int32) (M : Nat) (l : List Wy) (wO : Nat → Int32) : Prop := ∀ c, c < M → 0 < num c → wO (rk num c) = icnt l c
theorem addWay_some {num cO fi se fC sC st wO : Nat → Int32} {M c d s : Nat} {l : List Wy} {Yw : Int32} (hM : M ≤ 144) (hk : rk num M ≤ 24) (hcO : ∀ c, c < M → 0 < num c → cO (rk num c) = nI c) (hl : l.length < 48) (hc : c < M) (hpc : 0 < num c) (hd : d < M) (hpd : 0 < num d) (hcd : c ≠ d) (h : wrep num l Yw fi se fC sC st) (hw : wcnt num M l wO) :
    ∃ Yw' fi' se' fC' sC' st' wO', m_X2_addWay Yw cO fi se fC sC st wO (nI (rk num c)) (nI (rk num d)) (nI s) = (Yw', fi', se', fC', sC', st', wO') ∧ wrep num (l ++ [(c, d, s)]) Yw' fi' se' fC' sC' st' ∧ wcnt num M (l ++ [(c, d, s)]) wO' := by
  obtain ⟨rfl, h⟩ := h
  have hrc : rk num c < 24 := Nat.lt_of_lt_of_le (rk_lt hpc hc) hk
  have hrd : rk num d < 24 := Nat.lt_of_lt_of_le (rk_lt hpd hd) hk
  have hrcd : rk num c ≠ rk num d := fun e => hcd (rk_inj hpc hpd e)
  unfold m_X2_addWay
  rw [if_neg (nI_nm1 (by omega)), if_pos (kk48_lt hl)]
  simp only [lt1, m_X2_cellOf]
  simp only [vAt_nI hrc (by omega), vAt_nI hrd (by omega), vPut_nI hl (by omega), vAdd_nI hrc (by omega), vAdd_nI hrd (by omega), hcO c hc hpc, hcO d hd hpd, nI_s]
  refine ⟨_, _, _, _, _, _, _, rfl, ⟨by rw [List.length_append]; rfl, fun k hk2 => ?_⟩, fun e he hpe => ?_⟩
  · rw [List.length_append] at hk2
    have hk2 : k < l.length + 1 := hk2
    rcases Nat.lt_or_ge k l.length with q | q
    · rw [gw_l q, upd_n (by omega), upd_n (by omega), upd_n (by omega), upd_n (by omega), upd_n (by omega)]
      exact h k q
    · have : k = l.length := by omega
      subst this
      rw [gw_e, upd_s, upd_s, upd_s, upd_s, upd_s]
      exact ⟨rfl, rfl, rfl, rfl, rfl⟩
  · rw [icnt_app]
    by_cases e1 : c = e
    · subst e1
      rw [if_pos (Or.inl rfl), upd_n hrcd, upd_s, hw c hc hpc]
    · by_cases e2 : d = e
      · subst e2
        rw [if_pos (Or.inr rfl), upd_s, upd_n (fun z => hrcd z.symm), hw d hd hpd]
      · rw [if_neg (by rintro (z | z) <;> contradiction), upd_n (fun z => e2 (rk_inj hpe hpd z).symm), upd_n (fun z => e1 (rk_inj hpe hpc z).symm), hw e he hpe, Int32.add_zero]
theorem addWay_o {num cO fi se fC sC st wO : Nat → Int32} {M c s : Nat} {o : Option Nat} {l : List Wy} {Yw : Int32} (hM : M ≤ 144) (hk : rk num M ≤ 24) (hcO : ∀ c, c < M → 0 < num c → cO (rk num c) = nI c) (hl : l.length < 48) (hc : c < M) (hpc : 0 < num c) (ho : ∀ d, o = some d → d < M ∧ 0 < num d ∧ c ≠ d) (h : wrep num l Yw fi se fC sC st) (hw : wcnt num M l wO) :
    ∃ Yw' fi' se' fC' sC' st' wO', m_X2_addWay Yw cO fi se fC sC st wO (nI (rk num c)) (oR num o) (nI s) = (Yw', fi', se', fC', sC', st', wO') ∧ wrep num (l ++ oL o c s) Yw' fi' se' fC' sC' st' ∧ wcnt num M (l ++ oL o c s) wO' := by
  cases o with
  | none =>
    refine ⟨Yw, fi, se, fC, sC, st, wO, ?_, by rw [show l ++ oL none c s = l from List.append_nil l]; exact h, by rw [show l ++ oL none c s = l from List.append_nil l]; exact hw⟩
    unfold m_X2_addWay
    exact if_pos rfl
  | some d =>
    obtain ⟨h1, h2, h3⟩ := ho d rfl
    exact addWay_some hM hk hcO hl hc hpc h1 h2 h3 h hw
theorem wL_rk {W H : Nat} {num : Nat → Int32} {a b : Nat} (hab : a ≤ b) (h : rk num a = rk num b) : wL W H num a = wL W H num b := by
  induction b with
  | zero => have : a = 0 := by omega
            subst this; rfl
  | succ b ih =>
    rcases Nat.lt_or_ge a (b + 1) with q | q
    · have h1 := rk_mono num (show a ≤ b by omega)
      by_cases hp : 0 < num b
      · rw [rk_s1 hp] at h; omega
      · rw [rk_s0 hp] at h
        show _ = wL W H num b ++ wAt W H num b
        rw [ih (by omega) h]
        unfold wAt
        rw [if_neg hp, List.append_nil]
    · have : a = b + 1 := by omega
      subst this; rfl
theorem readWays_ev {W H N : Nat} {num cO iA fi se fC sC st wO : Nat → Int32} (hW : 3 ≤ W ∧ W ≤ 12) (hH : 3 ≤ H ∧ H ≤ 12) (hk : rk num (W * H) ≤ 24) (hcO : ∀ c, c < W * H → 0 < num c → cO (rk num c) = nI c) (hiA : ∀ c, c < 144 → iA c = if 0 < num c then nI (rk num c + 1) else 0) (hwO : ∀ j, j < rk num (W * H) → wO j = 0) (hN : 144 < N) :
    Ev (m_X2_readWays N (nI (rk num (W * H))) cO iA fi se fC sC st wO (nI W) (nI (W * H))) (fun t => wrep num (WL W H num) t.1 t.2.1 t.2.2.1 t.2.2.2.1 t.2.2.2.2.1 t.2.2.2.2.2.1 ∧ wcnt num (W * H) (WL W H num) t.2.2.2.2.2.2) := by
  have hM : W * H ≤ 144 := Nat.mul_le_mul hW.2 hH.2
  unfold m_X2_readWays
  rw [if_neg (nI_ne0 (by omega) (by omega))]
  refine zl8c0 (rk num (W * H)) (fun i y2 y3 y4 y5 y6 y7 y8 => ∃ c, c ≤ W * H ∧ rk num c = i ∧ wrep num (wL W H num c) y2 y3 y4 y5 y6 y7 ∧ wcnt num (W * H) (wL W H num c) y8) ?_ ?_ N 0 _ _ _ _ _ _ _ (by omega) (by omega) ⟨0, by omega, rfl, ⟨rfl, fun k h => absurd h (Nat.not_lt_zero _)⟩, fun c h1 h2 => hwO _ (rk_lt h2 h1)⟩
  · rintro rec i y2 y3 y4 y5 y6 y7 y8 hi ⟨c0, hc0, hr0, h1, h2⟩
    refine Or.inr ?_
    obtain ⟨c, hc, hp, hr⟩ := rk_ex hi
    have hcc : c0 ≤ c := by
      rcases Nat.lt_or_ge c c0 with q | q
      · have := rk_lt hp q; omega
      · exact q
    rw [wL_rk hcc (by omega)] at h1 h2
    subst hr
    have hW0 : 0 < W := by omega
    have hmod := Nat.mod_lt c hW0
    have hdm := Nat.div_add_mod c W
    have hdiv : c / W < H := Nat.div_lt_of_lt_mul hc
    unfold m_X2_readWays_b12
    rw [if_neg (nI_ge hi (by omega))]
    simp only [lt1, m_X2_cellOf]
    rw [vAt_nI (show rk num c < 24 by omega) (by omega), hcO c hc hp, rmd_nI (by omega) hW0 (by omega), pk_sub (Nat.mod_le c W), nI_add]
    have hle : c % W ≤ c := Nat.mod_le c W
    have n1 := nextIsland_ev (N := N) (c := c) (s := 1) (e := c - c % W + W) (n := W - 1 - c % W) hiA (by omega) (by omega) (by omega) (by
        have := (row_in (W := W) (H := H) hW0 hc (Nat.le_refl (W - 1 - c % W))).2.1
        omega) (fun j g1 g2 => by omega) (fun _ => by omega) (by omega)
    have n2 := nextIsland_ev (N := N) (c := c) (s := W) (e := W * H) (n := H - 1 - c / W) hiA (by omega) (Nat.le_trans (Nat.sub_le _ _) (by omega)) hW.2 hM (fun j g1 g2 => (col_in (W := W) (H := H) hW0 hc g2).2.1) (fun _ => by
        have e1 : H - 1 - c / W + 1 = H - c / W := by omega
        rw [e1, Nat.sub_mul, Nat.mul_comm H W, Nat.mul_comm (c / W) W]
        have := Nat.mul_le_mul_left W (Nat.le_of_lt hdiv)
        omega) (by omega)
    rw [show (1 : Int32) = nI 1 from rfl, n1, bd1_some]
    have hsz := wL_len W H num (c + 1)
    have hsz2 : rk num (c + 1) ≤ rk num (W * H) := rk_mono num hc
    have hsz3 : (wL W H num (c + 1)).length = (wL W H num c).length + ((oL (nx num 1 (W - 1 - c % W) c) c 1).length + (oL (nx num W (H - 1 - c / W) c) c W).length) := by
      show (wL W H num c ++ wAt W H num c).length = _
      unfold wAt
      rw [if_pos hp, List.length_append, List.length_append]
    have hb := wL_len W H num c
    rw [rk_s1 hp] at hsz hsz2
    have hx1 : ∀ d, nx num 1 (W - 1 - c % W) c = some d → d < W * H ∧ 0 < num d ∧ c ≠ d := by
      intro d hd
      obtain ⟨k, g1, g2, g3, g4, -⟩ := nx_some hd
      rw [Nat.mul_one] at g3
      have := (row_in (W := W) (H := H) hW0 hc g2).2.1
      exact ⟨by omega, g4, by omega⟩
    have hx2 : ∀ d, nx num W (H - 1 - c / W) c = some d → d < W * H ∧ 0 < num d ∧ c ≠ d := by
      intro d hd
      obtain ⟨k, g1, g2, g3, g4, -⟩ := nx_some hd
      have := (col_in (W := W) (H := H) hW0 hc g2).2.1
      have hkW : 0 < k * W := Nat.mul_pos (by omega) hW0
      exact ⟨by omega, g4, by omega⟩
    obtain ⟨a1, a2, a3, a4, a5, a6, a7, e1, g1, g2⟩ := addWay_o (s := 1) (o := nx num 1 (W - 1 - c % W) c) hM hk hcO (by omega) hc hp hx1 h1 h2
    rw [e1]
    simp only [lt7]
    rw [n2, bd1_some]
    have hl2 : (wL W H num c ++ oL (nx num 1 (W - 1 - c % W) c) c 1).length < 48 := by
      rw [List.length_append]
      have := oL_len (nx num 1 (W - 1 - c % W) c) c 1
      omega
    obtain ⟨b1, b2, b3, b4, b5, b6, b7, e2, g3, g4⟩ := addWay_o (s := W) (o := nx num W (H - 1 - c / W) c) hM hk hcO hl2 hc hp hx2 g1 g2
    rw [e2]
    simp only []
    rw [nI_add]
    have e3 : wL W H num (c + 1) = wL W H num c ++ oL (nx num 1 (W - 1 - c % W) c) c 1 ++ oL (nx num W (H - 1 - c / W) c) c W := by
      show wL W H num c ++ wAt W H num c = _
      unfold wAt
      rw [if_pos hp, List.append_assoc]
    exact ⟨_, _, _, _, _, _, _, rfl, c + 1, hc, rk_s1 hp, by rw [e3]; exact g3, by rw [e3]; exact g4⟩
  · rintro rec y2 y3 y4 y5 y6 y7 y8 ⟨c0, hc0, hr0, h1, h2⟩
    unfold m_X2_readWays_b12
    rw [if_pos (nI_le (Nat.le_refl _) (by omega))]
    rw [wL_rk hc0 hr0] at h1 h2
    exact Ev.some ⟨h1, h2⟩
