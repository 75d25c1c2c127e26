/-! the law's start -/
theorem empty0 {N : Nat} {num br cp : Nat → Int32} {x y : Int32} (hN : 144 < N) : ∃ num' br' cp', m_X6_empty N num br cp x y = some (x, y, 0, 0, num', br', cp') ∧ ∀ c, c < 144 → num' c = 0 := by
  have : Ev (m_X6_empty N num br cp x y) (fun t => t.1 = x ∧ t.2.1 = y ∧ t.2.2.1 = 0 ∧ t.2.2.2.1 = 0 ∧ ∀ c, c < 144 → t.2.2.2.2.1 c = 0) := by
    unfold m_X6_empty
    refine zl2c0 144 (fun i z => ∀ c, c < i → z c = 0) ?_ ?_ N 0 _ (by omega) (by omega) (fun c hc => by omega)
    · intro rec i z hi hP
      refine Or.inr ⟨upd z i 0, ?_, fun c hc => ?_⟩
      · unfold m_X6_empty_b12
        rw [if_neg (kk144_ge hi), vPut_nI hi (by omega)]
        simp only [lt1, nI_s]
      · rcases Nat.lt_succ_iff_lt_or_eq.mp hc with q | q
        · rw [upd_n (by omega)]; exact hP c q
        · rw [q]; exact upd_s
    · intro rec z hP
      unfold m_X6_empty_b12 m_X6_empty_j34
      rw [if_pos (kk144_le (Nat.le_refl _) (by omega))]
      obtain ⟨⟨g', s', br', cp'⟩, e1, ⟨q1, q2⟩, -⟩ := takeAll_ev (N := N) (br := br) (cp := cp) hN
      rw [e1, bd4_some]
      exact Ev.some ⟨rfl, rfl, q1, q2, hP⟩
  obtain ⟨⟨a, b, g', s', num', br', cp'⟩, e, e1, e2, e3, e4, e5⟩ := this
  replace e1 : a = x := e1
  replace e2 : b = y := e2
  replace e3 : g' = 0 := e3
  replace e4 : s' = 0 := e4
  subst e1 e2 e3 e4
  exact ⟨_, _, _, e, e5⟩
theorem INV_0 {nu br cp : Nat → Int32} {Hb : Nat → Nat} (hz : ∀ c, c < 144 → nu c = 0) : INV 0 0 7 7 0 0 nu br cp 0 0 (fun _ => 0) (fun _ => 0) (fun _ => 0) (fun _ => 0) (fun _ => 0) (fun _ => 0) (fun _ => 0) (fun _ => 0) (fun _ => 0) (fun _ => 0) (fun _ => 0) (fun _ => 0) (fun _ => 0) (fun _ => 0) 0 0 0 0 0 (fun _ => 0) (fun _ => 0) (fun _ => 0) 0 Hb (fun _ => nu) (fun _ => br) (fun _ => cp) (fun _ => 7) (fun _ => 7) (fun _ => 0) (fun _ => 0) := by
  have hB : BD 7 7 nu := BD.zero ⟨by omega, by omega⟩ ⟨by omega, by omega⟩ hz
  have hr : rk nu (7 * 7) = 0 := by
    rw [rk_z (Nat.zero_le _) (fun c _ h2 => hz c (by omega))]; rfl
  have hl : WL 7 7 nu = [] := by
    have : (WL 7 7 nu).length ≤ 2 * rk nu (7 * 7) := wL_len 7 7 nu (7 * 7)
    rw [hr] at this
    exact List.length_eq_zero_iff.mp (by omega)
  have hlen : (WL 7 7 nu).length = 0 := by rw [hl]; rfl
  refine ⟨7, 7, 0, upd (upd (fun _ => 0) 0 7) 1 7, fun _ => 0, fun _ => 0, fun _ => 0, 0, ⟨⟨rfl, rfl⟩, hB, ⟨by rw [hr]; rfl, fun c hc hp => ?_, fun c hc => ?_, ⟨by rw [hlen]; rfl, fun k hk => by omega⟩, fun c hc hp => ?_, fun k hk => by omega⟩, ⟨rfl, rfl, fun c hc => ?_⟩, ⟨by rw [hlen]; rfl, fun k hk => by omega⟩, fun k hk => by omega, fun k hk => by omega, fun i j hi => by omega, rfl, rfl⟩, ⟨0, by omega, rfl, fun i hi => by omega⟩, rfl, by omega, rfl, GI.zero, fun j hj => by omega⟩
  · rw [hz c (by omega)] at hp; exact absurd hp (by decide)
  · rw [hz c hc]; rfl
  · rw [hz c (by omega)] at hp; exact absurd hp (by decide)
  · rw [upd_n (by omega), upd_n (by omega), hz c hc]
theorem cellv_ok (L : Nat) (xs : Nat → Int32) (i : Nat) (hi : i < 40) : Ev (cellv L xs (nI i)) (fun _ => True) := by
  unfold cellv
  rw [if_neg (nI_pos (by omega))]
  by_cases c : nI L ≤ nI i
  · rw [if_pos c]; exact Ev.some trivial
  · rw [if_neg c]; exact Ev.some trivial
set_option maxHeartbeats 4000000 in
set_option maxRecDepth 100000 in
theorem whole_start {p : Program} {e : Env} {s : State} {m : MethodId} {below : List Frame} {meth : Method} {c : Code} (l : Launch) (hflags : l.flags = flags0) {b L : Nat} {xs : Nat → Int32} (hL : L ≤ 260) (C0 : lw_At p s m meth c b L xs) : W p l e room_1 s m #[Value.ref b] below meth c s.heap [] 0 0 (lw_Z below #[Value.ref b] s) (entryFrame m ([Value.ref b] : List Value).toArray 13) := by
  obtain ⟨hx, hb, hr, hml, hown, hts, hX, hbl, hlocks, hgv⟩ := id C0
  have hA : ∀ q : Nat, s.heap.size ≤ q → (fun q : Nat => s.heap.size ≤ q) q := fun _ h => h
  have hbA : ¬ (fun q : Nat => s.heap.size ≤ q) b := Nat.not_le.mpr hbl
  have htsL : ∀ w ∈ wsL_law, w.before #[Value.ref b] s = true := fun w h => hts w (wsL_law_in w h)
  obtain ⟨k0, iS0, hk0⟩ := u_known (C := RX0) (T := TX0) (N := 2) (n := 2) hts inX0 (hts (.instantiable RX0 2) (List.mem_of_getElem? (i := 188) (by decide +kernel)))
  obtain ⟨k1, iS1, hk1⟩ := u_known (C := RX1) (T := TX1) (N := 2) (n := 2) hts inX1 (hts (.instantiable RX1 2) (List.mem_of_getElem? (i := 288) (by decide +kernel)))
  obtain ⟨k2, iS2, hk2⟩ := u_known (C := RX2) (T := TX2) (N := 11) (n := 11) hts inX2 (hts (.instantiable RX2 11) (List.mem_of_getElem? (i := 109) (by decide +kernel)))
  obtain ⟨k3, iS3, hk3⟩ := u_known (C := RX3) (T := TX3) (N := 7) (n := 7) hts inX3 (hts (.instantiable RX3 7) (List.mem_of_getElem? (i := 260) (by decide +kernel)))
  obtain ⟨k4, iS4, hk4⟩ := u_known (C := RX4) (T := TX4) (N := 5) (n := 5) hts inX4 (hts (.instantiable RX4 5) (List.mem_of_getElem? (i := 201) (by decide +kernel)))
  obtain ⟨k5, iS5, hk5⟩ := u_known (C := RX5) (T := TX5) (N := 12) (n := 12) hts inX5 (hts (.instantiable RX5 12) (List.mem_of_getElem? (i := 223) (by decide +kernel)))
  obtain ⟨k6, iS6, hk6⟩ := u_known (C := RX6) (T := TX6) (N := 7) (n := 7) hts inX6 (hts (.instantiable RX6 7) (List.mem_of_getElem? (i := 52) (by decide +kernel)))
  obtain ⟨k7, iS7, hk7⟩ := u_known (C := RX7) (T := TX7) (N := 6) (n := 6) hts inX7 (hts (.instantiable RX7 6) (List.mem_of_getElem? (i := 159) (by decide +kernel)))
  obtain ⟨k8, iS8, hk8⟩ := u_known (C := RX8) (T := TX8) (N := 8) (n := 8) hts inX8 (hts (.instantiable RX8 8) (List.mem_of_getElem? (i := 305) (by decide +kernel)))
  obtain ⟨k9, iS9, hk9⟩ := u_known (C := RX9) (T := TX9) (N := 9) (n := 9) hts inX9 (hts (.instantiable RX9 9) (List.mem_of_getElem? (i := 44) (by decide +kernel)))
  obtain ⟨dC, dI, hKc⟩ : ∃ (dC : Nat → ClassId) (dI : Nat → Nat → Nat), ∀ (k : Nat) (q : vw_C), vwCl[k]? = some q → u_Kn s q.1 q.2.1 q.2.2 (dC k) (dI k) := by
    refine ⟨fun k => match k with | 0 => k0 | 1 => k1 | 2 => k2 | 3 => k3 | 4 => k4 | 5 => k5 | 6 => k6 | 7 => k7 | 8 => k8 | _ => k9, fun k => match k with | 0 => iS0 | 1 => iS1 | 2 => iS2 | 3 => iS3 | 4 => iS4 | 5 => iS5 | 6 => iS6 | 7 => iS7 | 8 => iS8 | _ => iS9, ?_⟩
    intro k q hq
    match k, hq with
    | 0, hq => cases hq; exact hk0
    | 1, hq => cases hq; exact hk1
    | 2, hq => cases hq; exact hk2
    | 3, hq => cases hq; exact hk3
    | 4, hq => cases hq; exact hk4
    | 5, hq => cases hq; exact hk5
    | 6, hq => cases hq; exact hk6
    | 7, hq => cases hq; exact hk7
    | 8, hq => cases hq; exact hk8
    | 9, hq => cases hq; exact hk9
    | k + 10, hq => simp [vwCl] at hq
  obtain ⟨cI, xI, yI, zI1, zI2, zI3⟩ := Cond.arrayClass_spec (hts (.arrayClass .int) (List.mem_of_getElem? (i := 107) (by decide +kernel)))
  obtain ⟨cJ, xJ, yJ, zJ1, zJ2, zJ3⟩ := Cond.arrayClass_spec (hts (.arrayClass .long) (List.mem_of_getElem? (i := 157) (by decide +kernel)))
  have hAO := hts (.arrayOver (.object "IslandBridges$State")) (List.mem_of_getElem? (i := 294) (by decide +kernel))
  obtain ⟨yS, cS, xS, zS1, zS2, zS3, zS4, zS5⟩ := Cond.arrayOver_spec hAO
  have hTY : ∀ (k : Nat) (q : ClassId × FieldType), (TYs cI cJ cS cI)[k]? = some q → ArrOfT s q.1 q.2 ∧ va_RA s q.1 q.2 := by
    intro k q hq
    match k, hq with
    | 0, hq => cases hq; exact ⟨fun n z => ⟨fun k h => (by cases h), xI, zI2, yI, zI3⟩, zI1⟩
    | 1, hq => cases hq; exact ⟨fun n z => ⟨fun k h => (by cases h), xJ, zJ2, yJ, zJ3⟩, zJ1⟩
    | 3, hq => cases hq; exact ⟨fun n z => ⟨fun k h => (by cases h), xI, zI2, yI, zI3⟩, zI1⟩
    | 2, hq => cases hq; exact ⟨fun n z => ⟨fun k h => (by cases h), xS, zS3, yS, zS4⟩, ⟨xS, yS, zS3, zS4, zS1, zS5⟩⟩
    | k + 4, hq => simp [TYs] at hq
  have hNi : ∀ q ∈ nsL, Cond.methodLinkNest q.1 q.2.1 q.2.2 "IslandBridges" ∈ lw_tbl := List.forall_mem_cons.mpr ⟨(List.mem_of_getElem? (i := 61) (by decide +kernel)), List.forall_mem_cons.mpr ⟨(List.mem_of_getElem? (i := 110) (by decide +kernel)), List.forall_mem_cons.mpr ⟨(List.mem_of_getElem? (i := 261) (by decide +kernel)), List.forall_mem_cons.mpr ⟨(List.mem_of_getElem? (i := 306) (by decide +kernel)), List.forall_mem_cons.mpr ⟨(List.mem_of_getElem? (i := 373) (by decide +kernel)), List.forall_mem_cons.mpr ⟨(List.mem_of_getElem? (i := 582) (by decide +kernel)), List.forall_mem_cons.mpr ⟨(List.mem_of_getElem? (i := 597) (by decide +kernel)), List.forall_mem_cons.mpr ⟨(List.mem_of_getElem? (i := 380) (by decide +kernel)), List.forall_mem_cons.mpr ⟨(List.mem_of_getElem? (i := 389) (by decide +kernel)), List.forall_mem_cons.mpr ⟨(List.mem_of_getElem? (i := 390) (by decide +kernel)), List.forall_mem_cons.mpr ⟨(List.mem_of_getElem? (i := 406) (by decide +kernel)), List.forall_mem_cons.mpr ⟨(List.mem_of_getElem? (i := 407) (by decide +kernel)), List.forall_mem_cons.mpr ⟨(List.mem_of_getElem? (i := 535) (by decide +kernel)), List.forall_mem_cons.mpr ⟨(List.mem_of_getElem? (i := 693) (by decide +kernel)), List.forall_mem_cons.mpr ⟨(List.mem_of_getElem? (i := 694) (by decide +kernel)), List.forall_mem_cons.mpr ⟨(List.mem_of_getElem? (i := 710) (by decide +kernel)), List.forall_mem_cons.mpr ⟨(List.mem_of_getElem? (i := 720) (by decide +kernel)), List.forall_mem_cons.mpr ⟨(List.mem_of_getElem? (i := 729) (by decide +kernel)), fun _ h => absurd h List.not_mem_nil⟩⟩⟩⟩⟩⟩⟩⟩⟩⟩⟩⟩⟩⟩⟩⟩⟩⟩
  have hK : kK (dC, dI) (TYs cI cJ cS cI) s := ⟨⟨hKc, hTY⟩, fun q hq => va_Nw.of rfl (hts _ (hNi q hq)), va_AO.of hAO⟩
  have hS : va_S (fun q : Nat => s.heap.size ≤ q) s.heap s.heap [] := va_S.rf
  have hP : va_P (dC, dI) vwCl [] s.heap := fun k q h => by simp at h
  have hD : va_D (fun q : Nat => s.heap.size ≤ q) [] := ⟨fun i j p q h => by simp at h, fun k q h => by simp at h⟩
  have hl := lv_entry ([.ref b]) (n := 13) (Nat.le_of_ble_eq_true rfl)
  rw [lg_entry_eq]
  generalize (lg_sl ([.ref b]) ++ List.replicate (13 - (lg_sl ([.ref b])).length) Slot.unset).toArray = ls at hl ⊢
  have hl : lv_has ls 13 [(0, .ref b)] := hl
  obtain ⟨nu, br, cp, hE, hz⟩ := empty0 (N := 100000000) (num := fun _ => 0) (br := fun _ => 0) (cp := fun _ => 0) (x := 7) (y := 7) (by omega)
  refine va_new (ci := 9) (fs := [.null, .null, .null, .null, .null, .null, .null, .null, .null]) (C := RX9) (T := TX9) (N := 9) hx hb hts inX9 tyX9 tyX9_ok hown (hts (.classLink RL 13 RX9) (List.mem_of_getElem? (i := 43) (by decide +kernel))) (hts (.instantiable RX9 9) (List.mem_of_getElem? (i := 44) (by decide +kernel))) (hts (.initialized RX9) (List.mem_of_getElem? (i := 30) (by decide +kernel))) hK.1 hP hD hS hA rfl (fun j hj => by rcases (show j = 0 ∨ j = 1 ∨ j = 2 ∨ j = 3 ∨ j = 4 ∨ j = 5 ∨ j = 6 ∨ j = 7 ∨ j = 8 by omega) with rfl | rfl | rfl | rfl | rfl | rfl | rfl | rfl | rfl <;> rfl) (Nat.le_of_ble_eq_true rfl) (Nat.le_of_ble_eq_true rfl) dL_law_0 (fun n1 H hP hD hS => ?_)
  have hP : va_P (dC, dI) vwCl [(n1, .inr (9, [.null, .null, .null, .null, .null, .null, .null, .null, .null]))] H := hP
  have hD : va_D (fun q : Nat => s.heap.size ≤ q) [(n1, .inr (9, [.null, .null, .null, .null, .null, .null, .null, .null, .null]))] := hD
  refine W.widen (k := 1) (n := 9) (Nat.le_of_ble_eq_true rfl) (Nat.le_of_ble_eq_true rfl) ?_
  refine lv_dup hx hb dL_law_3 rfl ?_
  refine cIx ⟨hx, hb, hml, hown, htsL⟩ (c_X9_init l (dC, dI) cI cJ cS cI n1 100000000 7 7 0 0 nu br cp hE) (cwI 0 htsL gL_law_X9_init rfl rfl rfl (hts (.initialized RX9) (List.mem_of_getElem? (i := 30) (by decide +kernel))) (hts (.methodLink RL 70 yX9_init) (List.mem_of_getElem? (i := 45) (by decide +kernel))) (hts (.instanceMethod yX9_init) (List.mem_of_getElem? (i := 46) (by decide +kernel))) rfl hd_X9_init ⟨(Nat.le_of_ble_eq_true rfl), (Nat.le_of_ble_eq_true rfl)⟩) hK hP hD hS hA [0] rfl rfl (fun u => [o_X u.1.1 , o_S u.1.1 7 7 0 0, ai (u.1.1 2) cI 144 nu, ai (u.1.1 3) cI 48 br, ai (u.1.1 4) cI 48 cp, o_Y u.1.1 0 0, ai (u.1.1 6) cI 24 ((fun _ => 0)), ai (u.1.1 7) cI 144 ((fun _ => 0)), ai (u.1.1 8) cI 48 ((fun _ => 0)), ai (u.1.1 9) cI 48 ((fun _ => 0)), ai (u.1.1 10) cI 48 ((fun _ => 0)), ai (u.1.1 11) cI 48 ((fun _ => 0)), ai (u.1.1 12) cI 48 ((fun _ => 0)), ai (u.1.1 13) cI 24 ((fun _ => 0)), aj (u.1.1 14) cJ 48 ((fun _ => 0)), o_U u.1.1 , ai (u.1.1 16) cI 24 ((fun _ => 0)), ai (u.1.1 17) cI 24 ((fun _ => 0)), ai (u.1.1 18) cI 24 ((fun _ => 0)), ai (u.1.1 19) cI 24 ((fun _ => 0)), o_G u.1.1 , ai (u.1.1 21) cI 24 ((fun _ => 0)), o_R u.1.1 0, o_E u.1.1 0 0 0 0 0 0, ai (u.1.1 24) cI 48 ((fun _ => 0)), ai (u.1.1 25) cI 24 ((fun _ => 0)), ai (u.1.1 26) cI 24 ((fun _ => 0)), o_K u.1.1 0 0 0 0, ai (u.1.1 28) cI 144 ((fun _ => 0)), ai (u.1.1 29) cI 144 ((fun _ => 0)), ai (u.1.1 30) cI 24 ((fun _ => 0)), o_H u.1.1 0, o_T u.1.1 0 0 0 0 0 0 0, ai (u.1.1 34) cI 160 ((fun _ => 0)), aq (u.1.1 32) cS 4 (hq u.1.2), o_h (u.1.2 0) (u.1.2 1) (u.1.2 2) (u.1.2 3) (((fun _ => 7)) 0) (((fun _ => 7)) 0) (((fun _ => 0)) 0) (((fun _ => 0)) 0), ai (u.1.2 1) cI 144 (((fun _ => nu)) 0), ai (u.1.2 2) cI 48 (((fun _ => br)) 0), ai (u.1.2 3) cI 48 (((fun _ => cp)) 0), o_h (u.1.2 4) (u.1.2 5) (u.1.2 6) (u.1.2 7) (((fun _ => 7)) 1) (((fun _ => 7)) 1) (((fun _ => 0)) 1) (((fun _ => 0)) 1), ai (u.1.2 5) cI 144 (((fun _ => nu)) 1), ai (u.1.2 6) cI 48 (((fun _ => br)) 1), ai (u.1.2 7) cI 48 (((fun _ => cp)) 1), o_h (u.1.2 8) (u.1.2 9) (u.1.2 10) (u.1.2 11) (((fun _ => 7)) 2) (((fun _ => 7)) 2) (((fun _ => 0)) 2) (((fun _ => 0)) 2), ai (u.1.2 9) cI 144 (((fun _ => nu)) 2), ai (u.1.2 10) cI 48 (((fun _ => br)) 2), ai (u.1.2 11) cI 48 (((fun _ => cp)) 2), o_h (u.1.2 12) (u.1.2 13) (u.1.2 14) (u.1.2 15) (((fun _ => 7)) 3) (((fun _ => 7)) 3) (((fun _ => 0)) 3) (((fun _ => 0)) 3), ai (u.1.2 13) cI 144 (((fun _ => nu)) 3), ai (u.1.2 14) cI 48 (((fun _ => br)) 3), ai (u.1.2 15) cI 48 (((fun _ => cp)) 3)]) [(true, 0), (true, 1), (true, 2), (true, 3), (true, 4), (true, 5), (true, 6), (true, 7), (true, 8), (true, 9), (true, 10), (true, 11), (true, 12), (true, 13), (true, 14), (true, 15), (true, 16), (true, 17), (true, 18), (true, 19), (true, 20), (true, 21), (true, 22), (true, 23), (true, 24), (true, 25), (true, 26), (true, 27), (true, 28), (true, 29), (true, 30), (true, 31), (true, 32), (true, 33), (true, 34), (true, 35), (true, 36), (true, 37), (true, 38), (true, 39), (true, 40), (true, 41), (true, 42), (true, 43), (true, 44), (true, 45), (true, 46), (true, 47), (true, 48), (true, 49), (true, 50)] (fun _ => rfl) rfl rfl hl.1 (Nat.le_of_ble_eq_true rfl) ⟨(Nat.le_of_ble_eq_true rfl), (Nat.le_of_ble_eq_true rfl)⟩ rfl dL_law_4 (fun u H locs hP hD hS => ?_)
  obtain ⟨⟨a, Hb⟩, ha⟩ := u
  have ha : a 0 = n1 := ha
  subst ha
  have hP : va_P (dC, dI) vwCl [o_X a , o_S a 7 7 0 0, ai (a 2) cI 144 nu, ai (a 3) cI 48 br, ai (a 4) cI 48 cp, o_Y a 0 0, ai (a 6) cI 24 ((fun _ => 0)), ai (a 7) cI 144 ((fun _ => 0)), ai (a 8) cI 48 ((fun _ => 0)), ai (a 9) cI 48 ((fun _ => 0)), ai (a 10) cI 48 ((fun _ => 0)), ai (a 11) cI 48 ((fun _ => 0)), ai (a 12) cI 48 ((fun _ => 0)), ai (a 13) cI 24 ((fun _ => 0)), aj (a 14) cJ 48 ((fun _ => 0)), o_U a , ai (a 16) cI 24 ((fun _ => 0)), ai (a 17) cI 24 ((fun _ => 0)), ai (a 18) cI 24 ((fun _ => 0)), ai (a 19) cI 24 ((fun _ => 0)), o_G a , ai (a 21) cI 24 ((fun _ => 0)), o_R a 0, o_E a 0 0 0 0 0 0, ai (a 24) cI 48 ((fun _ => 0)), ai (a 25) cI 24 ((fun _ => 0)), ai (a 26) cI 24 ((fun _ => 0)), o_K a 0 0 0 0, ai (a 28) cI 144 ((fun _ => 0)), ai (a 29) cI 144 ((fun _ => 0)), ai (a 30) cI 24 ((fun _ => 0)), o_H a 0, o_T a 0 0 0 0 0 0 0, ai (a 34) cI 160 ((fun _ => 0)), aq (a 32) cS 4 (hq Hb), o_h (Hb 0) (Hb 1) (Hb 2) (Hb 3) (((fun _ => 7)) 0) (((fun _ => 7)) 0) (((fun _ => 0)) 0) (((fun _ => 0)) 0), ai (Hb 1) cI 144 (((fun _ => nu)) 0), ai (Hb 2) cI 48 (((fun _ => br)) 0), ai (Hb 3) cI 48 (((fun _ => cp)) 0), o_h (Hb 4) (Hb 5) (Hb 6) (Hb 7) (((fun _ => 7)) 1) (((fun _ => 7)) 1) (((fun _ => 0)) 1) (((fun _ => 0)) 1), ai (Hb 5) cI 144 (((fun _ => nu)) 1), ai (Hb 6) cI 48 (((fun _ => br)) 1), ai (Hb 7) cI 48 (((fun _ => cp)) 1), o_h (Hb 8) (Hb 9) (Hb 10) (Hb 11) (((fun _ => 7)) 2) (((fun _ => 7)) 2) (((fun _ => 0)) 2) (((fun _ => 0)) 2), ai (Hb 9) cI 144 (((fun _ => nu)) 2), ai (Hb 10) cI 48 (((fun _ => br)) 2), ai (Hb 11) cI 48 (((fun _ => cp)) 2), o_h (Hb 12) (Hb 13) (Hb 14) (Hb 15) (((fun _ => 7)) 3) (((fun _ => 7)) 3) (((fun _ => 0)) 3) (((fun _ => 0)) 3), ai (Hb 13) cI 144 (((fun _ => nu)) 3), ai (Hb 14) cI 48 (((fun _ => br)) 3), ai (Hb 15) cI 48 (((fun _ => cp)) 3)] H := hP
  have hD : va_D (fun q : Nat => s.heap.size ≤ q) [o_X a , o_S a 7 7 0 0, ai (a 2) cI 144 nu, ai (a 3) cI 48 br, ai (a 4) cI 48 cp, o_Y a 0 0, ai (a 6) cI 24 ((fun _ => 0)), ai (a 7) cI 144 ((fun _ => 0)), ai (a 8) cI 48 ((fun _ => 0)), ai (a 9) cI 48 ((fun _ => 0)), ai (a 10) cI 48 ((fun _ => 0)), ai (a 11) cI 48 ((fun _ => 0)), ai (a 12) cI 48 ((fun _ => 0)), ai (a 13) cI 24 ((fun _ => 0)), aj (a 14) cJ 48 ((fun _ => 0)), o_U a , ai (a 16) cI 24 ((fun _ => 0)), ai (a 17) cI 24 ((fun _ => 0)), ai (a 18) cI 24 ((fun _ => 0)), ai (a 19) cI 24 ((fun _ => 0)), o_G a , ai (a 21) cI 24 ((fun _ => 0)), o_R a 0, o_E a 0 0 0 0 0 0, ai (a 24) cI 48 ((fun _ => 0)), ai (a 25) cI 24 ((fun _ => 0)), ai (a 26) cI 24 ((fun _ => 0)), o_K a 0 0 0 0, ai (a 28) cI 144 ((fun _ => 0)), ai (a 29) cI 144 ((fun _ => 0)), ai (a 30) cI 24 ((fun _ => 0)), o_H a 0, o_T a 0 0 0 0 0 0 0, ai (a 34) cI 160 ((fun _ => 0)), aq (a 32) cS 4 (hq Hb), o_h (Hb 0) (Hb 1) (Hb 2) (Hb 3) (((fun _ => 7)) 0) (((fun _ => 7)) 0) (((fun _ => 0)) 0) (((fun _ => 0)) 0), ai (Hb 1) cI 144 (((fun _ => nu)) 0), ai (Hb 2) cI 48 (((fun _ => br)) 0), ai (Hb 3) cI 48 (((fun _ => cp)) 0), o_h (Hb 4) (Hb 5) (Hb 6) (Hb 7) (((fun _ => 7)) 1) (((fun _ => 7)) 1) (((fun _ => 0)) 1) (((fun _ => 0)) 1), ai (Hb 5) cI 144 (((fun _ => nu)) 1), ai (Hb 6) cI 48 (((fun _ => br)) 1), ai (Hb 7) cI 48 (((fun _ => cp)) 1), o_h (Hb 8) (Hb 9) (Hb 10) (Hb 11) (((fun _ => 7)) 2) (((fun _ => 7)) 2) (((fun _ => 0)) 2) (((fun _ => 0)) 2), ai (Hb 9) cI 144 (((fun _ => nu)) 2), ai (Hb 10) cI 48 (((fun _ => br)) 2), ai (Hb 11) cI 48 (((fun _ => cp)) 2), o_h (Hb 12) (Hb 13) (Hb 14) (Hb 15) (((fun _ => 7)) 3) (((fun _ => 7)) 3) (((fun _ => 0)) 3) (((fun _ => 0)) 3), ai (Hb 13) cI 144 (((fun _ => nu)) 3), ai (Hb 14) cI 48 (((fun _ => br)) 3), ai (Hb 15) cI 48 (((fun _ => cp)) 3)] := hD
  refine W.widen (k := 51) (n := 2469) (Nat.le_of_ble_eq_true rfl) (Nat.le_of_ble_eq_true rfl) ?_
  refine lv_astore_n (lv' := [(1, .ref (a 0)), (0, .ref b)]) hx hb dL_law_7 rfl hl (by decide) rfl (fun ls hl => ?_)
  have hP : va_P (dC, dI) vwCl [o_X a , o_S a 7 7 0 0, ai (a 2) cI 144 nu, ai (a 3) cI 48 br, ai (a 4) cI 48 cp, o_Y a 0 0, ai (a 6) cI 24 ((fun _ => 0)), ai (a 7) cI 144 ((fun _ => 0)), ai (a 8) cI 48 ((fun _ => 0)), ai (a 9) cI 48 ((fun _ => 0)), ai (a 10) cI 48 ((fun _ => 0)), ai (a 11) cI 48 ((fun _ => 0)), ai (a 12) cI 48 ((fun _ => 0)), ai (a 13) cI 24 ((fun _ => 0)), aj (a 14) cJ 48 ((fun _ => 0)), o_U a , ai (a 16) cI 24 ((fun _ => 0)), ai (a 17) cI 24 ((fun _ => 0)), ai (a 18) cI 24 ((fun _ => 0)), ai (a 19) cI 24 ((fun _ => 0)), o_G a , ai (a 21) cI 24 ((fun _ => 0)), o_R a 0, o_K a 0 0 0 0, ai (a 28) cI 144 ((fun _ => 0)), ai (a 29) cI 144 ((fun _ => 0)), ai (a 30) cI 24 ((fun _ => 0)), o_H a 0, o_T a 0 0 0 0 0 0 0, aq (a 32) cS 4 (hq Hb), o_h (Hb 0) (Hb 1) (Hb 2) (Hb 3) (((fun _ => 7)) 0) (((fun _ => 7)) 0) (((fun _ => 0)) 0) (((fun _ => 0)) 0), ai (Hb 1) cI 144 (((fun _ => nu)) 0), ai (Hb 2) cI 48 (((fun _ => br)) 0), ai (Hb 3) cI 48 (((fun _ => cp)) 0), o_h (Hb 4) (Hb 5) (Hb 6) (Hb 7) (((fun _ => 7)) 1) (((fun _ => 7)) 1) (((fun _ => 0)) 1) (((fun _ => 0)) 1), ai (Hb 5) cI 144 (((fun _ => nu)) 1), ai (Hb 6) cI 48 (((fun _ => br)) 1), ai (Hb 7) cI 48 (((fun _ => cp)) 1), o_h (Hb 8) (Hb 9) (Hb 10) (Hb 11) (((fun _ => 7)) 2) (((fun _ => 7)) 2) (((fun _ => 0)) 2) (((fun _ => 0)) 2), ai (Hb 9) cI 144 (((fun _ => nu)) 2), ai (Hb 10) cI 48 (((fun _ => br)) 2), ai (Hb 11) cI 48 (((fun _ => cp)) 2), o_h (Hb 12) (Hb 13) (Hb 14) (Hb 15) (((fun _ => 7)) 3) (((fun _ => 7)) 3) (((fun _ => 0)) 3) (((fun _ => 0)) 3), ai (Hb 13) cI 144 (((fun _ => nu)) 3), ai (Hb 14) cI 48 (((fun _ => br)) 3), ai (Hb 15) cI 48 (((fun _ => cp)) 3)] H := sub_of hP [0, 1, 2, 3, 4, 5, 6, 7, 8, 9, 10, 11, 12, 13, 14, 15, 16, 17, 18, 19, 20, 21, 22, 27, 28, 29, 30, 31, 32, 34, 35, 36, 37, 38, 39, 40, 41, 42, 43, 44, 45, 46, 47, 48, 49, 50] rfl
  have hD : va_D (fun q : Nat => s.heap.size ≤ q) [o_X a , o_S a 7 7 0 0, ai (a 2) cI 144 nu, ai (a 3) cI 48 br, ai (a 4) cI 48 cp, o_Y a 0 0, ai (a 6) cI 24 ((fun _ => 0)), ai (a 7) cI 144 ((fun _ => 0)), ai (a 8) cI 48 ((fun _ => 0)), ai (a 9) cI 48 ((fun _ => 0)), ai (a 10) cI 48 ((fun _ => 0)), ai (a 11) cI 48 ((fun _ => 0)), ai (a 12) cI 48 ((fun _ => 0)), ai (a 13) cI 24 ((fun _ => 0)), aj (a 14) cJ 48 ((fun _ => 0)), o_U a , ai (a 16) cI 24 ((fun _ => 0)), ai (a 17) cI 24 ((fun _ => 0)), ai (a 18) cI 24 ((fun _ => 0)), ai (a 19) cI 24 ((fun _ => 0)), o_G a , ai (a 21) cI 24 ((fun _ => 0)), o_R a 0, o_K a 0 0 0 0, ai (a 28) cI 144 ((fun _ => 0)), ai (a 29) cI 144 ((fun _ => 0)), ai (a 30) cI 24 ((fun _ => 0)), o_H a 0, o_T a 0 0 0 0 0 0 0, aq (a 32) cS 4 (hq Hb), o_h (Hb 0) (Hb 1) (Hb 2) (Hb 3) (((fun _ => 7)) 0) (((fun _ => 7)) 0) (((fun _ => 0)) 0) (((fun _ => 0)) 0), ai (Hb 1) cI 144 (((fun _ => nu)) 0), ai (Hb 2) cI 48 (((fun _ => br)) 0), ai (Hb 3) cI 48 (((fun _ => cp)) 0), o_h (Hb 4) (Hb 5) (Hb 6) (Hb 7) (((fun _ => 7)) 1) (((fun _ => 7)) 1) (((fun _ => 0)) 1) (((fun _ => 0)) 1), ai (Hb 5) cI 144 (((fun _ => nu)) 1), ai (Hb 6) cI 48 (((fun _ => br)) 1), ai (Hb 7) cI 48 (((fun _ => cp)) 1), o_h (Hb 8) (Hb 9) (Hb 10) (Hb 11) (((fun _ => 7)) 2) (((fun _ => 7)) 2) (((fun _ => 0)) 2) (((fun _ => 0)) 2), ai (Hb 9) cI 144 (((fun _ => nu)) 2), ai (Hb 10) cI 48 (((fun _ => br)) 2), ai (Hb 11) cI 48 (((fun _ => cp)) 2), o_h (Hb 12) (Hb 13) (Hb 14) (Hb 15) (((fun _ => 7)) 3) (((fun _ => 7)) 3) (((fun _ => 0)) 3) (((fun _ => 0)) 3), ai (Hb 13) cI 144 (((fun _ => nu)) 3), ai (Hb 14) cI 48 (((fun _ => br)) 3), ai (Hb 15) cI 48 (((fun _ => cp)) 3)] := hD.sub [0, 1, 2, 3, 4, 5, 6, 7, 8, 9, 10, 11, 12, 13, 14, 15, 16, 17, 18, 19, 20, 21, 22, 27, 28, 29, 30, 31, 32, 34, 35, 36, 37, 38, 39, 40, 41, 42, 43, 44, 45, 46, 47, 48, 49, 50] rfl rfl
  have ht : m_L_law 100000000 7 7 0 0 nu br cp 0 0 (fun _ => 0) (fun _ => 0) (fun _ => 0) (fun _ => 0) (fun _ => 0) (fun _ => 0) (fun _ => 0) (fun _ => 0) (fun _ => 0) (fun _ => 0) (fun _ => 0) (fun _ => 0) (fun _ => 0) (fun _ => 0) 0 0 0 0 0 (fun _ => 0) (fun _ => 0) (fun _ => 0) 0 0 Hb (fun _ => nu) (fun _ => br) (fun _ => cp) (fun _ => 7) (fun _ => 7) (fun _ => 0) (fun _ => 0) (cellv L xs) = some 1 := law_true (by omega) (cellv_ok L xs) (INV_0 hz)
  exact law_body (A := fun q : Nat => s.heap.size ≤ q) rfl C0 hK hL (fun _ _ h => h) ht H locs hP hD hS ls (lv_sub hl [1, 0] rfl)
