/-! contracts world to world; the mirror's small words -/
/-- the array classes -/
abbrev TYs (cI cJ cS _cB : ClassId) : List (ClassId × FieldType) := [(cI, .int), (cJ, .long), (cS, .object "IslandBridges$State"), (cI, .int)]
/-- the links to nest mates' private methods, which no list of words bears -/
def nsL : List (String × Nat × MethodName) := [(RX6, 32, yX9_put), (RX9, 18, yX2_init), (RX9, 61, yX3_init), (RX9, 75, yX8_init), (RX2, 62, yX9_valueAt), (RX2, 82, yX9_put), (RX2, 99, yX9_add), (RX7, 32, yX9_put), (RX7, 62, yX9_valueAt), (RX7, 67, yX9_add), (RX0, 19, yX9_put), (RX0, 29, yX9_valueAt), (RX4, 72, yX9_valueAt), (RX4, 68, yX9_put), (RX4, 83, yX9_add), (RX3, 34, yX9_put), (RX3, 52, yX9_valueAt), (RX3, 61, yX9_add)]
def kK (D : va_G) (ty : List (ClassId × FieldType)) (U : State) : Prop := va_K D vwCl ty U ∧ (∀ q ∈ nsL, va_Nw (.methodLinkNest q.1 q.2.1 q.2.2 "IslandBridges") U) ∧ va_AO "IslandBridges$State" U
theorem kK.warm {D : va_G} {ty : List (ClassId × FieldType)} {s U : State} (hW : s.WarmedH U.vm) (h : kK D ty s) : kK D ty U := ⟨va_K.moved hW.alike h.1, fun q hq => va_Nw.warmM hW (h.2.1 q hq), va_AO.moved hW.alike h.2.2⟩
theorem kK.n {D : va_G} {ty : List (ClassId × FieldType)} {s : State} (h : kK D ty s) (i : Nat) {q : String × Nat × MethodName} (hi : nsL[i]? = some q) : va_Nw (.methodLinkNest q.1 q.2.1 q.2.2 "IslandBridges") s := h.2.1 q (List.mem_of_getElem? hi)
def eQ {S : Type} (D : va_G) (v : Option Value) (W1 : S → va_W) (A : Nat → Prop) : Array Value → State → Outcome → State → Prop := fun _ st oc t => (∃ u : S, oc = .returned v ∧ va_P D vwCl (W1 u) t.heap ∧ va_D A (W1 u)) ∧ va_F A st t
def pQ (D : va_G) (ty : List (ClassId × FieldType)) (W0 : va_W) (sz : Nat) : State → Prop := fun U => U.heap.size = sz ∧ va_P D vwCl W0 U.heap ∧ kK D ty U ∧ va_D (fun _ => True) W0
/-- method y, from the world W0, answers v and leaves a world W1 u; mc cells of ms slots are new at most -/
def mG {S : Type} (l : Launch) (D : va_G) (ty : List (ClassId × FieldType)) (y : MethodName) (wl : List Cond) (rm : Room) (As : List Value) (W0 : va_W) (W1 : S → va_W) (v : Option Value) (mc ms : Nat) : Prop := ∀ sz : Nat, Met l y wl rm (va_Pc As (pQ D ty W0 sz)) (eQ D v W1 (va_A W0 sz)) mc ms (va_A W0 sz)
abbrev mU (l : Launch) (D : va_G) (ty : List (ClassId × FieldType)) (y : MethodName) (wl : List Cond) (rm : Room) (As : List Value) (W0 W1 : va_W) (v : Option Value) : Prop := mG (S := Unit) l D ty y wl rm As W0 (fun _ => W1) v 0 0
theorem pQ_blind (D : va_G) (ty : List (ClassId × FieldType)) (W0 : va_W) (sz : Nat) (As : List Value) : FrameBlind (va_Pc As (pQ D ty W0 sz)) := fun a U g mk q => by
  obtain ⟨q0, q1, q2, qP, qD⟩ := q
  exact ⟨q0, q1, q2, ⟨va_K.moved (u := U) (U := U.calling g mk a) (Vm.Alike.refl U.vm) qP.1, fun z hz => va_Nw.same (u := U) (U := U.calling g mk a) rfl rfl (qP.2.1 z hz), va_AO.moved (u := U) (U := U.calling g mk a) (Vm.Alike.refl U.vm) qP.2.2⟩, qD⟩
theorem mG_of {S : Type} {l : Launch} {D : va_G} {ty : List (ClassId × FieldType)} {y : MethodName} {wl wl' : List Cond} {rm : Room} {As : List Value} {W0 : va_W} {W1 : S → va_W} {v : Option Value} {mc ms : Nat} {cc : ByteArray} {maxL : Nat} {ret : Option FieldType} {own : String}
    (hy : plainName y.cls = true) (hw : wl = Cond.code y cc maxL ret :: wl') (ho : y.cls = own) (hn : (lg_sl As).length ≤ maxL)
    (body : ∀ (p : Program) (e : Env) (s : State) (m : MethodId) (args : Array Value) (below : List Frame) (meth : Method) (c : Code) (A : Nat → Prop), p.tables.exec = Jvm.exec → c.code = cc → meth.sig.returnType = ret → c.maxLocals = maxL → meth.locks = false → meth.name = y.name → (∀ w ∈ wl, w.before args s = true) → s.vm.findClass own = some m.cls → kK D ty s → va_P D vwCl W0 s.heap → va_D A W0 → (∀ q : Nat, s.heap.size ≤ q → A q) → va_S A s.heap s.heap [] → ∀ ls : Array Slot, lv_has ls maxL (lv_args 0 As) → W p l e rm s m args below meth c s.heap [] 0 0 (MQ below (eQ D v W1 A) args s mc ms A) (F0 m 0 ls [])) : mG l D ty y wl rm As W0 W1 v mc ms := by
  intro sz
  refine Met.ofW (cc := cc) (maxL := maxL) (ret := ret) hy hw ?_
  intro p e s m args below meth c s₁ B hml hv
  obtain ⟨rfl, hsz, hP, hK, hD0⟩ := hv
  subst hsz
  rw [lg_entry_eq]
  exact body p e s m _ below meth c (va_A W0 s.heap.size) B.exec B.bytes B.returns hml B.notSynchronized (name_of_methodNamed B.named B.method).1 (atoms_spec (ws := wl) B.pre) (by rw [← ho]; exact findClass_of_methodNamed B.named) hK hP hD0.self (fun q h => Or.inr h) va_S.rf _ (lv_entry As hn)
section RET
variable {p : Program} {l : Launch} {e : Env} {R : Room} {s : State} {m : MethodId} {args : Array Value} {below : List Frame} {meth : Method} {c : Code} {H : Heap} {locs : List Loc} {cells slots : Nat} {S : Type} {D : va_G} {ty : List (ClassId × FieldType)} {W1 : S → va_W} {A : Nat → Prop} {cc : ByteArray} {pc : Nat} {ls : Array Slot} {mc ms : Nat}
theorem rI {r : Int32} (u : S) (hx : p.tables.exec = Jvm.exec) (hb : c.code = cc) (hr : meth.sig.returnType = some .int) (hlocks : meth.locks = false) (hP : va_P D vwCl (W1 u) H) (hD : va_D A (W1 u)) (hS : va_S A s.heap H locs) (hdg : decode cc pc = .ok (.ireturn, 1)) : W p l e R s m args below meth c H locs cells slots (MQ below (eQ D (some (.int r)) W1 A) args s cells slots A) (F0 m pc ls [.int r]) :=
  W.iret (v := r) hx hb hr (fun t ht hW => ⟨⟨u, rfl, by rw [ht]; exact hP, hD⟩, hS.F ht⟩) hS.2.2 hdg
theorem rZ {r : Int32} (u : S) (hx : p.tables.exec = Jvm.exec) (hb : c.code = cc) (hr : meth.sig.returnType = some .boolean) (hlocks : meth.locks = false) (hz : r = 0 ∨ r = 1) (hP : va_P D vwCl (W1 u) H) (hD : va_D A (W1 u)) (hS : va_S A s.heap H locs) (hdg : decode cc pc = .ok (.ireturn, 1)) : W p l e R s m args below meth c H locs cells slots (MQ below (eQ D (some (.int r)) W1 A) args s cells slots A) (F0 m pc ls [.int r]) :=
  W.zret (v := r) hx hb hr (by rcases hz with rfl | rfl <;> rfl) (fun t ht hW => ⟨⟨u, rfl, by rw [ht]; exact hP, hD⟩, hS.F ht⟩) hS.2.2 hdg
theorem rL {r : Int64} (u : S) (hx : p.tables.exec = Jvm.exec) (hb : c.code = cc) (hr : meth.sig.returnType = some .long) (hlocks : meth.locks = false) (hP : va_P D vwCl (W1 u) H) (hD : va_D A (W1 u)) (hS : va_S A s.heap H locs) (hdg : decode cc pc = .ok (.lreturn, 1)) : W p l e R s m args below meth c H locs cells slots (MQ below (eQ D (some (.long r)) W1 A) args s cells slots A) (F0 m pc ls [.long r]) :=
  W.lret (v := r) hx hb hr (fun t ht hW => ⟨⟨u, rfl, by rw [ht]; exact hP, hD⟩, hS.F ht⟩) hS.2.2 hdg
theorem rV (u : S) (hx : p.tables.exec = Jvm.exec) (hb : c.code = cc) (hr : meth.sig.returnType = none) (hlocks : meth.locks = false) (hP : va_P D vwCl (W1 u) H) (hD : va_D A (W1 u)) (hS : va_S A s.heap H locs) (hdg : decode cc pc = .ok (.return_, 1)) : W p l e R s m args below meth c H locs cells slots (MQ below (eQ D none W1 A) args s cells slots A) (F0 m pc ls []) :=
  W.vret hx hb hr (fun t ht hW => ⟨⟨u, rfl, by rw [ht]; exact hP, hD⟩, hS.F ht⟩) hS.2.2 hdg
theorem rA {v : Value} {C : String} (u : S) (hx : p.tables.exec = Jvm.exec) (hb : c.code = cc) (hr : meth.sig.returnType = some (.object C)) (hlocks : meth.locks = false) (hv : v = .null ∨ ∃ a, v = .ref a) (hP : va_P D vwCl (W1 u) H) (hD : va_D A (W1 u)) (hS : va_S A s.heap H locs) (hdg : decode cc pc = .ok (.areturn, 1)) : W p l e R s m args below meth c H locs cells slots (MQ below (eQ D (some v) W1 A) args s cells slots A) (F0 m pc ls [v]) :=
  W.aret hx hb hr (Or.inl ⟨_, rfl⟩) hv (fun t ht hW => ⟨⟨u, rfl, by rw [ht]; exact hP, hD⟩, hS.F ht⟩) hS.2.2 hdg
end RET
/-- the callee's world put back into the caller's, each cell at its place -/
def frS : List Nat → va_W → va_W → va_W
  | i :: is, q :: w, ws => frS is w (ws.set i q)
  | [], q :: w, ws => frS [] w (ws ++ [q])
  | _, [], ws => ws
theorem frS_at : ∀ (isC : List Nat) (w1 ws : va_W), va_nd isC = true → isC.length ≤ w1.length → (∀ i ∈ isC, i < ws.length) → ∀ (k : Nat) (q : Nat × va_E), (frS isC w1 ws)[k]? = some q → (∃ j : Nat, w1[j]? = some q ∧ (isC[j]? = some k ∨ (isC.length ≤ j ∧ k = ws.length + (j - isC.length)))) ∨ (k ∉ isC ∧ ws[k]? = some q) := by
  intro isC
  induction isC with
  | nil =>
    intro w1
    induction w1 with
    | nil => intro ws _ _ _ k q h; exact Or.inr ⟨by simp, h⟩
    | cons x w ih =>
      intro ws _ _ _ k q h
      have h : (frS [] w (ws ++ [x]))[k]? = some q := h
      rcases ih (ws ++ [x]) rfl (Nat.zero_le _) (by simp) k q h with ⟨j, h1, h2⟩ | ⟨_, h2⟩
      · refine Or.inl ⟨j + 1, h1, Or.inr ⟨Nat.zero_le _, ?_⟩⟩
        rcases h2 with h2 | ⟨_, h2⟩
        · simp at h2
        · simp at h2; simp; omega
      · by_cases hk : k < ws.length
        · rw [List.getElem?_append_left hk] at h2; exact Or.inr ⟨by simp, h2⟩
        · rw [List.getElem?_append_right (by omega)] at h2
          have hz : k - ws.length < 1 := (List.getElem?_eq_some_iff.mp h2).1
          have hz : k - ws.length = 0 := by omega
          rw [hz] at h2
          exact Or.inl ⟨0, h2, Or.inr ⟨Nat.zero_le _, by simp; omega⟩⟩
  | cons i is ih =>
    intro w1 ws hn hl hi k q h
    match w1, hl with
    | x :: w, hl =>
      have h : (frS is w (ws.set i x))[k]? = some q := h
      have hn2 : is.contains i = false ∧ va_nd is = true := by
        simpa [va_nd] using hn
      rcases ih w (ws.set i x) hn2.2 (by simpa using hl) (fun j hj => by rw [List.length_set]; exact hi j (List.mem_cons_of_mem _ hj)) k q h with ⟨j, h1, h2⟩ | ⟨h1, h2⟩
      · refine Or.inl ⟨j + 1, h1, ?_⟩
        rcases h2 with h2 | ⟨h2, h3⟩
        · exact Or.inl h2
        · refine Or.inr ⟨by simpa using h2, ?_⟩
          rw [List.length_set] at h3
          simp; omega
      · by_cases hk : k = i
        · subst hk
          have hlt := hi k List.mem_cons_self
          rw [List.getElem?_set_self hlt] at h2
          exact Or.inl ⟨0, h2, Or.inl rfl⟩
        · rw [List.getElem?_set_ne (fun e => hk e.symm)] at h2
          exact Or.inr ⟨by simp [hk, h1], h2⟩
theorem fr_join {A0 : Nat → Prop} {D : va_G} {cl : List vw_C} {ws wc w1 : va_W} {H H1 : Heap} (hP : va_P D cl ws H) (hD : va_D A0 ws) (isC : List Nat) (hC : isC.map (fun i => ws[i]?) = wc.map some) (hn : va_nd isC = true) (hl : isC.length ≤ w1.length)
    (hk : ∀ q : Nat, q < H.size → ¬ va_A wc H.size q → H1[q]? = H[q]?) (hF : ∀ q, va_A wc H.size q → A0 q) (hP1 : va_P D cl w1 H1) (hD1 : va_D (va_A wc H.size) w1) : va_P D cl (frS isC w1 ws) H1 ∧ va_D A0 (frS isC w1 ws) := by
  have at' : ∀ (k : Nat) (q : Nat × va_E), wc[k]? = some q → ∃ i, isC[k]? = some i ∧ ws[i]? = some q := by
    intro k q hq
    have h1 : (isC.map (fun i => ws[i]?))[k]? = some (some q) := by rw [hC, List.getElem?_map, hq]; rfl
    rw [List.getElem?_map] at h1
    cases hi : isC[k]? with
    | none => rw [hi] at h1; cases h1
    | some i => rw [hi] at h1; exact ⟨i, rfl, Option.some.inj h1⟩
  have hlt : ∀ i ∈ isC, i < ws.length := by
    intro i hi
    obtain ⟨k, hk⟩ := List.getElem?_of_mem hi
    have h1 : (wc.map some)[k]? = some (ws[i]?) := by rw [← hC, List.getElem?_map, hk]; rfl
    rw [List.getElem?_map] at h1
    cases hc : wc[k]? with
    | none => rw [hc] at h1; cases h1
    | some q =>
      rw [hc] at h1
      have h2 : some q = ws[i]? := Option.some.inj h1
      exact (List.getElem?_eq_some_iff.mp h2.symm).1
  have spec := frS_at isC w1 ws hn hl hlt
  have apart : ∀ (k : Nat) (q : Nat × va_E), k ∉ isC → ws[k]? = some q → q.1 < H.size ∧ ¬ va_A wc H.size q.1 := by
    intro k q hkn hq
    have hl := (hP k q hq).lt
    refine ⟨hl, fun h => ?_⟩
    rcases h with ⟨k2, e, h⟩ | h
    · obtain ⟨j, h3, h4⟩ := at' k2 (q.1, e) h
      have hij := hD.1 k j q (q.1, e) hq h4 rfl
      subst hij
      exact hkn (List.mem_of_getElem? h3)
    · omega
  refine ⟨fun k q hq => ?_, fun i j x y hx hy hxy => ?_, fun k q hq => ?_⟩
  · rcases spec k q hq with ⟨j, h1, -⟩ | ⟨h1, h2⟩
    · exact hP1 j q h1
    · obtain ⟨g1, g2⟩ := apart k q h1 h2
      exact (hP k q h2).kept (hk q.1 g1 g2)
  · rcases spec i x hx with ⟨i1, h1, h2⟩ | ⟨h1, h2⟩ <;> rcases spec j y hy with ⟨j1, g1, g2⟩ | ⟨g1, g2⟩
    · have he := hD1.1 i1 j1 x y h1 g1 hxy
      subst he
      rcases h2 with h2 | ⟨h2, h3⟩ <;> rcases g2 with g2 | ⟨g2, g3⟩
      · exact Option.some.inj (h2.symm.trans g2)
      · have := (List.getElem?_eq_some_iff.mp h2).1; omega
      · have := (List.getElem?_eq_some_iff.mp g2).1; omega
      · omega
    · exact ((apart j y g1 g2).2 (by rw [← hxy]; exact hD1.2 i1 x h1)).elim
    · exact ((apart i x h1 h2).2 (by rw [hxy]; exact hD1.2 j1 y g1)).elim
    · exact hD.1 i j x y h2 g2 hxy
  · rcases spec k q hq with ⟨j, h1, -⟩ | ⟨h1, h2⟩
    · exact hF _ (hD1.2 j q h1)
    · exact hD.2 k q h2
section CALLS
variable {p : Program} {l : Launch} {e : Env} {R : Room} {s : State} {m : MethodId} {args : Array Value} {below : List Frame} {meth : Method} {c : Code} {H H0 : Heap} {locs : List Loc} {cells slots : Nat} {Q : State → Prop} {S : Type} {D : va_G} {ty : List (ClassId × FieldType)} {W1 : S → va_W} {A A0 : Nat → Prop} {cc bytes : ByteArray} {pc : Nat} {ls : Array Slot} {mc ms nL n index maxL : Nat} {y : MethodName} {wl : List Cond} {rm : Room} {As rest : List Value} {Wc ws : va_W} {v : Option Value} {Ts : List Cond} {own C : String} {ret : Option FieldType} {b : Addr} {st0 : List Value}
theorem cl_go {a : Array Value} (hr : va_Run p l e R s m args below meth c H locs cells slots mc ms (F0 m pc ls st0) rest (eQ D v W1 (va_A Wc H.size) a) (va_A Wc H.size)) (hP : va_P D vwCl ws H) (hD : va_D A0 ws) (hS : va_S A0 H0 H locs) (hA : ∀ q, H0.size ≤ q → A0 q) (isC : List Nat) (hC : isC.map (fun i => ws[i]?) = Wc.map some) (hn : va_nd isC = true) (hl : ∀ u, isC.length ≤ (W1 u).length)
    (kk : ∀ (u : S) (H1 : Heap) (locs1 : List Loc), va_P D vwCl (frS isC (W1 u) ws) H1 → va_D A0 (frS isC (W1 u) ws) → va_S A0 H0 H1 locs1 → W p l e R s m args below meth c H1 locs1 (cells + mc) (slots + ms) Q (F0 m (pc + 3) ls (v.toList ++ rest))) : W p l e R s m args below meth c H locs cells slots Q (F0 m pc ls st0) := by
  have hF := va_free (wc := Wc) hD hS hA isC hC
  intro T hT X
  obtain ⟨v', st₀, t, T', L, h0, X', hL, e1, e2, ⟨⟨u, hv, hp, hd⟩, hz, hkeep⟩, st⟩ := hr T hT X
  cases hv
  rw [h0] at hz hkeep
  obtain ⟨j1, j2⟩ := fr_join (H1 := T'.heap) hP hD isC hC hn (hl u) (fun q h1 h2 => by rw [e1]; exact hkeep q h1 h2) hF (by rw [e1]; exact hp) hd
  obtain ⟨t2, a1, b1⟩ := kk u T'.heap (locs ++ L) j1 j2
    ⟨Nat.le_trans hS.1 (by rw [e1]; exact hz), fun q h1 h2 => by rw [e1, hkeep q (Nat.lt_of_lt_of_le h1 hS.1) (fun z => h2 (hF q z))]; exact hS.2.1 q h1 h2, fun q hq => by
      rcases List.mem_append.mp hq with h | h
      · exact hS.2.2 q h
      · exact hF _ (hL q h)⟩ T' rfl X'
  exact ⟨t2, st t2 a1, b1⟩
theorem sub_of (hP : va_P D vwCl ws H) (isC : List Nat) (hC : isC.map (fun i => ws[i]?) = Wc.map some) : va_P D vwCl Wc H := by
  intro k q hq
  have h1 : (isC.map (fun i => ws[i]?))[k]? = some (some q) := by rw [hC, List.getElem?_map, hq]; rfl
  rw [List.getElem?_map] at h1
  cases hi : isC[k]? with
  | none => rw [hi] at h1; cases h1
  | some i => rw [hi] at h1; exact hP i q (Option.some.inj h1)
theorem subD_of (hD : va_D A0 ws) (isC : List Nat) (hC : isC.map (fun i => ws[i]?) = Wc.map some) (hn : va_nd isC = true) : va_D (fun _ => True) Wc := by
  have at' : ∀ (k : Nat) (q : Nat × va_E), Wc[k]? = some q → ∃ i, isC[k]? = some i ∧ ws[i]? = some q := by
    intro k q hq
    have h1 : (isC.map (fun i => ws[i]?))[k]? = some (some q) := by rw [hC, List.getElem?_map, hq]; rfl
    rw [List.getElem?_map] at h1
    cases hi : isC[k]? with
    | none => rw [hi] at h1; cases h1
    | some i => rw [hi] at h1; exact ⟨i, rfl, Option.some.inj h1⟩
  refine ⟨fun i j x y hx hy hxy => ?_, fun _ _ _ => trivial⟩
  obtain ⟨i1, h1, h2⟩ := at' i x hx
  obtain ⟨j1, g1, g2⟩ := at' j y hy
  have he := hD.1 i1 j1 x y h2 g2 hxy
  subst he
  exact va_nd_inj isC hn i j i1 h1 g1
theorem pre_of (hK : kK D ty s) (hP : va_P D vwCl ws H) (hD : va_D A0 ws) (isC : List Nat) (hC : isC.map (fun i => ws[i]?) = Wc.map some) (hn : va_nd isC = true) : PreS s H (va_Pc As (pQ D ty Wc H.size)) As :=
  ⟨pQ_blind D ty Wc H.size As, fun U hU hW => ⟨rfl, by rw [hU], by rw [hU]; exact sub_of hP isC hC, hK.warm hW, subD_of hD isC hC hn⟩⟩
/-- a call of an instance method -/
theorem cV (X : CallFix p m c cc nL s args Ts own) (hM : mG l D ty y wl rm (.ref b :: As) Wc W1 v mc ms) (cw : CallW R s args own C index y bytes maxL ret wl rm mc ms n) (hK : kK D ty s) (hP : va_P D vwCl ws H) (hD : va_D A0 ws) (hS : va_S A0 H0 H locs) (hA : ∀ q, H0.size ≤ q → A0 q) (isC : List Nat) (hC : isC.map (fun i => ws[i]?) = Wc.map some) (hn : va_nd isC = true) (hl : ∀ u, isC.length ≤ (W1 u).length)
    (q0 : Nat) {ci : Nat} {fs : List Value} {r : vw_C} (he : ws[q0]? = some (b, .inr (ci, fs))) (hc : vwCl[ci]? = some r) (hcn : r.1 = C) (hnn : As.length = n) (hsz : ls.size = nL) (hst : st0 = As.reverse ++ .ref b :: rest) (hW : (rest.map fun v => v.category).sum ≤ 8) (hdg : decode cc pc = .ok (.invokevirtual index, 3)) (hf : cells + mc ≤ R.cells ∧ slots + ms ≤ R.slots)
    (kk : ∀ (u : S) (H1 : Heap) (locs1 : List Loc), va_P D vwCl (frS isC (W1 u) ws) H1 → va_D A0 (frS isC (W1 u) ws) → va_S A0 H0 H1 locs1 → W p l e R s m args below meth c H1 locs1 (cells + mc) (slots + ms) Q (F0 m (pc + 3) ls (v.toList ++ rest))) : W p l e R s m args below meth c H locs cells slots Q (F0 m pc ls st0) := by
  subst hcn
  have pr := pre_of (As := .ref b :: As) hK hP hD isC hC hn
  exact cl_go (va_runV (C := r.1) X (hM H.size) cw ⟨pr.1, va_recv hK.1 hP hc he, pr.2⟩ rfl hnn hsz hst (lv_room hW) hdg hf) hP hD hS hA isC hC hn hl kk
/-- a call of a static method of the own class -/
theorem cS (X : CallFix p m c cc nL s args Ts own) (hM : mG l D ty y wl rm As Wc W1 v mc ms) (cw : CallB R s args own index y bytes maxL ret wl rm mc ms n ∧ (Cond.static y).before args s = true) (hK : kK D ty s) (hP : va_P D vwCl ws H) (hD : va_D A0 ws) (hS : va_S A0 H0 H locs) (hA : ∀ q, H0.size ≤ q → A0 q) (isC : List Nat) (hC : isC.map (fun i => ws[i]?) = Wc.map some) (hn : va_nd isC = true) (hl : ∀ u, isC.length ≤ (W1 u).length)
    (hnn : As.length = n) (hsz : ls.size = nL) (hst : st0 = As.reverse ++ rest) (hW : (rest.map fun v => v.category).sum ≤ 8) (hdg : decode cc pc = .ok (.invokestatic index, 3)) (hf : cells + mc ≤ R.cells ∧ slots + ms ≤ R.slots)
    (kk : ∀ (u : S) (H1 : Heap) (locs1 : List Loc), va_P D vwCl (frS isC (W1 u) ws) H1 → va_D A0 (frS isC (W1 u) ws) → va_S A0 H0 H1 locs1 → W p l e R s m args below meth c H1 locs1 (cells + mc) (slots + ms) Q (F0 m (pc + 3) ls (v.toList ++ rest))) : W p l e R s m args below meth c H locs cells slots Q (F0 m pc ls st0) :=
  cl_go (va_runS X (hM H.size) cw (pre_of hK hP hD isC hC hn) rfl hnn hsz hst (lv_room hW) hdg hf) hP hD hS hA isC hC hn hl kk
/-- a call of a nest mate's private static method -/
theorem cN {host : String} (X : CallFix p m c cc nL s args Ts own) (hM : mG l D ty y wl rm As Wc W1 v mc ms) (cw : va_CN R s args own index y host bytes maxL ret wl rm mc ms n ∧ (Cond.static y).before args s = true ∧ True) (hK : kK D ty s) (hP : va_P D vwCl ws H) (hD : va_D A0 ws) (hS : va_S A0 H0 H locs) (hA : ∀ q, H0.size ≤ q → A0 q) (isC : List Nat) (hC : isC.map (fun i => ws[i]?) = Wc.map some) (hn : va_nd isC = true) (hl : ∀ u, isC.length ≤ (W1 u).length)
    (hnn : As.length = n) (hsz : ls.size = nL) (hst : st0 = As.reverse ++ rest) (hW : (rest.map fun v => v.category).sum ≤ 8) (hdg : decode cc pc = .ok (.invokestatic index, 3)) (hf : cells + mc ≤ R.cells ∧ slots + ms ≤ R.slots)
    (kk : ∀ (u : S) (H1 : Heap) (locs1 : List Loc), va_P D vwCl (frS isC (W1 u) ws) H1 → va_D A0 (frS isC (W1 u) ws) → va_S A0 H0 H1 locs1 → W p l e R s m args below meth c H1 locs1 (cells + mc) (slots + ms) Q (F0 m (pc + 3) ls (v.toList ++ rest))) : W p l e R s m args below meth c H locs cells slots Q (F0 m pc ls st0) :=
  cl_go (va_runSN X (hM H.size) cw (pre_of hK hP hD isC hC hn) rfl hnn hsz hst (lv_room hW) hdg hf) hP hD hS hA isC hC hn hl kk
end CALLS
