/-! the claim out of one walk; the script -/
def R_law : String := "IslandBridgesLaw"
def lw_P (b : Addr) (xs : List Int32) (args : Array Value) (s : State) : Prop := args = #[.ref b] ∧ s.IntsAt b xs ∧ xs.length ≤ 260 ∧ (Jvm.Cond.and given_1 narrow_1).before args s = true
def lw_Q (_ : Array Value) (s : State) (o : Outcome) (t : State) : Prop := o = .returned (some (.int 1)) ∧ Framed s o t [] 600000 7302249
def lw_Z (below : List Frame) (a : Array Value) (s : State) : State → Prop := fun t => ∃ o, t.status = .running ∧ Ended t below o ∧ lw_Q a s o t
/-- the law's own end, with 1 on the stack, nothing written that was there before, its room as the claim has it -/
theorem lw_ret {p : Program} {l : Launch} {e : Env} {s : State} {m : MethodId} {below : List Frame} {meth : Method} {c : Code} {b : Nat} (hx : p.tables.exec = Jvm.exec) (hb : c.code = code) (hr : meth.sig.returnType = ret) (hlocks : meth.locks = false) {pc : Nat} {H : Heap} {ls : Array Slot} (hdg : decode code pc = .ok (.ireturn, 1)) : W p l e room_1 s m #[Value.ref b] below meth c H [] 600000 7302249 (lw_Z below #[Value.ref b] s) (F0 m pc ls [.int 1]) := by
  intro T hT X
  obtain ⟨fs, hret, hrun, hended, hW, hframe⟩ := X.leave (v := some (.int 1)) (hlocks := hlocks) (fun h => by rw [hr] at h; cases h)
  have hmeth' : T.vm.method? m = some meth := X.method'
  refine ⟨T.setFrames fs, ?_, .returned (some (.int 1)), hrun, hended, rfl, ⟨_, rfl⟩, hW, hframe⟩
  jvm_step X.here [X.here.top, hx, hb, hdg, hmeth', hr, ret, narrow_b1]
  (try refine ⟨rfl, ?_⟩); (try refine ⟨rfl, ?_⟩)
  first | (intro acts; rw [hret _ acts rfl rfl rfl]) | rw [hret _ _ rfl rfl rfl]
  exact Steps.refl _
/-- what holds at the law's entry: the machine, the code, the tables' words (any of lw_tbl by 'hts w (by decide +kernel)'), the script of L ints xs at the cell b, what the Statement gives of the start (any of its parts by flat_of_before) -/
def lw_At (p : Program) (s : State) (m : MethodId) (meth : Method) (c : Code) (b L : Nat) (xs : Nat → Int32) : Prop :=
  p.tables.exec = Jvm.exec ∧ c.code = code ∧ meth.sig.returnType = ret ∧ c.maxLocals = 13 ∧ s.vm.findClass R_law = some m.cls ∧ (∀ w ∈ lw_tbl, w.before #[Value.ref b] s = true) ∧ va_X b L xs s s.heap ∧ b < s.heap.size ∧ meth.locks = false ∧ (Jvm.Cond.and given_1 narrow_1).before #[Value.ref b] s = true
/-- the script's own value at x: the law's cell -/
def cellv (L : Nat) (xs : Nat → Int32) (x : Int32) : Option Int32 := if x < 0 then none else if nI L ≤ x then some (7919 * (x + 3) * (x + 11)) else some (xs x.toNatClampNeg)
/-- method y reads the script at b, makes nothing and writes nothing -/
def mX (l : Launch) (D : va_G) (ty : List (ClassId × FieldType)) (b L : Nat) (xs : Nat → Int32) (y : MethodName) (wl : List Cond) (rm : Room) (As : List Value) (v : Option Value) : Prop := ∀ sz : Nat, Met l y wl rm (va_Pc As (fun U => pQ D ty [] sz U ∧ va_X b L xs U U.heap)) (eQ D v (fun _ : Unit => []) (va_A [] sz)) 0 0 (va_A [] sz)
theorem pX_blind (D : va_G) (ty : List (ClassId × FieldType)) (b L : Nat) (xs : Nat → Int32) (sz : Nat) (As : List Value) : FrameBlind (va_Pc As (fun U => pQ D ty [] sz U ∧ va_X b L xs U U.heap)) := fun a U g mk q => by
  obtain ⟨q0, q1, q2⟩ := q
  exact ⟨q0, (pQ_blind D ty [] sz As a U g mk ⟨q0, q1⟩).2, va_X.moved (u := U) (U := U.calling g mk a) (Vm.Alike.refl U.vm) q2⟩
theorem mX_of {l : Launch} {D : va_G} {ty : List (ClassId × FieldType)} {b L : Nat} {xs : Nat → Int32} {y : MethodName} {wl wl' : List Cond} {rm : Room} {As : List Value} {v : Option Value} {cc : ByteArray} {maxL : Nat} {ret : Option FieldType} {own : String}
    (hy : plainName y.cls = true) (hw : wl = Cond.code y cc maxL ret :: wl') (ho : y.cls = own) (hn : (lg_sl As).length ≤ maxL)
    (body : ∀ (p : Program) (e : Env) (s : State) (m : MethodId) (args : Array Value) (below : List Frame) (meth : Method) (c : Code) (A : Nat → Prop), p.tables.exec = Jvm.exec → c.code = cc → meth.sig.returnType = ret → c.maxLocals = maxL → meth.locks = false → (∀ w ∈ wl, w.before args s = true) → s.vm.findClass own = some m.cls → kK D ty s → va_P D vwCl [] s.heap → va_D A [] → va_X b L xs s s.heap → b < s.heap.size → ¬ A b → va_S A s.heap s.heap [] → ∀ ls : Array Slot, lv_has ls maxL (lv_args 0 As) → W p l e rm s m args below meth c s.heap [] 0 0 (MQ below (eQ D v (fun _ : Unit => []) A) args s 0 0 A) (F0 m 0 ls [])) : mX l D ty b L xs y wl rm As v := by
  intro sz
  refine Met.ofW (cc := cc) (maxL := maxL) (ret := ret) hy hw ?_
  intro p e s m args below meth c s₁ B hml hv
  obtain ⟨rfl, ⟨hsz, hP, hK, hD0⟩, hX⟩ := hv
  subst hsz
  rw [lg_entry_eq]
  have hbl : b < s.heap.size := by
    obtain ⟨scr, h1, -⟩ := hX
    exact (Array.getElem?_eq_some_iff.mp h1).1
  exact body p e s m _ below meth c (va_A [] s.heap.size) B.exec B.bytes B.returns hml B.notSynchronized (atoms_spec (ws := wl) B.pre) (by rw [← ho]; exact findClass_of_methodNamed B.named) hK hP hD0.self hX hbl (fun h => by
    rcases h with ⟨k, e, h⟩ | h
    · simp at h
    · omega) va_S.rf _ (lv_entry As hn)
section SCRIPT
variable {p : Program} {l : Launch} {e : Env} {R : Room} {s : State} {m : MethodId} {args : Array Value} {below : List Frame} {meth : Method} {c : Code} {H : Heap} {locs : List Loc} {cells slots : Nat} {Q : State → Prop} {D : va_G} {ty : List (ClassId × FieldType)} {A0 : Nat → Prop} {cc bytes : ByteArray} {pc : Nat} {ls : Array Slot} {nL n index maxL b L : Nat} {xs : Nat → Int32} {y : MethodName} {wl : List Cond} {rm : Room} {As rest : List Value} {ws : va_W} {v : Option Value} {Ts : List Cond} {own : String} {ret : Option FieldType} {st0 : List Value}
/-- a call of a static method that reads the script -/
theorem cSX (X : CallFix p m c cc nL s args Ts own) (hM : mX l D ty b L xs y wl rm As v) (cw : CallB R s args own index y bytes maxL ret wl rm 0 0 n ∧ (Cond.static y).before args s = true) (hK : kK D ty s) (hP : va_P D vwCl ws H) (hD : va_D A0 ws) (hS : va_S A0 s.heap H locs) (hA : ∀ q : Nat, s.heap.size ≤ q → A0 q) (hX : va_X b L xs s s.heap) (hbl : b < s.heap.size) (hbA : ¬ A0 b) (hnn : As.length = n) (hsz : ls.size = nL) (hW : (rest.map fun v => v.category).sum ≤ 8) (hf : cells ≤ R.cells ∧ slots ≤ R.slots) (hst : st0 = As.reverse ++ rest) (hdg : decode cc pc = .ok (.invokestatic index, 3))
    (kk : ∀ (H1 : Heap) (locs1 : List Loc), va_P D vwCl ws H1 → va_D A0 ws → va_S A0 s.heap H1 locs1 → W p l e R s m args below meth c H1 locs1 cells slots Q (F0 m (pc + 3) ls (v.toList ++ rest))) : W p l e R s m args below meth c H locs cells slots Q (F0 m pc ls st0) := by
  have hX1 : va_X b L xs s H := hX.kept (hS.2.1 b hbl hbA)
  have pr : PreS s H (va_Pc As (fun U => pQ D ty [] H.size U ∧ va_X b L xs U U.heap)) As := ⟨pX_blind D ty b L xs H.size As, fun U hU hW => ⟨rfl, ⟨by rw [hU], fun k q h => by simp at h, hK.warm hW, fun i j x y h => by simp at h, fun k q h => by simp at h⟩, by rw [hU]; exact hX1.moved hW.alike⟩⟩
  exact cl_go (S := Unit) (W1 := fun _ => []) (Wc := []) (va_runS X (hM H.size) cw pr rfl hnn hsz hst (lv_room hW) hdg hf) hP hD hS hA [] rfl rfl (fun _ => Nat.zero_le _) (fun _ H1 locs1 h1 h2 h3 => kk H1 locs1 h1 h2 h3)
end SCRIPT
/-- the law's end -/
theorem law_fin {p : Program} {l : Launch} {e : Env} {s : State} {m : MethodId} {below : List Frame} {meth : Method} {c : Code} {H : Heap} {locs : List Loc} {pc : Nat} {ls : Array Slot} {b : Nat} {A : Nat → Prop} (hx : p.tables.exec = Jvm.exec) (hb : c.code = code) (hr : meth.sig.returnType = ret) (hlocks : meth.locks = false) (hA9 : ∀ q : Nat, A q → s.heap.size ≤ q) (hS : va_S A s.heap H locs) (hdg : decode code pc = .ok (.ireturn, 1)) : W p l e room_1 s m #[Value.ref b] below meth c H locs 51 2469 (lw_Z below #[Value.ref b] s) (F0 m pc ls [.int 1]) := by
  refine va_forget (fun q hq => hA9 _ (hS.2.2 q hq)) ?_
  refine W.widen (k := 600000) (n := 7302249) (Nat.le_of_ble_eq_true rfl) (Nat.le_of_ble_eq_true rfl) ?_
  exact lw_ret hx hb hr hlocks hdg
theorem hd_L_cell : yL_cell.cls ≠ "java/lang/invoke/MethodHandle" ∧ yL_cell.cls ≠ "java/lang/invoke/VarHandle" ∧ (parseMethodDescriptor yL_cell.desc).map (fun d => d.parameters.length) = some 2 := by decide +kernel
theorem c_L_cell (l : Launch) (D : va_G) (cI cJ cS cB : ClassId) (b L : Nat) (xs : Nat → Int32) (x r : Int32) (hm : cellv L xs x = some r) : mX l D (TYs cI cJ cS cB) b L xs yL_cell wsL_cell { frames := 0, cells := 0, slots := 0, locals := 0 } [.ref b, .int x] (some (.int r)) := by
  refine mX_of (cc := cL_cell) (maxL := 2) (ret := some .int) (by decide) rfl rfl (Nat.le_of_ble_eq_true rfl) ?_
  intro p e s m args below meth c A hx hb hr hml hlk hts hown hK hP hD hX hbl hbA hS ls hl
  have hl : lv_has ls 2 [(0, .ref b), (1, .int x)] := hl
  unfold cellv at hm
  by_cases c0 : x < 0
  · have hm := ip c0 hm
    cases hm
  have hm := ine c0 hm
  refine lv_iload_n hx hb dL_cell_0 rfl (lv_at hl 1 rfl) ?_
  refine lv_aload_n hx hb dL_cell_1 rfl (lv_at hl 0 rfl) ?_
  refine va_slen hx hb hX hbl hbA hS dL_cell_2 ?_
  refine lv_icmp_ge (tgt := 12) hx hb dL_cell_3 (by decide) (fun c1 => ?_) (fun c1 => ?_)
  · have hm := ip (show nI L ≤ x from c1) hm
    refine lv_sipush (v := 7919) hx hb dL_cell_12 (by decide) ?_
    refine lv_iload_n hx hb dL_cell_15 rfl (lv_at hl 1 rfl) ?_
    refine lv_iconst (v := 3) hx hb dL_cell_16 (by decide) ?_
    refine lv_iadd hx hb dL_cell_17 ?_
    refine lv_imul hx hb dL_cell_18 ?_
    refine lv_iload_n hx hb dL_cell_19 rfl (lv_at hl 1 rfl) ?_
    refine lv_bipush (v := 11) hx hb dL_cell_20 (by decide) ?_
    refine lv_iadd hx hb dL_cell_22 ?_
    refine lv_imul hx hb dL_cell_23 ?_
    cases hm
    exact rI () hx hb hr hlk hP hD hS dL_cell_24
  · have hm := ine (show ¬ nI L ≤ x from c1) hm
    have hin : vp_in x L := fun q => by
      rcases q with q | q
      · exact c0 q
      · obtain ⟨j, hj, rfl⟩ := nI_of c0
        rw [nI_clamp hj] at q
        exact c1 (nI_le q (by omega))
    refine lv_aload_n hx hb dL_cell_6 rfl (lv_at hl 0 rfl) ?_
    refine lv_iload_n hx hb dL_cell_7 rfl (lv_at hl 1 rfl) ?_
    refine va_sld hx hb hX hbl hbA hS hin dL_cell_8 ?_
    refine lv_goto (tgt := 24) hx hb dL_cell_9 (by decide) ?_
    cases hm
    exact rI () hx hb hr hlk hP hD hS dL_cell_24
