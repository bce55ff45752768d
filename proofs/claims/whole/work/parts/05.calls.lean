/-! methods and calls -/
def gws (y : MethodName) (cc : ByteArray) (maxL : Nat) (ret : Option FieldType) : List Cond := Cond.code y cc maxL ret :: gTs
def gQi (Y : gY) (r : Int32 × gMem) : Array Value → State → Outcome → State → Prop := va_Qi (fun (v : Int32) (_ : Unit) => v = r.1) (fun _ t => gS0 Y r.2 t) (gA Y)
def gQz (Y : gY) (r : Int32 × gMem) : Array Value → State → Outcome → State → Prop := va_Qi (fun (v : Int32) (_ : Unit) => v = r.1 ∧ (v = 0 ∨ v = 1)) (fun _ t => gS0 Y r.2 t) (gA Y)
def gQl (Y : gY) (r : Int64 × gMem) : Array Value → State → Outcome → State → Prop := va_Ql (fun (v : Int64) (_ : Unit) => v = r.1) (fun _ t => gS0 Y r.2 t) (gA Y)
def gQv (Y : gY) (r : gMem) : Array Value → State → Outcome → State → Prop := va_Qv (fun (_ : Unit) => True) (fun _ t => gS0 Y r t) (gA Y)
/-- the method's end: what it must answer -/
def gF (X : gX) (Y : gY) (ret : Option FieldType) (Qc : Array Value → State → Outcome → State → Prop) : Prop := (gxM X).sig.returnType = ret ∧ gxQ X = MQ (gxb X) Qc (gxa X) (gxs X) (gxk X) (gxn X) (gA Y)
theorem gmet {l : Launch} {y : MethodName} {cc : ByteArray} {nL : Nat} {ret : Option FieldType} {rm : Room} {Y : gY} {M : gMem} {av : List Value} {lv : List (Nat × Value)} {Qc : Array Value → State → Outcome → State → Prop} (own : String) (hy : plainName y.cls = true) (hown : y.cls = own) (hlen : (lg_sl av).length ≤ nL) (hlv : lv_args 0 av = lv)
    (body : ∀ X : gX, gC X Y cc own nL rm.frames rm.locals → gF X Y ret Qc → gWW X Y nL 0 lv [] M) : Met l y (gws y cc nL ret) rm (va_Pc av (gS0 Y M)) Qc 0 0 (gA Y) := by
  refine Met.ofW (cc := cc) (maxL := nL) (ret := ret) hy rfl ?_
  intro p e s m args below meth c s₁ B hml hv
  obtain ⟨rfl, hP, hD, hK, hN, hZ⟩ := hv
  have hts := atoms_spec (ws := gws y cc nL ret) B.pre
  have ho : s.vm.findClass y.cls = some m.cls := findClass_of_methodNamed B.named
  have hl := lv_entry av (n := nL) hlen
  rw [lg_entry_eq]
  rw [hlv] at hl
  exact body (p, l, e, rm, s, m, av.toArray, below, meth, c, MQ below Qc av.toArray s 0 0 (gA Y), 0, 0) ⟨B.exec, B.bytes, hml, by rw [← hown]; exact ho, fun w hw => hts w (List.mem_cons_of_mem _ hw), hK, hN, hZ, rfl, rfl, B.notSynchronized, Nat.zero_le _, Nat.zero_le _⟩ ⟨B.returns, rfl⟩ s.heap [] _ ⟨hP, hD, va_S.rf⟩ hl
def gMth (y : MethodName) (cc : ByteArray) (maxL : Nat) (ret : Option FieldType) (n : Nat) : Prop := Cond.code y cc maxL ret ∈ gTs ∧ Cond.initialized y.cls ∈ gTs ∧ y.cls ≠ "java/lang/invoke/MethodHandle" ∧ y.cls ≠ "java/lang/invoke/VarHandle" ∧ (parseMethodDescriptor y.desc).map (fun d => d.parameters.length) = some n
def gMi (y : MethodName) (cc : ByteArray) (maxL : Nat) (ret : Option FieldType) (n : Nat) : Prop := gMth y cc maxL ret n ∧ Cond.instanceMethod y ∈ gTs ∧ Cond.selects y.cls y y ∈ gTs
def gMs (y : MethodName) (cc : ByteArray) (maxL : Nat) (ret : Option FieldType) (n : Nat) : Prop := gMth y cc maxL ret n ∧ Cond.static y ∈ gTs
theorem gws_good {y : MethodName} {cc : ByteArray} {maxL : Nat} {ret : Option FieldType} (h : Cond.code y cc maxL ret ∈ gTs) : GoodIn gTs (gws y cc maxL ret) := by
  intro w hw
  have h1 : w ∈ gTs := by
    rcases List.mem_cons.mp hw with rfl | hw
    · exact h
    · exact hw
  exact ⟨h1, good_of_word (List.mem_filter.mp h1).2⟩
section GK
variable {X : gX} {Y : gY} {cc : ByteArray} {own : String} {nL fr lo pc : Nat} {lv : List (Nat × Value)} {st : List Value} {M : gMem}
def gRun (X : gX) (Y : gY) (nL pc : Nat) (lv : List (Nat × Value)) (st rest : List Value) (M : gMem) (Qa : State → Outcome → State → Prop) : Prop :=
  ∀ (H : Heap) (locs : List Loc) (ls : Array Slot), gSt (gxs X) Y M H locs → lv_has ls nL lv → va_Run X.1 X.2.1 X.2.2.1 (gxR X) (gxs X) (gxm X) (gxa X) (gxb X) (gxM X) (gxc X) H locs (gxk X) (gxn X) 0 0 (F0 (gxm X) pc ls st) rest Qa (gA Y)
theorem gCf (hC : gC X Y cc own nL fr lo) : CallFix X.1 (gxm X) (gxc X) cc nL (gxs X) (gxa X) gTs own := ⟨hC.1, hC.2.1, hC.2.2.1, hC.2.2.2.1, hC.2.2.2.2.1⟩
theorem gCb (hC : gC X Y cc own nL fr lo) {y : MethodName} {bytes : ByteArray} {maxL n idx : Nat} {ret : Option FieldType} {rm : Room} (hm : gMth y bytes maxL ret n) (hl : Cond.methodLink own idx y ∈ gTs) (hR : rm.cells = 0 ∧ rm.slots = 0 ∧ rm.frames + 1 ≤ fr ∧ 8 + (maxL + 11) + rm.locals ≤ lo) : CallB (gxR X) (gxs X) (gxa X) own idx y bytes maxL ret (gws y bytes maxL ret) rm 0 0 n := by
  have hts := hC.2.2.2.2.1
  have h9 := hC.2.2.2.2.2.2.2.2
  exact callB_of n hts (gws_good hm.1) rfl hR.1 hR.2.1 (hts _ hm.2.1) (hts _ hl) hm.2.2 ⟨by rw [h9.1]; exact hR.2.2.1, by rw [h9.2.1]; exact hR.2.2.2⟩
theorem q_rV (hC : gC X Y cc own nL fr lo) {y : MethodName} {bytes : ByteArray} {maxL n idx c o ci N : Nat} {ret : Option FieldType} {rm : Room} {As rest fs : List Value} {T : u_T} {Qc : Array Value → State → Outcome → State → Prop} (hm : gMi y bytes maxL ret n) (hl : Cond.methodLink own idx y ∈ gTs)
    (hM : Met X.2.1 y (gws y bytes maxL ret) rm (va_Pc (.ref (gad Y c o) :: As) (gS0 Y M)) Qc 0 0 (gA Y)) (hR : rm.cells = 0 ∧ rm.slots = 0 ∧ rm.frames + 1 ≤ fr ∧ 8 + (maxL + 11) + rm.locals ≤ lo) (hV : gV c o) (he : gcel Y M c o = .inr (ci, fs)) (hc : vwCl[ci]? = some (y.cls, T, N)) (hn : As.length = n) (hst : st = As.reverse ++ .ref (gad Y c o) :: rest) (hrest : (rest.map fun v => v.category).sum ≤ 8) (hd : decode cc pc = .ok (.invokevirtual idx, 3)) :
    gRun X Y nL pc lv st rest M (Qc (Value.ref (gad Y c o) :: As).toArray) := by
  intro H locs ls hS h
  subst hst
  obtain ⟨q, hq, -⟩ := gW_at (Y := Y) (M := M) hV
  rw [he] at hq
  have hts := hC.2.2.2.2.1
  exact va_runV (gCf hC) hM ⟨gCb hC hm.1 hl hR, hts _ hm.2.1, hts _ hm.2.2⟩ ⟨gS0.blind _, va_recv hC.2.2.2.2.2.1 hS.1 (ci := ci) (q0 := q) hc hq, fun U hU hW => ⟨rfl, hC.s0 hS hU hW⟩⟩ rfl hn h.1 rfl (lv_room hrest) hd hC.2.2.2.2.2.2.2.2.2.2.2
theorem q_rS (hC : gC X Y cc own nL fr lo) {y : MethodName} {bytes : ByteArray} {maxL n idx : Nat} {ret : Option FieldType} {rm : Room} {As rest : List Value} {Qc : Array Value → State → Outcome → State → Prop} (hm : gMs y bytes maxL ret n) (hl : Cond.methodLink own idx y ∈ gTs)
    (hM : Met X.2.1 y (gws y bytes maxL ret) rm (va_Pc As (gS0 Y M)) Qc 0 0 (gA Y)) (hR : rm.cells = 0 ∧ rm.slots = 0 ∧ rm.frames + 1 ≤ fr ∧ 8 + (maxL + 11) + rm.locals ≤ lo) (hn : As.length = n) (hst : st = As.reverse ++ rest) (hrest : (rest.map fun v => v.category).sum ≤ 8) (hd : decode cc pc = .ok (.invokestatic idx, 3)) :
    gRun X Y nL pc lv st rest M (Qc As.toArray) := by
  intro H locs ls hS h
  subst hst
  have hts := hC.2.2.2.2.1
  exact va_runS (gCf hC) hM ⟨gCb hC hm.1 hl hR, hts _ hm.2⟩ ⟨gS0.blind _, fun U hU hW => ⟨rfl, hC.s0 hS hU hW⟩⟩ rfl hn h.1 rfl (lv_room hrest) hd hC.2.2.2.2.2.2.2.2.2.2.2
/-- super.m(..) -/
theorem q_rU (hC : gC X Y cc own nL fr lo) {y : MethodName} {bytes : ByteArray} {maxL n idx c o ci N : Nat} {ret : Option FieldType} {rm : Room} {As rest fs : List Value} {T : u_T} {C : String} {Qc : Array Value → State → Outcome → State → Prop} (hm : gMth y bytes maxL ret n) (hi : Cond.instanceMethod y ∈ gTs) (hl : Cond.methodLink own idx y ∈ gTs) (hsm : Cond.sameMethod y.cls y.cls y.name y.desc ∈ gTs) (hsu : Cond.superclass own y.cls ∈ gTs) (hno : y.name ≠ "<init>")
    (hM : Met X.2.1 y (gws y bytes maxL ret) rm (va_Pc (.ref (gad Y c o) :: As) (gS0 Y M)) Qc 0 0 (gA Y)) (hR : rm.cells = 0 ∧ rm.slots = 0 ∧ rm.frames + 1 ≤ fr ∧ 8 + (maxL + 11) + rm.locals ≤ lo) (hV : gV c o) (he : gcel Y M c o = .inr (ci, fs)) (hc : vwCl[ci]? = some (C, T, N)) (hn : As.length = n) (hst : st = As.reverse ++ .ref (gad Y c o) :: rest) (hrest : (rest.map fun v => v.category).sum ≤ 8) (hd : decode cc pc = .ok (.invokespecial idx, 3)) :
    gRun X Y nL pc lv st rest M (Qc (Value.ref (gad Y c o) :: As).toArray) := by
  intro H locs ls hS h
  subst hst
  obtain ⟨q, hq, -⟩ := gW_at (Y := Y) (M := M) hV
  rw [he] at hq
  have hts := hC.2.2.2.2.1
  obtain ⟨b1, b2, b3, b4, b5, b6, b7, b8, b9, b10, b11⟩ := gCb hC hm hl hR
  exact va_runSU (hC.2.2.2.2.2.1.1 ci _ hc).2 (gCf hC) hM ⟨⟨b1, b2, b3, b4, b5, b6⟩, b11, hts _ hsm, hts _ hsu, hts _ hi, b8, b7, hno, b10⟩ ⟨gS0.blind _, va_recv hC.2.2.2.2.2.1 hS.1 (ci := ci) (q0 := q) hc hq, fun U hU hW => ⟨rfl, hC.s0 hS hU hW⟩⟩ rfl hn h.1 rfl (lv_room hrest) hd hC.2.2.2.2.2.2.2.2.2.2.2
/-- a method named x, chosen as y by the receiver's class C -/
theorem q_rD (hC : gC X Y cc own nL fr lo) {x y : MethodName} {bytes : ByteArray} {maxL n idx c o ci N : Nat} {ret : Option FieldType} {rm : Room} {As rest fs : List Value} {T : u_T} {C : String} {Qc : Array Value → State → Outcome → State → Prop} (hm : gMth y bytes maxL ret n) (hi : Cond.instanceMethod y ∈ gTs) (hix : Cond.instanceMethod x ∈ gTs) (hmx : x.cls ≠ "java/lang/invoke/MethodHandle" ∧ x.cls ≠ "java/lang/invoke/VarHandle" ∧ y.desc = x.desc) (hl : Cond.methodLink own idx x ∈ gTs) (hsm : Cond.sameMethod x.cls x.cls x.name x.desc ∈ gTs) (hse : Cond.selects C x y ∈ gTs)
    (hcx : ∃ b mx rx, Cond.code x b mx rx ∈ gTs)
    (hM : Met X.2.1 y (gws y bytes maxL ret) rm (va_Pc (.ref (gad Y c o) :: As) (gS0 Y M)) Qc 0 0 (gA Y)) (hR : rm.cells = 0 ∧ rm.slots = 0 ∧ rm.frames + 1 ≤ fr ∧ 8 + (maxL + 11) + rm.locals ≤ lo) (hV : gV c o) (he : gcel Y M c o = .inr (ci, fs)) (hc : vwCl[ci]? = some (C, T, N)) (hn : As.length = n) (hst : st = As.reverse ++ .ref (gad Y c o) :: rest) (hrest : (rest.map fun v => v.category).sum ≤ 8) (hd : decode cc pc = .ok (.invokevirtual idx, 3)) :
    gRun X Y nL pc lv st rest M (Qc (Value.ref (gad Y c o) :: As).toArray) := by
  intro H locs ls hS h
  subst hst
  obtain ⟨q, hq, -⟩ := gW_at (Y := Y) (M := M) hV
  rw [he] at hq
  have hts := hC.2.2.2.2.1
  have h9 := hC.2.2.2.2.2.2.2.2
  have hG := gws_good hm.1
  have hdecl : va_Decl (gxs X) ⟨x.cls, x.name, x.desc⟩ := by
    obtain ⟨mk, methM, hnamed, hmethM, hstM, habM⟩ := Cond.instanceMethod_spec (hts _ hix)
    obtain ⟨b, mx, rx, hcd⟩ := hcx
    obtain ⟨methM', cM, hmethM', -, -, -, -, -, -, hsigM⟩ := Cond.code_spec hnamed (hts _ hcd)
    cases hmethM.symm.trans hmethM'
    exact ⟨mk, methM, hnamed, hmethM, hstM, hsigM⟩
  have hlen : ∀ sig, parseMethodDescriptor x.desc = some sig → n = sig.parameters.length := fun sig hs => by
    have h2 := hm.2.2.2.2
    rw [hmx.2.2, hs] at h2
    exact (Option.some.inj h2).symm
  exact va_runU (owner := x.cls) (gCf hC) hM ⟨⟨hR.1, hR.2.1, by rw [h9.1]; exact hR.2.2.1, by rw [h9.2.1]; exact hR.2.2.2, pay_in hts hG, List.mem_cons_self⟩, hts _ hm.1, hts _ hm.2.1, ⟨hmx.1, hmx.2.1⟩, hlen, hts _ hl, hts _ hsm, hdecl, hts _ hse, hts _ hi⟩ ⟨gS0.blind _, va_recv hC.2.2.2.2.2.1 hS.1 (ci := ci) (q0 := q) hc hq, fun U hU hW => ⟨rfl, hC.s0 hS hU hW⟩⟩ rfl hn h.1 rfl (lv_room hrest) hd hC.2.2.2.2.2.2.2.2.2.2.2
theorem q_ki {rest : List Value} {r : Int32 × gMem} {a : Array Value} (hr : gRun X Y nL pc lv st rest M (gQi Y r a)) (kk : gWW X Y nL (pc + 3) lv (.int r.1 :: rest) r.2) : gWW X Y nL pc lv st M := by
  intro H locs ls hS h
  refine va_calli (hr H locs ls hS h) hS.2.2 (fun q _ h => h) (fun q h => h) (fun v u t H1 locs1 ht hvm hw hB _ _ hS1 => ?_)
  subst hw
  exact kk H1 locs1 ls ⟨by rw [← ht]; exact hB.1, hB.2.1, hS1⟩ h
theorem q_kz {rest : List Value} {r : Int32 × gMem} {a : Array Value} (hr : gRun X Y nL pc lv st rest M (gQz Y r a)) (kk : (r.1 = 0 ∨ r.1 = 1) → gWW X Y nL (pc + 3) lv (.int r.1 :: rest) r.2) : gWW X Y nL pc lv st M := by
  intro H locs ls hS h
  refine va_calli (hr H locs ls hS h) hS.2.2 (fun q _ h => h) (fun q h => h) (fun v u t H1 locs1 ht hvm hw hB _ _ hS1 => ?_)
  obtain ⟨hw, hz⟩ := hw
  subst hw
  exact kk hz H1 locs1 ls ⟨by rw [← ht]; exact hB.1, hB.2.1, hS1⟩ h
theorem q_kl {rest : List Value} {r : Int64 × gMem} {a : Array Value} (hr : gRun X Y nL pc lv st rest M (gQl Y r a)) (kk : gWW X Y nL (pc + 3) lv (.long r.1 :: rest) r.2) : gWW X Y nL pc lv st M := by
  intro H locs ls hS h
  refine va_calll (hr H locs ls hS h) hS.2.2 (fun q _ h => h) (fun q h => h) (fun v u t H1 locs1 ht hvm hw hB _ _ hS1 => ?_)
  subst hw
  exact kk H1 locs1 ls ⟨by rw [← ht]; exact hB.1, hB.2.1, hS1⟩ h
theorem q_kv {rest : List Value} {r : gMem} {a : Array Value} (hr : gRun X Y nL pc lv st rest M (gQv Y r a)) (kk : gWW X Y nL (pc + 3) lv rest r) : gWW X Y nL pc lv st M := by
  intro H locs ls hS h
  refine va_callv (hr H locs ls hS h) hS.2.2 (fun q _ h => h) (fun q h => h) (fun u t H1 locs1 ht hvm hw hB _ _ hS1 => ?_)
  exact kk H1 locs1 ls ⟨by rw [← ht]; exact hB.1, hB.2.1, hS1⟩ h
theorem q_iret (hC : gC X Y cc own nL fr lo) {r : Int32 × gMem} {v : Int32} (hF : gF X Y (some .int) (gQi Y r)) (hd : decode cc pc = .ok (.ireturn, 1)) (he : (v, M) = r) : gWW X Y nL pc lv [.int v] M := by
  intro H locs ls hS h
  subst he
  rw [hF.2]
  exact W.iret hC.1 hC.2.1 hF.1 (fun t ht hW => ⟨⟨v, (), rfl, rfl, hC.s0 hS ht hW⟩, hS.2.2.F ht⟩) hS.2.2.2.2 hd hC.2.2.2.2.2.2.2.2.2.2.1
theorem gnz {v : Int32} (h : v = 0 ∨ v = 1) : narrow .boolean (.int v) = .int v := by
  rcases h with rfl | rfl <;> rfl
theorem q_zret (hC : gC X Y cc own nL fr lo) {r : Int32 × gMem} {v : Int32} (hF : gF X Y (some .boolean) (gQz Y r)) (hd : decode cc pc = .ok (.ireturn, 1)) (hz : v = 0 ∨ v = 1) (he : (v, M) = r) : gWW X Y nL pc lv [.int v] M := by
  intro H locs ls hS h
  subst he
  rw [hF.2]
  exact W.zret hC.1 hC.2.1 hF.1 (gnz hz) (fun t ht hW => ⟨⟨v, (), rfl, ⟨rfl, hz⟩, hC.s0 hS ht hW⟩, hS.2.2.F ht⟩) hS.2.2.2.2 hd hC.2.2.2.2.2.2.2.2.2.2.1
theorem q_nret (hC : gC X Y cc own nL fr lo) {r : Int32 × gMem} {v : Int32} {ty : FieldType} (hF : gF X Y (some ty) (gQi Y r)) (hd : decode cc pc = .ok (.ireturn, 1)) (hz : narrow ty (.int v) = .int v) (he : (v, M) = r) : gWW X Y nL pc lv [.int v] M := by
  intro H locs ls hS h
  subst he
  rw [hF.2]
  exact W.zret hC.1 hC.2.1 hF.1 hz (fun t ht hW => ⟨⟨v, (), rfl, rfl, hC.s0 hS ht hW⟩, hS.2.2.F ht⟩) hS.2.2.2.2 hd hC.2.2.2.2.2.2.2.2.2.2.1
theorem q_lret (hC : gC X Y cc own nL fr lo) {r : Int64 × gMem} {v : Int64} (hF : gF X Y (some .long) (gQl Y r)) (hd : decode cc pc = .ok (.lreturn, 1)) (he : (v, M) = r) : gWW X Y nL pc lv [.long v] M := by
  intro H locs ls hS h
  subst he
  rw [hF.2]
  exact W.lret hC.1 hC.2.1 hF.1 (fun t ht hW => ⟨⟨v, (), rfl, rfl, hC.s0 hS ht hW⟩, hS.2.2.F ht⟩) hS.2.2.2.2 hd hC.2.2.2.2.2.2.2.2.2.2.1
theorem q_vret (hC : gC X Y cc own nL fr lo) {r : gMem} (hF : gF X Y none (gQv Y r)) (hd : decode cc pc = .ok (.return_, 1)) (he : M = r) : gWW X Y nL pc lv [] M := by
  intro H locs ls hS h
  subst he
  rw [hF.2]
  exact W.vret hC.1 hC.2.1 hF.1 (fun t ht hW => ⟨⟨(), rfl, trivial, hC.s0 hS ht hW⟩, hS.2.2.F ht⟩) hS.2.2.2.2 hd hC.2.2.2.2.2.2.2.2.2.2.1
end GK
