/-! the constructors' world: cells ws0 ++ l, with ws0 any; all lie from z on -/
def gAz (z : Nat) : Nat → Prop := fun q => z ≤ q
def gAOA (U : State) : Prop := (Cond.arrayOver (.array .int)).before #[] U = true
theorem gAOA.moved {u U : State} (hvm : u.vm.Alike U.vm) (h : gAOA u) : gAOA U := by
  obtain ⟨comp, c, k, h1, h2, h3, h4, h5⟩ := arrayOverA_spec h
  obtain ⟨k', hk', he⟩ := hvm.2.2 _ _ h3
  have hi : (U.vm.classes.findIdx? fun (x : Class) => match x.kind with | .array component _ => component == comp | _ => false) = some c := by
    rw [hvm.findIdx?_eq _ (fun _ => rfl)]
    exact h2
  have hkind : k'.kind = .array comp (.array .int) := by rw [he]; exact h4
  have f1 : U.vm.findClass (FieldType.array .int).toString = some comp := by rw [hvm.findClass]; exact h1
  have f2 : U.vm.findClass ("[" ++ (FieldType.array .int).toString) = some c := by rw [hvm.findClass]; exact h5
  unfold gAOA Cond.before Cond.holds
  simp only [Cond.value]
  rw [f1, Option.bind_some]
  refine (congrArg (fun o : Option Nat => (o.bind (fun c => (U.vm.classes[c]?).map fun (k : Class) => match k.kind with | .array _ ty => decide (ty = FieldType.array .int) && decide (U.vm.findClass ("[" ++ (FieldType.array .int).toString) = some c) | _ => false) == some true)) hi).trans ?_
  simp [hk', hkind, f2]
def gCas : List String := ["GuestStaff$Quiet", "GuestStaff$Banker", "GuestStaff$Shouter", "GuestStaff$Late", "GuestStaff$Polisher"]
def gZ (Y : gY) (U : State) : Prop := va_K Y.1 vwCl (gTys Y) U ∧ (∀ w ∈ gNW, va_Nw w U) ∧ va_AO "GuestStaff$Plain" U ∧ va_AO "GuestStaff$House" U ∧ gAOA U ∧ (∀ C ∈ gCas, va_Nw (.castable C "GuestStaff$Plain") U)
theorem gZ.warm {Y : gY} {s U : State} (h : gZ Y s) (hW : s.WarmedH U.vm) : gZ Y U := ⟨va_K.moved hW.alike h.1, gNW.kept h.2.1 hW, va_AO.moved hW.alike h.2.2.1, va_AO.moved hW.alike h.2.2.2.1, gAOA.moved hW.alike h.2.2.2.2.1, fun C hC => (h.2.2.2.2.2 C hC).warmC hW⟩
theorem gZ.same {Y : gY} {s U : State} (h : gZ Y s) (hv : s.vm = U.vm) : gZ Y U := by
  have ha : s.vm.Alike U.vm := hv ▸ Vm.Alike.refl s.vm
  refine ⟨va_K.moved ha h.1, fun w hw => va_Nw.same (u := s) (by
    have h2 := (List.mem_filter.mp hw).2
    cases w <;> first | (cases h2; done) | rfl) hv (h.2.1 w hw), va_AO.moved ha h.2.2.1, va_AO.moved ha h.2.2.2.1, gAOA.moved ha h.2.2.2.2.1, fun C hC => va_Nw.same (u := s) rfl hv (h.2.2.2.2.2 C hC)⟩
/-- a constructor's start -/
def gPn (Y : gY) (z : Nat) (ws : va_W) (U : State) : Prop := z ≤ U.heap.size ∧ va_P Y.1 vwCl ws U.heap ∧ va_D (gAz z) ws ∧ gZ Y U
theorem gPn.blind {Y : gY} {z : Nat} {ws : va_W} (av : List Value) : FrameBlind (va_Pc av (gPn Y z ws)) := by
  intro a U g mk q
  obtain ⟨q0, q1, q2, q3, q4⟩ := q
  exact ⟨q0, q1, q2, q3, q4.same rfl⟩
def gQn {S : Type} (Y : gY) (z : Nat) (fin : S → va_W) : Array Value → State → Outcome → State → Prop := va_Qv (fun (_ : S) => True) (fun u t => va_P Y.1 vwCl (fin u) t.heap ∧ va_D (gAz z) (fin u)) (gAz z)
def gCW (X : gX) (Y : gY) (z nL pc : Nat) (lv : List (Nat × Value)) (st : List Value) (ws : va_W) (k n : Nat) : Prop :=
  ∀ (H : Heap) (locs : List Loc) (ls : Array Slot), va_P Y.1 vwCl ws H → va_D (gAz z) ws → va_S (gAz z) (gxs X).heap H locs → lv_has ls nL lv → W X.1 X.2.1 X.2.2.1 (gxR X) (gxs X) (gxm X) (gxa X) (gxb X) (gxM X) (gxc X) H locs k n (gxQ X) (F0 (gxm X) pc ls st)
def gD (X : gX) (Y : gY) (cc : ByteArray) (own : String) (z nL fr lo K N : Nat) : Prop :=
  X.1.tables.exec = Jvm.exec ∧ (gxc X).code = cc ∧ (gxc X).maxLocals = nL ∧ (gxs X).vm.findClass own = some (gxm X).cls ∧ (∀ w ∈ gTs, w.before (gxa X) (gxs X) = true) ∧ gZ Y (gxs X) ∧ z ≤ (gxs X).heap.size ∧ (gxR X).frames = fr ∧ (gxR X).locals = lo ∧ (gxR X).cells = K ∧ (gxR X).slots = N ∧ (gxM X).locks = false
theorem ga_at {α : Type} {a l : List α} {k : Nat} : (a ++ l)[a.length + k]? = l[k]? := by
  rw [List.getElem?_append_right (Nat.le_add_right _ _), Nat.add_sub_cancel_left]
theorem ga_set {α : Type} {a l : List α} {k : Nat} {x : α} : (a ++ l).set (a.length + k) x = a ++ l.set k x := by
  rw [List.set_append_right _ _ (Nat.le_add_right _ _), Nat.add_sub_cancel_left]
section GN
variable {X : gX} {Y : gY} {cc : ByteArray} {own : String} {z nL fr lo K N pc k n : Nat} {lv : List (Nat × Value)} {st : List Value} {ws0 l : va_W}
theorem n_iconst (hC : gD X Y cc own z nL fr lo K N) {i : Int} (v : Int32) (hd : decode cc pc = .ok (.iconst i, 1)) (hv : Int32.ofInt i = v) (kk : gCW X Y z nL (pc + 1) lv (.int v :: st) l k n) : gCW X Y z nL pc lv st l k n := fun H locs ls h1 h2 h3 h => lv_iconst hC.1 hC.2.1 hd hv (kk H locs ls h1 h2 h3 h)
theorem n_bipush (hC : gD X Y cc own z nL fr lo K N) {i : Int} (v : Int32) (hd : decode cc pc = .ok (.bipush i, 2)) (hv : (Int8.ofInt i).toInt32 = v) (kk : gCW X Y z nL (pc + 2) lv (.int v :: st) l k n) : gCW X Y z nL pc lv st l k n := fun H locs ls h1 h2 h3 h => lv_bipush hC.1 hC.2.1 hd hv (kk H locs ls h1 h2 h3 h)
theorem n_sipush (hC : gD X Y cc own z nL fr lo K N) {i : Int} (v : Int32) (hd : decode cc pc = .ok (.sipush i, 3)) (hv : (Int16.ofInt i).toInt32 = v) (kk : gCW X Y z nL (pc + 3) lv (.int v :: st) l k n) : gCW X Y z nL pc lv st l k n := fun H locs ls h1 h2 h3 h => lv_sipush hC.1 hC.2.1 hd hv (kk H locs ls h1 h2 h3 h)
theorem n_lconst (hC : gD X Y cc own z nL fr lo K N) {i : Fin 2} (v : Int64) (hd : decode cc pc = .ok (.lconst i, 1)) (hv : Int64.ofNat (i : Nat) = v) (kk : gCW X Y z nL (pc + 1) lv (.long v :: st) l k n) : gCW X Y z nL pc lv st l k n := fun H locs ls h1 h2 h3 h => lv_lconst hC.1 hC.2.1 hd hv (kk H locs ls h1 h2 h3 h)
theorem n_aload_n (hC : gD X Y cc own z nL fr lo K N) {j : Fin 4} {i : Nat} (q : Nat) {x : Nat} (hd : decode cc pc = .ok (.aload_n j, 1)) (hi : (j : Nat) = i) (hq : lv[q]? = some (i, .ref x)) (kk : gCW X Y z nL (pc + 1) lv (.ref x :: st) l k n) : gCW X Y z nL pc lv st l k n := fun H locs ls h1 h2 h3 h => lv_aload_n hC.1 hC.2.1 hd hi (lv_at h q hq) (kk H locs ls h1 h2 h3 h)
theorem n_astore_n (hC : gD X Y cc own z nL fr lo K N) {j : Fin 4} {i : Nat} {x : Nat} (lv' : List (Nat × Value)) (hd : decode cc pc = .ok (.astore_n j, 1)) (hi : (j : Nat) = i) (hn : i < nL) (hl : (i, Value.ref x) :: lv.filter (fun q => !(q.1 == i) && !(q.1 + 1 == i && q.2.category == 2)) = lv') (kk : gCW X Y z nL (pc + 1) lv' st l k n) : gCW X Y z nL pc lv (.ref x :: st) l k n := fun H locs ls h1 h2 h3 h => lv_astore_n hC.1 hC.2.1 hd hi h hn hl (fun ls h => kk H locs ls h1 h2 h3 h)
theorem n_dup (hC : gD X Y cc own z nL fr lo K N) {v : Value} (hd : decode cc pc = .ok (.dup, 1)) (hv : v.category = 1) (kk : gCW X Y z nL (pc + 1) lv (v :: v :: st) l k n) : gCW X Y z nL pc lv (v :: st) l k n := fun H locs ls h1 h2 h3 h => lv_dup hC.1 hC.2.1 hd hv (kk H locs ls h1 h2 h3 h)
theorem n_wid (k' n' : Nat) (h1 : k ≤ k') (h2 : n ≤ n') (kk : gCW X Y z nL pc lv st l k' n') : gCW X Y z nL pc lv st l k n := fun H locs ls a1 a2 a3 h => W.widen h1 h2 (kk H locs ls a1 a2 a3 h)
theorem n_obj (hC : gD X Y cc own z nL fr lo K N) {idx x : Nat} (hl : Cond.methodLink own idx objectInit ∈ gTs) (ho : Cond.instanceMethod objectInit ∈ gTs ∧ Cond.code objectInit ⟨#[0xb1]⟩ 1 none ∈ gTs) (hd : decode cc pc = .ok (.invokespecial idx, 3)) (hfr : 1 ≤ fr) (hlo : (st.map fun v => v.category).sum + 12 ≤ lo) (kk : gCW X Y z nL (pc + 3) lv st l k n) : gCW X Y z nL pc lv (.ref x :: st) l k n := by
  intro H locs ls h1 h2 h3 h
  have hts := hC.2.2.2.2.1
  have hR := hC.2.2.2.2.2.2.2
  exact W.objInit hC.1 hC.2.1 hC.2.2.2.1 (hts _ hl) (hts _ ho.1) (hts _ ho.2) rfl (by rw [hC.2.2.1]; exact h.1) rfl hd (by rw [hR.1]; exact hfr) (by rw [hR.2.1]; show 2 * 0 + _ + 12 ≤ _; omega) (kk H locs ls h1 h2 h3 h)
theorem n_newa (hC : gD X Y cc own z nL fr lo K N) {at_ : ArrayType} {ty : FieldType} {i : Int32} {t0 : Nat} {cA : ClassId} (m : Nat) (hty : newarray.typeOf at_ = ty) (hw : Cond.arrayClass ty ∈ gTs) (ht : (gTys Y)[t0]? = some (cA, ty)) (hRA : ∀ (U : State) (c : ClassId), va_RA U c ty → U.vm.findClass ("[" ++ ty.toString) = some c) (hdv : defaultValue ty = .int 0) (hi : ¬ i < 0) (hm : i.toNatClampNeg = m) (hb : m * componentBytes ty ≤ 536870912) (hk : k + 1 ≤ K) (hn : n + m ≤ N) (hd : decode cc pc = .ok (.newarray at_, 2))
    (kk : ∀ q : Nat, gCW X Y z nL (pc + 2) lv (.ref q :: st) (ws0 ++ (l ++ [(q, .inl (cA, m, .inl (fun _ => 0)))])) (k + 1) (n + m)) : gCW X Y z nL pc lv (.int i :: st) (ws0 ++ l) k n := by
  intro H locs ls h1 h2 h3 h
  have hts := hC.2.2.2.2.1
  have hR := hC.2.2.2.2.2.2.2
  subst hty
  refine va_newa (D := Y.1) (a0 := (m, .inl (fun _ => 0))) hC.1 hC.2.1 (hts _ hw) rfl hC.2.2.2.2.2.1.1 h1 h2 h3 (fun q hq => Nat.le_trans hC.2.2.2.2.2.2.1 hq) (fun c => by rw [vp_cell_i, hdv]) hi hm hb (by rw [hR.2.2.1]; exact hk) (by rw [hR.2.2.2.1]; exact hn) hd (fun q cA' H1 g1 g2 g3 g4 => ?_)
  have e : cA' = cA := by
    have a1 := hRA _ _ (hC.2.2.2.2.2.1.1.2 t0 _ ht).2
    have a2 := hRA _ _ (g1.2 (gTys Y).length (cA', newarray.typeOf at_) (by rw [List.getElem?_append_right (Nat.le_refl _), Nat.sub_self]; rfl)).2
    exact Option.some.inj (a2.symm.trans a1)
  subst e
  rw [List.append_assoc] at g2 g3
  exact kk q H1 locs ls g2 g3 g4 h
theorem n_new (hC : gD X Y cc own z nL fr lo K N) {C : String} {T : u_T} {M ci idx : Nat} {ty : Nat → FieldType} (fs : List Value) (hc : vwCl[ci]? = some (C, T, M)) (hin : ∀ w ∈ u_ws C T M, w ∈ gTs) (hty : ∀ k, k < M → parseFieldDescriptor (T k).2.2.1 = some (ty k)) (hcl : Cond.classLink own idx C ∈ gTs) (hinst : Cond.instantiable C M ∈ gTs) (hini : Cond.initialized C ∈ gTs) (hfs : ∀ j, j < M → defaultValue (ty j) = vp_V fs j) (hk : k + 1 ≤ K) (hn : n + M ≤ N) (hd : decode cc pc = .ok (.new idx, 3))
    (kk : ∀ q : Nat, gCW X Y z nL (pc + 3) lv (.ref q :: st) (ws0 ++ (l ++ [(q, .inr (ci, fs))])) (k + 1) (n + M)) : gCW X Y z nL pc lv st (ws0 ++ l) k n := by
  intro H locs ls h1 h2 h3 h
  have hts := hC.2.2.2.2.1
  have hR := hC.2.2.2.2.2.2.2
  refine va_new (D := Y.1) hC.1 hC.2.1 hts hin ty hty hC.2.2.2.1 (hts _ hcl) (hts _ hinst) (hts _ hini) hC.2.2.2.2.2.1.1 h1 h2 h3 (fun q hq => Nat.le_trans hC.2.2.2.2.2.2.1 hq) hc hfs (by rw [hR.2.2.1]; exact hk) (by rw [hR.2.2.2.1]; exact hn) hd (fun q H1 g2 g3 g4 => ?_)
  rw [List.append_assoc] at g2 g3
  exact kk q H1 locs ls g2 g3 g4 h
theorem n_anew (hC : gD X Y cc own z nL fr lo K N) {C : String} {idx t0 : Nat} {i : Int32} {cA : ClassId} (m : Nat) (hcl : Cond.classLink own idx C ∈ gTs) (hao : va_AO C (gxs X)) (ht : (gTys Y)[t0]? = some (cA, .object C)) (hi : ¬ i < 0) (hm : i.toNatClampNeg = m) (hb : m * 4 ≤ 536870912) (hk : k + 1 ≤ K) (hn : n + m ≤ N) (hd : decode cc pc = .ok (.anewarray idx, 3))
    (kk : ∀ q : Nat, gCW X Y z nL (pc + 3) lv (.ref q :: st) (ws0 ++ (l ++ [(q, .inl (cA, m, .inr (.inr (.inr (.inr (fun _ => none))))))])) (k + 1) (n + m)) : gCW X Y z nL pc lv (.int i :: st) (ws0 ++ l) k n := by
  intro H locs ls h1 h2 h3 h
  have hts := hC.2.2.2.2.1
  have hR := hC.2.2.2.2.2.2.2
  refine va_newq (D := Y.1) hC.1 hC.2.1 hC.2.2.2.1 (hts _ hcl) hao hC.2.2.2.2.2.1.1 h1 h2 h3 (fun q hq => Nat.le_trans hC.2.2.2.2.2.2.1 hq) hi hm hb (by rw [hR.2.2.1]; exact hk) (by rw [hR.2.2.2.1]; exact hn) hd (fun q cA' H1 g1 g2 g3 g4 => ?_)
  have e : cA' = cA := by
    obtain ⟨-, -, -, -, -, a1⟩ := (hC.2.2.2.2.2.1.1.2 t0 _ ht).2
    obtain ⟨-, -, -, -, -, a2⟩ := (g1.2 (gTys Y).length (cA', .object C) (by rw [List.getElem?_append_right (Nat.le_refl _), Nat.sub_self]; rfl)).2
    exact Option.some.inj (a2.symm.trans a1)
  subst e
  rw [List.append_assoc] at g2 g3
  exact kk q H1 locs ls g2 g3 g4 h
theorem n_put (hC : gD X Y cc own z nL fr lo K N) {a j p idx ci M : Nat} {C : String} {T : u_T} {fs : List Value} {v : Value} {ty : FieldType} {ty0 : Nat → FieldType} (l' : va_W) (he : l[p]? = some (a, .inr (ci, fs))) (hc : vwCl[ci]? = some (C, T, M)) (hin : ∀ w ∈ u_ws C T M, w ∈ gTs) (hty : ∀ k, k < M → parseFieldDescriptor (T k).2.2.1 = some (ty0 k)) (hnm : ∀ a, a < M → ∀ b, b < M → a ≠ b → (T a).2.1 ≠ (T b).2.1) (hj : j < M) (hl : Cond.fieldLink own idx (T j).1 (T j).2.1 (T j).2.2.1 ∈ gTs) (hfin : (T j).2.2.2 = false) (hdd : parseFieldDescriptor (T j).2.2.1 = some ty) (hn : narrow ty v = v) (hf : fits ty v = true) (hlen : j < fs.length) (hl' : l.set p (a, .inr (ci, fs.set j v)) = l') (hd : decode cc pc = .ok (.putfield idx, 3)) (kk : gCW X Y z nL (pc + 3) lv st (ws0 ++ l') k n) : gCW X Y z nL pc lv (v :: .ref a :: st) (ws0 ++ l) k n := by
  intro H locs ls h1 h2 h3 h
  have hts := hC.2.2.2.2.1
  refine va_put (D := Y.1) (ref := (T j).1) (A := gAz z) hC.1 hC.2.1 hts hin ty0 hty hnm hC.2.2.2.1 hC.2.2.2.2.2.1.1 h1 h2 h3 (ws0.length + p) (by rw [ga_at]; exact he) hc j hj (hts _ hl) (fun _ h9 => h9) hfin hdd hn hf hlen hd (fun H1 locs1 g1 g2 g3 => ?_)
  rw [ga_set, hl'] at g1 g2
  exact kk H1 locs1 ls g1 g2 g3 h
theorem n_putF (hC : gD X Y cc own z nL fr lo K N) {a j p idx ci M : Nat} {C : String} {T : u_T} {fs : List Value} {v : Value} {ty : FieldType} {ty0 : Nat → FieldType} (l' : va_W) (hmn : (gxM X).name = "<init>") (he : l[p]? = some (a, .inr (ci, fs))) (hc : vwCl[ci]? = some (C, T, M)) (hin : ∀ w ∈ u_ws C T M, w ∈ gTs) (hty : ∀ k, k < M → parseFieldDescriptor (T k).2.2.1 = some (ty0 k)) (hnm : ∀ a, a < M → ∀ b, b < M → a ≠ b → (T a).2.1 ≠ (T b).2.1) (hj : j < M) (hl : Cond.fieldLink own idx (T j).1 (T j).2.1 (T j).2.2.1 ∈ gTs) (hfin : (T j).2.2.2 = true) (hdec : (T j).1 = own) (hdd : parseFieldDescriptor (T j).2.2.1 = some ty) (hn : narrow ty v = v) (hf : fits ty v = true) (hlen : j < fs.length) (hl' : l.set p (a, .inr (ci, fs.set j v)) = l') (hd : decode cc pc = .ok (.putfield idx, 3)) (kk : gCW X Y z nL (pc + 3) lv st (ws0 ++ l') k n) : gCW X Y z nL pc lv (v :: .ref a :: st) (ws0 ++ l) k n := by
  intro H locs ls h1 h2 h3 h
  have hts := hC.2.2.2.2.1
  refine va_putF (D := Y.1) (ref := (T j).1) (A := gAz z) hC.1 hC.2.1 hts hin ty0 hty hnm hC.2.2.2.1 hC.2.2.2.2.2.1.1 h1 h2 h3 (ws0.length + p) (by rw [ga_at]; exact he) hc j hj (hts _ hl) (fun _ h9 => h9) hfin hmn hdec hdd hn hf hlen hd (fun H1 locs1 g1 g2 g3 => ?_)
  rw [ga_set, hl'] at g1 g2
  exact kk H1 locs1 ls g1 g2 g3 h
/-- aastore of an object of class r into a row of E -/
theorem n_ast (hC : gD X Y cc own z nL fr lo K N) {a v p pk t0 ci m : Nat} {i : Int32} {E : String} {cA : ClassId} {r : vw_C} {vs : List Value} {f : Nat → Option Nat} (l' : va_W) (ha : l[p]? = some (a, .inl (cA, m, .inr (.inr (.inr (.inr f)))))) (ht : (gTys Y)[t0]? = some (cA, .object E)) (hca : r.1 = E ∨ va_Nw (.castable r.1 E) (gxs X)) (hv : l[pk]? = some (v, .inr (ci, vs))) (hc : vwCl[ci]? = some r) (hi : vp_in i m) (hl' : l.set p (a, .inl (cA, m, .inr (.inr (.inr (.inr (va_up f i.toNatClampNeg (some v))))))) = l') (hd : decode cc pc = .ok (.aastore, 1)) (kk : gCW X Y z nL (pc + 1) lv st (ws0 ++ l') k n) : gCW X Y z nL pc lv (.ref v :: .int i :: .ref a :: st) (ws0 ++ l) k n := by
  intro H locs ls h1 h2 h3 h
  rcases hca with rfl | hca
  · refine va_astq (D := Y.1) (A := gAz z) hC.1 hC.2.1 hC.2.2.2.2.2.1.1 h1 h2 h3 (ws0.length + p) t0 (ws0.length + pk) ci (by rw [ga_at]; exact ha) ht (by rw [ga_at]; exact hv) hc hi hd (fun H1 locs1 g1 g2 g3 => ?_)
    rw [ga_set, hl'] at g1 g2
    exact kk H1 locs1 ls g1 g2 g3 h
  · refine va_astqO (D := Y.1) (A := gAz z) hC.1 hC.2.1 hC.2.2.2.2.2.1.1 h1 h2 h3 (ws0.length + p) t0 (ws0.length + pk) ci (by rw [ga_at]; exact ha) ht hca (by rw [ga_at]; exact hv) hc hi hd (fun H1 locs1 g1 g2 g3 => ?_)
    rw [ga_set, hl'] at g1 g2
    exact kk H1 locs1 ls g1 g2 g3 h
/-- a constructor's end -/
theorem n_ret (hC : gD X Y cc own z nL fr lo K N) {S : Type} {fin : S → va_W} (u : S) (hr : (gxM X).sig.returnType = none) (hQ : gxQ X = MQ (gxb X) (gQn Y z fin) (gxa X) (gxs X) k n (gAz z)) (hu : fin u = ws0 ++ l) (hd : decode cc pc = .ok (.return_, 1)) : gCW X Y z nL pc lv [] (ws0 ++ l) k n := by
  intro H locs ls h1 h2 h3 h
  rw [hQ]
  exact W.vret hC.1 hC.2.1 hr (fun t ht hW => ⟨⟨u, rfl, trivial, by rw [hu, ht]; exact h1, by rw [hu]; exact h2⟩, h3.F ht⟩) h3.2.2 hd hC.2.2.2.2.2.2.2.2.2.2.2
end GN
