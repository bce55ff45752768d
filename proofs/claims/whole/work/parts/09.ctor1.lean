/-! new int[a][b] over the machine itself: the outer row first, then each inner row, made and hung on it -/
section GM2
/-- the outer row, when the first i inner rows hang on it -/
def gmO (cA : ClassId) (a q i : Nat) : Cell := arrV cA a (fun j => va_rf (if j < i then some (q + 1 + j) else none))
/-- an inner row -/
def gmI (cI : ClassId) (b : Nat) : Cell := arrV cI b (fun _ => .int 0)
/-- the state, when i inner rows are there -/
def gmS (S : State) (cA cI : ClassId) (a b : Nat) : Nat → State
  | 0 => S.pushCell (gmO cA a S.heap.size 0)
  | i + 1 => ((gmS S cA cI a b i).pushCell (gmI cI b)).setCell S.heap.size ((gmO cA a S.heap.size i).setSlot i (.ref (S.heap.size + 1 + i)))
theorem gmO_hang (cA : ClassId) (a q i : Nat) : (gmO cA a q i).setSlot i (.ref (q + 1 + i)) = gmO cA a q (i + 1) := by
  unfold gmO
  rw [arrV_store]
  refine congrArg (arrV cA a) (funext fun j => ?_)
  show (if j = i then Value.ref (q + 1 + i) else va_rf (if j < i then some (q + 1 + j) else none)) = va_rf (if j < i + 1 then some (q + 1 + j) else none)
  rcases Nat.lt_trichotomy j i with h | h | h
  · rw [if_neg (Nat.ne_of_lt h), if_pos h, if_pos (Nat.lt_succ_of_lt h)]
  · rw [if_pos h, if_pos (by omega), h]
    rfl
  · rw [if_neg (Nat.ne_of_gt h), if_neg (by omega), if_neg (by omega)]
theorem gmO_new (cA : ClassId) (a q : Nat) : ({ cls := cA, slots := Array.replicate a .null } : Cell) = gmO cA a q 0 :=
  (arrV_new cA a .null).trans (congrArg (arrV cA a) (funext fun j => by rw [if_neg (Nat.not_lt_zero j)]; rfl))
theorem gmI_new (cI : ClassId) (b : Nat) : ({ cls := cI, slots := Array.replicate b (defaultValue .int) } : Cell) = gmI cI b := arrV_new cI b (.int 0)
theorem gmS_is (S : State) (cA cI : ClassId) (a b : Nat) (i : Nat) : (gmS S cA cI a b i).heap.size = S.heap.size + 1 + i ∧ (gmS S cA cI a b i).vm = S.vm ∧ (gmS S cA cI a b i).slotsUsed = S.slotsUsed + a + i * b
    ∧ (gmS S cA cI a b i).heap[S.heap.size]? = some (gmO cA a S.heap.size i) ∧ (∀ x : Nat, x < S.heap.size → (gmS S cA cI a b i).heap[x]? = S.heap[x]?) ∧ (∀ j : Nat, j < i → (gmS S cA cI a b i).heap[S.heap.size + 1 + j]? = some (gmI cI b)) := by
  induction i with
  | zero =>
    refine ⟨by simp [gmS], rfl, ?_, by simp [gmS], fun x hx => State.heap_pushCell_of_lt _ _ hx, fun j hj => absurd hj (Nat.not_lt_zero j)⟩
    show S.slotsUsed + (gmO cA a S.heap.size 0).slots.size = S.slotsUsed + a + 0 * b
    rw [show (gmO cA a S.heap.size 0).slots.size = a from arrV_size cA a _]
    omega
  | succ i ih =>
    obtain ⟨s1, s2, s3, s4, s5, s6⟩ := ih
    have l0 : S.heap.size < (gmS S cA cI a b i).heap.size := by omega
    have hz : (gmI cI b).slots.size = b := arrV_size cI b _
    refine ⟨?_, ?_, ?_, ?_, fun x hx => ?_, fun j hj => ?_⟩
    · simp [gmS, State.setCell, s1]
      omega
    · simp [gmS, s2]
    · simp [gmS, s3, hz, Nat.succ_mul]
      omega
    · rw [← gmO_hang]
      exact State.heap_setCell_self (by rw [State.heap_pushCell_of_lt (h := l0)]; exact s4)
    · refine (State.heap_setCell_other (Nat.ne_of_gt hx)).trans ?_
      rw [State.heap_pushCell_of_lt (h := Nat.lt_trans hx l0)]
      exact s5 x hx
    · have ne : S.heap.size ≠ S.heap.size + 1 + j := by omega
      refine (State.heap_setCell_other ne).trans ?_
      by_cases e : j < i
      · have l1 : S.heap.size + 1 + j < (gmS S cA cI a b i).heap.size := by omega
        rw [State.heap_pushCell_of_lt (h := l1)]
        exact s6 j e
      · have e1 : S.heap.size + 1 + j = (gmS S cA cI a b i).heap.size := by omega
        rw [e1]
        exact State.heap_pushCell_size _ _
theorem gmS_top (S : State) (f : JFrame) (cA cI : ClassId) (a b : Nat) (i : Nat) : gmS (S.setTop f) cA cI a b i = (gmS S cA cI a b i).setTop f := by
  induction i with
  | zero => rfl
  | succ i ih =>
    show ((gmS (S.setTop f) cA cI a b i).pushCell _).setCell _ _ = _
    rw [ih]
    rfl
end GM2
section GM3
variable {E : CtlPost} {e : Env} {d : Bool} {acts : List Action} {S : State}
theorem gm_inner {cI c0 : ClassId} {kI : Class} {m : Int32} (hk : S.vm.classes[cI]? = some kI) (hkind : kI.kind = .array c0 .int) (hm : ¬ m < 0) (h1 : ¬ m.toNatClampNeg > e.platform.arrayLengthLimit) (h2 : ¬ m.toNatClampNeg * componentBytes .int > e.platform.maxHeapBytes)
    (h3 : S.heap.size < e.platform.maxCells) (h4 : S.slotsUsed + m.toNatClampNeg ≤ e.platform.maxSlots) {Q : Addr → Pre} (hq : ∀ acts', Q S.heap.size d acts' (S.pushCell (gmI cI m.toNatClampNeg))) : wp (multianewarray.make cI [m]) Q E e d acts S := by
  rw [multianewarray.make]
  simp only [wp_bind', W.ite, hm, if_false, wp_pure', W.theClass, hk, hkind, Option.some.injEq, exists_eq_left']
  refine W.newArray_of hk hkind h1 h2 h3 h4 rfl (fun acts' => ?_)
  rw [gmI_new]
  exact hq acts'
theorem gm_make {cA cI c0 : ClassId} {kA kI : Class} {n m : Int32} (hA : S.vm.classes[cA]? = some kA) (hkA : kA.kind = .array cI (.array .int)) (hI : S.vm.classes[cI]? = some kI) (hkI : kI.kind = .array c0 .int) (hn : ¬ n < 0) (hm : ¬ m < 0)
    (h1 : ¬ n.toNatClampNeg > e.platform.arrayLengthLimit) (h2 : ¬ n.toNatClampNeg * componentBytes (.array .int) > e.platform.maxHeapBytes) (h3 : ¬ m.toNatClampNeg > e.platform.arrayLengthLimit) (h4 : ¬ m.toNatClampNeg * componentBytes .int > e.platform.maxHeapBytes)
    (h5 : S.heap.size + (1 + n.toNatClampNeg) ≤ e.platform.maxCells) (h6 : S.slotsUsed + (n.toNatClampNeg + n.toNatClampNeg * m.toNatClampNeg) ≤ e.platform.maxSlots)
    {Q : Addr → Pre} (hq : ∀ d' acts', Q S.heap.size d' acts' (gmS S cA cI n.toNatClampNeg m.toNatClampNeg n.toNatClampNeg)) : wp (multianewarray.make cA [n, m]) Q E e d acts S := by
  generalize ha : n.toNatClampNeg = a at h1 h2 h5 h6 hq
  generalize hb : m.toNatClampNeg = b at h3 h4 h6 hq
  have hbad : List.find? (fun x : Int32 => decide (x < 0)) [m] = none := by simp [hm]
  rw [multianewarray.make]
  simp only [wp_bind', W.ite, hn, if_false, wp_pure', W.theClass, hA, hkA, Option.some.injEq, exists_eq_left', ha]
  refine W.newArray_of hA hkA h1 h2 (by omega) (by omega) rfl (fun acts1 => ?_)
  rw [gmO_new cA a S.heap.size]
  simp only [hbad]
  rw [ite_self, wp_bind', Std.Legacy.Range.forIn_eq_forIn_range']
  rw [show ([:a] : Std.Legacy.Range).size = a by simp [Std.Legacy.Range.size]]
  refine wp_forIn_inv (fun todo U => ∃ i, i + todo.length = a ∧ todo = List.range' i todo.length ∧ U = gmS S cA cI a b i) _ _ ⟨0, by simp, by simp, rfl⟩ ?_ ?_
  · rintro x todo U d1 acts2 Q1 ⟨i, e1, e2, rfl⟩ hnext
    rw [List.length_cons] at e1 e2
    rw [List.range'_succ] at e2
    injection e2 with e3 e4
    subst e3
    obtain ⟨s1, s2, s3, s4, -, -⟩ := gmS_is S cA cI a b x
    have hmul : x * b + b ≤ a * b := by
      have := Nat.mul_le_mul_right b (show x + 1 ≤ a by omega)
      rw [Nat.succ_mul] at this
      exact this
    simp only [wp_bind']
    refine gm_inner (by rw [s2]; exact hI) hkI hm (by rw [hb]; exact h3) (by rw [hb]; exact h4) (by omega) (by rw [hb]; omega) (fun acts3 => ?_)
    rw [hb]
    simp only [wp_bind', W.writeLoc, wp_pure']
    have hz : (gmO cA a S.heap.size x).slots.size = a := arrV_size cA a _
    have l0 : S.heap.size < (gmS S cA cI a b x).heap.size := by omega
    refine ⟨gmO cA a S.heap.size x, (State.heap_pushCell_of_lt _ _ l0).trans s4, (fun h => by cases h), by rw [hz]; omega, ?_, hnext _ _ _ ⟨x + 1, by omega, e4, ?_⟩⟩
    · show State.fitsSlot _ cA .none _ _ = true
      simp [State.fitsSlot, State.slotType?, s2, hA, hkA, fits]
    · rw [s1]
      rfl
  · rintro U d1 acts2 ⟨i, e1, -, rfl⟩
    have e2 : i = a := by simpa using e1
    subst e2
    simp only [wp_pure']
    exact hq _ _
end GM3
section GM4
variable {p : Program} {l : Launch} {e : Env} {R : Room} {s : State} {m : MethodId} {args : Array Value} {below : List Frame} {meth : Method} {c : Code} {T : State} {locs : List Loc} {cells slots : Nat}
theorem gm_stand (X : Stand p l e R s m args below meth c T locs cells slots) (cA cI : ClassId) (a b i : Nat) : Stand p l e R s m args below meth c (gmS T cA cI a b i) locs (cells + 1 + i) (slots + a + i * b) := by
  induction i with
  | zero =>
    have h := X.pushed (gmO cA a T.heap.size 0)
    rw [show (gmO cA a T.heap.size 0).slots.size = a from arrV_size cA a _] at h
    simpa [gmS] using h
  | succ i ih =>
    obtain ⟨s1, -, -, s4, -, -⟩ := gmS_is T cA cI a b i
    have hc : ((gmS T cA cI a b i).pushCell (gmI cI b)).heap[T.heap.size]? = some (gmO cA a T.heap.size i) := by
      have l0 : T.heap.size < (gmS T cA cI a b i).heap.size := by omega
      exact (State.heap_pushCell_of_lt _ _ l0).trans s4
    have h := Stand.dropFresh ((ih.pushed (gmI cI b)).stored hc i (.ref (T.heap.size + 1 + i))) (fun x hx => by
      rw [List.mem_singleton.mp hx]
      exact X.heapGrown)
    rw [show (gmI cI b).slots.size = b from arrV_size cI b _] at h
    rw [show slots + a + (i + 1) * b = slots + a + i * b + b by rw [Nat.succ_mul]; omega]
    exact h
/-- the class of rows of int rows, by the atom -/
theorem gm_over {v : Array Value} {U : State} (h : (Cond.arrayOver (.array .int)).before v U = true) : ∃ cI cA kA, U.vm.findClass "[I" = some cI ∧ U.vm.findClass "[[I" = some cA ∧ U.vm.classes[cA]? = some kA ∧ kA.kind = .array cI (.array .int) := by
  have e1 : (FieldType.array .int).toString = "[I" := by decide
  have e2 : "[" ++ (FieldType.array .int).toString = "[[I" := by decide
  simp only [Cond.before, Cond.holds, Cond.value, beq_iff_eq, e1, e2] at h
  obtain ⟨cI, f1, h⟩ := Option.bind_eq_some_iff.mp h
  obtain ⟨cA, f2, h⟩ := Option.bind_eq_some_iff.mp h
  obtain ⟨kA, f3, h⟩ := Option.map_eq_some_iff.mp h
  obtain ⟨lt, hp, -⟩ := Array.findIdx?_eq_some_iff_getElem.mp f2
  rw [(Array.getElem?_eq_some_iff.mp f3).2] at hp
  cases hkd : kA.kind with
  | array cc ty =>
    simp only [hkd, Bool.and_eq_true, decide_eq_true_eq, beq_iff_eq] at h hp
    exact ⟨cI, cA, kA, f1, h.2, f3, by rw [hkd, hp, h.1]⟩
  | _ =>
    simp only [hkd] at h
    cases h
theorem gm_row (X : Stand p l e R s m args below meth c T locs cells slots) (hx : p.tables.exec = Jvm.exec) {own : String} {idx : Nat} (hown : s.vm.findClass own = some m.cls) (hcl : (Cond.classLink own idx "[[I").before args s = true) (hov : (Cond.arrayOver (.array .int)).before args s = true) (hac : (Cond.arrayClass .int).before args s = true)
    {g : JFrame} (hg : g.method = m) (hd : decode c.code g.pc = .ok (.multianewarray idx 2, 4)) {i j : Int32} {st : List Value} (hst : g.stack = .int j :: .int i :: st) (hi : ¬ i < 0) (hj : ¬ j < 0) (b1 : i.toNatClampNeg * 4 ≤ 536870912) (b2 : j.toNatClampNeg * componentBytes .int ≤ 536870912) (b3 : j.toNatClampNeg ≤ 536870912)
    (hk : cells + (1 + i.toNatClampNeg) ≤ R.cells) (hs : slots + (i.toNatClampNeg + i.toNatClampNeg * j.toNatClampNeg) ≤ R.slots) :
    ∃ (vm₁ : Vm) (cA cI : ClassId), s.vm.findClass "[[I" = some cA ∧ s.vm.findClass "[I" = some cI ∧ Stand p l e R s m args below meth c (gmS (T.setVm vm₁) cA cI i.toNatClampNeg j.toNatClampNeg i.toNatClampNeg) locs (cells + 1 + i.toNatClampNeg) (slots + i.toNatClampNeg + i.toNatClampNeg * j.toNatClampNeg)
      ∧ ∀ t, Steps p.tables e below ((gmS (T.setVm vm₁) cA cI i.toNatClampNeg j.toNatClampNeg i.toNatClampNeg).setTop { g with pc := g.pc + 4, stack := .ref T.heap.size :: st }) t → Steps p.tables e below (T.setTop g) t := by
  subst hg
  obtain ⟨cI, cA, kA, fI, fA, hA, hkA⟩ := gm_over hov
  obtain ⟨cI', kI, c0, fI', hI, hkI⟩ := Cond.arrayClass_spec hac
  obtain rfl : cI' = cI := Option.some.inj (fI'.symm.trans fI)
  obtain ⟨cA', fA', hlk⟩ := Cond.classLink_spec hown hcl e.platform (by rw [X.admits.platform])
  obtain rfl : cA' = cA := Option.some.inj (fA'.symm.trans fA)
  obtain ⟨hgive, hwarm, -⟩ := State.classEntry (e := e) X.warmed hlk
  generalize T.vm.noted g.method.cls idx (.cls cA') = vm₁ at hgive hwarm
  obtain ⟨kA1, hA1, eA⟩ := hwarm.alike.2.2 _ _ hA
  obtain ⟨kI1, hI1, eI⟩ := hwarm.alike.2.2 _ _ hI
  have hkA1 : kA1.kind = .array cI' (.array .int) := by rw [eA]; exact hkA
  have hkI1 : kI1.kind = .array c0 .int := by rw [eI]; exact hkI
  have XS := gm_stand (X.noted hwarm) cA' cI' i.toNatClampNeg j.toNatClampNeg i.toNatClampNeg
  obtain ⟨r1, r2⟩ := X.roomAbove hk hs
  refine ⟨vm₁, cA', cI', fA, fI, XS, fun t ht => ?_⟩
  jvm_step X.here [hx, hd]
  simp only [multianewarray.sem, wp_bind', W.resolveClassAt_links (State.method?_setTop g X.here.top) hgive]
  rw [W.popN, if_neg (by decide)]
  refine ⟨g, State.topJava?_setTop' (s := T.setVm vm₁) g X.here.top, [.int i, .int j], st, rfl, hst, ?_⟩
  simp only [List.mapM_cons, List.mapM_nil, wp_bind', wp_pure']
  rw [show ((T.setTop g).setVm vm₁).setTop { g with stack := st } = (T.setVm vm₁).setTop { g with stack := st } from State.setTop_setTop (T.setVm vm₁) g { g with stack := st }]
  refine gm_make (S := (T.setVm vm₁).setTop { g with stack := st }) hA1 hkA1 hI1 hkI1 hi hj (by rw [Launch.admits_arrayLengthLimit X.admits]; omega) (by rw [Launch.admits_maxHeapBytes X.admits]; show ¬ i.toNatClampNeg * 4 > 536870912; omega) (by rw [Launch.admits_arrayLengthLimit X.admits]; omega) (by rw [Launch.admits_maxHeapBytes X.admits]; omega) r1 r2 (fun d' acts' => ?_)
  rw [gmS_top]
  simp only [wp_bind', W.mark, W.pushRef, State.topJava?_setTop' _ XS.here.top, Option.some.injEq, exists_eq_left', State.setTop_setTop, State.heap_setTop]
  intro acts1
  simp [jvm, XS.here.top]
  exact ht
end GM4
