/-! the memory of the whole system: a cell is (c, o); c is the house's number for o < 34, and 0 else; what a cell holds is M.1 c o (ints: fields by slot, elements by index) and M.2 o (longs by slot) -/
abbrev gMem : Type := (Nat → Nat → Nat → Int32) × (Nat → Nat → Int64)
def gup (M : gMem) (c o : Nat) (g : Nat → Int32) : gMem := (fun c' o' => if c' = c ∧ o' = o then g else M.1 c' o', M.2)
def gwr (M : gMem) (c o j : Nat) (v : Int32) : gMem := gup M c o (upd (M.1 c o) j v)
def gwl (M : gMem) (o k : Nat) (v : Int64) : gMem := (M.1, fun o' k' => if o' = o ∧ k' = k then v else M.2 o' k')
abbrev gY : Type := va_G × (Nat → Nat → Nat) × (Nat → ClassId) × (Nat → Nat) × (Nat → Nat)
abbrev gad (Y : gY) (c o : Nat) : Nat := Y.2.1 c o
abbrev gca (Y : gY) (k : Nat) : ClassId := Y.2.2.1 k
/-- lengths of the int arrays by their places; 0: no int array -/
def gtab : List Nat := [0, 7, 7, 7, 7, 7, 0, 0, 5, 5, 5, 5, 5, 5, 0, 7, 7, 7, 7, 7, 7, 7, 7, 0, 7, 7, 7, 7, 7, 7, 7, 7, 8, 8, 0, 0, 0, 150, 0, 7, 7, 0, 7, 7, 7, 7, 7, 7, 7, 128, 3, 0, 0, 0, 0, 0, 0, 0, 0, 0, 70, 3, 150, 2, 128, 7, 7, 7, 7, 16, 0, 140, 256, 2]
def glen (o : Nat) : Nat := gtab.getD o 0
def grow (Y : gY) (c b n : Nat) : Nat → Option Nat := fun i => if i < n then some (gad Y c (b + i)) else none
def gimg (Y : gY) : Nat → Option Nat := fun i => if i < 2 then some (gad Y (2 + i) 0) else none
def gob (Y : gY) (f : Nat → Int32) (g : Nat → Int64) (c o : Nat) : va_E := match o with
  | 0 => .inr (1, [.ref (gad Y 0 51), .ref (gad Y c 1), .ref (gad Y c 2), .ref (gad Y c 3), .ref (gad Y c 4), .ref (gad Y c 5), .ref (gad Y c 6), .ref (gad Y c 14), .ref (gad Y c 23), .ref (gad Y c 32), .ref (gad Y c 33), .int (f 11), .int (f 12), .int (f 13), .int (f 14), .int (f 15)])
  | 6 => .inr (3, [.ref (gad Y c 7), .int (f 1)])
  | 7 => .inl (gca Y 4, 6, .inr (.inr (.inr (.inr (grow Y c 8 6)))))
  | 14 => .inl (gca Y 4, 8, .inr (.inr (.inr (.inr (grow Y c 15 8)))))
  | 23 => .inl (gca Y 4, 8, .inr (.inr (.inr (.inr (grow Y c 24 8)))))
  | 34 => .inr (10, [.ref (gad Y 0 0), .ref (gad Y 1 0), .ref (gad Y 0 58), .ref (gad Y 0 35), .ref (gad Y 0 36), .ref (gad Y 0 38), .ref (gad Y 0 50), .long (g 7), .long (g 8)])
  | 35 => .inl (gca Y 1, 2, .inl f)
  | 36 => .inr (9, [.ref (gad Y 0 37), .int (f 1), .int (f 2), .int (f 3), .int (f 4), .int (f 5)])
  | 38 => .inr (7, [.ref (gad Y 0 39), .ref (gad Y 0 40), .ref (gad Y 0 41), .ref (gad Y 0 49), .int (f 4)])
  | 41 => .inl (gca Y 4, 7, .inr (.inr (.inr (.inr (grow Y 0 42 7)))))
  | 51 => .inl (gca Y 2, 6, .inr (.inr (.inr (.inr (grow Y 0 52 6)))))
  | 52 => .inr (4, [])
  | 53 => .inr (6, [])
  | 54 => .inr (0, [])
  | 55 => .inr (8, [])
  | 56 => .inr (2, [])
  | 57 => .inr (5, [])
  | 58 => .inl (gca Y 3, 2, .inr (.inr (.inr (.inr (gimg Y)))))
  | 59 => .inr (11, [.ref (gad Y 0 60), .long (g 1), .long (g 2), .ref (gad Y 0 61), .ref (gad Y 0 62), .int (f 5), .int (f 6), .int (f 7), .int (f 8), .int (f 9), .ref (gad Y 0 63), .int (f 11), .int (f 12), .ref (gad Y 0 64), .int (f 14), .ref (gad Y 0 65), .int (f 16), .ref (gad Y 0 66), .ref (gad Y 0 67), .int (f 19), .int (f 20), .int (f 21), .ref (gad Y 0 68), .ref (gad Y 0 69), .ref (gad Y 0 70), .ref (gad Y 0 71), .ref (gad Y 0 72), .ref (gad Y 0 73)])
  | _ => .inl (gca Y 1, 2, .inl f)
def gce (Y : gY) (f : Nat → Int32) (g : Nat → Int64) (c o : Nat) : va_E := if glen o = 0 then gob Y f g c o else .inl (gca Y 0, glen o, .inl f)
def gcel (Y : gY) (M : gMem) (c o : Nat) : va_E := gce Y (M.1 c o) (M.2 o) c o
def gPL : List (Nat × Nat) := (List.range 24).map (fun k => (0, 34 + k)) ++ ((List.range 34).map (fun k => (0, k)) ++ ((List.range 34).map (fun k => (1, k)) ++ ([(0, 58)] ++ ((List.range 34).map (fun k => (2, k)) ++ ((List.range 34).map (fun k => (3, k)) ++ (List.range 15).map (fun k => (0, 59 + k)))))))
def gV (c o : Nat) : Prop := (o < 34 ∧ c < 4) ∨ (34 ≤ o ∧ o < 74 ∧ c = 0)
theorem gV_h {c o : Nat} (hc : c < 4) (ho : o < 34) : gV c o := Or.inl ⟨ho, hc⟩
theorem gV_t {o : Nat} (h1 : 34 ≤ o) (h2 : o < 74) : gV 0 o := Or.inr ⟨h1, h2, rfl⟩
theorem gV_in {c o : Nat} (h : gV c o) : (c, o) ∈ gPL := by
  unfold gPL
  simp only [List.mem_append, List.mem_map, List.mem_range, List.mem_singleton, Prod.mk.injEq]
  rcases h with ⟨h1, h2⟩ | ⟨h1, h2, rfl⟩
  · rcases (show c = 0 ∨ c = 1 ∨ c = 2 ∨ c = 3 by omega) with rfl | rfl | rfl | rfl
    · exact Or.inr (Or.inl ⟨o, h1, rfl, rfl⟩)
    · exact Or.inr (Or.inr (Or.inl ⟨o, h1, rfl, rfl⟩))
    · exact Or.inr (Or.inr (Or.inr (Or.inr (Or.inl ⟨o, h1, rfl, rfl⟩))))
    · exact Or.inr (Or.inr (Or.inr (Or.inr (Or.inr (Or.inl ⟨o, h1, rfl, rfl⟩)))))
  · rcases (show o < 58 ∨ o = 58 ∨ 59 ≤ o by omega) with q | q | q
    · exact Or.inl ⟨o - 34, by omega, rfl, by omega⟩
    · exact Or.inr (Or.inr (Or.inr (Or.inl ⟨rfl, q⟩)))
    · exact Or.inr (Or.inr (Or.inr (Or.inr (Or.inr (Or.inr ⟨o - 59, by omega, rfl, by omega⟩)))))
def gW (Y : gY) (M : gMem) : va_W := gPL.map (fun q => (gad Y q.1 q.2, gcel Y M q.1 q.2))
def gA (Y : gY) : Nat → Prop := fun q => ∃ p ∈ gPL, q = gad Y p.1 p.2
def gTys (Y : gY) : List (ClassId × FieldType) := [(gca Y 0, .int), (gca Y 1, .boolean), (gca Y 2, .object "GuestStaff$Plain"), (gca Y 3, .object "GuestStaff$House"), (gca Y 4, .array .int)]
def gTs : List Cond := lw_tbl.filter goodWord
def gNst (w : Cond) : Bool := match w with
  | .fieldLinkNest .. => true
  | .methodLinkNest .. => true
  | _ => false
def gNW : List Cond := tables_1.filter gNst
def gStr (Y : gY) (U : State) : Prop :=
  vk_S 3 [5, 5, 4] [[104, 111, 117, 115, 101], [103, 117, 101, 115, 116], [100, 117, 116, 121]] Y.2.2.2.1 Y.2.2.2.2 (gA Y) U U.heap ∧ (vk_R "GuestStaff$Text" 39 "house" (Y.2.2.2.1 0) U ∧ vk_R "GuestStaff$Text" 53 "guest" (Y.2.2.2.1 1) U ∧ vk_R "GuestStaff$Text" 61 "duty" (Y.2.2.2.1 2) U) ∧ va_Z "java/lang/String" "COMPACT_STRINGS" "Z" (.int 1) (gA Y) U U.heap ∧ va_Zq "jdk/internal/util/Preconditions" "SIOOBE_FORMATTER" "Ljava/util/function/BiFunction;" (gA Y) U U.heap
def gS0 (Y : gY) (M : gMem) (U : State) : Prop := va_P Y.1 vwCl (gW Y M) U.heap ∧ va_D (gA Y) (gW Y M) ∧ va_K Y.1 vwCl (gTys Y) U ∧ (∀ w ∈ gNW, va_Nw w U) ∧ gStr Y U
def gSt (s : State) (Y : gY) (M : gMem) (H : Heap) (locs : List Loc) : Prop := va_P Y.1 vwCl (gW Y M) H ∧ va_D (gA Y) (gW Y M) ∧ va_S (gA Y) s.heap H locs
abbrev gX : Type := Program × Launch × Env × Room × State × MethodId × Array Value × List Frame × Method × Code × (State → Prop) × Nat × Nat
abbrev gxs (X : gX) : State := X.2.2.2.2.1
abbrev gxR (X : gX) : Room := X.2.2.2.1
abbrev gxm (X : gX) : MethodId := X.2.2.2.2.2.1
abbrev gxa (X : gX) : Array Value := X.2.2.2.2.2.2.1
abbrev gxb (X : gX) : List Frame := X.2.2.2.2.2.2.2.1
abbrev gxM (X : gX) : Method := X.2.2.2.2.2.2.2.2.1
abbrev gxc (X : gX) : Code := X.2.2.2.2.2.2.2.2.2.1
abbrev gxQ (X : gX) : State → Prop := X.2.2.2.2.2.2.2.2.2.2.1
abbrev gxk (X : gX) : Nat := X.2.2.2.2.2.2.2.2.2.2.2.1
abbrev gxn (X : gX) : Nat := X.2.2.2.2.2.2.2.2.2.2.2.2
def gWW (X : gX) (Y : gY) (nL pc : Nat) (lv : List (Nat × Value)) (st : List Value) (M : gMem) : Prop :=
  ∀ (H : Heap) (locs : List Loc) (ls : Array Slot), gSt (gxs X) Y M H locs → lv_has ls nL lv → W X.1 X.2.1 X.2.2.1 (gxR X) (gxs X) (gxm X) (gxa X) (gxb X) (gxM X) (gxc X) H locs (gxk X) (gxn X) (gxQ X) (F0 (gxm X) pc ls st)
def gC (X : gX) (Y : gY) (cc : ByteArray) (own : String) (nL fr lo : Nat) : Prop :=
  X.1.tables.exec = Jvm.exec ∧ (gxc X).code = cc ∧ (gxc X).maxLocals = nL ∧ (gxs X).vm.findClass own = some (gxm X).cls ∧ (∀ w ∈ gTs, w.before (gxa X) (gxs X) = true) ∧ va_K Y.1 vwCl (gTys Y) (gxs X) ∧ (∀ w ∈ gNW, va_Nw w (gxs X)) ∧ gStr Y (gxs X) ∧ (gxR X).frames = fr ∧ (gxR X).locals = lo ∧ (gxM X).locks = false ∧ gxk X ≤ (gxR X).cells ∧ gxn X ≤ (gxR X).slots
theorem gStr.kept {Y : gY} {s U : State} {H : Heap} {locs : List Loc} (h : gStr Y s) (hS : va_S (gA Y) s.heap H locs) (hU : U.heap = H) (hW : s.WarmedH U.vm) : gStr Y U := by
  obtain ⟨h1, ⟨h2, h3, h4⟩, h5, h6⟩ := h
  exact ⟨by rw [hU]; exact (h1.kept hS.2.1).moved hW.alike, ⟨h2.warm hW, h3.warm hW, h4.warm hW⟩, by rw [hU]; exact (h5.kept hS.2.1).moved hW.alike, by rw [hU]; exact (h6.kept hS.2.1).moved hW.alike⟩
theorem gNW.kept {s U : State} (h : ∀ w ∈ gNW, va_Nw w s) (hW : s.WarmedH U.vm) : ∀ w ∈ gNW, va_Nw w U := by
  intro w hw
  have h1 := h w hw
  have h2 := (List.mem_filter.mp hw).2
  cases w <;> first | (cases h2; done) | exact h1.warmF hW | exact h1.warmM hW
theorem gS0.blind {Y : gY} {M : gMem} (av : List Value) : FrameBlind (va_Pc av (gS0 Y M)) := by
  intro a U g mk q
  obtain ⟨q0, qP, qD, qK, qN, q1, ⟨q2, q3, q4⟩, q5, q6⟩ := q
  exact ⟨q0, qP, qD, va_K.moved (u := U) (U := U.calling g mk a) (Vm.Alike.refl U.vm) qK, fun w hw => va_Nw.same (u := U) (U := U.calling g mk a) (by
    have h2 := (List.mem_filter.mp hw).2
    cases w <;> first | (cases h2; done) | rfl) rfl (qN w hw), vk_S.moved (u := U) (U := U.calling g mk a) (Vm.Alike.refl U.vm) q1, ⟨vk_R.same (u := U) rfl q2, vk_R.same (u := U) rfl q3, vk_R.same (u := U) rfl q4⟩, va_Z.moved (u := U) (U := U.calling g mk a) (Vm.Alike.refl U.vm) q5, va_Zq.moved (u := U) (U := U.calling g mk a) (Vm.Alike.refl U.vm) q6⟩
section GC
variable {X : gX} {Y : gY} {cc : ByteArray} {own : String} {nL fr lo : Nat}
theorem gC.s0 {M : gMem} {H : Heap} {locs : List Loc} {U : State} (hC : gC X Y cc own nL fr lo) (hS : gSt (gxs X) Y M H locs) (hU : U.heap = H) (hW : (gxs X).WarmedH U.vm) : gS0 Y M U := by
  obtain ⟨-, -, -, -, -, hK, hN, hZ, -⟩ := hC
  exact ⟨by rw [hU]; exact hS.1, hS.2.1, va_K.moved hW.alike hK, gNW.kept hN hW, hZ.kept hS.2.2 hU hW⟩
end GC
