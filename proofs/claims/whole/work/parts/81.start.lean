/-! THE CLAIM OUT OF ONE WALK OF THE LAW'S BODY. Your part is whole_start (and what it stands on); all else here is the same for every law, but numbers. -/
def R_law : String := "GuestStaffLaw"
def lw_P (b : Addr) (xs : List Int32) (args : Array Value) (s : State) : Prop := args = #[.ref b] ∧ s.IntsAt b xs ∧ xs.length ≤ 384 ∧ (Jvm.Cond.and given_1 narrow_1).before args s = true
def lw_Q (_ : Array Value) (s : State) (o : Outcome) (t : State) : Prop := o = .returned (some (.int 1)) ∧ Framed s o t [] 600000 7302250
def lw_Z (below : List Frame) (a : Array Value) (s : State) : State → Prop := fun t => ∃ o, t.status = .running ∧ Ended t below o ∧ lw_Q a s o t
/-- the law's own end, with 1 on the stack, nothing written that was there before, its room as the claim has it -/
theorem lw_ret {p : Program} {l : Launch} {e : Env} {s : State} {m : MethodId} {below : List Frame} {meth : Method} {c : Code} {b : Nat} (hx : p.tables.exec = Jvm.exec) (hb : c.code = code) (hr : meth.sig.returnType = ret) (hlocks : meth.locks = false) {pc : Nat} {H : Heap} {ls : Array Slot} (hdg : decode code pc = .ok (.ireturn, 1)) : W p l e room_1 s m #[Value.ref b] below meth c H [] 600000 7302250 (lw_Z below #[Value.ref b] s) (F0 m pc ls [.int 1]) := by
  intro T hT X
  obtain ⟨fs, hret, hrun, hended, hW, hframe⟩ := X.leave (v := some (.int 1)) (hlocks := hlocks) (fun h => by rw [hr] at h; cases h)
  have hmeth' : T.vm.method? m = some meth := X.method'
  refine ⟨T.setFrames fs, ?_, .returned (some (.int 1)), hrun, hended, rfl, ⟨_, rfl⟩, hW, hframe⟩
  jvm_step X.here [X.here.top, hx, hb, hdg, hmeth', hr, ret, narrow_b1]
  (try refine ⟨rfl, ?_⟩); (try refine ⟨rfl, ?_⟩)
  first | (intro acts; rw [hret _ acts rfl rfl rfl]) | rw [hret _ _ rfl rfl rfl]
  exact Steps.refl _
/-- what holds at the law's entry: the machine, the code, the tables' words (any of lw_tbl by 'hts w (by decide +kernel)'), the script of L ints xs at the cell b, what the Statement gives of the start (any of its parts by flat_of_before) -/
def lw_At (p : Program) (s : State) (m : MethodId) (meth : Method) (c : Code) (b L : Nat) (xs : Nat → Int32) : Prop :=
  p.tables.exec = Jvm.exec ∧ c.code = code ∧ meth.sig.returnType = ret ∧ c.maxLocals = 4 ∧ s.vm.findClass R_law = some m.cls ∧ (∀ w ∈ lw_tbl, w.before #[Value.ref b] s = true) ∧ va_X b L xs s s.heap ∧ b < s.heap.size ∧ meth.locks = false ∧ (Jvm.Cond.and given_1 narrow_1).before #[Value.ref b] s = true

theorem lw_tab {w : Cond} (h : w ∈ tables_1) : w ∈ lw_tbl := List.mem_append_right _ h
theorem lw_arr {s : State} {cA : ClassId} {kA : Class} {comp : ClassId} {ty : FieldType} (h2 : s.vm.classes[cA]? = some kA) (h3 : kA.kind = .array comp ty) : ArrOfT s cA ty := fun n z => ⟨fun k h => (by cases h), kA, h2, comp, h3⟩
set_option maxRecDepth 100000 in
set_option maxHeartbeats 4000000 in
/-- what the Statement gives of the start: classes, array classes, strings, statics -/
theorem lw_known {p : Program} {s : State} {m : MethodId} {meth : Method} {c : Code} {b L : Nat} {xs : Nat → Int32} (C0 : lw_At p s m meth c b L xs) : ∃ Y : gY, gZ Y s ∧ ∀ A : Nat → Prop, (∀ a, a < s.heap.size → ¬ A a) → (vk_S 3 [5, 5, 4] [[104, 111, 117, 115, 101], [103, 117, 101, 115, 116], [100, 117, 116, 121]] Y.2.2.2.1 Y.2.2.2.2 A s s.heap ∧ (vk_R "GuestStaff$Text" 39 "house" (Y.2.2.2.1 0) s ∧ vk_R "GuestStaff$Text" 53 "guest" (Y.2.2.2.1 1) s ∧ vk_R "GuestStaff$Text" 61 "duty" (Y.2.2.2.1 2) s) ∧ va_Z "java/lang/String" "COMPACT_STRINGS" "Z" (.int 1) A s s.heap ∧ va_Zq "jdk/internal/util/Preconditions" "SIOOBE_FORMATTER" "Ljava/util/function/BiFunction;" A s s.heap) := by
  obtain ⟨hx, hb, hr, hml, hown, hts, hX, hbl, hlocks, hgv⟩ := C0
  have htg : ∀ w ∈ gTs, w.before #[Value.ref b] s = true := fun w hw => hts w (List.mem_filter.mp hw).1
  have hs := flat_of_before _ hgv
  obtain ⟨c0, i0, hK0⟩ := u_known (C := RX0) (T := TX0) (N := 0) htg in_X0 (htg _ wT_X0)
  obtain ⟨c1, i1, hK1⟩ := u_known (C := RX1) (T := TX1) (N := 16) htg in_X1 (htg _ wT_X1)
  obtain ⟨c2, i2, hK2⟩ := u_known (C := RX2) (T := TX2) (N := 0) htg in_X2 (htg _ wT_X2)
  obtain ⟨c3, i3, hK3⟩ := u_known (C := RX3) (T := TX3) (N := 2) htg in_X3 (htg _ wT_X3)
  obtain ⟨c4, i4, hK4⟩ := u_known (C := RX4) (T := TX4) (N := 0) htg in_X4 (htg _ wT_X4)
  obtain ⟨c5, i5, hK5⟩ := u_known (C := RX5) (T := TX5) (N := 0) htg in_X5 (htg _ wT_X5)
  obtain ⟨c6, i6, hK6⟩ := u_known (C := RX6) (T := TX6) (N := 0) htg in_X6 (htg _ wT_X6)
  obtain ⟨c7, i7, hK7⟩ := u_known (C := RX7) (T := TX7) (N := 5) htg in_X7 (htg _ wT_X7)
  obtain ⟨c8, i8, hK8⟩ := u_known (C := RX8) (T := TX8) (N := 0) htg in_X8 (htg _ wT_X8)
  obtain ⟨c9, i9, hK9⟩ := u_known (C := RX9) (T := TX9) (N := 6) htg in_X9 (htg _ wT_X9)
  obtain ⟨c10, i10, hK10⟩ := u_known (C := RX10) (T := TX10) (N := 9) htg in_X10 (htg _ wT_X10)
  obtain ⟨c11, i11, hK11⟩ := u_known (C := RX11) (T := TX11) (N := 28) htg in_X11 (htg _ wT_X11)
  obtain ⟨dC, dI, hKc⟩ : ∃ (dC : Nat → ClassId) (dI : Nat → Nat → Nat), ∀ (k : Nat) (q : vw_C), vwCl[k]? = some q → u_Kn s q.1 q.2.1 q.2.2 (dC k) (dI k) := by
    refine ⟨fun k => if k = 0 then c0 else if k = 1 then c1 else if k = 2 then c2 else if k = 3 then c3 else if k = 4 then c4 else if k = 5 then c5 else if k = 6 then c6 else if k = 7 then c7 else if k = 8 then c8 else if k = 9 then c9 else if k = 10 then c10 else c11, fun k => if k = 0 then i0 else if k = 1 then i1 else if k = 2 then i2 else if k = 3 then i3 else if k = 4 then i4 else if k = 5 then i5 else if k = 6 then i6 else if k = 7 then i7 else if k = 8 then i8 else if k = 9 then i9 else if k = 10 then i10 else i11, ?_⟩
    intro k q hq
    match k, hq with
    | 0, hq => cases hq; exact hK0
    | 1, hq => cases hq; exact hK1
    | 2, hq => cases hq; exact hK2
    | 3, hq => cases hq; exact hK3
    | 4, hq => cases hq; exact hK4
    | 5, hq => cases hq; exact hK5
    | 6, hq => cases hq; exact hK6
    | 7, hq => cases hq; exact hK7
    | 8, hq => cases hq; exact hK8
    | 9, hq => cases hq; exact hK9
    | 10, hq => cases hq; exact hK10
    | 11, hq => cases hq; exact hK11
    | k + 12, hq => simp [vwCl] at hq
  obtain ⟨cI, kI, mI, fI, gI, hI⟩ := Cond.arrayClass_spec (htg _ wR_int)
  obtain ⟨cZ, kZ, mZ, fZ, gZ', hZ⟩ := Cond.arrayClass_spec (htg _ wR_boolean)
  have hAP : (Cond.arrayOver (.object "GuestStaff$Plain")).before #[Value.ref b] s = true := hts _ (lw_tab (tb_1 (List.mem_of_getElem? (i := 82) rfl)))
  have hAH : (Cond.arrayOver (.object "GuestStaff$House")).before #[Value.ref b] s = true := hts _ (lw_tab (tb_1 (List.mem_of_getElem? (i := 210) rfl)))
  have hAA : (Cond.arrayOver (.array .int)).before #[Value.ref b] s = true := hts _ (lw_tab (tb_1 (List.mem_of_getElem? (i := 64) rfl)))
  obtain ⟨mP, cP, kP, fP1, -, gP, hP, fP2⟩ := Cond.arrayOver_spec hAP
  obtain ⟨mH, cH, kH, fH1, -, gH, hH, fH2⟩ := Cond.arrayOver_spec hAH
  obtain ⟨mA, cA, kA, fA1, -, gA', hA', fA2⟩ := arrayOverA_spec hAA
  obtain ⟨adK, adV, hv0, hv1⟩ := vk_Sof (args := #[Value.ref b]) (s := s) (N := 3) (tm := fun i => .string "GuestStaff$Text" (([39, 53, 61] : List Nat).getD i 0)) (len := [5, 5, 4]) (byt := [[104, 111, 117, 115, 101], [103, 117, 101, 115, 116], [100, 117, 116, 121]]) (A := fun a => s.heap.size ≤ a) (by decide)
    (by intro i hi; rcases (show i = 0 ∨ i = 1 ∨ i = 2 by omega) with rfl | rfl | rfl <;> exact hs _ (by decide +kernel))
    (by intro i hi; rcases (show i = 0 ∨ i = 1 ∨ i = 2 by omega) with rfl | rfl | rfl <;> exact hs _ (by decide +kernel))
    (by intro i hi; rcases (show i = 0 ∨ i = 1 ∨ i = 2 by omega) with rfl | rfl | rfl <;> exact hs _ (by decide +kernel))
    (by intro i hi; rcases (show i = 0 ∨ i = 1 ∨ i = 2 by omega) with rfl | rfl | rfl <;> exact hs _ (by decide +kernel))
    (by
      intro i hi j hj
      rcases (show i = 0 ∨ i = 1 ∨ i = 2 by omega) with rfl | rfl | rfl
      · rcases (show j = 0 ∨ j = 1 ∨ j = 2 ∨ j = 3 ∨ j = 4 by have : j < 5 := hj; omega) with rfl | rfl | rfl | rfl | rfl <;> exact hs _ (by decide +kernel)
      · rcases (show j = 0 ∨ j = 1 ∨ j = 2 ∨ j = 3 ∨ j = 4 by have : j < 5 := hj; omega) with rfl | rfl | rfl | rfl | rfl <;> exact hs _ (by decide +kernel)
      · rcases (show j = 0 ∨ j = 1 ∨ j = 2 ∨ j = 3 by have : j < 4 := hj; omega) with rfl | rfl | rfl | rfl <;> exact hs _ (by decide +kernel))
    (by
      intro i j hi hj hij
      rcases (show (i = 0 ∧ j = 1) ∨ (i = 0 ∧ j = 2) ∨ (i = 1 ∧ j = 2) ∨ (i = 1 ∧ j = 0) ∨ (i = 2 ∧ j = 0) ∨ (i = 2 ∧ j = 1) by omega) with ⟨rfl, rfl⟩ | ⟨rfl, rfl⟩ | ⟨rfl, rfl⟩ | ⟨rfl, rfl⟩ | ⟨rfl, rfl⟩ | ⟨rfl, rfl⟩
      · exact Or.inl (hs _ (by decide +kernel))
      · exact Or.inl (hs _ (by decide +kernel))
      · exact Or.inl (hs _ (by decide +kernel))
      · exact Or.inr (hs _ (by decide +kernel))
      · exact Or.inr (hs _ (by decide +kernel))
      · exact Or.inr (hs _ (by decide +kernel)))
    (fun a h h' => by omega)
  have hcas : ∀ C ∈ gCas, (Cond.castable C "GuestStaff$Plain").before #[Value.ref b] s = true := by
    intro C hC
    simp only [gCas, List.mem_cons, List.mem_nil_iff, or_false] at hC
    rcases hC with rfl | rfl | rfl | rfl | rfl
    · exact hts _ (lw_tab (tb_5 (List.mem_of_getElem? (i := 170) rfl)))
    · exact hts _ (lw_tab (tb_5 (List.mem_of_getElem? (i := 171) rfl)))
    · exact hts _ (lw_tab (tb_5 (List.mem_of_getElem? (i := 172) rfl)))
    · exact hts _ (lw_tab (tb_5 (List.mem_of_getElem? (i := 173) rfl)))
    · exact hts _ (lw_tab (tb_5 (List.mem_of_getElem? (i := 174) rfl)))
  refine ⟨((dC, dI), (fun _ _ => 0), (fun k => if k = 0 then cI else if k = 1 then cZ else if k = 2 then cP else if k = 3 then cH else cA), adK, adV), ⟨⟨hKc, fun k q hq => ?_⟩, fun w hw => ?_, va_AO.of hAP, va_AO.of hAH, hAA, fun C hC => va_Nw.of rfl (hcas C hC)⟩, fun A hA => ⟨hv0.narrow (fun a h => ?_), ⟨?_, ?_, ?_⟩, ?_, ?_⟩⟩
  · match k, hq with
    | 0, hq => cases hq; exact ⟨lw_arr gI hI, fI⟩
    | 1, hq => cases hq; exact ⟨lw_arr gZ' hZ, fZ⟩
    | 2, hq => cases hq; exact ⟨lw_arr gP hP, ⟨kP, mP, gP, hP, fP1, fP2⟩⟩
    | 3, hq => cases hq; exact ⟨lw_arr gH hH, ⟨kH, mH, gH, hH, fH1, fH2⟩⟩
    | 4, hq => cases hq; exact ⟨lw_arr gA' hA', fA2⟩
    | k + 5, hq => simp [gTys] at hq
  · have h1 := hts _ (lw_tab (List.mem_filter.mp hw).1)
    have h2 := (List.mem_filter.mp hw).2
    refine va_Nw.of ?_ h1
    cases w <;> first | (cases h2; done) | rfl
  · exact Nat.le_of_not_lt (fun q => hA a q h)
  · exact vk_R.of (hts _ (lw_tab (by decide +kernel))) (hv1 0 (by decide))
  · exact vk_R.of (hts _ (lw_tab (by decide +kernel))) (hv1 1 (by decide))
  · exact vk_R.of (hts _ (lw_tab (by decide +kernel))) (hv1 2 (by decide))
  · exact va_Zof (args := #[Value.ref b]) (hts _ (lw_tab (tb_2 (List.mem_of_getElem? (i := 99) rfl)))) (htg _ wI_J0) (va_eqi (hs _ (by decide +kernel))) hA
  · exact va_Zqof (args := #[Value.ref b]) (hts _ (lw_tab (tb_2 (List.mem_of_getElem? (i := 115) rfl)))) (htg _ wI_J3) (hs _ (by decide +kernel)) hA
theorem n_istore_n {X : gX} {Y : gY} {cc : ByteArray} {own : String} {z nL fr lo K N pc k n : Nat} {lv : List (Nat × Value)} {st : List Value} {l : va_W} (hC : gD X Y cc own z nL fr lo K N) {j : Fin 4} {i : Nat} {x : Int32} (lv' : List (Nat × Value)) (hd : decode cc pc = .ok (.istore_n j, 1)) (hi : (j : Nat) = i) (hn : i < nL) (hl : (i, Value.int x) :: lv.filter (fun q => !(q.1 == i) && !(q.1 + 1 == i && q.2.category == 2)) = lv') (kk : gCW X Y z nL (pc + 1) lv' st l k n) : gCW X Y z nL pc lv (.int x :: st) l k n := fun H locs ls h1 h2 h3 h => lv_istore_n hC.1 hC.2.1 hd hi h hn hl (fun ls h => kk H locs ls h1 h2 h3 h)
set_option maxRecDepth 100000 in
set_option maxHeartbeats 4000000 in
/-- THE LAW, from its entry -/
theorem whole_start {p : Program} {e : Env} {s : State} {m : MethodId} {below : List Frame} {meth : Method} {c : Code} (l : Launch) {b L : Nat} {xs : Nat → Int32} (hL : L ≤ 384) (C0 : lw_At p s m meth c b L xs) : W p l e room_1 s m #[Value.ref b] below meth c s.heap [] 0 0 (lw_Z below #[Value.ref b] s) (entryFrame m ([Value.ref b] : List Value).toArray 4) := by
  obtain ⟨Y, hZ, hZs⟩ := lw_known C0
  obtain ⟨hx, hb, hr, hml, hown, hts, hX, hbl, hlocks, hgv⟩ := id C0
  have htg : ∀ w ∈ gTs, w.before #[Value.ref b] s = true := fun w hw => hts w (List.mem_filter.mp hw).1
  have hl := lv_entry ([.ref b]) (n := 4) (Nat.le_of_ble_eq_true rfl)
  rw [lg_entry_eq]
  generalize (lg_sl ([.ref b]) ++ List.replicate (4 - (lg_sl ([.ref b])).length) Slot.unset).toArray = ls at hl ⊢
  have hl : lv_has ls 4 [(0, .ref b)] := hl
  have hC : gD (p, l, e, room_1, s, m, #[Value.ref b], below, meth, c, lw_Z below #[Value.ref b] s, 0, 0) Y code "GuestStaffLaw" s.heap.size 4 11 386 600000 7302250 := ⟨hx, hb, hml, hown, htg, hZ, Nat.le_refl _, rfl, rfl, rfl, rfl, hlocks⟩
  have K : gCW (p, l, e, room_1, s, m, #[Value.ref b], below, meth, c, lw_Z below #[Value.ref b] s, 0, 0) Y s.heap.size 4 0 [(0, .ref b)] [] (([] : va_W) ++ []) 0 0 := by
    refine n_new (ci := 10) hC [.null, .null, .null, .null, .null, .null, .null, .long 0, .long 0] rfl in_X10 tyX10_ok wL_L_7 wT_X10 wI_X10 hfs_X10 (by decide) (by decide) dL_law_0 (fun b1 => ?_)
    refine n_dup hC dL_law_3 rfl ?_
    refine n_call (k := 1) (n := 9) (l := ([] : va_W)) (As := []) (rest := [.ref b1]) hC mt_X10_init rfl mi_X10_init (Or.inl wM_L_9) c_X10_init ⟨by decide, by decide, by decide, by decide⟩ rfl rfl (Nat.le_of_ble_eq_true rfl) dL_law_4 (fun u => ?_)
    refine n_eq (ws' := ([] : va_W) ++ gblk Y b1 u.1 u.2.1 u.2.2.1 u.2.2.2) 161 1313 (by simp only [List.nil_append]) rfl rfl ?_
    refine n_astore_n hC [(1, .ref b1), (0, .ref b)] dL_law_7 rfl (by decide) rfl ?_
    refine n_new (ci := 11) hC [.null, .long 0, .long 0, .null, .null, .int 0, .int 0, .int 0, .int 0, .int 0, .null, .int 0, .int 0, .null, .int 0, .null, .int 0, .null, .null, .int 0, .int 0, .int 0, .null, .null, .null, .null, .null, .null] rfl in_X11 tyX11_ok wL_L_10 wT_X11 wI_X11 hfs_X11 (by decide) (by decide) dL_law_8 (fun b2 => ?_)
    refine n_dup hC dL_law_11 rfl ?_
    refine n_call (k := 162) (n := 1341) (l := gblk Y b1 u.1 u.2.1 u.2.2.1 u.2.2.2) (As := []) (rest := [.ref b2]) hC mt_X11_init rfl mi_X11_init (Or.inl wM_L_12) c_X11_init ⟨by decide, by decide, by decide, by decide⟩ rfl rfl (Nat.le_of_ble_eq_true rfl) dL_law_12 (fun r' => ?_)
    refine n_eq (ws' := gblk Y b1 u.1 u.2.1 u.2.2.1 u.2.2.2 ++ mblk Y b2 r') 176 2138 (by simp only [List.nil_append]) rfl rfl ?_
    refine n_astore_n hC [(2, .ref b2), (1, .ref b1), (0, .ref b)] dL_law_15 rfl (by decide) rfl ?_
    refine n_iconst hC 0 dL_law_16 rfl ?_
    refine n_istore_n hC [(3, .int 0), (2, .ref b2), (1, .ref b1), (0, .ref b)] dL_law_17 rfl (by decide) rfl ?_
    intro H locs ls g1 g2 g3 h
    rw [← gR_all (Y := Y) (b := b1) (t := u.1) (mb := b2) (r := u.2.1) (q := u.2.2.1) (r' := r') (u := u.2.2.2)] at g1 g2
    generalize hY : gYR Y b1 u.1 b2 u.2.1 u.2.2.1 r' u.2.2.2 = Y' at g1 g2
    have e1 : Y'.1 = Y.1 := by rw [← hY]
    have e2 : Y'.2.2 = Y.2.2 := by rw [← hY]
    have a1 : gad Y' 0 34 = b1 := by rw [← hY]; rfl
    have a2 : gad Y' 0 59 = b2 := by rw [← hY]; rfl
    have hgz : ∀ q, gA Y' q → s.heap.size ≤ q := by
      rintro q ⟨pq, hp, rfl⟩
      obtain ⟨k9, hk9⟩ := List.getElem?_of_mem hp
      exact g2.2 k9 (gad Y' pq.1 pq.2, gcel Y' gM0 pq.1 pq.2) (by unfold gW; rw [List.getElem?_map, hk9]; rfl)
    have hgn : ∀ a, a < s.heap.size → ¬ gA Y' a := fun a ha q => absurd (hgz a q) (by omega)
    have hD : va_D (gA Y') (gW Y' gM0) := ⟨g2.1, fun k9 x hx9 => by
      unfold gW at hx9
      rw [List.getElem?_map] at hx9
      cases hp : gPL[k9]? with
      | none => rw [hp] at hx9; cases hx9
      | some w =>
        rw [hp] at hx9
        cases hx9
        exact ⟨w, List.mem_of_getElem? hp, rfl⟩⟩
    have hgS : gStr Y' s := by
      have := hZs (gA Y') hgn
      unfold gStr
      rw [e2]
      exact this
    have hC2 : gC (p, l, e, room_1, s, m, #[Value.ref b], below, meth, c, lw_Z below #[Value.ref b] s, 600000, 7302250) Y' code "GuestStaffLaw" 4 11 386 := ⟨hx, hb, hml, hown, htg, by unfold gTys; rw [e1]; show va_K Y.1 vwCl [(Y'.2.2.1 0, _), (Y'.2.2.1 1, _), (Y'.2.2.1 2, _), (Y'.2.2.1 3, _), (Y'.2.2.1 4, _)] s; rw [e2]; exact hZ.1, hZ.2.1, hgS, rfl, rfl, hlocks, Nat.le_refl _, Nat.le_refl _⟩
    have hend : ∀ M : gMem, gWW (p, l, e, room_1, s, m, #[Value.ref b], below, meth, c, lw_Z below #[Value.ref b] s, 600000, 7302250) Y' 4 977 [] [] M := by
      intro M
      refine q_iconst hC2 1 dL_law_977 rfl ?_
      intro H locs ls hS h
      refine va_forget (fun q hq => hgz _ (hS.2.2.2.2 q hq)) ?_
      exact lw_ret hx hb hr hlocks dL_law_978
    have go := law_loop (Y := Y') (b := b) (L := L) (xs := xs) hL hC2 hX hbl (hgn b hbl) hend (L + 1) 0 gM0 (by omega) (by omega) INV_0
    refine va_forget (fun q hq => g3.2.2 q hq) ?_
    refine W.widen (k := 600000) (n := 7302250) (by decide) (by decide) ?_
    rw [a1, a2, nI_0] at go
    rw [← e1] at g1
    exact go H [] ls ⟨g1, hD, ⟨g3.1, fun q h1 h2 => g3.2.1 q h1 (fun h3 => absurd h1 (Nat.not_lt.mpr h3)), fun _ hq => by cases hq⟩⟩ (lv_sub h [3, 2, 1, 0] rfl)
  exact K s.heap [] ls (fun k q h => by simp at h) ⟨fun i j p q h => by simp at h, fun k q h => by simp at h⟩ va_S.rf hl
