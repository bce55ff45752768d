/-! new int[a][b], and a constructor's call -/
section GN2
variable {X : gX} {Y : gY} {cc : ByteArray} {own : String} {z nL fr lo K N pc k n : Nat} {lv : List (Nat × Value)} {st : List Value} {ws0 l : va_W}
def gOut (Y : gY) (q a : Nat) : va_E := .inl (gca Y 4, a, .inr (.inr (.inr (.inr (fun i => if i < a then some (q + 1 + i) else none)))))
def gInn (Y : gY) (b : Nat) : va_E := .inl (gca Y 0, b, .inl (fun _ => 0))
def gGrid (Y : gY) (q a b : Nat) : va_W := (q, gOut Y q a) :: (List.range a).map (fun i => (q + 1 + i, gInn Y b))
theorem n_mna (hC : gD X Y cc own z nL fr lo K N) {idx : Nat} {i j : Int32} (a b : Nat) (hcl : Cond.classLink own idx "[[I" ∈ gTs) (hw : Cond.arrayClass .int ∈ gTs) (hi : ¬ i < 0) (hj : ¬ j < 0) (ha : i.toNatClampNeg = a) (hb : j.toNatClampNeg = b) (hb1 : a * 4 ≤ 536870912) (hb2 : b * componentBytes .int ≤ 536870912) (hb3 : b ≤ 536870912) (hk : k + (1 + a) ≤ K) (hn : n + (a + a * b) ≤ N) (hd : decode cc pc = .ok (.multianewarray idx 2, 4))
    (kk : ∀ q : Nat, gCW X Y z nL (pc + 4) lv (.ref q :: st) (ws0 ++ (l ++ gGrid Y q a b)) (k + 1 + a) (n + a + a * b)) : gCW X Y z nL pc lv (.int j :: .int i :: st) (ws0 ++ l) k n := by
  intro H locs ls h1 h2 h3 h T hT Xs
  subst ha
  subst hb
  have hts := hC.2.2.2.2.1
  have hR := hC.2.2.2.2.2.2.2
  obtain ⟨vm₁, cA, comp, fA, fC, X', step⟩ := gm_row Xs hC.1 hC.2.2.2.1 (hts _ hcl) hC.2.2.2.2.2.1.2.2.2.2.1 (hts _ hw) (g := F0 (gxm X) pc ls (.int j :: .int i :: st)) rfl (by rw [hC.2.1]; exact hd) rfl hi hj hb1 hb2 hb3 (by rw [hR.2.2.1]; exact hk) (by rw [hR.2.2.2.1]; exact hn)
  have eC : comp = gca Y 0 := by
    have a1 : (gxs X).vm.findClass "[I" = some (gca Y 0) := (hC.2.2.2.2.2.1.1.2 0 _ rfl).2
    exact Option.some.inj (fC.symm.trans a1)
  have eA : cA = gca Y 4 := by
    have a1 : (gxs X).vm.findClass "[[I" = some (gca Y 4) := (hC.2.2.2.2.2.1.1.2 4 _ rfl).2
    exact Option.some.inj (fA.symm.trans a1)
  subst eC
  subst eA
  obtain ⟨f1, -, -, f2, hold, hrow⟩ := gmS_is (T.setVm vm₁) (gca Y 4) (gca Y 0) i.toNatClampNeg j.toNatClampNeg i.toNatClampNeg
  generalize gmS (T.setVm vm₁) (gca Y 4) (gca Y 0) i.toNatClampNeg j.toNatClampNeg i.toNatClampNeg = F at X' step f1 f2 hold hrow
  have hTh : (T.setVm vm₁).heap = H := hT
  rw [hTh] at f1 f2 hold hrow
  have hzs : z ≤ H.size := Nat.le_trans hC.2.2.2.2.2.2.1 h3.1
  have hP0 : va_P Y.1 vwCl (ws0 ++ l) F.heap := h1.kept (fun k9 x hx => hold x.1 ((h1 k9 x hx).lt))
  have hG : ∀ (k9 : Nat) (x : Nat × va_E), (gGrid Y H.size i.toNatClampNeg j.toNatClampNeg)[k9]? = some x → va_at Y.1 vwCl x F.heap ∧ x.1 = H.size + k9 := by
    intro k9 x hx
    cases k9 with
    | zero =>
      cases hx
      exact ⟨f2, rfl⟩
    | succ k9 =>
      unfold gGrid at hx
      rw [List.getElem?_cons_succ, List.getElem?_map] at hx
      by_cases h9 : k9 < i.toNatClampNeg
      · rw [List.getElem?_range h9] at hx
        cases hx
        exact ⟨hrow k9 h9, by show H.size + 1 + k9 = H.size + (k9 + 1); omega⟩
      · have hn0 : (List.range i.toNatClampNeg)[k9]? = none := List.getElem?_eq_none (by rw [List.length_range]; omega)
        rw [hn0] at hx
        cases hx
  have hP2 : va_P Y.1 vwCl ((ws0 ++ l) ++ gGrid Y H.size i.toNatClampNeg j.toNatClampNeg) F.heap := hP0.app (fun k9 x hx => (hG k9 x hx).1)
  have hD2 : va_D (gAz z) ((ws0 ++ l) ++ gGrid Y H.size i.toNatClampNeg j.toNatClampNeg) := by
    refine va_D.app h2 ⟨fun a b x y hx hy hxy => ?_, fun k9 x hx => ?_⟩ (fun a b x y hx hy hxy => ?_)
    · have e1 := (hG a x hx).2
      have e2 := (hG b y hy).2
      omega
    · have e1 := (hG k9 x hx).2
      show z ≤ x.1
      omega
    · have e1 := (h1 a x hx).lt
      have e2 := (hG b y hy).2
      omega
  rw [List.append_assoc] at hP2 hD2
  obtain ⟨t, a1, b1⟩ := kk H.size F.heap locs ls hP2 hD2 ⟨by rw [f1]; have := h3.1; omega, fun x g1 g2 => (hold x (Nat.lt_of_lt_of_le g1 h3.1)).trans (h3.2.1 x g1 g2), h3.2.2⟩ h F rfl X'
  refine ⟨t, step t ?_, b1⟩
  have e : T.heap.size = H.size := by rw [hT]
  rw [e]
  exact a1
theorem gmetn {L : Launch} {y : MethodName} {av : List Value} {rm : Room} {Qc : Array Value → State → Outcome → State → Prop} {ws : va_W} (own : String) (hy : plainName y.cls = true) (hyn : y.name = "<init>") (hown : y.cls = own) (hlen : (lg_sl av).length ≤ nL) (hlv : lv_args 0 av = lv)
    (body : ∀ X : gX, gD X Y cc own z nL rm.frames rm.locals rm.cells rm.slots → (gxM X).name = "<init>" → (gxM X).sig.returnType = none → gxQ X = MQ (gxb X) Qc (gxa X) (gxs X) rm.cells rm.slots (gAz z) → gCW X Y z nL 0 lv [] ws 0 0) : Met L y (gws y cc nL none) rm (va_Pc av (gPn Y z ws)) Qc rm.cells rm.slots (gAz z) := by
  refine Met.ofW (cc := cc) (maxL := nL) (ret := none) hy rfl ?_
  intro p e s m args below meth c s₁ B hml hv
  obtain ⟨rfl, hz, hP, hD, hZ⟩ := hv
  have hts := atoms_spec (ws := gws y cc nL none) B.pre
  have ho : s.vm.findClass y.cls = some m.cls := findClass_of_methodNamed B.named
  have hin : meth.name = y.name := (name_of_methodNamed B.named B.method).1
  have hl := lv_entry av (n := nL) hlen
  rw [lg_entry_eq]
  rw [hlv] at hl
  exact body (p, L, e, rm, s, m, av.toArray, below, meth, c, MQ below Qc av.toArray s rm.cells rm.slots (gAz z), 0, 0) ⟨B.exec, B.bytes, hml, by rw [← hown]; exact ho, fun w hw => hts w (List.mem_cons_of_mem _ hw), hZ, hz, rfl, rfl, rfl, rfl, B.notSynchronized⟩ (hin.trans hyn) B.returns rfl s.heap [] _ hP hD va_S.rf hl
/-- a constructor's call: its object is the last cell -/
theorem n_call (hC : gD X Y cc own z nL fr lo K N) {y : MethodName} {bytes : ByteArray} {maxL m idx b : Nat} {rm : Room} {As rest : List Value} {S : Type} {fin : S → va_W} {e0 : va_E} (hm : gMth y bytes maxL none m) (hyn : y.name = "<init>") (hi : Cond.instanceMethod y ∈ gTs) (hl : Cond.methodLink own idx y ∈ gTs ∨ ∃ host, Cond.methodLinkNest own idx y host ∈ gNW)
    (hM : Met X.2.1 y (gws y bytes maxL none) rm (va_Pc (.ref b :: As) (gPn Y z ((ws0 ++ l) ++ [(b, e0)]))) (gQn Y z fin) rm.cells rm.slots (gAz z)) (hR : rm.frames + 1 ≤ fr ∧ 8 + (maxL + 11) + rm.locals ≤ lo ∧ k + rm.cells ≤ K ∧ n + rm.slots ≤ N) (hn : As.length = m) (hst : st = As.reverse ++ .ref b :: rest) (hrest : (rest.map fun v => v.category).sum ≤ 8) (hd : decode cc pc = .ok (.invokespecial idx, 3))
    (kk : ∀ u : S, gCW X Y z nL (pc + 3) lv rest (fin u) (k + rm.cells) (n + rm.slots)) : gCW X Y z nL pc lv st (ws0 ++ (l ++ [(b, e0)])) k n := by
  intro H locs ls h1 h2 h3 h
  subst hst
  rw [← List.append_assoc] at h1 h2
  have hts := hC.2.2.2.2.1
  have h9 := hC.2.2.2.2.2.2.2
  have hG := gws_good hm.1
  have hp : PreS (gxs X) H (va_Pc (.ref b :: As) (gPn Y z ((ws0 ++ l) ++ [(b, e0)]))) (.ref b :: As) := ⟨gPn.blind _, fun U hU hW => ⟨rfl, by rw [hU]; exact Nat.le_trans hC.2.2.2.2.2.2.1 h3.1, by rw [hU]; exact h1, h2, hC.2.2.2.2.2.1.warm hW⟩⟩
  have run : va_Run X.1 X.2.1 X.2.2.1 (gxR X) (gxs X) (gxm X) (gxa X) (gxb X) (gxM X) (gxc X) H locs k n rm.cells rm.slots (F0 (gxm X) pc ls (As.reverse ++ .ref b :: rest)) rest (gQn Y z fin (Value.ref b :: As).toArray) (gAz z) := by
    rcases hl with hl | ⟨host, hl⟩
    · exact va_runI ⟨hC.1, hC.2.1, hC.2.2.1, hC.2.2.2.1, hts⟩ hM ⟨callB_of m hts hG rfl rfl rfl (hts _ hm.2.1) (hts _ hl) hm.2.2 ⟨by rw [h9.1]; exact hR.1, by rw [h9.2.1]; exact hR.2.1⟩, hyn, hts _ hi⟩ hp rfl hn h.1 rfl (lv_room hrest) hd ⟨by rw [h9.2.2.1]; exact hR.2.2.1, by rw [h9.2.2.2.1]; exact hR.2.2.2⟩
    · exact va_runIN ⟨hC.1, hC.2.1, hC.2.2.1, hC.2.2.2.1, hts⟩ hM ⟨va_cnB m hts hG rfl rfl rfl (hC.2.2.2.2.2.1.2.1 _ hl) (hts _ hm.2.1) hm.2.2 ⟨by rw [h9.1]; exact hR.1, by rw [h9.2.1]; exact hR.2.1⟩, hyn, hts _ hi⟩ hp rfl hn h.1 rfl (lv_room hrest) hd ⟨by rw [h9.2.2.1]; exact hR.2.2.1, by rw [h9.2.2.2.1]; exact hR.2.2.2⟩
  refine va_callv run h3 (fun q _ h => h) (fun q h => h) (fun u t H1 locs1 ht hvm hw hB _ _ hS1 => ?_)
  exact kk u H1 locs1 ls (by rw [← ht]; exact hB.1) hB.2 hS1 h
end GN2
