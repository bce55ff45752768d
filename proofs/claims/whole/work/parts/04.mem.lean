/-! memory rows, methods, calls -/
theorem gPL_V {c o : Nat} (h : (c, o) ∈ gPL) : gV c o := by
  unfold gPL at h
  simp only [List.mem_append, List.mem_map, List.mem_range, List.mem_singleton, Prod.mk.injEq] at h
  rcases h with ⟨k, h1, h2, h3⟩ | ⟨k, h1, h2, h3⟩ | ⟨k, h1, h2, h3⟩ | ⟨h2, h3⟩ | ⟨k, h1, h2, h3⟩ | ⟨k, h1, h2, h3⟩ | ⟨k, h1, h2, h3⟩
  · exact Or.inr ⟨by omega, by omega, h2.symm⟩
  · exact Or.inl ⟨by omega, by omega⟩
  · exact Or.inl ⟨by omega, by omega⟩
  · exact Or.inr ⟨by omega, by omega, h2⟩
  · exact Or.inl ⟨by omega, by omega⟩
  · exact Or.inl ⟨by omega, by omega⟩
  · exact Or.inr ⟨by omega, by omega, h2.symm⟩
theorem gW_at {Y : gY} {M : gMem} {c o : Nat} (hV : gV c o) : ∃ k : Nat, (gW Y M)[k]? = some (gad Y c o, gcel Y M c o) ∧ gPL[k]? = some (c, o) := by
  obtain ⟨k, hk⟩ := List.getElem?_of_mem (gV_in hV)
  exact ⟨k, by unfold gW; rw [List.getElem?_map, hk]; rfl, hk⟩
theorem gW_set {Y : gY} {M M' : gMem} {A : Nat → Prop} {c o k : Nat} {e : va_E} (hD : va_D A (gW Y M)) (hk : gPL[k]? = some (c, o)) (he : gcel Y M' c o = e) (hne : ∀ c' o', gV c' o' → ¬ (c' = c ∧ o' = o) → gcel Y M' c' o' = gcel Y M c' o') : (gW Y M).set k (gad Y c o, e) = gW Y M' := by
  have hW : (gW Y M)[k]? = some (gad Y c o, gcel Y M c o) := by unfold gW; rw [List.getElem?_map, hk]; rfl
  have hl := (List.getElem?_eq_some_iff.mp hW).1
  apply List.ext_getElem?
  intro j
  by_cases hj : j = k
  · subst hj
    rw [List.getElem?_set_self hl]
    unfold gW
    rw [List.getElem?_map, hk]
    show _ = some (gad Y c o, gcel Y M' c o)
    rw [he]
  · rw [List.getElem?_set_ne (Ne.symm hj)]
    unfold gW
    rw [List.getElem?_map, List.getElem?_map]
    cases hb : gPL[j]? with
    | none => rfl
    | some b =>
      obtain ⟨c', o'⟩ := b
      have h2 : ¬ (c' = c ∧ o' = o) := by
        rintro ⟨rfl, rfl⟩
        have h3 : (gW Y M)[j]? = some (gad Y c' o', gcel Y M c' o') := by unfold gW; rw [List.getElem?_map, hb]; rfl
        exact hj (hD.1 j k _ _ h3 hW rfl)
      show some (gad Y c' o', gcel Y M c' o') = some (gad Y c' o', gcel Y M' c' o')
      rw [hne c' o' (gPL_V (List.mem_of_getElem? hb)) h2]
theorem gup_ne {Y : gY} {M : gMem} {c o : Nat} {g : Nat → Int32} : ∀ c' o', gV c' o' → ¬ (c' = c ∧ o' = o) → gcel Y (gup M c o g) c' o' = gcel Y M c' o' := by
  intro c' o' _ h
  unfold gcel gup
  dsimp only
  rw [if_neg h]
theorem gup_at (M : gMem) (c o : Nat) (g : Nat → Int32) : (gup M c o g).1 c o = g := by
  unfold gup
  dsimp only
  rw [if_pos ⟨rfl, rfl⟩]
theorem gwl_ne {Y : gY} {M : gMem} {o k : Nat} {x : Int64} (ho : 34 ≤ o) : ∀ c' o', gV c' o' → ¬ (c' = 0 ∧ o' = o) → gcel Y (gwl M o k x) c' o' = gcel Y M c' o' := by
  intro c' o' hV h
  have h2 : o' ≠ o := by
    rcases hV with ⟨h1, h2⟩ | ⟨h1, h2, h3⟩
    · omega
    · exact fun q => h ⟨h3, q⟩
  unfold gcel gwl
  dsimp only
  congr 1
  funext k'
  rw [if_neg (fun q => h2 q.1)]
theorem gce_a {Y : gY} {M : gMem} {c o : Nat} (n : Nat) (hn : glen o = n + 1) : gcel Y M c o = .inl (gca Y 0, n + 1, .inl (M.1 c o)) := by
  unfold gcel gce
  rw [hn, if_neg (by omega)]
section GM
variable {X : gX} {Y : gY} {cc : ByteArray} {own : String} {nL fr lo pc : Nat} {lv : List (Nat × Value)} {st : List Value} {M : gMem}
theorem q_get (hC : gC X Y cc own nL fr lo) {c o ci k idx N : Nat} {C : String} {T : u_T} {fs : List Value} {v : Value} (hV : gV c o) (he : gcel Y M c o = .inr (ci, fs)) (hc : vwCl[ci]? = some (C, T, N)) (hin : ∀ w ∈ u_ws C T N, w ∈ gTs) (hk : k < N) (hl : Cond.fieldLink own idx (T k).1 (T k).2.1 (T k).2.2.1 ∈ gTs) (hv : fs[k]? = some v) (hd : decode cc pc = .ok (.getfield idx, 3)) (kk : gWW X Y nL (pc + 3) lv (v :: st) M) : gWW X Y nL pc lv (.ref (gad Y c o) :: st) M := by
  intro H locs ls hS h
  obtain ⟨q, hq, -⟩ := gW_at (Y := Y) (M := M) hV
  rw [he] at hq
  exact va_get (D := Y.1) (ref := (T k).1) hC.1 hC.2.1 hC.2.2.2.2.1 hin hC.2.2.2.1 hC.2.2.2.2.2.1 hS.1 q hq hc k hk (hC.2.2.2.2.1 _ hl) (fun _ h9 => h9) hv hd (kk H locs ls hS h)
theorem q_getN (hC : gC X Y cc own nL fr lo) {c o ci k idx N : Nat} {C host : String} {T : u_T} {fs : List Value} {v : Value} (hV : gV c o) (he : gcel Y M c o = .inr (ci, fs)) (hc : vwCl[ci]? = some (C, T, N)) (hin : ∀ w ∈ u_ws C T N, w ∈ gTs) (hk : k < N) (hl : Cond.fieldLinkNest own idx (T k).1 (T k).2.1 (T k).2.2.1 host ∈ gNW) (hv : fs[k]? = some v) (hd : decode cc pc = .ok (.getfield idx, 3)) (kk : gWW X Y nL (pc + 3) lv (v :: st) M) : gWW X Y nL pc lv (.ref (gad Y c o) :: st) M := by
  intro H locs ls hS h
  obtain ⟨q, hq, -⟩ := gW_at (Y := Y) (M := M) hV
  rw [he] at hq
  exact va_getN (D := Y.1) (ref := (T k).1) (host := host) hC.1 hC.2.1 hC.2.2.2.2.1 hin hC.2.2.2.1 hC.2.2.2.2.2.1 hS.1 q hq hc k hk ((hC.2.2.2.2.2.2.1 _ hl).use rfl) (fun _ h9 => h9) hv hd (kk H locs ls hS h)
theorem q_put (hC : gC X Y cc own nL fr lo) {c o ci k idx N : Nat} {C : String} {T : u_T} {fs : List Value} {v : Value} {ty : FieldType} {ty0 : Nat → FieldType} (M' : gMem) (hV : gV c o) (he : gcel Y M c o = .inr (ci, fs)) (hc : vwCl[ci]? = some (C, T, N)) (hin : ∀ w ∈ u_ws C T N, w ∈ gTs) (hty : ∀ k, k < N → parseFieldDescriptor (T k).2.2.1 = some (ty0 k)) (hnm : ∀ a, a < N → ∀ b, b < N → a ≠ b → (T a).2.1 ≠ (T b).2.1) (hk : k < N) (hl : Cond.fieldLink own idx (T k).1 (T k).2.1 (T k).2.2.1 ∈ gTs) (hfin : (T k).2.2.2 = false) (hdd : parseFieldDescriptor (T k).2.2.1 = some ty) (hn : narrow ty v = v) (hf : fits ty v = true) (hlen : k < fs.length) (he' : gcel Y M' c o = .inr (ci, fs.set k v)) (hne : ∀ c' o', gV c' o' → ¬ (c' = c ∧ o' = o) → gcel Y M' c' o' = gcel Y M c' o') (hd : decode cc pc = .ok (.putfield idx, 3)) (kk : gWW X Y nL (pc + 3) lv st M') : gWW X Y nL pc lv (v :: .ref (gad Y c o) :: st) M := by
  intro H locs ls hS h
  obtain ⟨q, hq, hq2⟩ := gW_at (Y := Y) (M := M) hV
  rw [he] at hq
  refine va_put (D := Y.1) (ref := (T k).1) (A := gA Y) hC.1 hC.2.1 hC.2.2.2.2.1 hin ty0 hty hnm hC.2.2.2.1 hC.2.2.2.2.2.1 hS.1 hS.2.1 hS.2.2 q hq hc k hk (hC.2.2.2.2.1 _ hl) (fun _ h9 => h9) hfin hdd hn hf hlen hd (fun H1 locs1 g1 g2 g3 => ?_)
  rw [gW_set hS.2.1 hq2 he' hne] at g1 g2
  exact kk H1 locs1 ls ⟨g1, g2, g3⟩ h
theorem q_putN (hC : gC X Y cc own nL fr lo) {c o ci k idx N : Nat} {C host : String} {T : u_T} {fs : List Value} {v : Value} {ty : FieldType} {ty0 : Nat → FieldType} (M' : gMem) (hV : gV c o) (he : gcel Y M c o = .inr (ci, fs)) (hc : vwCl[ci]? = some (C, T, N)) (hin : ∀ w ∈ u_ws C T N, w ∈ gTs) (hty : ∀ k, k < N → parseFieldDescriptor (T k).2.2.1 = some (ty0 k)) (hnm : ∀ a, a < N → ∀ b, b < N → a ≠ b → (T a).2.1 ≠ (T b).2.1) (hk : k < N) (hl : Cond.fieldLinkNest own idx (T k).1 (T k).2.1 (T k).2.2.1 host ∈ gNW) (hfin : (T k).2.2.2 = false) (hdd : parseFieldDescriptor (T k).2.2.1 = some ty) (hn : narrow ty v = v) (hf : fits ty v = true) (hlen : k < fs.length) (he' : gcel Y M' c o = .inr (ci, fs.set k v)) (hne : ∀ c' o', gV c' o' → ¬ (c' = c ∧ o' = o) → gcel Y M' c' o' = gcel Y M c' o') (hd : decode cc pc = .ok (.putfield idx, 3)) (kk : gWW X Y nL (pc + 3) lv st M') : gWW X Y nL pc lv (v :: .ref (gad Y c o) :: st) M := by
  intro H locs ls hS h
  obtain ⟨q, hq, hq2⟩ := gW_at (Y := Y) (M := M) hV
  rw [he] at hq
  refine va_putN (D := Y.1) (ref := (T k).1) (host := host) (A := gA Y) hC.1 hC.2.1 hC.2.2.2.2.1 hin ty0 hty hnm hC.2.2.2.1 hC.2.2.2.2.2.1 hS.1 hS.2.1 hS.2.2 q hq hc k hk ((hC.2.2.2.2.2.2.1 _ hl).use rfl) (fun _ h9 => h9) hfin hdd hn hf hlen hd (fun H1 locs1 g1 g2 g3 => ?_)
  rw [gW_set hS.2.1 hq2 he' hne] at g1 g2
  exact kk H1 locs1 ls ⟨g1, g2, g3⟩ h
theorem q_iald (hC : gC X Y cc own nL fr lo) {c o : Nat} {i : Int32} (n : Nat) (hV : gV c o) (hn : glen o = n + 1) (hi : vp_in i (n + 1)) (hd : decode cc pc = .ok (.iaload, 1)) (kk : gWW X Y nL (pc + 1) lv (.int (M.1 c o i.toNatClampNeg) :: st) M) : gWW X Y nL pc lv (.int i :: .ref (gad Y c o) :: st) M := by
  intro H locs ls hS h
  obtain ⟨q, hq, -⟩ := gW_at (Y := Y) (M := M) hV
  rw [gce_a n hn] at hq
  exact va_iald (D := Y.1) hC.1 hC.2.1 hC.2.2.2.2.2.1 hS.1 q 0 hq rfl hi hd (kk H locs ls hS h)
theorem q_iast (hC : gC X Y cc own nL fr lo) {c o : Nat} {i x : Int32} (n : Nat) (hV : gV c o) (hn : glen o = n + 1) (hi : vp_in i (n + 1)) (hd : decode cc pc = .ok (.iastore, 1)) (kk : gWW X Y nL (pc + 1) lv st (gwr M c o i.toNatClampNeg x)) : gWW X Y nL pc lv (.int x :: .int i :: .ref (gad Y c o) :: st) M := by
  intro H locs ls hS h
  obtain ⟨q, hq, hq2⟩ := gW_at (Y := Y) (M := M) hV
  rw [gce_a n hn] at hq
  refine va_iast (D := Y.1) (A := gA Y) hC.1 hC.2.1 hC.2.2.2.2.2.1 hS.1 hS.2.1 hS.2.2 q 0 hq rfl hi hd (fun H1 locs1 g1 g2 g3 => ?_)
  rw [gW_set (M' := gwr M c o i.toNatClampNeg x) hS.2.1 hq2 (by rw [gce_a n hn]; unfold gwr; rw [gup_at]) gup_ne] at g1 g2
  exact kk H1 locs1 ls ⟨g1, g2, g3⟩ h
theorem q_zald (hC : gC X Y cc own nL fr lo) {c o : Nat} {i : Int32} (hV : gV c o) (he : gcel Y M c o = .inl (gca Y 1, 2, .inl (M.1 c o))) (hi : vp_in i 2) (hd : decode cc pc = .ok (.baload, 1)) (kk : gWW X Y nL (pc + 1) lv (.int (M.1 c o i.toNatClampNeg) :: st) M) : gWW X Y nL pc lv (.int i :: .ref (gad Y c o) :: st) M := by
  intro H locs ls hS h
  obtain ⟨q, hq, -⟩ := gW_at (Y := Y) (M := M) hV
  rw [he] at hq
  exact va_zald (D := Y.1) hC.1 hC.2.1 hC.2.2.2.2.2.1 hS.1 q 1 hq rfl hi hd (kk H locs ls hS h)
theorem q_zast (hC : gC X Y cc own nL fr lo) {c o : Nat} {i x : Int32} (hV : gV c o) (he : ∀ M : gMem, gcel Y M c o = .inl (gca Y 1, 2, .inl (M.1 c o))) (hi : vp_in i 2) (hx : vp_nar .boolean x = x) (hd : decode cc pc = .ok (.bastore, 1)) (kk : gWW X Y nL (pc + 1) lv st (gwr M c o i.toNatClampNeg x)) : gWW X Y nL pc lv (.int x :: .int i :: .ref (gad Y c o) :: st) M := by
  intro H locs ls hS h
  obtain ⟨q, hq, hq2⟩ := gW_at (Y := Y) (M := M) hV
  rw [he] at hq
  refine va_zast (D := Y.1) (A := gA Y) hC.1 hC.2.1 hC.2.2.2.2.2.1 hS.1 hS.2.1 hS.2.2 q 1 hq rfl hi hd (fun H1 locs1 g1 g2 g3 => ?_)
  rw [hx] at g1 g2
  rw [gW_set (M' := gwr M c o i.toNatClampNeg x) hS.2.1 hq2 (by rw [he]; unfold gwr; rw [gup_at]) gup_ne] at g1 g2
  exact kk H1 locs1 ls ⟨g1, g2, g3⟩ h
theorem q_aald (hC : gC X Y cc own nL fr lo) {c o n b t0 : Nat} {i : Int32} {cA : ClassId} {ty : FieldType} {f : Nat → Option Nat} (hV : gV c o) (he : gcel Y M c o = .inl (cA, n, .inr (.inr (.inr (.inr f))))) (ht : (gTys Y)[t0]? = some (cA, ty)) (hty : ty.isReference = true) (hi : vp_in i n) (hf : f i.toNatClampNeg = some b) (hd : decode cc pc = .ok (.aaload, 1)) (kk : gWW X Y nL (pc + 1) lv (.ref b :: st) M) : gWW X Y nL pc lv (.int i :: .ref (gad Y c o) :: st) M := by
  intro H locs ls hS h
  obtain ⟨q, hq, -⟩ := gW_at (Y := Y) (M := M) hV
  rw [he] at hq
  have hlt : i.toNatClampNeg < n := Nat.not_le.mp fun q => hi (Or.inr q)
  refine W.aald (v := .ref b) (ty := ty) hC.1 hC.2.1 (hS.1 q _ hq) ((hC.2.2.2.2.2.1.2 t0 _ ht).1 n (fun j => va_rf (f j))) hty (fun q => by cases q) (by show ¬ (i < 0 ∨ (arrV _ _ _).slots.size ≤ _); rw [arrV_size]; exact hi) (by show (arrV _ _ _).slots[_]? = _; rw [arrV_read _ _ hlt, hf]; rfl) rfl rfl hd (kk H locs ls hS h)
theorem q_alen (hC : gC X Y cc own nL fr lo) {c o : Nat} (n : Nat) (v : Int32) (hV : gV c o) (hn : glen o = n + 1) (hv : Int32.ofNat (n + 1) = v) (hd : decode cc pc = .ok (.arraylength, 1)) (kk : gWW X Y nL (pc + 1) lv (.int v :: st) M) : gWW X Y nL pc lv (.ref (gad Y c o) :: st) M := by
  intro H locs ls hS h
  obtain ⟨q, hq, -⟩ := gW_at (Y := Y) (M := M) hV
  rw [gce_a n hn] at hq
  exact va_alen (D := Y.1) hC.1 hC.2.1 hC.2.2.2.2.2.1 hS.1 q 0 hq rfl hv hd (kk H locs ls hS h)
/-- System.arraycopy over int rows -/
theorem q_copy (hC : gC X Y cc own nL fr lo) {c0 o0 c1 o1 idx : Nat} {sp dp n : Int32} (n0 n1 : Nat) (hV0 : gV c0 o0) (hV1 : gV c1 o1) (hn0 : glen o0 = n0 + 1) (hn1 : glen o1 = n1 + 1) (hl : Cond.methodLink own idx arraycopyName ∈ gTs) (hg : (¬ sp < 0 ∧ ¬ dp < 0 ∧ ¬ n < 0) ∧ sp.toNatClampNeg + n.toNatClampNeg ≤ n0 + 1 ∧ dp.toNatClampNeg + n.toNatClampNeg ≤ n1 + 1) (hw : Cond.native arraycopyName ∈ gTs ∧ Cond.static arraycopyName ∈ gTs ∧ Cond.initialized "java/lang/System" ∈ gTs) (hfr : 1 ≤ fr) (hlo : (st.map fun v => v.category).sum + (nativeFrameWords "java/lang/System" "arraycopy" 5 + 11) ≤ lo) (hd : decode cc pc = .ok (.invokestatic idx, 3)) (kk : gWW X Y nL (pc + 3) lv st (gup M c1 o1 (va_cpy (M.1 c0 o0) (M.1 c1 o1) sp.toNatClampNeg dp.toNatClampNeg n.toNatClampNeg))) : gWW X Y nL pc lv (.int n :: .int dp :: .ref (gad Y c1 o1) :: .int sp :: .ref (gad Y c0 o0) :: st) M := by
  intro H locs ls hS h
  obtain ⟨q0, hq0, -⟩ := gW_at (Y := Y) (M := M) hV0
  obtain ⟨q1, hq1, hq2⟩ := gW_at (Y := Y) (M := M) hV1
  rw [gce_a n0 hn0] at hq0
  rw [gce_a n1 hn1] at hq1
  have hts := hC.2.2.2.2.1
  have hR := hC.2.2.2.2.2.2.2.2
  refine va_copyi (D := Y.1) (A := gA Y) hC.1 hC.2.1 (hC.2.2.1.trans h.1.symm) hC.2.2.2.1 (hts _ hl) (hts _ hw.1) (hts _ hw.2.1) (hts _ hw.2.2) hC.2.2.2.2.2.1 hS.1 hS.2.1 hS.2.2 q0 q1 0 0 hq0 hq1 rfl rfl rfl hg.1.1 hg.1.2.1 hg.1.2.2 hg.2.1 hg.2.2 (fun _ _ => rfl) (by rw [hR.1]; exact hfr) (by rw [hR.2.1]; exact hlo) hd (fun H1 locs1 g1 g2 g3 => ?_)
  rw [gW_set (M' := gup M c1 o1 (va_cpy (M.1 c0 o0) (M.1 c1 o1) sp.toNatClampNeg dp.toNatClampNeg n.toNatClampNeg)) hS.2.1 hq2 (by rw [gce_a n1 hn1, gup_at]) gup_ne] at g1 g2
  exact kk H1 locs1 ls ⟨g1, g2, g3⟩ h
end GM
