section GK2
variable {X : gX} {Y : gY} {cc : ByteArray} {own : String} {nL fr lo pc : Nat} {lv : List (Nat × Value)} {st : List Value} {M : gMem}
theorem q_kip {rest : List Value} {v : Int32} {M' : gMem} {a : Array Value} (hr : gRun X Y nL pc lv st rest M (gQi Y (v, M') a)) (kk : gWW X Y nL (pc + 3) lv (.int v :: rest) M') : gWW X Y nL pc lv st M := q_ki hr kk
theorem q_kzp {rest : List Value} {v : Int32} {M' : gMem} {a : Array Value} (hr : gRun X Y nL pc lv st rest M (gQz Y (v, M') a)) (kk : (v = 0 ∨ v = 1) → gWW X Y nL (pc + 3) lv (.int v :: rest) M') : gWW X Y nL pc lv st M := q_kz hr kk
theorem q_klp {rest : List Value} {v : Int64} {M' : gMem} {a : Array Value} (hr : gRun X Y nL pc lv st rest M (gQl Y (v, M') a)) (kk : gWW X Y nL (pc + 3) lv (.long v :: rest) M') : gWW X Y nL pc lv st M := q_kl hr kk
theorem q_ialdk (hC : gC X Y cc own nL fr lo) {c o : Nat} {i : Int32} (j n : Nat) (hV : gV c o) (hn : glen o = n + 1) (hi : gin i (n + 1)) (hj : i.toNatClampNeg = j) (hd : decode cc pc = .ok (.iaload, 1)) (kk : gWW X Y nL (pc + 1) lv (.int (M.1 c o j) :: st) M) : gWW X Y nL pc lv (.int i :: .ref (gad Y c o) :: st) M := by
  subst hj
  exact q_iald hC n hV hn hi hd kk
theorem q_iastk (hC : gC X Y cc own nL fr lo) {c o : Nat} {i x : Int32} (j n : Nat) (hV : gV c o) (hn : glen o = n + 1) (hi : gin i (n + 1)) (hj : i.toNatClampNeg = j) (hd : decode cc pc = .ok (.iastore, 1)) (kk : gWW X Y nL (pc + 1) lv st (gwr M c o j x)) : gWW X Y nL pc lv (.int x :: .int i :: .ref (gad Y c o) :: st) M := by
  subst hj
  exact q_iast hC n hV hn hi hd kk
end GK2
theorem gkind (Y : gY) (M : gMem) {kd : Nat} (h : kd < 6) : ∃ (ci : Nat) (C : String) (T : u_T) (N : Nat), gcel Y M 0 (52 + kd) = .inr (ci, []) ∧ vwCl[ci]? = some (C, T, N) := by
  match kd, h with
  | 0, _ => exact ⟨4, _, _, _, rfl, rfl⟩
  | 1, _ => exact ⟨6, _, _, _, rfl, rfl⟩
  | 2, _ => exact ⟨0, _, _, _, rfl, rfl⟩
  | 3, _ => exact ⟨8, _, _, _, rfl, rfl⟩
  | 4, _ => exact ⟨2, _, _, _, rfl, rfl⟩
  | 5, _ => exact ⟨5, _, _, _, rfl, rfl⟩
