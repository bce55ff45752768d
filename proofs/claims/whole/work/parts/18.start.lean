/-! the memory at the start, out of what the constructors make -/
def gM0 : gMem := (fun _ o j => if o = 36 ∧ j = 5 then -1 else 0, fun o k => if (o = 34 ∧ k = 8) ∨ (o = 59 ∧ k = 2) then 1 else 0)
def adR (b t mb : Nat) (r q r' : Nat → Nat) (u : Nat → Nat → Nat) (c o : Nat) : Nat :=
  if o < 34 then (if o = 0 then (match c with | 0 => q 11 | 1 => q 12 | 2 => q 14 | _ => q 15) else if 8 ≤ o ∧ o ≤ 13 then u c 7 + 1 + (o - 8) else if 15 ≤ o ∧ o ≤ 22 then u c 14 + 1 + (o - 15) else if 24 ≤ o ∧ o ≤ 31 then u c 23 + 1 + (o - 24) else u c o)
  else if 42 ≤ o ∧ o ≤ 48 then r 2 + 1 + (o - 42) else if 52 ≤ o ∧ o ≤ 57 then q (5 + (o - 52)) else if 60 ≤ o then r' (o - 60) else
  match o with | 34 => b | 35 => q 0 | 36 => q 1 | 37 => t | 38 => q 2 | 39 => r 0 | 40 => r 1 | 41 => r 2 | 49 => r 3 | 50 => q 3 | 51 => q 4 | 58 => q 13 | _ => mb
abbrev gYR (Y : gY) (b t mb : Nat) (r q r' : Nat → Nat) (u : Nat → Nat → Nat) : gY := (Y.1, adR b t mb r q r' u, Y.2.2)
section GR0
variable {Y : gY} {b t mb : Nat} {r q r' : Nat → Nat} {u : Nat → Nat → Nat}
theorem gR_7 (c : Nat) : gcel (gYR Y b t mb r q r' u) gM0 c 7 = gOut Y (u c 7) 6 := by
  show Sum.inl (gca Y 4, 6, Sum.inr (Sum.inr (Sum.inr (Sum.inr (grow (gYR Y b t mb r q r' u) c 8 6))))) = gOut Y (u c 7) 6
  unfold gOut grow
  congr 7
  funext i
  by_cases h : i < 6
  · rw [if_pos h, if_pos h]
    show some (adR b t mb r q r' u c (8 + i)) = _
    unfold adR
    rw [if_pos (by omega), if_neg (by omega), if_pos (by omega)]
    congr 2
    omega
  · rw [if_neg h, if_neg h]
theorem gR_14 (c : Nat) : gcel (gYR Y b t mb r q r' u) gM0 c 14 = gOut Y (u c 14) 8 := by
  show Sum.inl (gca Y 4, 8, Sum.inr (Sum.inr (Sum.inr (Sum.inr (grow (gYR Y b t mb r q r' u) c 15 8))))) = gOut Y (u c 14) 8
  unfold gOut grow
  congr 7
  funext i
  by_cases h : i < 8
  · rw [if_pos h, if_pos h]
    show some (adR b t mb r q r' u c (15 + i)) = _
    unfold adR
    rw [if_pos (by omega), if_neg (by omega), if_neg (by omega), if_pos (by omega)]
    congr 2
    omega
  · rw [if_neg h, if_neg h]
theorem gR_23 (c : Nat) : gcel (gYR Y b t mb r q r' u) gM0 c 23 = gOut Y (u c 23) 8 := by
  show Sum.inl (gca Y 4, 8, Sum.inr (Sum.inr (Sum.inr (Sum.inr (grow (gYR Y b t mb r q r' u) c 24 8))))) = gOut Y (u c 23) 8
  unfold gOut grow
  congr 7
  funext i
  by_cases h : i < 8
  · rw [if_pos h, if_pos h]
    show some (adR b t mb r q r' u c (24 + i)) = _
    unfold adR
    rw [if_pos (by omega), if_neg (by omega), if_neg (by omega), if_neg (by omega), if_pos (by omega)]
    congr 2
    omega
  · rw [if_neg h, if_neg h]
theorem gR_41 : gcel (gYR Y b t mb r q r' u) gM0 0 41 = gOut Y (r 2) 7 := by
  show Sum.inl (gca Y 4, 7, Sum.inr (Sum.inr (Sum.inr (Sum.inr (grow (gYR Y b t mb r q r' u) 0 42 7))))) = gOut Y (r 2) 7
  unfold gOut grow
  congr 7
  funext i
  by_cases h : i < 7
  · rw [if_pos h, if_pos h]
    show some (adR b t mb r q r' u 0 (42 + i)) = _
    unfold adR
    rw [if_neg (by omega), if_pos (by omega)]
    congr 2
    omega
  · rw [if_neg h, if_neg h]
theorem gR_51 : gcel (gYR Y b t mb r q r' u) gM0 0 51 = .inl (gca Y 2, 6, .inr (.inr (.inr (.inr (va_up (va_up (va_up (va_up (va_up (va_up (fun _ => none) 0 (some (q 5))) 1 (some (q 6))) 2 (some (q 7))) 3 (some (q 8))) 4 (some (q 9))) 5 (some (q 10))))))) := by
  show Sum.inl (gca Y 2, 6, Sum.inr (Sum.inr (Sum.inr (Sum.inr (grow (gYR Y b t mb r q r' u) 0 52 6))))) = _
  unfold grow
  congr 7
  funext i
  by_cases h : i < 6
  · rw [if_pos h]
    rcases (show i = 0 ∨ i = 1 ∨ i = 2 ∨ i = 3 ∨ i = 4 ∨ i = 5 by omega) with rfl | rfl | rfl | rfl | rfl | rfl <;> rfl
  · rw [if_neg h]
    simp only [va_up]
    rw [if_neg (by omega), if_neg (by omega), if_neg (by omega), if_neg (by omega), if_neg (by omega), if_neg (by omega)]
theorem gR_58 : gcel (gYR Y b t mb r q r' u) gM0 0 58 = .inl (gca Y 3, 2, .inr (.inr (.inr (.inr (va_up (va_up (fun _ => none) 0 (some (q 14))) 1 (some (q 15))))))) := by
  show Sum.inl (gca Y 3, 2, Sum.inr (Sum.inr (Sum.inr (Sum.inr (gimg (gYR Y b t mb r q r' u)))))) = _
  unfold gimg
  congr 7
  funext i
  by_cases h : i < 2
  · rw [if_pos h]
    rcases (show i = 0 ∨ i = 1 by omega) with rfl | rfl <;> rfl
  · rw [if_neg h]
    simp only [va_up]
    rw [if_neg (by omega), if_neg (by omega)]
theorem gR_h (c : Nat) (hb : Nat) (h0 : adR b t mb r q r' u c 0 = hb) (h1 : ∀ o, o = 1 ∨ o = 2 ∨ o = 3 ∨ o = 4 ∨ o = 5 ∨ o = 6 ∨ o = 7 ∨ o = 14 ∨ o = 23 ∨ o = 32 ∨ o = 33 → adR b t mb r q r' u c o = u c o) : (List.range 34).map (fun k => (gad (gYR Y b t mb r q r' u) c k, gcel (gYR Y b t mb r q r' u) gM0 c k)) = hblk Y hb (q 4) (u c) := by
  rw [show (List.range 34) = [0, 1, 2, 3, 4, 5, 6, 7, 8, 9, 10, 11, 12, 13, 14, 15, 16, 17, 18, 19, 20, 21, 22, 23, 24, 25, 26, 27, 28, 29, 30, 31, 32, 33] from rfl]
  simp only [List.map_cons, List.map_nil]
  rw [gR_7, gR_14, gR_23]
  subst h0
  rfl
theorem gR_all : gW (gYR Y b t mb r q r' u) gM0 = gblk Y b t r q u ++ mblk Y mb r' := by
  unfold gW gPL
  simp only [List.map_append, List.map_map, Function.comp_def]
  rw [gR_h 0 (q 11) rfl (fun o h => by rcases h with rfl | rfl | rfl | rfl | rfl | rfl | rfl | rfl | rfl | rfl | rfl <;> rfl), gR_h 1 (q 12) rfl (fun o h => by rcases h with rfl | rfl | rfl | rfl | rfl | rfl | rfl | rfl | rfl | rfl | rfl <;> rfl), gR_h 2 (q 14) rfl (fun o h => by rcases h with rfl | rfl | rfl | rfl | rfl | rfl | rfl | rfl | rfl | rfl | rfl <;> rfl), gR_h 3 (q 15) rfl (fun o h => by rcases h with rfl | rfl | rfl | rfl | rfl | rfl | rfl | rfl | rfl | rfl | rfl <;> rfl)]
  rw [show (List.range 24) = [0, 1, 2, 3, 4, 5, 6, 7, 8, 9, 10, 11, 12, 13, 14, 15, 16, 17, 18, 19, 20, 21, 22, 23] from rfl, show (List.range 15) = [0, 1, 2, 3, 4, 5, 6, 7, 8, 9, 10, 11, 12, 13, 14] from rfl]
  simp only [List.map_cons, List.map_nil]
  rw [show (34 + 7 : Nat) = 41 from rfl, gR_41, show (34 + 17 : Nat) = 51 from rfl, gR_51, gR_58]
  unfold gblk rblk mblk
  simp only [List.append_assoc, List.cons_append, List.nil_append]
  rfl
end GR0
