theorem itr_mo {σ ρ : Type} {step : σ → Option (σ ⊕ ρ)} {r : ρ} : ∀ (F G : Nat) (s : σ), itr F step s = some r → F ≤ G → itr G step s = some r
  | 0, _, s, h, _ => by unfold itr at h; exact absurd h (by intro q; cases q)
  | F + 1, 0, s, _, h2 => by omega
  | F + 1, G + 1, s, h, h2 => by
    unfold itr at h ⊢
    cases e : step s with
    | none => rw [e] at h; exact absurd h (by intro q; cases q)
    | some z =>
      rw [e] at h
      cases z with
      | inl s' => exact itr_mo F G s' h (by omega)
      | inr r' => exact h
theorem M_ones {a : Nat} (ha : a < 256) : ∃ p, p < 9 ∧ x_J6_bitCount_0f7a4 (nI a) = some (nI p) ∧ x_X11_ones (nI a) = some (nI p) ∧ (nI a = 0 ↔ nI p ≤ 0) := by
  have hd : ∀ a, a < 256 → ∃ p, p < 9 ∧ x_J6_bitCount_0f7a4 (nI a) = some (nI p) ∧ itr 10 (fun s => s_X11_ones_4 s.1 s.2) (0, nI a) = some (nI p, 0) ∧ (nI a = 0 ↔ nI p ≤ 0) := by decide +kernel
  obtain ⟨p, h1, h2, h3, h4⟩ := hd a ha
  refine ⟨p, h1, h2, ?_, h4⟩
  unfold x_X11_ones
  exact (bindS (itr_mo 10 FU _ h3 (by have := FU_ge; omega))).trans rfl
theorem bit_h {a k : Nat} (ha : a < 256) (hk : k < 8) : ∃ v : Int32, (v = 0 ∨ v = 1) ∧ x_J6_bitCount_0f7a4 (nI a &&& (1 <<< (nI k &&& 31))) = some v ∧ x_X11_has (nI a) (nI k) = some v := by
  have hd : ∀ a, a < 256 → ∀ k, k < 8 → x_J6_bitCount_0f7a4 (nI a &&& (1 <<< (nI k &&& 31))) = x_X11_has (nI a) (nI k) := by decide +kernel
  rw [hd a ha k hk]
  unfold x_X11_has
  split
  · exact ⟨1, Or.inr rfl, rfl, rfl⟩
  · exact ⟨0, Or.inl rfl, rfl, rfl⟩
theorem mx_e (x y : Int32) : (if x < y then y else x) = if x ≤ y then y else x := by
  by_cases h : x < y
  · rw [if_pos h, if_pos (by rw [i32_lt] at h; rw [i32_le]; omega)]
  · rw [if_neg h]
    by_cases h2 : x ≤ y
    · rw [if_pos h2]; rw [i32_lt] at h; rw [i32_le] at h2; exact Int32.toInt_inj.mp (by omega)
    · rw [if_neg h2]
section ST6
variable {M : gMem}
theorem st_next {M} (h : INV M) (a1 : Int32) : ∃ r1 r2, x_X10_next M a1 = some r1 ∧ x_X11_next r1.2 a1 = some r2 ∧ r1.1 = r2.1 ∧ INV r2.2 := by
  obtain ⟨⟨n, T, m, u, sl, ⟨hW, hC, hM, hh, hd⟩, ⟨m6, m1, m2, m3⟩, hU⟩, _⟩ := id h
  have hn := hW.1
  have hB : (rbM M 0).1 0 60 16 = nI n := by rw [rb60]; exact hM.1
  rcases guest_e a1 hn with ⟨g, hg, rfl, c1, c2⟩ | ⟨c1, c2⟩
  · have g1 : gin (nI g) 7 := gin_n (by omega) (by omega)
    have e1 : (nI g).toNatClampNeg = g := nI_clamp (by omega)
    obtain ⟨kd, hk, ek⟩ := (hW.2 g hg).1
    obtain ⟨a, ha, ea⟩ := wS_n (fitN (nR M) m kd (nI g)) 8 (by omega)
    obtain ⟨p, hp, b1, b2, b3⟩ := M_ones ha
    obtain ⟨r1, r2, hr1, hr2, hq⟩ := itr_rel (s1 := fun s => s_X10_next_45 M (nI a) s.1 s.2.1 s.2.2) (s2 := fun s => s_X11_next_43 M (nI a) (nI p) s.1 s.2.1 s.2.2) (a := ((-1 : Int32), (9 : Int32), (0 : Int32))) (b := ((-1 : Int32), (9 : Int32), (0 : Int32))) (fun i x y => i ≤ 8 ∧ x = y ∧ x.2.2 = nI i) (fun x y => x = y) 8 (by omega) ⟨by omega, rfl, rfl⟩ (by
      rintro i ⟨x1, x2, x3⟩ y ⟨hi, rfl, rfl⟩
      dsimp only
      unfold s_X10_next_45 s_X11_next_43
      by_cases e : i = 8
      · subst e
        exact Or.inl ⟨_, _, rfl, rfl, rfl⟩
      · have p1 : ¬ (8 : Int32) ≤ nI i := show ¬ nI 8 ≤ nI i from by rw [nI_leI (by omega) (by omega)]; omega
        rw [if_neg p1, if_neg p1]
        by_cases q : nI a = 0
        · rw [if_pos q, if_pos (b3.mp q)]
          exact Or.inl ⟨_, _, rfl, rfl, rfl⟩
        · rw [if_neg q, if_neg (fun z => q (b3.mpr z))]
          obtain ⟨v, hv, v1, v2⟩ := bit_h ha (show i < 8 by omega)
          rw [v1, v2, b1]
          refine Or.inr ⟨by omega, ?_⟩
          unfold j_X10_next_45_95 j_X11_next_43_68 j_X11_next_43_88 j_X11_next_43_104 j_X11_next_43_120
          show ∃ a' b', (if x2 ≤ (if v < nI p - v then nI p - v else v) then some (Sum.inl (x1, x2, nI i + 1)) else some (Sum.inl (nI i, (if v < nI p - v then nI p - v else v), nI i + 1))) = _ ∧ (if v = 0 then (if (0 : Int32) ≤ nI p - 0 then _ else _) else (if (1 : Int32) ≤ nI p - 1 then _ else _)) = _ ∧ _
          rw [mx_e]
          have key : ∀ w : Int32, ∃ a' b', (if x2 ≤ w then some (Sum.inl (x1, x2, nI i + 1)) else some (Sum.inl (nI i, w, nI i + 1))) = (some (Sum.inl a') : Option ((Int32 × Int32 × Int32) ⊕ (Int32 × Int32 × Int32))) ∧ (if x2 ≤ w then (if x2 ≤ w then some (Sum.inl (x1, x2, nI i + 1)) else some (Sum.inl (x1, w, nI i + 1))) else if x2 ≤ w then some (Sum.inl (nI i, x2, nI i + 1)) else some (Sum.inl (nI i, w, nI i + 1))) = (some (Sum.inl b') : Option ((Int32 × Int32 × Int32) ⊕ (Int32 × Int32 × Int32))) ∧ i + 1 ≤ 8 ∧ a' = b' ∧ a'.2.2 = nI (i + 1) := by
            intro w
            by_cases z : x2 ≤ w
            · simp only [if_pos z]; exact ⟨_, _, rfl, rfl, by omega, rfl, nI_1 i⟩
            · simp only [if_neg z]; exact ⟨_, _, rfl, rfl, by omega, rfl, nI_1 i⟩
          rcases hv with rfl | rfl
          · rw [if_pos rfl]
            by_cases z : (0 : Int32) ≤ nI p - 0
            · simp only [if_pos z]; exact key _
            · simp only [if_neg z]; exact key _
          · have z1 : ¬ (1 : Int32) = 0 := by decide
            simp only [if_neg z1]
            by_cases z : (1 : Int32) ≤ nI p - 1
            · simp only [if_pos z]; exact key _
            · simp only [if_neg z]; exact key _)
    subst hq
    refine smB h (x2 := fun N => x_X11_next N _) r1.1 ?_ ?_
    · unfold x_X10_next; rw [c1 M 0 hC.1]; show gd (gin (nI g) 7) (Option.bind (x_X1_wantsThatFit M 0 (nI g) (M.1 0 1 (nI g).toNatClampNeg)) _) = _
      rw [gd_i g1, e1, (hC.2 g hg).1, ek, C_wt m6 m1 hk, ea]
      exact (bindS hr1).trans rfl
    · show x_X11_next _ _ = _
      unfold x_X11_next; rw [c2 M hM.1]; show gd (gin (nI 17 + nI g) 70) (Option.bind (x_X11_wantsBy M (nI g) (M.1 0 60 (nI 17 + nI g).toNatClampNeg)) _) = _
      rw [nI_add, gd_i (gin_n (by omega) (by omega)), nI_clamp (by omega), (hM.2 g hg).1, ek, M_wt m6 m2 m3 hk, ea]
      show Option.bind (x_X11_ones (nI a)) _ = _
      rw [b2]
      exact (bindS hr2).trans rfl
  · refine rfB h (x2 := fun N => x_X11_next N _) 0 (by decide) (-2) ?_ ?_
    · unfold x_X10_next; rw [c1 M 0 hC.1]; rfl
    · show x_X11_next _ _ = _
      unfold x_X11_next; rw [c2 _ hB]; rfl
end ST6
