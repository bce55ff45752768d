/-! moods: sums over sets -/
section MD1
abbrev sm (f : Nat → Nat) (n : Nat) : Nat := fd (fun x y => x + y) 0 f n
theorem sm_s (f : Nat → Nat) (n : Nat) : sm f (n + 1) = sm f n + f n := rfl
theorem sm_ap (f : Nat → Nat) (a b : Nat) : sm f (a + b) = sm f a + sm (fun t => f (a + t)) b := fd_add (fun x y z => Nat.add_assoc x y z) (fun f n => Nat.add_zero _) f a b
theorem sm_add (f g : Nat → Nat) : ∀ n, sm (fun i => f i + g i) n = sm f n + sm g n
  | 0 => rfl
  | n + 1 => by rw [sm_s, sm_s, sm_s, sm_add f g n]; omega
theorem sm_mul (f : Nat → Nat) (c : Nat) : ∀ n, sm (fun i => f i * c) n = sm f n * c
  | 0 => (Nat.zero_mul c).symm
  | n + 1 => by rw [sm_s, sm_s, sm_mul f c n, Nat.add_mul]
theorem sm_0 : ∀ n, sm (fun _ => 0) n = 0
  | 0 => rfl
  | n + 1 => by rw [sm_s, sm_0 n]
def pdt (c S : Nat) : Nat → Nat
  | 0 => 1
  | g + 1 => pdt c S g * (if S.testBit g = true then c else 10 - c)
theorem pdt_s (c S g : Nat) : pdt c S (g + 1) = pdt c S g * (if S.testBit g = true then c else 10 - c) := rfl
theorem pdt_cg {c S S' : Nat} : ∀ n, (∀ g, g < n → S.testBit g = S'.testBit g) → pdt c S n = pdt c S' n
  | 0, _ => rfl
  | n + 1, h => by rw [pdt_s, pdt_s, pdt_cg n (fun g hg => h g (by omega)), h n (by omega)]
theorem allB_cg {p q : Nat → Bool} : ∀ n, (∀ g, g < n → p g = q g) → allB p n = allB q n
  | 0, _ => rfl
  | n + 1, h => by
    show (allB p n && p n) = (allB q n && q n)
    rw [allB_cg n (fun g hg => h g (by omega)), h n (by omega)]
theorem pdt_all {c : Nat} (hc : c ≤ 10) : ∀ n, sm (fun S => pdt c S n) (2 ^ n) = 10 ^ n
  | 0 => rfl
  | n + 1 => by
    have h2 : 2 ^ (n + 1) = 2 ^ n + 2 ^ n := by rw [Nat.pow_succ]; omega
    rw [h2, sm_ap]
    have e1 : sm (fun S => pdt c S (n + 1)) (2 ^ n) = 10 ^ n * (10 - c) := by
      rw [← pdt_all hc n, ← sm_mul]
      exact fd_cong _ (fun S hS => by rw [pdt_s, Nat.testBit_lt_two_pow hS]; rfl)
    have e2 : sm (fun t => pdt c (2 ^ n + t) (n + 1)) (2 ^ n) = 10 ^ n * c := by
      rw [← pdt_all hc n, ← sm_mul]
      exact fd_cong _ (fun S hS => by
        rw [pdt_s, Nat.testBit_two_pow_add_eq, Nat.testBit_lt_two_pow hS, pdt_cg n (fun g hg => Nat.testBit_two_pow_add_gt hg S)]
        rfl)
    rw [e1, e2, ← Nat.mul_add, Nat.sub_add_cancel hc, Nat.pow_succ]
def pq (c : Nat) (q : Nat → Bool) : Nat → Nat
  | 0 => 1
  | g + 1 => pq c q g * (if q g = true then 10 - c else 10)
theorem pq_s (c : Nat) (q : Nat → Bool) (g : Nat) : pq c q (g + 1) = pq c q g * (if q g = true then 10 - c else 10) := rfl
abbrev nsv (q : Nat → Bool) (S n : Nat) : Bool := allB (fun g => !(S.testBit g && q g)) n
theorem nsv_s (q : Nat → Bool) (S n : Nat) : nsv q S (n + 1) = (nsv q S n && !(S.testBit n && q n)) := rfl
theorem pdt_no {c : Nat} (hc : c ≤ 10) (q : Nat → Bool) : ∀ n, sm (fun S => if nsv q S n = true then pdt c S n else 0) (2 ^ n) = pq c q n
  | 0 => rfl
  | n + 1 => by
    have h2 : 2 ^ (n + 1) = 2 ^ n + 2 ^ n := by rw [Nat.pow_succ]; omega
    rw [h2, sm_ap, pq_s]
    have e1 : sm (fun S => if nsv q S (n + 1) = true then pdt c S (n + 1) else 0) (2 ^ n) = pq c q n * (10 - c) := by
      rw [← pdt_no hc q n, ← sm_mul]
      refine fd_cong _ (fun S hS => ?_)
      rw [nsv_s, pdt_s, Nat.testBit_lt_two_pow hS]
      cases nsv q S n <;> simp
    have e2 : sm (fun t => if nsv q (2 ^ n + t) (n + 1) = true then pdt c (2 ^ n + t) (n + 1) else 0) (2 ^ n) = pq c q n * (if q n = true then 0 else c) := by
      rw [← pdt_no hc q n, ← sm_mul]
      refine fd_cong _ (fun S hS => ?_)
      have hl : ∀ g, g < n → (2 ^ n + S).testBit g = S.testBit g := fun g hg => Nat.testBit_two_pow_add_gt hg S
      have hn : nsv q (2 ^ n + S) n = nsv q S n := allB_cg n (fun g hg => by rw [hl g hg])
      rw [nsv_s, pdt_s, Nat.testBit_two_pow_add_eq, Nat.testBit_lt_two_pow hS, pdt_cg n hl, hn]
      cases nsv q S n <;> cases q n <;> simp
    rw [e1, e2, ← Nat.mul_add]
    cases q n
    · show pq c q n * (10 - c + c) = pq c q n * 10
      rw [Nat.sub_add_cancel hc]
    · rfl
theorem sm_ex (a : Nat → Nat) (b : Nat → Nat → Bool) (K : Nat) : ∀ m, sm (fun S => a S * cN (b S) m) K = sm (fun w => sm (fun S => if b S w = true then a S else 0) K) m
  | 0 => by
    rw [show (fun S => a S * cN (b S) 0) = fun _ => 0 from funext (fun S => Nat.mul_zero _)]
    exact sm_0 K
  | m + 1 => by
    rw [sm_s, ← sm_ex a b K m, ← sm_add]
    refine fd_cong _ (fun S _ => ?_)
    show a S * (cN (b S) m + (if b S m = true then 1 else 0)) = _
    rw [Nat.mul_add]
    cases b S m <;> simp
theorem sm_sv {c : Nat} (hc : c ≤ 10) (q : Nat → Bool) (n : Nat) : sm (fun S => if (!nsv q S n) = true then pdt c S n else 0) (2 ^ n) + pq c q n = 10 ^ n := by
  rw [← pdt_no hc q n, ← pdt_all hc n, ← sm_add]
  refine fd_cong _ (fun S _ => ?_)
  cases nsv q S n <;> simp
/-- the chance that of k none does it, by a million -/
def odd6 (c k : Nat) : Nat := 10 ^ (6 - k) * (10 - c) ^ k
theorem pq_k (c : Nat) (q : Nat → Bool) : ∀ n, pq c q n * 10 ^ cN q n = (10 - c) ^ cN q n * 10 ^ n
  | 0 => rfl
  | n + 1 => by
    have ih := pq_k c q n
    rw [pq_s]
    show pq c q n * _ * 10 ^ (cN q n + (if q n = true then 1 else 0)) = (10 - c) ^ (cN q n + (if q n = true then 1 else 0)) * 10 ^ (n + 1)
    cases q n
    · show pq c q n * 10 * 10 ^ (cN q n) = (10 - c) ^ (cN q n) * 10 ^ (n + 1)
      rw [Nat.pow_succ, Nat.mul_right_comm, ih, Nat.mul_assoc]
    · show pq c q n * (10 - c) * 10 ^ (cN q n + 1) = (10 - c) ^ (cN q n + 1) * 10 ^ (n + 1)
      rw [Nat.pow_succ, Nat.pow_succ, Nat.pow_succ]
      calc pq c q n * (10 - c) * (10 ^ cN q n * 10) = (pq c q n * 10 ^ cN q n) * ((10 - c) * 10) := by ac_rfl
        _ = (10 - c) ^ cN q n * 10 ^ n * ((10 - c) * 10) := by rw [ih]
        _ = _ := by ac_rfl
theorem odd_k {c k : Nat} (hk : k ≤ 6) : odd6 c k * 10 ^ k = (10 - c) ^ k * 10 ^ 6 := by
  unfold odd6
  have h : 10 ^ (6 - k) * 10 ^ k = 10 ^ 6 := by rw [← Nat.pow_add, Nat.sub_add_cancel hk]
  calc 10 ^ (6 - k) * (10 - c) ^ k * 10 ^ k = (10 - c) ^ k * (10 ^ (6 - k) * 10 ^ k) := by ac_rfl
    _ = _ := by rw [h]
theorem odd_s {c k : Nat} (hk : k < 6) : odd6 c k / 10 * (10 - c) = odd6 c (k + 1) := by
  unfold odd6
  have h : 10 ^ (6 - k) = 10 * 10 ^ (6 - (k + 1)) := by
    rw [show 6 - k = (6 - (k + 1)) + 1 by omega, Nat.pow_succ, Nat.mul_comm]
  rw [h, Nat.mul_assoc, Nat.mul_div_cancel_left _ (by omega), Nat.pow_succ, Nat.mul_assoc]
theorem odd_x {c n : Nat} (q : Nat → Bool) (hk : cN q n ≤ 6) : odd6 c (cN q n) * 10 ^ n = pq c q n * 10 ^ 6 := by
  have h1 := pq_k c q n
  have h2 := odd_k (c := c) hk
  have hp : 0 < 10 ^ cN q n := Nat.pow_pos (by omega)
  refine Nat.eq_of_mul_eq_mul_right hp ?_
  calc odd6 c (cN q n) * 10 ^ n * 10 ^ cN q n = (odd6 c (cN q n) * 10 ^ cN q n) * 10 ^ n := by ac_rfl
    _ = (10 - c) ^ cN q n * 10 ^ 6 * 10 ^ n := by rw [h2]
    _ = ((10 - c) ^ cN q n * 10 ^ n) * 10 ^ 6 := by ac_rfl
    _ = pq c q n * 10 ^ cN q n * 10 ^ 6 := by rw [h1]
    _ = _ := by ac_rfl
theorem odd_le {c k : Nat} (hk : k ≤ 6) : odd6 c k ≤ 1000000 := by
  have h := odd_k (c := c) hk
  have h1 : (10 - c) ^ k ≤ 10 ^ k := Nat.pow_le_pow_left (by omega) k
  have hp : 0 < 10 ^ k := Nat.pow_pos (by omega)
  have h2 : odd6 c k * 10 ^ k ≤ 1000000 * 10 ^ k := by
    rw [h, Nat.mul_comm]
    exact Nat.mul_le_mul (by decide) h1
  exact Nat.le_of_mul_le_mul_right h2 hp
/-- above by the class and by the reference -/
theorem sum_x {c n : Nat} (hc : c ≤ 10) (q : Nat → Nat → Bool) (hk : ∀ w, w < n → cN (fun g => q g w) n ≤ 6) : sm (fun w => 1000000 - odd6 c (cN (fun g => q g w) n)) n * 10 ^ n = sm (fun S => pdt c S n * cN (fun w => !nsv (fun g => q g w) S n) n) (2 ^ n) * 10 ^ 6 := by
  rw [sm_ex (fun S => pdt c S n) (fun S w => !nsv (fun g => q g w) S n), ← sm_mul, ← sm_mul]
  refine fd_cong _ (fun w hw => ?_)
  have h1 := sm_sv hc (fun g => q g w) n
  have h2 := odd_x (c := c) (fun g => q g w) (hk w hw)
  have h3 : sm (fun S => if (!nsv (fun g => q g w) S n) = true then pdt c S n else 0) (2 ^ n) = 10 ^ n - pq c (fun g => q g w) n := by omega
  rw [h3, Nat.mul_sub_right_distrib, Nat.mul_sub_right_distrib, h2, Nat.mul_comm (10 ^ n)]
theorem red_x {p q p' q' : Nat} (hq : 0 < q) (hq' : 0 < q') (h : p * q' = p' * q) : p / Nat.gcd p q = p' / Nat.gcd p' q' ∧ q / Nat.gcd p q = q' / Nat.gcd p' q' := by
  have h1 : Nat.gcd p q * q' = Nat.gcd p' q' * q := by
    rw [← Nat.gcd_mul_right, ← Nat.gcd_mul_right, h, Nat.mul_comm q q']
  refine ⟨?_, ?_⟩
  · rw [← Nat.mul_div_mul_right p _ hq', ← Nat.mul_div_mul_right p' _ hq, h1, h]
  · rw [← Nat.mul_div_mul_right q _ hq', ← Nat.mul_div_mul_right q' _ hq, h1, Nat.mul_comm q q']
/-- a step of Euclid's: the product falls to a half -/
theorem eu_h {a b : Nat} (hb : 0 < b) (h : b < a) : b * (a % b) * 2 ≤ a * b := by
  have h1 : a % b < b := Nat.mod_lt a hb
  have h2 := Nat.div_add_mod a b
  have h3 : 1 ≤ a / b := (Nat.le_div_iff_mul_le hb).mpr (by omega)
  have h4 : b * 1 ≤ b * (a / b) := Nat.mul_le_mul_left b h3
  have h5 : a % b * 2 ≤ a := by omega
  calc b * (a % b) * 2 = a % b * 2 * b := by ac_rfl
    _ ≤ a * b := Nat.mul_le_mul_right b h5
end MD1
