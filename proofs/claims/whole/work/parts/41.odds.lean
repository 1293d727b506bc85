/-! ===== odds: numbers ===== -/
theorem fr_eq {a b c d P Q : Nat} (hP : 0 < P) (hQ : 0 < Q) (e1 : a * Q = b * P) (e2 : c * Q = d * P) : a / Nat.gcd a c = b / Nat.gcd b d := by
  have g : Nat.gcd a c * Q = Nat.gcd b d * P := by rw [← Nat.gcd_mul_right, ← Nat.gcd_mul_right, e1, e2]
  rw [← Nat.mul_div_mul_right a (Nat.gcd a c) hQ, ← Nat.mul_div_mul_right b (Nat.gcd b d) hP, e1, g]
theorem fr_eq2 {a b c d P Q : Nat} (hP : 0 < P) (hQ : 0 < Q) (e1 : a * Q = b * P) (e2 : c * Q = d * P) : c / Nat.gcd a c = d / Nat.gcd b d := by
  have g : Nat.gcd a c * Q = Nat.gcd b d * P := by rw [← Nat.gcd_mul_right, ← Nat.gcd_mul_right, e1, e2]
  rw [← Nat.mul_div_mul_right c (Nat.gcd a c) hQ, ← Nat.mul_div_mul_right d (Nat.gcd b d) hP, e2, g]
theorem d60 : ∀ s, s < 6 → 0 < s → s * (60 / s) = 60 := by decide
/-- the product of all that p takes -/
def pp_ (p : Nat → Bool) (S : Nat → Nat) : Nat → Nat → Nat → Nat
  | 0, _, x => x
  | d + 1, k, x => pp_ p S d (k + 1) (if p k = true then x * S k else x)
theorem pp_m {p : Nat → Bool} {S : Nat → Nat} : ∀ (d k x y : Nat), pp_ p S d k (x * y) = pp_ p S d k x * y := by
  intro d
  induction d with
  | zero => intro k x y; rfl
  | succ d ih =>
    intro k x y
    rw [pp_, pp_]
    by_cases e : p k = true
    · rw [if_pos e, if_pos e, Nat.mul_right_comm, ih]
    · rw [if_neg e, if_neg e, ih]
theorem pp_pos {p : Nat → Bool} {S : Nat → Nat} (hS : ∀ k, 0 < S k) : ∀ (d k x : Nat), 0 < x → 0 < pp_ p S d k x := by
  intro d
  induction d with
  | zero => intro k x h; exact h
  | succ d ih =>
    intro k x h
    rw [pp_]
    by_cases e : p k = true
    · rw [if_pos e]; exact ih _ _ (Nat.mul_pos h (hS k))
    · rw [if_neg e]; exact ih _ _ h
theorem pp_n {p q : Nat → Bool} {S : Nat → Nat} : ∀ (d k x : Nat), (∀ i, k ≤ i → i < k + d → p i = q i) → pp_ p S d k x = pp_ q S d k x := by
  intro d
  induction d with
  | zero => intro k x _; rfl
  | succ d ih =>
    intro k x e
    rw [pp_, pp_, e k (Nat.le_refl _) (by omega), ih _ _ (fun i h1 h2 => e i (by omega) (by omega))]
/-- leaving one out -/
theorem pp_o {p : Nat → Bool} {S : Nat → Nat} {i : Nat} (hi : p i = true) : ∀ (d k x : Nat), k ≤ i → i < k + d → pp_ (fun k => p k && !decide (k = i)) S d k x * S i = pp_ p S d k x := by
  intro d
  induction d with
  | zero => intro k x h1 h2; omega
  | succ d ih =>
    intro k x h1 h2
    rw [pp_, pp_]
    by_cases e : k = i
    · subst e
      rw [hi, if_pos rfl, decide_eq_true rfl, if_neg (by decide), pp_m, pp_n (q := p) d (k + 1) x (fun j h3 h4 => by rw [decide_eq_false (by omega), Bool.not_false, Bool.and_true])]
    · rw [decide_eq_false e, Bool.not_false, Bool.and_true]
      exact ih _ _ (by omega) (by omega)
theorem pr_m {f g : Nat → Nat} {B : Nat} (e : ∀ j, f j * g j = B) : ∀ (d j x y : Nat), pr_ f d j x * pr_ g d j y = x * y * B ^ d := by
  intro d
  induction d with
  | zero => intro j x y; rw [pr_, pr_, Nat.pow_zero, Nat.mul_one]
  | succ d ih =>
    intro j x y
    rw [pr_, pr_, ih, show x * f j * (y * g j) = x * y * (f j * g j) by simp only [Nat.mul_comm, Nat.mul_left_comm, Nat.mul_assoc], e, Nat.pow_succ, Nat.mul_comm (B ^ d) B, Nat.mul_assoc (x * y) B]
