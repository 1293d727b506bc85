/-! ===== open by one, in both ===== -/
theorem all_t {p : Nat → Bool} : ∀ (d k : Nat), (∀ s, k ≤ s → s < k + d → p s = true) → all_ p d k = true := by
  intro d
  induction d with
  | zero => intro k _; rfl
  | succ d ih =>
    intro k e
    rw [all_, e k (Nat.le_refl _) (by omega), Bool.true_and]
    exact ih _ (fun s h1 h2 => e s (by omega) (by omega))
theorem all_1 {p : Nat → Bool} {t : Nat} : ∀ (d k : Nat), k ≤ t → t < k + d → (∀ s, s ≠ t → p s = true) → all_ p d k = p t := by
  intro d
  induction d with
  | zero => intro k h1 h2; omega
  | succ d ih =>
    intro k h1 h2 e
    rw [all_]
    by_cases q : k = t
    · subst q
      rw [all_t d (k + 1) (fun s h3 h4 => e s (by omega)), Bool.and_true]
    · rw [e k q, Bool.true_and]
      exact ih _ (by omega) (by omega) e
theorem my_1 {D : od_} {w : Nat → Bool} {t i : Nat} (ht : t < d_t D) (hw : ∀ s, w s = decide (s = t)) : mym_ D w i = sms_ D t i 9 := by
  unfold mym_ sms_
  refine msk_c _ _ _ (fun p _ _ => ?_)
  rw [all_1 (t := t) (d_t D) 0 (Nat.zero_le _) (by omega) (fun s hs => by unfold ok_p; rw [hw, decide_eq_false hs, Bool.not_false, Bool.true_or])]
  unfold ok_p
  rw [hw, decide_eq_true rfl, Bool.not_true, Bool.false_or]
