/-! ===== open by all ===== -/
theorem and4 (a0 a1 a2 a3 b0 b1 b2 b3 : Bool) : ∀ m, m < 5 → msk_ (b5_ a0 a1 a2 a3 false) m 0 0 &&& msk_ (b5_ b0 b1 b2 b3 false) m 0 0 = msk_ (b5_ (a0 && b0) (a1 && b1) (a2 && b2) (a3 && b3) false) m 0 0 := by
  cases a0 <;> cases a1 <;> cases a2 <;> cases a3 <;> cases b0 <;> cases b1 <;> cases b2 <;> cases b3 <;> decide +kernel
theorem b4_p {p : Nat → Bool} {k : Nat} (hk : k < 4) : p k = b5_ (p 0) (p 1) (p 2) (p 3) false k := by
  rcases (show k = 0 ∨ k = 1 ∨ k = 2 ∨ k = 3 by omega) with rfl | rfl | rfl | rfl <;> rfl
theorem msk_and {p q : Nat → Bool} {m : Nat} (hm : m ≤ 4) : msk_ p m 0 0 &&& msk_ q m 0 0 = msk_ (fun k => p k && q k) m 0 0 := by
  rw [msk_c (p := p) (q := b5_ (p 0) (p 1) (p 2) (p 3) false) m 0 0 (fun k _ h => b4_p (by omega)), msk_c (p := q) (q := b5_ (q 0) (q 1) (q 2) (q 3) false) m 0 0 (fun k _ h => b4_p (by omega)), msk_c (p := fun k => p k && q k) (q := b5_ (p 0 && q 0) (p 1 && q 1) (p 2 && q 2) (p 3 && q 3) false) m 0 0 (fun k _ h => b4_p (p := fun k => p k && q k) (by omega))]
  exact and4 _ _ _ _ _ _ _ _ m (by omega)
theorem full_ : ∀ m, m < 5 → ((1 : Int32) <<< (nI m &&& 31)) - 1 = msk_ (fun _ => true) m 0 0 := by decide +kernel
