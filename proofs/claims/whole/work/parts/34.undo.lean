/-! ===== undo, keep, on ===== -/
theorem gb_1 {o a1 mm : Nat} {KK : hh_ → Option hh_} (hm : mm ≤ 5) : ∀ (d i m : Nat) (h : hh_), i + d = mm → h.1 (o + 23) 0 = nI mm → ∃ h1, ff_X2_goBack_2 o (nI a1) KK (m + d + 1) (nI i) h = KK h1 ∧ h1.2 = h.2 ∧ (∀ k j, ¬ (o + 8 ≤ k ∧ k < o + 13) → h1.1 k j = h.1 k j) ∧ (∀ x, i ≤ x → x < mm → ∀ j, j < 5 → h1.1 (o + 8 + x) j = h.1 (o + 2 + x) j) ∧ (∀ x, x < i → ∀ j, h1.1 (o + 8 + x) j = h.1 (o + 8 + x) j) := by
  intro d
  induction d with
  | zero =>
    intro i m h e e0
    refine ⟨h, ?_, rfl, fun _ _ _ => rfl, fun x h1 h2 => by omega, fun _ _ _ => rfl⟩
    rw [ff_X2_goBack_2, show Int32.toNatClampNeg 0 = 0 from rfl, e0, if_pos (nI_le (by omega) (by omega))]
  | succ d ih =>
    intro i m h e e0
    have g0 : ∀ c j, c ≠ o + 8 + i → (hh_cp h (o + 2 + i) (o + 8 + i) 0 0 5).1 c j = h.1 c j := fun c j q => if_neg q
    have g1 : ∀ j, (hh_cp h (o + 2 + i) (o + 8 + i) 0 0 5).1 (o + 8 + i) j = va_cpy (h.1 (o + 2 + i)) (h.1 (o + 8 + i)) 0 0 5 j := fun j => if_pos rfl
    obtain ⟨h1, w1, w2, w3, w4, w5⟩ := ih (i + 1) m (hh_cp h (o + 2 + i) (o + 8 + i) 0 0 5) (by omega) (by rw [g0 _ _ (by omega)]; exact e0)
    refine ⟨h1, ?_, w2, fun k j q => ?_, fun x q1 q2 j hj => ?_, fun x q1 j => ?_⟩
    · rw [show m + (d + 1) + 1 = (m + d + 1) + 1 by omega, ff_X2_goBack_2, show Int32.toNatClampNeg 0 = 0 from rfl, e0, if_neg (nI_ge (by omega) (by omega)), gd_n (by omega) (by decide), gd_t (show bc_ 0 0 5 5 5 = true from rfl), nI_clamp (by omega), nI_1]
      exact w1
    · rw [w3 k j q, g0 _ _ (by omega)]
    · by_cases e2 : x = i
      · subst e2
        rw [w5 x (by omega), g1, pk_cpy_in (by omega) (by omega), Nat.zero_add, Nat.sub_zero]
      · rw [w4 x (by omega) q2 j hj, g0 _ _ (by omega)]
    · rw [w5 x (by omega), g0 _ _ (by omega)]
theorem rp_b {F : Nat → Nat → Nat} {ds : Nat → Nat} {m : Nat} (k8 : ∀ i, i < m → (∀ j, j < 4 → F i j ≤ 5) ∧ F i 4 ≤ 3) : ∀ n i, i < m → (∀ j, j < 4 → rp_ F ds n i j ≤ 5) ∧ rp_ F ds n i 4 ≤ 3 := by
  intro n
  induction n with
  | zero => intro i hi; exact k8 i hi
  | succ n ih => intro i hi; exact ap_b (ih i hi)
theorem b30 {H : Nat → Nat → Nat} {i : Nat} (b : (∀ j, j < 4 → H i j ≤ 5) ∧ H i 4 ≤ 3) : ∀ j, j < 5 → H i j < 2 ^ 30 := by
  intro j hj
  by_cases e : j = 4
  · subst e
    have := b.2
    omega
  · have := b.1 j (by omega)
    omega
theorem gb_2 {o a mm : Nat} {F : Nat → Nat → Nat} {ds : Nat → Nat} (hm : mm ≤ 5) (ha : a ≤ 40) (k8 : ∀ i, i < mm → (∀ j, j < 4 → F i j ≤ 5) ∧ F i 4 ≤ 3) (hd : ∀ d, d < a → ds d / 8 < mm ∧ ds d < 40) : ∀ (d x m : Nat) (h : hh_), x + d = a → (∀ y, y < a → h.1 (o + 24) y = nI (ds y)) → (∀ i, i < mm → ∀ j, j < 5 → h.1 (o + 8 + i) j = nI (rp_ F ds x i j)) → ∃ h2, ff_X2_goBack_38 o (nI a) (m + d + 1) (nI x) h = some h2 ∧ h2.2 = h.2 ∧ (∀ k j, ¬ (o + 8 ≤ k ∧ k < o + 13) → ¬ (k = o ∧ j = 6) → h2.1 k j = h.1 k j) ∧ h2.1 o 6 = nI a ∧ ∀ i, i < mm → ∀ j, j < 5 → h2.1 (o + 8 + i) j = nI (rp_ F ds a i j) := by
  intro d
  induction d with
  | zero =>
    intro x m h e e1 e2
    have e : x = a := by omega
    subst e
    refine ⟨hh_sI h o 6 (nI x), ?_, rfl, fun k j q1 q2 => ?_, sI_eq, fun i hi j hj => ?_⟩
    · rw [ff_X2_goBack_38, if_pos (nI_le (by omega) (by omega))]
    · by_cases e3 : k = o
      · rw [e3, sI_nj (by omega)]
      · rw [sI_ne e3]
    · rw [sI_ne (by omega)]; exact e2 i hi j hj
  | succ d ih =>
    intro x m h e e1 e2
    have hx := hd x (by omega)
    obtain ⟨h2, w1, w2, w3, w4, w5⟩ := ih (x + 1) m (rp1_ h o (ds x)) (by omega) (fun y hy => by rw [rp1_ne (by omega)]; exact e1 y hy) (fun i hi j hj => rp1_H (fun i hi j hj => b30 (rp_b k8 x i hi) j hj) e2 i hi j hj)
    refine ⟨h2, ?_, w2.trans rp1_2, fun k j q1 q2 => ?_, w4, w5⟩
    · rw [show m + (d + 1) + 1 = (m + d + 1) + 1 by omega, ff_X2_goBack_38, if_neg (nI_ge (by omega) (by omega)), gd_n (by omega) (by decide), nI_clamp (by omega), e1 x (by omega), rep_C hx.2, Option.bind_some, nI_1]
      exact w1
    · rw [w3 k j q1 q2, rp1_ne (by omega)]
theorem gb_C {o a mm : Nat} {h : hh_} {F : Nat → Nat → Nat} {ds : Nat → Nat} (hm : mm ≤ 5) (ha : a ≤ 40) (k8 : ∀ i, i < mm → (∀ j, j < 4 → F i j ≤ 5) ∧ F i 4 ≤ 3) (hd : ∀ d, d < a → ds d / 8 < mm ∧ ds d < 40) (e0 : h.1 (o + 23) 0 = nI mm) (e1 : ∀ y, y < a → h.1 (o + 24) y = nI (ds y)) (k7 : ∀ i, i < mm → ∀ j, j < 5 → h.1 (o + 2 + i) j = nI (F i j)) : ∃ h2, ff_X2_goBack o (nI a) h = some h2 ∧ h2.2 = h.2 ∧ (∀ k j, ¬ (o + 8 ≤ k ∧ k < o + 13) → ¬ (k = o ∧ j = 6) → h2.1 k j = h.1 k j) ∧ h2.1 o 6 = nI a ∧ ∀ i, i < mm → ∀ j, j < 5 → h2.1 (o + 8 + i) j = nI (rp_ F ds a i j) := by
  obtain ⟨k, hk⟩ := fu_ mm (by omega)
  obtain ⟨k', hk'⟩ := fu_ a (by omega)
  obtain ⟨h1, w1, w2, w3, w4, w5⟩ := gb_1 (a1 := a) (KK := fun k3 => ff_X2_goBack_38 o (nI a) FU_ 0 k3) hm mm 0 k h (by omega) e0
  obtain ⟨h2, v1, v2, v3, v4, v5⟩ := gb_2 (o := o) hm ha k8 hd a 0 k' h1 (by omega) (fun y hy => by rw [w3 _ _ (by omega)]; exact e1 y hy) (fun i hi j hj => by rw [w4 i (by omega) hi j hj]; exact k7 i hi j hj)
  refine ⟨h2, ?_, v2.trans w2, fun k j q1 q2 => by rw [v3 k j q1 q2, w3 k j q1], v4, v5⟩
  unfold ff_X2_goBack
  rw [← hk] at w1
  rw [← hk'] at v1
  exact w1.trans v1
theorem rb_loop {a b N : Nat} (ha : a ≠ 105) (sh : sh_ a = (1, N)) (hb : b + 25 ≤ N) (hN : N < 2 ^ 31) (g : Nat → Int32) : ∀ (d x m : Nat) (h : hh_), x + d = 25 → (∀ y, y < 25 → h.1 a (b + y) = g y) → ff_X8_readBack_2 a (nI b) (m + d + 1) (nI x) h = some (fg_ h 105 0 x 25 g) := by
  intro d
  induction d with
  | zero =>
    intro x m h e eg
    have e : x = 25 := by omega
    subst e
    rw [ff_X8_readBack_2, if_pos (by decide), fg_0]
  | succ d ih =>
    intro x m h e eg
    have bp : bp_ a (nI (b + x)) = true := by
      unfold bp_
      rw [sh]
      exact bi_t (by omega) hN
    rw [show m + (d + 1) + 1 = (m + d + 1) + 1 by omega, ff_X8_readBack_2, if_neg (show ¬ (25 : Int32) ≤ nI x from nI_ge (b := 25) (by omega) (by omega)), nI_add, gd_t bp, gd_n (by omega) (by decide), nI_clamp (show b + x < 2 ^ 31 by omega), nI_clamp (show x < 2 ^ 31 by omega), eg x (by omega), nI_1, ih (x + 1) m _ (by omega) (fun y hy => by rw [sI_ne ha]; exact eg y hy)]
    have w := fg_s (h := h) (k := 105) (b := 0) (a := x) (n := 25) (g := g) (by omega)
    rw [Nat.zero_add] at w
    rw [w]
theorem rb_M {a b N : Nat} {h : hh_} (ha : a ≠ 105) (sh : sh_ a = (1, N)) (hb : b + 25 ≤ N) (hN : N < 2 ^ 31) : ff_X8_readBack a (nI b) h = some (fg_ h 105 0 0 25 (fun y => h.1 a (b + y))) := by
  unfold ff_X8_readBack
  obtain ⟨k, hk⟩ := fu_ 25 (by decide)
  rw [hk]
  exact rb_loop ha sh hb hN _ 25 0 k h rfl (fun y hy => rfl)
theorem fg_in0 {h : hh_} {k a n j : Nat} {g : Nat → Int32} (h1 : a ≤ j) (h2 : j < n) : (fg_ h k 0 a n g).1 k j = g j := by
  have w := fg_in (h := h) (k := k) (b := 0) (g := g) h1 h2
  rw [Nat.zero_add] at w
  exact w
/-- 18: undo -/
theorem st_18 : sp_18 inv_ := by
  intro h a1 H
  have nw := H.2.2.2.nw
  have B := H.2.2.2.nwB
  have hn0 := H.2.2.2.1
  obtain ⟨hT, hR, hX, hn, D, F, ds, n, K, C, M, k4, k5, k6, k7, k8, k9, k10, k11⟩ := id H
  have m5 := K.1
  have t4 := K.2.1
  have p4 := K.2.2.1
  have n40 := k6.1
  rcases rg_ a1 n (by omega) with ⟨a, ha, rfl, q1, q2, q3⟩ | ⟨q1, q3⟩
  · obtain ⟨h1, w1, w2, w3, w4, w5⟩ := gb_C (o := h.2.2.1) (a := a) m5 (by omega) k8 (fun d hd => (k6.2.1 d (by omega)).2) C.1 (fun y hy => (k6.2.1 y (by omega)).1) k7
    have b21 : h1.1 98 21 = nI n := by rw [w3 _ _ (by omega) (by omega)]; exact k5
    have key : ∀ h2 : hh_, (∀ k j, k ≠ 105 → ¬ (k = 98 ∧ j = 21) → h2.1 k j = h1.1 k j) → h2.2 = h.2 → h2.1 98 21 = nI a → (∀ i, i < d_m D → ∀ j, j < 5 → h2.1 105 (5 * i + j) = nI (rp_ F ds a i j)) → inv_ h2 := by
      intro h2 e1 e2 e3 e4
      have g0 : ∀ k j, k ≠ 105 → ¬ (k = 98 ∧ j = 21) → ¬ (h.2.2.1 + 8 ≤ k ∧ k < h.2.2.1 + 13) → ¬ (k = h.2.2.1 ∧ j = 6) → h2.1 k j = h.1 k j := fun k j v1 v2 v3 v4 => by rw [e1 k j v1 v2, w3 k j v3 v4]
      refine ⟨hT.fr (fun k j q => g0 _ _ (by omega) (by omega) (by omega) (by omega)) (fun k j q => by rw [e2]), hR.fr (fun k j q => g0 _ _ (by omega) (by omega) (by omega) (by omega)), hX.fr (fun k j q => g0 _ _ (by omega) (by omega) (by omega) (by omega)), ?_⟩
      unfold iO_
      rw [e2]
      refine ⟨hn0, (D.1, D.2.1, D.2.2.1, rp_ F ds a, D.2.2.2.2), F, ds, a, ⟨K.1, K.2.1, K.2.2.1, K.2.2.2.1, fun i hi => rp_b k8 a i hi, K.2.2.2.2.2.1, K.2.2.2.2.2.2⟩, ⟨?_, ?_, ?_, fun i hi j hj => ?_, fun t ht j hj => ?_, fun p hp j hj => ?_⟩, ⟨?_, ?_, ?_, e4, fun t ht j hj => ?_, fun p hp j hj => ?_⟩, ?_, e3, ⟨by omega, fun d hd => ?_, fun d hd i hi j hj => ?_⟩, fun i hi j hj => ?_, k8, fun _ _ _ _ => rfl, fun q => by have := k10 q; omega, fun k hk => (k11 k hk).fr hk (fun c j q => g0 _ _ (by omega) (by omega) (by omega) (by omega))⟩
      · rw [g0 _ _ (by omega) (by omega) (by omega) (by omega)]; exact C.1
      · rw [g0 _ _ (by omega) (by omega) (by omega) (by omega)]; exact C.2.1
      · rw [g0 _ _ (by omega) (by omega) (by omega) (by omega)]; exact C.2.2.1
      · have hi : i < d_m D := hi
        rw [e1 _ _ (by omega) (by omega)]; exact w5 i hi j hj
      · have ht : t < d_t D := ht
        rw [g0 _ _ (by omega) (by omega) (by omega) (by omega)]; exact C.2.2.2.2.1 t ht j hj
      · have hp : p < d_p D := hp
        rw [g0 _ _ (by omega) (by omega) (by omega) (by omega)]; exact C.2.2.2.2.2 p hp j hj
      · rw [g0 _ _ (by omega) (by omega) (by omega) (by omega)]; exact M.1
      · rw [g0 _ _ (by omega) (by omega) (by omega) (by omega)]; exact M.2.1
      · rw [g0 _ _ (by omega) (by omega) (by omega) (by omega)]; exact M.2.2.1
      · rw [g0 _ _ (by omega) (by omega) (by omega) (by omega)]; exact M.2.2.2.2.1 t ht j hj
      · rw [g0 _ _ (by omega) (by omega) (by omega) (by omega)]; exact M.2.2.2.2.2 p hp j hj
      · rw [e1 _ _ (by omega) (by omega)]; exact w4
      · rw [g0 _ _ (by omega) (by omega) (by omega) (by omega)]; exact k6.2.1 d (by omega)
      · rw [g0 _ _ (by omega) (by omega) (by omega) (by omega)]; exact k6.2.2 d (by omega) i hi j hj
      · have hi : i < d_m D := hi
        rw [g0 _ _ (by omega) (by omega) (by omega) (by omega)]; exact k7 i hi j hj
    have eC : ff_X7_undo (nI a) h = some (nI (n - a), h1) := by
      unfold ff_X7_undo
      rw [if_neg q1, gd_t B, k4, if_pos q2, w1, Option.bind_some, pk_sub ha]
    by_cases e : a = n
    · subst e
      refine ⟨nI (a - a), h1, h1, eC, ?_, key h1 (fun _ _ _ _ => rfl) w2 b21 (fun i hi j hj => ?_)⟩
      · unfold ff_X8_undo
        rw [b21, q3, if_neg n10, pk_sub ha, Nat.sub_self, if_pos (by decide)]
      · rw [w3 _ _ (by omega) (by omega), M.2.2.2.1 i hi j hj, k9 i hi j hj]
    · refine ⟨nI (n - a), h1, hh_sI (fg_ h1 105 0 0 25 (fun y => h1.1 109 (25 * a + y))) 98 21 (nI a), eC, ?_, key _ (fun k j v1 v2 => ?_) w2 sI_eq (fun i hi j hj => ?_)⟩
      · unfold ff_X8_undo
        rw [b21, q3, if_neg n10, pk_sub ha, if_neg (nI_nle (by omega) (by omega)), show (25 : Int32) = nI 25 from rfl, pk_mul, rb_M (by decide) sh109 (by omega) (by decide)]; rfl
      · by_cases e98 : k = 98
        · rw [e98, sI_nj (by omega), fg_ne (by decide)]
        · rw [sI_ne e98, fg_ne v1]
      · rw [sI_ne (by decide), fg_in0 (by omega) (by omega), w3 _ _ (by omega) (by omega)]
        have w := k6.2.2 a (by omega) i hi j hj
        rw [Nat.zero_add] at w
        exact w
  · refine ⟨-1, h, h, ?_, by unfold ff_X8_undo; rw [k5, q3, if_pos rfl], H⟩
    unfold ff_X7_undo
    rcases q1 with q | ⟨q, q2⟩
    · rw [if_pos q]
    · rw [if_neg q, gd_t B, k4, if_neg q2]
