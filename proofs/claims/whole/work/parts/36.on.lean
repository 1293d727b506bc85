/-! ===== on ===== -/
theorem gt_loop {o' o : Nat} (ho : o' + 2 < o + 14 ∨ o + 18 ≤ o' + 2) : ∀ (d x m : Nat) (h : hh_), x + d = 4 → ∃ h1, ff_X0_giveTo_17 o' o (m + d + 1) (nI x) h = ((ff_X2_goBack o (h1.1 o' 2) h1).bind fun v => some v) ∧ h1.2 = h.2 ∧ (∀ k j, ¬ (o + 14 ≤ k ∧ k < o + 18 ∧ j = 1) → h1.1 k j = h.1 k j) ∧ (∀ y, x ≤ y → y < 4 → h1.1 (o + 14 + y) 1 = h.1 (o' + 2) y) ∧ (∀ y, y < x → h1.1 (o + 14 + y) 1 = h.1 (o + 14 + y) 1) := by
  intro d
  induction d with
  | zero =>
    intro x m h e
    have e : x = 4 := by omega
    subst e
    refine ⟨h, ?_, rfl, fun _ _ _ => rfl, fun y h1 h2 => by omega, fun _ _ => rfl⟩
    rw [ff_X0_giveTo_17, if_pos (by decide)]
  | succ d ih =>
    intro x m h e
    have hx : x < 4 := by omega
    obtain ⟨h1, w1, w2, w3, w4, w5⟩ := ih (x + 1) m (hh_sI h (o + 14 + x) 1 (h.1 (o' + 2) x)) (by omega)
    refine ⟨h1, ?_, w2, fun k j q => ?_, fun y q1 q2 => ?_, fun y q1 => ?_⟩
    · rw [show m + (d + 1) + 1 = (m + d + 1) + 1 by omega, ff_X0_giveTo_17, if_neg (show ¬ (4 : Int32) ≤ nI x from nI_ge (b := 4) hx (by omega)), gd_n hx (by decide), nI_clamp (by omega), show Int32.toNatClampNeg 1 = 1 from rfl, nI_1]
      exact w1
    · rw [w3 k j q]
      by_cases e2 : k = o + 14 + x
      · rw [e2, sI_nj (by omega)]
      · rw [sI_ne e2]
    · by_cases e2 : y = x
      · subst e2
        rw [w5 y (by omega), sI_eq]
      · rw [w4 y (by omega) q2, sI_ne (by omega)]
    · rw [w5 y (by omega), sI_ne (by omega)]
theorem o46_loop {b : Nat} {KK : hh_ → Option (Int32 × hh_)} (hb : b + 1030 ≤ 3090) : ∀ (d x m : Nat) (h : hh_), x + d = 4 → ∃ h1, ff_X8_on_46 (nI b) KK (m + d + 1) (nI x) h = KK h1 ∧ h1.2 = h.2 ∧ (∀ k j, (k = 106 → j % 3 ≠ 1) → h1.1 k j = h.1 k j) ∧ (∀ y, x ≤ y → y < 4 → h1.1 106 (3 * y + 1) = h.1 110 (b + 1 + y)) ∧ (∀ y, y < x → h1.1 106 (3 * y + 1) = h.1 106 (3 * y + 1)) := by
  intro d
  induction d with
  | zero =>
    intro x m h e
    have e : x = 4 := by omega
    subst e
    refine ⟨h, ?_, rfl, fun _ _ _ => rfl, fun y h1 h2 => by omega, fun _ _ => rfl⟩
    rw [ff_X8_on_46, if_pos (by decide)]
  | succ d ih =>
    intro x m h e
    have hx : x < 4 := by omega
    have e31 : (3 : Int32) * nI x + 1 = nI (3 * x + 1) := by rw [show (3 : Int32) = nI 3 from rfl, pk_mul]; exact nI_add _ 1
    have e1 : nI b + 1 + nI x = nI (b + 1 + x) := by rw [nI_1, nI_add]
    obtain ⟨h1, w1, w2, w3, w4, w5⟩ := ih (x + 1) m (hh_sI h 106 (3 * x + 1) (h.1 110 (b + 1 + x))) (by omega)
    refine ⟨h1, ?_, w2, fun k j q => ?_, fun y q1 q2 => ?_, fun y q1 => ?_⟩
    · rw [show m + (d + 1) + 1 = (m + d + 1) + 1 by omega, ff_X8_on_46, if_neg (show ¬ (4 : Int32) ≤ nI x from nI_ge (b := 4) hx (by omega)), e31, e1, gd_n (by omega) (by decide), gd_n (by omega) (by decide), nI_clamp (show b + 1 + x < 2 ^ 31 by omega), nI_clamp (show 3 * x + 1 < 2 ^ 31 by omega), nI_1]
      exact w1
    · rw [w3 k j q]
      by_cases e2 : k = 106
      · have := q e2
        rw [e2, sI_nj (by omega)]
      · rw [sI_ne e2]
    · by_cases e2 : y = x
      · subst e2
        rw [w5 y (by omega), sI_eq]
      · rw [w4 y (by omega) q2, sI_ne (by omega)]
    · rw [w5 y (by omega), sI_nj (by omega)]
theorem o90_loop {b : Nat} (hb : b + 1030 ≤ 3090) (g : Nat → Int32) : ∀ (d x m : Nat) (h : hh_), x + d = 1000 → (∀ y, y < 1000 → h.1 110 (b + 30 + y) = g y) → ff_X8_on_90 (nI b) (m + d + 1) (nI x) h = some (h.1 98 21, fg_ h 109 0 x 1000 g) := by
  intro d
  induction d with
  | zero =>
    intro x m h e eg
    have e : x = 1000 := by omega
    subst e
    rw [ff_X8_on_90, if_pos (by decide), fg_0]
  | succ d ih =>
    intro x m h e eg
    have e1 : nI b + 30 + nI x = nI (b + 30 + x) := by rw [show nI b + 30 = nI (b + 30) from nI_add b 30, nI_add]
    rw [show m + (d + 1) + 1 = (m + d + 1) + 1 by omega, ff_X8_on_90, if_neg (show ¬ (1000 : Int32) ≤ nI x from nI_ge (b := 1000) (by omega) (by omega)), e1, gd_n (by omega) (by decide), gd_n (by omega) (by decide), nI_clamp (show b + 30 + x < 2 ^ 31 by omega), nI_clamp (show x < 2 ^ 31 by omega), eg x (by omega), nI_1, ih (x + 1) m _ (by omega) (fun y hy => by rw [sI_ne (by decide)]; exact eg y hy), sI_ne (by decide)]
    have w := fg_s (h := h) (k := 109) (b := 0) (a := x) (n := 1000) (g := g) (by omega)
    rw [Nat.zero_add] at w
    rw [w]
theorem on_M {h : hh_} {k n : Nat} (hk : k < 3) (hn : n ≤ 40) (e : h.1 110 (1030 * k) = nI n) (hin : ff_X8_in (nI k) 0 2 = 1) : ∃ h2, ff_X8_on (nI k) h = some (nI n, h2) ∧ h2.2 = h.2 ∧ (∀ c j, c ≠ 105 → (c = 106 → j % 3 ≠ 1) → c ≠ 109 → ¬ (c = 98 ∧ j = 21) → h2.1 c j = h.1 c j) ∧ h2.1 98 21 = nI n ∧ (∀ y, y < 25 → h2.1 105 y = h.1 110 (1030 * k + 5 + y)) ∧ (∀ y, y < 4 → h2.1 106 (3 * y + 1) = h.1 110 (1030 * k + 1 + y)) ∧ ∀ y, y < 1000 → h2.1 109 y = h.1 110 (1030 * k + 30 + y) := by
  obtain ⟨q, hq⟩ := fu_ 4 (by decide)
  obtain ⟨q2, hq2⟩ := fu_ 1000 (by decide)
  have e1 : (1030 : Int32) * nI k = nI (1030 * k) := by rw [show (1030 : Int32) = nI 1030 from rfl, pk_mul]
  have e9 : ¬ nI n = -9 := fun w => by
    have w2 := congrArg Int32.toInt w
    rw [nI_toInt (by omega), show (-9 : Int32).toInt = -9 from rfl] at w2
    omega
  obtain ⟨h1, w1, w2, w3, w4, w5⟩ := o46_loop (b := 1030 * k) (KK := fun k4 => (ff_X8_readBack 110 (nI (1030 * k + 5)) k4).bind fun v5 => ff_X8_on_90 (nI (1030 * k)) FU_ 0 v5) (by omega) 4 0 q (hh_sI h 98 21 (nI n)) rfl
  have g0 : ∀ c j, (c = 106 → j % 3 ≠ 1) → ¬ (c = 98 ∧ j = 21) → h1.1 c j = h.1 c j := by
    intro c j v1 v2
    rw [w3 c j v1]
    by_cases e2 : c = 98
    · rw [e2, sI_nj (by omega)]
    · rw [sI_ne e2]
  have g21 : h1.1 98 21 = nI n := by rw [w3 _ _ (by omega), sI_eq]
  have w6 := o90_loop (b := 1030 * k) (by omega) (fun y => h.1 110 (1030 * k + 30 + y)) 1000 0 q2 (fg_ h1 105 0 0 25 (fun y => h1.1 110 (1030 * k + 5 + y))) rfl (fun y hy => by rw [fg_ne (by decide), g0 _ _ (by omega) (by omega)])
  refine ⟨fg_ (fg_ h1 105 0 0 25 (fun y => h1.1 110 (1030 * k + 5 + y))) 109 0 0 1000 (fun y => h.1 110 (1030 * k + 30 + y)), ?_, w2, fun c j v1 v2 v3 v4 => ?_, ?_, fun y hy => ?_, fun y hy => ?_, fun y hy => ?_⟩
  · unfold ff_X8_on
    rw [hin, if_neg n10, e1, gd_n (by omega) (by decide), nI_clamp (by omega), e, if_neg e9, show nI (1030 * k) + 5 = nI (1030 * k + 5) from nI_add _ 5]
    rw [← hq] at w1
    refine w1.trans ?_
    rw [rb_M (by decide) sh110 (by omega) (by decide), Option.bind_some, hq2]
    refine w6.trans ?_
    rw [fg_ne (by decide), g21]
  · rw [fg_ne v3, fg_ne v1, g0 _ _ v2 v4]
  · rw [fg_ne (by decide), fg_ne (by decide)]; exact g21
  · rw [fg_ne (by decide), fg_in0 (by omega) hy, g0 _ _ (by omega) (by omega)]
  · rw [fg_ne (by decide), fg_ne (by decide), w4 y (by omega) hy, sI_ne (by decide)]
  · rw [fg_in0 (by omega) hy]
/-- 20: on -/
theorem st_20 : sp_20 inv_ := by
  intro h a1 H
  have nw := H.2.2.2.nw
  have B := H.2.2.2.nwB
  have hn0 := H.2.2.2.1
  obtain ⟨hT, hR, hX, hn, D, F, ds, n, K, C, M, k4, k5, k6, k7, k8, k9, k10, k11⟩ := id H
  have m5 := K.1
  have t4 := K.2.1
  have p4 := K.2.2.1
  rcases kpl_ a1 with ⟨k, hk, rfl, c1, m1⟩ | ⟨c1, m1⟩
  · rcases k11 k hk with ⟨a, b⟩ | ⟨n', ds', a, b, c, d, f⟩
    · refine rd_ H 3 0 0 (by decide) ?_ (fun h' S => ?_)
      · unfold ff_X7_on
        rw [c1, if_neg n10, gd_n hk (by decide), nI_clamp (by omega), a, if_pos rfl]
        exact rfC (f := 1) (by decide)
      · unfold ff_X8_on
        rw [m1, if_neg n10, show (1030 : Int32) * nI k = nI (1030 * k) from by rw [show (1030 : Int32) = nI 1030 from rfl, pk_mul], gd_n (by omega) (by decide), nI_clamp (by omega), S _ _ (by decide) (by decide), b, if_pos rfl]
        exact rfM (f := 1) (by decide)
    · have n40 := c.1
      obtain ⟨q, hq⟩ := fu_ 4 (by decide)
      have g0 : ∀ x j, x ≠ h.2.2.1 + 24 → (hh_cp h (90 + 3 * k) (h.2.2.1 + 24) 0 0 40).1 x j = h.1 x j := fun x j v => if_neg v
      have g1 : ∀ j, (hh_cp h (90 + 3 * k) (h.2.2.1 + 24) 0 0 40).1 (h.2.2.1 + 24) j = va_cpy (h.1 (90 + 3 * k)) (h.1 (h.2.2.1 + 24)) 0 0 40 j := fun j => if_pos rfl
      obtain ⟨h1, w1, w2, w3, w4, w5⟩ := gt_loop (o' := 89 + 3 * k) (o := h.2.2.1) (by omega) 4 0 q (hh_cp h (90 + 3 * k) (h.2.2.1 + 24) 0 0 40) rfl
      have ed : ∀ y, y < n' → h1.1 (h.2.2.1 + 24) y = nI (ds' y) := fun y hy => by
        rw [w3 _ _ (by omega), g1, pk_cpy_in (by omega) (by omega), Nat.zero_add, Nat.sub_zero]
        exact (c.2.1 y hy).1
      obtain ⟨h2, v1, v2, v3, v4, v5⟩ := gb_C (o := h.2.2.1) (h := h1) (a := n') m5 n40 k8 (fun d hd => (c.2.1 d hd).2) (by rw [w3 _ _ (by omega), g0 _ _ (by omega)]; exact C.1) ed (fun i hi j hj => by rw [w3 _ _ (by omega), g0 _ _ (by omega)]; exact k7 i hi j hj)
      have e2r : h2.2 = h.2 := v2.trans w2
      have f0 : ∀ x j, x ≠ h.2.2.1 + 24 → ¬ (h.2.2.1 + 8 ≤ x ∧ x < h.2.2.1 + 13) → ¬ (h.2.2.1 + 14 ≤ x ∧ x < h.2.2.1 + 18 ∧ j = 1) → ¬ (x = h.2.2.1 ∧ j = 6) → h2.1 x j = h.1 x j := fun x j u1 u2 u3 u4 => by rw [v3 x j u2 u4, w3 x j u3, g0 x j u1]
      obtain ⟨h3, z1, z2, z3, z4, z5, z6, z7⟩ := on_M (h := h2) hk n40 (by rw [f0 _ _ (by omega) (by omega) (by omega) (by omega)]; exact b) m1
      refine ⟨nI n', h2, h3, ?_, z1, ?_⟩
      · unfold ff_X7_on ff_X0_giveTo
        rw [c1, if_neg n10, gd_n hk (by decide), nI_clamp (by omega), a, if_neg (nI_m1 (by omega)), gd_t B, gd_t (show bc_ 0 0 40 40 40 = true from rfl), hq, show 89 + 3 * k + 1 = 90 + 3 * k by omega]
        have e5 : ff_X0_giveTo_17 (89 + 3 * k) h.2.2.1 (q + 4 + 1) 0 (hh_cp h (90 + 3 * k) (h.2.2.1 + 24) (Int32.toNatClampNeg 0) (Int32.toNatClampNeg 0) (Int32.toNatClampNeg 40)) = some h2 := by
          refine w1.trans ?_
          rw [w3 _ _ (by omega), g0 _ _ (by omega), a, v1]; rfl
        rw [e5, Option.bind_some, e2r, gd_t B, v4]
      · have G : ∀ x j, x ≠ 105 → (x = 106 → j % 3 ≠ 1) → x ≠ 109 → ¬ (x = 98 ∧ j = 21) → x ≠ h.2.2.1 + 24 → ¬ (h.2.2.1 + 8 ≤ x ∧ x < h.2.2.1 + 13) → ¬ (h.2.2.1 + 14 ≤ x ∧ x < h.2.2.1 + 18 ∧ j = 1) → ¬ (x = h.2.2.1 ∧ j = 6) → h3.1 x j = h.1 x j := fun x j u1 u2 u3 u4 u5 u6 u7 u8 => by rw [z3 x j u1 u2 u3 u4, f0 x j u5 u6 u7 u8]
        have e3r : h3.2 = h.2 := z2.trans e2r
        have eE : ∀ x, x < d_t D → Int32.toNatClampNeg (h.1 (91 + 3 * k) x) ≤ 2 ∧ h.1 (91 + 3 * k) x = nI (Int32.toNatClampNeg (h.1 (91 + 3 * k) x)) ∧ h.1 110 (1030 * k + 1 + x) = nI (Int32.toNatClampNeg (h.1 (91 + 3 * k) x)) := by
          intro x hx
          obtain ⟨e, he, u1, u2⟩ := f x hx
          rw [u1, nI_clamp (by omega)]
          exact ⟨he, rfl, u2⟩
        refine ⟨hT.fr (fun x j u => G _ _ (by omega) (by omega) (by omega) (by omega) (by omega) (by omega) (by omega) (by omega)) (fun x j u => by rw [e3r]), hR.fr (fun x j u => G _ _ (by omega) (by omega) (by omega) (by omega) (by omega) (by omega) (by omega) (by omega)), hX.fr (fun x j u => G _ _ (by omega) (by omega) (by omega) (by omega) (by omega) (by omega) (by omega) (by omega)), ?_⟩
        unfold iO_
        rw [e3r]
        refine ⟨hn0, (D.1, D.2.1, D.2.2.1, rp_ F ds' n', (fun x y => if y = 1 then Int32.toNatClampNeg (h.1 (91 + 3 * k) x) else d_T D x y), D.2.2.2.2.2), F, ds', n', ⟨K.1, K.2.1, K.2.2.1, K.2.2.2.1, fun i hi => rp_b k8 n' i hi, fun x hx => ?_, K.2.2.2.2.2.2⟩, ⟨?_, ?_, ?_, fun i hi j hj => ?_, fun t ht j hj => ?_, fun p hp j hj => ?_⟩, ⟨?_, ?_, ?_, fun i hi j hj => ?_, fun t ht j hj => ?_, fun p hp j hj => ?_⟩, ?_, z4, ⟨n40, fun x hx => ?_, fun x hx i hi j hj => ?_⟩, fun i hi j hj => ?_, k8, fun _ _ _ _ => rfl, fun u => ?_, fun k' hk' => (k11 k' hk').fr hk' (fun x j u => G _ _ (by omega) (by omega) (by omega) (by omega) (by omega) (by omega) (by omega) (by omega))⟩
        · have hx : x < d_t D := hx
          have w := K.2.2.2.2.2.1 x hx
          refine ⟨?_, ?_, ?_⟩
          · show (if 0 = 1 then Int32.toNatClampNeg (h.1 (91 + 3 * k) x) else d_T D x 0) ≤ 5
            rw [if_neg (by decide)]; exact w.1
          · show (if 1 = 1 then Int32.toNatClampNeg (h.1 (91 + 3 * k) x) else d_T D x 1) ≤ 2
            rw [if_pos rfl]; exact (eE x hx).1
          · show (if 2 = 1 then Int32.toNatClampNeg (h.1 (91 + 3 * k) x) else d_T D x 2) ≤ 3
            rw [if_neg (by decide)]; exact w.2.2
        · rw [G _ _ (by omega) (by omega) (by omega) (by omega) (by omega) (by omega) (by omega) (by omega)]; exact C.1
        · rw [G _ _ (by omega) (by omega) (by omega) (by omega) (by omega) (by omega) (by omega) (by omega)]; exact C.2.1
        · rw [G _ _ (by omega) (by omega) (by omega) (by omega) (by omega) (by omega) (by omega) (by omega)]; exact C.2.2.1
        · have hi : i < d_m D := hi
          rw [z3 _ _ (by omega) (by omega) (by omega) (by omega)]; exact v5 i hi j hj
        · have ht : t < d_t D := ht
          show _ = nI (if j = 1 then Int32.toNatClampNeg (h.1 (91 + 3 * k) t) else d_T D t j)
          by_cases e : j = 1
          · subst e
            rw [if_pos rfl, z3 _ _ (by omega) (by omega) (by omega) (by omega), v3 _ _ (by omega) (by omega), w4 t (by omega) (by omega), g0 _ _ (by omega), show 89 + 3 * k + 2 = 91 + 3 * k by omega]
            exact (eE t ht).2.1
          · rw [if_neg e, G _ _ (by omega) (by omega) (by omega) (by omega) (by omega) (by omega) (by omega) (by omega)]; exact C.2.2.2.2.1 t ht j hj
        · have hp : p < d_p D := hp
          rw [G _ _ (by omega) (by omega) (by omega) (by omega) (by omega) (by omega) (by omega) (by omega)]; exact C.2.2.2.2.2 p hp j hj
        · rw [G _ _ (by omega) (by omega) (by omega) (by omega) (by omega) (by omega) (by omega) (by omega)]; exact M.1
        · rw [G _ _ (by omega) (by omega) (by omega) (by omega) (by omega) (by omega) (by omega) (by omega)]; exact M.2.1
        · rw [G _ _ (by omega) (by omega) (by omega) (by omega) (by omega) (by omega) (by omega) (by omega)]; exact M.2.2.1
        · have hi : i < d_m D := hi
          rw [z5 _ (by omega), f0 _ _ (by omega) (by omega) (by omega) (by omega)]; exact d i hi j hj
        · have ht : t < d_t D := ht
          show _ = nI (if j = 1 then Int32.toNatClampNeg (h.1 (91 + 3 * k) t) else d_T D t j)
          by_cases e : j = 1
          · subst e
            rw [if_pos rfl, z6 t (by omega), f0 _ _ (by omega) (by omega) (by omega) (by omega)]
            exact (eE t ht).2.2
          · rw [if_neg e, G _ _ (by omega) (by omega) (by omega) (by omega) (by omega) (by omega) (by omega) (by omega)]; exact M.2.2.2.2.1 t ht j hj
        · rw [G _ _ (by omega) (by omega) (by omega) (by omega) (by omega) (by omega) (by omega) (by omega)]; exact M.2.2.2.2.2 p hp j hj
        · rw [z3 _ _ (by omega) (by omega) (by omega) (by omega)]; exact v4
        · rw [z3 _ _ (by omega) (by omega) (by omega) (by omega), v3 _ _ (by omega) (by omega)]
          exact ⟨ed x hx, (c.2.1 x hx).2⟩
        · have hi : i < d_m D := hi
          rw [Nat.zero_add, z7 _ (by omega), f0 _ _ (by omega) (by omega) (by omega) (by omega)]; exact c.2.2 x hx i hi j hj
        · have hi : i < d_m D := hi
          rw [G _ _ (by omega) (by omega) (by omega) (by omega) (by omega) (by omega) (by omega) (by omega)]; exact k7 i hi j hj
        · have u : d_m D = 0 := u
          by_cases e : n' = 0
          · exact e
          · have := (c.2.1 0 (by omega)).2.1
            omega
  · exact ⟨-1, h, h, by unfold ff_X7_on; rw [c1, if_pos rfl], by unfold ff_X8_on; rw [m1, if_pos rfl], H⟩
