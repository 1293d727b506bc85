/-! ===== pad, grow, cut, error ===== -/
theorem ap_pad {H : Nat → Nat → Nat} {i j a b : Nat} (hj : j < 4) (hb : H i j < 5) : ap_ (i * 8 + j) H a b = if a = i ∧ b = j then H i j + 1 else H a b := by
  unfold ap_
  rw [show (i * 8 + j) / 8 = i by omega, show (i * 8 + j) % 8 = j by omega]
  by_cases e : a = i
  · subst e
    rw [if_pos rfl, if_neg (by omega)]
    by_cases e2 : b = j
    · subst e2
      rw [if_pos (by omega), if_pos ⟨rfl, rfl⟩, Nat.min_eq_right (by omega)]
    · rw [if_neg (by omega), if_neg (by omega)]
  · rw [if_neg e, if_neg (fun q => e q.1)]
theorem ap_grow {H : Nat → Nat → Nat} {i a b : Nat} : ap_ (i * 8 + 4) H a b = if a = i ∧ b < 4 then min 5 (H a b + 1) else H a b := by
  unfold ap_
  rw [show (i * 8 + 4) / 8 = i by omega, show (i * 8 + 4) % 8 = 4 by omega]
  by_cases e : a = i
  · subst e
    rw [if_pos rfl, if_neg (by omega)]
    by_cases e2 : b < 4
    · rw [if_pos (by omega), if_pos ⟨rfl, e2⟩]
    · rw [if_neg (by omega), if_neg (by omega)]
  · rw [if_neg e, if_neg (fun q => e q.1)]
theorem ap_cut {H : Nat → Nat → Nat} {i x a b : Nat} (hx : x < 3) : ap_ (i * 8 + (5 + x)) H a b = if a = i ∧ b = 4 then x else H a b := by
  unfold ap_
  rw [show (i * 8 + (5 + x)) / 8 = i by omega, show (i * 8 + (5 + x)) % 8 = 5 + x by omega]
  by_cases e : a = i
  · subst e
    rw [if_pos rfl, if_pos (by omega)]
    by_cases e2 : b = 4
    · rw [if_pos e2, if_pos ⟨rfl, e2⟩]; omega
    · rw [if_neg e2, if_neg (by omega)]
  · rw [if_neg e, if_neg (fun q => e q.1)]
/-- both parts together: g the new numbers in the reference's cell 105 -/
theorem act_J {h h2 : hh_} {D : od_} {F : Nat → Nat → Nat} {ds : Nat → Nat} {n c : Nat} (H : inv_ h) (K : oK_ D) (C : oC_ h.2.2.1 h D) (M : oM_ h D) (k6 : dd2_ h (d_m D) F ds n (h.2.2.1 + 24) 109 0) (k7 : ∀ i, i < d_m D → ∀ j, j < 5 → h.1 (h.2.2.1 + 2 + i) j = nI (F i j)) (k8 : ∀ i, i < d_m D → (∀ j, j < 4 → F i j ≤ 5) ∧ F i 4 ≤ 3) (k9 : ∀ i, i < d_m D → ∀ j, j < 5 → d_H D i j = rp_ F ds n i j) (k11 : ∀ k, k < 3 → kp_ h (d_m D) (d_t D) F k) (hc : c < 40) (hm : c / 8 < d_m D) (hn : n < 40) (e1 : ∀ k j, k ≠ 105 → h2.1 k j = (nt_ (acC_ h h.2.2.1 n c) n).1 k j) (e2 : h2.2 = h.2) (e6 : ∀ i, i < d_m D → ∀ j, j < 5 → h2.1 105 (5 * i + j) = nI (ap_ c (d_H D) i j)) : inv_ h2 := by
  have nw := H.2.2.2.nw
  have m5 := K.1
  have bd : ∀ i, i < d_m D → ∀ j, j < 5 → d_H D i j < 2 ^ 30 := by
    intro i hi j hj
    have b := K.2.2.2.2.1 i hi
    by_cases e : j = 4
    · subst e
      have := b.2
      omega
    · have := b.1 j (by omega)
      omega
  refine act_I H K C M k6 k7 k8 k9 k11 hc hm hn (fun k j q1 q2 q3 q4 q5 q6 => ?_) e2 ?_ ?_ (fun i hi j hj => ?_) e6 (fun d => ?_) (fun x hx => ?_) (fun x hx => ?_)
  · rw [e1 _ _ q4, nt_ne q5 q6, acC_ne q1 (by omega) q3]
  · rw [e1 _ _ (by omega), nt_ne (by omega) (by omega)]
    unfold acC_
    rw [sI_eq]
  · rw [e1 _ _ (by omega)]
    unfold nt_
    rw [sI_eq]
  · rw [e1 _ _ (by omega), nt_ne (by omega) (by omega)]
    unfold acC_
    rw [sI_ne (by omega)]
    exact rp1_H bd (fun i hi j hj => by rw [sI_ne (by omega)]; exact C.2.2.2.1 i hi j hj) i hi j hj
  · rw [e1 _ _ (by omega), nt_ne (by omega) (by omega)]
    unfold acC_
    rw [sI_ne (by omega), rp1_ne (by omega), sI_if]
  · rw [e1 _ _ (by decide), nt_old hx, acC_ne (by omega) (by omega) (by omega)]
  · rw [e1 _ _ (by decide), nt_new hx, acC_ne (by omega) (by omega) (by omega)]
theorem acC_H {h : hh_} {D : od_} {o n c : Nat} (K : oK_ D) (C : oC_ o h D) (ho : o = 39 ∨ o = 64) : ∀ i, i < d_m D → ∀ j, j < 5 → (acC_ h o n c).1 (o + 8 + i) j = nI (ap_ c (d_H D) i j) := by
  intro i hi j hj
  have m5 := K.1
  unfold acC_
  rw [sI_ne (by omega)]
  refine rp1_H (fun i hi j hj => ?_) (fun i hi j hj => by rw [sI_ne (by omega)]; exact C.2.2.2.1 i hi j hj) i hi j hj
  have b := K.2.2.2.2.1 i hi
  by_cases e : j = 4
  · subst e
    have := b.2
    omega
  · have := b.1 j (by omega)
    omega
theorem n40 {n : Nat} (hn : n ≤ 40) : (nI n < (40 : Int32) ↔ n < 40) ∧ (nI n = (40 : Int32) ↔ ¬ n < 40) := by
  constructor
  · exact nI_ltI (b := 40) (by omega) (by omega)
  · refine (nI_eq (b := 40) (by omega) (by omega)).trans ⟨fun q => by omega, fun q => by omega⟩
theorem acM {h : hh_} {D : od_} {o n c : Nat} (ho : o = 39 ∨ o = 64) (hc : c < 40) (M : oM_ h D) : oM_ (acC_ h o n c) D := M.fr (fun k j q => acC_ne (by omega) (by omega) (by omega))
theorem ntM {h : hh_} {D : od_} {n : Nat} (M : oM_ h D) : oM_ (nt_ h n) D := M.fr (fun k j q => nt_ne (by omega) (by omega))
theorem gq_loop {i : Nat} {D : od_} (K : oK_ D) (hi : i < d_m D) : ∀ (d j m : Nat) (h : hh_), j + d = 4 → (∀ x, j ≤ x → x < 4 → h.1 105 (5 * i + x) = nI (d_H D i x)) → ff_X8_grow_28 (nI i) (m + d + 1) (nI j) h = (ff_X8_bumps (nI i) (fg_ h 105 (5 * i) j 4 (fun x => nI (min 5 (d_H D i x + 1))))).bind fun v => some (v, fg_ h 105 (5 * i) j 4 (fun x => nI (min 5 (d_H D i x + 1)))) := by
  have k1 := K.1
  intro d
  induction d with
  | zero =>
    intro j m h e eg
    have e : j = 4 := by omega
    subst e
    rw [ff_X8_grow_28, if_pos (by decide), fg_0]
  | succ d ih =>
    intro j m h e eg
    have hj : j < 4 := by omega
    have b := (K.2.2.2.2.1 i hi).1 j hj
    have eb : ff_X8_bump (nI i) (nI j) h = some (nI (d_H D i j)) := by
      unfold ff_X8_bump
      rw [show (5 : Int32) = nI 5 from rfl, pk_mul, nI_add, gd_n (by omega) (by decide), nI_clamp (by omega), eg j (Nat.le_refl _) hj]
    have el : ff_X8_lesser 5 (nI (d_H D i j) + 1) = nI (min 5 (d_H D i j + 1)) := by
      unfold ff_X8_lesser
      rw [nI_1]
      by_cases e2 : d_H D i j + 1 ≤ 5
      · rw [if_pos (show nI (d_H D i j + 1) ≤ 5 from nI_le (b := 5) e2 (by omega)), Nat.min_eq_right e2]
      · rw [if_neg (show ¬ nI (d_H D i j + 1) ≤ 5 from nI_ge (a := 5) (by omega) (by omega)), Nat.min_eq_left (by omega)]; rfl
    rw [show m + (d + 1) + 1 = (m + d + 1) + 1 by omega, ff_X8_grow_28, if_neg (show ¬ (4 : Int32) ≤ nI j from nI_ge (b := 4) hj (by omega)), eb, Option.bind_some, el, show (5 : Int32) * nI i + nI j = nI (5 * i + j) from by rw [show (5 : Int32) = nI 5 from rfl, pk_mul, nI_add], gd_n (by omega) (by decide), nI_clamp (by omega), nI_1, ih (j + 1) m _ (by omega) (fun x h1 h2 => by rw [sI_nj (by omega)]; exact eg x (by omega) h2)]
    have w := fg_s (h := h) (k := 105) (b := 5 * i) (a := j) (n := 4) (g := fun x => nI (min 5 (d_H D i x + 1))) hj
    rw [w]
/-- 15: pad -/
theorem st_15 : sp_15 inv_ := by
  intro h a1 a2 H
  obtain ⟨hn, D, F, ds, n, K, C, M, k4, k5, k6, k7, k8, k9, k10, k11⟩ := H.2.2.2
  have k1 := K.1
  have nw := H.2.2.2.nw
  have B := H.2.2.2.nwB
  have h40 := n40 k6.1
  rcases hs_0 a1 K C M with ⟨i, hi, rfl, c1, m1⟩ | ⟨c1, m1⟩
  · rcases pl_ a2 with ⟨j, hj, rfl, c2, m2⟩ | ⟨c2, m2⟩
    · have l5 := (K.2.2.2.2.1 i hi).1 j hj
      by_cases e5 : d_H D i j < 5
      · have e5' : nI (d_H D i j) < 5 := nI_lt (b := 5) e5 (by omega)
        have e5M : ¬ nI (d_H D i j) = 5 := fun w => by have := (nI_eq (b := 5) (by omega) (by omega)).mp w; omega
        by_cases e4 : n < 40
        · have M1 := acM (n := n) (c := i * 8 + j) nw (by omega) M
          have e21 : (acC_ h h.2.2.1 n (i * 8 + j)).1 98 21 = nI n := by rw [acC_ne (by omega) (by omega) (by omega)]; exact k5
          have M2 := ntM (n := n) M1
          have K3 := up_K K (i := i) (j := j) (v := d_H D i j + 1) hj (by omega)
          have M3 := up_M M2 (i := i) (j := j) (v := d_H D i j + 1) (by omega)
          refine ⟨nI (d_H D i j + 1), acC_ h h.2.2.1 n (i * 8 + j), hh_sI (nt_ (acC_ h h.2.2.1 n (i * 8 + j)) n) 105 (5 * i + j) (nI (d_H D i j + 1)), ?_, ?_, ?_⟩
          · unfold ff_X7_pad
            rw [gd_t B, c1, Option.bind_some, if_neg n10, c2, if_neg n10, gd_n (by omega) (by decide), gd_n (by omega) (by decide), nI_clamp (by omega), nI_clamp (by omega), C.2.2.2.1 i hi j (by omega), if_pos e5', k4, if_pos (h40.1.mpr e4), act_C (by omega) (by omega) e4 k4, Option.bind_some, acC_2, gd_t B, acC_H K C nw i hi j (by omega), ap_pad hj e5, if_pos ⟨rfl, rfl⟩]
          · unfold ff_X8_pad
            have q1 : ff_X8_isHead (nI i) (acC_ h h.2.2.1 n (i * 8 + j)) = 1 := by unfold ff_X8_isHead at m1 ⊢; rw [M1.1]; rw [M.1] at m1; exact m1
            rw [q1, if_neg n10, m2, if_neg n10, bu_M K M1 hi (by omega), Option.bind_some, if_neg e5M, e21, if_neg (fun w => h40.2.mp w e4), nt_M e4 e21, Option.bind_some, show (5 : Int32) * nI i + nI j = nI (5 * i + j) from by rw [show (5 : Int32) = nI 5 from rfl, pk_mul, nI_add], gd_n (by omega) (by decide), nI_clamp (by omega), M2.2.2.2.1 i hi j (by omega), nI_1, bu_M K3 M3 hi (by omega), Option.bind_some, up_H, if_pos ⟨rfl, rfl⟩]
          · refine act_J H K C M k6 k7 k8 k9 k11 (c := i * 8 + j) (by omega) (by omega) e4 (fun k x q => sI_ne q) acC_2 (fun a ha b hb => ?_)
            rw [M3.2.2.2.1 a ha b hb, up_H, ap_pad hj e5]
        · refine ⟨-2, h, h, ?_, ?_, H⟩
          · unfold ff_X7_pad
            rw [gd_t B, c1, Option.bind_some, if_neg n10, c2, if_neg n10, gd_n (by omega) (by decide), gd_n (by omega) (by decide), nI_clamp (by omega), nI_clamp (by omega), C.2.2.2.1 i hi j (by omega), if_pos e5', k4, if_neg (fun w => e4 (h40.1.mp w))]
          · unfold ff_X8_pad
            rw [m1, if_neg n10, m2, if_neg n10, bu_M K M hi (by omega), Option.bind_some, if_neg e5M, k5, if_pos (h40.2.mpr e4)]
      · refine ⟨-4, h, h, ?_, ?_, H⟩
        · unfold ff_X7_pad
          rw [gd_t B, c1, Option.bind_some, if_neg n10, c2, if_neg n10, gd_n (by omega) (by decide), gd_n (by omega) (by decide), nI_clamp (by omega), nI_clamp (by omega), C.2.2.2.1 i hi j (by omega), if_neg (show ¬ nI (d_H D i j) < 5 from nI_nlt (b := 5) (by omega) (by omega))]
        · unfold ff_X8_pad
          rw [m1, if_neg n10, m2, if_neg n10, bu_M K M hi (by omega), Option.bind_some, if_pos (show nI (d_H D i j) = 5 from by rw [show d_H D i j = 5 by omega]; rfl)]
    · exact ⟨-1, h, h, by unfold ff_X7_pad; rw [gd_t B, c1, Option.bind_some, if_neg n10, c2, if_pos rfl], by unfold ff_X8_pad; rw [m1, if_neg n10, m2, if_pos rfl], H⟩
  · exact ⟨-1, h, h, by unfold ff_X7_pad; rw [gd_t B, c1, Option.bind_some, if_pos rfl], by unfold ff_X8_pad; rw [m1, if_pos rfl], H⟩
/-- 16: grow -/
theorem st_16 : sp_16 inv_ := by
  intro h a1 H
  obtain ⟨hn, D, F, ds, n, K, C, M, k4, k5, k6, k7, k8, k9, k10, k11⟩ := H.2.2.2
  have k1 := K.1
  have nw := H.2.2.2.nw
  have B := H.2.2.2.nwB
  have h40 := n40 k6.1
  rcases hs_0 a1 K C M with ⟨i, hi, rfl, c1, m1⟩ | ⟨c1, m1⟩
  · by_cases e4 : n < 40
    · have M1 := acM (n := n) (c := i * 8 + 4) nw (by omega) M
      have e21 : (acC_ h h.2.2.1 n (i * 8 + 4)).1 98 21 = nI n := by rw [acC_ne (by omega) (by omega) (by omega)]; exact k5
      have M2 := ntM (n := n) M1
      have K3 : oK_ (D.1, D.2.1, D.2.2.1, ap_ (i * 8 + 4) (d_H D), D.2.2.2.2) := ⟨K.1, K.2.1, K.2.2.1, K.2.2.2.1, fun a ha => ap_b (K.2.2.2.2.1 a ha), K.2.2.2.2.2.1, K.2.2.2.2.2.2⟩
      have M3 : oM_ (fg_ (nt_ (acC_ h h.2.2.1 n (i * 8 + 4)) n) 105 (5 * i) 0 4 (fun x => nI (min 5 (d_H D i x + 1)))) (D.1, D.2.1, D.2.2.1, ap_ (i * 8 + 4) (d_H D), D.2.2.2.2) := by
        refine ⟨by rw [fg_ne (by decide)]; exact M2.1, by rw [fg_ne (by decide)]; exact M2.2.1, by rw [fg_ne (by decide)]; exact M2.2.2.1, fun a ha b hb => ?_, fun t ht b hb => by rw [fg_ne (by decide)]; exact M2.2.2.2.2.1 t ht b hb, fun p hp b hb => by rw [fg_ne (by decide)]; exact M2.2.2.2.2.2 p hp b hb⟩
        show _ = nI (ap_ (i * 8 + 4) (d_H D) a b)
        rw [ap_grow]
        by_cases e : a = i ∧ b < 4
        · rw [if_pos e, e.1, fg_in (by omega) e.2]
        · rw [if_neg e, fg_out (by omega)]
          exact M2.2.2.2.1 a ha b hb
      have C3 : oC_ h.2.2.1 (acC_ h h.2.2.1 n (i * 8 + 4)) (D.1, D.2.1, D.2.2.1, ap_ (i * 8 + 4) (d_H D), D.2.2.2.2) := by
        have t4 := K.2.1
        have p4 := K.2.2.1
        refine ⟨by rw [acC_ne (by omega) (by omega) (by omega)]; exact C.1, by rw [acC_ne (by omega) (by omega) (by omega)]; exact C.2.1, by rw [acC_ne (by omega) (by omega) (by omega)]; exact C.2.2.1, acC_H K C nw, fun t ht b hb => ?_, fun p hp b hb => ?_⟩
        · have ht : t < d_t D := ht
          rw [acC_ne (by omega) (by omega) (by omega)]; exact C.2.2.2.2.1 t ht b hb
        · have hp : p < d_p D := hp
          rw [acC_ne (by omega) (by omega) (by omega)]; exact C.2.2.2.2.2 p hp b hb
      refine ⟨nI (bt_ (D.1, D.2.1, D.2.2.1, ap_ (i * 8 + 4) (d_H D), D.2.2.2.2) i), acC_ h h.2.2.1 n (i * 8 + 4), fg_ (nt_ (acC_ h h.2.2.1 n (i * 8 + 4)) n) 105 (5 * i) 0 4 (fun x => nI (min 5 (d_H D i x + 1))), ?_, ?_, ?_⟩
      · unfold ff_X7_grow
        rw [gd_t B, c1, Option.bind_some, if_neg n10, k4, if_pos (h40.1.mpr e4), show (4 : Int32) = nI 4 from rfl, act_C (by omega) (by omega) e4 k4, Option.bind_some, acC_2, gd_t B, tg_C K3 C3 hi]; rfl
      · unfold ff_X8_grow
        have q1 : ff_X8_isHead (nI i) (acC_ h h.2.2.1 n (i * 8 + 4)) = 1 := by unfold ff_X8_isHead at m1 ⊢; rw [M1.1]; rw [M.1] at m1; exact m1
        obtain ⟨k, hk⟩ := fu_ 4 (by decide)
        rw [q1, if_neg n10, e21, if_neg (fun w => h40.2.mp w e4), nt_M e4 e21, Option.bind_some, hk]
        refine (gq_loop K hi 4 0 k _ rfl (fun x _ hx => M2.2.2.2.1 i hi x (by omega))).trans ?_
        rw [bs_M K3 M3 hi]; rfl
      · exact act_J H K C M k6 k7 k8 k9 k11 (c := i * 8 + 4) (by omega) (by omega) e4 (fun k x q => fg_ne q) acC_2 M3.2.2.2.1
    · refine ⟨-2, h, h, ?_, ?_, H⟩
      · unfold ff_X7_grow
        rw [gd_t B, c1, Option.bind_some, if_neg n10, k4, if_neg (fun w => e4 (h40.1.mp w))]
      · unfold ff_X8_grow
        rw [m1, if_neg n10, k5, if_pos (h40.2.mpr e4)]
  · exact ⟨-1, h, h, by unfold ff_X7_grow; rw [gd_t B, c1, Option.bind_some, if_pos rfl], by unfold ff_X8_grow; rw [m1, if_pos rfl], H⟩
/-- 17: cut -/
theorem st_17 : sp_17 inv_ := by
  intro h a1 a2 H
  obtain ⟨hn, D, F, ds, n, K, C, M, k4, k5, k6, k7, k8, k9, k10, k11⟩ := H.2.2.2
  have k1 := K.1
  have nw := H.2.2.2.nw
  have B := H.2.2.2.nwB
  have h40 := n40 k6.1
  rcases hs_0 a1 K C M with ⟨i, hi, rfl, c1, m1⟩ | ⟨c1, m1⟩
  · rcases rg_ a2 2 (by decide) with ⟨x, hx, rfl, q1, q2, q3⟩ | ⟨q1, q3⟩
    · have l5 := (K.2.2.2.2.1 i hi).2
      have e54 : (5 : Int32) * nI i + 4 = nI (5 * i + 4) := by rw [show (5 : Int32) = nI 5 from rfl, pk_mul]; exact nI_add _ 4
      by_cases e5 : x < d_H D i 4
      · have e5' : nI x < nI (d_H D i 4) := nI_lt e5 (by omega)
        by_cases e4 : n < 40
        · have M1 := acM (n := n) (c := i * 8 + (5 + x)) nw (by omega) M
          have e21 : (acC_ h h.2.2.1 n (i * 8 + (5 + x))).1 98 21 = nI n := by rw [acC_ne (by omega) (by omega) (by omega)]; exact k5
          have M2 := ntM (n := n) M1
          have M3 := up_M M2 (i := i) (j := 4) (v := x) (by omega)
          refine ⟨nI (d_H D i 4), acC_ h h.2.2.1 n (i * 8 + (5 + x)), hh_sI (nt_ (acC_ h h.2.2.1 n (i * 8 + (5 + x))) n) 105 (5 * i + 4) (nI x), ?_, ?_, ?_⟩
          · unfold ff_X7_cut
            rw [gd_t B, c1, Option.bind_some, if_neg n10, if_neg q1, if_pos (show nI x ≤ 2 from q2), gd_n (by omega) (by decide), nI_clamp (by omega), show Int32.toNatClampNeg 4 = 4 from rfl, C.2.2.2.1 i hi 4 (by omega), if_pos e5', k4, if_pos (h40.1.mpr e4), show (5 : Int32) + nI x = nI (5 + x) from nI_add 5 x, act_C (by omega) (by omega) e4 k4]; rfl
          · unfold ff_X8_cut
            have w1 : ff_X8_isHead (nI i) (acC_ h h.2.2.1 n (i * 8 + (5 + x))) = 1 := by unfold ff_X8_isHead at m1 ⊢; rw [M1.1]; rw [M.1] at m1; exact m1
            rw [w1, if_neg n10, show (2 : Int32) = nI 2 from rfl, q3, if_neg n10, e54, gd_n (by omega) (by decide), nI_clamp (by omega), M1.2.2.2.1 i hi 4 (by omega), if_pos e5', e21, if_neg (fun w => h40.2.mp w e4), nt_M e4 e21]; rfl
          · refine act_J H K C M k6 k7 k8 k9 k11 (c := i * 8 + (5 + x)) (by omega) (by omega) e4 (fun k y q => sI_ne q) acC_2 (fun a ha b hb => ?_)
            rw [M3.2.2.2.1 a ha b hb, up_H, ap_cut (by omega)]
        · refine ⟨-2, h, h, ?_, ?_, H⟩
          · unfold ff_X7_cut
            rw [gd_t B, c1, Option.bind_some, if_neg n10, if_neg q1, if_pos (show nI x ≤ 2 from q2), gd_n (by omega) (by decide), nI_clamp (by omega), show Int32.toNatClampNeg 4 = 4 from rfl, C.2.2.2.1 i hi 4 (by omega), if_pos e5', k4, if_neg (fun w => e4 (h40.1.mp w))]
          · unfold ff_X8_cut
            rw [m1, if_neg n10, show (2 : Int32) = nI 2 from rfl, q3, if_neg n10, e54, gd_n (by omega) (by decide), nI_clamp (by omega), M.2.2.2.1 i hi 4 (by omega), if_pos e5', k5, if_pos (h40.2.mpr e4)]
      · refine ⟨-4, h, h, ?_, ?_, H⟩
        · unfold ff_X7_cut
          rw [gd_t B, c1, Option.bind_some, if_neg n10, if_neg q1, if_pos (show nI x ≤ 2 from q2), gd_n (by omega) (by decide), nI_clamp (by omega), show Int32.toNatClampNeg 4 = 4 from rfl, C.2.2.2.1 i hi 4 (by omega), if_neg (nI_nlt (by omega) (by omega))]
        · unfold ff_X8_cut
          rw [m1, if_neg n10, show (2 : Int32) = nI 2 from rfl, q3, if_neg n10, e54, gd_n (by omega) (by decide), nI_clamp (by omega), M.2.2.2.1 i hi 4 (by omega), if_neg (nI_nlt (by omega) (by omega))]
    · refine ⟨-1, h, h, ?_, by unfold ff_X8_cut; rw [m1, if_neg n10, show (2 : Int32) = nI 2 from rfl, q3, if_pos rfl], H⟩
      unfold ff_X7_cut
      rw [gd_t B, c1, Option.bind_some, if_neg n10]
      rcases q1 with q | ⟨q, q2⟩
      · rw [if_pos q]
      · rw [if_neg q, if_neg (show ¬ a2 ≤ 2 from q2)]
  · exact ⟨-1, h, h, by unfold ff_X7_cut; rw [gd_t B, c1, Option.bind_some, if_pos rfl], by unfold ff_X8_cut; rw [m1, if_pos rfl], H⟩
/-- 14: error -/
theorem st_14 : sp_14 inv_ := by
  intro h a1 a2 H
  have nw := H.2.2.2.nw
  have B := H.2.2.2.nwB
  have hn0 := H.2.2.2.1
  obtain ⟨hT, hR, hX, hn, D, F, ds, n, K, C, M, k4, k5, k6, k7, k8, k9, k10, k11⟩ := id H
  have m5 := K.1
  have t4 := K.2.1
  have p4 := K.2.2.1
  rcases hs_1 a1 K C M with ⟨t, ht, rfl, c1, m1⟩ | ⟨c1, m1⟩
  · rcases rg_ a2 2 (by decide) with ⟨x, hx, rfl, q1, q2, q3⟩ | ⟨q1, q3⟩
    · have e31 : (3 : Int32) * nI t + 1 = nI (3 * t + 1) := by rw [show (3 : Int32) = nI 3 from rfl, pk_mul]; exact nI_add _ 1
      refine ⟨nI (d_T D t 1), hh_sI h (h.2.2.1 + 14 + t) 1 (nI x), hh_sI (hh_sI h (h.2.2.1 + 14 + t) 1 (nI x)) 106 (3 * t + 1) (nI x), ?_, ?_, ?_⟩
      · unfold ff_X7_error
        rw [gd_t B, c1, Option.bind_some, if_neg n10, if_neg q1, if_pos (show nI x ≤ 2 from q2), gd_n (by omega) (by decide), nI_clamp (by omega), show Int32.toNatClampNeg 1 = 1 from rfl, C.2.2.2.2.1 t ht 1 (by omega)]
      · unfold ff_X8_error
        have w1 : ff_X8_isThumb (nI t) (hh_sI h (h.2.2.1 + 14 + t) 1 (nI x)) = 1 := by unfold ff_X8_isThumb at m1 ⊢; rw [sI_ne (by omega)]; exact m1
        rw [w1, if_neg n10, show (2 : Int32) = nI 2 from rfl, q3, if_neg n10, e31, gd_n (by omega) (by decide), nI_clamp (by omega), sI_ne (by omega), M.2.2.2.2.1 t ht 1 (by omega)]
      · have g0 : ∀ k j, ¬ (k = h.2.2.1 + 14 + t ∧ j = 1) → ¬ (k = 106 ∧ j = 3 * t + 1) → (hh_sI (hh_sI h (h.2.2.1 + 14 + t) 1 (nI x)) 106 (3 * t + 1) (nI x)).1 k j = h.1 k j := by
          intro k j w1 w2
          by_cases e : k = 106
          · subst e
            rw [sI_nj (by omega), sI_ne (by omega)]
          · rw [sI_ne e]
            by_cases e2 : k = h.2.2.1 + 14 + t
            · rw [e2, sI_nj (by omega)]
            · rw [sI_ne e2]
        refine ⟨hT.fr (fun k j q => g0 _ _ (by omega) (by omega)) (fun _ _ _ => rfl), hR.fr (fun k j q => g0 _ _ (by omega) (by omega)), hX.fr (fun k j q => g0 _ _ (by omega) (by omega)), hn0, (D.1, D.2.1, D.2.2.1, D.2.2.2.1, (fun a b => if a = t ∧ b = 1 then x else d_T D a b), D.2.2.2.2.2), F, ds, n, ?_, ?_, ?_, ?_, ?_, ?_, fun i hi j hj => ?_, k8, k9, k10, fun k hk => (k11 k hk).fr hk (fun c j q => g0 _ _ (by omega) (by omega))⟩
        · refine ⟨K.1, K.2.1, K.2.2.1, K.2.2.2.1, K.2.2.2.2.1, fun a ha => ?_, K.2.2.2.2.2.2⟩
          have w := K.2.2.2.2.2.1 a ha
          refine ⟨?_, ?_, ?_⟩
          · show (if a = t ∧ 0 = 1 then x else d_T D a 0) ≤ 5
            rw [if_neg (by omega)]; exact w.1
          · show (if a = t ∧ 1 = 1 then x else d_T D a 1) ≤ 2
            split
            · exact hx
            · exact w.2.1
          · show (if a = t ∧ 2 = 1 then x else d_T D a 2) ≤ 3
            rw [if_neg (by omega)]; exact w.2.2
        · show oC_ h.2.2.1 (hh_sI (hh_sI h (h.2.2.1 + 14 + t) 1 (nI x)) 106 (3 * t + 1) (nI x)) _
          refine ⟨by rw [g0 _ _ (by omega) (by omega)]; exact C.1, by rw [g0 _ _ (by omega) (by omega)]; exact C.2.1, by rw [g0 _ _ (by omega) (by omega)]; exact C.2.2.1, fun i hi j hj => ?_, fun a ha b hb => ?_, fun p hp b hb => ?_⟩
          · have hi : i < d_m D := hi
            rw [g0 _ _ (by omega) (by omega)]; exact C.2.2.2.1 i hi j hj
          · have ha : a < d_t D := ha
            show _ = nI (if a = t ∧ b = 1 then x else d_T D a b)
            by_cases e : a = t ∧ b = 1
            · rw [if_pos e, e.1, e.2, sI_ne (by omega), sI_eq]
            · rw [if_neg e, g0 _ _ (by omega) (by omega)]; exact C.2.2.2.2.1 a ha b hb
          · have hp : p < d_p D := hp
            rw [g0 _ _ (by omega) (by omega)]; exact C.2.2.2.2.2 p hp b hb
        · refine ⟨by rw [g0 _ _ (by omega) (by omega)]; exact M.1, by rw [g0 _ _ (by omega) (by omega)]; exact M.2.1, by rw [g0 _ _ (by omega) (by omega)]; exact M.2.2.1, fun i hi j hj => by rw [g0 _ _ (by omega) (by omega)]; exact M.2.2.2.1 i hi j hj, fun a ha b hb => ?_, fun p hp b hb => by rw [g0 _ _ (by omega) (by omega)]; exact M.2.2.2.2.2 p hp b hb⟩
          show _ = nI (if a = t ∧ b = 1 then x else d_T D a b)
          by_cases e : a = t ∧ b = 1
          · rw [if_pos e, e.1, e.2, sI_eq]
          · rw [if_neg e, g0 _ _ (by omega) (by omega)]; exact M.2.2.2.2.1 a ha b hb
        · show (hh_sI (hh_sI h (h.2.2.1 + 14 + t) 1 (nI x)) 106 (3 * t + 1) (nI x)).1 h.2.2.1 6 = _
          rw [g0 _ _ (by omega) (by omega)]; exact k4
        · rw [g0 _ _ (by omega) (by omega)]; exact k5
        · exact k6.fr (fun j => g0 _ _ (show ¬ (h.2.2.1 + 24 = h.2.2.1 + 14 + t ∧ j = 1) by omega) (show ¬ (h.2.2.1 + 24 = 106 ∧ j = 3 * t + 1) by omega)) (fun j => g0 _ _ (by omega) (by omega))
        · have hi : i < d_m D := hi
          show (hh_sI (hh_sI h (h.2.2.1 + 14 + t) 1 (nI x)) 106 (3 * t + 1) (nI x)).1 (h.2.2.1 + 2 + i) j = _
          rw [g0 _ _ (by omega) (by omega)]; exact k7 i hi j hj
    · refine ⟨-1, h, h, ?_, by unfold ff_X8_error; rw [m1, if_neg n10, show (2 : Int32) = nI 2 from rfl, q3, if_pos rfl], H⟩
      unfold ff_X7_error
      rw [gd_t B, c1, Option.bind_some, if_neg n10]
      rcases q1 with q | ⟨q, q2⟩
      · rw [if_pos q]
      · rw [if_neg q, if_neg (show ¬ a2 ≤ 2 from q2)]
  · exact ⟨-1, h, h, by unfold ff_X7_error; rw [gd_t B, c1, Option.bind_some, if_pos rfl], by unfold ff_X8_error; rw [m1, if_pos rfl], H⟩
