/-! ===== digest: the reference ===== -/
theorem dM9 {h : hh_} {KK : hh_ → Option (Int64 × hh_)} {g : Nat → Int32} (e : ∀ c, c < 9 → ∀ v, ff_X8_tellsOf (nI c) (hL_ h v) = some (g c)) : ∀ (d j m : Nat) (x : Int64), j + d = 9 → ff_X8_digest_9 KK (m + d + 1) (nI j) (hL_ h x) = KK (hL_ h (mx64_ g d j x)) := by
  intro d
  induction d with
  | zero =>
    intro j m x q
    have q : j = 9 := by omega
    subst q
    rw [ff_X8_digest_9, if_pos (by decide)]; rfl
  | succ d ih =>
    intro j m x q
    rw [show m + (d + 1) + 1 = (m + d + 1) + 1 by omega, ff_X8_digest_9, if_neg (show ¬ (8 : Int32) < nI j from nI_nlt (a := 8) (by omega) (by omega)), e j (by omega), Option.bind_some, nI_1, hL_m, ih _ _ _ (by omega)]; rfl
theorem hL_M {h : hh_} {D : od_} {v : Int64} (M : oM_ h D) : oM_ (hL_ h v) D := M
theorem dM12 {i : Nat} {h : hh_} {D : od_} {KK : hh_ → Option hh_} (K : oK_ D) (M : oM_ h D) (hi : i < d_m D) : ∀ (d j m : Nat) (x : Int64), j + d = 6 → ff_X8_mixOffice_12 (nI i) KK (m + d + 1) (nI j) (hL_ h x) = KK (hL_ h (mx64_ (gH_ D i) d j x)) := by
  intro d
  induction d with
  | zero =>
    intro j m x q
    have q : j = 6 := by omega
    subst q
    rw [ff_X8_mixOffice_12, if_pos (by decide)]; rfl
  | succ d ih =>
    intro j m x q
    rw [show m + (d + 1) + 1 = (m + d + 1) + 1 by omega, ff_X8_mixOffice_12, if_neg (show ¬ (5 : Int32) < nI j from nI_nlt (a := 5) (by omega) (by omega)), oh_M K (hL_M M) hi (by omega), Option.bind_some, nI_1, hL_m, ih _ _ _ (by omega)]; rfl
theorem dM2 {h : hh_} {D : od_} {KK : hh_ → Option hh_} (K : oK_ D) (M : oM_ h D) : ∀ (d i m : Nat) (x : Int64), i + d = d_m D → ff_X8_mixOffice_2 KK (m + d + 1) (nI i) (hL_ h x) = KK (hL_ h (mo64_ (gH_ D) 6 d i x)) := by
  have m5 := K.1
  obtain ⟨k, hk⟩ := fu_ 6 (by decide)
  intro d
  induction d with
  | zero =>
    intro i m x q
    rw [ff_X8_mixOffice_2, (hL_M M).1, if_pos (nI_le (by omega) (by omega))]; rfl
  | succ d ih =>
    intro i m x q
    rw [show m + (d + 1) + 1 = (m + d + 1) + 1 by omega, ff_X8_mixOffice_2, (hL_M M).1, if_neg (nI_ge (by omega) (by omega)), hk]
    refine (dM12 K M (by omega) 6 0 k x rfl).trans ?_
    rw [nI_1, ih _ _ _ (by omega), mo64_]
theorem dM41 {h : hh_} {D : od_} {KK : hh_ → Option hh_} (K : oK_ D) (M : oM_ h D) : ∀ (d i m : Nat) (x : Int64), i + d = 3 * d_t D → ff_X8_mixOffice_41 KK (m + d + 1) (nI i) (hL_ h x) = KK (hL_ h (mx64_ (fun i => h.1 106 i) d i x)) := by
  have t4 := K.2.1
  have e3 : ∀ v, (3 : Int32) * (hL_ h v).1 98 11 = nI (3 * d_t D) := fun v => by rw [(hL_M M).2.1, show (3 : Int32) = nI 3 from rfl, pk_mul]
  intro d
  induction d with
  | zero =>
    intro i m x q
    rw [ff_X8_mixOffice_41, e3, if_pos (nI_le (by omega) (by omega))]; rfl
  | succ d ih =>
    intro i m x q
    rw [show m + (d + 1) + 1 = (m + d + 1) + 1 by omega, ff_X8_mixOffice_41, e3, if_neg (nI_ge (by omega) (by omega)), gd_n (by omega) (by decide), nI_clamp (by omega), nI_1, hL_m, ih _ _ _ (by omega)]; rfl
theorem dM69 {h : hh_} {D : od_} {KK : hh_ → Option hh_} (K : oK_ D) (M : oM_ h D) : ∀ (d i m : Nat) (x : Int64), i + d = 5 * d_p D → ff_X8_mixOffice_69 KK (m + d + 1) (nI i) (hL_ h x) = KK (hL_ h (mx64_ (fun i => h.1 107 i) d i x)) := by
  have p4 := K.2.2.1
  have e3 : ∀ v, (5 : Int32) * (hL_ h v).1 98 12 = nI (5 * d_p D) := fun v => by rw [(hL_M M).2.2.1, show (5 : Int32) = nI 5 from rfl, pk_mul]
  intro d
  induction d with
  | zero =>
    intro i m x q
    rw [ff_X8_mixOffice_69, e3, if_pos (nI_le (by omega) (by omega))]; rfl
  | succ d ih =>
    intro i m x q
    rw [show m + (d + 1) + 1 = (m + d + 1) + 1 by omega, ff_X8_mixOffice_69, e3, if_neg (nI_ge (by omega) (by omega)), gd_n (by omega) (by decide), nI_clamp (by omega), nI_1, hL_m, ih _ _ _ (by omega)]; rfl
theorem dM97 {h : hh_} {m' t : Nat} {F : Nat → Nat → Nat} (k11 : ∀ k, k < 3 → kp_ h m' t F k) : ∀ (d j m : Nat) (x : Int64), j + d = 3 → ff_X8_mixOffice_97 (m + d + 1) (nI j) (hL_ h x) = some (hL_ h (mx64_ (fun k => h.1 (89 + 3 * k) 2) d j x)) := by
  intro d
  induction d with
  | zero =>
    intro j m x q
    have q : j = 3 := by omega
    subst q
    rw [ff_X8_mixOffice_97, if_pos (by decide)]; rfl
  | succ d ih =>
    intro j m x q
    have e1 : (1030 : Int32) * nI j = nI (1030 * j) := by rw [show (1030 : Int32) = nI 1030 from rfl, pk_mul]
    rw [show m + (d + 1) + 1 = (m + d + 1) + 1 by omega, ff_X8_mixOffice_97, if_neg (show ¬ (3 : Int32) ≤ nI j from nI_ge (b := 3) (by omega) (by omega)), e1, gd_n (by omega) (by decide), nI_clamp (by omega), nI_1, hL_m, hL_m, ih _ _ _ (by omega), ih _ _ _ (by omega), mx64_, show (hL_ h x).1 110 (1030 * j) = h.1 110 (1030 * j) from rfl]
    rcases kpp_ (k11 j (by omega)) with ⟨u1, u2⟩ | ⟨n, hn, u1, u2, u3, u4⟩
    · rw [u1, u2]; rfl
    · rw [u1, u2, if_neg u3]
theorem dMo {h : hh_} {D : od_} {F : Nat → Nat → Nat} (K : oK_ D) (M : oM_ h D) (k11 : ∀ k, k < 3 → kp_ h (d_m D) (d_t D) F k) (x : Int64) : ff_X8_mixOffice (hL_ h x) = some (hL_ h (mx64_ (fun k => h.1 (89 + 3 * k) 2) 3 0 (dgo_ D x))) := by
  have m5 := K.1
  have t4 := K.2.1
  have p4 := K.2.2.1
  obtain ⟨k1, hk1⟩ := fu_ (d_m D) (by omega)
  obtain ⟨k2, hk2⟩ := fu_ (3 * d_t D) (by omega)
  obtain ⟨k3, hk3⟩ := fu_ (5 * d_p D) (by omega)
  obtain ⟨k4, hk4⟩ := fu_ 3 (by decide)
  have w1 := dM2 (KK := fun k4 => ff_X8_mixOffice_41 (fun k6 => ff_X8_mixOffice_69 (fun k8 => ff_X8_mixOffice_97 FU_ 0 k8) FU_ 0 k6) FU_ 0 k4) K M _ 0 k1 x (Nat.zero_add _)
  have w2 := dM41 (KK := fun k6 => ff_X8_mixOffice_69 (fun k8 => ff_X8_mixOffice_97 FU_ 0 k8) FU_ 0 k6) K M _ 0 k2 (mo64_ (gH_ D) 6 (d_m D) 0 x) (Nat.zero_add _)
  have e2 := mx_lin (g := fun i => h.1 106 i) (G := gT_ D) (w := 3) (N := d_t D) (fun i hi j hj => M.2.2.2.2.1 i hi j hj) (d_t D) 0 (mo64_ (gH_ D) 6 (d_m D) 0 x) (Nat.zero_add _)
  rw [Nat.mul_zero] at e2
  rw [e2] at w2
  have w3 := dM69 (KK := fun k8 => ff_X8_mixOffice_97 FU_ 0 k8) K M _ 0 k3 (mo64_ (gT_ D) 3 (d_t D) 0 (mo64_ (gH_ D) 6 (d_m D) 0 x)) (Nat.zero_add _)
  have e3 := mx_lin (g := fun i => h.1 107 i) (G := gP_ D) (w := 5) (N := d_p D) (fun i hi j hj => M.2.2.2.2.2 i hi j hj) (d_p D) 0 (mo64_ (gT_ D) 3 (d_t D) 0 (mo64_ (gH_ D) 6 (d_m D) 0 x)) (Nat.zero_add _)
  rw [Nat.mul_zero] at e3
  rw [e3] at w3
  have w4 := dM97 k11 3 0 k4 (dgo_ D x) rfl
  rw [← hk1] at w1
  rw [← hk2] at w2
  rw [← hk3] at w3
  rw [← hk4] at w4
  exact w1.trans (w2.trans (w3.trans w4))
theorem dM67 {h : hh_} {r n : Nat} {KK : hh_ → Option (Int64 × hh_)} (hr : r < 6) (hn : n ≤ 40) (e : ∀ i, i ≤ n → (h.1 100 r ≤ nI i ↔ i = n)) (e5 : ∀ i, i < n → h.1 (4 + r) i = h.1 101 (40 * r + i)) : ∀ (d i m : Nat) (x : Int64), i + d = n → ff_X8_digest_67 (nI r) KK (m + d + 1) (nI i) (hL_ h x) = KK (hL_ h (mx64_ (fun i => h.1 (4 + r) i) d i x)) := by
  intro d
  induction d with
  | zero =>
    intro i m x q
    rw [ff_X8_digest_67, gd_n hr (by decide), nI_clamp (by omega), if_pos (show (hL_ h x).1 100 r ≤ nI i from (e i (by omega)).mpr (by omega))]; rfl
  | succ d ih =>
    intro i m x q
    rw [show m + (d + 1) + 1 = (m + d + 1) + 1 by omega, ff_X8_digest_67, gd_n hr (by decide), nI_clamp (show r < 2 ^ 31 by omega), if_neg (show ¬ (hL_ h x).1 100 r ≤ nI i from fun w => by have := (e i (by omega)).mp w; omega), ra_ _ hr (by omega), Option.bind_some, nI_1, hL_m, ih _ _ _ (by omega), mx64_, show (hL_ h x).1 101 (40 * r + i) = h.1 (4 + r) i from (e5 i (by omega)).symm]
theorem dM36 {h : hh_} {KK : hh_ → Option (Int64 × hh_)} (R : iR_ h) : ∀ (d r m : Nat) (x : Int64), r + d = 6 → ff_X8_digest_36 KK (m + d + 1) (nI r) (hL_ h x) = KK (hL_ h (f64_ (gR_ h) d r x)) := by
  intro d
  induction d with
  | zero =>
    intro r m x q
    have q : r = 6 := by omega
    subst q
    rw [ff_X8_digest_36, if_pos (by decide)]; rfl
  | succ d ih =>
    intro r m x q
    obtain ⟨n, hn, e1, e2, e3, e4, e5⟩ := szR (by omega) (R r (by omega))
    obtain ⟨k, hk⟩ := fu_ n (by omega)
    have st1 : ff_X8_digest_62 (nI r) (h.1 10 r) (hL_ h x) (fun z1 h8 => ff_X8_digest_36 KK (m + d + 1) z1 h8) = KK (hL_ h (f64_ (gR_ h) (d + 1) r x)) := by
      unfold ff_X8_digest_62
      rw [hL_m, hk]
      refine (dM67 (by omega) hn e3 e5 n 0 k _ (by omega)).trans ?_
      dsimp only
      rw [nI_1, ih _ _ _ (by omega), f64_]
      unfold gR_
      rw [e1]
    rw [show m + (d + 1) + 1 = (m + d + 1) + 1 by omega, ff_X8_digest_36, if_neg (show ¬ (6 : Int32) ≤ nI r from nI_ge (b := 6) (by omega) (by omega)), gd_n (by omega) (by decide), nI_clamp (by omega), show (hL_ h x).1 100 r = h.1 100 r from rfl]
    by_cases q0 : 0 ≤ h.1 100 r
    · rw [if_pos q0] at e4 ⊢
      rw [e4]; exact st1
    · rw [if_neg q0] at e4 ⊢
      rw [e4]; exact st1
theorem dM131 {h : hh_} {r n : Nat} {KK : hh_ → Option (Int64 × hh_)} (hr : r < 4) (hn : n ≤ 80) (e : ∀ i, i ≤ n → (h.1 103 r ≤ nI i ↔ i = n)) (e5 : ∀ i, i < n → h.1 (13 + r) i = h.1 104 (80 * r + i)) : ∀ (d i m : Nat) (x : Int64), i + d = n → ff_X8_digest_131 (nI r) KK (m + d + 1) (nI i) (hL_ h x) = KK (hL_ h (mx64_ (fun i => h.1 (13 + r) i) d i x)) := by
  intro d
  induction d with
  | zero =>
    intro i m x q
    rw [ff_X8_digest_131, gd_n hr (by decide), nI_clamp (by omega), if_pos (show (hL_ h x).1 103 r ≤ nI i from (e i (by omega)).mpr (by omega))]; rfl
  | succ d ih =>
    intro i m x q
    have e8 : (80 : Int32) * nI r + nI i = nI (80 * r + i) := by rw [show (80 : Int32) = nI 80 from rfl, pk_mul, nI_add]
    rw [show m + (d + 1) + 1 = (m + d + 1) + 1 by omega, ff_X8_digest_131, gd_n hr (by decide), nI_clamp (show r < 2 ^ 31 by omega), if_neg (show ¬ (hL_ h x).1 103 r ≤ nI i from fun w => by have := (e i (by omega)).mp w; omega), e8, gd_n (by omega) (by decide), nI_clamp (show 80 * r + i < 2 ^ 31 by omega), nI_1, hL_m, ih _ _ _ (by omega), mx64_, show (hL_ h x).1 104 (80 * r + i) = h.1 (13 + r) i from (e5 i (by omega)).symm]
theorem dM101 {h : hh_} (X : iX_ h) : ∀ (d r m : Nat) (x : Int64), r + d = 4 → ff_X8_digest_101 (m + d + 1) (nI r) (hL_ h x) = some (f64_ (gX_ h) d r x, hL_ h (f64_ (gX_ h) d r x)) := by
  intro d
  induction d with
  | zero =>
    intro r m x q
    have q : r = 4 := by omega
    subst q
    rw [ff_X8_digest_101, if_pos (by decide), show (hL_ h x).2.1 98 30 = x from sL_eq]; rfl
  | succ d ih =>
    intro r m x q
    obtain ⟨n, hn, e1, e2, e3, e4, e5⟩ := szX (by omega) (X r (by omega))
    obtain ⟨k, hk⟩ := fu_ n (by omega)
    have st1 : ff_X8_digest_126 (nI r) (h.1 17 r) (hL_ h x) (fun z1 h8 => ff_X8_digest_101 (m + d + 1) z1 h8) = some (f64_ (gX_ h) (d + 1) r x, hL_ h (f64_ (gX_ h) (d + 1) r x)) := by
      unfold ff_X8_digest_126
      rw [hL_m, hk]
      refine (dM131 (by omega) hn e3 e5 n 0 k _ (by omega)).trans ?_
      dsimp only
      rw [nI_1, ih _ _ _ (by omega), f64_]
      unfold gX_
      rw [e1]
    rw [show m + (d + 1) + 1 = (m + d + 1) + 1 by omega, ff_X8_digest_101, if_neg (show ¬ (4 : Int32) ≤ nI r from nI_ge (b := 4) (by omega) (by omega)), gd_n (by omega) (by decide), nI_clamp (by omega), show (hL_ h x).1 103 r = h.1 103 r from rfl]
    by_cases q0 : 0 ≤ h.1 103 r
    · rw [if_pos q0] at e4 ⊢
      rw [e4]; exact st1
    · rw [if_neg q0] at e4 ⊢
      rw [e4]; exact st1
/-- 47: digest -/
theorem st_47 : sp_47 inv_ := by
  intro h H
  obtain ⟨hn, D, F, ds, n, K, C, M, k4, k5, k6, k7, k8, k9, k10, k11⟩ := H.2.2.2
  have B := H.2.2.2.nwB
  obtain ⟨q1, hq1⟩ := fu_ 9 (by decide)
  obtain ⟨q2, hq2⟩ := fu_ 3 (by decide)
  obtain ⟨q3, hq3⟩ := fu_ 6 (by decide)
  obtain ⟨q4, hq4⟩ := fu_ 4 (by decide)
  refine ⟨dge_ h (dgo_ D (mx64_ (ct_ h D n) 9 0 17)), hL_ h (dge_ h (dgo_ D (mx64_ (ct_ h D n) 9 0 17))), ?_, ?_, ?_⟩
  · have w1 := dC6 (h := h) (KK := fun u3 => gd_ (bo_ h.2.2.1) ((ff_X2_mix h.2.2.1 u3 h).bind fun v5 => ff_X7_digest_42 h FU_ v5 0)) (g := ct_ h D n) (fun c hc => ct_C H K C k4 k11 hc) 9 0 q1 17 rfl
    rw [← hq1] at w1
    refine w1.trans ?_
    rw [gd_t B, dCo K C, Option.bind_some]
    have w2 := dC42 H.2.1 H.2.2.1 3 0 q2 (dgo_ D (mx64_ (ct_ h D n) 9 0 17)) rfl
    rw [← hq2] at w2
    exact w2
  · have w1 := dM9 (h := h) (KK := fun k3 => (ff_X8_mixOffice k3).bind fun v4 => ff_X8_digest_36 (fun k11 => ff_X8_digest_101 FU_ 0 k11) FU_ 0 v4) (g := ct_ h D n) (fun c hc v => ct_M (h := hL_ h v) K (hL_M M) k5 hc) 9 0 q1 17 rfl
    rw [← hq1] at w1
    refine w1.trans ?_
    rw [dMo K M k11, Option.bind_some]
    have w2 := dM36 (h := h) (KK := fun k11 => ff_X8_digest_101 FU_ 0 k11) H.2.1 6 0 q3 (mx64_ (fun k => h.1 (89 + 3 * k) 2) 3 0 (dgo_ D (mx64_ (ct_ h D n) 9 0 17))) rfl
    rw [← hq3] at w2
    refine w2.trans ?_
    have w3 := dM101 H.2.2.1 4 0 q4 (f64_ (gR_ h) 6 0 (mx64_ (fun k => h.1 (89 + 3 * k) 2) 3 0 (dgo_ D (mx64_ (ct_ h D n) 9 0 17)))) rfl
    rw [← hq4] at w3
    exact w3
  · refine inv_scr H (fun _ _ _ => rfl) (fun k j q => ?_) ⟨rfl, rfl⟩
    unfold hL_
    by_cases e : k = 98
    · rw [e, sL_nj (by omega)]
    · rw [sL_ne e]
