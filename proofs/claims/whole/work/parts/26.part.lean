/-! ===== fractions; luck ===== -/
theorem cmp0 {b : Nat} (hb : b < 2 ^ 63) : lg_cmp (lN b) 0 = 0 ↔ b = 0 := by
  unfold lg_cmp
  rw [show (0 : Int64) = lN 0 from rfl]
  by_cases e : b = 0
  · subst e; decide
  · rw [if_pos (show lN b > lN 0 from (pk_lLT (by decide) hb).mpr (by omega))]
    exact ⟨fun q => absurd q (by decide), fun q => absurd q e⟩
theorem bm_n {b : Nat} (hb : b < 2 ^ 63) (h : b ≠ 0) : bm_ (lN b) = true := by
  unfold bm_
  rw [show (0 : Int64) = lN 0 from rfl]
  have : ¬ lN b = lN 0 := fun q => h ((pk_lEQ hb (by decide)).mp q)
  simp only [Bool.not_eq_true', beq_eq_false_iff_ne, ne_eq]
  exact this
theorem gcd_C : ∀ (k b a s m : Nat), b < 2 ^ k → a < 2 ^ 63 → b < 2 ^ 63 → s + 2 * k ≤ 99 → ff_X6_commonDivisor_3 (m + 2 * k + 1) (lN a) (lN b) (nI s) = some (lN (Nat.gcd a b)) := by
  intro k
  induction k with
  | zero =>
    intro b a s m hb ha hb2 hs
    have e : b = 0 := by omega
    subst e
    rw [ff_X6_commonDivisor_3, if_neg (show ¬ (100 : Int32) ≤ nI s from nI_ge (b := 100) (by omega) (by omega)), if_pos ((cmp0 (by decide)).mpr rfl), Nat.gcd_zero_right]
  | succ k ih =>
    intro b a s m hb ha hb2 hs
    rw [show m + 2 * (k + 1) + 1 = (m + 2 * k + 1 + 1) + 1 by omega, ff_X6_commonDivisor_3, if_neg (show ¬ (100 : Int32) ≤ nI s from nI_ge (b := 100) (by omega) (by omega))]
    by_cases e : b = 0
    · subst e
      rw [if_pos ((cmp0 (by decide)).mpr rfl), Nat.gcd_zero_right]
    · rw [if_neg (fun q => e ((cmp0 hb2).mp q)), gd_t (bm_n hb2 e), pk_lRem ha (by omega) hb2, nI_1, ff_X6_commonDivisor_3, if_neg (show ¬ (100 : Int32) ≤ nI (s + 1) from nI_ge (b := 100) (by omega) (by omega))]
      have l1 : a % b < b := Nat.mod_lt _ (by omega)
      have g1 : Nat.gcd a b = Nat.gcd b (a % b) := by rw [Nat.gcd_comm b (a % b), ← Nat.gcd_rec, Nat.gcd_comm]
      by_cases e2 : a % b = 0
      · rw [e2, if_pos ((cmp0 (by decide)).mpr rfl), g1, e2, Nat.gcd_zero_right]
      · have hab : a % b < 2 ^ 63 := by omega
        have l2 : b % (a % b) < a % b := Nat.mod_lt _ (by omega)
        have l3 : b % (a % b) < 2 ^ k := by
          have h5 : b % (a % b) + (a % b) ≤ b := by
            have h6 := Nat.div_add_mod b (a % b)
            have h7 : 1 ≤ b / (a % b) := Nat.div_pos (by omega) (by omega)
            have h8 : (a % b) * 1 ≤ (a % b) * (b / (a % b)) := Nat.mul_le_mul_left _ h7
            omega
          have h9 : 2 ^ (k + 1) = 2 * 2 ^ k := by rw [Nat.pow_succ]; omega
          omega
        have g2 : Nat.gcd b (a % b) = Nat.gcd (a % b) (b % (a % b)) := by rw [Nat.gcd_comm (a % b) (b % (a % b)), ← Nat.gcd_rec, Nat.gcd_comm]
        rw [if_neg (fun q => e2 ((cmp0 hab).mp q)), gd_t (bm_n hab e2), pk_lRem hb2 (by omega) hab, nI_1, g1, g2]
        exact ih _ _ _ _ l3 hab (by omega) (by omega)
theorem gcd_M {x3 : Nat} {x1 : Int64} {h : hh_} : ∀ (k b a m : Nat), b < 2 ^ k → a < 2 ^ 63 → b < 2 ^ 63 → 0 < Nat.gcd a b → ff_X8_part_6 x1 (lN x3) h (m + 2 * k + 1) (lN a) (lN b) = some ((1 : Int32), hh_sL (hh_sL h 98 3 (x1 / lN (Nat.gcd a b))) 98 4 (lN x3 / lN (Nat.gcd a b))) := by
  intro k
  induction k with
  | zero =>
    intro b a m hb ha hb2 hg
    have e : b = 0 := by omega
    subst e
    rw [Nat.gcd_zero_right] at hg ⊢
    rw [ff_X8_part_6, if_pos ((cmp0 (by decide)).mpr rfl), gd_t (bm_n ha (by omega))]
  | succ k ih =>
    intro b a m hb ha hb2 hg
    rw [show m + 2 * (k + 1) + 1 = (m + 2 * k + 1 + 1) + 1 by omega, ff_X8_part_6]
    by_cases e : b = 0
    · subst e
      rw [Nat.gcd_zero_right] at hg ⊢
      rw [if_pos ((cmp0 (by decide)).mpr rfl), gd_t (bm_n ha (by omega))]
    · rw [if_neg (fun q => e ((cmp0 hb2).mp q)), gd_t (bm_n hb2 e), pk_lRem ha (by omega) hb2, ff_X8_part_6]
      have l1 : a % b < b := Nat.mod_lt _ (by omega)
      have g1 : Nat.gcd a b = Nat.gcd b (a % b) := by rw [Nat.gcd_comm b (a % b), ← Nat.gcd_rec, Nat.gcd_comm]
      by_cases e2 : a % b = 0
      · rw [e2, if_pos ((cmp0 (by decide)).mpr rfl), gd_t (bm_n hb2 e), g1, e2, Nat.gcd_zero_right]
      · have hab : a % b < 2 ^ 63 := by omega
        have l2 : b % (a % b) < a % b := Nat.mod_lt _ (by omega)
        have l3 : b % (a % b) < 2 ^ k := by
          have h5 : b % (a % b) + (a % b) ≤ b := by
            have h6 := Nat.div_add_mod b (a % b)
            have h7 : 1 ≤ b / (a % b) := Nat.div_pos (by omega) (by omega)
            have h8 : (a % b) * 1 ≤ (a % b) * (b / (a % b)) := Nat.mul_le_mul_left _ h7
            omega
          have h9 : 2 ^ (k + 1) = 2 * 2 ^ k := by rw [Nat.pow_succ]; omega
          omega
        have g2 : Nat.gcd b (a % b) = Nat.gcd (a % b) (b % (a % b)) := by rw [Nat.gcd_comm (a % b) (b % (a % b)), ← Nat.gcd_rec, Nat.gcd_comm]
        rw [if_neg (fun q => e2 ((cmp0 hab).mp q)), gd_t (bm_n hab e2), pk_lRem hb2 (by omega) hab, g1, g2]
        exact ih _ _ _ l3 hab (by omega) (by rw [← g2, ← g1]; exact hg)
def fC_ (a b : Nat) (h : hh_) : hh_ := hh_sL (hh_sL h 36 3 (lN a)) 36 4 (lN b)
def fM_ (a b : Nat) (h : hh_) : hh_ := hh_sL (hh_sL h 98 3 (lN a)) 98 4 (lN b)
theorem tf_C {X Y : Nat} {h : hh_} (hX : X < 2 ^ 63) (hY : Y < 2 ^ 45) (h0 : 0 < Y) : ff_X6_tellFraction (lN X) (lN Y) h = some (1, fC_ (X / Nat.gcd X Y) (Y / Nat.gcd X Y) h) := by
  have g0 : 0 < Nat.gcd X Y := Nat.gcd_pos_of_pos_right _ h0
  have g1 : Nat.gcd X Y ≤ Y := Nat.gcd_le_right _ h0
  unfold ff_X6_tellFraction ff_X6_commonDivisor
  obtain ⟨k, hk⟩ := fu_ (2 * 45) (by decide)
  rw [hk, show (0 : Int32) = nI 0 from rfl, gcd_C 45 Y X 0 k hY hX (by omega) (by decide), Option.bind_some]
  rw [if_neg (show ¬ lg_cmp (lN (Nat.gcd X Y)) 0 = nI 0 from fun q => by have := (cmp0 (by omega)).mp q; omega), gd_t (bm_n (by omega) (by omega)), pk_lDiv hX g0 (by omega), pk_lDiv (by omega) g0 (by omega)]
  rfl
theorem tf_M {X Y : Nat} {h : hh_} (hX : X < 2 ^ 63) (hY : Y < 2 ^ 45) (h0 : 0 < Y) : ff_X8_part (lN X) (lN Y) h = some (1, fM_ (X / Nat.gcd X Y) (Y / Nat.gcd X Y) h) := by
  have g0 : 0 < Nat.gcd X Y := Nat.gcd_pos_of_pos_right _ h0
  have g1 : Nat.gcd X Y ≤ Y := Nat.gcd_le_right _ h0
  unfold ff_X8_part
  obtain ⟨k, hk⟩ := fu_ (2 * 45) (by decide)
  rw [hk, gcd_M 45 Y X k hY hX (by omega) g0, pk_lDiv hX g0 (by omega), pk_lDiv (by omega) g0 (by omega)]
  rfl
theorem inv_frac {h : hh_} (H : inv_ h) (a b : Nat) : inv_ (fM_ a b (fC_ a b h)) := by
  obtain ⟨hT, hR, hX, hO⟩ := H
  refine ⟨?_, hR.fr (fun k j q => rfl), hX.fr (fun k j q => rfl), iO_.fr (h := h) ⟨rfl, rfl⟩ (fun k j q => rfl) hO⟩
  obtain ⟨x1, x2, x3, x4, x5⟩ := hT
  refine ⟨x1, x2, ?_, ?_, x5⟩
  · unfold fM_ fC_
    rw [sL_ne (by decide), sL_ne (by decide), sL_nj (by decide), sL_eq, sL_nj (by decide), sL_eq]
  · unfold fM_ fC_
    rw [sL_ne (by decide), sL_ne (by decide), sL_eq, sL_eq]
theorem rdF_ {h : hh_} (H : inv_ h) {C : Option (Int32 × hh_)} {M : hh_ → Option (Int32 × hh_)} (a b : Nat) (e1 : C = some (1, fC_ a b h)) (e2 : ∀ h', sm_ h h' → M h' = some (1, fM_ a b h')) : ∃ (r : Int32) (h1 : hh_) (h2 : hh_), C = some (r, h1) ∧ M h1 = some (r, h2) ∧ inv_ h2 :=
  ⟨1, _, _, e1, e2 _ (fun _ _ _ _ => rfl), inv_frac H a b⟩
/-- how many ways -/
def sd_ (D : od_) (t i j : Nat) : Nat := mst_ D t i j 0 - lst_ D t i j 0 + 1
theorem sd_le {D : od_} (K : oK_ D) {t i j : Nat} (ht : t < d_t D) : sd_ D t i j ≤ 5 := by
  have := (K.2.2.2.2.2.1 t ht).2.1
  unfold sd_ mst_ lst_
  omega
theorem sd_pos {D : od_} {t i j : Nat} : 0 < sd_ D t i j := by unfold sd_; omega
theorem wy_C {o t i j : Nat} {h : hh_} {D : od_} (K : oK_ D) (C : oC_ o h D) (ht : t < d_t D) (hi : i < d_m D) (hj : j < 4) : ff_X2_ways o (nI t) (nI i) (nI j) h = some (nI (sd_ D t i j)) := by
  have b1 := sd_le K (i := i) (j := j) ht
  have b0 := sd_pos (D := D) (t := t) (i := i) (j := j)
  unfold ff_X2_ways
  rw [ms_C0 K C ht hi hj, Option.bind_some, ls_C0 K C ht hi hj, Option.bind_some, pk_sub lemx_, nI_1]
  refine congrArg some ?_
  show (if nI 1 < nI (sd_ D t i j) then nI (sd_ D t i j) else nI 1) = nI (sd_ D t i j)
  by_cases e : sd_ D t i j = 1
  · rw [e]; rfl
  · rw [if_pos (nI_lt (by omega) (by omega))]
theorem wy_M {t i j : Nat} {h : hh_} {D : od_} (K : oK_ D) (M : oM_ h D) (ht : t < d_t D) (hi : i < d_m D) (hj : j < 4) : ff_X8_spread (nI t) (nI i) (nI j) h = some (nI (sd_ D t i j)) := by
  unfold ff_X8_spread
  rw [ms_M K M ht hi hj, Option.bind_some, ls_M K M ht hi hj, Option.bind_some, pk_sub lemx_, nI_1]
  rfl
theorem nd_M {p j : Nat} {h : hh_} {D : od_} (K : oK_ D) (M : oM_ h D) (hp : p < d_p D) (hj : j < 5) : ff_X8_need (nI p) (nI j) h = some (nI (d_P D p j)) := by
  have k1 := K.2.2.1
  have c := M.2.2.2.2.2 p hp
  unfold ff_X8_need
  simp (disch := omega) only [nl_0, nl_1, nl_2, nl_3, nl_4, nl_5, nl_6, nl_7, nl_8, nl_9, nl_10, nl_12, nl_16, nl_25, nl_30, nl_31, nl_40, nl_80, nl_100, nI_add, pk_mul, nI_leI, nI_ltI, nI_eq, nI_clamp, gd_n, Option.bind_some, if_pos, if_neg, c]
theorem mx_i {a b : Nat} (ha : a < 2 ^ 31) (hb : b < 2 ^ 31) : (if nI a < nI b then nI b else nI a) = nI (max a b) := by
  by_cases e : a < b
  · rw [if_pos (nI_lt e hb), Nat.max_eq_right (by omega)]
  · rw [if_neg (nI_nlt (by omega) ha), Nat.max_eq_left (by omega)]
theorem gr_i {a b : Nat} (ha : a < 2 ^ 31) (hb : b < 2 ^ 31) : ff_X8_greater (nI a) (nI b) = nI (max a b) := by
  unfold ff_X8_greater
  by_cases e : a ≤ b
  · rw [if_pos (nI_le e hb), Nat.max_eq_right (by omega)]
  · rw [if_neg (nI_ge (by omega) ha), Nat.max_eq_left (by omega)]
theorem su1 (a b : Nat) : nI a - nI b + 1 = nI (a + 1) - nI b := by
  rw [← nI_1, Int32.sub_eq_add_neg, Int32.sub_eq_add_neg, Int32.add_assoc, Int32.add_comm (-nI b) 1, ← Int32.add_assoc]
def lu_ (D : od_) (t i p j : Nat) : Nat := mst_ D t i j 0 + 1 - max (lst_ D t i j 0) (d_P D p j)
def pr_ (f : Nat → Nat) : Nat → Nat → Nat → Nat
  | 0, _, x => x
  | d + 1, j, x => pr_ f d (j + 1) (x * f j)
theorem lk_C {t i p : Nat} {h : hh_} {D : od_} (B : bo_ h.2.2.1 = true) (K : oK_ D) (C : oC_ h.2.2.1 h D) (ht : t < d_t D) (hi : i < d_m D) (hp : p < d_p D) : ∀ (d j m x y : Nat), j + d = 4 → ff_X7_luck_47 (nI t) (nI i) (nI p) h (m + d + 1) (lN x) (lN y) (nI j) = (ff_X6_tellFraction (lN (pr_ (lu_ D t i p) d j x)) (lN (pr_ (sd_ D t i) d j y)) h).bind fun v => some (v.1, v.2) := by
  intro d
  induction d with
  | zero =>
    intro j m x y e
    have e : j = 4 := by omega
    subst e
    rw [ff_X7_luck_47, if_pos (by decide)]; rfl
  | succ d ih =>
    intro j m x y e
    have hj : j < 4 := by omega
    have k3 := K.2.2.1
    have l1 := lst_le K (t := t) (x := 0) hi hj
    have l2 := mst_le K (x := 0) ht hi hj
    have l3 := (K.2.2.2.2.2.2 p hp).1 j hj
    have l4 := sd_le K (i := i) (j := j) ht
    rw [show m + (d + 1) + 1 = (m + d + 1) + 1 by omega, ff_X7_luck_47, if_neg (show ¬ (4 : Int32) ≤ nI j from nI_ge (b := 4) hj (by omega)), gd_t B, ls_C0 K C ht hi hj, Option.bind_some, ms_C0 K C ht hi hj, Option.bind_some, gd_n (by omega) (by decide), gd_n (by omega) (by decide), wy_C K C ht hi hj, Option.bind_some, nI_clamp (show p < 2 ^ 31 by omega), nI_clamp (show j < 2 ^ 31 by omega), C.2.2.2.2.2 p hp j (by omega), mx_i (by omega) (by omega), su1, max0 (by omega) (by omega), nI_l (by omega), nI_l (by omega), lN_mul, lN_mul, nI_1, ih _ _ _ _ (by omega)]
    rfl
theorem lk_M {t i p : Nat} {h : hh_} {D : od_} (K : oK_ D) (M : oM_ h D) (ht : t < d_t D) (hi : i < d_m D) (hp : p < d_p D) : ∀ (d j m x y : Nat), j + d = 4 → ff_X8_luck_35 (nI t) (nI i) (nI p) h (m + d + 1) (lN x) (lN y) (nI j) = (ff_X8_part (lN (pr_ (lu_ D t i p) d j x)) (lN (pr_ (sd_ D t i) d j y)) h).bind fun v => some (v.1, v.2) := by
  intro d
  induction d with
  | zero =>
    intro j m x y e
    have e : j = 4 := by omega
    subst e
    rw [ff_X8_luck_35, if_pos (by decide)]; rfl
  | succ d ih =>
    intro j m x y e
    have hj : j < 4 := by omega
    have k3 := K.2.2.1
    have l1 := lst_le K (t := t) (x := 0) hi hj
    have l2 := mst_le K (x := 0) ht hi hj
    have l3 := (K.2.2.2.2.2.2 p hp).1 j hj
    have l4 := sd_le K (i := i) (j := j) ht
    rw [show m + (d + 1) + 1 = (m + d + 1) + 1 by omega, ff_X8_luck_35, if_neg (show ¬ (4 : Int32) ≤ nI j from nI_ge (b := 4) hj (by omega)), ls_M K M ht hi hj, Option.bind_some, nd_M K M hp (by omega), Option.bind_some, ms_M K M ht hi hj, Option.bind_some, wy_M K M ht hi hj, Option.bind_some, gr_i (by omega) (by omega), su1, gr0 (by omega) (by omega), nI_l (by omega), nI_l (by omega), lN_mul, lN_mul, nI_1, ih _ _ _ _ (by omega)]
    rfl
theorem pr_le {f : Nat → Nat} {B : Nat} (hf : ∀ j, j < 4 → f j ≤ B) : ∀ (d j x X : Nat), j + d = 4 → x ≤ X → pr_ f d j x ≤ X * B ^ d := by
  intro d
  induction d with
  | zero => intro j x X _ h; rw [pr_, Nat.pow_zero, Nat.mul_one]; exact h
  | succ d ih =>
    intro j x X e h
    rw [pr_, Nat.pow_succ, Nat.mul_comm (B ^ d) B, ← Nat.mul_assoc]
    exact ih _ _ _ (by omega) (Nat.mul_le_mul h (hf j (by omega)))
theorem pr_pos {f : Nat → Nat} (hf : ∀ j, 0 < f j) : ∀ (d j x : Nat), 0 < x → 0 < pr_ f d j x := by
  intro d
  induction d with
  | zero => intro j x h; exact h
  | succ d ih => intro j x h; exact ih _ _ (Nat.mul_pos h (hf j))
/-- 29: luck -/
theorem st_29 : sp_29 inv_ := by
  intro h a1 a2 a3 H
  obtain ⟨hn, D, F, ds, n, K, C, M, -⟩ := H.2.2.2
  have B := H.2.2.2.nwB
  rcases hs_1 a1 K C M with ⟨t, ht, rfl, c1, m1⟩ | ⟨c1, m1⟩
  · rcases hs_0 a2 K C M with ⟨i, hi, rfl, c2, m2⟩ | ⟨c2, m2⟩
    · rcases hs_2 a3 K C M with ⟨p, hp, rfl, c3, m3⟩ | ⟨c3, m3⟩
      · obtain ⟨k, hk⟩ := fu_ 4 (by decide)
        have b1 : pr_ (lu_ D t i p) 4 0 1 ≤ 1 * 10 ^ 4 := pr_le (fun j hj => by have := mst_le K (x := 0) ht hi hj; unfold lu_; omega) 4 0 1 1 rfl (by omega)
        have b2 : pr_ (sd_ D t i) 4 0 1 ≤ 1 * 5 ^ 4 := pr_le (fun j hj => sd_le K ht) 4 0 1 1 rfl (by omega)
        have b3 : 0 < pr_ (sd_ D t i) 4 0 1 := pr_pos (fun j => sd_pos) 4 0 1 (by omega)
        refine rdF_ H (pr_ (lu_ D t i p) 4 0 1 / Nat.gcd (pr_ (lu_ D t i p) 4 0 1) (pr_ (sd_ D t i) 4 0 1)) (pr_ (sd_ D t i) 4 0 1 / Nat.gcd (pr_ (lu_ D t i p) 4 0 1) (pr_ (sd_ D t i) 4 0 1)) ?_ (fun h' S => ?_)
        · unfold ff_X7_luck
          rw [gd_t B, c1, Option.bind_some, if_neg n10, c2, Option.bind_some, if_neg n10, c3, Option.bind_some, if_neg n10, hk]
          refine (lk_C B K C ht hi hp 4 0 k 1 1 rfl).trans ?_
          rw [tf_C (by omega) (by omega) b3]; rfl
        · unfold ff_X8_luck
          rw [S.iT (D := D) m1, if_neg n10, S.iH m2, if_neg n10, S.iP m3, if_neg n10, hk]
          refine (lk_M K (S.oM M) ht hi hp 4 0 k 1 1 rfl).trans ?_
          rw [tf_M (by omega) (by omega) b3]; rfl
      · refine rd_ H 0 (-1) 0 (by decide) ?_ (fun h' S => ?_)
        · unfold ff_X7_luck
          rw [gd_t B, c1, Option.bind_some, if_neg n10, c2, Option.bind_some, if_neg n10, c3, Option.bind_some, if_pos rfl]; rfl
        · unfold ff_X8_luck
          rw [S.iT (D := D) m1, if_neg n10, S.iH m2, if_neg n10, S.iP m3, if_pos rfl]; rfl
    · refine rd_ H 0 (-1) 0 (by decide) ?_ (fun h' S => ?_)
      · unfold ff_X7_luck
        rw [gd_t B, c1, Option.bind_some, if_neg n10, c2, Option.bind_some, if_pos rfl]; rfl
      · unfold ff_X8_luck
        rw [S.iT (D := D) m1, if_neg n10, S.iH m2, if_pos rfl]; rfl
  · refine rd_ H 0 (-1) 0 (by decide) ?_ (fun h' S => ?_)
    · unfold ff_X7_luck
      rw [gd_t B, c1, Option.bind_some, if_pos rfl]; rfl
    · unfold ff_X8_luck
      rw [S.iT (D := D) m1, if_pos rfl]; rfl
