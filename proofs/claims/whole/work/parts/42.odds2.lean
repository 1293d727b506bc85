/-! ===== odds ===== -/
def b5_ (b0 b1 b2 b3 b4 : Bool) (i : Nat) : Bool := if i = 0 then b0 else if i = 1 then b1 else if i = 2 then b2 else if i = 3 then b3 else b4
theorem bit5 (b0 b1 b2 b3 b4 : Bool) : ∀ m, m < 6 → ∀ k, k < m → ((msk_ (b5_ b0 b1 b2 b3 b4) m 0 0 >>> (nI k &&& 31)) &&& 1) = bI_ (b5_ b0 b1 b2 b3 b4 k) := by
  cases b0 <;> cases b1 <;> cases b2 <;> cases b3 <;> cases b4 <;> decide +kernel
theorem msk_c {p q : Nat → Bool} : ∀ (d i : Nat) (x : Int32), (∀ k, i ≤ k → k < i + d → p k = q k) → msk_ p d i x = msk_ q d i x := by
  intro d
  induction d with
  | zero => intro i x _; rfl
  | succ d ih =>
    intro i x e
    rw [msk_, msk_, e i (Nat.le_refl _) (by omega), ih _ _ (fun k h1 h2 => e k (by omega) (by omega))]
theorem b5_p {p : Nat → Bool} {k : Nat} (hk : k < 5) : p k = b5_ (p 0) (p 1) (p 2) (p 3) (p 4) k := by
  rcases (show k = 0 ∨ k = 1 ∨ k = 2 ∨ k = 3 ∨ k = 4 by omega) with rfl | rfl | rfl | rfl | rfl <;> rfl
theorem bit_ {p : Nat → Bool} {m k : Nat} (hm : m ≤ 5) (hk : k < m) : ((msk_ p m 0 0 >>> (nI k &&& 31)) &&& 1) = bI_ (p k) := by
  have w := bit5 (p 0) (p 1) (p 2) (p 3) (p 4) m (by omega) k hk
  rw [← b5_p (p := p) (show k < 5 by omega)] at w
  rw [msk_c (q := b5_ (p 0) (p 1) (p 2) (p 3) (p 4)) m 0 0 (fun k _ h => b5_p (by omega))]
  exact w
theorem msk_0 {p : Nat → Bool} : ∀ (d i : Nat) (x : Int32), (∀ k, i ≤ k → k < i + d → p k = false) → msk_ p d i x = x := by
  intro d
  induction d with
  | zero => intro i x _; rfl
  | succ d ih =>
    intro i x e
    rw [msk_, e i (Nat.le_refl _) (by omega), if_neg (by decide), ih _ _ (fun k h1 h2 => e k (by omega) (by omega))]
theorem pr_x {f : Nat → Nat} : ∀ (d j x : Nat), pr_ f d j x = x * pr_ f d j 1 := by
  intro d
  induction d with
  | zero => intro j x; rw [pr_, pr_, Nat.mul_one]
  | succ d ih =>
    intro j x
    rw [pr_, pr_, ih _ (x * f j), ih _ (1 * f j), Nat.one_mul, Nat.mul_assoc]
def S_ (D : od_) (t k : Nat) : Nat := pr_ (sd_ D t k) 4 0 1
def fi2_ (D : od_) (t : Nat) (R : Nat → Nat) (i : Nat) : Bool := all_ (ft_ D t i R) 4 0
def wC_ (D : od_) (t : Nat) (R : Nat → Nat) (i : Nat) : Nat := if fi2_ D t R i = true then pp_ (fun k => fi2_ D t R k && !decide (k = i)) (S_ D t) (d_m D) 0 1 else 0
def wM_ (D : od_) (t : Nat) (R : Nat → Nat) (i : Nat) : Nat := pr_ (fun j => 60 / sd_ D t i j) 4 0 (if fi2_ D t R i = true then 1 else 0)
def sN_ (f : Nat → Nat) : Nat → Nat → Nat → Nat
  | 0, _, x => x
  | d + 1, k, x => sN_ f d (k + 1) (x + f k)
theorem w46 {o t i k : Nat} {x3 : Int32} {h : hh_} {D : od_} {KK : Int64 → Option Int64} (K : oK_ D) (C : oC_ o h D) (ht : t < d_t D) (hk : k < d_m D) : ∀ (d j m x : Nat), j + d = 4 → ff_X2_weight_46 o (nI t) (nI i) x3 (nI k) h KK (m + d + 1) (lN x) (nI j) = KK (lN (pr_ (sd_ D t k) d j x)) := by
  intro d
  induction d with
  | zero =>
    intro j m x e
    have e : j = 4 := by omega
    subst e
    rw [ff_X2_weight_46, if_pos (by decide)]; rfl
  | succ d ih =>
    intro j m x e
    have l4 := sd_le K (i := k) (j := j) ht
    rw [show m + (d + 1) + 1 = (m + d + 1) + 1 by omega, ff_X2_weight_46, if_neg (show ¬ (4 : Int32) ≤ nI j from nI_ge (b := 4) (by omega) (by omega)), wy_C K C ht hk (by omega), Option.bind_some, nI_l (by omega), lN_mul, nI_1, ih _ _ _ (by omega)]; rfl
theorem w16 {o t i : Nat} {h : hh_} {D : od_} {R : Nat → Nat} (K : oK_ D) (C : oC_ o h D) (ht : t < d_t D) (hi : i < d_m D) : ∀ (d k m x : Nat), k + d = d_m D → ff_X2_weight_16 o (nI t) (nI i) (hm_ D R t) h (m + d + 1) (lN x) (nI k) = some (lN (pp_ (fun k => fi2_ D t R k && !decide (k = i)) (S_ D t) d k x)) := by
  have m5 := K.1
  obtain ⟨q, hq⟩ := fu_ 4 (by decide)
  intro d
  induction d with
  | zero =>
    intro k m x e
    rw [ff_X2_weight_16, show Int32.toNatClampNeg 0 = 0 from rfl, C.1, if_pos (nI_le (by omega) (by omega))]; rfl
  | succ d ih =>
    intro k m x e
    have hb : ((hm_ D R t >>> (nI k &&& 31)) &&& 1) = bI_ (fi2_ D t R k) := bit_ m5 (by omega)
    rw [show m + (d + 1) + 1 = (m + d + 1) + 1 by omega, ff_X2_weight_16, show Int32.toNatClampNeg 0 = 0 from rfl, C.1, if_neg (nI_ge (by omega) (by omega)), pp_, hb, nI_1, ih _ _ _ (by omega), hq]
    by_cases e2 : k = i
    · rw [if_pos (by rw [e2]), decide_eq_true e2, Bool.not_true, Bool.and_false, if_neg (by decide)]
    · rw [if_neg (fun w => e2 ((nI_eq (by omega) (by omega)).mp w)), decide_eq_false e2, Bool.not_false, Bool.and_true]
      cases fi2_ D t R k
      · rw [if_neg (by decide), if_neg (by decide)]
      · rw [if_pos (show bI_ true = 1 from rfl), if_pos rfl]
        refine (w46 K C ht (by omega) 4 0 q x rfl).trans ?_
        rw [pr_x, ih _ _ _ (by omega)]
        rfl
theorem wt_C {o t i : Nat} {h : hh_} {D : od_} {R : Nat → Nat} (K : oK_ D) (C : oC_ o h D) (ht : t < d_t D) (hi : i < d_m D) : ff_X2_weight o (nI t) (nI i) (hm_ D R t) h = some (lN (wC_ D t R i)) := by
  have m5 := K.1
  have hb : ((hm_ D R t >>> (nI i &&& 31)) &&& 1) = bI_ (fi2_ D t R i) := bit_ m5 hi
  obtain ⟨q, hq⟩ := fu_ (d_m D) (by omega)
  unfold ff_X2_weight wC_
  rw [hb, hq]
  cases fi2_ D t R i
  · rw [if_pos (show bI_ false = 0 from rfl), if_neg (by decide)]; rfl
  · rw [if_neg (show ¬ bI_ true = 0 by decide), if_pos rfl]
    exact w16 K C ht hi _ 0 q 1 (by omega)
theorem od_C {t i : Nat} {h : hh_} {D : od_} {R : Nat → Nat} (B : bo_ h.2.2.1 = true) (K : oK_ D) (C : oC_ h.2.2.1 h D) (ht : t < d_t D) (hi : i < d_m D) : ∀ (d k m x : Nat), k + d = d_m D → ff_X7_odds_98 (nI t) (nI i) (hm_ D R t) h (m + d + 1) (lN x) (nI k) = (ff_X6_tellFraction (lN (wC_ D t R i)) (lN (sN_ (wC_ D t R) d k x)) h).bind fun v => some (v.1, v.2) := by
  have m5 := K.1
  intro d
  induction d with
  | zero =>
    intro k m x e
    rw [ff_X7_odds_98, gd_t B, show Int32.toNatClampNeg 0 = 0 from rfl, C.1, if_pos (nI_le (by omega) (by omega)), wt_C K C ht hi, Option.bind_some]; rfl
  | succ d ih =>
    intro k m x e
    rw [show m + (d + 1) + 1 = (m + d + 1) + 1 by omega, ff_X7_odds_98, gd_t B, show Int32.toNatClampNeg 0 = 0 from rfl, C.1, if_neg (nI_ge (by omega) (by omega)), wt_C K C ht (by omega), Option.bind_some, lN_add, nI_1, ih _ _ _ (by omega)]; rfl
theorem w20 {t i : Nat} {h : hh_} {D : od_} (K : oK_ D) (M : oM_ h D) (ht : t < d_t D) (hi : i < d_m D) : ∀ (d j m x : Nat), j + d = 4 → ff_X8_weight_20 (nI t) (nI i) h (m + d + 1) (lN x) (nI j) = some (lN (pr_ (fun j => 60 / sd_ D t i j) d j x)) := by
  intro d
  induction d with
  | zero =>
    intro j m x e
    have e : j = 4 := by omega
    subst e
    rw [ff_X8_weight_20, if_pos (by decide)]; rfl
  | succ d ih =>
    intro j m x e
    have l4 := sd_le K (i := i) (j := j) ht
    have l0 := sd_pos (D := D) (t := t) (i := i) (j := j)
    have bn : bn_ (nI (sd_ D t i j)) = true := by
      unfold bn_
      have := nI_ne0 l0 (show sd_ D t i j < 2 ^ 31 by omega)
      simp only [Bool.not_eq_true', beq_eq_false_iff_ne, ne_eq]
      exact this
    have b60 : 60 / sd_ D t i j ≤ 60 := Nat.div_le_self _ _
    rw [show m + (d + 1) + 1 = (m + d + 1) + 1 by omega, ff_X8_weight_20, if_neg (show ¬ (4 : Int32) ≤ nI j from nI_ge (b := 4) (by omega) (by omega)), wy_M K M ht hi (by omega), Option.bind_some, gd_t bn, show (60 : Int32) / nI (sd_ D t i j) = nI (60 / sd_ D t i j) from pk_div (a := 60) (by decide) l0 (by omega), nI_l (by omega), lN_mul, nI_1, ih _ _ _ (by omega)]; rfl
theorem wt_M {t i r : Nat} {h : hh_} {D : od_} {R : Nat → Nat} (K : oK_ D) (M : oM_ h D) (ht : t < d_t D) (hi : i < d_m D) (hr : r < 6) (Q : rR_ h r R) : ff_X8_weight (nI t) (nI i) (nI r) h = some (lN (wM_ D t R i)) := by
  obtain ⟨q, hq⟩ := fu_ 4 (by decide)
  unfold ff_X8_weight ff_X8_weight_15 wM_
  rw [df_M K M ht hi hr Q, Option.bind_some, hq, show all_ (ft_ D t i R) 4 0 = fi2_ D t R i from rfl]
  cases fi2_ D t R i
  · rw [if_pos (show bI_ false = 0 from rfl), if_neg (by decide)]
    exact w20 K M ht hi 4 0 q 0 rfl
  · rw [if_neg (show ¬ bI_ true = 0 by decide), if_pos rfl]
    exact w20 K M ht hi 4 0 q 1 rfl
theorem od_M {t r : Nat} {x2 : Int32} {h : hh_} {D : od_} {R : Nat → Nat} {KK : Int64 → Option (Int32 × hh_)} (K : oK_ D) (M : oM_ h D) (ht : t < d_t D) (hr : r < 6) (Q : rR_ h r R) : ∀ (d k m x : Nat), k + d = d_m D → ff_X8_odds_39 (nI t) x2 (nI r) h KK (m + d + 1) (lN x) (nI k) = KK (lN (sN_ (wM_ D t R) d k x)) := by
  have m5 := K.1
  intro d
  induction d with
  | zero =>
    intro k m x e
    rw [ff_X8_odds_39, M.1, if_pos (nI_le (by omega) (by omega))]; rfl
  | succ d ih =>
    intro k m x e
    rw [show m + (d + 1) + 1 = (m + d + 1) + 1 by omega, ff_X8_odds_39, M.1, if_neg (nI_ge (by omega) (by omega)), wt_M K M ht (by omega) hr Q, Option.bind_some, lN_add, nI_1, ih _ _ _ (by omega)]; rfl
