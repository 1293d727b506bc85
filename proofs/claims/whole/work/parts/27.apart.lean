/-! ===== alike, suits, look ===== -/
def pt_ (D : od_) (t i k j : Nat) : Bool := decide (mst_ D t i j 0 < lst_ D t k j 0) || decide (mst_ D t k j 0 < lst_ D t i j 0)
theorem pt_c {D : od_} {t i k j : Nat} : pt_ D t i k j = pt_ D t k i j := by unfold pt_; exact Bool.or_comm _ _
theorem ap_C {o t i k j : Nat} {h : hh_} {D : od_} (K : oK_ D) (C : oC_ o h D) (ht : t < d_t D) (hi : i < d_m D) (hk : k < d_m D) (hj : j < 4) : ff_X2_isApart o (nI t) (nI i) (nI k) (nI j) h = some (bI_ (pt_ D t i k j)) := by
  have l1 := lst_le K (t := t) (x := 0) hi hj
  have l2 := mst_le K (x := 0) ht hi hj
  have l3 := lst_le K (t := t) (x := 0) hk hj
  have l4 := mst_le K (x := 0) ht hk hj
  unfold ff_X2_isApart pt_
  rw [ls_C0 K C ht hi hj, Option.bind_some, ms_C0 K C ht hk hj, Option.bind_some, ls_C0 K C ht hk hj, Option.bind_some, ms_C0 K C ht hi hj, Option.bind_some]
  by_cases e1 : mst_ D t k j 0 < lst_ D t i j 0
  · rw [if_pos (nI_lt e1 (by omega)), decide_eq_true e1, Bool.or_true]; rfl
  · rw [if_neg (nI_nlt (by omega) (by omega)), decide_eq_false e1, Bool.or_false]
    by_cases e2 : mst_ D t i j 0 < lst_ D t k j 0
    · rw [if_neg (nI_ge e2 (by omega)), decide_eq_true e2]; rfl
    · rw [if_pos (nI_le (by omega) (by omega)), decide_eq_false e2]; rfl
theorem ap_M {t i k j : Nat} {h : hh_} {D : od_} (K : oK_ D) (M : oM_ h D) (ht : t < d_t D) (hi : i < d_m D) (hk : k < d_m D) (hj : j < 4) : ff_X8_areApart (nI t) (nI i) (nI k) (nI j) h = some (bI_ (pt_ D t i k j)) := by
  have l1 := lst_le K (t := t) (x := 0) hi hj
  have l2 := mst_le K (x := 0) ht hi hj
  have l3 := lst_le K (t := t) (x := 0) hk hj
  have l4 := mst_le K (x := 0) ht hk hj
  unfold ff_X8_areApart pt_
  rw [ms_M K M ht hi hj, Option.bind_some, ls_M K M ht hk hj, Option.bind_some, ms_M K M ht hk hj, Option.bind_some, ls_M K M ht hi hj, Option.bind_some]
  by_cases e2 : mst_ D t i j 0 < lst_ D t k j 0
  · rw [if_pos (nI_lt e2 (by omega)), decide_eq_true e2, Bool.true_or]; rfl
  · rw [if_neg (nI_nlt (by omega) (by omega)), decide_eq_false e2, Bool.false_or]
    by_cases e1 : mst_ D t k j 0 < lst_ D t i j 0
    · rw [if_neg (nI_ge e1 (by omega)), decide_eq_true e1]; rfl
    · rw [if_pos (nI_le (by omega) (by omega)), decide_eq_false e1]; rfl
/-- may seem -/
theorem sem_loop {o t i k : Nat} {h : hh_} {D : od_} (K : oK_ D) (C : oC_ o h D) (ht : t < d_t D) (hi : i < d_m D) (hk : k < d_m D) : ∀ (d j m : Nat), j + d = 4 → ff_X2_maySeem_3 o (nI t) (nI i) (nI k) h (m + d + 1) (nI j) = some (bI_ (all_ (fun j => !pt_ D t i k j) d j)) := by
  intro d
  induction d with
  | zero =>
    intro j m e
    have e : j = 4 := by omega
    subst e
    rw [ff_X2_maySeem_3, if_pos (by decide)]; rfl
  | succ d ih =>
    intro j m e
    have hj : j < 4 := by omega
    rw [show m + (d + 1) + 1 = (m + d + 1) + 1 by omega, ff_X2_maySeem_3, if_neg (show ¬ (4 : Int32) ≤ nI j from nI_ge (b := 4) hj (by omega)), ap_C K C ht hi hk hj, Option.bind_some, nI_1, ih _ _ (by omega), all_]
    cases pt_ D t i k j <;> rfl
theorem sem_C {o t i k : Nat} {h : hh_} {D : od_} (K : oK_ D) (C : oC_ o h D) (ht : t < d_t D) (hi : i < d_m D) (hk : k < d_m D) : ff_X2_maySeem o (nI t) (nI i) (nI k) h = some (bI_ (all_ (fun j => !pt_ D t i k j) 4 0)) := by
  unfold ff_X2_maySeem
  obtain ⟨q, hq⟩ := fu_ 4 (by decide)
  rw [hq]
  exact sem_loop K C ht hi hk 4 0 q rfl
theorem ali_C {t i : Nat} {h : hh_} {D : od_} (B : bo_ h.2.2.1 = true) (K : oK_ D) (C : oC_ h.2.2.1 h D) (ht : t < d_t D) (hi : i < d_m D) : ∀ (d k m : Nat) (x : Int32), k + d = d_m D → ff_X7_alike_31 (nI t) (nI i) h (m + d + 1) x (nI k) = some (msk_ (fun k => all_ (fun j => !pt_ D t i k j) 4 0) d k x) := by
  have k1 := K.1
  intro d
  induction d with
  | zero =>
    intro k m x e
    rw [ff_X7_alike_31, gd_t B, show Int32.toNatClampNeg 0 = 0 from rfl, C.1, if_pos (nI_le (by omega) (by omega))]; rfl
  | succ d ih =>
    intro k m x e
    rw [show m + (d + 1) + 1 = (m + d + 1) + 1 by omega, ff_X7_alike_31, gd_t B, show Int32.toNatClampNeg 0 = 0 from rfl, C.1, if_neg (nI_ge (by omega) (by omega)), sem_C K C ht hi (by omega), Option.bind_some, nI_1, ih _ _ _ (by omega), ih _ _ _ (by omega), msk_]
    cases all_ (fun j => !pt_ D t i k j) 4 0 <;> rfl
theorem alm_1 {t i k : Nat} {x3 : Int32} {h : hh_} {KK : Int32 → Option Int32} : ∀ (d j m : Nat), j + d = 4 → ff_X8_alike_38 (nI t) (nI i) x3 (nI k) h KK (m + d + 1) 1 (nI j) = KK 1 := by
  intro d
  induction d with
  | zero =>
    intro j m e
    have e : j = 4 := by omega
    subst e
    rw [ff_X8_alike_38, if_pos (by decide)]
  | succ d ih =>
    intro j m e
    rw [show m + (d + 1) + 1 = (m + d + 1) + 1 by omega, ff_X8_alike_38, if_neg (show ¬ (4 : Int32) ≤ nI j from nI_ge (b := 4) (by omega) (by omega)), if_neg n10, nI_1]
    exact ih _ _ (by omega)
theorem alm_0 {t i k : Nat} {x3 : Int32} {h : hh_} {D : od_} {KK : Int32 → Option Int32} (K : oK_ D) (M : oM_ h D) (ht : t < d_t D) (hi : i < d_m D) (hk : k < d_m D) : ∀ (d j m : Nat), j + d = 4 → ff_X8_alike_38 (nI t) (nI i) x3 (nI k) h KK (m + d + 1) 0 (nI j) = KK (bI_ (!all_ (fun j => !pt_ D t i k j) d j)) := by
  intro d
  induction d with
  | zero =>
    intro j m e
    have e : j = 4 := by omega
    subst e
    rw [ff_X8_alike_38, if_pos (by decide)]; rfl
  | succ d ih =>
    intro j m e
    have hj : j < 4 := by omega
    rw [show m + (d + 1) + 1 = (m + d + 1) + 1 by omega, ff_X8_alike_38, if_neg (show ¬ (4 : Int32) ≤ nI j from nI_ge (b := 4) hj (by omega)), if_pos rfl, ap_M K M ht hk hi hj, Option.bind_some, nI_1, ih _ _ (by omega), alm_1 d _ _ (by omega), pt_c, all_]
    cases pt_ D t i k j <;> rfl
theorem ali_M {t i : Nat} {h : hh_} {D : od_} (K : oK_ D) (M : oM_ h D) (ht : t < d_t D) (hi : i < d_m D) : ∀ (d k m : Nat) (x : Int32), k + d = d_m D → ff_X8_alike_23 (nI t) (nI i) h (m + d + 1) x (nI k) = some (msk_ (fun k => all_ (fun j => !pt_ D t i k j) 4 0) d k x) := by
  have k1 := K.1
  obtain ⟨q, hq⟩ := fu_ 4 (by decide)
  intro d
  induction d with
  | zero =>
    intro k m x e
    rw [ff_X8_alike_23, M.1, if_pos (nI_le (by omega) (by omega))]; rfl
  | succ d ih =>
    intro k m x e
    rw [show m + (d + 1) + 1 = (m + d + 1) + 1 by omega, ff_X8_alike_23, M.1, if_neg (nI_ge (by omega) (by omega)), hq]
    refine (alm_0 K M ht hi (by omega) 4 0 q rfl).trans ?_
    rw [nI_1, or_0, ih _ _ _ (by omega), ih _ _ _ (by omega), msk_]
    cases all_ (fun j => !pt_ D t i k j) 4 0 <;> rfl
/-- 27: alike -/
theorem st_27 : sp_27 inv_ := by
  intro h a1 a2 H
  obtain ⟨hn, D, F, ds, n, K, C, M, -⟩ := H.2.2.2
  have k1 := K.1
  have B := H.2.2.2.nwB
  unfold ff_X7_alike ff_X8_alike
  rcases hs_1 a1 K C M with ⟨t, ht, rfl, c1, m1⟩ | ⟨c1, m1⟩
  · rcases hs_0 a2 K C M with ⟨i, hi, rfl, c2, m2⟩ | ⟨c2, m2⟩
    · obtain ⟨q, hq⟩ := fu_ (d_m D) (by omega)
      refine ⟨msk_ (fun k => all_ (fun j => !pt_ D t i k j) 4 0) (d_m D) 0 0, ?_, ?_, H⟩
      · rw [gd_t B, c1, Option.bind_some, if_neg n10, c2, Option.bind_some, if_neg n10, hq]
        exact ali_C B K C ht hi _ 0 q 0 (by omega)
      · rw [m1, if_neg n10, m2, if_neg n10, hq]
        exact ali_M K M ht hi _ 0 q 0 (by omega)
    · exact ⟨-1, by rw [gd_t B, c1, Option.bind_some, if_neg n10, c2, Option.bind_some, if_pos rfl], by rw [m1, if_neg n10, m2, if_pos rfl], H⟩
  · exact ⟨-1, by rw [gd_t B, c1, Option.bind_some, if_pos rfl], by rw [m1, if_pos rfl], H⟩
/-! suits -/
def su_ (D : od_) (t i p q j : Nat) : Bool := decide (d_P D p j ≤ lst_ D t i j (if j = q then 1 else 0))
def ly_ (D : od_) (t i p j : Nat) : Bool := decide (d_P D p j ≤ mst_ D t i j 0)
theorem sur_C {o t i p q : Nat} {a4 : Int32} {h : hh_} {D : od_} (K : oK_ D) (C : oC_ o h D) (ht : t < d_t D) (hi : i < d_m D) (hp : p < d_p D) (e4 : ∀ j, j < 4 → (nI j = a4 ↔ j = q)) : ∀ (d j m : Nat), j + d = 4 → ff_X2_isSure_3 o (nI t) (nI i) (nI p) a4 h (m + d + 1) (nI j) = some (bI_ (all_ (su_ D t i p q) d j)) := by
  have k3 := K.2.2.1
  intro d
  induction d with
  | zero =>
    intro j m e
    have e : j = 4 := by omega
    subst e
    rw [ff_X2_isSure_3, if_pos (by decide)]; rfl
  | succ d ih =>
    intro j m e
    have hj : j < 4 := by omega
    have l3 := (K.2.2.2.2.2.2 p hp).1 j hj
    have l5 := (K.2.2.2.2.1 i hi).1 j hj
    rw [show m + (d + 1) + 1 = (m + d + 1) + 1 by omega, ff_X2_isSure_3, if_neg (show ¬ (4 : Int32) ≤ nI j from nI_ge (b := 4) hj (by omega)), all_]
    unfold ff_X2_isSure_26
    have s0 : su_ D t i p q j = decide (d_P D p j ≤ lst_ D t i j (if j = q then 1 else 0)) := rfl
    rw [s0]
    by_cases e2 : j = q
    · have l1 := lst_le K (t := t) (x := 1) hi hj
      rw [if_pos ((e4 j hj).mpr e2), if_pos e2, show (1 : Int32) = nI 1 from rfl, ls_C K C ht hi hj (by omega), Option.bind_some, gd_n (by omega) (by decide), gd_n (by omega) (by decide), nI_clamp (show p < 2 ^ 31 by omega), nI_clamp (show j < 2 ^ 31 by omega), C.2.2.2.2.2 p hp j (by omega), nI_add]
      dsimp only
      rw [ih _ _ (by omega)]
      by_cases e3 : d_P D p j ≤ lst_ D t i j 1
      · rw [if_pos (nI_le e3 (by omega)), decide_eq_true e3, Bool.true_and]
      · rw [if_neg (nI_ge (by omega) (by omega)), decide_eq_false e3, Bool.false_and]; rfl
    · have l1 := lst_le K (t := t) (x := 0) hi hj
      rw [if_neg (fun w => e2 ((e4 j hj).mp w)), if_neg e2, ls_C0 K C ht hi hj, Option.bind_some, gd_n (by omega) (by decide), gd_n (by omega) (by decide), nI_clamp (show p < 2 ^ 31 by omega), nI_clamp (show j < 2 ^ 31 by omega), C.2.2.2.2.2 p hp j (by omega), nI_1]
      dsimp only
      rw [ih _ _ (by omega)]
      by_cases e3 : d_P D p j ≤ lst_ D t i j 0
      · rw [if_pos (nI_le e3 (by omega)), decide_eq_true e3, Bool.true_and]
      · rw [if_neg (nI_ge (by omega) (by omega)), decide_eq_false e3, Bool.false_and]; rfl
theorem e4_9 : ∀ j, j < 4 → (nI j = (-9 : Int32) ↔ j = 9) := by decide +kernel
/-- sure, no PAD -/
theorem su_C {o t i p : Nat} {h : hh_} {D : od_} (K : oK_ D) (C : oC_ o h D) (ht : t < d_t D) (hi : i < d_m D) (hp : p < d_p D) : ff_X2_isSure o (nI t) (nI i) (nI p) (-9) h = some (bI_ (all_ (su_ D t i p 9) 4 0)) := by
  unfold ff_X2_isSure
  obtain ⟨q, hq⟩ := fu_ 4 (by decide)
  rw [hq]
  exact sur_C K C ht hi hp e4_9 4 0 q rfl
theorem suq_C {o t i p q : Nat} {h : hh_} {D : od_} (K : oK_ D) (C : oC_ o h D) (ht : t < d_t D) (hi : i < d_m D) (hp : p < d_p D) (hq : q < 4) : ff_X2_isSure o (nI t) (nI i) (nI p) (nI q) h = some (bI_ (all_ (su_ D t i p q) 4 0)) := by
  unfold ff_X2_isSure
  obtain ⟨k, hk⟩ := fu_ 4 (by decide)
  rw [hk]
  exact sur_C K C ht hi hp (fun j hj => nI_eq (by omega) (by omega)) 4 0 k rfl
theorem luc_C {o t i p : Nat} {h : hh_} {D : od_} (K : oK_ D) (C : oC_ o h D) (ht : t < d_t D) (hi : i < d_m D) (hp : p < d_p D) : ∀ (d j m : Nat), j + d = 4 → ff_X2_isLucky_3 o (nI t) (nI i) (nI p) h (m + d + 1) (nI j) = some (bI_ (all_ (ly_ D t i p) d j)) := by
  have k3 := K.2.2.1
  intro d
  induction d with
  | zero =>
    intro j m e
    have e : j = 4 := by omega
    subst e
    rw [ff_X2_isLucky_3, if_pos (by decide)]; rfl
  | succ d ih =>
    intro j m e
    have hj : j < 4 := by omega
    have l3 := (K.2.2.2.2.2.2 p hp).1 j hj
    have l1 := mst_le K (t := t) (x := 0) ht hi hj
    rw [show m + (d + 1) + 1 = (m + d + 1) + 1 by omega, ff_X2_isLucky_3, if_neg (show ¬ (4 : Int32) ≤ nI j from nI_ge (b := 4) hj (by omega)), all_, ms_C0 K C ht hi hj, Option.bind_some, gd_n (by omega) (by decide), gd_n (by omega) (by decide), nI_clamp (show p < 2 ^ 31 by omega), nI_clamp (show j < 2 ^ 31 by omega), C.2.2.2.2.2 p hp j (by omega), nI_1, ih _ _ (by omega)]
    unfold ly_
    by_cases e3 : d_P D p j ≤ mst_ D t i j 0
    · rw [if_pos (nI_le e3 (by omega)), decide_eq_true e3, Bool.true_and]
    · rw [if_neg (nI_ge (by omega) (by omega)), decide_eq_false e3, Bool.false_and]; rfl
theorem lu_C {o t i p : Nat} {h : hh_} {D : od_} (K : oK_ D) (C : oC_ o h D) (ht : t < d_t D) (hi : i < d_m D) (hp : p < d_p D) : ff_X2_isLucky o (nI t) (nI i) (nI p) h = some (bI_ (all_ (ly_ D t i p) 4 0)) := by
  unfold ff_X2_isLucky
  obtain ⟨q, hq⟩ := fu_ 4 (by decide)
  rw [hq]
  exact luc_C K C ht hi hp 4 0 q rfl
theorem so_M {t i p : Nat} {h : hh_} {D : od_} {KK : Int32 → Int32 → Option Int32} (K : oK_ D) (M : oM_ h D) (ht : t < d_t D) (hi : i < d_m D) (hp : p < d_p D) : ∀ (d j m : Nat) (a b : Bool), j + d = 4 → ff_X8_suitsOf_9 (nI t) (nI i) (nI p) h KK (m + d + 1) (bI_ a) (bI_ b) (nI j) = KK (bI_ (a && all_ (su_ D t i p 9) d j)) (bI_ (b && all_ (ly_ D t i p) d j)) := by
  intro d
  induction d with
  | zero =>
    intro j m a b e
    have e : j = 4 := by omega
    subst e
    rw [ff_X8_suitsOf_9, if_pos (by decide), all_, all_, Bool.and_true, Bool.and_true]
  | succ d ih =>
    intro j m a b e
    have hj : j < 4 := by omega
    have l3 := (K.2.2.2.2.2.2 p hp).1 j hj
    have l1 := mst_le K (t := t) (x := 0) ht hi hj
    have l2 := lst_le K (t := t) (x := 0) hi hj
    have st1 : ∀ b : Bool, ∀ (y : Bool), ff_X8_suitsOf_43 (nI t) (nI i) (nI p) (bI_ b) (nI j) (bI_ y) h (fun z4 z5 z6 => ff_X8_suitsOf_9 (nI t) (nI i) (nI p) h KK (m + d + 1) z4 z5 z6) = KK (bI_ (y && all_ (su_ D t i p 9) d (j + 1))) (bI_ (b && all_ (ly_ D t i p) (d + 1) j)) := by
      intro b y
      unfold ff_X8_suitsOf_43
      rw [all_]
      cases b with
      | false =>
        rw [if_pos (show bI_ false = 0 from rfl), nI_1]
        exact (ih (j + 1) m y false (by omega)).trans (by rw [Bool.false_and, Bool.false_and])
      | true =>
        rw [if_neg (by decide), ms_M K M ht hi hj, Option.bind_some, nd_M K M hp (by omega), Option.bind_some, nI_1]
        by_cases e3 : mst_ D t i j 0 < d_P D p j
        · rw [if_pos (nI_lt e3 (by omega)), show ly_ D t i p j = false from decide_eq_false (by omega)]
          exact (ih (j + 1) m y false (by omega)).trans (by simp only [Bool.false_and, Bool.and_false])
        · rw [if_neg (nI_nlt (by omega) (by omega)), show ly_ D t i p j = true from decide_eq_true (by omega)]
          exact (ih (j + 1) m y true (by omega)).trans (by rw [Bool.true_and, Bool.true_and])
    rw [show m + (d + 1) + 1 = (m + d + 1) + 1 by omega, ff_X8_suitsOf_9, if_neg (show ¬ (4 : Int32) ≤ nI j from nI_ge (b := 4) hj (by omega))]
    unfold ff_X8_suitsOf_42
    cases a with
    | false =>
      rw [if_pos (show bI_ false = 0 from rfl)]
      exact (st1 b false).trans (by rw [Bool.false_and, Bool.false_and])
    | true =>
      have e9 : ¬ j = 9 := by omega
      rw [if_neg (by decide), ls_M K M ht hi hj, Option.bind_some, nd_M K M hp (by omega), Option.bind_some, show all_ (su_ D t i p 9) (d + 1) j = (su_ D t i p 9 j && all_ (su_ D t i p 9) d (j + 1)) from rfl]
      by_cases e3 : lst_ D t i j 0 < d_P D p j
      · rw [if_pos (nI_lt e3 (by omega)), show su_ D t i p 9 j = false from by unfold su_; rw [if_neg e9]; exact decide_eq_false (by omega)]
        exact (st1 b false).trans (by simp only [Bool.false_and, Bool.and_false])
      · rw [if_neg (nI_nlt (by omega) (by omega)), show su_ D t i p 9 j = true from by unfold su_; rw [if_neg e9]; exact decide_eq_true (by omega)]
        exact (st1 b true).trans (by rw [Bool.true_and, Bool.true_and])
def st2_ (D : od_) (t i p : Nat) : Int32 := if all_ (su_ D t i p 9) 4 0 = true then 2 else if all_ (ly_ D t i p) 4 0 = true then 1 else 0
theorem sv_M {t i p : Nat} {h : hh_} {D : od_} (K : oK_ D) (M : oM_ h D) (ht : t < d_t D) (hi : i < d_m D) (hp : p < d_p D) : ff_X8_suitsOf (nI t) (nI i) (nI p) h = some (st2_ D t i p) := by
  unfold ff_X8_suitsOf
  obtain ⟨q, hq⟩ := fu_ 4 (by decide)
  rw [hq]
  refine (so_M K M ht hi hp 4 0 q true true rfl).trans ?_
  rw [Bool.true_and, Bool.true_and]
  unfold st2_
  cases all_ (su_ D t i p 9) 4 0 <;> cases all_ (ly_ D t i p) 4 0 <;> rfl
/-- 28: suits -/
theorem st_28 : sp_28 inv_ := by
  intro h a1 a2 a3 H
  obtain ⟨hn, D, F, ds, n, K, C, M, -⟩ := H.2.2.2
  have k1 := K.1
  have B := H.2.2.2.nwB
  unfold ff_X7_suits ff_X8_suits
  rcases hs_1 a1 K C M with ⟨t, ht, rfl, c1, m1⟩ | ⟨c1, m1⟩
  · rcases hs_0 a2 K C M with ⟨i, hi, rfl, c2, m2⟩ | ⟨c2, m2⟩
    · rcases hs_2 a3 K C M with ⟨p, hp, rfl, c3, m3⟩ | ⟨c3, m3⟩
      · refine ⟨st2_ D t i p, ?_, ?_, H⟩
        · rw [gd_t B, c1, Option.bind_some, if_neg n10, c2, Option.bind_some, if_neg n10, c3, Option.bind_some, if_neg n10, su_C K C ht hi hp, Option.bind_some, lu_C K C ht hi hp, Option.bind_some]
          unfold st2_
          cases all_ (su_ D t i p 9) 4 0 <;> cases all_ (ly_ D t i p) 4 0 <;> rfl
        · rw [m1, if_neg n10, m2, if_neg n10, m3, if_neg n10, sv_M K M ht hi hp]; rfl
      · exact ⟨-1, by rw [gd_t B, c1, Option.bind_some, if_neg n10, c2, Option.bind_some, if_neg n10, c3, Option.bind_some, if_pos rfl], by rw [m1, if_neg n10, m2, if_neg n10, m3, if_pos rfl], H⟩
    · exact ⟨-1, by rw [gd_t B, c1, Option.bind_some, if_neg n10, c2, Option.bind_some, if_pos rfl], by rw [m1, if_neg n10, m2, if_pos rfl], H⟩
  · exact ⟨-1, by rw [gd_t B, c1, Option.bind_some, if_pos rfl], by rw [m1, if_pos rfl], H⟩
/-! look -/
def cn_ (p : Nat → Bool) : Nat → Nat → Nat → Nat
  | 0, _, x => x
  | d + 1, k, x => cn_ p d (k + 1) (if p k = true then x + 1 else x)
def cC_ (p : Nat → Nat → Bool) : Nat → Nat → Nat → Nat
  | 0, _, x => x
  | d + 1, i, x => cC_ p d (i + 1) (cn_ (p i) i 0 x)
def cM_ (p : Nat → Nat → Bool) (m : Nat) : Nat → Nat → Nat → Nat
  | 0, _, x => x
  | d + 1, i, x => cM_ p m d (i + 1) (cn_ (p i) (m - (i + 1)) (i + 1) x)
theorem lo_C1 {o t j i : Nat} {h : hh_} {D : od_} {KK : Int32 → Option Int32} (K : oK_ D) (C : oC_ o h D) (ht : t < d_t D) (hj : j < 4) (hi : i < d_m D) : ∀ (d k m x : Nat), k + d = i → ff_X2_pairsApart_19 o (nI t) (nI j) (nI i) h KK (m + d + 1) (nI x) (nI k) = KK (nI (cn_ (fun k => pt_ D t i k j) d k x)) := by
  have k1 := K.1
  intro d
  induction d with
  | zero =>
    intro k m x e
    rw [ff_X2_pairsApart_19, if_pos (nI_le (by omega) (by omega))]; rfl
  | succ d ih =>
    intro k m x e
    rw [show m + (d + 1) + 1 = (m + d + 1) + 1 by omega, ff_X2_pairsApart_19, if_neg (nI_ge (by omega) (by omega)), ap_C K C ht hi (by omega) hj, Option.bind_some, nI_1, nI_1, show nI x + (0 : Int32) = nI x from nI_add x 0, ih _ _ _ (by omega), ih _ _ _ (by omega), cn_]
    cases pt_ D t i k j <;> rfl
theorem lo_C2 {o t j : Nat} {h : hh_} {D : od_} (K : oK_ D) (C : oC_ o h D) (ht : t < d_t D) (hj : j < 4) : ∀ (d i m x : Nat), i + d = d_m D → ff_X2_pairsApart_5 o (nI t) (nI j) h (m + d + 1) (nI x) (nI i) = some (nI (cC_ (fun i k => pt_ D t i k j) d i x)) := by
  have k1 := K.1
  intro d
  induction d with
  | zero =>
    intro i m x e
    rw [ff_X2_pairsApart_5, show Int32.toNatClampNeg 0 = 0 from rfl, C.1, if_pos (nI_le (by omega) (by omega))]; rfl
  | succ d ih =>
    intro i m x e
    obtain ⟨q, hq⟩ := fu_ i (by omega)
    rw [show m + (d + 1) + 1 = (m + d + 1) + 1 by omega, ff_X2_pairsApart_5, show Int32.toNatClampNeg 0 = 0 from rfl, C.1, if_neg (nI_ge (by omega) (by omega)), hq]
    refine (lo_C1 K C ht hj (by omega) i 0 q x (by omega)).trans ?_
    rw [nI_1, ih _ _ _ (by omega)]; rfl
theorem lo_C3 {o t j : Nat} {h : hh_} {D : od_} (K : oK_ D) (C : oC_ o h D) (ht : t < d_t D) (hj : j < 4) : ff_X2_pairsApart o (nI t) (nI j) h = some (nI (cC_ (fun i k => pt_ D t i k j) (d_m D) 0 0)) := by
  have k1 := K.1
  unfold ff_X2_pairsApart
  obtain ⟨q, hq⟩ := fu_ (d_m D) (by omega)
  rw [hq]
  exact lo_C2 K C ht hj _ 0 q 0 (by omega)
theorem lo_M1 {t j i : Nat} {x2 x3 : Int32} {h : hh_} {D : od_} {KK : Int32 → Option (Int32 × hh_)} (K : oK_ D) (M : oM_ h D) (ht : t < d_t D) (hj : j < 4) (hi : i < d_m D) : ∀ (d k m x : Nat), k + d = d_m D → ff_X8_look_44 (nI t) x2 x3 (nI j) (nI i) h KK (m + d + 1) (nI x) (nI k) = KK (nI (cn_ (fun k => pt_ D t i k j) d k x)) := by
  have k1 := K.1
  intro d
  induction d with
  | zero =>
    intro k m x e
    rw [ff_X8_look_44, M.1, if_pos (nI_le (by omega) (by omega))]; rfl
  | succ d ih =>
    intro k m x e
    rw [show m + (d + 1) + 1 = (m + d + 1) + 1 by omega, ff_X8_look_44, M.1, if_neg (nI_ge (by omega) (by omega)), ap_M K M ht hi (by omega) hj, Option.bind_some, nI_1, nI_1, show nI x + (0 : Int32) = nI x from nI_add x 0, ih _ _ _ (by omega), ih _ _ _ (by omega), cn_]
    cases pt_ D t i k j <;> rfl
theorem lo_M2 {t j : Nat} {x2 x3 : Int32} {h : hh_} {D : od_} {KK : Int32 → Option (Int32 × hh_)} (K : oK_ D) (M : oM_ h D) (ht : t < d_t D) (hj : j < 4) : ∀ (d i m x : Nat), i + d = d_m D → ff_X8_look_29 (nI t) x2 x3 (nI j) h KK (m + d + 1) (nI x) (nI i) = KK (nI (cM_ (fun i k => pt_ D t i k j) (d_m D) d i x)) := by
  have k1 := K.1
  intro d
  induction d with
  | zero =>
    intro i m x e
    rw [ff_X8_look_29, M.1, if_pos (nI_le (by omega) (by omega))]; rfl
  | succ d ih =>
    intro i m x e
    obtain ⟨q, hq⟩ := fu_ (d_m D - (i + 1)) (by omega)
    rw [show m + (d + 1) + 1 = (m + d + 1) + 1 by omega, ff_X8_look_29, M.1, if_neg (nI_ge (by omega) (by omega)), hq, nI_1]
    refine (lo_M1 K M ht hj (by omega) (d_m D - (i + 1)) (i + 1) q x (by omega)).trans ?_
    rw [ih _ _ _ (by omega)]; rfl
theorem cn_b {p : Nat → Bool} : ∀ (d k x : Nat), x ≤ cn_ p d k x ∧ cn_ p d k x ≤ x + d := by
  intro d
  induction d with
  | zero => intro k x; exact ⟨Nat.le_refl _, Nat.le_refl _⟩
  | succ d ih =>
    intro k x
    rw [cn_]
    cases p k
    · have := ih (k + 1) x
      rw [if_neg (by decide)]; omega
    · have := ih (k + 1) (x + 1)
      rw [if_pos rfl]; omega
theorem cn_x {p : Nat → Bool} : ∀ (d k x : Nat), cn_ p d k x = x + cn_ p d k 0 := by
  intro d
  induction d with
  | zero => intro k x; rfl
  | succ d ih =>
    intro k x
    rw [cn_, cn_, ih, ih _ (if p k = true then 0 + 1 else 0)]
    cases p k <;> simp only [if_true, Bool.false_eq_true, if_false] <;> omega
theorem cn_s {p : Nat → Bool} (d k x : Nat) : cn_ p (d + 1) k x = cn_ p d (k + 1) 0 + (x + (if p k = true then 1 else 0)) := by
  rw [cn_, cn_x]
  cases p k <;> simp only [if_true, Bool.false_eq_true, if_false] <;> omega
theorem cp_eq {p : Nat → Nat → Bool} (hp : ∀ i k, p i k = p k i) : ∀ m, m ≤ 5 → cC_ p m 0 0 = cM_ p m m 0 0 := by
  intro m hm
  have h10 := hp 1 0
  have h20 := hp 2 0
  have h30 := hp 3 0
  have h40 := hp 4 0
  have h21 := hp 2 1
  have h31 := hp 3 1
  have h41 := hp 4 1
  have h32 := hp 3 2
  have h42 := hp 4 2
  have h43 := hp 4 3
  rcases (show m = 0 ∨ m = 1 ∨ m = 2 ∨ m = 3 ∨ m = 4 ∨ m = 5 by omega) with rfl | rfl | rfl | rfl | rfl | rfl
  · rfl
  · rfl
  all_goals
    simp only [cC_, cM_, cn_s, show cn_ = cn_ from rfl, Nat.reduceSub, Nat.reduceAdd]
    simp only [cn_]
    rw [h10]
    try rw [h20]
    try rw [h30]
    try rw [h40]
    try rw [h21]
    try rw [h31]
    try rw [h41]
    try rw [h32]
    try rw [h42]
    try rw [h43]
    try omega
theorem cC_b {p : Nat → Nat → Bool} : ∀ (d i x : Nat), i + d ≤ 5 → cC_ p d i x ≤ x + d * 5 := by
  intro d
  induction d with
  | zero => intro i x _; exact Nat.le_refl _
  | succ d ih =>
    intro i x e
    have h1 := ih (i + 1) (cn_ (p i) i 0 x) (by omega)
    have h2 := (cn_b (p := p i) i 0 x).2
    rw [cC_]
    omega
def lov_ (D : od_) (t j : Nat) : Nat := cC_ (fun i k => pt_ D t i k j) (d_m D) 0 0
theorem lov_b {D : od_} (K : oK_ D) (t j : Nat) : lov_ D t j ≤ 25 := by
  have k1 := K.1
  have := cC_b (p := fun i k => pt_ D t i k j) (d_m D) 0 0 (by omega)
  unfold lov_
  omega
def lof_ (f : Nat → Nat) : Nat → Nat → Nat → Nat → Nat × Nat
  | 0, _, x, y => (x, y)
  | d + 1, j, x, y => if f j ≤ y then lof_ f d (j + 1) x y else lof_ f d (j + 1) j (f j)
theorem lok_C {t : Nat} {h : hh_} {D : od_} (B : bo_ h.2.2.1 = true) (K : oK_ D) (C : oC_ h.2.2.1 h D) (ht : t < d_t D) : ∀ (d j m x y : Nat), j + d = 4 → y ≤ 25 → ff_X7_look_21 (nI t) h (m + d + 1) (nI x) (nI y) (nI j) = some (anC_ 1 (nI (lof_ (lov_ D t) d j x y).1) (nI (lof_ (lov_ D t) d j x y).2) h) := by
  intro d
  induction d with
  | zero =>
    intro j m x y e hy
    have e : j = 4 := by omega
    subst e
    rw [ff_X7_look_21, if_pos (by decide)]; rfl
  | succ d ih =>
    intro j m x y e hy
    have hj : j < 4 := by omega
    have b := lov_b K t j
    rw [show m + (d + 1) + 1 = (m + d + 1) + 1 by omega, ff_X7_look_21, if_neg (show ¬ (4 : Int32) ≤ nI j from nI_ge (b := 4) hj (by omega)), gd_t B, lo_C3 K C ht hj, Option.bind_some, show cC_ (fun i k => pt_ D t i k j) (d_m D) 0 0 = lov_ D t j from rfl, nI_1, ih _ _ _ _ (by omega) hy, ih _ _ _ _ (by omega) b, lof_]
    by_cases e2 : lov_ D t j ≤ y
    · rw [if_pos (nI_le e2 (by omega)), if_pos e2]
    · rw [if_neg (nI_ge (by omega) (by omega)), if_neg e2]
theorem lok_M {t : Nat} {h : hh_} {D : od_} (K : oK_ D) (M : oM_ h D) (ht : t < d_t D) : ∀ (d j m x y : Nat), j + d = 4 → y ≤ 25 → ff_X8_look_17 (nI t) h (m + d + 1) (nI x) (nI y) (nI j) = some (anM_ 1 (nI (lof_ (lov_ D t) d j x y).1) (nI (lof_ (lov_ D t) d j x y).2) h) := by
  have k1 := K.1
  obtain ⟨q, hq⟩ := fu_ (d_m D) (by omega)
  intro d
  induction d with
  | zero =>
    intro j m x y e hy
    have e : j = 4 := by omega
    subst e
    rw [ff_X8_look_17, if_pos (by decide)]; rfl
  | succ d ih =>
    intro j m x y e hy
    have hj : j < 4 := by omega
    have b := lov_b K t j
    rw [show m + (d + 1) + 1 = (m + d + 1) + 1 by omega, ff_X8_look_17, if_neg (show ¬ (4 : Int32) ≤ nI j from nI_ge (b := 4) hj (by omega)), hq]
    refine (lo_M2 K M ht hj (d_m D) 0 q 0 (by omega)).trans ?_
    rw [← cp_eq (fun i k => pt_c) _ k1, show cC_ (fun i k => pt_ D t i k j) (d_m D) 0 0 = lov_ D t j from rfl, nI_1, gr_i (by omega) (by omega), lof_]
    by_cases e2 : lov_ D t j ≤ y
    · rw [if_pos (nI_le e2 (by omega)), if_pos e2, Nat.max_eq_right e2, ih _ _ _ _ (by omega) hy]
    · rw [if_neg (nI_ge (by omega) (by omega)), if_neg e2, Nat.max_eq_left (by omega), ih _ _ _ _ (by omega) b]
/-- 26: look -/
theorem st_26 : sp_26 inv_ := by
  intro h a1 H
  obtain ⟨hn, D, F, ds, n, K, C, M, -⟩ := H.2.2.2
  have B := H.2.2.2.nwB
  rcases hs_1 a1 K C M with ⟨t, ht, rfl, c1, m1⟩ | ⟨c1, m1⟩
  · obtain ⟨k, hk⟩ := fu_ 4 (by decide)
    have b := lov_b K t 0
    refine rd_ H 1 (nI (lof_ (lov_ D t) 3 1 0 (lov_ D t 0)).1) (nI (lof_ (lov_ D t) 3 1 0 (lov_ D t 0)).2) (by decide) ?_ (fun h' S => ?_)
    · unfold ff_X7_look
      rw [gd_t B, c1, Option.bind_some, if_neg n10, hk, show k + 4 + 1 = (k + 3 + 1) + 1 by omega, ff_X7_look_21, if_neg (by decide), gd_t B, show (0 : Int32) = nI 0 from rfl, lo_C3 K C ht (by decide), Option.bind_some, show cC_ (fun i k => pt_ D t i k 0) (d_m D) 0 0 = lov_ D t 0 from rfl, nI_1, lok_C B K C ht 3 _ k _ _ (by decide) b, if_neg]
      rw [Int32.le_iff_toInt_le, nI_toInt (by omega), show (-1 : Int32).toInt = -1 from rfl]
      omega
    · unfold ff_X8_look
      rw [S.iT (D := D) m1, if_neg n10, hk, show (0 : Int32) = nI 0 from rfl, lok_M K (S.oM M) ht 4 0 k 0 0 (by omega) (by omega), lof_]
      by_cases e : lov_ D t 0 ≤ 0
      · rw [if_pos e, show lov_ D t 0 = 0 by omega]
      · rw [if_neg e]
  · refine rd_ H 0 (-1) 0 (by decide) ?_ (fun h' S => ?_)
    · unfold ff_X7_look
      rw [gd_t B, c1, Option.bind_some, if_pos rfl]; rfl
    · unfold ff_X8_look
      rw [S.iT (D := D) m1, if_pos rfl]; rfl
