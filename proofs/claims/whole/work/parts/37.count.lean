/-! ===== count ===== -/
theorem fld_id {f : Nat → Int32 → Int32} : ∀ (d j : Nat) (x : Int32), (∀ i y, j ≤ i → f i y = y) → fld_ f d j x = x := by
  intro d
  induction d with
  | zero => intro j x _; rfl
  | succ d ih =>
    intro j x e
    rw [fld_s, e j x (Nat.le_refl _), ih _ _ (fun i y hi => e i y (by omega))]
theorem fld_a {f : Nat → Int32 → Int32} : ∀ (d e j : Nat) (x : Int32), fld_ f (d + e) j x = fld_ f e (j + d) (fld_ f d j x) := by
  intro d
  induction d with
  | zero => intro e j x; rw [Nat.zero_add]; rfl
  | succ d ih =>
    intro e j x
    rw [show d + 1 + e = (d + e) + 1 by omega, fld_s, ih, fld_s, show j + 1 + d = j + (d + 1) by omega]
theorem fld_c {f g : Nat → Int32 → Int32} : ∀ (d j : Nat) (x : Int32), (∀ i y, j ≤ i → i < j + d → f i y = g i y) → fld_ f d j x = fld_ g d j x := by
  intro d
  induction d with
  | zero => intro j x _; rfl
  | succ d ih =>
    intro j x e
    rw [fld_s, fld_s, e j x (Nat.le_refl _) (by omega), ih _ _ (fun i y h1 h2 => e i y (by omega) (by omega))]
/-- to the end, or only as far as something happens -/
theorem fld_to {f g : Nat → Int32 → Int32} {m N : Nat} (hm : m ≤ N) (x : Int32) (e1 : ∀ i y, i < m → f i y = g i y) (e2 : ∀ i y, m ≤ i → f i y = y) : fld_ f N 0 x = fld_ g m 0 x := by
  rw [show N = m + (N - m) by omega, fld_a, fld_id _ _ _ (fun i y hi => e2 i y (by omega))]
  exact fld_c _ _ _ (fun i y _ hi => e1 i y (by omega))
def tp_ (h : hh_) (D : od_) (c x : Nat) : Bool := if c = 5 then decide (x < d_t D) && isa_ (d_T D x 0) 3 else if c = 6 then decide (0 ≤ h.1 100 x) else if c = 7 then decide (x < 4) && decide (0 ≤ h.1 103 x) else if c = 8 then decide (x < 3) && !decide (h.1 110 (1030 * x) = -9) else false
def tq_ (h : hh_) (D : od_) (c x : Nat) (y : Int32) : Int32 := if tp_ h D c x = true then y + 1 else y
def tb_ (D : od_) (x : Nat) (y : Int32) : Int32 := if x < d_m D then y + nI (bt_ D x) else y
theorem to34 {c x : Nat} {x2 y0 y1 : Int32} {h : hh_} {D : od_} {KK : Int32 → Int32 → Int32 → Option Int32} (K : oK_ D) (M : oM_ h D) (hc : c < 9) (hx : x < 6) : ff_X8_tellsOf_34 (nI c) x2 (nI x) y0 y1 h KK = KK (tq_ h D c x x2) (y0 + y1) (nI (x + 1)) := by
  have t4 := K.2.1
  have e1 : (1030 : Int32) * nI x = nI (1030 * x) := by rw [show (1030 : Int32) = nI 1030 from rfl, pk_mul]
  unfold ff_X8_tellsOf_34 ff_X8_tellsOf_61 ff_X8_tellsOf_77 ff_X8_tellsOf_99 tq_ tp_
  rw [nI_1, e1, M.2.1]
  rcases (show c = 0 ∨ c = 1 ∨ c = 2 ∨ c = 3 ∨ c = 4 ∨ c = 5 ∨ c = 6 ∨ c = 7 ∨ c = 8 by omega) with rfl | rfl | rfl | rfl | rfl | rfl | rfl | rfl | rfl
  · simp (config := {decide := true}) only [a0, if_true, if_false]
  · simp (config := {decide := true}) only [a0, if_true, if_false]
  · simp (config := {decide := true}) only [a0, if_true, if_false]
  · simp (config := {decide := true}) only [a0, if_true, if_false]
  · simp (config := {decide := true}) only [a0, if_true, if_false]
  · by_cases e : x < d_t D
    · have w : ff_X8_isA (nI x) 3 h = some (bI_ (isa_ (d_T D x 0) 3)) := io_M K M e (by decide) (by decide)
      simp (config := {decide := true}) only [a0, if_true, if_false, w, Option.bind_some, nI_ge e (show d_t D < 2 ^ 31 by omega), e, decide_true, Bool.true_and]
      cases isa_ (d_T D x 0) 3 <;> rfl
    · simp (config := {decide := true}) only [a0, if_true, if_false, nI_le (show d_t D ≤ x by omega) (show x < 2 ^ 31 by omega), e, decide_false, Bool.false_and]
  · simp (config := {decide := true}) only [a0, if_true, if_false, gd_n hx (show 6 < 2 ^ 31 by decide), nI_clamp (show x < 2 ^ 31 by omega)]
    by_cases e : 0 ≤ h.1 100 x
    · rw [if_pos e, decide_eq_true e]; rfl
    · rw [if_neg e, decide_eq_false e]; rfl
  · by_cases e4 : x < 4
    · simp (config := {decide := true}) only [a0, if_true, if_false, gd_n e4 (show 4 < 2 ^ 31 by decide), nI_clamp (show x < 2 ^ 31 by omega), show ¬ (4 : Int32) ≤ nI x from nI_ge (b := 4) e4 (by omega), e4, decide_true, Bool.true_and]
      by_cases e : 0 ≤ h.1 103 x
      · rw [if_pos e, decide_eq_true e]; rfl
      · rw [if_neg e, decide_eq_false e]; rfl
    · simp (config := {decide := true}) only [a0, if_true, if_false, show (4 : Int32) ≤ nI x from nI_le (a := 4) (by omega) (by omega), e4, decide_false, Bool.false_and]
  · by_cases e4 : x < 3
    · simp (config := {decide := true}) only [a0, if_true, if_false, gd_n (show 1030 * x < 3090 by omega) (show 3090 < 2 ^ 31 by decide), nI_clamp (show 1030 * x < 2 ^ 31 by omega), show ¬ (3 : Int32) ≤ nI x from nI_ge (b := 3) e4 (by omega), e4, decide_true, Bool.true_and]
      by_cases e : h.1 110 (1030 * x) = -9
      · rw [if_pos e, decide_eq_true e]; rfl
      · rw [if_neg e, decide_eq_false e]; rfl
    · simp (config := {decide := true}) only [a0, if_true, if_false, show (3 : Int32) ≤ nI x from nI_le (a := 3) (by omega) (by omega), e4, decide_false, Bool.false_and]
theorem to7 {c : Nat} {h : hh_} {D : od_} {KK : Int32 → Int32 → Option Int32} (K : oK_ D) (M : oM_ h D) (hc : c < 9) : ∀ (d x m : Nat) (y z : Int32), x + d = 6 → ff_X8_tellsOf_7 (nI c) h KK (m + d + 1) y z (nI x) = KK (fld_ (tq_ h D c) d x y) (fld_ (tb_ D) d x z) := by
  have m5 := K.1
  intro d
  induction d with
  | zero =>
    intro x m y z e
    have e : x = 6 := by omega
    subst e
    rw [ff_X8_tellsOf_7, if_pos (by decide)]; rfl
  | succ d ih =>
    intro x m y z e
    rw [show m + (d + 1) + 1 = (m + d + 1) + 1 by omega, ff_X8_tellsOf_7, if_neg (show ¬ (6 : Int32) ≤ nI x from nI_ge (b := 6) (by omega) (by omega)), M.1, fld_s, fld_s]
    by_cases e2 : x < d_m D
    · rw [if_neg (nI_ge e2 (by omega)), bs_M K M e2, Option.bind_some, to34 K M hc (by omega), show tb_ D x z = z + nI (bt_ D x) from if_pos e2]
      exact ih _ _ _ _ (by omega)
    · rw [if_pos (nI_le (by omega) (by omega)), to34 K M hc (by omega), a0, show tb_ D x z = z from if_neg e2]
      exact ih _ _ _ _ (by omega)
def ct_ (h : hh_) (D : od_) (n c : Nat) : Int32 := if c = 0 then nI (d_m D) else if c = 1 then nI (d_t D) else if c = 2 then nI (d_p D) else if c = 3 then nI n else if c = 4 then fld_ (tb_ D) 6 0 0 else fld_ (tq_ h D c) 6 0 0
theorem ct_M {c n : Nat} {h : hh_} {D : od_} (K : oK_ D) (M : oM_ h D) (k5 : h.1 98 21 = nI n) (hc : c < 9) : ff_X8_tellsOf (nI c) h = some (ct_ h D n c) := by
  unfold ff_X8_tellsOf ct_
  obtain ⟨q, hq⟩ := fu_ 6 (by decide)
  rw [hq]
  refine (to7 K M hc 6 0 q 0 0 rfl).trans ?_
  rw [M.1, M.2.1, M.2.2.1, k5]
  rcases (show c = 0 ∨ c = 1 ∨ c = 2 ∨ c = 3 ∨ c = 4 ∨ c = 5 ∨ c = 6 ∨ c = 7 ∨ c = 8 by omega) with rfl | rfl | rfl | rfl | rfl | rfl | rfl | rfl | rfl
  · rw [if_pos (by decide), if_pos rfl]
  · rw [if_neg (by decide), if_pos (by decide), if_neg (by decide), if_pos rfl]
  · rw [if_neg (by decide), if_neg (by decide), if_pos (by decide), if_neg (by decide), if_neg (by decide), if_pos rfl]
  · rw [if_neg (by decide), if_neg (by decide), if_neg (by decide), if_pos (by decide), if_neg (by decide), if_neg (by decide), if_neg (by decide), if_pos rfl]
  · rw [if_neg (by decide), if_neg (by decide), if_neg (by decide), if_neg (by decide), if_pos (by decide), if_neg (by decide), if_neg (by decide), if_neg (by decide), if_neg (by decide), if_pos rfl]
  all_goals
    rw [if_neg (by decide), if_neg (by decide), if_neg (by decide), if_neg (by decide), if_neg (by decide), if_neg (by decide), if_neg (by decide), if_neg (by decide), if_neg (by decide), if_neg (by decide)]
/-! the class -/
theorem at_loop {o : Nat} {h : hh_} {D : od_} (K : oK_ D) (C : oC_ o h D) : ∀ (d x m : Nat) (y : Int32), x + d = d_m D → ff_X2_allTogether_4 o h (m + d + 1) y (nI x) = some (fld_ (fun x y => y + nI (bt_ D x)) d x y) := by
  have m5 := K.1
  intro d
  induction d with
  | zero =>
    intro x m y e
    rw [ff_X2_allTogether_4, show Int32.toNatClampNeg 0 = 0 from rfl, C.1, if_pos (nI_le (by omega) (by omega))]; rfl
  | succ d ih =>
    intro x m y e
    rw [show m + (d + 1) + 1 = (m + d + 1) + 1 by omega, ff_X2_allTogether_4, show Int32.toNatClampNeg 0 = 0 from rfl, C.1, if_neg (nI_ge (by omega) (by omega)), tg_C K C (by omega), Option.bind_some, nI_1, ih _ _ _ (by omega), fld_s]
theorem wo_loop {o : Nat} {h : hh_} {D : od_} (K : oK_ D) (C : oC_ o h D) : ∀ (d x m : Nat) (y : Int32), x + d = d_t D → ff_X2_wishingOnes_4 o h (m + d + 1) y (nI x) = some (fld_ (fun x y => if isa_ (d_T D x 0) 3 = true then y + 1 else y) d x y) := by
  have t4 := K.2.1
  intro d
  induction d with
  | zero =>
    intro x m y e
    rw [ff_X2_wishingOnes_4, show Int32.toNatClampNeg 1 = 1 from rfl, C.2.1, if_pos (nI_le (by omega) (by omega))]; rfl
  | succ d ih =>
    intro x m y e
    have w : ff_X2_isOf o (nI x) 3 h = some (bI_ (isa_ (d_T D x 0) 3)) := io_C K C (by omega) (by decide) (by decide)
    rw [show m + (d + 1) + 1 = (m + d + 1) + 1 by omega, ff_X2_wishingOnes_4, show Int32.toNatClampNeg 1 = 1 from rfl, C.2.1, if_neg (nI_ge (by omega) (by omega)), w, Option.bind_some, nI_1, a0, ih _ _ _ (by omega), ih _ _ _ (by omega), fld_s]
    cases isa_ (d_T D x 0) 3 <;> rfl
theorem rwp_ {h : hh_} {r : Nat} (hr : r < 6) (Q : rw_ h 10 4 100 101 40 r) : ff_X5r_lacks (nI r) h = some (bI_ (!decide (0 ≤ h.1 100 r))) := by
  rcases lk_r hr Q with ⟨l0, l1⟩ | ⟨n, hn, l0, l1, l2, l3⟩
  · rw [l0, l1]; rfl
  · rw [l0, l2, decide_eq_true (nI_pos' (by omega))]; rfl
theorem txp_ {h : hh_} {r : Nat} (hr : r < 4) (Q : rw_ h 17 13 103 104 80 r) : ff_X5t_lacks (nI r) h = some (bI_ (!decide (0 ≤ h.1 103 r))) := by
  rcases lk_t hr Q with ⟨l0, l1⟩ | ⟨n, hn, l0, l1, l2, l3⟩
  · rw [l0, l1]; rfl
  · rw [l0, l2, decide_eq_true (nI_pos' (by omega))]; rfl
theorem pr_loop {h : hh_} (R : iR_ h) : ∀ (d x m : Nat) (y : Int32), x + d = 6 → ff_X5r_present_4 h (m + d + 1) y (nI x) = some (fld_ (fun x y => if decide (0 ≤ h.1 100 x) = true then y + 1 else y) d x y) := by
  intro d
  induction d with
  | zero =>
    intro x m y e
    have e : x = 6 := by omega
    subst e
    rw [ff_X5r_present_4, if_pos (by decide)]; rfl
  | succ d ih =>
    intro x m y e
    rw [show m + (d + 1) + 1 = (m + d + 1) + 1 by omega, ff_X5r_present_4, if_neg (show ¬ (6 : Int32) ≤ nI x from nI_ge (b := 6) (by omega) (by omega)), rwp_ (by omega) (R x (by omega)), Option.bind_some, nI_1, a0, ih _ _ _ (by omega), ih _ _ _ (by omega), fld_s]
    cases decide (0 ≤ h.1 100 x) <;> rfl
theorem pt_loop {h : hh_} (X : iX_ h) : ∀ (d x m : Nat) (y : Int32), x + d = 4 → ff_X5t_present_4 h (m + d + 1) y (nI x) = some (fld_ (fun x y => if decide (0 ≤ h.1 103 x) = true then y + 1 else y) d x y) := by
  intro d
  induction d with
  | zero =>
    intro x m y e
    have e : x = 4 := by omega
    subst e
    rw [ff_X5t_present_4, if_pos (by decide)]; rfl
  | succ d ih =>
    intro x m y e
    rw [show m + (d + 1) + 1 = (m + d + 1) + 1 by omega, ff_X5t_present_4, if_neg (show ¬ (4 : Int32) ≤ nI x from nI_ge (b := 4) (by omega) (by omega)), txp_ (by omega) (X x (by omega)), Option.bind_some, nI_1, a0, ih _ _ _ (by omega), ih _ _ _ (by omega), fld_s]
    cases decide (0 ≤ h.1 103 x) <;> rfl
theorem kpp_ {h : hh_} {m t k : Nat} {F : Nat → Nat → Nat} (Q : kp_ h m t F k) : (h.1 (89 + 3 * k) 2 = -1 ∧ h.1 110 (1030 * k) = -9) ∨ ∃ n, n ≤ 40 ∧ h.1 (89 + 3 * k) 2 = nI n ∧ h.1 110 (1030 * k) = nI n ∧ ¬ nI n = -9 ∧ ¬ nI n = -1 := by
  rcases Q with ⟨a, b⟩ | ⟨n, ds, a, b, c, -⟩
  · exact Or.inl ⟨a, b⟩
  · have n40 := c.1
    refine Or.inr ⟨n, n40, a, b, fun w => ?_, nI_m1 (by omega)⟩
    have w2 := congrArg Int32.toInt w
    rw [nI_toInt (by omega), show (-9 : Int32).toInt = -9 from rfl] at w2
    omega
theorem po_loop {h : hh_} {m' t : Nat} {F : Nat → Nat → Nat} (k11 : ∀ k, k < 3 → kp_ h m' t F k) : ∀ (d x m : Nat) (y : Int32), x + d = 3 → ff_X7_presentOffices_4 h (m + d + 1) y (nI x) = some (fld_ (fun x y => if (!decide (h.1 110 (1030 * x) = -9)) = true then y + 1 else y) d x y) := by
  intro d
  induction d with
  | zero =>
    intro x m y e
    have e : x = 3 := by omega
    subst e
    rw [ff_X7_presentOffices_4, if_pos (by decide)]; rfl
  | succ d ih =>
    intro x m y e
    rw [show m + (d + 1) + 1 = (m + d + 1) + 1 by omega, ff_X7_presentOffices_4, if_neg (show ¬ (3 : Int32) ≤ nI x from nI_ge (b := 3) (by omega) (by omega)), gd_n (by omega) (by decide), nI_clamp (by omega), nI_1, a0, ih _ _ _ (by omega), ih _ _ _ (by omega), fld_s]
    rcases kpp_ (k11 x (by omega)) with ⟨u1, u2⟩ | ⟨n, hn, u1, u2, u3, u4⟩
    · rw [u1, u2]; rfl
    · rw [u1, u2, if_neg u4, decide_eq_false u3]; rfl
theorem ct_C {c n : Nat} {h : hh_} {D : od_} {F : Nat → Nat → Nat} (H : inv_ h) (K : oK_ D) (C : oC_ h.2.2.1 h D) (k4 : h.1 h.2.2.1 6 = nI n) (k11 : ∀ k, k < 3 → kp_ h (d_m D) (d_t D) F k) (hc : c < 9) : ff_X7_count (nI c) h = some (ct_ h D n c) := by
  have B := H.2.2.2.nwB
  have m5 := K.1
  have t4 := K.2.1
  obtain ⟨q1, hq1⟩ := fu_ (d_m D) (by omega)
  obtain ⟨q2, hq2⟩ := fu_ (d_t D) (by omega)
  obtain ⟨q3, hq3⟩ := fu_ 6 (by decide)
  obtain ⟨q4, hq4⟩ := fu_ 4 (by decide)
  obtain ⟨q5, hq5⟩ := fu_ 3 (by decide)
  have f4 : ff_X2_allTogether h.2.2.1 h = some (fld_ (tb_ D) 6 0 0) := by
    unfold ff_X2_allTogether
    rw [hq1, fld_to (f := tb_ D) (g := fun x y => y + nI (bt_ D x)) (m := d_m D) (by omega) 0 (fun i y hi => if_pos hi) (fun i y hi => if_neg (by omega))]
    exact at_loop K C _ 0 q1 0 (by omega)
  have f5 : ff_X2_wishingOnes h.2.2.1 h = some (fld_ (tq_ h D 5) 6 0 0) := by
    unfold ff_X2_wishingOnes
    rw [hq2, fld_to (f := tq_ h D 5) (g := fun x y => if isa_ (d_T D x 0) 3 = true then y + 1 else y) (m := d_t D) (by omega) 0 (fun i y hi => by
      unfold tq_ tp_
      rw [if_pos rfl, decide_eq_true hi, Bool.true_and]) (fun i y hi => by
      unfold tq_ tp_
      rw [if_pos rfl, decide_eq_false (by omega), Bool.false_and, if_neg (by decide)])]
    exact wo_loop K C _ 0 q2 0 (by omega)
  have f6 : ff_X5r_present h = some (fld_ (tq_ h D 6) 6 0 0) := by
    unfold ff_X5r_present
    rw [hq3]
    exact pr_loop H.2.1 6 0 q3 0 rfl
  have f7 : ff_X5t_present h = some (fld_ (tq_ h D 7) 6 0 0) := by
    unfold ff_X5t_present
    rw [hq4, fld_to (f := tq_ h D 7) (g := fun x y => if decide (0 ≤ h.1 103 x) = true then y + 1 else y) (m := 4) (by omega) 0 (fun i y hi => by
      unfold tq_ tp_
      rw [if_neg (show ¬ 7 = 5 by decide), if_neg (show ¬ 7 = 6 by decide), if_pos rfl, decide_eq_true hi, Bool.true_and]) (fun i y hi => by
      unfold tq_ tp_
      rw [if_neg (show ¬ 7 = 5 by decide), if_neg (show ¬ 7 = 6 by decide), if_pos rfl, decide_eq_false (by omega), Bool.false_and, if_neg (by decide)])]
    exact pt_loop H.2.2.1 4 0 q4 0 rfl
  have f8 : ff_X7_presentOffices h = some (fld_ (tq_ h D 8) 6 0 0) := by
    unfold ff_X7_presentOffices
    rw [hq5, fld_to (f := tq_ h D 8) (g := fun x y => if (!decide (h.1 110 (1030 * x) = -9)) = true then y + 1 else y) (m := 3) (by omega) 0 (fun i y hi => by
      unfold tq_ tp_
      rw [if_neg (show ¬ 8 = 5 by decide), if_neg (show ¬ 8 = 6 by decide), if_neg (show ¬ 8 = 7 by decide), if_pos rfl, decide_eq_true hi, Bool.true_and]) (fun i y hi => by
      unfold tq_ tp_
      rw [if_neg (show ¬ 8 = 5 by decide), if_neg (show ¬ 8 = 6 by decide), if_neg (show ¬ 8 = 7 by decide), if_pos rfl, decide_eq_false (by omega), Bool.false_and, if_neg (by decide)])]
    exact po_loop k11 3 0 q5 0 rfl
  unfold ff_X7_count ct_
  rw [f4, f5, f6, f7, f8, k4, gd_t B, gd_t B, gd_t B, gd_t B, gd_t B, gd_t B, show Int32.toNatClampNeg 0 = 0 from rfl, show Int32.toNatClampNeg 1 = 1 from rfl, show Int32.toNatClampNeg 2 = 2 from rfl, C.1, C.2.1, C.2.2.1]
  rcases (show c = 0 ∨ c = 1 ∨ c = 2 ∨ c = 3 ∨ c = 4 ∨ c = 5 ∨ c = 6 ∨ c = 7 ∨ c = 8 by omega) with rfl | rfl | rfl | rfl | rfl | rfl | rfl | rfl | rfl
  all_goals
    simp (config := {decide := true}) only [if_true, if_false, Option.bind_some]
/-- 44: count -/
theorem st_44 : sp_44 inv_ := by
  intro h a1 H
  obtain ⟨hn, D, F, ds, n, K, C, M, k4, k5, k6, k7, k8, k9, k10, k11⟩ := H.2.2.2
  rcases rg_ a1 8 (by decide) with ⟨c, hc, rfl, q1, q2, q3⟩ | ⟨q1, q3⟩
  · refine ⟨ct_ h D n c, ct_C H K C k4 k11 (by omega), ?_, H⟩
    unfold ff_X8_count
    rw [show (8 : Int32) = nI 8 from rfl, q3, if_neg n10, ct_M K M k5 (by omega)]; rfl
  · refine ⟨-1, ?_, by unfold ff_X8_count; rw [show (8 : Int32) = nI 8 from rfl, q3, if_pos rfl], H⟩
    have e : ∀ c, c < 9 → ¬ a1 = nI c := by
      intro c hc w
      subst w
      rcases q1 with q | ⟨q, q2⟩
      · exact nI_pos (by omega) q
      · exact q2 (nI_le (by omega) (by omega))
    unfold ff_X7_count
    rw [if_neg (show ¬ a1 = 0 from e 0 (by decide)), if_neg (show ¬ a1 = 1 from e 1 (by decide)), if_neg (show ¬ a1 = 2 from e 2 (by decide)), if_neg (show ¬ a1 = 3 from e 3 (by decide)), if_neg (show ¬ a1 = 4 from e 4 (by decide)), if_neg (show ¬ a1 = 5 from e 5 (by decide)), if_neg (show ¬ a1 = 6 from e 6 (by decide)), if_neg (show ¬ a1 = 7 from e 7 (by decide)), if_neg (show ¬ a1 = 8 from e 8 (by decide))]
