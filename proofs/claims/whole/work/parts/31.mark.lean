/-! ===== mark, error ===== -/
def isa_ (k c : Nat) : Bool := k == c || (k == 4 && c == 3) || (k == 5 && c == 1)
theorem isa_C : ∀ k, k < 6 → ∀ c, c < 6 → 0 < c → (if nI k = nI c then some (1 : Int32) else gd_ (bi_ (nI k) 6) (if (sn_ 5).2.getD (Int32.toNatClampNeg (nI k)) 0 = nI c then some 1 else some 0)) = some (bI_ (isa_ k c)) := by decide +kernel
theorem isa_M : ∀ k, k < 6 → ∀ c, c < 6 → 0 < c → (if nI k = nI c then some (1 : Int32) else if nI c = 1 then (if nI k = 5 then some 1 else ff_X8_isA_24 (nI c) (nI k) hz_) else ff_X8_isA_24 (nI c) (nI k) hz_) = some (bI_ (isa_ k c)) := by decide +kernel
theorem io_C {o t c : Nat} {h : hh_} {D : od_} (K : oK_ D) (C : oC_ o h D) (ht : t < d_t D) (hc : c < 6) (h0 : 0 < c) : ff_X2_isOf o (nI t) (nI c) h = some (bI_ (isa_ (d_T D t 0) c)) := by
  have k2 := K.2.1
  have b := (K.2.2.2.2.2.1 t ht).1
  unfold ff_X2_isOf
  rw [gd_n (by omega) (by decide), nI_clamp (by omega), show Int32.toNatClampNeg 0 = 0 from rfl, C.2.2.2.2.1 t ht 0 (by decide)]
  exact isa_C _ (by omega) c hc h0
theorem io_M {t c : Nat} {h : hh_} {D : od_} (K : oK_ D) (M : oM_ h D) (ht : t < d_t D) (hc : c < 6) (h0 : 0 < c) : ff_X8_isA (nI t) (nI c) h = some (bI_ (isa_ (d_T D t 0) c)) := by
  have k2 := K.2.1
  have b := (K.2.2.2.2.2.1 t ht).1
  have e := M.2.2.2.2.1 t ht 0 (by decide)
  rw [Nat.add_zero] at e
  unfold ff_X8_isA
  rw [show (3 : Int32) = nI 3 from rfl, pk_mul, gd_n (by omega) (by decide), nI_clamp (by omega), e]
  exact isa_M _ (by omega) c hc h0
def fld_ (f : Nat → Int32 → Int32) : Nat → Nat → Int32 → Int32
  | 0, _, x => x
  | d + 1, j, x => fld_ f d (j + 1) (f j x)
def mks_ (c : Nat) (D : od_) (t i j : Nat) (x : Int32) : Int32 :=
  if c = 1 then (if fe_ D i j 0 = 0 then x + 1 else x) else if c = 2 then (if x < nI (mst_ D t i j 0) then nI (mst_ D t i j 0) else x) else if c = 4 then x + (nI (lst_ D t i j 0) - nI (fe_ D i j 0)) else if c = 5 then (if mid_ D t i j 0 = 3 then x + 1 else x) else x
def wsh_ (D : od_) (t i j : Nat) : Bool := decide (j = d_T D t 2) || decide (lst_ D t i j 0 < lst_ D t i (d_T D t 2) 0)
def mko_ (c : Nat) (D : od_) (t i : Nat) (x : Int32) : Int32 := if c = 3 then (if all_ (wsh_ D t i) 4 0 = true then x + 1 else x) else fld_ (mks_ c D t i) 4 0 x
def mkd_ (c : Nat) (D : od_) (t : Nat) : Int32 := fld_ (mko_ c D t) (d_m D) 0 0
theorem fld_s {f : Nat → Int32 → Int32} {d j : Nat} {x : Int32} : fld_ f (d + 1) j x = fld_ f d (j + 1) (f j x) := rfl
theorem mko_n {c t i : Nat} {D : od_} {x : Int32} (h : c ≠ 3) : mko_ c D t i x = fld_ (mks_ c D t i) 4 0 x := if_neg h
theorem a0 (x : Int32) : x + 0 = x := Int32.add_zero x
theorem hv_C1 {o i : Nat} {t : Nat} {h : hh_} {D : od_} {KK : Int32 → Option Int32} (K : oK_ D) (C : oC_ o h D) (hi : i < d_m D) : ∀ (d j m : Nat) (x : Int32), j + d = 4 → ff_X1_heavy_16 o (nI i) h KK (m + d + 1) x (nI j) = KK (fld_ (mks_ 1 D t i) d j x) := by
  intro d
  induction d with
  | zero =>
    intro j m x e
    have e : j = 4 := by omega
    subst e
    rw [ff_X1_heavy_16, if_pos (by decide)]; rfl
  | succ d ih =>
    intro j m x e
    have hj : j < 4 := by omega
    have b := fe_le K (x := 0) hi hj
    rw [show m + (d + 1) + 1 = (m + d + 1) + 1 by omega, ff_X1_heavy_16, if_neg (show ¬ (4 : Int32) ≤ nI j from nI_ge (b := 4) hj (by omega)), fe_C0 K C hi hj, Option.bind_some, nI_1, a0, ih _ _ _ (by omega), ih _ _ _ (by omega), fld_]
    by_cases e2 : fe_ D i j 0 = 0
    · rw [if_pos (show nI (fe_ D i j 0) = 0 by rw [e2]; rfl), show mks_ 1 D t i j x = x + 1 from by unfold mks_; rw [if_pos rfl, if_pos e2]]
    · rw [if_neg (nI_ne0 (by omega) (by omega)), show mks_ 1 D t i j x = x from by unfold mks_; rw [if_pos rfl, if_neg e2]]
theorem hv_C {o t : Nat} {h : hh_} {D : od_} (K : oK_ D) (C : oC_ o h D) : ∀ (d i m : Nat) (x : Int32), i + d = d_m D → ff_X1_heavy_4 o h (m + d + 1) x (nI i) = some (fld_ (mko_ 1 D t) d i x) := by
  have k1 := K.1
  obtain ⟨q, hq⟩ := fu_ 4 (by decide)
  intro d
  induction d with
  | zero =>
    intro i m x e
    rw [ff_X1_heavy_4, show Int32.toNatClampNeg 0 = 0 from rfl, C.1, if_pos (nI_le (by omega) (by omega))]; rfl
  | succ d ih =>
    intro i m x e
    rw [show m + (d + 1) + 1 = (m + d + 1) + 1 by omega, ff_X1_heavy_4, show Int32.toNatClampNeg 0 = 0 from rfl, C.1, if_neg (nI_ge (by omega) (by omega)), hq]
    refine (hv_C1 (t := t) K C (by omega) 4 0 q x rfl).trans ?_
    rw [nI_1, ih _ _ _ (by omega), fld_s (f := mko_ 1 D t), mko_n (by decide)]
theorem lt_C1 {o t i : Nat} {h : hh_} {D : od_} {KK : Int32 → Option Int32} (K : oK_ D) (C : oC_ o h D) (ht : t < d_t D) (hi : i < d_m D) : ∀ (d j m : Nat) (x : Int32), j + d = 4 → ff_X1_light_17 o (nI t) (nI i) h KK (m + d + 1) x (nI j) = KK (fld_ (mks_ 2 D t i) d j x) := by
  intro d
  induction d with
  | zero =>
    intro j m x e
    have e : j = 4 := by omega
    subst e
    rw [ff_X1_light_17, if_pos (by decide)]; rfl
  | succ d ih =>
    intro j m x e
    have hj : j < 4 := by omega
    rw [show m + (d + 1) + 1 = (m + d + 1) + 1 by omega, ff_X1_light_17, if_neg (show ¬ (4 : Int32) ≤ nI j from nI_ge (b := 4) hj (by omega)), ms_C0 K C ht hi hj, Option.bind_some, nI_1, ih _ _ _ (by omega)]; rfl
theorem lt_C {o t : Nat} {h : hh_} {D : od_} (K : oK_ D) (C : oC_ o h D) (ht : t < d_t D) : ∀ (d i m : Nat) (x : Int32), i + d = d_m D → ff_X1_light_4 o (nI t) h (m + d + 1) x (nI i) = some (fld_ (mko_ 2 D t) d i x) := by
  have k1 := K.1
  obtain ⟨q, hq⟩ := fu_ 4 (by decide)
  intro d
  induction d with
  | zero =>
    intro i m x e
    rw [ff_X1_light_4, show Int32.toNatClampNeg 0 = 0 from rfl, C.1, if_pos (nI_le (by omega) (by omega))]; rfl
  | succ d ih =>
    intro i m x e
    rw [show m + (d + 1) + 1 = (m + d + 1) + 1 by omega, ff_X1_light_4, show Int32.toNatClampNeg 0 = 0 from rfl, C.1, if_neg (nI_ge (by omega) (by omega)), hq]
    refine (lt_C1 K C ht (by omega) 4 0 q x rfl).trans ?_
    rw [nI_1, ih _ _ _ (by omega), fld_s (f := mko_ 2 D t), mko_n (by decide)]
theorem cl_C1 {o t i : Nat} {h : hh_} {D : od_} {KK : Int32 → Option Int32} (K : oK_ D) (C : oC_ o h D) (ht : t < d_t D) (hi : i < d_m D) : ∀ (d j m : Nat) (x : Int32), j + d = 4 → ff_X1_clerk_17 o (nI t) (nI i) h KK (m + d + 1) x (nI j) = KK (fld_ (mks_ 4 D t i) d j x) := by
  intro d
  induction d with
  | zero =>
    intro j m x e
    have e : j = 4 := by omega
    subst e
    rw [ff_X1_clerk_17, if_pos (by decide)]; rfl
  | succ d ih =>
    intro j m x e
    have hj : j < 4 := by omega
    rw [show m + (d + 1) + 1 = (m + d + 1) + 1 by omega, ff_X1_clerk_17, if_neg (show ¬ (4 : Int32) ≤ nI j from nI_ge (b := 4) hj (by omega)), ls_C0 K C ht hi hj, Option.bind_some, fe_C0 K C hi hj, Option.bind_some, nI_1, ih _ _ _ (by omega)]; rfl
theorem cl_C {o t : Nat} {h : hh_} {D : od_} (K : oK_ D) (C : oC_ o h D) (ht : t < d_t D) : ∀ (d i m : Nat) (x : Int32), i + d = d_m D → ff_X1_clerk_4 o (nI t) h (m + d + 1) x (nI i) = some (fld_ (mko_ 4 D t) d i x) := by
  have k1 := K.1
  obtain ⟨q, hq⟩ := fu_ 4 (by decide)
  intro d
  induction d with
  | zero =>
    intro i m x e
    rw [ff_X1_clerk_4, show Int32.toNatClampNeg 0 = 0 from rfl, C.1, if_pos (nI_le (by omega) (by omega))]; rfl
  | succ d ih =>
    intro i m x e
    rw [show m + (d + 1) + 1 = (m + d + 1) + 1 by omega, ff_X1_clerk_4, show Int32.toNatClampNeg 0 = 0 from rfl, C.1, if_neg (nI_ge (by omega) (by omega)), hq]
    refine (cl_C1 K C ht (by omega) 4 0 q x rfl).trans ?_
    rw [nI_1, ih _ _ _ (by omega), fld_s (f := mko_ 4 D t), mko_n (by decide)]
theorem du_C1 {o t i : Nat} {h : hh_} {D : od_} {KK : Int32 → Option Int32} (K : oK_ D) (C : oC_ o h D) (ht : t < d_t D) (hi : i < d_m D) : ∀ (d j m : Nat) (x : Int32), j + d = 4 → ff_X1_dull_17 o (nI t) (nI i) h KK (m + d + 1) x (nI j) = KK (fld_ (mks_ 5 D t i) d j x) := by
  intro d
  induction d with
  | zero =>
    intro j m x e
    have e : j = 4 := by omega
    subst e
    rw [ff_X1_dull_17, if_pos (by decide)]; rfl
  | succ d ih =>
    intro j m x e
    have hj : j < 4 := by omega
    have b := mid_le K (t := t) (x := 0) hi hj
    rw [show m + (d + 1) + 1 = (m + d + 1) + 1 by omega, ff_X1_dull_17, if_neg (show ¬ (4 : Int32) ≤ nI j from nI_ge (b := 4) hj (by omega)), md_C0 K C ht hi hj, Option.bind_some, nI_1, a0, ih _ _ _ (by omega), ih _ _ _ (by omega), fld_]
    by_cases e2 : mid_ D t i j 0 = 3
    · rw [if_pos (show nI (mid_ D t i j 0) = 3 by rw [e2]; rfl), show mks_ 5 D t i j x = x + 1 from if_pos e2]
    · rw [if_neg (show ¬ nI (mid_ D t i j 0) = 3 from fun q => e2 ((nI_eq (b := 3) (by omega) (by omega)).mp q)), show mks_ 5 D t i j x = x from if_neg e2]
theorem du_C {o t : Nat} {h : hh_} {D : od_} (K : oK_ D) (C : oC_ o h D) (ht : t < d_t D) : ∀ (d i m : Nat) (x : Int32), i + d = d_m D → ff_X1_dull_4 o (nI t) h (m + d + 1) x (nI i) = some (fld_ (mko_ 5 D t) d i x) := by
  have k1 := K.1
  obtain ⟨q, hq⟩ := fu_ 4 (by decide)
  intro d
  induction d with
  | zero =>
    intro i m x e
    rw [ff_X1_dull_4, show Int32.toNatClampNeg 0 = 0 from rfl, C.1, if_pos (nI_le (by omega) (by omega))]; rfl
  | succ d ih =>
    intro i m x e
    rw [show m + (d + 1) + 1 = (m + d + 1) + 1 by omega, ff_X1_dull_4, show Int32.toNatClampNeg 0 = 0 from rfl, C.1, if_neg (nI_ge (by omega) (by omega)), hq]
    refine (du_C1 K C ht (by omega) 4 0 q x rfl).trans ?_
    rw [nI_1, ih _ _ _ (by omega), fld_s (f := mko_ 5 D t), mko_n (by decide)]
theorem wi_C1 {o t i : Nat} {h : hh_} {D : od_} (K : oK_ D) (C : oC_ o h D) (ht : t < d_t D) (hi : i < d_m D) : ∀ (d j m : Nat), j + d = 4 → ff_X1_hasItsWish_12 o (nI t) (nI i) (nI (d_T D t 2)) h (m + d + 1) (nI j) = some (bI_ (all_ (wsh_ D t i) d j)) := by
  have b2 := (K.2.2.2.2.2.1 t ht).2.2
  intro d
  induction d with
  | zero =>
    intro j m e
    have e : j = 4 := by omega
    subst e
    rw [ff_X1_hasItsWish_12, if_pos (by decide)]; rfl
  | succ d ih =>
    intro j m e
    have hj : j < 4 := by omega
    have l1 := lst_le K (t := t) (x := 0) hi hj
    have l2 := lst_le K (t := t) (x := 0) hi (show d_T D t 2 < 4 by omega)
    rw [show m + (d + 1) + 1 = (m + d + 1) + 1 by omega, ff_X1_hasItsWish_12, if_neg (show ¬ (4 : Int32) ≤ nI j from nI_ge (b := 4) hj (by omega)), nI_1, ih _ _ (by omega), all_]
    unfold wsh_
    by_cases e2 : j = d_T D t 2
    · rw [if_pos (by rw [← e2]), decide_eq_true e2, Bool.true_or, Bool.true_and]
    · rw [if_neg (fun q => e2 ((nI_eq (by omega) (by omega)).mp q)), ls_C0 K C ht hi hj, Option.bind_some, ls_C0 K C ht hi (show d_T D t 2 < 4 by omega), Option.bind_some, decide_eq_false e2, Bool.false_or]
      by_cases e3 : lst_ D t i j 0 < lst_ D t i (d_T D t 2) 0
      · rw [if_pos (nI_lt e3 (by omega)), decide_eq_true e3, Bool.true_and]
      · rw [if_neg (nI_nlt (by omega) (by omega)), decide_eq_false e3, Bool.false_and]; rfl
theorem wi_C {o t : Nat} {h : hh_} {D : od_} (K : oK_ D) (C : oC_ o h D) (ht : t < d_t D) : ∀ (d i m : Nat) (x : Int32), i + d = d_m D → ff_X1_wishing_4 o (nI t) h (m + d + 1) x (nI i) = some (fld_ (mko_ 3 D t) d i x) := by
  have k1 := K.1
  have k2 := K.2.1
  obtain ⟨q, hq⟩ := fu_ 4 (by decide)
  intro d
  induction d with
  | zero =>
    intro i m x e
    rw [ff_X1_wishing_4, show Int32.toNatClampNeg 0 = 0 from rfl, C.1, if_pos (nI_le (by omega) (by omega))]; rfl
  | succ d ih =>
    intro i m x e
    have e5 : ff_X1_hasItsWish o (nI t) (nI i) h = some (bI_ (all_ (wsh_ D t i) 4 0)) := by
      unfold ff_X1_hasItsWish
      rw [gd_n (by omega) (by decide), nI_clamp (by omega), show Int32.toNatClampNeg 2 = 2 from rfl, C.2.2.2.2.1 t ht 2 (by decide), hq]
      exact wi_C1 K C ht (by omega) 4 0 q rfl
    rw [show m + (d + 1) + 1 = (m + d + 1) + 1 by omega, ff_X1_wishing_4, show Int32.toNatClampNeg 0 = 0 from rfl, C.1, if_neg (nI_ge (by omega) (by omega)), e5, Option.bind_some, nI_1, a0, ih _ _ _ (by omega), ih _ _ _ (by omega), fld_]
    show _ = some (fld_ (mko_ 3 D t) d (i + 1) (if all_ (wsh_ D t i) 4 0 = true then x + 1 else x))
    cases all_ (wsh_ D t i) 4 0 <;> rfl
/-! the reference -/
theorem gm_ (x v : Int32) : (if x ≤ v then v else x) = (if x < v then v else x) := by
  by_cases e : x < v
  · have : x ≤ v := by rw [Int32.lt_iff_toInt_lt] at e; rw [Int32.le_iff_toInt_le]; omega
    rw [if_pos e, if_pos this]
  · rw [if_neg e]
    by_cases e2 : x ≤ v
    · rw [if_pos e2]
      rw [Int32.lt_iff_toInt_lt] at e
      rw [Int32.le_iff_toInt_le] at e2
      exact Int32.toInt_inj.mp (by omega)
    · rw [if_neg e2]
theorem mk76 {t i j c : Nat} {x x5 y : Int32} {h : hh_} {D : od_} {KK : Int32 → Int32 → Int32 → Option Int32} (K : oK_ D) (M : oM_ h D) (ht : t < d_t D) (hi : i < d_m D) (hj : j < 4) (hc : c < 6) (h0 : 0 < c) : ff_X8_marked_76 (nI t) (nI c) x (nI i) x5 (nI j) y h KK = KK (mks_ c D t i j x) y (nI (j + 1)) := by
  have b := fe_le K (x := 0) hi hj
  have b2 := mid_le K (t := t) (x := 0) hi hj
  unfold ff_X8_marked_76 ff_X8_marked_99 ff_X8_marked_100 ff_X8_marked_124 ff_X8_marked_153 mks_
  rw [fe_M K M hi hj, Option.bind_some, ms_M K M ht hi hj, ls_M K M ht hi hj, md_M K M ht hi hj, nI_1]
  rcases (show c = 1 ∨ c = 2 ∨ c = 3 ∨ c = 4 ∨ c = 5 by omega) with rfl | rfl | rfl | rfl | rfl
  · by_cases e : fe_ D i j 0 = 0
    · simp (config := {decide := true}) only [a0, if_true, if_false, e]
    · simp (config := {decide := true}) only [a0, if_true, if_false, e, nI_ne0 (Nat.pos_of_ne_zero e) (show fe_ D i j 0 < 2 ^ 31 by omega)]
  · simp (config := {decide := true}) only [a0, if_true, if_false, Option.bind_some]
    unfold ff_X8_greater
    rw [gm_]
  · simp (config := {decide := true}) only [a0, if_true, if_false, Option.bind_some]
  · simp (config := {decide := true}) only [a0, if_true, if_false, Option.bind_some]
  · by_cases e : mid_ D t i j 0 = 3
    · simp (config := {decide := true}) only [a0, if_true, if_false, Option.bind_some, e]
    · have e3 : ¬ nI (mid_ D t i j 0) = 3 := fun q => e ((nI_eq (b := 3) (by omega) (by omega)).mp q)
      simp (config := {decide := true}) only [a0, if_true, if_false, Option.bind_some, e, e3]
theorem mk32 {t i c : Nat} {h : hh_} {D : od_} {KK : Int32 → Int32 → Option Int32} (K : oK_ D) (M : oM_ h D) (ht : t < d_t D) (hi : i < d_m D) (hc : c < 6) (h0 : 0 < c) : ∀ (d j m : Nat) (x : Int32) (b : Bool), j + d = 4 → ff_X8_marked_32 (nI t) (nI c) (nI i) (nI (d_T D t 2)) h KK (m + d + 1) x (bI_ b) (nI j) = KK (fld_ (mks_ c D t i) d j x) (bI_ (b && all_ (wsh_ D t i) d j)) := by
  have b2 := (K.2.2.2.2.2.1 t ht).2.2
  intro d
  induction d with
  | zero =>
    intro j m x b e
    have e : j = 4 := by omega
    subst e
    rw [ff_X8_marked_32, if_pos (by decide), all_, Bool.and_true]; rfl
  | succ d ih =>
    intro j m x b e
    have hj : j < 4 := by omega
    have l1 := lst_le K (t := t) (x := 0) hi hj
    have l2 := lst_le K (t := t) (x := 0) hi (show d_T D t 2 < 4 by omega)
    rw [show m + (d + 1) + 1 = (m + d + 1) + 1 by omega, ff_X8_marked_32, if_neg (show ¬ (4 : Int32) ≤ nI j from nI_ge (b := 4) hj (by omega))]
    unfold ff_X8_marked_75 ff_X8_marked_71
    dsimp only
    rw [mk76 K M ht hi hj hc h0, mk76 K M ht hi hj hc h0, fld_, all_]
    cases b with
    | false =>
      rw [if_pos (show bI_ false = 0 from rfl), Bool.false_and]
      exact (ih (j + 1) m _ false (by omega)).trans (by rw [Bool.false_and])
    | true =>
      rw [if_neg (show ¬ bI_ true = 0 by decide), Bool.true_and]
      unfold wsh_
      by_cases e2 : j = d_T D t 2
      · rw [if_pos (by rw [← e2]), decide_eq_true e2, Bool.true_or, Bool.true_and]
        exact (ih (j + 1) m _ true (by omega)).trans (by rw [Bool.true_and]; rfl)
      · rw [if_neg (fun q => e2 ((nI_eq (by omega) (by omega)).mp q)), ls_M K M ht hi (show d_T D t 2 < 4 by omega), Option.bind_some, ls_M K M ht hi hj, Option.bind_some, decide_eq_false e2, Bool.false_or]
        by_cases e3 : lst_ D t i j 0 < lst_ D t i (d_T D t 2) 0
        · rw [if_neg (nI_ge e3 (by omega)), decide_eq_true e3, Bool.true_and]
          exact (ih (j + 1) m _ true (by omega)).trans (by rw [Bool.true_and]; rfl)
        · rw [if_pos (nI_le (by omega) (by omega)), decide_eq_false e3, Bool.false_and]
          exact (ih (j + 1) m _ false (by omega)).trans (by rw [Bool.false_and])
theorem f3_ {D : od_} {t i : Nat} : ∀ (d j : Nat) (x : Int32), fld_ (mks_ 3 D t i) d j x = x := by
  intro d
  induction d with
  | zero => intro j x; rfl
  | succ d ih => intro j x; rw [fld_, ih]; rfl
theorem mk5 {t c : Nat} {h : hh_} {D : od_} (K : oK_ D) (M : oM_ h D) (ht : t < d_t D) (hc : c < 6) (h0 : 0 < c) : ∀ (d i m : Nat) (x : Int32), i + d = d_m D → ff_X8_marked_5 (nI t) (nI c) h (m + d + 1) x (nI i) = some (fld_ (mko_ c D t) d i x) := by
  have k1 := K.1
  have k2 := K.2.1
  obtain ⟨q, hq⟩ := fu_ 4 (by decide)
  intro d
  induction d with
  | zero =>
    intro i m x e
    rw [ff_X8_marked_5, M.1, if_pos (nI_le (by omega) (by omega))]; rfl
  | succ d ih =>
    intro i m x e
    rw [show m + (d + 1) + 1 = (m + d + 1) + 1 by omega, ff_X8_marked_5, M.1, if_neg (nI_ge (by omega) (by omega)), show (3 : Int32) * nI t + 2 = nI (3 * t + 2) from by rw [show (3 : Int32) = nI 3 from rfl, pk_mul]; exact nI_add _ 2, gd_n (by omega) (by decide), nI_clamp (by omega), M.2.2.2.2.1 t ht 2 (by decide), hq]
    refine (mk32 K M ht (by omega) hc h0 4 0 q x true rfl).trans ?_
    rw [Bool.true_and, nI_1, a0, ih _ _ _ (by omega), ih _ _ _ (by omega), fld_s (f := mko_ c D t)]
    by_cases e3 : c = 3
    · subst e3
      rw [if_pos (show nI 3 = 3 from rfl), f3_, show mko_ 3 D t i x = if all_ (wsh_ D t i) 4 0 = true then x + 1 else x from rfl]
      cases all_ (wsh_ D t i) 4 0 <;> rfl
    · rw [if_neg (show ¬ nI c = 3 from fun w => e3 ((nI_eq (b := 3) (by omega) (by omega)).mp w)), mko_n e3]
/-- 13: mark -/
theorem st_13 : sp_13 inv_ := by
  intro h a1 a2 H
  obtain ⟨hn, D, F, ds, n, K, C, M, -⟩ := H.2.2.2
  have k1 := K.1
  have B := H.2.2.2.nwB
  obtain ⟨q, hq⟩ := fu_ (d_m D) (by omega)
  rcases hs_1 a1 K C M with ⟨t, ht, rfl, c1, m1⟩ | ⟨c1, m1⟩
  · have key : (∃ c, c < 6 ∧ 0 < c ∧ a2 = nI c ∧ ¬ a2 < 1 ∧ a2 < 6 ∧ ff_X8_in a2 1 5 = 1) ∨ ((a2 < 1 ∨ (¬ a2 < 1 ∧ ¬ a2 < 6)) ∧ ff_X8_in a2 1 5 = 0) := by
      by_cases e1 : a2 < 1
      · exact Or.inr ⟨Or.inl e1, in_f (lo := 1) (hi := 5) (Or.inl e1)⟩
      · by_cases e2 : a2 < 6
        · rw [Int32.lt_iff_toInt_lt, show (1 : Int32).toInt = 1 from rfl] at e1
          obtain ⟨c, hc, rfl⟩ := nI_of (x := a2) (by rw [Int32.lt_iff_toInt_lt, ti_0]; omega)
          rw [nI_toInt hc] at e1
          have e3 := (nI_ltI (b := 6) hc (by omega)).mp e2
          exact Or.inl ⟨c, e3, by omega, rfl, by rw [Int32.lt_iff_toInt_lt, nI_toInt hc, show (1 : Int32).toInt = 1 from rfl]; omega, e2, in_t (lo := 1) (hi := 5) (by omega) (by omega) (by decide)⟩
        · refine Or.inr ⟨Or.inr ⟨e1, e2⟩, in_f (lo := 1) (hi := 5) (Or.inr ?_)⟩
          rw [Int32.lt_iff_toInt_lt, show (6 : Int32).toInt = 6 from rfl] at e2
          rw [Int32.lt_iff_toInt_lt, show (nI 5).toInt = 5 from rfl]
          omega
    rcases key with ⟨c, hc, h0, rfl, w1, w2, w3⟩ | ⟨w1, w3⟩
    · by_cases e4 : isa_ (d_T D t 0) c = true
      · refine rd_ H 0 (mkd_ c D t) 0 (by decide) ?_ (fun h' S => ?_)
        · unfold ff_X7_mark ff_X1_heavy ff_X1_light ff_X1_wishing ff_X1_clerk ff_X1_dull
          rw [gd_t B, c1, Option.bind_some, if_neg n10, if_neg w1, if_pos w2, io_C K C ht hc h0, Option.bind_some, e4, if_neg (show ¬ bI_ true = 0 by decide), hq, show (0 : Int32) = nI 0 from rfl, hv_C (t := t) K C (d_m D) 0 q _ (by omega), lt_C K C ht (d_m D) 0 q _ (by omega), wi_C K C ht (d_m D) 0 q _ (by omega), cl_C K C ht (d_m D) 0 q _ (by omega), du_C K C ht (d_m D) 0 q _ (by omega)]
          rcases (show c = 1 ∨ c = 2 ∨ c = 3 ∨ c = 4 ∨ c = 5 by omega) with rfl | rfl | rfl | rfl | rfl <;> rfl
        · unfold ff_X8_mark ff_X8_marked
          rw [S.iT (D := D) m1, if_neg n10, w3, if_neg n10, io_M K (S.oM M) ht hc h0, Option.bind_some, e4, if_neg (show ¬ bI_ true = 0 by decide), hq, show (0 : Int32) = nI 0 from rfl, mk5 K (S.oM M) ht hc h0 (d_m D) 0 q _ (by omega)]; rfl
      · have e5 : isa_ (d_T D t 0) c = false := Bool.eq_false_iff.mpr e4
        refine rd_ H 5 0 0 (by decide) ?_ (fun h' S => ?_)
        · unfold ff_X7_mark
          rw [gd_t B, c1, Option.bind_some, if_neg n10, if_neg w1, if_pos w2, io_C K C ht hc h0, Option.bind_some, e5, if_pos (show bI_ false = 0 from rfl)]
          exact rfC (f := 3) (by decide)
        · unfold ff_X8_mark
          rw [S.iT (D := D) m1, if_neg n10, w3, if_neg n10, io_M K (S.oM M) ht hc h0, Option.bind_some, e5, if_pos (show bI_ false = 0 from rfl)]
          exact rfM (f := 3) (by decide)
    · refine rd_ H 0 (-1) 0 (by decide) ?_ (fun h' S => ?_)
      · unfold ff_X7_mark
        rw [gd_t B, c1, Option.bind_some, if_neg n10]
        rcases w1 with w | ⟨w, w2⟩
        · rw [if_pos w]; rfl
        · rw [if_neg w, if_neg w2]; rfl
      · unfold ff_X8_mark
        rw [S.iT (D := D) m1, if_neg n10, w3, if_pos rfl]; rfl
  · refine rd_ H 0 (-1) 0 (by decide) ?_ (fun h' S => ?_)
    · unfold ff_X7_mark
      rw [gd_t B, c1, Option.bind_some, if_pos rfl]; rfl
    · unfold ff_X8_mark
      rw [S.iT (D := D) m1, if_pos rfl]; rfl
