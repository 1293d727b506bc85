/-! ===== readings in a row; fits, whose, who ===== -/
def all_ (p : Nat → Bool) : Nat → Nat → Bool
  | 0, _ => true
  | d + 1, j => p j && all_ p d (j + 1)
def bI_ (b : Bool) : Int32 := if b = true then 1 else 0
theorem bI_0 {b : Bool} : bI_ b = 0 ↔ b = false := by cases b <;> decide
/-- row r holds a reading R -/
def rR_ (h : hh_) (r : Nat) (R : Nat → Nat) : Prop := ∀ j, j < 4 → R j ≤ 9 ∧ h.1 (4 + r) j = nI (R j) ∧ h.1 101 (40 * r + j) = nI (R j)
theorem sm_.rR {h h' : hh_} {r : Nat} {R : Nat → Nat} (hr : r < 6) (S : sm_ h h') (Q : rR_ h r R) : rR_ h' r R := fun j hj => by
  rw [S _ _ (by omega) (by omega), S _ _ (by omega) (by omega)]
  exact Q j hj
theorem fo_cases (x : Int32) : (∃ v, v ≤ 9 ∧ x = nI v ∧ ¬ x < 0 ∧ x ≤ 9 ∧ ff_X8_in x 0 9 = 1) ∨ ((x < 0 ∨ (¬ x < 0 ∧ ¬ x ≤ 9)) ∧ ff_X8_in x 0 9 = 0) := rg_ x 9 (by decide)
theorem fo_loop {h : hh_} {r : Nat} (hr : r < 6) (E : ∀ j, j < 4 → h.1 (4 + r) j = h.1 101 (40 * r + j)) : ∀ (d j m m' : Nat), j + d = 4 → (ff_X7_findingOfReading_30 (nI r) h (m + d + 1) (nI j) = some (nI 3) ∧ ∀ h', sm_ h h' → ff_X8_askedReading_30 (nI r) h' (m' + d + 1) (nI j) = some (-3, mre_ 3 h')) ∨ (ff_X7_findingOfReading_30 (nI r) h (m + d + 1) (nI j) = some 0 ∧ (∀ h', sm_ h h' → ff_X8_askedReading_30 (nI r) h' (m' + d + 1) (nI j) = some (0, h')) ∧ ∀ x, j ≤ x → x < 4 → ∃ v, v ≤ 9 ∧ h.1 (4 + r) x = nI v) := by
  intro d
  induction d with
  | zero =>
    intro j m m' e
    have e : j = 4 := by omega
    subst e
    refine Or.inr ⟨?_, fun h' S => ?_, fun x hx hx2 => by omega⟩
    · rw [ff_X7_findingOfReading_30, if_pos (by decide)]
    · rw [ff_X8_askedReading_30, if_pos (by decide)]
  | succ d ih =>
    intro j m m' e
    have hj : j < 4 := by omega
    have s1 : ¬ (4 : Int32) ≤ nI j := nI_ge (b := 4) hj (by omega)
    have a1 : ff_X7_findingOfReading_30 (nI r) h (m + (d + 1) + 1) (nI j) = if h.1 (4 + r) j < 0 then some 3 else if h.1 (4 + r) j ≤ 9 then ff_X7_findingOfReading_30 (nI r) h (m + d + 1) (nI (j + 1)) else some 3 := by
      rw [show m + (d + 1) + 1 = (m + d + 1) + 1 by omega, ff_X7_findingOfReading_30, if_neg s1, gd_n hr (by decide), gd_n (by omega) (by decide), nI_clamp (by omega), nI_clamp (by omega), nI_1]
    have a2 : ∀ h', sm_ h h' → ff_X8_askedReading_30 (nI r) h' (m' + (d + 1) + 1) (nI j) = if ff_X8_in (h.1 (4 + r) j) 0 9 = 0 then some (-3, mre_ 3 h') else ff_X8_askedReading_30 (nI r) h' (m' + d + 1) (nI (j + 1)) := by
      intro h' S
      rw [show m' + (d + 1) + 1 = (m' + d + 1) + 1 by omega, ff_X8_askedReading_30, if_neg s1, ra_ h' hr (by omega), Option.bind_some, S 101 _ (by decide) (by decide), ← E j hj, nI_1, show ((ff_X8_meet (3 : Int32) h').bind fun v6 => some (v6.1, v6.2)) = some (-3, mre_ 3 h') from rfM (f := 3) (by decide)]
    rcases fo_cases (h.1 (4 + r) j) with ⟨v, hv, q0, q1, q2, q3⟩ | ⟨q1, q3⟩
    · rw [a1, if_neg q1, if_pos q2]
      rcases ih (j + 1) m m' (by omega) with ⟨w1, w2⟩ | ⟨w1, w2, w3⟩
      · exact Or.inl ⟨w1, fun h' S => by rw [a2 h' S, q3, if_neg n10]; exact w2 h' S⟩
      · refine Or.inr ⟨w1, fun h' S => by rw [a2 h' S, q3, if_neg n10]; exact w2 h' S, fun x hx hx2 => ?_⟩
        by_cases e : x = j
        · subst e
          exact ⟨v, hv, q0⟩
        · exact w3 x (by omega) hx2
    · refine Or.inl ⟨?_, fun h' S => by rw [a2 h' S, q3, if_pos rfl]⟩
      rw [a1]
      rcases q1 with q | ⟨q, q2⟩
      · rw [if_pos q]; rfl
      · rw [if_neg q, if_neg q2]; rfl
theorem fo_ {h : hh_} {r : Nat} (hr : r < 6) (Q : rw_ h 10 4 100 101 40 r) : (∃ f, f < 6 ∧ f ≠ 0 ∧ ff_X7_findingOfReading (nI r) h = some (nI f) ∧ ∀ h', sm_ h h' → ff_X8_askedReading (nI r) h' = some (-3, mre_ f h')) ∨ ∃ R, rR_ h r R ∧ ff_X7_findingOfReading (nI r) h = some 0 ∧ ∀ h', sm_ h h' → ff_X8_askedReading (nI r) h' = some (0, h') := by
  rcases lk_r hr Q with ⟨l0, l1⟩ | ⟨n, hn, l0, l1, l2, l3⟩
  · refine Or.inl ⟨1, by decide, by decide, ?_, fun h' S => ?_⟩
    · unfold ff_X7_findingOfReading
      rw [l0]; rfl
    · unfold ff_X8_askedReading
      rw [ar_n hr (by rw [S _ _ (by decide) (by decide)]; exact l1)]; rfl
  · have b1 : ff_X7_findingOfReading (nI r) h = if nI n = 4 then ff_X7_findingOfReading_30 (nI r) h FU_ 0 else some 5 := by
      unfold ff_X7_findingOfReading
      rw [l0, Option.bind_some, if_pos rfl, gd_n hr (by decide), nI_clamp (by omega), l1]
    have b2 : ∀ h', sm_ h h' → ff_X8_askedReading (nI r) h' = if nI n = 4 then ff_X8_askedReading_30 (nI r) h' FU_ 0 else some (-3, mre_ 5 h') := by
      intro h' S
      have e : h'.1 100 r = nI n := by rw [S _ _ (by decide) (by decide)]; exact l2
      unfold ff_X8_askedReading
      rw [ar_s hr (by omega) e, Option.bind_some]
      dsimp only
      rw [if_pos (show (0 : Int32) ≤ 0 by decide), gd_n hr (by decide), nI_clamp (by omega), e, show (5 : Int32) = nI 5 from rfl, rfM (by decide)]
    by_cases e : n = 4
    · subst e
      obtain ⟨k, hk⟩ := fu_ 4 (by decide)
      rw [if_pos (show nI 4 = 4 from rfl), hk] at b1
      rcases fo_loop hr (h := h) (fun j hj => l3 j hj) 4 0 k k rfl with ⟨w1, w2⟩ | ⟨w1, w2, w3⟩
      · exact Or.inl ⟨3, by decide, by decide, b1.trans w1, fun h' S => by rw [b2 h' S, if_pos (show nI 4 = 4 from rfl), hk]; exact w2 h' S⟩
      · refine Or.inr ⟨fun j => (h.1 (4 + r) j).toNatClampNeg, fun j hj => ?_, b1.trans w1, fun h' S => by rw [b2 h' S, if_pos (show nI 4 = 4 from rfl), hk]; exact w2 h' S⟩
        obtain ⟨v, hv, q⟩ := w3 j (by omega) hj
        dsimp only
        rw [← l3 j hj, q, nI_clamp (by omega)]
        exact ⟨hv, rfl, rfl⟩
    · have e2 : ¬ nI n = 4 := fun q => e ((nI_eq (b := 4) (by omega) (by omega)).mp q)
      rw [if_neg e2] at b1
      exact Or.inl ⟨5, by decide, by decide, b1, fun h' S => by rw [b2 h' S, if_neg e2]⟩
/-- does a reading fit -/
def ft_ (D : od_) (t i : Nat) (R : Nat → Nat) (j : Nat) : Bool := decide (lst_ D t i j 0 ≤ R j) && decide (R j ≤ mst_ D t i j 0)
theorem sh4 : ∀ r, r < 6 → sh_ (4 + r) = (1, 40) := by decide +kernel
theorem bp_r {r j : Nat} (hr : r < 6) (hj : j < 40) : bp_ (4 + r) (nI j) = true := by
  unfold bp_
  rw [sh4 r hr]
  exact bi_t hj (by decide)
theorem cr_loop {o t i r : Nat} {h : hh_} {D : od_} {R : Nat → Nat} (K : oK_ D) (C : oC_ o h D) (ht : t < d_t D) (hi : i < d_m D) (hr : r < 6) (Q : rR_ h r R) : ∀ (d j m : Nat), j + d = 4 → ff_X2_canRead_3 o (nI t) (nI i) (4 + r) h (m + d + 1) (nI j) = some (bI_ (all_ (ft_ D t i R) d j)) := by
  intro d
  induction d with
  | zero =>
    intro j m e
    have e : j = 4 := by omega
    subst e
    rw [ff_X2_canRead_3, if_pos (by decide)]; rfl
  | succ d ih =>
    intro j m e
    have hj : j < 4 := by omega
    have q := Q j hj
    have l1 := lst_le K (t := t) (x := 0) hi hj
    have l2 := mst_le K (x := 0) ht hi hj
    rw [show m + (d + 1) + 1 = (m + d + 1) + 1 by omega, ff_X2_canRead_3, if_neg (show ¬ (4 : Int32) ≤ nI j from nI_ge (b := 4) hj (by omega)), gd_t (bp_r hr (by omega)), ls_C0 K C ht hi hj, Option.bind_some, nI_clamp (by omega), q.2.1, ms_C0 K C ht hi hj, Option.bind_some, nI_1, ih (j + 1) m (by omega), all_]
    unfold ft_
    by_cases e1 : R j < lst_ D t i j 0
    · rw [if_pos (nI_lt e1 (by omega)), decide_eq_false (by omega)]; rfl
    · rw [if_neg (nI_nlt (by omega) (by omega)), decide_eq_true (p := lst_ D t i j 0 ≤ R j) (by omega)]
      by_cases e2 : R j ≤ mst_ D t i j 0
      · rw [if_pos (nI_le e2 (by omega)), decide_eq_true e2]; rfl
      · rw [if_neg (nI_ge (by omega) (by omega)), decide_eq_false e2]; rfl
theorem cr_C {o t i r : Nat} {h : hh_} {D : od_} {R : Nat → Nat} (K : oK_ D) (C : oC_ o h D) (ht : t < d_t D) (hi : i < d_m D) (hr : r < 6) (Q : rR_ h r R) : ff_X2_canRead o (nI t) (nI i) (4 + r) h = some (bI_ (all_ (ft_ D t i R) 4 0)) := by
  unfold ff_X2_canRead
  obtain ⟨k, hk⟩ := fu_ 4 (by decide)
  rw [hk]
  exact cr_loop K C ht hi hr Q 4 0 k rfl
theorem in_3 {a b c : Nat} (ha : a < 2 ^ 31) (hb : b < 2 ^ 31) (hc : c < 2 ^ 31) : ff_X8_in (nI a) (nI b) (nI c) = bI_ (decide (b ≤ a) && decide (a ≤ c)) := by
  unfold ff_X8_in
  by_cases e1 : a < b
  · rw [if_pos (nI_lt e1 hb), decide_eq_false (by omega)]; rfl
  · rw [if_neg (nI_nlt (by omega) ha), decide_eq_true (p := b ≤ a) (by omega)]
    by_cases e2 : a ≤ c
    · rw [if_neg (nI_nlt e2 hc), decide_eq_true e2]; rfl
    · rw [if_pos (nI_lt (by omega) ha), decide_eq_false e2]; rfl
theorem bz_0 : bz_ 0 = true := rfl
theorem bz_1 : bz_ 1 = true := rfl
theorem df_loop0 {t i r : Nat} {h : hh_} : ∀ (d j m : Nat), j + d = 4 → ff_X8_doesFit_6 (nI t) (nI i) (nI r) h (m + d + 1) 0 (nI j) = some 0 := by
  intro d
  induction d with
  | zero =>
    intro j m e
    have e : j = 4 := by omega
    subst e
    rw [ff_X8_doesFit_6, if_pos (by decide)]; rfl
  | succ d ih =>
    intro j m e
    rw [show m + (d + 1) + 1 = (m + d + 1) + 1 by omega, ff_X8_doesFit_6, if_neg (show ¬ (4 : Int32) ≤ nI j from nI_ge (b := 4) (by omega) (by omega)), if_pos rfl, nI_1]
    exact ih (j + 1) m (by omega)
theorem df_loop {t i r : Nat} {h : hh_} {D : od_} {R : Nat → Nat} (K : oK_ D) (M : oM_ h D) (ht : t < d_t D) (hi : i < d_m D) (hr : r < 6) (Q : rR_ h r R) : ∀ (d j m : Nat), j + d = 4 → ff_X8_doesFit_6 (nI t) (nI i) (nI r) h (m + d + 1) 1 (nI j) = some (bI_ (all_ (ft_ D t i R) d j)) := by
  intro d
  induction d with
  | zero =>
    intro j m e
    have e : j = 4 := by omega
    subst e
    rw [ff_X8_doesFit_6, if_pos (by decide)]; rfl
  | succ d ih =>
    intro j m e
    have hj : j < 4 := by omega
    have q := Q j hj
    have l1 := lst_le K (t := t) (x := 0) hi hj
    have l2 := mst_le K (x := 0) ht hi hj
    rw [show m + (d + 1) + 1 = (m + d + 1) + 1 by omega, ff_X8_doesFit_6, if_neg (show ¬ (4 : Int32) ≤ nI j from nI_ge (b := 4) hj (by omega)), if_neg n10, ra_ h hr (by omega), Option.bind_some, ls_M K M ht hi hj, Option.bind_some, ms_M K M ht hi hj, Option.bind_some, q.2.2, in_3 (by omega) (by omega) (by omega), nI_1, ih (j + 1) m (by omega), df_loop0 d (j + 1) m (by omega), all_]
    show (if bI_ (ft_ D t i R j) = 0 then some 0 else _) = _
    cases ft_ D t i R j <;> rfl
theorem df_M {t i r : Nat} {h : hh_} {D : od_} {R : Nat → Nat} (K : oK_ D) (M : oM_ h D) (ht : t < d_t D) (hi : i < d_m D) (hr : r < 6) (Q : rR_ h r R) : ff_X8_doesFit (nI t) (nI i) (nI r) h = some (bI_ (all_ (ft_ D t i R) 4 0)) := by
  unfold ff_X8_doesFit
  obtain ⟨k, hk⟩ := fu_ 4 (by decide)
  rw [hk]
  exact df_loop K M ht hi hr Q 4 0 k rfl
/-- 22: fits -/
theorem st_22 : sp_22 inv_ := by
  intro h a1 a2 a3 H
  obtain ⟨hn, D, F, ds, n, K, C, M, -⟩ := H.2.2.2
  have B := H.2.2.2.nwB
  rcases hs_1 a1 K C M with ⟨t, ht, rfl, c1, m1⟩ | ⟨c1, m1⟩
  · rcases hs_0 a2 K C M with ⟨i, hi, rfl, c2, m2⟩ | ⟨c2, m2⟩
    · rcases al_r a3 h with ⟨r, hr, rfl, c3, m3⟩ | ⟨c3, m3⟩
      · rcases fo_ hr (H.2.1 r hr) with ⟨f, hf, hf0, w1, w2⟩ | ⟨R, Q, w1, w2⟩
        · refine rd_ H (f + 2) 0 0 (by omega) ?_ (fun h' S => ?_)
          · unfold ff_X7_fits
            rw [gd_t B, c1, Option.bind_some, if_neg n10, c2, Option.bind_some, if_neg n10, c3, if_neg n10, w1, Option.bind_some, if_neg (nI_ne0 (by omega) (by omega)), rfC hf]; rfl
          · unfold ff_X8_fits
            rw [S.iT (D := D) m1, if_neg n10, S.iH m2, if_neg n10, w2 h' S]; rfl
        · refine rd_ H 0 (bI_ (all_ (ft_ D t i R) 4 0)) 0 (by decide) ?_ (fun h' S => ?_)
          · unfold ff_X7_fits
            rw [gd_t B, c1, Option.bind_some, if_neg n10, c2, Option.bind_some, if_neg n10, c3, if_neg n10, w1, Option.bind_some, if_pos rfl, gd_n hr (by decide), nI_clamp (by omega), cr_C K C ht hi hr Q, Option.bind_some]
            cases all_ (ft_ D t i R) 4 0 <;> rfl
          · unfold ff_X8_fits
            rw [S.iT (D := D) m1, if_neg n10, S.iH m2, if_neg n10, w2 h' S, Option.bind_some]
            dsimp only
            rw [if_pos (show (0 : Int32) ≤ 0 by decide), df_M K (S.oM M) ht hi hr (S.rR hr Q), Option.bind_some]
            cases all_ (ft_ D t i R) 4 0 <;> rfl
      · refine rd_ H 0 (-1) 0 (by decide) ?_ (fun h' S => ?_)
        · unfold ff_X7_fits
          rw [gd_t B, c1, Option.bind_some, if_neg n10, c2, Option.bind_some, if_neg n10, c3, if_pos rfl]; rfl
        · unfold ff_X8_fits ff_X8_askedReading
          rw [S.iT (D := D) m1, if_neg n10, S.iH m2, if_neg n10, ar_b m3]; rfl
    · refine rd_ H 0 (-1) 0 (by decide) ?_ (fun h' S => ?_)
      · unfold ff_X7_fits
        rw [gd_t B, c1, Option.bind_some, if_neg n10, c2, Option.bind_some, if_pos rfl]; rfl
      · unfold ff_X8_fits
        rw [S.iT (D := D) m1, if_neg n10, S.iH m2, if_pos rfl]; rfl
  · refine rd_ H 0 (-1) 0 (by decide) ?_ (fun h' S => ?_)
    · unfold ff_X7_fits
      rw [gd_t B, c1, Option.bind_some, if_pos rfl]; rfl
    · unfold ff_X8_fits
      rw [S.iT (D := D) m1, if_pos rfl]; rfl
/-- a mask of those for which p holds -/
def msk_ (p : Nat → Bool) : Nat → Nat → Int32 → Int32
  | 0, _, x => x
  | d + 1, i, x => msk_ p d (i + 1) (if p i = true then x ||| ((1 : Int32) <<< (nI i &&& 31)) else x)
theorem or_0 (x : Int32) : x ||| 0 = x := by
  cases x with | ofUInt32 y => cases y with | ofBitVec b => exact congrArg (fun z => Int32.ofUInt32 (UInt32.ofBitVec z)) (BitVec.or_zero)
theorem hf_C {o t r : Nat} {h : hh_} {D : od_} {R : Nat → Nat} (K : oK_ D) (C : oC_ o h D) (ht : t < d_t D) (hr : r < 6) (Q : rR_ h r R) : ∀ (d i m : Nat) (x : Int32), i + d = d_m D → ff_X2_headsThatFit_5 o (nI t) (4 + r) h (m + d + 1) x (nI i) = some (msk_ (fun i => all_ (ft_ D t i R) 4 0) d i x) := by
  have k1 := K.1
  intro d
  induction d with
  | zero =>
    intro i m x e
    rw [ff_X2_headsThatFit_5, show Int32.toNatClampNeg 0 = 0 from rfl, C.1, if_pos (nI_le (by omega) (by omega))]; rfl
  | succ d ih =>
    intro i m x e
    rw [show m + (d + 1) + 1 = (m + d + 1) + 1 by omega, ff_X2_headsThatFit_5, show Int32.toNatClampNeg 0 = 0 from rfl, C.1, if_neg (nI_ge (by omega) (by omega)), cr_C K C ht (by omega) hr Q, Option.bind_some, nI_1, ih _ _ _ (by omega), ih _ _ _ (by omega), msk_]
    cases all_ (ft_ D t i R) 4 0 <;> rfl
theorem hf_M {t r : Nat} {h : hh_} {D : od_} {R : Nat → Nat} (K : oK_ D) (M : oM_ h D) (ht : t < d_t D) (hr : r < 6) (Q : rR_ h r R) : ∀ (d i m : Nat) (x : Int32), i + d = d_m D → ff_X8_headsBy_5 (nI t) (nI r) h (m + d + 1) x (nI i) = some (msk_ (fun i => all_ (ft_ D t i R) 4 0) d i x) := by
  have k1 := K.1
  intro d
  induction d with
  | zero =>
    intro i m x e
    rw [ff_X8_headsBy_5, M.1, if_pos (nI_le (by omega) (by omega))]; rfl
  | succ d ih =>
    intro i m x e
    rw [show m + (d + 1) + 1 = (m + d + 1) + 1 by omega, ff_X8_headsBy_5, M.1, if_neg (nI_ge (by omega) (by omega)), df_M K M ht (by omega) hr Q, Option.bind_some, nI_1, or_0, ih _ _ _ (by omega), ih _ _ _ (by omega), msk_]
    cases all_ (ft_ D t i R) 4 0 <;> rfl
def hm_ (D : od_) (R : Nat → Nat) (t : Nat) : Int32 := msk_ (fun i => all_ (ft_ D t i R) 4 0) (d_m D) 0 0
theorem hb_C {o t r : Nat} {h : hh_} {D : od_} {R : Nat → Nat} (K : oK_ D) (C : oC_ o h D) (ht : t < d_t D) (hr : r < 6) (Q : rR_ h r R) : ff_X2_headsThatFit o (nI t) (4 + r) h = some (hm_ D R t) := by
  have k1 := K.1
  unfold ff_X2_headsThatFit
  obtain ⟨k, hk⟩ := fu_ (d_m D) (by omega)
  rw [hk]
  exact hf_C K C ht hr Q _ 0 k _ (by omega)
theorem hb_M {t r : Nat} {h : hh_} {D : od_} {R : Nat → Nat} (K : oK_ D) (M : oM_ h D) (ht : t < d_t D) (hr : r < 6) (Q : rR_ h r R) : ff_X8_headsBy (nI t) (nI r) h = some (hm_ D R t) := by
  have k1 := K.1
  unfold ff_X8_headsBy
  obtain ⟨k, hk⟩ := fu_ (d_m D) (by omega)
  rw [hk]
  exact hf_M K M ht hr Q _ 0 k _ (by omega)
/-- all of them together -/
def orA_ (f : Nat → Int32) : Nat → Nat → Int32 → Int32
  | 0, _, x => x
  | d + 1, t, x => orA_ f d (t + 1) (x ||| f t)
theorem ws_C {a1 : Int32} {r : Nat} {h : hh_} {D : od_} {R : Nat → Nat} {KK : Int32 → Option (Int32 × hh_)} (B : bo_ h.2.2.1 = true) (K : oK_ D) (C : oC_ h.2.2.1 h D) (hr : r < 6) (Q : rR_ h r R) : ∀ (d t m : Nat) (x : Int32), t + d = d_t D → ff_X7_whose_50 a1 (nI r) h KK (m + d + 1) x (nI t) = KK (orA_ (hm_ D R) d t x) := by
  have k1 := K.2.1
  intro d
  induction d with
  | zero =>
    intro t m x e
    rw [ff_X7_whose_50, gd_t B, show Int32.toNatClampNeg 1 = 1 from rfl, C.2.1, if_pos (nI_le (by omega) (by omega))]; rfl
  | succ d ih =>
    intro t m x e
    rw [show m + (d + 1) + 1 = (m + d + 1) + 1 by omega, ff_X7_whose_50, gd_t B, show Int32.toNatClampNeg 1 = 1 from rfl, C.2.1, if_neg (nI_ge (by omega) (by omega)), gd_n hr (by decide), nI_clamp (by omega), hb_C K C (by omega) hr Q, Option.bind_some, nI_1, ih _ _ _ (by omega)]; rfl
theorem ws_M {t0 r : Nat} {h : hh_} {D : od_} {R : Nat → Nat} (K : oK_ D) (M : oM_ h D) (h0 : t0 < d_t D) (hr : r < 6) (Q : rR_ h r R) : ∀ (d t m : Nat) (x : Int32), t + d = d_t D → ff_X8_whose_28 (nI t0) (nI r) h (m + d + 1) x (nI t) = some (hm_ D R t0, mte_ (orA_ (hm_ D R) d t x) h) := by
  have k1 := K.2.1
  intro d
  induction d with
  | zero =>
    intro t m x e
    rw [ff_X8_whose_28, M.2.1, if_pos (nI_le (by omega) (by omega)), hb_M K M h0 hr Q]; rfl
  | succ d ih =>
    intro t m x e
    rw [show m + (d + 1) + 1 = (m + d + 1) + 1 by omega, ff_X8_whose_28, M.2.1, if_neg (nI_ge (by omega) (by omega)), hb_M K M (by omega) hr Q, Option.bind_some, nI_1, ih _ _ _ (by omega)]; rfl
/-- 23: whose -/
theorem st_23 : sp_23 inv_ := by
  intro h a1 a2 H
  obtain ⟨hn, D, F, ds, n, K, C, M, -⟩ := H.2.2.2
  have k1 := K.2.1
  have B := H.2.2.2.nwB
  rcases hs_1 a1 K C M with ⟨t, ht, rfl, c1, m1⟩ | ⟨c1, m1⟩
  · rcases al_r a2 h with ⟨r, hr, rfl, c3, m3⟩ | ⟨c3, m3⟩
    · rcases fo_ hr (H.2.1 r hr) with ⟨f, hf, hf0, w1, w2⟩ | ⟨R, Q, w1, w2⟩
      · refine rd_ H (f + 2) 0 0 (by omega) ?_ (fun h' S => ?_)
        · unfold ff_X7_whose
          rw [gd_t B, c1, Option.bind_some, if_neg n10, c3, if_neg n10, w1, Option.bind_some, if_neg (nI_ne0 (by omega) (by omega)), rfC hf]; rfl
        · unfold ff_X8_whose
          rw [S.iT (D := D) m1, if_neg n10, w2 h' S]; rfl
      · obtain ⟨k, hk⟩ := fu_ (d_t D) (by omega)
        refine rd_ H 1 (hm_ D R t) (orA_ (hm_ D R) (d_t D) 0 0) (by decide) ?_ (fun h' S => ?_)
        · unfold ff_X7_whose
          rw [gd_t B, c1, Option.bind_some, if_neg n10, c3, if_neg n10, w1, Option.bind_some, if_pos rfl, hk]
          refine (ws_C B K C hr Q (d_t D) 0 k 0 (by omega)).trans ?_
          have C' : oC_ h.2.2.1 (ff_X6_tell (orA_ (hm_ D R) (d_t D) 0 0) h).2 D := C.fr K (fun c j q => sI_ne (by have := H.2.2.2.nw; omega))
          have Q' : rR_ (ff_X6_tell (orA_ (hm_ D R) (d_t D) 0 0) h).2 r R := (an_sm 1 0 _ h).rR hr Q
          rw [show (ff_X6_tell (orA_ (hm_ D R) (d_t D) 0 0) h).2.2.2.1 = h.2.2.1 from rfl, gd_t B, gd_n hr (by decide), nI_clamp (by omega), hb_C K C' ht hr Q']; rfl
        · unfold ff_X8_whose
          rw [S.iT (D := D) m1, if_neg n10, w2 h' S, Option.bind_some]
          dsimp only
          rw [if_pos (show (0 : Int32) ≤ 0 by decide), hk]
          exact ws_M K (S.oM M) ht hr (S.rR hr Q) (d_t D) 0 k 0 (by omega)
    · refine rd_ H 0 (-1) 0 (by decide) ?_ (fun h' S => ?_)
      · unfold ff_X7_whose
        rw [gd_t B, c1, Option.bind_some, if_neg n10, c3, if_pos rfl]; rfl
      · unfold ff_X8_whose ff_X8_askedReading
        rw [S.iT (D := D) m1, if_neg n10, ar_b m3]; rfl
  · refine rd_ H 0 (-1) 0 (by decide) ?_ (fun h' S => ?_)
    · unfold ff_X7_whose
      rw [gd_t B, c1, Option.bind_some, if_pos rfl]; rfl
    · unfold ff_X8_whose
      rw [S.iT (D := D) m1, if_pos rfl]; rfl
theorem wo_C {i r : Nat} {h : hh_} {D : od_} {R : Nat → Nat} (B : bo_ h.2.2.1 = true) (K : oK_ D) (C : oC_ h.2.2.1 h D) (hi : i < d_m D) (hr : r < 6) (Q : rR_ h r R) : ∀ (d t m : Nat) (x : Int32), t + d = d_t D → ff_X7_who_50 (nI i) (nI r) h (m + d + 1) x (nI t) = some (msk_ (fun t => all_ (ft_ D t i R) 4 0) d t x, h) := by
  have k1 := K.2.1
  intro d
  induction d with
  | zero =>
    intro t m x e
    rw [ff_X7_who_50, gd_t B, show Int32.toNatClampNeg 1 = 1 from rfl, C.2.1, if_pos (nI_le (by omega) (by omega))]; rfl
  | succ d ih =>
    intro t m x e
    rw [show m + (d + 1) + 1 = (m + d + 1) + 1 by omega, ff_X7_who_50, gd_t B, show Int32.toNatClampNeg 1 = 1 from rfl, C.2.1, if_neg (nI_ge (by omega) (by omega)), gd_n hr (by decide), nI_clamp (show r < 2 ^ 31 by omega), cr_C K C (by omega) hi hr Q, Option.bind_some, nI_1, ih _ _ _ (by omega), ih _ _ _ (by omega), msk_]
    cases all_ (ft_ D t i R) 4 0 <;> rfl
theorem wo_M {i r : Nat} {h : hh_} {D : od_} {R : Nat → Nat} (K : oK_ D) (M : oM_ h D) (hi : i < d_m D) (hr : r < 6) (Q : rR_ h r R) : ∀ (d t m : Nat) (x : Int32), t + d = d_t D → ff_X8_who_28 (nI i) (nI r) h (m + d + 1) x (nI t) = some (msk_ (fun t => all_ (ft_ D t i R) 4 0) d t x, h) := by
  have k1 := K.2.1
  intro d
  induction d with
  | zero =>
    intro t m x e
    rw [ff_X8_who_28, M.2.1, if_pos (nI_le (by omega) (by omega))]; rfl
  | succ d ih =>
    intro t m x e
    rw [show m + (d + 1) + 1 = (m + d + 1) + 1 by omega, ff_X8_who_28, M.2.1, if_neg (nI_ge (by omega) (by omega)), df_M K M (by omega) hi hr Q, Option.bind_some, nI_1, or_0, ih _ _ _ (by omega), ih _ _ _ (by omega), msk_]
    cases all_ (ft_ D t i R) 4 0 <;> rfl
/-- 24: who -/
theorem st_24 : sp_24 inv_ := by
  intro h a1 a2 H
  obtain ⟨hn, D, F, ds, n, K, C, M, -⟩ := H.2.2.2
  have k1 := K.2.1
  have B := H.2.2.2.nwB
  rcases hs_0 a1 K C M with ⟨i, hi, rfl, c1, m1⟩ | ⟨c1, m1⟩
  · rcases al_r a2 h with ⟨r, hr, rfl, c3, m3⟩ | ⟨c3, m3⟩
    · rcases fo_ hr (H.2.1 r hr) with ⟨f, hf, hf0, w1, w2⟩ | ⟨R, Q, w1, w2⟩
      · refine rd_ H (f + 2) 0 0 (by omega) ?_ (fun h' S => ?_)
        · unfold ff_X7_who
          rw [gd_t B, c1, Option.bind_some, if_neg n10, c3, if_neg n10, w1, Option.bind_some, if_neg (nI_ne0 (by omega) (by omega)), rfC hf]; rfl
        · unfold ff_X8_who
          rw [S.iH m1, if_neg n10, w2 h' S]; rfl
      · obtain ⟨k, hk⟩ := fu_ (d_t D) (by omega)
        refine rd_ H 0 (msk_ (fun t => all_ (ft_ D t i R) 4 0) (d_t D) 0 0) 0 (by decide) ?_ (fun h' S => ?_)
        · unfold ff_X7_who
          rw [gd_t B, c1, Option.bind_some, if_neg n10, c3, if_neg n10, w1, Option.bind_some, if_pos rfl, hk]
          exact wo_C B K C hi hr Q (d_t D) 0 k 0 (by omega)
        · unfold ff_X8_who
          rw [S.iH m1, if_neg n10, w2 h' S, Option.bind_some]
          dsimp only
          rw [if_pos (show (0 : Int32) ≤ 0 by decide), hk]
          exact wo_M K (S.oM M) hi hr (S.rR hr Q) (d_t D) 0 k 0 (by omega)
    · refine rd_ H 0 (-1) 0 (by decide) ?_ (fun h' S => ?_)
      · unfold ff_X7_who
        rw [gd_t B, c1, Option.bind_some, if_neg n10, c3, if_pos rfl]; rfl
      · unfold ff_X8_who ff_X8_askedReading
        rw [S.iH m1, if_neg n10, ar_b m3]; rfl
  · refine rd_ H 0 (-1) 0 (by decide) ?_ (fun h' S => ?_)
    · unfold ff_X7_who
      rw [gd_t B, c1, Option.bind_some, if_pos rfl]; rfl
    · unfold ff_X8_who
      rw [S.iH m1, if_pos rfl]; rfl
