/-! ===== tells ===== -/
def fa_R (h : hh_) (r m : Nat) (R : Nat → Nat) : Prop := ∀ k, k < m → R k ≤ 1 ∧ h.1 (4 + r) k = nI (R k) ∧ h.1 101 (40 * r + k) = nI (R k)
theorem fa_R.sm {h h' : hh_} {r m : Nat} {R : Nat → Nat} (hr : r < 6) (S : sm_ h h') (Q : fa_R h r m R) : fa_R h' r m R := fun k hk => by
  rw [S _ _ (by omega) (by omega), S _ _ (by omega) (by omega)]
  exact Q k hk
theorem fa_38 {h : hh_} {r n : Nat} (hr : r < 6) (hn : n ≤ 5) (e1 : h.1 10 r = nI n) (eM : h.1 98 10 = nI n) (E : ∀ i, i < n → h.1 (4 + r) i = h.1 101 (40 * r + i)) : ∀ (d k m : Nat), k + d = n →
    (ff_X7_findingOfFates_38 (nI r) h (m + d + 1) (nI k) = some (nI 3) ∧ ∀ (h' : hh_) (KK : Option (Int32 × hh_)) (m' : Nat), sm_ h h' → ff_X8_tells_33 (nI r) h' KK (m' + d + 1) (nI k) = some (-3, mre_ 3 h')) ∨
    (ff_X7_findingOfFates_38 (nI r) h (m + d + 1) (nI k) = some 0 ∧ (∀ (h' : hh_) (KK : Option (Int32 × hh_)) (m' : Nat), sm_ h h' → ff_X8_tells_33 (nI r) h' KK (m' + d + 1) (nI k) = KK) ∧ ∀ x, k ≤ x → x < n → ∃ v, v ≤ 1 ∧ h.1 (4 + r) x = nI v) := by
  intro d
  induction d with
  | zero =>
    intro k m e
    refine Or.inr ⟨?_, fun h' KK m' S => ?_, fun x h1 h2 => by omega⟩
    · rw [ff_X7_findingOfFates_38, gd_n hr (by decide), nI_clamp (by omega), e1, if_pos (nI_le (by omega) (by omega))]
    · rw [ff_X8_tells_33, S _ _ (by decide) (by decide), eM, if_pos (nI_le (by omega) (by omega))]
  | succ d ih =>
    intro k m e
    have cl : ff_X7_findingOfFates_38 (nI r) h (m + (d + 1) + 1) (nI k) = if h.1 (4 + r) k = 0 then ff_X7_findingOfFates_38 (nI r) h (m + d + 1) (nI (k + 1)) else if h.1 (4 + r) k = 1 then ff_X7_findingOfFates_38 (nI r) h (m + d + 1) (nI (k + 1)) else some 3 := by
      rw [show m + (d + 1) + 1 = (m + d + 1) + 1 by omega, ff_X7_findingOfFates_38, gd_n hr (by decide), nI_clamp (show r < 2 ^ 31 by omega), e1, if_neg (nI_ge (by omega) (by omega)), gd_n (by omega) (by decide), nI_clamp (by omega), nI_1]
    have ml : ∀ (h' : hh_) (KK : Option (Int32 × hh_)) (m' : Nat), sm_ h h' → ff_X8_tells_33 (nI r) h' KK (m' + (d + 1) + 1) (nI k) = if ff_X8_in (h.1 (4 + r) k) 0 1 = 0 then some (-3, mre_ 3 h') else ff_X8_tells_33 (nI r) h' KK (m' + d + 1) (nI (k + 1)) := by
      intro h' KK m' S
      rw [show m' + (d + 1) + 1 = (m' + d + 1) + 1 by omega, ff_X8_tells_33, S _ _ (by decide) (by decide), eM, if_neg (nI_ge (by omega) (by omega)), ra_ h' hr (by omega), Option.bind_some, S _ _ (by decide) (by decide), ← E k (by omega), nI_1, show (3 : Int32) = nI 3 from rfl, rfM (by decide)]
      rfl
    rcases rg_ (h.1 (4 + r) k) 1 (by decide) with ⟨v, hv, ev, n1, n2, m3⟩ | ⟨n1, m3⟩
    · have cl2 : ff_X7_findingOfFates_38 (nI r) h (m + (d + 1) + 1) (nI k) = ff_X7_findingOfFates_38 (nI r) h (m + d + 1) (nI (k + 1)) := by
        rw [cl, ev]
        rcases (show v = 0 ∨ v = 1 by omega) with rfl | rfl
        · rw [if_pos (by decide)]
        · rw [if_neg (by decide), if_pos (by decide)]
      have ml2 : ∀ (h' : hh_) (KK : Option (Int32 × hh_)) (m' : Nat), sm_ h h' → ff_X8_tells_33 (nI r) h' KK (m' + (d + 1) + 1) (nI k) = ff_X8_tells_33 (nI r) h' KK (m' + d + 1) (nI (k + 1)) := by
        intro h' KK m' S
        rw [ml h' KK m' S, if_neg (by rw [show (1 : Int32) = nI 1 from rfl, m3]; decide)]
      rcases ih (k + 1) m (by omega) with ⟨w1, w2⟩ | ⟨w1, w2, w3⟩
      · exact Or.inl ⟨cl2.trans w1, fun h' KK m' S => (ml2 h' KK m' S).trans (w2 h' KK m' S)⟩
      · refine Or.inr ⟨cl2.trans w1, fun h' KK m' S => (ml2 h' KK m' S).trans (w2 h' KK m' S), fun x h1 h2 => ?_⟩
        by_cases q : x = k
        · subst q
          exact ⟨v, hv, ev⟩
        · exact w3 x (by omega) h2
    · refine Or.inl ⟨?_, fun h' KK m' S => ?_⟩
      · rw [cl, if_neg, if_neg]
        · rfl
        · intro y
          rw [y] at n1
          exact absurd n1 (by decide)
        · intro y
          rw [y] at n1
          exact absurd n1 (by decide)
      · rw [ml h' KK m' S, show (1 : Int32) = nI 1 from rfl, m3, if_pos rfl]
/-! masks of places -/
def cq_ (q : Nat → Bool) (j : Nat) (x : Int32) : Int32 := if q j = true then x &&& (-1 : Int32) else x &&& (((1 : Int32) <<< (nI j &&& 31)) ^^^ (-1 : Int32))
theorem cq4 (a0 a1 a2 a3 b0 b1 b2 b3 : Bool) : fld_ (cq_ (b5_ b0 b1 b2 b3 false)) 4 0 (msk_ (b5_ a0 a1 a2 a3 false) 4 0 0) = msk_ (b5_ (a0 && b0) (a1 && b1) (a2 && b2) (a3 && b3) false) 4 0 0 := by
  cases a0 <;> cases a1 <;> cases a2 <;> cases a3 <;> cases b0 <;> cases b1 <;> cases b2 <;> cases b3 <;> decide +kernel
theorem cq_m {p q : Nat → Bool} : fld_ (cq_ q) 4 0 (msk_ p 4 0 0) = msk_ (fun k => p k && q k) 4 0 0 := by
  rw [msk_c (p := p) (q := b5_ (p 0) (p 1) (p 2) (p 3) false) 4 0 0 (fun k _ h => b4_p (by omega)), msk_c (p := fun k => p k && q k) (q := b5_ (p 0 && q 0) (p 1 && q 1) (p 2 && q 2) (p 3 && q 3) false) 4 0 0 (fun k _ h => b4_p (p := fun k => p k && q k) (by omega)), ← cq4]
  exact fld_c 4 0 _ (fun k y _ h => by unfold cq_; rw [b4_p (p := q) (show k < 4 by omega)])
def ab_ (D : od_) (i k j : Nat) : Bool := decide (d_H D k j < d_H D i j)
theorem pa_C {o i k : Nat} {h : hh_} {D : od_} (K : oK_ D) (C : oC_ o h D) (hi : i < d_m D) (hk : k < d_m D) : ∀ (d j m : Nat) (x : Int32), j + d = 4 → ff_X2_placesAbove_5 o (nI i) (nI k) h (m + d + 1) x (nI j) = some (msk_ (ab_ D i k) d j x) := by
  have m5 := K.1
  intro d
  induction d with
  | zero =>
    intro j m x e
    rw [ff_X2_placesAbove_5, if_pos (show (4 : Int32) ≤ nI j from nI_le (a := 4) (by omega) (by omega))]
    rfl
  | succ d ih =>
    intro j m x e
    have b1 := (K.2.2.2.2.1 i hi).1 j (by omega)
    have b2 := (K.2.2.2.2.1 k hk).1 j (by omega)
    rw [show m + (d + 1) + 1 = (m + d + 1) + 1 by omega, ff_X2_placesAbove_5, if_neg (show ¬ (4 : Int32) ≤ nI j from nI_ge (b := 4) (by omega) (by omega)), gd_n (by omega) (by decide), gd_n (by omega) (by decide), gd_n (by omega) (by decide), nI_clamp (by omega), nI_clamp (by omega), nI_clamp (by omega), C.2.2.2.1 i hi j (by omega), C.2.2.2.1 k hk j (by omega), nI_1, msk_]
    by_cases q : d_H D i j ≤ d_H D k j
    · rw [if_pos (nI_le q (by omega)), if_neg (show ¬ ab_ D i k j = true by unfold ab_; rw [decide_eq_true_eq]; omega), ih _ _ _ (by omega)]
    · rw [if_neg (nI_ge (by omega) (by omega)), if_pos (show ab_ D i k j = true by unfold ab_; rw [decide_eq_true_eq]; omega), ih _ _ _ (by omega)]
/-- a pair of HEADS: the places above, how often above together -/
def ts_ (D : od_) (R : Nat → Nat) (i : Nat) : Nat → Nat → (Nat → Bool) × Nat → (Nat → Bool) × Nat
  | 0, _, z => z
  | d + 1, k, z => ts_ D R i d (k + 1) (if R i = 1 ∧ R k = 0 then (fun j => z.1 j && ab_ D i k j, z.2 + if bt_ D k < bt_ D i then 1 else 0) else z)
def tt_ (D : od_) (R : Nat → Nat) : Nat → Nat → (Nat → Bool) × Nat → (Nat → Bool) × Nat
  | 0, _, z => z
  | d + 1, i, z => tt_ D R d (i + 1) (ts_ D R i (d_m D) 0 z)
theorem bt_le {D : od_} (K : oK_ D) {i : Nat} (hi : i < d_m D) : bt_ D i ≤ 20 := by
  have b := (K.2.2.2.2.1 i hi).1
  have := b 0 (by decide)
  have := b 1 (by decide)
  have := b 2 (by decide)
  have := b 3 (by decide)
  unfold bt_
  omega
theorem t_58 {D : od_} {h : hh_} {r i : Nat} {R : Nat → Nat} {KK : Int32 → Int32 → Option (Int32 × hh_)} (bo : bo_ h.2.2.1 = true) (K : oK_ D) (C : oC_ h.2.2.1 h D) (hr : r < 6) (Q : fa_R h r (d_m D) R) (hi : i < d_m D) : ∀ (d k m : Nat) (z : (Nat → Bool) × Nat), k + d = d_m D → ff_X7_tells_58 (nI r) (nI i) h KK (m + d + 1) (msk_ z.1 4 0 0) (nI z.2) (nI k) = KK (msk_ (ts_ D R i d k z).1 4 0 0) (nI (ts_ D R i d k z).2) := by
  have m5 := K.1
  obtain ⟨f, hf⟩ := fu_ 4 (by decide)
  obtain ⟨r1, r2, -⟩ := Q i hi
  intro d
  induction d with
  | zero =>
    intro k m z e
    rw [ff_X7_tells_58, gd_t bo, show Int32.toNatClampNeg 0 = 0 from rfl, C.1, if_pos (nI_le (by omega) (by omega))]
    rfl
  | succ d ih =>
    intro k m z e
    obtain ⟨s1, s2, -⟩ := Q k (by omega)
    have bi := bt_le K hi
    have bk := bt_le K (show k < d_m D by omega)
    rw [show m + (d + 1) + 1 = (m + d + 1) + 1 by omega, ff_X7_tells_58, gd_t bo, show Int32.toNatClampNeg 0 = 0 from rfl, C.1, if_neg (nI_ge (by omega) (by omega)), gd_n hr (by decide), gd_n (by omega) (by decide), gd_n (by omega) (by decide), nI_clamp (show r < 2 ^ 31 by omega), nI_clamp (show i < 2 ^ 31 by omega), nI_clamp (show k < 2 ^ 31 by omega), r2, s2, nI_1, ts_]
    by_cases q1 : R i = 1
    · rw [if_pos (show nI (R i) = 1 by rw [q1]; rfl)]
      by_cases q2 : R k = 0
      · unfold ff_X2_placesAbove
        rw [if_pos (show nI (R k) = 0 by rw [q2]; rfl), if_pos ⟨q1, q2⟩, hf]
        have pa : ff_X2_placesAbove_5 h.2.2.1 (nI i) (nI k) h (f + 4 + 1) 0 0 = some (msk_ (ab_ D i k) 4 0 0) := pa_C K C hi (by omega) 4 0 f 0 rfl
        rw [pa, Option.bind_some, tg_C K C hi, Option.bind_some, tg_C K C (by omega), Option.bind_some, msk_and (by decide)]
        by_cases q3 : bt_ D i ≤ bt_ D k
        · rw [if_pos (nI_le q3 (by omega)), show nI z.2 + 0 = nI (z.2 + 0) from nI_add _ 0, if_neg (by omega)]
          exact ih (k + 1) m (fun j => z.1 j && ab_ D i k j, z.2 + 0) (by omega)
        · rw [if_neg (nI_ge (by omega) (by omega)), nI_1, if_pos (by omega)]
          exact ih (k + 1) m (fun j => z.1 j && ab_ D i k j, z.2 + 1) (by omega)
      · rw [if_neg (show ¬ nI (R k) = 0 from fun y => q2 ((nI_eq (b := 0) (by omega) (by omega)).mp y)), if_neg (fun y => q2 y.2)]
        exact ih (k + 1) m z (by omega)
    · rw [if_neg (show ¬ nI (R i) = 1 from fun y => q1 ((nI_eq (b := 1) (by omega) (by omega)).mp y)), if_neg (fun y => q1 y.1)]
      exact ih (k + 1) m z (by omega)
theorem t_41 {D : od_} {h : hh_} {r : Nat} {R : Nat → Nat} (bo : bo_ h.2.2.1 = true) (K : oK_ D) (C : oC_ h.2.2.1 h D) (hr : r < 6) (Q : fa_R h r (d_m D) R) : ∀ (d i m : Nat) (z : (Nat → Bool) × Nat), i + d = d_m D → ff_X7_tells_41 (nI r) h (m + d + 1) (msk_ z.1 4 0 0) (nI z.2) (nI i) = some (msk_ (tt_ D R d i z).1 4 0 0, cte_ (nI (tt_ D R d i z).2) h) := by
  have m5 := K.1
  obtain ⟨f, hf⟩ := fu_ (d_m D) (by omega)
  intro d
  induction d with
  | zero =>
    intro i m z e
    rw [ff_X7_tells_41, gd_t bo, show Int32.toNatClampNeg 0 = 0 from rfl, C.1, if_pos (nI_le (by omega) (by omega))]
    rfl
  | succ d ih =>
    intro i m z e
    rw [show m + (d + 1) + 1 = (m + d + 1) + 1 by omega, ff_X7_tells_41, gd_t bo, show Int32.toNatClampNeg 0 = 0 from rfl, C.1, if_neg (nI_ge (by omega) (by omega)), hf]
    refine (t_58 bo K C hr Q (by omega) (d_m D) 0 f z (by omega)).trans ?_
    rw [nI_1, ih (i + 1) m _ (by omega), tt_]
/-! the reference -/
theorem t_158 {D : od_} {h : hh_} {i k : Nat} {x1 x4 : Int32} {b : Bool} {KK : Int32 → Option (Int32 × hh_)} (K : oK_ D) (M : oM_ h D) (hi : i < d_m D) (hk : k < d_m D) : ∀ (d j m : Nat) (x : Int32), j + d = 4 → ff_X8_tells_158 x1 x4 (nI i) (nI k) (bI_ b) h KK (m + d + 1) x (nI j) = KK (fld_ (cq_ (fun j => !b || ab_ D i k j)) d j x) := by
  intro d
  induction d with
  | zero =>
    intro j m x e
    rw [ff_X8_tells_158, if_pos (show (4 : Int32) ≤ nI j from nI_le (a := 4) (by omega) (by omega))]
    rfl
  | succ d ih =>
    intro j m x e
    have b1 := (K.2.2.2.2.1 i hi).1 j (by omega)
    have b2 := (K.2.2.2.2.1 k hk).1 j (by omega)
    rw [show m + (d + 1) + 1 = (m + d + 1) + 1 by omega, ff_X8_tells_158, if_neg (show ¬ (4 : Int32) ≤ nI j from nI_ge (b := 4) (by omega) (by omega)), bu_M K M hi (by omega), Option.bind_some, bu_M K M hk (by omega), Option.bind_some, nI_1, ih _ _ _ (by omega), ih _ _ _ (by omega), fld_s]
    cases b with
    | false => rw [if_pos (show bI_ false = 0 from rfl)]; rfl
    | true =>
      rw [if_neg (show ¬ bI_ true = 0 by decide)]
      by_cases q : d_H D k j < d_H D i j
      · have qe : ab_ D i k j = true := by unfold ab_; exact decide_eq_true q
        rw [if_pos (nI_lt q (by omega)), cq_, if_pos (by rw [qe]; rfl)]
      · have qe : ab_ D i k j = false := by unfold ab_; exact decide_eq_false q
        rw [if_neg (fun y => q ((nI_ltI (by omega) (by omega)).mp y)), cq_, if_neg (by rw [qe]; decide)]
theorem t_88 {D : od_} {h : hh_} {r i : Nat} {R : Nat → Nat} {KK : Int32 → Int32 → Option (Int32 × hh_)} (K : oK_ D) (M : oM_ h D) (hr : r < 6) (Q : fa_R h r (d_m D) R) (hi : i < d_m D) : ∀ (d k m : Nat) (z : (Nat → Bool) × Nat), k + d = d_m D → ff_X8_tells_88 (nI r) (nI i) h KK (m + d + 1) (msk_ z.1 4 0 0) (nI z.2) (nI k) = KK (msk_ (ts_ D R i d k z).1 4 0 0) (nI (ts_ D R i d k z).2) := by
  have m5 := K.1
  obtain ⟨f, hf⟩ := fu_ 4 (by decide)
  obtain ⟨r1, -, r2⟩ := Q i hi
  intro d
  induction d with
  | zero =>
    intro k m z e
    rw [ff_X8_tells_88, M.1, if_pos (nI_le (by omega) (by omega))]
    rfl
  | succ d ih =>
    intro k m z e
    obtain ⟨s1, -, s2⟩ := Q k (by omega)
    have bi := bt_le K hi
    have bk := bt_le K (show k < d_m D by omega)
    have g152 : ∀ (b : Bool) (c : Nat), ff_X8_tells_152 (nI r) (msk_ z.1 4 0 0) (nI i) (nI k) (bI_ b) (nI z.2) (nI c) h (fun z3 z4 z6 => ff_X8_tells_88 (nI r) (nI i) h KK (m + d + 1) z3 z4 z6) = KK (msk_ (ts_ D R i d (k + 1) (fun j => z.1 j && (!b || ab_ D i k j), z.2 + c)).1 4 0 0) (nI (ts_ D R i d (k + 1) (fun j => z.1 j && (!b || ab_ D i k j), z.2 + c)).2) := by
      intro b c
      unfold ff_X8_tells_152
      rw [hf, nI_add]
      refine (t_158 K M hi (by omega) 4 0 f _ rfl).trans ?_
      rw [cq_m, nI_1]
      exact ih (k + 1) m (fun j => z.1 j && (!b || ab_ D i k j), z.2 + c) (by omega)
    have off : ff_X8_tells_123 (nI r) (msk_ z.1 4 0 0) (nI z.2) (nI i) (nI k) 0 h (fun z3 z4 z6 => ff_X8_tells_88 (nI r) (nI i) h KK (m + d + 1) z3 z4 z6) = KK (msk_ (ts_ D R i d (k + 1) z).1 4 0 0) (nI (ts_ D R i d (k + 1) z).2) := by
      unfold ff_X8_tells_123 ff_X8_tells_151
      rw [if_pos rfl]
      refine (g152 false 0).trans ?_
      have ez : (fun j => z.1 j && (!false || ab_ D i k j), z.2 + 0) = z := by
        have : (fun j => z.1 j && (!false || ab_ D i k j)) = z.1 := funext fun j => by rw [Bool.not_false, Bool.true_or, Bool.and_true]
        rw [this]
        rfl
      rw [ez]
    rw [show m + (d + 1) + 1 = (m + d + 1) + 1 by omega, ff_X8_tells_88, M.1, if_neg (nI_ge (by omega) (by omega)), ra_ h hr (by omega), Option.bind_some, ra_ h hr (by omega), Option.bind_some, r2, s2, ts_]
    unfold ff_X8_tells_122
    by_cases q1 : R i = 1
    · rw [if_pos (show nI (R i) = 1 by rw [q1]; rfl)]
      by_cases q2 : R k = 0
      · rw [if_pos (show nI (R k) = 0 by rw [q2]; rfl), if_pos ⟨q1, q2⟩]
        unfold ff_X8_tells_123 ff_X8_tells_151
        rw [if_neg n10, bs_M K M hi, Option.bind_some, bs_M K M (by omega), Option.bind_some]
        by_cases q3 : bt_ D i ≤ bt_ D k
        · rw [if_pos (nI_le q3 (by omega)), if_neg (by omega)]
          exact g152 true 0
        · rw [if_neg (nI_ge (by omega) (by omega)), if_pos (by omega)]
          exact g152 true 1
      · rw [if_neg (show ¬ nI (R k) = 0 from fun y => q2 ((nI_eq (b := 0) (by omega) (by omega)).mp y)), if_neg (fun y => q2 y.2)]
        exact off
    · rw [if_neg (show ¬ nI (R i) = 1 from fun y => q1 ((nI_eq (b := 1) (by omega) (by omega)).mp y)), if_neg (fun y => q1 y.1)]
      exact off
theorem t_76 {D : od_} {h : hh_} {r : Nat} {R : Nat → Nat} (K : oK_ D) (M : oM_ h D) (hr : r < 6) (Q : fa_R h r (d_m D) R) : ∀ (d i m : Nat) (z : (Nat → Bool) × Nat), i + d = d_m D → ff_X8_tells_76 (nI r) h (m + d + 1) (msk_ z.1 4 0 0) (nI z.2) (nI i) = some (msk_ (tt_ D R d i z).1 4 0 0, mte_ (nI (tt_ D R d i z).2) h) := by
  have m5 := K.1
  obtain ⟨f, hf⟩ := fu_ (d_m D) (by omega)
  intro d
  induction d with
  | zero =>
    intro i m z e
    rw [ff_X8_tells_76, M.1, if_pos (nI_le (by omega) (by omega))]
    rfl
  | succ d ih =>
    intro i m z e
    rw [show m + (d + 1) + 1 = (m + d + 1) + 1 by omega, ff_X8_tells_76, M.1, if_neg (nI_ge (by omega) (by omega)), hf]
    refine (t_88 K M hr Q (by omega) (d_m D) 0 f z (by omega)).trans ?_
    rw [nI_1, ih (i + 1) m _ (by omega), tt_]
/-- 39: tells -/
theorem st_39 : sp_39 inv_ := by
  intro h a1 H
  obtain ⟨hn, D, F, ds, n, K, C, M, -⟩ := H.2.2.2
  have bo := H.2.2.2.nwB
  have m5 := K.1
  rcases al_r a1 h with ⟨r, hr, rfl, q1, q2⟩ | ⟨q1, q2⟩
  · rcases lk_r hr (H.2.1 r hr) with ⟨l0, l1⟩ | ⟨n, hn, l0, l1, l2, l3⟩
    · refine rd_ H 3 (-3) 0 (by decide) ?_ (fun h' S => ?_)
      · unfold ff_X7_tells ff_X7_findingOfFates
        rw [q1, if_neg n10, l0, Option.bind_some, if_neg n10, Option.bind_some, if_neg n10, show (1 : Int32) = nI 1 from rfl, rfC (by decide)]
        rfl
      · unfold ff_X8_tells
        rw [ar_n hr (by rw [S _ _ (by decide) (by decide)]; exact l1), Option.bind_some, if_neg m3_neg]
        rfl
    · by_cases nm : n = d_m D
      · subst nm
        obtain ⟨k, hk⟩ := fu_ (d_m D) (by omega)
        have fC : ff_X7_findingOfFates (nI r) h = ff_X7_findingOfFates_38 (nI r) h (k + d_m D + 1) (nI 0) := by
          unfold ff_X7_findingOfFates
          rw [l0, Option.bind_some, if_pos rfl, gd_n hr (by decide), gd_t bo, nI_clamp (by omega), l1, show Int32.toNatClampNeg 0 = 0 from rfl, C.1, if_pos rfl, hk]
          rfl
        have fM : ∀ h', sm_ h h' → ff_X8_tells (nI r) h' = ff_X8_tells_33 (nI r) h' (ff_X8_tells_76 (nI r) h' (k + d_m D + 1) 15 0 0) (k + d_m D + 1) (nI 0) := by
          intro h' S
          have s0 : h'.1 100 r = nI (d_m D) := by rw [S _ _ (by decide) (by decide)]; exact l2
          unfold ff_X8_tells
          rw [ar_s hr (show d_m D < 2 ^ 31 by omega) s0, Option.bind_some, if_pos (show (0 : Int32) ≤ 0 by decide), gd_n hr (by decide), nI_clamp (by omega), s0, (S.oM M).1, if_pos rfl, hk]
          rfl
        rcases fa_38 hr m5 l1 M.1 l3 (d_m D) 0 k (by omega) with ⟨w1, w2⟩ | ⟨w1, w2, w3⟩
        · refine rd_ H 5 (-3) 0 (by decide) ?_ (fun h' S => ?_)
          · unfold ff_X7_tells
            rw [q1, if_neg n10, fC, w1, Option.bind_some, if_neg (by decide), rfC (by decide)]
            rfl
          · rw [fM h' S, w2 h' _ _ S]
            rfl
        · have Q : fa_R h r (d_m D) (fun k => Int32.toNatClampNeg (h.1 (4 + r) k)) := by
            intro k hk
            obtain ⟨v, hv, e1⟩ := w3 k (Nat.zero_le _) hk
            rw [← l3 k hk, e1]
            show Int32.toNatClampNeg (h.1 (4 + r) k) ≤ 1 ∧ nI v = nI (Int32.toNatClampNeg (h.1 (4 + r) k)) ∧ nI v = nI (Int32.toNatClampNeg (h.1 (4 + r) k))
            rw [e1, nI_clamp (by omega)]
            exact ⟨hv, rfl, rfl⟩
          have c41 := t_41 bo K C hr Q (d_m D) 0 k (fun _ => true, 0) (by omega)
          refine rd_ H 1 _ _ (by decide) (c41.symm.trans ?_).symm (fun h' S => ?_)
          · unfold ff_X7_tells
            rw [q1, if_neg n10, fC, w1, Option.bind_some, if_pos rfl, hk]
            rfl
          · rw [fM h' S, w2 h' _ _ S]
            exact t_76 K (S.oM M) hr (Q.sm hr S) (d_m D) 0 k (fun _ => true, 0) (by omega)
      · have nm' : ¬ nI n = nI (d_m D) := fun y => nm ((nI_eq (by omega) (by omega)).mp y)
        refine rd_ H 7 (-3) 0 (by decide) ?_ (fun h' S => ?_)
        · unfold ff_X7_tells ff_X7_findingOfFates
          rw [q1, if_neg n10, l0, Option.bind_some, if_pos rfl, gd_n hr (by decide), gd_t bo, nI_clamp (by omega), l1, show Int32.toNatClampNeg 0 = 0 from rfl, C.1, if_neg nm', Option.bind_some, if_neg (by decide), show (5 : Int32) = nI 5 from rfl, rfC (by decide)]
          rfl
        · have s0 : h'.1 100 r = nI n := by rw [S _ _ (by decide) (by decide)]; exact l2
          unfold ff_X8_tells
          rw [ar_s hr (show n < 2 ^ 31 by omega) s0, Option.bind_some, if_pos (show (0 : Int32) ≤ 0 by decide), gd_n hr (by decide), nI_clamp (by omega), s0, (S.oM M).1, if_neg nm', show (5 : Int32) = nI 5 from rfl, rfM (by decide)]
          rfl
  · refine rd_ H 0 (-1) 0 (by decide) ?_ (fun h' S => ?_)
    · unfold ff_X7_tells
      rw [q1, if_pos rfl]; rfl
    · unfold ff_X8_tells
      rw [ar_b q2, Option.bind_some, if_neg (show ¬ (0 : Int32) ≤ -1 by decide)]; rfl
