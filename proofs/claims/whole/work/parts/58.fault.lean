/-! ===== fault, office ===== -/
theorem z_18 {o n : Nat} {x2 : Nat} {x3 : Int32} {KK : hh_ → Option (Int32 × hh_)} {h : hh_} (bo : bo_ o = true) (eo : h.2.2.2.2 = o) : ff_X4_into_18 x2 x3 KK FU_ 0 h = KK (hh_sI (hh_sI (hh_sI h (o + 23) 0 0) (o + 23) 1 0) (o + 23) 2 0) := by
  obtain ⟨k, hk⟩ := fu_ 3 (by decide)
  have st : ∀ (j m : Nat) (g : hh_), g.2.2.2.2 = o → j < 3 → ff_X4_into_18 x2 x3 KK (m + 1) (nI j) g = ff_X4_into_18 x2 x3 KK m (nI (j + 1)) (hh_sI g (o + 23) j 0) := by
    intro j m g eg hj
    rw [ff_X4_into_18, eg, gd_t bo, if_neg (show ¬ (3 : Int32) ≤ nI j from nI_ge (b := 3) hj (by omega)), gd_n hj (by decide), nI_clamp (by omega), nI_1]
  rw [hk]
  refine (st 0 (k + 3) h eo (by decide)).trans ((st 1 (k + 2) (hh_sI h (o + 23) 0 0) eo (by decide)).trans ((st 2 (k + 1) (hh_sI (hh_sI h (o + 23) 0 0) (o + 23) 1 0) eo (by decide)).trans ?_))
  rw [ff_X4_into_18, show (hh_sI (hh_sI (hh_sI h (o + 23) 0 0) (o + 23) 1 0) (o + 23) 2 0).2.2.2.2 = o from eo, gd_t bo, if_pos (by decide)]
theorem z_into {o r n : Nat} {h hM : hh_} (bo : bo_ o = true) (ho : o = 39 ∨ o = 64) (hr : r < 4) (hn : n ≤ 80) (ZM : zM_ r n (fun x => h.1 (13 + r) x) hM) : ∃ v hC' hM', ff_X4_into o (13 + r) (nI n) h = some (v, hC') ∧ ff_X8_goesOn (nI r) hM = some (v, hM') ∧ (hC'.2.1 = h.2.1 ∧ hC'.2.2.1 = h.2.2.1 ∧ hC'.2.2.2.1 = h.2.2.2.1) ∧ (∀ c j, c ≠ 19 → ¬ (o ≤ c ∧ c ≤ o + 24) → hC'.1 c j = h.1 c j) ∧ fM2_ hM hM' ∧ (v = -9 → ∃ a b c, 0 < a ∧ zR_ o a b c hC' hM') := by
  obtain ⟨m, hm⟩ := fu_ n (by omega)
  obtain ⟨hB, eB⟩ : ∃ hB, hB = hh_sI (hh_sI (hh_sI (hh_sI (hh_sI (hh_sO h o) 19 1 0) 19 2 0) (o + 23) 0 0) (o + 23) 1 0) (o + 23) 2 0 := ⟨_, rfl⟩
  obtain ⟨hN, eN⟩ : ∃ hN, hN = hh_sI (hh_sI (hh_sI (hh_sI hM 98 16 0) 98 17 0) 98 18 0) 98 19 0 := ⟨_, rfl⟩
  have B1 : ∀ c j, c ≠ 19 → ¬ (o ≤ c ∧ c ≤ o + 24) → hB.1 c j = h.1 c j := fun c j q1 q2 => by
    rw [eB, sI_ne (by omega), sI_ne (by omega), sI_ne (by omega), sI_ne q1, sI_ne q1]
    rfl
  have N1 : ∀ c j, c ≠ 98 → hN.1 c j = hM.1 c j := fun c j q => by rw [eN, sI_ne q, sI_ne q, sI_ne q, sI_ne q]
  have N2 : fM2_ hM hN := ⟨by rw [eN]; rfl, fun c j q1 q2 => by
    by_cases q : c = 98
    · subst q
      rw [eN, sI_nj (by omega), sI_nj (by omega), sI_nj (by omega), sI_nj (by omega)]
    · exact N1 c j q⟩
  have Z : zS_ o r n (fun x => h.1 (13 + r) x) 0 0 0 0 hB hN := by
    refine ⟨⟨by rw [eB]; rfl, fun x hx => B1 _ _ (by omega) (by omega)⟩, ZM.fr (h := hM) (fun y => N1 _ _ (by decide)) (fun y => N1 _ _ (by decide)), ?_, ?_, ?_, by omega, by omega, by omega, ?_, ?_, ?_, ?_, ?_, ?_, fun i hi => absurd hi (by omega), fun i hi => absurd hi (by omega), fun i hi => absurd hi (by omega)⟩
    · rw [eB, sI_ne (by omega), sI_ne (by omega), sI_ne (by omega), sI_nj (by decide), sI_eq]; rfl
    · rw [eB, sI_ne (by omega), sI_ne (by omega), sI_ne (by omega), sI_eq]; rfl
    · rw [eN, sI_nj (by decide), sI_nj (by decide), sI_nj (by decide), sI_eq]; rfl
    · rw [eB, sI_nj (by decide), sI_nj (by decide), sI_eq]; rfl
    · rw [eB, sI_nj (by decide), sI_eq]; rfl
    · rw [eB, sI_eq]; rfl
    · rw [eN, sI_nj (by decide), sI_nj (by decide), sI_eq]; rfl
    · rw [eN, sI_nj (by decide), sI_eq]; rfl
    · rw [eN, sI_eq]; rfl
  obtain ⟨v, hC', hM', w1, w2, w3, w4, w5⟩ := z_scan bo ho hr hn n n (Nat.le_refl _) 0 0 0 0 m m hB hN (by omega) Z (fun _ => ⟨rfl, rfl⟩)
  rw [Nat.sub_zero] at w1 w2
  have B2 : hB.2 = (hh_sO h o).2 := by rw [eB]; rfl
  refine ⟨v, hC', hM', ?_, ?_, ⟨by rw [w3.1, B2]; rfl, by rw [w3.1, B2]; rfl, by rw [w3.1, B2]; rfl⟩, fun c j q1 q2 => (w3.2 c j q1 q2).trans (B1 c j q1 q2), N2.t w4, w5⟩
  · unfold ff_X4_into
    rw [z_18 (o := o) (n := n) bo rfl]
    rw [← eB, hm]
    exact w1
  · unfold ff_X8_goesOn
    rw [← eN, hm]
    exact w2
/-- what both scans leave, for the invariant -/
theorem z_inv {h h1 h2 : hh_} (H : inv_ h) (c1 : h1.2.1 = h.2.1 ∧ h1.2.2.1 = h.2.2.1 ∧ h1.2.2.2.1 = h.2.2.2.1) (c2 : ∀ c j, c ≠ 19 → ¬ (h.2.2.2.1 ≤ c ∧ c ≤ h.2.2.2.1 + 24) → h1.1 c j = h.1 c j) (m1 : fM2_ h1 h2) : inv_ h2 := by
  have hn := H.2.2.2.1
  refine inv_scr H (fun c j q => ?_) (fun c j q => by rw [m1.1, c1.1]) (by rw [m1.1]; exact c1.2)
  unfold sc_ fO_ at q
  rw [m1.2 c j (by omega) (by omega), c2 c j (by omega) (by omega)]
theorem z_od {h : hh_} (H : inv_ h) : (h.2.2.2.1 = 39 ∨ h.2.2.2.1 = 64) ∧ bo_ h.2.2.2.1 = true := by
  rcases H.2.2.2.1 with ⟨q1, q2⟩ | ⟨q1, q2⟩ <;> rw [q2]
  · exact ⟨Or.inr rfl, rfl⟩
  · exact ⟨Or.inl rfl, rfl⟩
/-- 8: fault -/
theorem st_8 : sp_8 inv_ := by
  intro h a1 H
  obtain ⟨ho, bo⟩ := z_od H
  rcases al_t a1 h with ⟨r, hr, rfl, q1, q2⟩ | ⟨q1, q2⟩
  · rcases lk_t hr (H.2.2.1 r hr) with ⟨l0, l1⟩ | ⟨n, hn, l0, l1, l2, l3⟩
    · refine rd_ H 3 (-3) 0 (by decide) ?_ (fun h' S => ?_)
      · unfold ff_X7_fault
        rw [q1, if_neg n10, l0, Option.bind_some, if_neg n10, show (1 : Int32) = nI 1 from rfl, rfC (by decide)]
        rfl
      · unfold ff_X8_fault
        rw [at_n hr (by rw [S _ _ (by decide) (by decide)]; exact l1), Option.bind_some, if_neg m3_neg]
        rfl
    · obtain ⟨v0, h1, g0, w1, -, c1, c2, -, -⟩ := z_into (hM := h) bo ho hr hn ⟨l2, fun x hx => (l3 x hx).symm⟩
      have ZM : zM_ r n (fun x => h.1 (13 + r) x) h1 := ⟨by rw [c2 _ _ (by decide) (by omega)]; exact l2, fun x hx => by rw [c2 _ _ (by decide) (by omega)]; exact (l3 x hx).symm⟩
      obtain ⟨v, h1', h2, u1, u2, -, -, u3, -⟩ := z_into bo ho hr hn ZM
      have e0 := Option.some.inj (w1.symm.trans u1)
      have ev : v0 = v := congrArg Prod.fst e0
      subst ev
      refine ⟨v0, h1, h2, ?_, ?_, z_inv H c1 c2 u3⟩
      · unfold ff_X7_fault
        rw [q1, if_neg n10, l0, Option.bind_some, if_pos rfl, gd_t bo, gd_n hr (by decide), nI_clamp (by omega), l1, w1, Option.bind_some]
      · unfold ff_X8_fault
        rw [at_s hr (show n < 2 ^ 31 by omega) ZM.1, Option.bind_some, if_pos (show (0 : Int32) ≤ 0 by decide), u2, Option.bind_some]
  · refine rd_ H 0 (-1) 0 (by decide) ?_ (fun h' S => ?_)
    · unfold ff_X7_fault
      rw [q1, if_pos rfl]; rfl
    · unfold ff_X8_fault
      rw [at_b q2, Option.bind_some, if_neg (show ¬ (0 : Int32) ≤ -1 by decide)]; rfl
/-! the reference takes the office over -/
theorem z_51 {g : Nat → Int32} {KK : hh_ → Option (Int32 × hh_)} : ∀ (d x m : Nat) (h : hh_), x + d = 25 → (∀ j, j < 25 → h.1 108 j = g j) → ff_X8_office_51 KK (m + d + 1) (nI x) h = KK (fg_ h 105 0 x 25 g) := by
  intro d
  induction d with
  | zero =>
    intro x m h e eg
    have e : x = 25 := by omega
    subst e
    rw [ff_X8_office_51, if_pos (by decide), fg_0]
  | succ d ih =>
    intro x m h e eg
    rw [show m + (d + 1) + 1 = (m + d + 1) + 1 by omega, ff_X8_office_51, if_neg (show ¬ (25 : Int32) ≤ nI x from nI_ge (b := 25) (by omega) (by omega)), gd_n (by omega) (by decide), gd_n (by omega) (by decide), nI_clamp (by omega), eg x (by omega), nI_1, ih (x + 1) m (hh_sI h 105 x (g x)) (by omega) (fun j hj => by rw [sI_ne (by decide)]; exact eg j hj)]
    have v := fg_s (h := h) (k := 105) (b := 0) (a := x) (n := 25) (g := g) (by omega)
    rw [Nat.zero_add] at v
    rw [v]
theorem z_77 {g : Nat → Int32} {KK : hh_ → Option (Int32 × hh_)} : ∀ (d x m : Nat) (h : hh_), x + d = 12 → (∀ j, j < 12 → h.1 108 (25 + j) = g j) → ff_X8_office_77 KK (m + d + 1) (nI x) h = KK (fg_ h 106 0 x 12 g) := by
  intro d
  induction d with
  | zero =>
    intro x m h e eg
    have e : x = 12 := by omega
    subst e
    rw [ff_X8_office_77, if_pos (by decide), fg_0]
  | succ d ih =>
    intro x m h e eg
    rw [show m + (d + 1) + 1 = (m + d + 1) + 1 by omega, ff_X8_office_77, if_neg (show ¬ (12 : Int32) ≤ nI x from nI_ge (b := 12) (by omega) (by omega)), show (25 : Int32) + nI x = nI (25 + x) from nI_add 25 x, gd_n (by omega) (by decide), gd_n (by omega) (by decide), nI_clamp (by omega), nI_clamp (by omega), eg x (by omega), nI_1, ih (x + 1) m (hh_sI h 106 x (g x)) (by omega) (fun j hj => by rw [sI_ne (by decide)]; exact eg j hj)]
    have v := fg_s (h := h) (k := 106) (b := 0) (a := x) (n := 12) (g := g) (by omega)
    rw [Nat.zero_add] at v
    rw [v]
theorem z_106 {g : Nat → Int32} {KK : hh_ → Option (Int32 × hh_)} : ∀ (d x m : Nat) (h : hh_), x + d = 20 → (∀ j, j < 20 → h.1 108 (37 + j) = g j) → ff_X8_office_106 KK (m + d + 1) (nI x) h = KK (fg_ h 107 0 x 20 g) := by
  intro d
  induction d with
  | zero =>
    intro x m h e eg
    have e : x = 20 := by omega
    subst e
    rw [ff_X8_office_106, if_pos (by decide), fg_0]
  | succ d ih =>
    intro x m h e eg
    rw [show m + (d + 1) + 1 = (m + d + 1) + 1 by omega, ff_X8_office_106, if_neg (show ¬ (20 : Int32) ≤ nI x from nI_ge (b := 20) (by omega) (by omega)), show (37 : Int32) + nI x = nI (37 + x) from nI_add 37 x, gd_n (by omega) (by decide), gd_n (by omega) (by decide), nI_clamp (by omega), nI_clamp (by omega), eg x (by omega), nI_1, ih (x + 1) m (hh_sI h 107 x (g x)) (by omega) (fun j hj => by rw [sI_ne (by decide)]; exact eg j hj)]
    have v := fg_s (h := h) (k := 107) (b := 0) (a := x) (n := 20) (g := g) (by omega)
    rw [Nat.zero_add] at v
    rw [v]
theorem z_140 {h : hh_} : ff_X8_office_140 FU_ 0 h = some (h.1 98 10, hh_sI (hh_sI (hh_sI h 110 0 (-9)) 110 1030 (-9)) 110 2060 (-9)) := by
  obtain ⟨k, hk⟩ := fu_ 3 (by decide)
  have st : ∀ (j m : Nat) (g : hh_), j < 3 → ff_X8_office_140 (m + 1) (nI j) g = ff_X8_office_140 m (nI (j + 1)) (hh_sI g 110 (1030 * j) (-9)) := by
    intro j m g hj
    rw [ff_X8_office_140, if_neg (show ¬ (3 : Int32) ≤ nI j from nI_ge (b := 3) hj (by omega)), show (1030 : Int32) = nI 1030 from rfl, pk_mul, gd_n (by omega) (by decide), nI_clamp (by omega), nI_1]
  rw [hk, show (0 : Int32) = nI 0 from rfl, st 0 _ h (by decide), show k + 3 = k + 2 + 1 by omega, st 1 _ _ (by decide), show k + 2 = k + 1 + 1 by omega, st 2 _ _ (by decide), ff_X8_office_140, if_pos (by decide), sI_ne (by decide), sI_ne (by decide), sI_ne (by decide)]
theorem z_98 {o a : Nat} {h : hh_} (ho : o = 39 ∨ o = 64) (bo : bo_ o = true) (eo : h.2.2.1 = o) (e : h.1 (o + 23) 0 = nI a) : ff_X7_office_98 FU_ 0 h = some (nI a, hh_sI (hh_sI (hh_sI h 89 2 (-1)) 92 2 (-1)) 95 2 (-1)) := by
  obtain ⟨k, hk⟩ := fu_ 3 (by decide)
  have st : ∀ (j m : Nat) (g : hh_), j < 3 → ff_X7_office_98 (m + 1) (nI j) g = ff_X7_office_98 m (nI (j + 1)) (hh_sI g (89 + 3 * j) 2 (-1)) := by
    intro j m g hj
    rw [ff_X7_office_98, if_neg (show ¬ (3 : Int32) ≤ nI j from nI_ge (b := 3) hj (by omega)), gd_n hj (by decide), nI_clamp (by omega), nI_1]
  rw [hk, show (0 : Int32) = nI 0 from rfl, st 0 _ h (by decide), show k + 3 = k + 2 + 1 by omega, st 1 _ _ (by decide), show k + 2 = k + 1 + 1 by omega, st 2 _ _ (by decide), ff_X7_office_98, if_pos (by decide)]
  have eo' : (hh_sI (hh_sI (hh_sI h (89 + 3 * 0) 2 (-1)) (89 + 3 * 1) 2 (-1)) (89 + 3 * 2) 2 (-1)).2.2.1 = o := eo
  rw [eo', gd_t bo, show Int32.toNatClampNeg 0 = 0 from rfl, sI_ne (by omega), sI_ne (by omega), sI_ne (by omega), e]
