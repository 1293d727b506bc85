/-! ===== plan, plans, safest ===== -/
theorem q_G {x : Int32} (h : ∃ k, k < 16 ∧ x = nI k) : x = nI (Int32.toNatClampNeg x) ∧ Int32.toNatClampNeg x < 16 := by
  obtain ⟨k, hk, e⟩ := h
  rw [e, nI_clamp (by omega)]
  exact ⟨rfl, hk⟩
def q_gm (D : od_) (w : Nat → Bool) (i : Nat) : Nat := Int32.toNatClampNeg (mym_ D w i)
theorem q_gm1 {D : od_} (K : oK_ D) {w : Nat → Bool} {i : Nat} : mym_ D w i = nI (q_gm D w i) ∧ q_gm D w i < 16 := q_G (q_mk K.2.2.1)
/-- what the reference's search leaves -/
def q_sM (h h' : hh_) : Prop := h'.2.2 = h.2.2 ∧ (∀ c j, c ≠ 111 → c ≠ 112 → c ≠ 113 → ¬ (c = 98 ∧ j = 27) → h'.1 c j = h.1 c j) ∧ ∀ c j, ¬ (c = 98 ∧ j = 28) → h'.2.1 c j = h.2.1 c j
theorem q_go {x1 : Int32} {w : Nat → Bool} {D : od_} {h : hh_} (K : oK_ D) (W : nm_ D x1 w) (M : oM_ h D) : ∃ h', ff_X8_goPlans x1 h = some h' ∧ q_sM h h' ∧ h'.2.1 98 28 = lN (q_wn D (q_gm D w) (d_m D) 0 0) ∧ h'.1 98 27 = nI (q_bp D (q_gm D w) (d_m D) 0 0) ∧ ∀ j, j < d_m D → h'.1 113 j = q_cv (q_gp D (q_gm D w) (d_m D) 0 0 j) := by
  have m5 := K.1
  have p4 := K.2.2.1
  have m4 := (q_m4 (d_p D) (by omega)).2
  obtain ⟨k, hk⟩ := fu_ (d_m D) (by omega)
  have l1 := lm2 K W (d_m D) 0 k h (by omega) M
  have S : q_st D (q_gm D w) 0 (hh_sL (hh_sI (fg_ h 111 0 0 (d_m D) (mym_ D w)) 98 27 (-1)) 98 28 0) := by
    refine ⟨?_, fun i hi => ?_, ?_⟩
    · refine M.fr (fun c j u => ?_)
      show (hh_sI (fg_ h 111 0 0 (d_m D) (mym_ D w)) 98 27 (-1)).1 c j = _
      by_cases y : c = 98
      · subst y
        rw [sI_nj (by omega), fg_ne (by omega)]
      · rw [sI_ne y, fg_ne (by omega)]
    · show (hh_sI (fg_ h 111 0 0 (d_m D) (mym_ D w)) 98 27 (-1)).1 111 i = _
      rw [sI_ne (by decide), fg_in0 (Nat.zero_le _) hi]
      exact (q_gm1 K).1
    · show (hh_sI (fg_ h 111 0 0 (d_m D) (mym_ D w)) 98 27 (-1)).1 98 27 = _
      rw [sI_eq]
      rfl
  obtain ⟨h', w1, r1, r2, r3, r4, r5, r6, r7⟩ := q_pO K (fun i _ => (q_gm1 K).2) (d_m D) (9 - d_m D) 0 0 0 0 _ (by omega) (by omega) (by omega) (by omega) S
  refine ⟨h', ?_, ⟨r1, fun c j h1 h2 h3 h4 => ?_, fun c j h1 => ?_⟩, ?_, ?_, fun j hj => ?_⟩
  · unfold ff_X8_goPlans ff_X8_layMay
    rw [hk, show (0 : Int32) = nI 0 from rfl, l1, Option.bind_some]
    have ep : (hh_sL (hh_sI (fg_ h 111 0 0 (d_m D) (mym_ D w)) 98 27 (-1)) 98 28 0).1 98 12 = nI (d_p D) := S.1.2.2.1
    rw [ep, m4.1]
    have e9 : 9 - d_m D + d_m D + 1 = 10 := by omega
    rw [e9] at w1
    rw [w1]
    rfl
  · rw [r2 c j h2 h3 h4]
    show (hh_sI (fg_ h 111 0 0 (d_m D) (mym_ D w)) 98 27 (-1)).1 c j = _
    by_cases y : c = 98
    · subst y
      rw [sI_nj (by omega), fg_ne (by omega)]
    · rw [sI_ne y, fg_ne h1]
  · rw [r4 c j h1]
    by_cases y : c = 98
    · subst y
      rw [sL_nj (by omega)]
      rfl
    · rw [sL_ne y]
      rfl
  · rw [r5, sL_eq, show (0 : Int64) = lN 0 from rfl, lN_add, Nat.zero_add]
  · rw [r6, show max 0 (0 + q_bp D (q_gm D w) (d_m D) 0 0 + 1) = q_bp D (q_gm D w) (d_m D) 0 0 + 1 by omega, q_bsS]
  · rw [r7 j hj, if_pos (by omega), if_neg (by omega)]
theorem q_12 {r N : Nat} {g : Nat → Int32} (hr : r < 6) (hN : N ≤ 5) : ∀ (d i m : Nat) (h : hh_), i + d = N → h.1 98 10 = nI N → (∀ j, j < N → h.1 113 j = g j) → ff_X8_layPlan_12 (nI r) (m + d + 1) (nI i) h = some (h.1 98 27, fg_ h 101 (40 * r) i N g) := by
  intro d
  induction d with
  | zero =>
    intro i m h e e1 e2
    have e : i = N := by omega
    subst e
    rw [ff_X8_layPlan_12, e1, if_pos (nI_le (by omega) (by omega)), fg_0]
  | succ d ih =>
    intro i m h e e1 e2
    rw [show m + (d + 1) + 1 = (m + d + 1) + 1 by omega, ff_X8_layPlan_12, e1, if_neg (nI_ge (by omega) (by omega)), gd_n (by omega) (by decide), nI_clamp (by omega), e2 i (by omega), sr_ h hr (by omega), Option.bind_some, nI_1, ih (i + 1) m (hh_sI h 101 (40 * r + i) (g i)) (by omega) (by rw [sI_ne (by decide)]; exact e1) (fun j hj => by rw [sI_ne (by decide)]; exact e2 j hj), fg_s (by omega), sI_ne (by decide)]
/-- rows changed too -/
theorem inv_scR {h h' : hh_} (H : inv_ h) (e : ∀ k j, sc_ h k j → ¬ ((4 ≤ k ∧ k ≤ 10) ∨ k = 100 ∨ k = 101) → h'.1 k j = h.1 k j) (eL : ∀ k j, k = 36 ∨ (k = 98 ∧ (j = 3 ∨ j = 4)) → h'.2.1 k j = h.2.1 k j) (er : h'.2.2.1 = h.2.2.1 ∧ h'.2.2.2.1 = h.2.2.2.1) (hR : iR_ h') : inv_ h' := by
  obtain ⟨hT, -, hX, hO⟩ := H
  refine ⟨hT.fr (fun k j q => e _ _ ?_ ?_) eL, hR, hX.fr (fun k j q => e _ _ ?_ ?_), iO_.fr (h := h) er (fun k j q => e _ _ ?_ ?_) hO⟩
  · unfold sc_; omega
  · omega
  · unfold sc_; omega
  · omega
  · unfold sc_; exact Or.inr (Or.inr (Or.inr (Or.inr (Or.inr (Or.inr (Or.inr (Or.inr q)))))))
  · have := hO.nw
    unfold fO_ at q
    omega
/-- masks open in the class, the reference's the same: a best plan laid into a row -/
theorem q_lay {D : od_} {r : Nat} {w : Nat → Bool} {x1 : Int32} {h hA : hh_} (H : inv_ h) (K : oK_ D) (C : oC_ h.2.2.1 h D) (M : oM_ h D) (W : nm_ D x1 w) (hr : r < 6) (eA : hA = fg_ h 21 0 0 (d_m D) (mym_ D w)) : ∃ (x : Int32) (hB h1 hE h2 : hh_), ff_X3_reckon h.2.2.1 hA = some hB ∧ ff_X7_layBestPlan (nI r) hB = some (x, h1) ∧ oM_ h1 D ∧ ff_X8_goPlans x1 h1 = some hE ∧ ff_X8_layPlan (nI r) hE = some (x, h2) ∧ inv_ h2 := by
  have m5 := K.1
  have p4 := K.2.2.1
  have m4 := (q_m4 (d_p D) (by omega)).2.2
  have ho := H.2.2.2.nw
  obtain ⟨k, hk⟩ := fu_ (d_m D) (by omega)
  have A1 : ∀ c j, c ≠ 21 → hA.1 c j = h.1 c j := fun c j e => by rw [eA, fg_ne e]
  have A2 : hA.2 = h.2 := by rw [eA]; rfl
  have A3 : ∀ i, i < d_m D → hA.1 21 i = nI (q_gm D w i) := fun i hi => by rw [eA, fg_in0 (Nat.zero_le _) hi]; exact (q_gm1 K).1
  obtain ⟨hB, b1, b2, b3⟩ := q_reckon (G := q_gm D w) ho K (fun i _ => (q_gm1 K).2) (C.fr K (fun c j u => A1 c j (by omega))) A3
  have B1 : ∀ c j, c ≠ 21 → (c < 23 ∨ 35 < c) → hB.1 c j = h.1 c j := fun c j h1 h2 => by rw [b2.2 c j h2, A1 c j h1]
  have B2 : hB.2 = h.2 := b2.1.trans A2
  have CB : oC_ h.2.2.1 hB D := C.fr K (fun c j u => B1 c j (by omega) (by omega))
  have B3 : ∀ i, i < d_m D → hB.1 21 i = nI (q_gm D w i) := fun i hi => by rw [b2.2 _ _ (by omega)]; exact A3 i hi
  have N1 : ∀ c j, c ≠ 10 → c ≠ 4 + r → (fi_ (hh_sI hB 10 r (nI (d_m D))) (4 + r) 0 (d_m D) (-9)).1 c j = hB.1 c j := fun c j h1 h2 => by rw [fi_ne h2, sI_ne h1]
  have ob : bo_ hB.2.2.1 = true := by rw [B2]; exact H.2.2.2.nwB
  have c26 := q_26 (r := r) (G := q_gm D w) K (fun i _ => (q_gm1 K).2) hr (d_m D) 0 0 k (fi_ (hh_sI hB 10 r (nI (d_m D))) (4 + r) 0 (d_m D) (-9)) (by omega) (by omega) (by show hB.2.2.1 = 39 ∨ hB.2.2.1 = 64; rw [B2]; exact ho) (by show oC_ hB.2.2.1 _ D; rw [B2]; exact CB.fr K (fun c j u => N1 c j (by omega) (by omega))) (fun i hi => by rw [N1 _ _ (by omega) (by omega)]; exact B3 i hi) (fun i hi Y hY => by
    have t := b3 i hi Y hY
    unfold q_ok at t ⊢
    rw [N1 _ _ (by omega) (by omega), N1 _ _ (by omega) (by omega)]
    exact t) (fun j h1 h2 => fi_in h1 h2)
  obtain ⟨h1, eh1⟩ : ∃ h1, h1 = fg_ (fi_ (hh_sI hB 10 r (nI (d_m D))) (4 + r) 0 (d_m D) (-9)) (4 + r) 0 0 (d_m D) (fun j => q_cv (q_gp D (q_gm D w) (d_m D) 0 0 j)) := ⟨_, rfl⟩
  have F1 : ∀ c j, c ≠ 21 → (c < 23 ∨ 35 < c) → c ≠ 10 → c ≠ 4 + r → h1.1 c j = h.1 c j := fun c j e1 e2 e3 e4 => by rw [eh1, fg_ne e4, N1 c j e3 e4, B1 c j e1 e2]
  have F2 : h1.2 = h.2 := by rw [eh1]; exact B2
  have M1 : oM_ h1 D := M.fr (fun c j u => F1 c j (by omega) (by omega) (by omega) (by omega))
  obtain ⟨hE, g1, g2, g3, g4, g5⟩ := q_go K W M1
  obtain ⟨hF, eF⟩ : ∃ hF, hF = fi_ (hh_sI hE 100 r (nI (d_m D))) 101 (40 * r) (40 * r + 40) 0 := ⟨_, rfl⟩
  have G1 : ∀ c j, c ≠ 100 → c ≠ 101 → hF.1 c j = hE.1 c j := fun c j e1 e2 => by rw [eF, fi_ne e2, sI_ne e1]
  have M2 : oM_ hF D := M1.fr (fun c j u => by rw [G1 c j (by omega) (by omega), g2.2.1 c j (by omega) (by omega) (by omega) (by omega)])
  have l12 := q_12 (r := r) (g := fun j => q_cv (q_gp D (q_gm D w) (d_m D) 0 0 j)) hr m5 (d_m D) 0 k hF (by omega) M2.1 (fun j hj => by rw [G1 _ _ (by decide) (by decide)]; exact g5 j hj)
  have ME : oM_ hE D := M1.fr (fun c j u => g2.2.1 c j (by omega) (by omega) (by omega) (by omega))
  refine ⟨nI (q_bp D (q_gm D w) (d_m D) 0 0), hB, h1, hE, fg_ hF 101 (40 * r) 0 (d_m D) (fun j => q_cv (q_gp D (q_gm D w) (d_m D) 0 0 j)), b1, ?_, M1, g1, ?_, ?_⟩
  · unfold ff_X7_layBestPlan
    rw [gd_t ob, show hB.2.2.1 = h.2.2.1 by rw [B2], show Int32.toNatClampNeg 0 = 0 from rfl, CB.1, rn_C hr (by omega), Option.bind_some, hk, eh1]
    exact c26
  · unfold ff_X8_layPlan
    rw [ME.1, mr_M hr (by omega), Option.bind_some, hk]
    rw [← eF]
    refine l12.trans ?_
    rw [G1 _ _ (by decide) (by decide), g4]
  · have X1 : ∀ c j, c ≠ 101 → (fg_ hF 101 (40 * r) 0 (d_m D) (fun j => q_cv (q_gp D (q_gm D w) (d_m D) 0 0 j))).1 c j = hF.1 c j := fun c j e => fg_ne e
    have XF : ∀ c j, c ≠ 21 → (c < 23 ∨ 35 < c) → c ≠ 10 → c ≠ 4 + r → c ≠ 100 → c ≠ 101 → c ≠ 111 → c ≠ 112 → c ≠ 113 → ¬ (c = 98 ∧ j = 27) → (fg_ hF 101 (40 * r) 0 (d_m D) (fun j => q_cv (q_gp D (q_gm D w) (d_m D) 0 0 j))).1 c j = h.1 c j := fun c j a1 a2 a3 a4 a5 a6 a7 a8 a9 a10 => by
      rw [X1 c j a6, G1 c j a5 a6, g2.2.1 c j a7 a8 a9 a10, F1 c j a1 a2 a3 a4]
    have XL : (fg_ hF 101 (40 * r) 0 (d_m D) (fun j => q_cv (q_gp D (q_gm D w) (d_m D) 0 0 j))).2 = hE.2 := by rw [eF]; rfl
    refine inv_scR H (fun c j q q2 => ?_) (fun c j q => ?_) ?_ ?_
    · have := ho
      unfold sc_ fO_ at q
      exact XF c j (by omega) (by omega) (by omega) (by omega) (by omega) (by omega) (by omega) (by omega) (by omega) (by omega)
    · rw [XL, g2.2.2 c j (by omega), F2]
    · rw [XL, g2.1, F2]
      exact ⟨rfl, rfl⟩
    · have R10 : ∀ s, (fg_ hF 101 (40 * r) 0 (d_m D) (fun j => q_cv (q_gp D (q_gm D w) (d_m D) 0 0 j))).1 10 s = if s = r then nI (d_m D) else h.1 10 s := fun s => by
        rw [X1 _ _ (by decide), G1 _ _ (by decide) (by decide), g2.2.1 _ _ (by decide) (by decide) (by decide) (by omega), eh1, fg_ne (by omega), fi_ne (by omega), sI_if]
        by_cases y : s = r
        · rw [if_pos y, if_pos y]
        · rw [if_neg y, if_neg y, B1 _ _ (by decide) (by decide)]
      have R100 : ∀ s, (fg_ hF 101 (40 * r) 0 (d_m D) (fun j => q_cv (q_gp D (q_gm D w) (d_m D) 0 0 j))).1 100 s = if s = r then nI (d_m D) else h.1 100 s := fun s => by
        rw [X1 _ _ (by decide), eF, fi_ne (by omega), sI_if]
        by_cases y : s = r
        · rw [if_pos y, if_pos y]
        · rw [if_neg y, if_neg y, g2.2.1 _ _ (by decide) (by decide) (by decide) (by omega), F1 _ _ (by decide) (by decide) (by decide) (by omega)]
      refine iR_new H.2.1 hr (show d_m D ≤ 40 by omega) ?_ ?_ (fun i hi => ?_) (fun s hs => ?_) (fun s hs => ?_) (fun s i h6 hs => ?_) (fun j hj => ?_)
      · rw [R10, if_pos rfl]
      · rw [R100, if_pos rfl]
      · rw [fg_in (Nat.zero_le _) hi, X1 _ _ (by omega), G1 _ _ (by omega) (by omega), g2.2.1 _ _ (by omega) (by omega) (by omega) (by omega), eh1, fg_in0 (Nat.zero_le _) hi]
      · rw [R10, if_neg hs]
      · rw [R100, if_neg hs]
      · exact XF _ _ (by omega) (by omega) (by omega) (by omega) (by omega) (by omega) (by omega) (by omega) (by omega) (by omega)
      · rw [fg_out (by omega), eF, fi_out (by omega), sI_ne (by decide), g2.2.1 _ _ (by decide) (by decide) (by decide) (by omega), F1 _ _ (by decide) (by decide) (by decide) (by omega)]
theorem q_w1 {D : od_} {t : Nat} (ht : t < d_t D) : nm_ D (nI t) (fun s => decide (s = t)) := Or.inr ⟨t, ht, rfl, fun _ => rfl⟩
theorem q_ob {o t : Nat} {D : od_} {h : hh_} (ho : o = 39 ∨ o = 64) (K : oK_ D) (ht : t < d_t D) (C : oC_ o h D) : ff_X3_openByOne o (nI t) h = some (fg_ h 21 0 0 (d_m D) (mym_ D (fun s => decide (s = t)))) := by
  have m5 := K.1
  obtain ⟨k, hk⟩ := fu_ (d_m D) (by omega)
  unfold ff_X3_openByOne
  rw [hk, show (0 : Int32) = nI 0 from rfl, ob_C ho K ht (d_m D) 0 k h (by omega) C]
  exact congrArg some (q_fgc (fun j _ _ => (my_1 ht (fun _ => rfl)).symm))
/-- 34: plan -/
theorem st_34 : sp_34 inv_ := by
  intro h a1 a2 H
  obtain ⟨hn, D, F, ds, n, K, C, M, -⟩ := H.2.2.2
  have ho := H.2.2.2.nw
  have m5 := K.1
  rcases hs_1 a1 K C M with ⟨t, ht, rfl, c1, m1⟩ | ⟨c1, m1⟩
  · rcases al_r a2 h with ⟨r, hr, rfl, q1, q2⟩ | ⟨q1, q2⟩
    · obtain ⟨x, hB, h1, hE, h2, b1, b2, M1, b3, b4, I2⟩ := q_lay (r := r) H K C M (q_w1 ht) hr rfl
      have m0 : ¬ nI (d_m D) = 0 := by
        have := K.2.2.2.1 (by omega)
        intro y
        have := (nI_eq (a := d_m D) (b := 0) (by omega) (by omega)).mp y
        omega
      refine ⟨x, h1, h2, ?_, ?_, I2⟩
      · unfold ff_X7_plan
        rw [gd_t H.2.2.2.nwB, c1, Option.bind_some, if_neg n10, q1, if_neg n10, show Int32.toNatClampNeg 0 = 0 from rfl, C.1, if_neg m0, q_ob ho K ht C, Option.bind_some, show (fg_ h 21 0 0 (d_m D) (mym_ D (fun s => decide (s = t)))).2.2.1 = h.2.2.1 from rfl, gd_t H.2.2.2.nwB, b1, Option.bind_some, b2, Option.bind_some]
      · have m2 : ff_X8_isThumb (nI t) h1 = 1 := by unfold ff_X8_isThumb at m1 ⊢; rw [M1.2.1]; rw [M.2.1] at m1; exact m1
        unfold ff_X8_plan
        rw [m2, if_neg n10, q2, if_neg n10, b3, Option.bind_some, b4, Option.bind_some]
    · refine rd_ H 0 (-1) 0 (by decide) ?_ (fun h' S => ?_)
      · unfold ff_X7_plan
        rw [gd_t H.2.2.2.nwB, c1, Option.bind_some, if_neg n10, q1, if_pos rfl]; rfl
      · unfold ff_X8_plan
        rw [S.iT (D := D) m1, if_neg n10, q2, if_pos rfl]; rfl
  · refine rd_ H 0 (-1) 0 (by decide) ?_ (fun h' S => ?_)
    · unfold ff_X7_plan
      rw [gd_t H.2.2.2.nwB, c1, Option.bind_some, if_pos rfl]; rfl
    · unfold ff_X8_plan
      rw [S.iT (D := D) m1, if_pos rfl]; rfl
/-- 36: safest -/
theorem st_36 : sp_36 inv_ := by
  intro h a1 H
  obtain ⟨hn, D, F, ds, n, K, C, M, -⟩ := H.2.2.2
  have ho := H.2.2.2.nw
  have m5 := K.1
  rcases al_r a1 h with ⟨r, hr, rfl, q1, q2⟩ | ⟨q1, q2⟩
  · by_cases m0 : d_m D = 0
    · refine rd_ H 0 (-4) 0 (by decide) ?_ (fun h' S => ?_)
      · unfold ff_X7_safest
        rw [q1, if_neg n10, gd_t H.2.2.2.nwB, show Int32.toNatClampNeg 0 = 0 from rfl, C.1, m0, if_pos (by decide)]; rfl
      · unfold ff_X8_safest
        rw [q2, if_neg n10, (S.oM M).1, m0, if_pos (by decide)]; rfl
    · have m0' : ¬ nI (d_m D) = 0 := fun y => m0 ((nI_eq (a := d_m D) (b := 0) (by omega) (by omega)).mp y)
      obtain ⟨x, hB, h1, hE, h2, b1, b2, M1, b3, b4, I2⟩ := q_lay (r := r) (x1 := -9) (w := fun _ => true) H K C M (Or.inl ⟨rfl, fun _ => rfl⟩) hr rfl
      obtain ⟨k, hk⟩ := fu_ (d_m D) (by omega)
      refine ⟨x, h1, h2, ?_, ?_, I2⟩
      · unfold ff_X7_safest ff_X3_openByAll
        rw [q1, if_neg n10, gd_t H.2.2.2.nwB, show Int32.toNatClampNeg 0 = 0 from rfl, C.1, if_neg m0', hk, show (0 : Int32) = nI 0 from rfl, oa_C (w := fun _ => true) ho K (fun _ => rfl) (d_m D) 0 k h (by omega) C, Option.bind_some, show (fg_ h 21 0 0 (d_m D) (mym_ D (fun _ => true))).2.2.1 = h.2.2.1 from rfl, gd_t H.2.2.2.nwB, b1, Option.bind_some, b2, Option.bind_some]
      · unfold ff_X8_safest
        rw [q2, if_neg n10, M1.1, if_neg m0', b3, Option.bind_some, b4, Option.bind_some]
  · refine rd_ H 0 (-1) 0 (by decide) ?_ (fun h' S => ?_)
    · unfold ff_X7_safest
      rw [q1, if_pos rfl]; rfl
    · unfold ff_X8_safest
      rw [q2, if_pos rfl]; rfl
/-- 35: plans -/
theorem st_35 : sp_35 inv_ := by
  intro h a1 H
  obtain ⟨hn, D, F, ds, n, K, C, M, -⟩ := H.2.2.2
  have ho := H.2.2.2.nw
  have m5 := K.1
  have p4 := K.2.2.1
  have m4 := (q_m4 (d_p D) (by omega)).2.2
  rcases hs_1 a1 K C M with ⟨t, ht, rfl, c1, m1⟩ | ⟨c1, m1⟩
  · obtain ⟨hA, eA⟩ : ∃ hA, hA = fg_ h 21 0 0 (d_m D) (mym_ D (fun s => decide (s = t))) := ⟨_, rfl⟩
    have A1 : ∀ c j, c ≠ 21 → hA.1 c j = h.1 c j := fun c j e => by rw [eA, fg_ne e]
    have A2 : hA.2 = h.2 := by rw [eA]; rfl
    obtain ⟨hB, b1, b2, b3⟩ := q_reckon (G := q_gm D (fun s => decide (s = t))) ho K (fun i _ => (q_gm1 K).2) (C.fr K (fun c j u => A1 c j (by omega))) (fun i hi => by rw [eA, fg_in0 (Nat.zero_le _) hi]; exact (q_gm1 K).1)
    have t0 := b3 0 (by omega) 0 (by omega)
    unfold q_ok at t0
    rw [Nat.sub_zero] at t0
    have wb := q_wnB K (G := q_gm D (fun s => decide (s = t))) (d := d_m D) (i := 0) (X := 0) m5
    have M1 : oM_ (fC_ (q_wn D (q_gm D (fun s => decide (s = t))) (d_m D) 0 0 / Nat.gcd (q_wn D (q_gm D (fun s => decide (s = t))) (d_m D) 0 0) 1) (1 / Nat.gcd (q_wn D (q_gm D (fun s => decide (s = t))) (d_m D) 0 0) 1) hB) D := M.fr (fun c j u => (b2.2 c j (by omega)).trans (A1 c j (by omega)))
    obtain ⟨hE, g1, g2, g3, g4, g5⟩ := q_go K (q_w1 ht) M1
    refine ⟨1, (fC_ (q_wn D (q_gm D (fun s => decide (s = t))) (d_m D) 0 0 / Nat.gcd (q_wn D (q_gm D (fun s => decide (s = t))) (d_m D) 0 0) 1) (1 / Nat.gcd (q_wn D (q_gm D (fun s => decide (s = t))) (d_m D) 0 0) 1) hB), fM_ (q_wn D (q_gm D (fun s => decide (s = t))) (d_m D) 0 0 / Nat.gcd (q_wn D (q_gm D (fun s => decide (s = t))) (d_m D) 0 0) 1) (1 / Nat.gcd (q_wn D (q_gm D (fun s => decide (s = t))) (d_m D) 0 0) 1) hE, ?_, ?_, ?_⟩
    · unfold ff_X7_plans
      rw [gd_t H.2.2.2.nwB, c1, Option.bind_some, if_neg n10, q_ob ho K ht C, Option.bind_some, ← eA, show hA.2.2.1 = h.2.2.1 by rw [A2], gd_t H.2.2.2.nwB, b1, Option.bind_some, show Int32.toNatClampNeg 0 = 0 from rfl, t0.2, nI_l (by omega), show (1 : Int64) = lN 1 from rfl, tf_C (by omega) (by decide) (by decide), Option.bind_some]
    · have m2 : ff_X8_isThumb (nI t) (fC_ (q_wn D (q_gm D (fun s => decide (s = t))) (d_m D) 0 0 / Nat.gcd (q_wn D (q_gm D (fun s => decide (s = t))) (d_m D) 0 0) 1) (1 / Nat.gcd (q_wn D (q_gm D (fun s => decide (s = t))) (d_m D) 0 0) 1) hB) = 1 := by unfold ff_X8_isThumb at m1 ⊢; rw [M1.2.1]; rw [M.2.1] at m1; exact m1
      unfold ff_X8_plans
      rw [m2, if_neg n10, g1, Option.bind_some, g3, show (1 : Int64) = lN 1 from rfl, tf_M (by omega) (by decide) (by decide), Option.bind_some]
    · have Hs : inv_ (hh_sL (hh_sL hE 36 3 (h.2.1 36 3)) 36 4 (h.2.1 36 4)) := by
        refine inv_scr H (fun c j q => ?_) (fun c j q => ?_) ?_
        · have := ho
          unfold sc_ fO_ at q
          show hE.1 c j = _
          rw [g2.2.1 c j (by omega) (by omega) (by omega) (by omega)]
          show hB.1 c j = _
          rw [b2.2 c j (by omega), A1 c j (by omega)]
        · rcases q with q | q
          · subst q
            by_cases y : j = 4
            · subst y; rw [sL_eq]
            · rw [sL_nj y]
              by_cases z : j = 3
              · subst z; rw [sL_eq]
              · rw [sL_nj z, g2.2.2 _ _ (by omega)]
                unfold fC_
                rw [sL_nj y, sL_nj z, b2.1, A2]
          · rw [sL_ne (by omega), sL_ne (by omega), g2.2.2 _ _ (by omega)]
            unfold fC_
            rw [sL_ne (by omega), sL_ne (by omega), b2.1, A2]
        · show hE.2.2.1 = _ ∧ hE.2.2.2.1 = _
          rw [g2.1]
          show hB.2.2.1 = _ ∧ hB.2.2.2.1 = _
          rw [b2.1, A2]
          exact ⟨rfl, rfl⟩
      have Hf := inv_frac Hs (q_wn D (q_gm D (fun s => decide (s = t))) (d_m D) 0 0 / Nat.gcd (q_wn D (q_gm D (fun s => decide (s = t))) (d_m D) 0 0) 1) (1 / Nat.gcd (q_wn D (q_gm D (fun s => decide (s = t))) (d_m D) 0 0) 1)
      have E : fM_ (q_wn D (q_gm D (fun s => decide (s = t))) (d_m D) 0 0 / Nat.gcd (q_wn D (q_gm D (fun s => decide (s = t))) (d_m D) 0 0) 1) (1 / Nat.gcd (q_wn D (q_gm D (fun s => decide (s = t))) (d_m D) 0 0) 1) (fC_ (q_wn D (q_gm D (fun s => decide (s = t))) (d_m D) 0 0 / Nat.gcd (q_wn D (q_gm D (fun s => decide (s = t))) (d_m D) 0 0) 1) (1 / Nat.gcd (q_wn D (q_gm D (fun s => decide (s = t))) (d_m D) 0 0) 1) (hh_sL (hh_sL hE 36 3 (h.2.1 36 3)) 36 4 (h.2.1 36 4))) = fM_ (q_wn D (q_gm D (fun s => decide (s = t))) (d_m D) 0 0 / Nat.gcd (q_wn D (q_gm D (fun s => decide (s = t))) (d_m D) 0 0) 1) (1 / Nat.gcd (q_wn D (q_gm D (fun s => decide (s = t))) (d_m D) 0 0) 1) hE := by
        refine hh_ext (fun _ _ => rfl) (fun c j => ?_) rfl
        unfold fM_ fC_
        by_cases y : c = 98
        · subst y
          by_cases z4 : j = 4
          · subst z4; rw [sL_eq, sL_eq]
          · rw [sL_nj z4, sL_nj z4]
            by_cases z3 : j = 3
            · subst z3; rw [sL_eq, sL_eq]
            · rw [sL_nj z3, sL_nj z3, sL_ne (by decide), sL_ne (by decide), sL_ne (by decide), sL_ne (by decide)]
        · rw [sL_ne y, sL_ne y, sL_ne y, sL_ne y]
          by_cases y2 : c = 36
          · subst y2
            by_cases z4 : j = 4
            · subst z4
              rw [sL_eq, g2.2.2 _ _ (by omega)]
              unfold fC_
              rw [sL_eq]
            · rw [sL_nj z4]
              by_cases z3 : j = 3
              · subst z3
                rw [sL_eq, g2.2.2 _ _ (by omega)]
                unfold fC_
                rw [sL_nj (by decide), sL_eq]
              · rw [sL_nj z3, sL_nj z4, sL_nj z3]
          · rw [sL_ne y2, sL_ne y2, sL_ne y2, sL_ne y2]
      rw [E] at Hf
      exact Hf
  · refine rd_ H 0 (-1) 0 (by decide) ?_ (fun h' S => ?_)
    · unfold ff_X7_plans
      rw [gd_t H.2.2.2.nwB, c1, Option.bind_some, if_pos rfl]; rfl
    · unfold ff_X8_plans
      rw [S.iT (D := D) m1, if_pos rfl]; rfl
