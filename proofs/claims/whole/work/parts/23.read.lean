/-! ===== answers; readings of an office ===== -/
theorem nl_0 : (0 : Int32) = nI 0 := rfl
theorem nl_1 : (1 : Int32) = nI 1 := rfl
theorem nl_2 : (2 : Int32) = nI 2 := rfl
theorem nl_3 : (3 : Int32) = nI 3 := rfl
theorem nl_4 : (4 : Int32) = nI 4 := rfl
theorem nl_5 : (5 : Int32) = nI 5 := rfl
theorem nl_6 : (6 : Int32) = nI 6 := rfl
theorem nl_7 : (7 : Int32) = nI 7 := rfl
theorem nl_8 : (8 : Int32) = nI 8 := rfl
theorem nl_9 : (9 : Int32) = nI 9 := rfl
theorem nl_10 : (10 : Int32) = nI 10 := rfl
theorem nl_12 : (12 : Int32) = nI 12 := rfl
theorem nl_16 : (16 : Int32) = nI 16 := rfl
theorem nl_25 : (25 : Int32) = nI 25 := rfl
theorem nl_30 : (30 : Int32) = nI 30 := rfl
theorem nl_31 : (31 : Int32) = nI 31 := rfl
theorem nl_40 : (40 : Int32) = nI 40 := rfl
theorem nl_80 : (80 : Int32) = nI 80 := rfl
theorem nl_100 : (100 : Int32) = nI 100 := rfl

theorem rfC {f : Nat} {h : hh_} (hf : f < 6) : ((ff_X6_refuse (nI f) h).bind fun v => some (v.1, v.2)) = some (-3, cre_ f h) := by rw [ref_C hf]; rfl
theorem rfM {f : Nat} {h : hh_} (hf : f < 6) : ((ff_X8_meet (nI f) h).bind fun v => some (v.1, v.2)) = some (-3, mre_ f h) := by rw [ref_M hf]; rfl
/-- an answer: 0 no change; 1 a number told; f + 2 a finding f -/
def anC_ : Nat → Int32 → Int32 → hh_ → Int32 × hh_
  | 0, r, _, h => (r, h)
  | 1, r, v, h => (r, cte_ v h)
  | f + 2, _, _, h => (-3, cre_ f h)
def anM_ : Nat → Int32 → Int32 → hh_ → Int32 × hh_
  | 0, r, _, h => (r, h)
  | 1, r, v, h => (r, mte_ v h)
  | f + 2, _, _, h => (-3, mre_ f h)
/-- what the class's answers leave -/
def sm_ (h h' : hh_) : Prop := ∀ c j, c ≠ 36 → c ≠ 37 → h'.1 c j = h.1 c j
theorem an_sm (k : Nat) (r v : Int32) (h : hh_) : sm_ h (anC_ k r v h).2 := by
  intro c j h1 h2
  match k with
  | 0 => rfl
  | 1 => exact sI_ne h1
  | f + 2 => exact cre_I h1 h2
theorem rd_ {h : hh_} (H : inv_ h) {C : Option (Int32 × hh_)} {M : hh_ → Option (Int32 × hh_)} (k : Nat) (r v : Int32) (hk : k < 8) (e1 : C = some (anC_ k r v h)) (e2 : ∀ h', sm_ h h' → M h' = some (anM_ k r v h')) : ∃ (r : Int32) (h1 : hh_) (h2 : hh_), C = some (r, h1) ∧ M h1 = some (r, h2) ∧ inv_ h2 := by
  have e3 := e2 _ (an_sm k r v h)
  match k, hk with
  | 0, _ => exact ⟨r, h, h, e1, e3, H⟩
  | 1, _ => exact ⟨r, _, _, e1, e3, inv_tell H v⟩
  | f + 2, hk => exact ⟨-3, _, _, e1, e3, inv_ref H (by omega)⟩
theorem sm_.oM {h h' : hh_} {D : od_} (S : sm_ h h') (M : oM_ h D) : oM_ h' D := M.fr (fun c j q => S _ _ (by omega) (by omega))
theorem sz_0 {a : Int32} {n : Nat} (x : Int32) (hn : n < 2 ^ 31) (e : x = nI n) (y : Int32) (e2 : y = nI n) : (∃ i, i < n ∧ a = nI i ∧ ¬ a < 0 ∧ ¬ x ≤ a ∧ ff_X8_in a 0 (y - 1) = 1) ∨ ((a < 0 ∨ (¬ a < 0 ∧ x ≤ a)) ∧ ff_X8_in a 0 (y - 1) = 0) := by
  subst e
  subst e2
  rcases sz_cases a n hn with ⟨i, hi, e, q1, q2, q3⟩ | ⟨q1, q2⟩
  · exact Or.inl ⟨i, hi, e, q1, by subst e; rw [nI_leI (by omega) (by omega)]; omega, q3⟩
  · refine Or.inr ⟨q1.imp_right fun q => ⟨q.1, ?_⟩, q2⟩
    have w := q.2
    rw [Int32.lt_iff_toInt_lt] at w
    rw [Int32.le_iff_toInt_le]
    omega
theorem hs_0 {o : Nat} {h h' : hh_} {D : od_} (a : Int32) (K : oK_ D) (C : oC_ o h D) (M : oM_ h' D) : (∃ i, i < d_m D ∧ a = nI i ∧ ff_X2_has o 0 a h = some 1 ∧ ff_X8_isHead a h' = 1) ∨ (ff_X2_has o 0 a h = some 0 ∧ ff_X8_isHead a h' = 0) := by
  have k1 := K.1
  unfold ff_X2_has ff_X8_isHead
  rw [show gd_ (bi_ (0 : Int32) 3) = fun x => x from rfl]
  rcases sz_0 (a := a) (h.1 (o + 23) 0) (n := d_m D) (by omega) C.1 (h'.1 98 10) M.1 with ⟨i, hi, e, q1, q2, q3⟩ | ⟨q1, q3⟩
  · refine Or.inl ⟨i, hi, e, ?_, q3⟩
    rw [if_neg q1]
    exact if_neg q2
  · refine Or.inr ⟨?_, q3⟩
    rcases q1 with q | ⟨q, q2⟩
    · rw [if_pos q]
    · rw [if_neg q]
      exact if_pos q2
theorem hs_1 {o : Nat} {h h' : hh_} {D : od_} (a : Int32) (K : oK_ D) (C : oC_ o h D) (M : oM_ h' D) : (∃ i, i < d_t D ∧ a = nI i ∧ ff_X2_has o 1 a h = some 1 ∧ ff_X8_isThumb a h' = 1) ∨ (ff_X2_has o 1 a h = some 0 ∧ ff_X8_isThumb a h' = 0) := by
  have k1 := K.2.1
  unfold ff_X2_has ff_X8_isThumb
  rw [show gd_ (bi_ (1 : Int32) 3) = fun x => x from rfl]
  rcases sz_0 (a := a) (h.1 (o + 23) 1) (n := d_t D) (by omega) C.2.1 (h'.1 98 11) M.2.1 with ⟨i, hi, e, q1, q2, q3⟩ | ⟨q1, q3⟩
  · refine Or.inl ⟨i, hi, e, ?_, q3⟩
    rw [if_neg q1]
    exact if_neg q2
  · refine Or.inr ⟨?_, q3⟩
    rcases q1 with q | ⟨q, q2⟩
    · rw [if_pos q]
    · rw [if_neg q]
      exact if_pos q2
theorem hs_2 {o : Nat} {h h' : hh_} {D : od_} (a : Int32) (K : oK_ D) (C : oC_ o h D) (M : oM_ h' D) : (∃ i, i < d_p D ∧ a = nI i ∧ ff_X2_has o 2 a h = some 1 ∧ ff_X8_isPost a h' = 1) ∨ (ff_X2_has o 2 a h = some 0 ∧ ff_X8_isPost a h' = 0) := by
  have k1 := K.2.2.1
  unfold ff_X2_has ff_X8_isPost
  rw [show gd_ (bi_ (2 : Int32) 3) = fun x => x from rfl]
  rcases sz_0 (a := a) (h.1 (o + 23) 2) (n := d_p D) (by omega) C.2.2.1 (h'.1 98 12) M.2.2.1 with ⟨i, hi, e, q1, q2, q3⟩ | ⟨q1, q3⟩
  · refine Or.inl ⟨i, hi, e, ?_, q3⟩
    rw [if_neg q1]
    exact if_neg q2
  · refine Or.inr ⟨?_, q3⟩
    rcases q1 with q | ⟨q, q2⟩
    · rw [if_pos q]
    · rw [if_neg q]
      exact if_pos q2
/-- a number between 0 and N -/
theorem rg_ (a : Int32) (N : Nat) (hN : N < 2 ^ 31 - 1) : (∃ j, j ≤ N ∧ a = nI j ∧ ¬ a < 0 ∧ a ≤ nI N ∧ ff_X8_in a 0 (nI N) = 1) ∨ ((a < 0 ∨ (¬ a < 0 ∧ ¬ a ≤ nI N)) ∧ ff_X8_in a 0 (nI N) = 0) := by
  rcases ix_cases a (N := N + 1) (by omega) (by omega) with ⟨j, hj, e, q1, q2, q3⟩ | ⟨q1, q3⟩
  · exact Or.inl ⟨j, by omega, e, q1, by subst e; exact nI_le (by omega) (by omega), q3⟩
  · refine Or.inr ⟨q1.imp_right fun q => ⟨q.1, ?_⟩, q3⟩
    have w := q.2
    rw [Int32.le_iff_toInt_le, nI_toInt (by omega)] at w
    rw [Int32.le_iff_toInt_le, nI_toInt (by omega)]
    omega
/-- the BUMPS of a HEAD together -/
def bt_ (D : od_) (i : Nat) : Nat := d_H D i 0 + d_H D i 1 + d_H D i 2 + d_H D i 3
theorem tg_C {o i : Nat} {h : hh_} {D : od_} (K : oK_ D) (C : oC_ o h D) (hi : i < d_m D) : ff_X2_together o (nI i) h = some (nI (bt_ D i)) := by
  have k1 := K.1
  have c := C.2.2.2.1 i hi
  unfold ff_X2_together
  obtain ⟨k, hk⟩ := fu_ 4 (by decide)
  rw [hk]
  rw [ff_X2_together_4]
  simp (disch := omega) only [nl_0, nl_1, nl_2, nl_3, nl_4, nl_5, nl_6, nl_7, nl_8, nl_9, nl_10, nl_12, nl_16, nl_25, nl_30, nl_31, nl_40, nl_80, nl_100, nI_add, pk_mul, nI_leI, nI_ltI, nI_eq, nI_clamp, gd_n, Option.bind_some, if_pos, if_neg, c]
  rw [ff_X2_together_4]
  simp (disch := omega) only [nl_0, nl_1, nl_2, nl_3, nl_4, nl_5, nl_6, nl_7, nl_8, nl_9, nl_10, nl_12, nl_16, nl_25, nl_30, nl_31, nl_40, nl_80, nl_100, nI_add, pk_mul, nI_leI, nI_ltI, nI_eq, nI_clamp, gd_n, Option.bind_some, if_pos, if_neg, c]
  rw [ff_X2_together_4]
  simp (disch := omega) only [nl_0, nl_1, nl_2, nl_3, nl_4, nl_5, nl_6, nl_7, nl_8, nl_9, nl_10, nl_12, nl_16, nl_25, nl_30, nl_31, nl_40, nl_80, nl_100, nI_add, pk_mul, nI_leI, nI_ltI, nI_eq, nI_clamp, gd_n, Option.bind_some, if_pos, if_neg, c]
  rw [ff_X2_together_4]
  simp (disch := omega) only [nl_0, nl_1, nl_2, nl_3, nl_4, nl_5, nl_6, nl_7, nl_8, nl_9, nl_10, nl_12, nl_16, nl_25, nl_30, nl_31, nl_40, nl_80, nl_100, nI_add, pk_mul, nI_leI, nI_ltI, nI_eq, nI_clamp, gd_n, Option.bind_some, if_pos, if_neg, c]
  rw [ff_X2_together_4]
  simp (disch := omega) only [nl_0, nl_1, nl_2, nl_3, nl_4, nl_5, nl_6, nl_7, nl_8, nl_9, nl_10, nl_12, nl_16, nl_25, nl_30, nl_31, nl_40, nl_80, nl_100, nI_add, pk_mul, nI_leI, nI_ltI, nI_eq, nI_clamp, gd_n, Option.bind_some, if_pos, if_neg, c]
  unfold bt_
  rw [Nat.zero_add]
theorem oh_C {o i j : Nat} {h : hh_} {D : od_} (K : oK_ D) (C : oC_ o h D) (hi : i < d_m D) (hj : j ≤ 5) : ff_X2_ofHead o (nI i) (nI j) h = some (nI (if j = 5 then bt_ D i else d_H D i j)) := by
  have k1 := K.1
  have c := C.2.2.2.1 i hi
  unfold ff_X2_ofHead
  by_cases e : j = 5
  · subst e
    rw [if_pos (show nI 5 = 5 from rfl), tg_C K C hi, if_pos rfl]
    rfl
  · rw [if_neg e]
    simp (disch := omega) only [nl_0, nl_1, nl_2, nl_3, nl_4, nl_5, nl_6, nl_7, nl_8, nl_9, nl_10, nl_12, nl_16, nl_25, nl_30, nl_31, nl_40, nl_80, nl_100, nI_add, pk_mul, nI_leI, nI_ltI, nI_eq, nI_clamp, gd_n, Option.bind_some, if_pos, if_neg, c]
theorem bu_M {i j : Nat} {h : hh_} {D : od_} (K : oK_ D) (M : oM_ h D) (hi : i < d_m D) (hj : j < 5) : ff_X8_bump (nI i) (nI j) h = some (nI (d_H D i j)) := by
  have k1 := K.1
  have c := M.2.2.2.1 i hi
  unfold ff_X8_bump
  simp (disch := omega) only [nl_0, nl_1, nl_2, nl_3, nl_4, nl_5, nl_6, nl_7, nl_8, nl_9, nl_10, nl_12, nl_16, nl_25, nl_30, nl_31, nl_40, nl_80, nl_100, nI_add, pk_mul, nI_leI, nI_ltI, nI_eq, nI_clamp, gd_n, Option.bind_some, if_pos, if_neg, c]
theorem bs_M {i : Nat} {h : hh_} {D : od_} (K : oK_ D) (M : oM_ h D) (hi : i < d_m D) : ff_X8_bumps (nI i) h = some (nI (bt_ D i)) := by
  unfold ff_X8_bumps
  simp (disch := omega) only [nl_0, nl_1, nl_2, nl_3, nl_4, nl_5, nl_6, nl_7, nl_8, nl_9, nl_10, nl_12, nl_16, nl_25, nl_30, nl_31, nl_40, nl_80, nl_100, nI_add, pk_mul, nI_leI, nI_ltI, nI_eq, nI_clamp, gd_n, Option.bind_some, if_pos, if_neg, bu_M K M hi]
  rfl
theorem oh_M {i j : Nat} {h : hh_} {D : od_} (K : oK_ D) (M : oM_ h D) (hi : i < d_m D) (hj : j ≤ 5) : ff_X8_headOf (nI i) (nI j) h = some (nI (if j = 5 then bt_ D i else d_H D i j)) := by
  have k1 := K.1
  have c := M.2.2.2.1 i hi
  unfold ff_X8_headOf
  by_cases e : j = 5
  · subst e
    rw [if_pos (by decide), bs_M K M hi, if_pos rfl]
    rfl
  · rw [if_neg e]
    simp (disch := omega) only [nl_0, nl_1, nl_2, nl_3, nl_4, nl_5, nl_6, nl_7, nl_8, nl_9, nl_10, nl_12, nl_16, nl_25, nl_30, nl_31, nl_40, nl_80, nl_100, nI_add, pk_mul, nI_leI, nI_ltI, nI_eq, nI_clamp, gd_n, Option.bind_some, if_pos, if_neg, c]
/-- 10: head -/
theorem st_10 : sp_10 inv_ := by
  intro h a1 a2 H
  obtain ⟨hn, D, F, ds, n, K, C, M, -⟩ := H.2.2.2
  rcases hs_0 a1 K C M with ⟨i, hi, rfl, c1, m1⟩ | ⟨c1, m1⟩
  · rcases rg_ a2 5 (by decide) with ⟨j, hj, rfl, q1, q2, q3⟩ | ⟨q1, q3⟩
    · refine rd_ H 1 1 (nI (if j = 5 then bt_ D i else d_H D i j)) (by decide) ?_ (fun h' S => ?_)
      · unfold ff_X7_head
        rw [gd_t H.2.2.2.nwB, c1, Option.bind_some, if_neg n10, if_neg q1, if_pos (show nI j ≤ 5 from q2), oh_C K C hi hj, Option.bind_some]
        rfl
      · have M' := S.oM M
        have m2 : ff_X8_isHead (nI i) h' = 1 := by unfold ff_X8_isHead at m1 ⊢; rw [M'.1]; rw [M.1] at m1; exact m1
        unfold ff_X8_head
        rw [m2, if_neg n10, show (5 : Int32) = nI 5 from rfl, q3, if_neg n10, oh_M K M' hi hj, Option.bind_some]
        rfl
    · refine rd_ H 0 (-1) 0 (by decide) ?_ (fun h' S => ?_)
      · unfold ff_X7_head
        rw [gd_t H.2.2.2.nwB, c1, Option.bind_some, if_neg n10]
        rcases q1 with q | ⟨q, q2⟩
        · rw [if_pos q]; rfl
        · rw [if_neg q, if_neg (show ¬ a2 ≤ 5 from q2)]; rfl
      · unfold ff_X8_head
        by_cases e : ff_X8_isHead (nI i) h' = 0
        · rw [if_pos e]; rfl
        · rw [if_neg e, show (5 : Int32) = nI 5 from rfl, q3, if_pos rfl]; rfl
  · refine rd_ H 0 (-1) 0 (by decide) ?_ (fun h' S => ?_)
    · unfold ff_X7_head
      rw [gd_t H.2.2.2.nwB, c1, Option.bind_some, if_pos rfl]; rfl
    · have m2 : ff_X8_isHead a1 h' = 0 := by unfold ff_X8_isHead at m1 ⊢; rw [(S.oM M).1]; rw [M.1] at m1; exact m1
      unfold ff_X8_head
      rw [m2, if_pos rfl]; rfl
/-- 11: thumb -/
theorem st_11 : sp_11 inv_ := by
  intro h a1 a2 H
  obtain ⟨hn, D, F, ds, n, K, C, M, -⟩ := H.2.2.2
  have k2 := K.2.1
  rcases hs_1 a1 K C M with ⟨i, hi, rfl, c1, m1⟩ | ⟨c1, m1⟩
  · rcases rg_ a2 2 (by decide) with ⟨j, hj, rfl, q1, q2, q3⟩ | ⟨q1, q3⟩
    · refine rd_ H 1 1 (nI (d_T D i j)) (by decide) ?_ (fun h' S => ?_)
      · unfold ff_X7_thumb
        rw [gd_t H.2.2.2.nwB, c1, Option.bind_some, if_neg n10, if_neg q1, if_pos (show nI j ≤ 2 from q2), gd_n (by omega) (by decide), gd_n (by omega) (by decide), nI_clamp (by omega), nI_clamp (by omega), C.2.2.2.2.1 i hi j (by omega)]
        rfl
      · have M' := S.oM M
        have m2 : ff_X8_isThumb (nI i) h' = 1 := by unfold ff_X8_isThumb at m1 ⊢; rw [M'.2.1]; rw [M.2.1] at m1; exact m1
        unfold ff_X8_thumb
        rw [m2, if_neg n10, show (2 : Int32) = nI 2 from rfl, q3, if_neg n10, show (3 : Int32) = nI 3 from rfl, pk_mul, nI_add, gd_n (by omega) (by decide), nI_clamp (by omega), M'.2.2.2.2.1 i hi j (by omega)]
        rfl
    · refine rd_ H 0 (-1) 0 (by decide) ?_ (fun h' S => ?_)
      · unfold ff_X7_thumb
        rw [gd_t H.2.2.2.nwB, c1, Option.bind_some, if_neg n10]
        rcases q1 with q | ⟨q, q2⟩
        · rw [if_pos q]; rfl
        · rw [if_neg q, if_neg (show ¬ a2 ≤ 2 from q2)]; rfl
      · unfold ff_X8_thumb
        by_cases e : ff_X8_isThumb (nI i) h' = 0
        · rw [if_pos e]; rfl
        · rw [if_neg e, show (2 : Int32) = nI 2 from rfl, q3, if_pos rfl]; rfl
  · refine rd_ H 0 (-1) 0 (by decide) ?_ (fun h' S => ?_)
    · unfold ff_X7_thumb
      rw [gd_t H.2.2.2.nwB, c1, Option.bind_some, if_pos rfl]; rfl
    · have m2 : ff_X8_isThumb a1 h' = 0 := by unfold ff_X8_isThumb at m1 ⊢; rw [(S.oM M).2.1]; rw [M.2.1] at m1; exact m1
      unfold ff_X8_thumb
      rw [m2, if_pos rfl]; rfl
/-- 12: post -/
theorem st_12 : sp_12 inv_ := by
  intro h a1 a2 H
  obtain ⟨hn, D, F, ds, n, K, C, M, -⟩ := H.2.2.2
  have k2 := K.2.2.1
  rcases hs_2 a1 K C M with ⟨i, hi, rfl, c1, m1⟩ | ⟨c1, m1⟩
  · rcases rg_ a2 4 (by decide) with ⟨j, hj, rfl, q1, q2, q3⟩ | ⟨q1, q3⟩
    · refine rd_ H 1 1 (nI (d_P D i j)) (by decide) ?_ (fun h' S => ?_)
      · unfold ff_X7_post
        rw [gd_t H.2.2.2.nwB, c1, Option.bind_some, if_neg n10, if_neg q1, if_pos (show nI j ≤ 4 from q2), gd_n (by omega) (by decide), gd_n (by omega) (by decide), nI_clamp (by omega), nI_clamp (by omega), C.2.2.2.2.2 i hi j (by omega)]
        rfl
      · have M' := S.oM M
        have m2 : ff_X8_isPost (nI i) h' = 1 := by unfold ff_X8_isPost at m1 ⊢; rw [M'.2.2.1]; rw [M.2.2.1] at m1; exact m1
        unfold ff_X8_post
        rw [m2, if_neg n10, show (4 : Int32) = nI 4 from rfl, q3, if_neg n10, show (5 : Int32) = nI 5 from rfl, pk_mul, nI_add, gd_n (by omega) (by decide), nI_clamp (by omega), M'.2.2.2.2.2 i hi j (by omega)]
        rfl
    · refine rd_ H 0 (-1) 0 (by decide) ?_ (fun h' S => ?_)
      · unfold ff_X7_post
        rw [gd_t H.2.2.2.nwB, c1, Option.bind_some, if_neg n10]
        rcases q1 with q | ⟨q, q2⟩
        · rw [if_pos q]; rfl
        · rw [if_neg q, if_neg (show ¬ a2 ≤ 4 from q2)]; rfl
      · unfold ff_X8_post
        by_cases e : ff_X8_isPost (nI i) h' = 0
        · rw [if_pos e]; rfl
        · rw [if_neg e, show (4 : Int32) = nI 4 from rfl, q3, if_pos rfl]; rfl
  · refine rd_ H 0 (-1) 0 (by decide) ?_ (fun h' S => ?_)
    · unfold ff_X7_post
      rw [gd_t H.2.2.2.nwB, c1, Option.bind_some, if_pos rfl]; rfl
    · have m2 : ff_X8_isPost a1 h' = 0 := by unfold ff_X8_isPost at m1 ⊢; rw [(S.oM M).2.2.1]; rw [M.2.2.1] at m1; exact m1
      unfold ff_X8_post
      rw [m2, if_pos rfl]; rfl
/-- 46: findings -/
theorem st_46 : sp_46 inv_ := by
  intro h a1 H
  unfold ff_X7_findings ff_X8_findings
  rcases rg_ a1 5 (by decide) with ⟨j, hj, rfl, q1, q2, q3⟩ | ⟨q1, q3⟩
  · by_cases e : j = 0
    · subst e
      exact ⟨-1, by rw [if_pos (by decide)], by rw [if_pos (by decide)], H⟩
    · refine ⟨h.1 37 j, ?_, ?_, H⟩
      · simp (disch := omega) only [nl_0, nl_1, nl_2, nl_3, nl_4, nl_5, nl_6, nl_7, nl_8, nl_9, nl_10, nl_12, nl_16, nl_25, nl_30, nl_31, nl_40, nl_80, nl_100, nI_add, pk_mul, nI_leI, nI_ltI, nI_eq, nI_clamp, gd_n, Option.bind_some, if_pos, if_neg]
      · rw [show ff_X8_in (nI j) 1 5 = 1 from in_t (lo := 1) (hi := 5) (by omega) (by omega) (by decide), if_neg n10, gd_n (by omega) (by decide), nI_clamp (by omega), H.1.2.2.2.2 j (by omega)]
  · refine ⟨-1, ?_, ?_, H⟩
    · by_cases e : a1 < 1
      · rw [if_pos e]
      · rw [if_neg e]
        rcases q1 with q | ⟨q, q2⟩
        · exfalso
          apply e
          rw [Int32.lt_iff_toInt_lt] at q ⊢
          have : (1 : Int32).toInt = 1 := rfl
          rw [ti_0] at q
          omega
        · rw [if_neg (show ¬ a1 ≤ 5 from q2)]
    · rw [if_pos]
      refine in_f (lo := 1) (hi := 5) ?_
      rcases q1 with q | ⟨q, q2⟩
      · left
        rw [Int32.lt_iff_toInt_lt] at q ⊢
        have : (nI 1).toInt = 1 := rfl
        rw [ti_0] at q
        omega
      · right
        rw [Int32.le_iff_toInt_le] at q2
        rw [Int32.lt_iff_toInt_lt]
        omega
