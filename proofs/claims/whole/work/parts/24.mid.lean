/-! ===== what a THUMB reads ===== -/
def fe_ (D : od_) (i j x : Nat) : Nat := if d_H D i 4 ≤ 1 then d_H D i j + x else d_H D i j + x - 1
def mo_ (k w f : Nat) : Nat := if k = 1 then f - 1 else if k = 2 then f + 1 else if k = 3 then f + w else if k = 4 then f + w + 1 else if k = 5 then min 3 (f - 1) else f
def mid_ (D : od_) (t i j x : Nat) : Nat := mo_ (d_T D t 0) (if d_T D t 2 = j then 1 else 0) (fe_ D i j x)
def lst_ (D : od_) (t i j x : Nat) : Nat := mid_ D t i j x - d_T D t 1
def mst_ (D : od_) (t i j x : Nat) : Nat := mid_ D t i j x + d_T D t 1
theorem fe_le {D : od_} (K : oK_ D) {i j x : Nat} (hi : i < d_m D) (hj : j < 4) : fe_ D i j x ≤ 5 + x := by
  have := (K.2.2.2.2.1 i hi).1 j hj
  unfold fe_
  by_cases e : d_H D i 4 ≤ 1
  · rw [if_pos e]; omega
  · rw [if_neg e]; omega
theorem mo_le (k w f : Nat) : mo_ k w f ≤ f + w + 1 := by
  unfold mo_
  repeat' split
  all_goals omega
theorem mid_le {D : od_} (K : oK_ D) {t i j x : Nat} (hi : i < d_m D) (hj : j < 4) : mid_ D t i j x ≤ 7 + x := by
  have h1 := fe_le K (x := x) hi hj
  have h2 := mo_le (d_T D t 0) (if d_T D t 2 = j then 1 else 0) (fe_ D i j x)
  unfold mid_
  split at h2 <;> rename_i q
  · rw [if_pos q]; omega
  · rw [if_neg q]; omega
theorem lst_le {D : od_} (K : oK_ D) {t i j x : Nat} (hi : i < d_m D) (hj : j < 4) : lst_ D t i j x ≤ 7 + x := by
  have := mid_le K (t := t) (x := x) hi hj
  unfold lst_
  omega
theorem mst_le {D : od_} (K : oK_ D) {t i j x : Nat} (ht : t < d_t D) (hi : i < d_m D) (hj : j < 4) : mst_ D t i j x ≤ 9 + x := by
  have := mid_le K (t := t) (x := x) hi hj
  have := (K.2.2.2.2.2.1 t ht).2.1
  unfold mst_
  omega
theorem lemx_ {D : od_} {t i j x : Nat} : lst_ D t i j x ≤ mst_ D t i j x := by unfold lst_ mst_; omega
theorem fe_C {o i j x : Nat} {h : hh_} {D : od_} (K : oK_ D) (C : oC_ o h D) (hi : i < d_m D) (hj : j < 4) (hx : x < 100) : ff_X2_felt o (nI i) (nI j) (nI x) h = some (nI (fe_ D i j x)) := by
  have k1 := K.1
  have c := C.2.2.2.1 i hi
  have b := K.2.2.2.2.1 i hi
  have b1 := b.1 j hj
  have b2 := b.2
  unfold ff_X2_felt fe_
  by_cases e : d_H D i 4 ≤ 1
  · simp (disch := omega) only [nl_0, nl_1, nl_2, nl_3, nl_4, nl_5, nl_6, nl_7, nl_8, nl_9, nl_10, nl_12, nl_16, nl_25, nl_30, nl_31, nl_40, nl_80, nl_100, nI_add, pk_mul, nI_leI, nI_ltI, nI_eq, nI_clamp, gd_n, Option.bind_some, if_pos, if_neg, c]
  · by_cases e2 : d_H D i j + x ≤ 0
    · simp (disch := omega) only [nl_0, nl_1, nl_2, nl_3, nl_4, nl_5, nl_6, nl_7, nl_8, nl_9, nl_10, nl_12, nl_16, nl_25, nl_30, nl_31, nl_40, nl_80, nl_100, nI_add, pk_mul, nI_leI, nI_ltI, nI_eq, nI_clamp, gd_n, Option.bind_some, if_pos, if_neg, c]
      rw [show d_H D i j + x - 1 = d_H D i j + x by omega]
    · simp (disch := omega) only [nl_0, nl_1, nl_2, nl_3, nl_4, nl_5, nl_6, nl_7, nl_8, nl_9, nl_10, nl_12, nl_16, nl_25, nl_30, nl_31, nl_40, nl_80, nl_100, nI_add, pk_mul, nI_leI, nI_ltI, nI_eq, nI_clamp, gd_n, Option.bind_some, if_pos, if_neg, c, pk_sub]
theorem md_C1 : ∀ k, k < 6 → ∀ w, w < 2 → ∀ f, f < 8 → ff_X2_middle (nI k) (nI w) (nI f) hz_ = some (nI (mo_ k w f)) := by decide +kernel
theorem md_C2 (a b c : Int32) (h : hh_) : ff_X2_middle a b c h = ff_X2_middle a b c hz_ := rfl
theorem fe_b {D : od_} {i j x : Nat} (hb : d_H D i j + x ≤ 7) : fe_ D i j x < 8 := by
  unfold fe_
  by_cases e : d_H D i 4 ≤ 1
  · rw [if_pos e]; omega
  · rw [if_neg e]; omega
theorem md_C {o t i j x : Nat} {h : hh_} {D : od_} (K : oK_ D) (C : oC_ o h D) (ht : t < d_t D) (hi : i < d_m D) (hj : j < 4) (hb : d_H D i j + x ≤ 7) : ff_X2_middleBy o (nI t) (nI i) (nI j) (nI x) h = some (nI (mid_ D t i j x)) := by
  have k2 := K.2.1
  have c := C.2.2.2.2.1 t ht
  have b := K.2.2.2.2.2.1 t ht
  have b1 := b.1
  have b2 := b.2.2
  have f1 := fe_b hb
  unfold ff_X2_middleBy ff_X2_middleBy_25 mid_
  by_cases e : d_T D t 2 = j
  · simp (disch := omega) only [nl_0, nl_1, nl_2, nl_3, nl_4, nl_5, nl_6, nl_7, nl_8, nl_9, nl_10, nl_12, nl_16, nl_25, nl_30, nl_31, nl_40, nl_80, nl_100, nI_add, pk_mul, nI_leI, nI_ltI, nI_eq, nI_clamp, gd_n, Option.bind_some, if_pos, if_neg, c, fe_C K C hi hj, e]
    rw [md_C2, md_C1 _ (by omega) _ (by omega) _ f1]
    rfl
  · simp (disch := omega) only [nl_0, nl_1, nl_2, nl_3, nl_4, nl_5, nl_6, nl_7, nl_8, nl_9, nl_10, nl_12, nl_16, nl_25, nl_30, nl_31, nl_40, nl_80, nl_100, nI_add, pk_mul, nI_leI, nI_ltI, nI_eq, nI_clamp, gd_n, Option.bind_some, if_pos, if_neg, c, fe_C K C hi hj]
    rw [md_C2, md_C1 _ (by omega) _ (by omega) _ f1]
    rfl
theorem max0 {a b : Nat} (ha : a < 2 ^ 30) (hb : b < 2 ^ 30) : (if (0 : Int32) < nI a - nI b then nI a - nI b else 0) = nI (a - b) := by
  by_cases e : b < a
  · rw [pk_sub (by omega), if_pos]
    exact nI_lt (a := 0) (by omega) (by omega)
  · rw [if_neg, show a - b = 0 by omega]
    · rfl
    · rw [Int32.lt_iff_toInt_lt, pk_sub_toInt ha hb, ti_0]
      omega
theorem gr0 {a b : Nat} (ha : a < 2 ^ 30) (hb : b < 2 ^ 30) : ff_X8_greater 0 (nI a - nI b) = nI (a - b) := by
  unfold ff_X8_greater
  by_cases e : b ≤ a
  · rw [pk_sub e, if_pos]
    exact nI_le (a := 0) (by omega) (by omega)
  · rw [if_neg, show a - b = 0 by omega]
    · rfl
    · rw [Int32.le_iff_toInt_le, pk_sub_toInt ha hb, ti_0]
      omega
theorem ls_C {o t i j x : Nat} {h : hh_} {D : od_} (K : oK_ D) (C : oC_ o h D) (ht : t < d_t D) (hi : i < d_m D) (hj : j < 4) (hb : d_H D i j + x ≤ 7) : ff_X2_least o (nI t) (nI i) (nI j) (nI x) h = some (nI (lst_ D t i j x)) := by
  have k2 := K.2.1
  have c := C.2.2.2.2.1 t ht
  have b := (K.2.2.2.2.2.1 t ht).2.1
  have b2 := mid_le K (t := t) (x := x) hi hj
  unfold ff_X2_least
  rw [md_C K C ht hi hj hb, Option.bind_some, gd_n (by omega) (by decide), nI_clamp (by omega), show Int32.toNatClampNeg 1 = 1 from rfl, c 1 (by decide), max0 (by omega) (by omega)]
  rfl
theorem ms_C {o t i j x : Nat} {h : hh_} {D : od_} (K : oK_ D) (C : oC_ o h D) (ht : t < d_t D) (hi : i < d_m D) (hj : j < 4) (hb : d_H D i j + x ≤ 7) : ff_X2_most o (nI t) (nI i) (nI j) (nI x) h = some (nI (mst_ D t i j x)) := by
  have k2 := K.2.1
  have c := C.2.2.2.2.1 t ht
  unfold ff_X2_most
  rw [md_C K C ht hi hj hb, Option.bind_some, gd_n (by omega) (by decide), nI_clamp (by omega), show Int32.toNatClampNeg 1 = 1 from rfl, c 1 (by decide), nI_add]
  rfl
/-- with no PADS -/
theorem fe_C0 {o i j : Nat} {h : hh_} {D : od_} (K : oK_ D) (C : oC_ o h D) (hi : i < d_m D) (hj : j < 4) : ff_X2_felt o (nI i) (nI j) 0 h = some (nI (fe_ D i j 0)) := fe_C K C hi hj (x := 0) (by decide)
theorem md_C0 {o t i j : Nat} {h : hh_} {D : od_} (K : oK_ D) (C : oC_ o h D) (ht : t < d_t D) (hi : i < d_m D) (hj : j < 4) : ff_X2_middleBy o (nI t) (nI i) (nI j) 0 h = some (nI (mid_ D t i j 0)) := md_C K C ht hi hj (x := 0) (by have := (K.2.2.2.2.1 i hi).1 j hj; omega)
theorem ls_C0 {o t i j : Nat} {h : hh_} {D : od_} (K : oK_ D) (C : oC_ o h D) (ht : t < d_t D) (hi : i < d_m D) (hj : j < 4) : ff_X2_least o (nI t) (nI i) (nI j) 0 h = some (nI (lst_ D t i j 0)) := ls_C K C ht hi hj (x := 0) (by have := (K.2.2.2.2.1 i hi).1 j hj; omega)
theorem ms_C0 {o t i j : Nat} {h : hh_} {D : od_} (K : oK_ D) (C : oC_ o h D) (ht : t < d_t D) (hi : i < d_m D) (hj : j < 4) : ff_X2_most o (nI t) (nI i) (nI j) 0 h = some (nI (mst_ D t i j 0)) := ms_C K C ht hi hj (x := 0) (by have := (K.2.2.2.2.1 i hi).1 j hj; omega)
/-- the reference -/
theorem mo_M : ∀ k, k < 6 → ∀ l, l < 4 → ∀ j, j < 4 → ∀ f, f < 8 → ff_X8_middleOf (nI k) (nI l) (nI f) (nI j) = nI (mo_ k (if l = j then 1 else 0) f) := by decide +kernel
theorem fe_M {i j : Nat} {h : hh_} {D : od_} (K : oK_ D) (M : oM_ h D) (hi : i < d_m D) (hj : j < 4) : ff_X8_felt (nI i) (nI j) h = some (nI (fe_ D i j 0)) := by
  have k1 := K.1
  have c := M.2.2.2.1 i hi
  have b := K.2.2.2.2.1 i hi
  have b1 := b.1 j hj
  have b2 := b.2
  unfold ff_X8_felt fe_
  rw [bu_M K M hi (by omega), Option.bind_some, show (5 : Int32) = nI 5 from rfl, pk_mul, show (4 : Int32) = nI 4 from rfl, nI_add, gd_n (by omega) (by decide), nI_clamp (by omega), c 4 (by decide)]
  by_cases e : d_H D i 4 ≤ 1
  · rw [if_pos (show nI (d_H D i 4) ≤ 1 from nI_le (b := 1) e (by omega)), show (0 : Int32) = nI 0 from rfl, if_pos e]
    exact congrArg some ((gr0 (b := 0) (by omega) (by omega)).trans rfl)
  · rw [if_neg (show ¬ nI (d_H D i 4) ≤ 1 from nI_ge (a := 1) (by omega) (by omega)), if_neg e]
    exact congrArg some ((gr0 (b := 1) (by omega) (by omega)).trans rfl)
theorem md_M {t i j : Nat} {h : hh_} {D : od_} (K : oK_ D) (M : oM_ h D) (ht : t < d_t D) (hi : i < d_m D) (hj : j < 4) : ff_X8_middle (nI t) (nI i) (nI j) h = some (nI (mid_ D t i j 0)) := by
  have k2 := K.2.1
  have c := M.2.2.2.2.1 t ht
  have c0 := c 0 (by decide)
  have c2 := c 2 (by decide)
  have b := K.2.2.2.2.2.1 t ht
  have b1 := (K.2.2.2.2.1 i hi).1 j hj
  unfold ff_X8_middle
  rw [show (3 : Int32) = nI 3 from rfl, pk_mul, show (2 : Int32) = nI 2 from rfl, nI_add, gd_n (by omega) (by decide), gd_n (by omega) (by decide), nI_clamp (by omega), nI_clamp (by omega), fe_M K M hi hj, Option.bind_some, show 3 * t = 3 * t + 0 from rfl, c0, c2, mo_M _ (by omega) _ (by omega) _ hj _ (fe_b (by omega))]
  rfl
theorem ls_M {t i j : Nat} {h : hh_} {D : od_} (K : oK_ D) (M : oM_ h D) (ht : t < d_t D) (hi : i < d_m D) (hj : j < 4) : ff_X8_least (nI t) (nI i) (nI j) h = some (nI (lst_ D t i j 0)) := by
  have k2 := K.2.1
  have c := M.2.2.2.2.1 t ht
  have b := (K.2.2.2.2.2.1 t ht).2.1
  have b2 := mid_le K (t := t) (x := 0) hi hj
  unfold ff_X8_least
  rw [md_M K M ht hi hj, Option.bind_some, show (3 : Int32) = nI 3 from rfl, pk_mul, show (1 : Int32) = nI 1 from rfl, nI_add, gd_n (by omega) (by decide), nI_clamp (by omega), c 1 (by decide), gr0 (by omega) (by omega)]
  rfl
theorem ms_M {t i j : Nat} {h : hh_} {D : od_} (K : oK_ D) (M : oM_ h D) (ht : t < d_t D) (hi : i < d_m D) (hj : j < 4) : ff_X8_most (nI t) (nI i) (nI j) h = some (nI (mst_ D t i j 0)) := by
  have k2 := K.2.1
  have c := M.2.2.2.2.1 t ht
  unfold ff_X8_most
  rw [md_M K M ht hi hj, Option.bind_some, show (3 : Int32) = nI 3 from rfl, pk_mul, show (1 : Int32) = nI 1 from rfl, nI_add, gd_n (by omega) (by decide), nI_clamp (by omega), c 1 (by decide), nI_add]
  rfl
theorem pl_ (a : Int32) : (∃ j, j < 4 ∧ a = nI j ∧ ff_X7_isPlace a = 1 ∧ ff_X8_isPlace a = 1) ∨ (ff_X7_isPlace a = 0 ∧ ff_X8_isPlace a = 0) := by
  unfold ff_X7_isPlace ff_X8_isPlace
  rcases ix_cases a (N := 4) (by decide) (by decide) with ⟨j, hj, e, n1, n2, n3⟩ | ⟨n1, n3⟩
  · exact Or.inl ⟨j, hj, e, by rw [if_neg n1, if_neg (show ¬ (4 : Int32) ≤ a from n2)], n3⟩
  · refine Or.inr ⟨?_, n3⟩
    rcases n1 with n | ⟨n, n2⟩
    · rw [if_pos n]
    · rw [if_neg n, if_pos (show (4 : Int32) ≤ a from n2)]
/-- is a THUMB, HEAD, POST, in the reference: not changed by the class's answers -/
theorem sm_.iT {h h' : hh_} {D : od_} {a v : Int32} (S : sm_ h h') (m : ff_X8_isThumb a h = v) : ff_X8_isThumb a h' = v := by
  unfold ff_X8_isThumb at m ⊢
  rw [S 98 11 (by decide) (by decide)]
  exact m
theorem sm_.iH {h h' : hh_} {a v : Int32} (S : sm_ h h') (m : ff_X8_isHead a h = v) : ff_X8_isHead a h' = v := by
  unfold ff_X8_isHead at m ⊢
  rw [S 98 10 (by decide) (by decide)]
  exact m
theorem sm_.iP {h h' : hh_} {a v : Int32} (S : sm_ h h') (m : ff_X8_isPost a h = v) : ff_X8_isPost a h' = v := by
  unfold ff_X8_isPost at m ⊢
  rw [S 98 12 (by decide) (by decide)]
  exact m
/-- 21: reads -/
theorem st_21 : sp_21 inv_ := by
  intro h a1 a2 a3 H
  obtain ⟨hn, D, F, ds, n, K, C, M, -⟩ := H.2.2.2
  have B := H.2.2.2.nwB
  rcases hs_1 a1 K C M with ⟨t, ht, rfl, c1, m1⟩ | ⟨c1, m1⟩
  · rcases hs_0 a2 K C M with ⟨i, hi, rfl, c2, m2⟩ | ⟨c2, m2⟩
    · rcases pl_ a3 with ⟨j, hj, rfl, c3, m3⟩ | ⟨c3, m3⟩
      · refine rd_ H 1 (nI (lst_ D t i j 0)) (nI (mst_ D t i j 0)) (by decide) ?_ (fun h' S => ?_)
        · unfold ff_X7_reads
          rw [gd_t B, c1, Option.bind_some, if_neg n10, c2, Option.bind_some, if_neg n10, c3, if_neg n10, ms_C0 K C ht hi hj, Option.bind_some]
          have C' : oC_ h.2.2.1 (ff_X6_tell (nI (mst_ D t i j 0)) h).2 D := C.fr K (fun c j q => sI_ne (by have := H.2.2.2.nw; omega))
          have e1 := ls_C0 K C' ht hi hj
          rw [show (ff_X6_tell (nI (mst_ D t i j 0)) h).2.2.2.1 = h.2.2.1 from rfl, gd_t B, e1]
          rfl
        · have M' := S.oM M
          unfold ff_X8_reads
          rw [S.iT (D := D) m1, if_neg n10, S.iH m2, if_neg n10, m3, if_neg n10, ms_M K M' ht hi hj, Option.bind_some, ls_M K M' ht hi hj, Option.bind_some]
          rfl
      · refine rd_ H 0 (-1) 0 (by decide) ?_ (fun h' S => ?_)
        · unfold ff_X7_reads
          rw [gd_t B, c1, Option.bind_some, if_neg n10, c2, Option.bind_some, if_neg n10, c3, if_pos rfl]; rfl
        · unfold ff_X8_reads
          rw [S.iT (D := D) m1, if_neg n10, S.iH m2, if_neg n10, m3, if_pos rfl]; rfl
    · refine rd_ H 0 (-1) 0 (by decide) ?_ (fun h' S => ?_)
      · unfold ff_X7_reads
        rw [gd_t B, c1, Option.bind_some, if_neg n10, c2, Option.bind_some, if_pos rfl]; rfl
      · unfold ff_X8_reads
        rw [S.iT (D := D) m1, if_neg n10, S.iH m2, if_pos rfl]; rfl
  · refine rd_ H 0 (-1) 0 (by decide) ?_ (fun h' S => ?_)
    · unfold ff_X7_reads
      rw [gd_t B, c1, Option.bind_some, if_pos rfl]; rfl
    · unfold ff_X8_reads
      rw [S.iT (D := D) m1, if_pos rfl]; rfl
