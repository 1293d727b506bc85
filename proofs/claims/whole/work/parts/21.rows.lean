/-! ===== numbers in and out of range ===== -/
theorem ti_0 : (0 : Int32).toInt = 0 := rfl
theorem nI_lit (n : Nat) (x : Int32) (h : x = nI n) : x = nI n := h
theorem in_t {j lo hi : Nat} (h1 : lo ≤ j) (h2 : j ≤ hi) (h3 : hi < 2 ^ 31) : ff_X8_in (nI j) (nI lo) (nI hi) = 1 := by
  unfold ff_X8_in
  rw [if_neg (by rw [nI_ltI (by omega) (by omega)]; omega), if_neg (by rw [nI_ltI (by omega) (by omega)]; omega)]
theorem in_f {a : Int32} {lo hi : Nat} (h : a < nI lo ∨ nI hi < a) : ff_X8_in a (nI lo) (nI hi) = 0 := by
  unfold ff_X8_in
  rcases h with h | h
  · rw [if_pos h]
  · by_cases e : a < nI lo
    · rw [if_pos e]
    · rw [if_neg e, if_pos h]
theorem ix_cases (a : Int32) {N : Nat} (hN : N < 2 ^ 31) (h0 : 0 < N) : (∃ j, j < N ∧ a = nI j ∧ ¬ a < 0 ∧ ¬ nI N ≤ a ∧ ff_X8_in a (nI 0) (nI (N - 1)) = 1) ∨ ((a < 0 ∨ (¬ a < 0 ∧ nI N ≤ a)) ∧ ff_X8_in a (nI 0) (nI (N - 1)) = 0) := by
  rcases pk_ix a hN with h | h | ⟨j, hj, rfl⟩
  · exact Or.inr ⟨Or.inl h, in_f (Or.inl h)⟩
  · refine Or.inr ⟨?_, in_f (Or.inr ?_)⟩
    · by_cases e : a < 0
      · exact Or.inl e
      · exact Or.inr ⟨e, h⟩
    · rw [Int32.le_iff_toInt_le, nI_toInt (by omega)] at h
      rw [Int32.lt_iff_toInt_lt, nI_toInt (by omega)]
      omega
  · refine Or.inl ⟨j, hj, rfl, nI_pos (by omega), ?_, in_t (Nat.zero_le _) (by omega) (by omega)⟩
    rw [nI_leI (by omega) (by omega)]; omega
theorem al_r (a : Int32) (h : hh_) : (∃ j, j < 6 ∧ a = nI j ∧ ff_X5r_allows a h = 1 ∧ ff_X8_isRow a = 1) ∨ (ff_X5r_allows a h = 0 ∧ ff_X8_isRow a = 0) := by
  unfold ff_X5r_allows ff_X8_isRow
  rcases ix_cases a (N := 6) (by decide) (by decide) with ⟨j, hj, e, n1, n2, n3⟩ | ⟨n1, n3⟩
  · exact Or.inl ⟨j, hj, e, by rw [if_neg n1, if_neg (show ¬ (6 : Int32) ≤ a from n2)], n3⟩
  · refine Or.inr ⟨?_, n3⟩
    rcases n1 with n | ⟨n, n2⟩
    · rw [if_pos n]
    · rw [if_neg n, if_pos (show (6 : Int32) ≤ a from n2)]
theorem al_t (a : Int32) (h : hh_) : (∃ j, j < 4 ∧ a = nI j ∧ ff_X5t_allows a h = 1 ∧ ff_X8_isText a = 1) ∨ (ff_X5t_allows a h = 0 ∧ ff_X8_isText a = 0) := by
  unfold ff_X5t_allows ff_X8_isText
  rcases ix_cases a (N := 4) (by decide) (by decide) with ⟨j, hj, e, n1, n2, n3⟩ | ⟨n1, n3⟩
  · exact Or.inl ⟨j, hj, e, by rw [if_neg n1, if_neg (show ¬ (4 : Int32) ≤ a from n2)], n3⟩
  · refine Or.inr ⟨?_, n3⟩
    rcases n1 with n | ⟨n, n2⟩
    · rw [if_pos n]
    · rw [if_neg n, if_pos (show (4 : Int32) ≤ a from n2)]
theorem is_r {r : Nat} (hr : r < 6) : ff_X8_isRow (nI r) = 1 := in_t (lo := 0) (hi := 5) (Nat.zero_le _) (by omega) (by decide)
theorem is_t {r : Nat} (hr : r < 4) : ff_X8_isText (nI r) = 1 := in_t (lo := 0) (hi := 3) (Nat.zero_le _) (by omega) (by decide)
theorem n10 : ¬ (1 : Int32) = 0 := by decide
theorem m9_neg : ¬ (0 : Int32) ≤ -9 := by decide
theorem m1_neg : ¬ (0 : Int32) ≤ -1 := by decide
theorem m3_neg : ¬ (0 : Int32) ≤ -3 := by decide
theorem nI_m1 {n : Nat} (h : n < 2 ^ 31) : ¬ nI n = -1 := by
  intro e
  have := congrArg Int32.toInt e
  rw [nI_toInt h] at this
  have h2 : (-1 : Int32).toInt = -1 := by decide
  omega
/-! ===== rows: lacking, or of a size ===== -/
theorem lk_r {h : hh_} {r : Nat} (hr : r < 6) (H : rw_ h 10 4 100 101 40 r) : (ff_X5r_lacks (nI r) h = some 1 ∧ h.1 100 r = -9) ∨ ∃ n, n ≤ 40 ∧ ff_X5r_lacks (nI r) h = some 0 ∧ h.1 10 r = nI n ∧ h.1 100 r = nI n ∧ ∀ i, i < n → h.1 (4 + r) i = h.1 101 (40 * r + i) := by
  unfold ff_X5r_lacks
  rw [gd_n hr (by decide), nI_clamp (by omega)]
  rcases H with ⟨a, b⟩ | ⟨n, hn, a, b, c⟩
  · exact Or.inl ⟨by rw [a, if_pos rfl], b⟩
  · exact Or.inr ⟨n, hn, by rw [a, if_neg (nI_m1 (by omega))], a, b, c⟩
theorem lk_t {h : hh_} {r : Nat} (hr : r < 4) (H : rw_ h 17 13 103 104 80 r) : (ff_X5t_lacks (nI r) h = some 1 ∧ h.1 103 r = -9) ∨ ∃ n, n ≤ 80 ∧ ff_X5t_lacks (nI r) h = some 0 ∧ h.1 17 r = nI n ∧ h.1 103 r = nI n ∧ ∀ i, i < n → h.1 (13 + r) i = h.1 104 (80 * r + i) := by
  unfold ff_X5t_lacks
  rw [gd_n hr (by decide), nI_clamp (by omega)]
  rcases H with ⟨a, b⟩ | ⟨n, hn, a, b, c⟩
  · exact Or.inl ⟨by rw [a, if_pos rfl], b⟩
  · exact Or.inr ⟨n, hn, by rw [a, if_neg (nI_m1 (by omega))], a, b, c⟩
theorem ar_n {h : hh_} {r : Nat} (hr : r < 6) (e : h.1 100 r = -9) : ff_X8_askedRow (nI r) h = some (-3, mre_ 1 h) := by
  unfold ff_X8_askedRow
  have e1 := is_r hr
  rw [e1, if_neg n10, gd_n hr (by decide), nI_clamp (by omega), e, if_neg m9_neg, show (1 : Int32) = nI 1 from rfl, ref_M (by decide)]
  rfl
theorem ar_s {h : hh_} {r n : Nat} (hr : r < 6) (hn : n < 2 ^ 31) (e : h.1 100 r = nI n) : ff_X8_askedRow (nI r) h = some (0, h) := by
  unfold ff_X8_askedRow
  have e1 := is_r hr
  rw [e1, if_neg n10, gd_n hr (by decide), nI_clamp (by omega), e, if_pos (nI_pos' hn)]
theorem ar_b {a : Int32} {h : hh_} (e : ff_X8_isRow a = 0) : ff_X8_askedRow a h = some (-1, h) := by
  unfold ff_X8_askedRow
  rw [e, if_pos rfl]
theorem at_n {h : hh_} {r : Nat} (hr : r < 4) (e : h.1 103 r = -9) : ff_X8_askedText (nI r) h = some (-3, mre_ 1 h) := by
  unfold ff_X8_askedText
  have e1 := is_t hr
  rw [e1, if_neg n10, gd_n hr (by decide), nI_clamp (by omega), e, if_neg m9_neg, show (1 : Int32) = nI 1 from rfl, ref_M (by decide)]
  rfl
theorem at_s {h : hh_} {r n : Nat} (hr : r < 4) (hn : n < 2 ^ 31) (e : h.1 103 r = nI n) : ff_X8_askedText (nI r) h = some (0, h) := by
  unfold ff_X8_askedText
  have e1 := is_t hr
  rw [e1, if_neg n10, gd_n hr (by decide), nI_clamp (by omega), e, if_pos (nI_pos' hn)]
theorem at_b {a : Int32} {h : hh_} (e : ff_X8_isText a = 0) : ff_X8_askedText a h = some (-1, h) := by
  unfold ff_X8_askedText
  rw [e, if_pos rfl]
theorem ra_ {r i : Nat} (h : hh_) (hr : r < 6) (hi : i < 40) : ff_X8_rowAt (nI r) (nI i) h = some (h.1 101 (40 * r + i)) := by
  unfold ff_X8_rowAt
  rw [show (40 : Int32) = nI 40 from rfl, pk_mul, nI_add, gd_n (by omega) (by decide), nI_clamp (by omega)]
theorem sr_ {r i : Nat} {v : Int32} (h : hh_) (hr : r < 6) (hi : i < 40) : ff_X8_setRow (nI r) (nI i) v h = some (hh_sI h 101 (40 * r + i) v) := by
  unfold ff_X8_setRow
  rw [show (40 : Int32) = nI 40 from rfl, pk_mul, nI_add, gd_n (by omega) (by decide), nI_clamp (by omega)]
/-- a index against a size -/
theorem sz_cases (a : Int32) (n : Nat) (hn : n < 2 ^ 31) : (∃ i, i < n ∧ a = nI i ∧ ¬ a < 0 ∧ a < nI n ∧ ff_X8_in a 0 (nI n - 1) = 1) ∨ ((a < 0 ∨ (¬ a < 0 ∧ ¬ a < nI n)) ∧ ff_X8_in a 0 (nI n - 1) = 0) := by
  have e1 : (nI n - 1).toInt = (n : Int) - 1 := by
    rw [show (1 : Int32) = nI 1 from rfl]
    by_cases h : 1 ≤ n
    · rw [pk_sub h, nI_toInt (by omega)]; omega
    · have : n = 0 := by omega
      subst this
      decide
  have key : ff_X8_in a 0 (nI n - 1) = if 0 ≤ a.toInt ∧ a.toInt < n then 1 else 0 := by
    unfold ff_X8_in
    simp only [Int32.lt_iff_toInt_lt, ti_0, e1]
    by_cases h1 : a.toInt < 0
    · rw [if_pos h1, if_neg (by omega)]
    · rw [if_neg h1]
      by_cases h2 : (n : Int) - 1 < a.toInt
      · rw [if_pos h2, if_neg (by omega)]
      · rw [if_neg h2, if_pos (by omega)]
  rcases pk_ix a hn with h | h | ⟨j, hj, rfl⟩
  · refine Or.inr ⟨Or.inl h, ?_⟩
    rw [key, if_neg]
    rw [Int32.lt_iff_toInt_lt, ti_0] at h
    omega
  · rw [Int32.le_iff_toInt_le, nI_toInt hn] at h
    refine Or.inr ⟨Or.inr ⟨?_, ?_⟩, ?_⟩
    · rw [Int32.lt_iff_toInt_lt, ti_0]; omega
    · rw [Int32.lt_iff_toInt_lt, nI_toInt hn]; omega
    · rw [key, if_neg]; omega
  · refine Or.inl ⟨j, hj, rfl, nI_pos (by omega), nI_lt hj hn, ?_⟩
    rw [key, nI_toInt (by omega), if_pos]; omega
theorem fa_r {h : hh_} {r n : Nat} (a : Int32) (hr : r < 6) (hn : n ≤ 40) (e0 : ff_X5r_lacks (nI r) h = some 0) (e : h.1 10 r = nI n) : (∃ i, i < n ∧ a = nI i ∧ ff_X5r_findingAt (nI r) a h = some 0 ∧ ff_X8_in a 0 (nI n - 1) = 1) ∨ (ff_X5r_findingAt (nI r) a h = some (nI 2) ∧ ff_X8_in a 0 (nI n - 1) = 0) := by
  have key : ff_X5r_findingAt (nI r) a h = if a < 0 then some 2 else if a < nI n then some 0 else some 2 := by
    unfold ff_X5r_findingAt
    rw [e0, Option.bind_some, if_pos rfl, gd_n hr (by decide), nI_clamp (by omega), e]
  rw [key]
  rcases sz_cases a n (by omega) with ⟨i, hi, e2, n1, n2, n3⟩ | ⟨n1, n3⟩
  · exact Or.inl ⟨i, hi, e2, by rw [if_neg n1, if_pos n2], n3⟩
  · refine Or.inr ⟨?_, n3⟩
    rcases n1 with q | ⟨q, q2⟩
    · rw [if_pos q]; rfl
    · rw [if_neg q, if_neg q2]; rfl
theorem fa_t {h : hh_} {r n : Nat} (a : Int32) (hr : r < 4) (hn : n ≤ 80) (e0 : ff_X5t_lacks (nI r) h = some 0) (e : h.1 17 r = nI n) : (∃ i, i < n ∧ a = nI i ∧ ff_X5t_findingAt (nI r) a h = some 0 ∧ ff_X8_in a 0 (nI n - 1) = 1) ∨ (ff_X5t_findingAt (nI r) a h = some (nI 2) ∧ ff_X8_in a 0 (nI n - 1) = 0) := by
  have key : ff_X5t_findingAt (nI r) a h = if a < 0 then some 2 else if a < nI n then some 0 else some 2 := by
    unfold ff_X5t_findingAt
    rw [e0, Option.bind_some, if_pos rfl, gd_n hr (by decide), nI_clamp (by omega), e]
  rw [key]
  rcases sz_cases a n (by omega) with ⟨i, hi, e2, n1, n2, n3⟩ | ⟨n1, n3⟩
  · exact Or.inl ⟨i, hi, e2, by rw [if_neg n1, if_pos n2], n3⟩
  · refine Or.inr ⟨?_, n3⟩
    rcases n1 with q | ⟨q, q2⟩
    · rw [if_pos q]; rfl
    · rw [if_neg q, if_neg q2]; rfl
theorem fa_n {h : hh_} {a1 a : Int32} (e0 : ff_X5r_lacks a1 h = some 1) : ff_X5r_findingAt a1 a h = some (nI 1) := by
  unfold ff_X5r_findingAt
  rw [e0]
  rfl
theorem fat_n {h : hh_} {a1 a : Int32} (e0 : ff_X5t_lacks a1 h = some 1) : ff_X5t_findingAt a1 a h = some (nI 1) := by
  unfold ff_X5t_findingAt
  rw [e0]
  rfl
/-- refused by both alike -/
theorem in_bad {h : hh_} (H : inv_ h) {C : Option (Int32 × hh_)} {M : hh_ → Option (Int32 × hh_)} {v : Int32} (e1 : C = some (v, h)) (e2 : M h = some (v, h)) : ∃ (r : Int32) (h1 : hh_) (h2 : hh_), C = some (r, h1) ∧ M h1 = some (r, h2) ∧ inv_ h2 := ⟨v, h, h, e1, e2, H⟩
/-- 2: at -/
theorem at_C {r n i : Nat} {h : hh_} (hr : r < 6) (hi : i < n) (hn : n ≤ 40) (e0 : ff_X5r_findingAt (nI r) (nI i) h = some 0) : ff_X7_at (nI r) (nI i) h = some (1, cte_ (h.1 (4 + r) i) h) := by
  unfold ff_X7_at
  have e1 : ff_X5r_allows (nI r) h = 1 := by
    rcases al_r (nI r) h with ⟨j, hj, e, w, -⟩ | ⟨-, w⟩
    · exact w
    · rw [is_r hr] at w
      exact absurd w n10
  rw [e1, if_neg n10, e0, Option.bind_some, if_pos rfl, gd_n hr (by decide), gd_n (by omega) (by decide), nI_clamp (by omega), nI_clamp (by omega)]
  rfl
theorem at_M {r n i : Nat} {h : hh_} (hr : r < 6) (hi : i < n) (hn : n ≤ 40) (e : h.1 100 r = nI n) (e2 : ff_X8_in (nI i) 0 (nI n - 1) = 1) : ff_X8_at (nI r) (nI i) h = some (1, mte_ (h.1 101 (40 * r + i)) h) := by
  unfold ff_X8_at
  rw [ar_s hr (by omega) e, Option.bind_some]
  dsimp only
  rw [if_pos (show (0 : Int32) ≤ 0 by decide), gd_n hr (by decide), nI_clamp (by omega), e, e2, if_neg n10, ra_ h hr (by omega)]
  rfl
theorem al_1 {r : Nat} (h : hh_) (hr : r < 6) : ff_X5r_allows (nI r) h = 1 := by
  rcases al_r (nI r) h with ⟨j, hj, e, w, -⟩ | ⟨-, w⟩
  · exact w
  · rw [is_r hr] at w
    exact absurd w n10
theorem alt_1 {r : Nat} (h : hh_) (hr : r < 4) : ff_X5t_allows (nI r) h = 1 := by
  rcases al_t (nI r) h with ⟨j, hj, e, w, -⟩ | ⟨-, w⟩
  · exact w
  · rw [is_t hr] at w
    exact absurd w n10
theorem st_2 : sp_2 inv_ := by
  intro h a1 a2 H
  rcases al_r a1 h with ⟨r, hr, rfl, c1, m1⟩ | ⟨c1, m1⟩
  · rcases lk_r hr (H.2.1 r hr) with ⟨l0, l1⟩ | ⟨n, hn, l0, l1, l2, l3⟩
    · refine ⟨-3, cre_ 1 h, mre_ 1 (cre_ 1 h), ?_, ?_, inv_ref H (by decide)⟩
      · unfold ff_X7_at
        rw [c1, if_neg n10, fa_n l0, Option.bind_some, if_neg (show ¬ nI 1 = 0 by decide), ref_C (by decide)]
        rfl
      · unfold ff_X8_at
        rw [ar_n hr (by rw [cre_I (by decide) (by decide)]; exact l1)]
        rfl
    · rcases fa_r a2 hr hn l0 l1 with ⟨i, hi, rfl, f1, f2⟩ | ⟨f1, f2⟩
      · refine ⟨1, _, _, at_C hr hi hn f1, ?_, inv_tell H (h.1 (4 + r) i)⟩
        have e1 : (cte_ (h.1 (4 + r) i) h).1 101 (40 * r + i) = h.1 (4 + r) i := by
          unfold cte_
          rw [sI_ne (by decide)]
          exact (l3 i hi).symm
        rw [at_M hr hi hn (by unfold cte_; rw [sI_ne (by decide)]; exact l2) f2, e1]
      · refine ⟨-3, cre_ 2 h, mre_ 2 (cre_ 2 h), ?_, ?_, inv_ref H (by decide)⟩
        · unfold ff_X7_at
          rw [c1, if_neg n10, f1, Option.bind_some, if_neg (show ¬ nI 2 = 0 by decide), ref_C (by decide)]
          rfl
        · unfold ff_X8_at
          have e : (cre_ 2 h).1 100 r = nI n := by rw [cre_I (by decide) (by decide)]; exact l2
          rw [ar_s hr (by omega) e, Option.bind_some]
          dsimp only
          rw [if_pos (show (0 : Int32) ≤ 0 by decide), gd_n hr (by decide), nI_clamp (by omega), e, f2, if_pos rfl, show (2 : Int32) = nI 2 from rfl, ref_M (by decide)]
          rfl
  · exact in_bad H (M := ff_X8_at a1 a2) (v := -1) (by unfold ff_X7_at; rw [c1, if_pos rfl]) (by unfold ff_X8_at; rw [ar_b m1]; rfl)
