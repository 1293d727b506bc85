/-! ===== row, lay, tear, text, put; what is told ===== -/
theorem sI_comm {h : hh_} {a i b j : Nat} {v w : Int32} (e : a ≠ b) : hh_sI (hh_sI h a i v) b j w = hh_sI (hh_sI h b j w) a i v := by
  refine hh_ext (fun k x => ?_) (fun _ _ => rfl) rfl
  by_cases k1 : k = b
  · subst k1
    rw [sI_if, sI_ne (Ne.symm e), sI_ne (Ne.symm e), sI_if]
  · rw [sI_ne k1]
    by_cases k2 : k = a
    · subst k2
      rw [sI_if, sI_if, sI_ne k1]
    · rw [sI_ne k2, sI_ne k2, sI_ne k1]
/-- places a .. n-1 of a cell are v -/
def fi_ (h : hh_) (k a n : Nat) (v : Int32) : hh_ := (fun c j => if c = k ∧ a ≤ j ∧ j < n then v else h.1 c j, h.2)
theorem fi_0 {h : hh_} {k n : Nat} {v : Int32} : fi_ h k n n v = h := by
  refine hh_ext (fun c j => ?_) (fun _ _ => rfl) rfl
  show (if c = k ∧ n ≤ j ∧ j < n then v else h.1 c j) = _
  rw [if_neg (by omega)]
theorem fi_s {h : hh_} {k a n : Nat} {v : Int32} (ha : a < n) : fi_ (hh_sI h k a v) k (a + 1) n v = fi_ h k a n v := by
  refine hh_ext (fun c j => ?_) (fun _ _ => rfl) rfl
  show (if c = k ∧ a + 1 ≤ j ∧ j < n then v else (hh_sI h k a v).1 c j) = (if c = k ∧ a ≤ j ∧ j < n then v else h.1 c j)
  by_cases e : c = k
  · subst e
    by_cases e2 : j = a
    · subst e2
      rw [if_neg (by omega), if_pos (by omega), sI_eq]
    · rw [sI_nj e2]
      by_cases e3 : a + 1 ≤ j ∧ j < n
      · rw [if_pos ⟨rfl, e3⟩, if_pos (by omega)]
      · rw [if_neg (fun q => e3 q.2), if_neg (by omega)]
  · rw [if_neg (fun q => e q.1), if_neg (fun q => e q.1), sI_ne e]
theorem fi_ne {h : hh_} {k a n c j : Nat} {v : Int32} (e : c ≠ k) : (fi_ h k a n v).1 c j = h.1 c j := by
  show (if c = k ∧ a ≤ j ∧ j < n then v else h.1 c j) = _
  rw [if_neg (fun q => e q.1)]
theorem fi_in {h : hh_} {k a n j : Nat} {v : Int32} (h1 : a ≤ j) (h2 : j < n) : (fi_ h k a n v).1 k j = v := by
  show (if k = k ∧ a ≤ j ∧ j < n then v else h.1 k j) = _
  rw [if_pos ⟨rfl, h1, h2⟩]
theorem fi_out {h : hh_} {k a n c j : Nat} {v : Int32} (h1 : j < a ∨ n ≤ j) : (fi_ h k a n v).1 c j = h.1 c j := by
  show (if c = k ∧ a ≤ j ∧ j < n then v else h.1 c j) = _
  rw [if_neg (by omega)]
theorem rn_loop {r n : Nat} {v : Int32} (hr : r < 6) (hn : n ≤ 40) : ∀ (d i m : Nat) (h : hh_), i + d = n → ff_X5r_renew_10 (nI r) (nI n) v (m + d + 1) (nI i) h = some (fi_ h (4 + r) i n v) := by
  intro d
  induction d with
  | zero =>
    intro i m h e
    have e : i = n := by omega
    subst e
    rw [ff_X5r_renew_10, if_pos (nI_le (Nat.le_refl _) (by omega)), fi_0]
  | succ d ih =>
    intro i m h e
    rw [show m + (d + 1) + 1 = (m + d + 1) + 1 by omega, ff_X5r_renew_10, if_neg (nI_ge (by omega) (by omega)), gd_n hr (by decide), gd_n (by omega) (by decide), nI_1, nI_clamp (by omega), nI_clamp (by omega), ih (i + 1) m _ (by omega), fi_s (by omega)]
theorem rn_C {r n : Nat} {v : Int32} {h : hh_} (hr : r < 6) (hn : n ≤ 40) : ff_X5r_renew (nI r) (nI n) v h = some (fi_ (hh_sI h 10 r (nI n)) (4 + r) 0 n v) := by
  unfold ff_X5r_renew
  obtain ⟨k, hk⟩ := fu_ n (by omega)
  rw [gd_n hr (by decide), nI_clamp (by omega), hk]
  exact rn_loop hr hn n 0 k _ (by omega)
theorem rnt_loop {r n : Nat} {v : Int32} (hr : r < 4) (hn : n ≤ 80) : ∀ (d i m : Nat) (h : hh_), i + d = n → ff_X5t_renew_10 (nI r) (nI n) v (m + d + 1) (nI i) h = some (fi_ h (13 + r) i n v) := by
  intro d
  induction d with
  | zero =>
    intro i m h e
    have e : i = n := by omega
    subst e
    rw [ff_X5t_renew_10, if_pos (nI_le (Nat.le_refl _) (by omega)), fi_0]
  | succ d ih =>
    intro i m h e
    rw [show m + (d + 1) + 1 = (m + d + 1) + 1 by omega, ff_X5t_renew_10, if_neg (nI_ge (by omega) (by omega)), gd_n hr (by decide), gd_n (by omega) (by decide), nI_1, nI_clamp (by omega), nI_clamp (by omega), ih (i + 1) m _ (by omega), fi_s (by omega)]
theorem rnt_C {r n : Nat} {v : Int32} {h : hh_} (hr : r < 4) (hn : n ≤ 80) : ff_X5t_renew (nI r) (nI n) v h = some (fi_ (hh_sI h 17 r (nI n)) (13 + r) 0 n v) := by
  unfold ff_X5t_renew
  obtain ⟨k, hk⟩ := fu_ n (by omega)
  rw [gd_n hr (by decide), nI_clamp (by omega), hk]
  exact rnt_loop hr hn n 0 k _ (by omega)
theorem mr_loop {r : Nat} {x2 : Int32} (hr : r < 6) : ∀ (d i m : Nat) (h : hh_), i + d = 40 → ff_X8_row_34 (nI r) x2 (m + d + 1) (nI i) h = some (x2, fi_ h 101 (40 * r + i) (40 * r + 40) 0) := by
  intro d
  induction d with
  | zero =>
    intro i m h e
    have e : i = 40 := by omega
    subst e
    rw [ff_X8_row_34, if_pos (show (40 : Int32) ≤ nI 40 by decide), fi_0]
  | succ d ih =>
    intro i m h e
    rw [show m + (d + 1) + 1 = (m + d + 1) + 1 by omega, ff_X8_row_34, if_neg (show ¬ (40 : Int32) ≤ nI i from nI_ge (b := 40) (by omega) (by omega)), sr_ h hr (by omega), Option.bind_some, nI_1, ih (i + 1) m _ (by omega), ← Nat.add_assoc, fi_s (by omega)]
theorem mr_M {r n : Nat} {h : hh_} (hr : r < 6) (hn : n ≤ 40) : ff_X8_row (nI r) (nI n) h = some (nI n, fi_ (hh_sI h 100 r (nI n)) 101 (40 * r) (40 * r + 40) 0) := by
  unfold ff_X8_row
  obtain ⟨k, hk⟩ := fu_ 40 (by omega)
  rw [is_r hr, if_neg n10, if_pos (show nI n ≤ 40 from nI_le (b := 40) hn (by decide)), if_pos (nI_pos' (by omega)), gd_n hr (by decide), nI_clamp (by omega), hk]
  exact mr_loop hr 40 0 k _ (by omega)
theorem mt_loop {r : Nat} {x2 : Int32} (hr : r < 4) : ∀ (d i m : Nat) (h : hh_), i + d = 80 → ff_X8_text_34 (nI r) x2 (m + d + 1) (nI i) h = some (x2, fi_ h 104 (80 * r + i) (80 * r + 80) 32) := by
  intro d
  induction d with
  | zero =>
    intro i m h e
    have e : i = 80 := by omega
    subst e
    rw [ff_X8_text_34, if_pos (show (80 : Int32) ≤ nI 80 by decide), fi_0]
  | succ d ih =>
    intro i m h e
    rw [show m + (d + 1) + 1 = (m + d + 1) + 1 by omega, ff_X8_text_34, if_neg (show ¬ (80 : Int32) ≤ nI i from nI_ge (b := 80) (by omega) (by omega)), show (80 : Int32) = nI 80 from rfl, pk_mul, nI_add, gd_n (by omega) (by decide), nI_clamp (by omega), nI_1, ih (i + 1) m _ (by omega), ← Nat.add_assoc, fi_s (by omega)]
theorem mt_M {r n : Nat} {h : hh_} (hr : r < 4) (hn : n ≤ 80) : ff_X8_text (nI r) (nI n) h = some (nI n, fi_ (hh_sI h 103 r (nI n)) 104 (80 * r) (80 * r + 80) 32) := by
  unfold ff_X8_text
  obtain ⟨k, hk⟩ := fu_ 80 (by omega)
  rw [is_t hr, if_neg n10, if_pos (show nI n ≤ 80 from nI_le (b := 80) hn (by decide)), if_pos (nI_pos' (by omega)), gd_n hr (by decide), nI_clamp (by omega), hk]
  exact mt_loop hr 80 0 k _ (by omega)
/-- only rows change -/
theorem inv_rows {h h' : hh_} (H : inv_ h) (e : ∀ k j, ¬ ((4 ≤ k ∧ k ≤ 10) ∨ k = 100 ∨ k = 101) → h'.1 k j = h.1 k j) (e2 : h'.2 = h.2) (hR : iR_ h') : inv_ h' := by
  obtain ⟨hT, -, hX, hO⟩ := H
  refine ⟨hT.fr (fun k j q => e _ _ (by omega)) (fun k j q => by rw [e2]), hR, hX.fr (fun k j q => e _ _ (by omega)), iO_.fr (h := h) (by rw [e2]; exact ⟨rfl, rfl⟩) (fun k j q => e _ _ ?_) hO⟩
  have w := fO_out hO q
  have w2 := hO.nw
  unfold fO_ at q
  omega
theorem inv_texts {h h' : hh_} (H : inv_ h) (e : ∀ k j, ¬ ((13 ≤ k ∧ k ≤ 17) ∨ k = 103 ∨ k = 104) → h'.1 k j = h.1 k j) (e2 : h'.2 = h.2) (hX : iX_ h') : inv_ h' := by
  obtain ⟨hT, hR, -, hO⟩ := H
  refine ⟨hT.fr (fun k j q => e _ _ (by omega)) (fun k j q => by rw [e2]), hR.fr (fun k j q => e _ _ (by omega)), hX, iO_.fr (h := h) (by rw [e2]; exact ⟨rfl, rfl⟩) (fun k j q => e _ _ ?_) hO⟩
  have w := fO_out hO q
  have w2 := hO.nw
  unfold fO_ at q
  omega
/-- a row made anew: in both -/
theorem iR_new {h h' : hh_} (H : iR_ h) {r n : Nat} (hr : r < 6) (hn : n ≤ 40) (c1 : h'.1 10 r = nI n) (c2 : h'.1 100 r = nI n) (c3 : ∀ i, i < n → h'.1 (4 + r) i = h'.1 101 (40 * r + i)) (o1 : ∀ s, s ≠ r → h'.1 10 s = h.1 10 s) (o2 : ∀ s, s ≠ r → h'.1 100 s = h.1 100 s) (o3 : ∀ s i, s < 6 → s ≠ r → h'.1 (4 + s) i = h.1 (4 + s) i) (o4 : ∀ j, j < 40 * r ∨ 40 * r + 40 ≤ j → h'.1 101 j = h.1 101 j) : iR_ h' := by
  intro s hs
  by_cases e : s = r
  · subst e
    exact Or.inr ⟨n, hn, c1, c2, c3⟩
  · rcases H s hs with ⟨a, b⟩ | ⟨m, hm, a, b, c⟩
    · exact Or.inl ⟨(o1 s e).trans a, (o2 s e).trans b⟩
    · exact Or.inr ⟨m, hm, (o1 s e).trans a, (o2 s e).trans b, fun i hi => by rw [o3 s i hs e, o4 _ (by omega)]; exact c i hi⟩
theorem iX_new {h h' : hh_} (H : iX_ h) {r n : Nat} (hr : r < 4) (hn : n ≤ 80) (c1 : h'.1 17 r = nI n) (c2 : h'.1 103 r = nI n) (c3 : ∀ i, i < n → h'.1 (13 + r) i = h'.1 104 (80 * r + i)) (o1 : ∀ s, s ≠ r → h'.1 17 s = h.1 17 s) (o2 : ∀ s, s ≠ r → h'.1 103 s = h.1 103 s) (o3 : ∀ s i, s < 4 → s ≠ r → h'.1 (13 + s) i = h.1 (13 + s) i) (o4 : ∀ j, j < 80 * r ∨ 80 * r + 80 ≤ j → h'.1 104 j = h.1 104 j) : iX_ h' := by
  intro s hs
  by_cases e : s = r
  · subst e
    exact Or.inr ⟨n, hn, c1, c2, c3⟩
  · rcases H s hs with ⟨a, b⟩ | ⟨m, hm, a, b, c⟩
    · exact Or.inl ⟨(o1 s e).trans a, (o2 s e).trans b⟩
    · exact Or.inr ⟨m, hm, (o1 s e).trans a, (o2 s e).trans b, fun i hi => by rw [o3 s i hs e, o4 _ (by omega)]; exact c i hi⟩
/-- a size: below 0, too large, or good -/
theorem sz3 (a : Int32) (N : Nat) (hN : N < 2 ^ 31 - 1) : (¬ a ≤ nI N) ∨ (a ≤ nI N ∧ ¬ 0 ≤ a) ∨ ∃ n, n ≤ N ∧ a = nI n ∧ a ≤ nI N ∧ 0 ≤ a := by
  rcases pk_ix a (n := N + 1) (by omega) with h | h | ⟨j, hj, rfl⟩
  · refine Or.inr (Or.inl ⟨?_, ?_⟩)
    · rw [Int32.le_iff_toInt_le, nI_toInt (by omega)]
      rw [Int32.lt_iff_toInt_lt, ti_0] at h
      omega
    · rw [Int32.le_iff_toInt_le, ti_0]
      rw [Int32.lt_iff_toInt_lt, ti_0] at h
      omega
  · refine Or.inl ?_
    rw [Int32.le_iff_toInt_le, nI_toInt (by omega)] at h
    rw [Int32.le_iff_toInt_le, nI_toInt (by omega)]
    omega
  · exact Or.inr (Or.inr ⟨j, by omega, rfl, nI_le (by omega) (by omega), nI_pos' (by omega)⟩)
/-- 0: row -/
theorem st_0 : sp_0 inv_ := by
  intro h a1 a2 H
  rcases al_r a1 h with ⟨r, hr, rfl, c1, m1⟩ | ⟨c1, m1⟩
  · rcases sz3 a2 40 (by decide) with s | ⟨s, s2⟩ | ⟨n, hn, rfl, s, s2⟩
    · exact in_bad H (M := ff_X8_row (nI r) a2) (v := -1) (by unfold ff_X7_row; rw [c1, if_neg n10, if_neg (show ¬ a2 ≤ 40 from s)]) (by unfold ff_X8_row; rw [m1, if_neg n10, if_neg (show ¬ a2 ≤ 40 from s)])
    · refine ⟨-3, cre_ 5 h, mre_ 5 (cre_ 5 h), ?_, ?_, inv_ref H (by decide)⟩
      · unfold ff_X7_row
        rw [c1, if_neg n10, if_pos (show a2 ≤ 40 from s), if_neg s2, show (5 : Int32) = nI 5 from rfl, ref_C (by decide)]
        rfl
      · unfold ff_X8_row
        rw [m1, if_neg n10, if_pos (show a2 ≤ 40 from s), if_neg s2, show (5 : Int32) = nI 5 from rfl, ref_M (by decide)]
        rfl
    · refine ⟨nI n, fi_ (hh_sI h 10 r (nI n)) (4 + r) 0 n 0, _, ?_, mr_M hr hn, ?_⟩
      · unfold ff_X7_row
        rw [c1, if_neg n10, if_pos (show nI n ≤ 40 from s), if_pos s2, rn_C hr hn]
        rfl
      · refine inv_rows H (fun k j q => ?_) rfl (iR_new H.2.1 hr hn ?_ ?_ (fun i hi => ?_) (fun s q => ?_) (fun s q => ?_) (fun s i q q2 => ?_) (fun j q => ?_))
        · rw [fi_ne (by omega), sI_ne (by omega), fi_ne (by omega), sI_ne (by omega)]
        · rw [fi_ne (by decide), sI_ne (by decide), fi_ne (by omega), sI_eq]
        · rw [fi_ne (by decide), sI_eq]
        · rw [fi_ne (by omega), sI_ne (by omega), fi_in (by omega) hi, fi_in (by omega) (by omega)]
        · rw [fi_ne (by decide), sI_ne (by decide), fi_ne (by omega), sI_nj q]
        · rw [fi_ne (by decide), sI_nj q, fi_ne (by omega), sI_ne (by decide)]
        · rw [fi_ne (by omega), sI_ne (by omega), fi_ne (by omega), sI_ne (by omega)]
        · rw [fi_out q, sI_ne (by decide), fi_ne (by omega), sI_ne (by decide)]
  · exact in_bad H (M := ff_X8_row a1 a2) (v := -1) (by unfold ff_X7_row; rw [c1, if_pos rfl]) (by unfold ff_X8_row; rw [m1, if_pos rfl])
/-- 6: text -/
theorem st_6 : sp_6 inv_ := by
  intro h a1 a2 H
  rcases al_t a1 h with ⟨r, hr, rfl, c1, m1⟩ | ⟨c1, m1⟩
  · rcases sz3 a2 80 (by decide) with s | ⟨s, s2⟩ | ⟨n, hn, rfl, s, s2⟩
    · exact in_bad H (M := ff_X8_text (nI r) a2) (v := -1) (by unfold ff_X7_text; rw [c1, if_neg n10, if_neg (show ¬ a2 ≤ 80 from s)]) (by unfold ff_X8_text; rw [m1, if_neg n10, if_neg (show ¬ a2 ≤ 80 from s)])
    · refine ⟨-3, cre_ 5 h, mre_ 5 (cre_ 5 h), ?_, ?_, inv_ref H (by decide)⟩
      · unfold ff_X7_text
        rw [c1, if_neg n10, if_pos (show a2 ≤ 80 from s), if_neg s2, show (5 : Int32) = nI 5 from rfl, ref_C (by decide)]
        rfl
      · unfold ff_X8_text
        rw [m1, if_neg n10, if_pos (show a2 ≤ 80 from s), if_neg s2, show (5 : Int32) = nI 5 from rfl, ref_M (by decide)]
        rfl
    · refine ⟨nI n, fi_ (hh_sI h 17 r (nI n)) (13 + r) 0 n 32, _, ?_, mt_M hr hn, ?_⟩
      · unfold ff_X7_text
        rw [c1, if_neg n10, if_pos (show nI n ≤ 80 from s), if_pos s2, rnt_C hr hn]
        rfl
      · refine inv_texts H (fun k j q => ?_) rfl (iX_new H.2.2.1 hr hn ?_ ?_ (fun i hi => ?_) (fun s q => ?_) (fun s q => ?_) (fun s i q q2 => ?_) (fun j q => ?_))
        · rw [fi_ne (by omega), sI_ne (by omega), fi_ne (by omega), sI_ne (by omega)]
        · rw [fi_ne (by decide), sI_ne (by decide), fi_ne (by omega), sI_eq]
        · rw [fi_ne (by decide), sI_eq]
        · rw [fi_ne (by omega), sI_ne (by omega), fi_in (by omega) hi, fi_in (by omega) (by omega)]
        · rw [fi_ne (by decide), sI_ne (by decide), fi_ne (by omega), sI_nj q]
        · rw [fi_ne (by decide), sI_nj q, fi_ne (by omega), sI_ne (by decide)]
        · rw [fi_ne (by omega), sI_ne (by omega), fi_ne (by omega), sI_ne (by omega)]
        · rw [fi_out q, sI_ne (by decide), fi_ne (by omega), sI_ne (by decide)]
  · exact in_bad H (M := ff_X8_text a1 a2) (v := -1) (by unfold ff_X7_text; rw [c1, if_pos rfl]) (by unfold ff_X8_text; rw [m1, if_pos rfl])
/-- 3: tear -/
theorem st_3 : sp_3 inv_ := by
  intro h a1 H
  rcases al_r a1 h with ⟨r, hr, rfl, c1, m1⟩ | ⟨c1, m1⟩
  · rcases lk_r hr (H.2.1 r hr) with ⟨l0, l1⟩ | ⟨n, hn, l0, l1, l2, l3⟩
    · refine ⟨-3, cre_ 1 h, mre_ 1 (cre_ 1 h), ?_, ?_, inv_ref H (by decide)⟩
      · unfold ff_X7_tear
        rw [c1, if_neg n10, l0, Option.bind_some, if_neg n10, show (1 : Int32) = nI 1 from rfl, ref_C (by decide)]
        rfl
      · unfold ff_X8_tear
        rw [ar_n hr (by rw [cre_I (by decide) (by decide)]; exact l1)]
        rfl
    · refine ⟨1, hh_sI h 10 r (-1), hh_sI (hh_sI h 10 r (-1)) 100 r (-9), ?_, ?_, ?_⟩
      · unfold ff_X7_tear
        rw [c1, if_neg n10, l0, Option.bind_some, if_pos rfl, gd_n hr (by decide), nI_clamp (by omega)]
      · unfold ff_X8_tear
        rw [ar_s hr (n := n) (by omega) (by rw [sI_ne (by decide)]; exact l2), Option.bind_some]
        dsimp only
        rw [if_pos (show (0 : Int32) ≤ 0 by decide), gd_n hr (by decide), nI_clamp (by omega)]
      · refine inv_rows H (fun k j q => ?_) rfl (fun s hs => ?_)
        · rw [sI_ne (by omega), sI_ne (by omega)]
        · by_cases e : s = r
          · subst e
            exact Or.inl ⟨by rw [sI_ne (by decide), sI_eq], by rw [sI_eq]⟩
          · exact (H.2.1 s hs).fr (by rw [sI_ne (by decide), sI_nj e]) (by rw [sI_nj e, sI_ne (by decide)]) (fun i => by rw [sI_ne (by omega), sI_ne (by omega)]) (fun i => by rw [sI_ne (by decide), sI_ne (by decide)])
  · exact in_bad H (M := ff_X8_tear a1) (v := -1) (by unfold ff_X7_tear; rw [c1, if_pos rfl]) (by unfold ff_X8_tear; rw [ar_b m1]; rfl)
/-- 1: lay -/
theorem st_1 : sp_1 inv_ := by
  intro h a1 a2 a3 H
  rcases al_r a1 h with ⟨r, hr, rfl, c1, m1⟩ | ⟨c1, m1⟩
  · rcases lk_r hr (H.2.1 r hr) with ⟨l0, l1⟩ | ⟨n, hn, l0, l1, l2, l3⟩
    · refine ⟨-3, cre_ 1 h, mre_ 1 (cre_ 1 h), ?_, ?_, inv_ref H (by decide)⟩
      · unfold ff_X7_lay
        rw [c1, if_neg n10, fa_n l0, Option.bind_some, if_neg (show ¬ nI 1 = 0 by decide), ref_C (by decide)]
        rfl
      · unfold ff_X8_lay ff_X8_at
        rw [ar_n hr (by rw [cre_I (by decide) (by decide)]; exact l1)]
        rfl
    · rcases fa_r a2 hr hn l0 l1 with ⟨i, hi, rfl, f1, f2⟩ | ⟨f1, f2⟩
      · refine ⟨1, cte_ (h.1 (4 + r) i) (hh_sI h (4 + r) i a3), hh_sI (mte_ (h.1 (4 + r) i) (cte_ (h.1 (4 + r) i) (hh_sI h (4 + r) i a3))) 101 (40 * r + i) a3, ?_, ?_, ?_⟩
        · unfold ff_X7_lay
          rw [c1, if_neg n10, f1, Option.bind_some, if_pos rfl, gd_n hr (by decide), gd_n (by omega) (by decide), nI_clamp (by omega), nI_clamp (by omega)]
          rfl
        · have e1 : (cte_ (h.1 (4 + r) i) (hh_sI h (4 + r) i a3)).1 101 (40 * r + i) = h.1 (4 + r) i := by
            unfold cte_
            rw [sI_ne (by decide), sI_ne (by omega)]
            exact (l3 i hi).symm
          unfold ff_X8_lay
          rw [at_M hr hi hn (by unfold cte_; rw [sI_ne (by decide), sI_ne (by omega)]; exact l2) f2, e1, Option.bind_some]
          dsimp only
          rw [if_pos (show (0 : Int32) ≤ 1 by decide), sr_ _ hr (by omega)]
          rfl
        · have H2 : inv_ (hh_sI (hh_sI h (4 + r) i a3) 101 (40 * r + i) a3) := by
            refine inv_rows H (fun k j q => ?_) rfl (iR_new H.2.1 hr hn ?_ ?_ (fun x hx => ?_) (fun s q => ?_) (fun s q => ?_) (fun s x q q2 => ?_) (fun j q => ?_))
            · rw [sI_ne (by omega), sI_ne (by omega)]
            · rw [sI_ne (by decide), sI_ne (by omega)]; exact l1
            · rw [sI_ne (by decide), sI_ne (by omega)]; exact l2
            · by_cases e : x = i
              · subst e
                rw [sI_ne (by omega), sI_eq, sI_eq]
              · rw [sI_ne (by omega), sI_nj e, sI_nj (by omega), sI_ne (by omega)]
                exact l3 x hx
            · rw [sI_ne (by decide), sI_ne (by omega)]
            · rw [sI_ne (by decide), sI_ne (by omega)]
            · rw [sI_ne (by omega), sI_ne (by omega)]
            · rw [sI_nj (by omega), sI_ne (by omega)]
          have e3 := inv_tell H2 (h.1 (4 + r) i)
          have e4 : mte_ (h.1 (4 + r) i) (cte_ (h.1 (4 + r) i) (hh_sI (hh_sI h (4 + r) i a3) 101 (40 * r + i) a3)) = hh_sI (mte_ (h.1 (4 + r) i) (cte_ (h.1 (4 + r) i) (hh_sI h (4 + r) i a3))) 101 (40 * r + i) a3 := by
            unfold mte_ cte_
            rw [sI_comm (a := 101) (b := 36) (by decide), sI_comm (a := 101) (b := 98) (by decide)]
          rw [← e4]
          exact e3
      · refine ⟨-3, cre_ 2 h, mre_ 2 (cre_ 2 h), ?_, ?_, inv_ref H (by decide)⟩
        · unfold ff_X7_lay
          rw [c1, if_neg n10, f1, Option.bind_some, if_neg (show ¬ nI 2 = 0 by decide), ref_C (by decide)]
          rfl
        · unfold ff_X8_lay ff_X8_at
          have e : (cre_ 2 h).1 100 r = nI n := by rw [cre_I (by decide) (by decide)]; exact l2
          rw [ar_s hr (by omega) e, Option.bind_some]
          dsimp only
          rw [if_pos (show (0 : Int32) ≤ 0 by decide), gd_n hr (by decide), nI_clamp (by omega), e, f2, if_pos rfl, show (2 : Int32) = nI 2 from rfl, ref_M (by decide)]
          rfl
  · exact in_bad H (M := ff_X8_lay a1 a2 a3) (v := -1) (by unfold ff_X7_lay; rw [c1, if_pos rfl]) (by unfold ff_X8_lay ff_X8_at; rw [ar_b m1]; rfl)
/-- 7: put -/
theorem st_7 : sp_7 inv_ := by
  intro h a1 a2 a3 H
  rcases al_t a1 h with ⟨r, hr, rfl, c1, m1⟩ | ⟨c1, m1⟩
  · rcases lk_t hr (H.2.2.1 r hr) with ⟨l0, l1⟩ | ⟨n, hn, l0, l1, l2, l3⟩
    · refine ⟨-3, cre_ 1 h, mre_ 1 (cre_ 1 h), ?_, ?_, inv_ref H (by decide)⟩
      · unfold ff_X7_put
        rw [c1, if_neg n10, fat_n l0, Option.bind_some, if_neg (show ¬ nI 1 = 0 by decide), ref_C (by decide)]
        rfl
      · unfold ff_X8_put
        rw [at_n hr (by rw [cre_I (by decide) (by decide)]; exact l1)]
        rfl
    · rcases fa_t a2 hr hn l0 l1 with ⟨i, hi, rfl, f1, f2⟩ | ⟨f1, f2⟩
      · refine ⟨h.1 (13 + r) i + 1000, hh_sI h (13 + r) i (Int8.toInt32 (Int32.toInt8 a3)), hh_sI (hh_sI h (13 + r) i (Int8.toInt32 (Int32.toInt8 a3))) 104 (80 * r + i) (Int8.toInt32 (Int32.toInt8 a3)), ?_, ?_, ?_⟩
        · unfold ff_X7_put
          rw [c1, if_neg n10, f1, Option.bind_some, if_pos rfl, gd_n hr (by decide), gd_n (by omega) (by decide), nI_clamp (by omega), nI_clamp (by omega)]
        · unfold ff_X8_put
          have e : (hh_sI h (13 + r) i (Int8.toInt32 (Int32.toInt8 a3))).1 103 r = nI n := by rw [sI_ne (by omega)]; exact l2
          rw [at_s hr (by omega) e, Option.bind_some]
          dsimp only
          rw [if_pos (show (0 : Int32) ≤ 0 by decide), gd_n hr (by decide), nI_clamp (by omega), e, f2, if_neg n10, show (80 : Int32) = nI 80 from rfl, pk_mul, nI_add, gd_n (by omega) (by decide), nI_clamp (by omega), sI_ne (by omega), l3 i hi]
        · refine inv_texts H (fun k j q => ?_) rfl (iX_new H.2.2.1 hr hn ?_ ?_ (fun x hx => ?_) (fun s q => ?_) (fun s q => ?_) (fun s x q q2 => ?_) (fun j q => ?_))
          · rw [sI_ne (by omega), sI_ne (by omega)]
          · rw [sI_ne (by decide), sI_ne (by omega)]; exact l1
          · rw [sI_ne (by decide), sI_ne (by omega)]; exact l2
          · by_cases e : x = i
            · subst e
              rw [sI_ne (by omega), sI_eq, sI_eq]
            · rw [sI_ne (by omega), sI_nj e, sI_nj (by omega), sI_ne (by omega)]
              exact l3 x hx
          · rw [sI_ne (by decide), sI_ne (by omega)]
          · rw [sI_ne (by decide), sI_ne (by omega)]
          · rw [sI_ne (by omega), sI_ne (by omega)]
          · rw [sI_nj (by omega), sI_ne (by omega)]
      · refine ⟨-3, cre_ 2 h, mre_ 2 (cre_ 2 h), ?_, ?_, inv_ref H (by decide)⟩
        · unfold ff_X7_put
          rw [c1, if_neg n10, f1, Option.bind_some, if_neg (show ¬ nI 2 = 0 by decide), ref_C (by decide)]
          rfl
        · unfold ff_X8_put
          have e : (cre_ 2 h).1 103 r = nI n := by rw [cre_I (by decide) (by decide)]; exact l2
          rw [at_s hr (by omega) e, Option.bind_some]
          dsimp only
          rw [if_pos (show (0 : Int32) ≤ 0 by decide), gd_n hr (by decide), nI_clamp (by omega), e, f2, if_pos rfl, show (2 : Int32) = nI 2 from rfl, ref_M (by decide)]
          rfl
  · exact in_bad H (M := ff_X8_put a1 a2 a3) (v := -1) (by unfold ff_X7_put; rw [c1, if_pos rfl]) (by unfold ff_X8_put; rw [at_b m1]; rfl)
/-- 41, 42, 43, 45, 46: what is told -/
theorem st_41 : sp_41 inv_ := fun h H => ⟨h.1 36 2, rfl, H.1.2.1.symm, H⟩
theorem st_42 : sp_42 inv_ := fun h H => ⟨h.2.1 36 3, rfl, H.1.2.2.1.symm, H⟩
theorem st_43 : sp_43 inv_ := fun h H => ⟨h.2.1 36 4, rfl, H.1.2.2.2.1.symm, H⟩
theorem st_45 : sp_45 inv_ := fun h H => ⟨h.1 36 1, rfl, H.1.1.symm, H⟩
