/-! ===== mean, copy ===== -/
/-- all that the invariant speaks of -/
def sc_ (h : hh_) (k j : Nat) : Prop := (4 ≤ k ∧ k ≤ 10) ∨ (13 ≤ k ∧ k ≤ 17) ∨ k = 36 ∨ k = 37 ∨ (99 ≤ k ∧ k ≤ 101) ∨ k = 103 ∨ k = 104 ∨ (k = 98 ∧ (j = 0 ∨ j = 2)) ∨ fO_ h k j
theorem inv_scr {h h' : hh_} (H : inv_ h) (e : ∀ k j, sc_ h k j → h'.1 k j = h.1 k j) (eL : ∀ k j, k = 36 ∨ (k = 98 ∧ (j = 3 ∨ j = 4)) → h'.2.1 k j = h.2.1 k j) (er : h'.2.2.1 = h.2.2.1 ∧ h'.2.2.2.1 = h.2.2.2.1) : inv_ h' := by
  obtain ⟨hT, hR, hX, hO⟩ := H
  refine ⟨hT.fr (fun k j q => e _ _ ?_) eL, hR.fr (fun k j q => e _ _ ?_), hX.fr (fun k j q => e _ _ ?_), iO_.fr (h := h) er (fun k j q => e _ _ ?_) hO⟩
  · unfold sc_; omega
  · unfold sc_; omega
  · unfold sc_; omega
  · unfold sc_; exact Or.inr (Or.inr (Or.inr (Or.inr (Or.inr (Or.inr (Or.inr (Or.inr q)))))))
def sr64_ (g : Nat → Int32) : Nat → Nat → Int64 → Int64
  | 0, _, x => x
  | d + 1, i, x => sr64_ g d (i + 1) (x + Int32.toInt64 (g i))
theorem mn_C {h : hh_} {r n : Nat} (hr : r < 6) (hn : n ≤ 40) (e : h.1 10 r = nI n) : ∀ (d i m : Nat) (x : Int64), i + d = n → ff_X5r_sum_5 (nI r) h (m + d + 1) x (nI i) = some (sr64_ (fun i => h.1 (4 + r) i) d i x) := by
  intro d
  induction d with
  | zero =>
    intro i m x q
    rw [ff_X5r_sum_5, gd_n hr (by decide), nI_clamp (by omega), e, if_pos (nI_le (by omega) (by omega))]; rfl
  | succ d ih =>
    intro i m x q
    rw [show m + (d + 1) + 1 = (m + d + 1) + 1 by omega, ff_X5r_sum_5, gd_n hr (by decide), nI_clamp (show r < 2 ^ 31 by omega), e, if_neg (nI_ge (by omega) (by omega)), gd_n (by omega) (by decide), nI_clamp (by omega), nI_1, ih _ _ _ (by omega)]; rfl
theorem mn_M {h : hh_} {r n : Nat} {g : Nat → Int32} {KK : Int64 → Option (Int32 × hh_)} (hr : r < 6) (hn : n ≤ 40) (e : h.1 100 r = nI n) (eg : ∀ i, i < n → g i = h.1 101 (40 * r + i)) : ∀ (d i m : Nat) (x : Int64), i + d = n → ff_X8_mean_17 (nI r) h KK (m + d + 1) x (nI i) = KK (sr64_ g d i x) := by
  intro d
  induction d with
  | zero =>
    intro i m x q
    rw [ff_X8_mean_17, gd_n hr (by decide), nI_clamp (by omega), e, if_pos (nI_le (by omega) (by omega))]; rfl
  | succ d ih =>
    intro i m x q
    rw [show m + (d + 1) + 1 = (m + d + 1) + 1 by omega, ff_X8_mean_17, gd_n hr (by decide), nI_clamp (show r < 2 ^ 31 by omega), e, if_neg (nI_ge (by omega) (by omega)), ra_ h hr (by omega), Option.bind_some, nI_1, ih _ _ _ (by omega), ← eg i (by omega)]; rfl
/-- 5: mean -/
theorem st_5 : sp_5 inv_ := by
  intro h a1 H
  rcases al_r a1 h with ⟨r, hr, rfl, c1, m1⟩ | ⟨c1, m1⟩
  · rcases lk_r hr (H.2.1 r hr) with ⟨l0, l1⟩ | ⟨n, hn, l0, l1, l2, l3⟩
    · refine rd_ H 3 0 0 (by decide) ?_ (fun h' S => ?_)
      · unfold ff_X7_mean
        rw [c1, if_neg n10, l0, Option.bind_some, if_neg n10]
        exact rfC (f := 1) (by decide)
      · unfold ff_X8_mean
        rw [ar_n hr (by rw [S _ _ (by decide) (by decide)]; exact l1)]; rfl
    · obtain ⟨k, hk⟩ := fu_ n (by omega)
      have eM : ∀ h', sm_ h h' → ff_X8_mean (nI r) h' = (if nI n = 0 then some (-3, mre_ 4 h') else gd_ (bm_ (Int32.toInt64 (nI n))) (some (1, mte_ (Int64.toInt32 (sr64_ (fun i => h.1 (4 + r) i) n 0 0 / Int32.toInt64 (nI n))) h'))) := by
        intro h' S
        have e : h'.1 100 r = nI n := by rw [S _ _ (by decide) (by decide)]; exact l2
        unfold ff_X8_mean
        rw [ar_s hr (by omega) e, Option.bind_some]
        dsimp only
        rw [if_pos (show (0 : Int32) ≤ 0 by decide), hk]
        refine (mn_M (g := fun i => h.1 (4 + r) i) hr hn e (fun i hi => by rw [S _ _ (by decide) (by decide)]; exact l3 i hi) n 0 k 0 (by omega)).trans ?_
        rw [gd_n hr (by decide), nI_clamp (by omega), e, show ((ff_X8_meet (4 : Int32) h').bind fun v9 => some (v9.1, v9.2)) = some (-3, mre_ 4 h') from rfM (f := 4) (by decide)]
        rfl
      by_cases e0 : n = 0
      · refine rd_ H 6 0 0 (by decide) ?_ (fun h' S => ?_)
        · unfold ff_X7_mean
          rw [c1, if_neg n10, l0, Option.bind_some, if_pos rfl, gd_n hr (by decide), nI_clamp (by omega), l1, e0, if_pos (show nI 0 = 0 from rfl)]
          exact rfC (f := 4) (by decide)
        · rw [eM h' S, e0, if_pos (show nI 0 = 0 from rfl)]; rfl
      · have b0 : bm_ (Int32.toInt64 (nI n)) = true := by rw [nI_l (by omega)]; exact bm_n (by omega) e0
        refine rd_ H 1 1 (Int64.toInt32 (sr64_ (fun i => h.1 (4 + r) i) n 0 0 / Int32.toInt64 (nI n))) (by decide) ?_ (fun h' S => ?_)
        · unfold ff_X7_mean ff_X5r_sum
          rw [c1, if_neg n10, l0, Option.bind_some, if_pos rfl, gd_n hr (by decide), nI_clamp (by omega), l1, if_neg (nI_ne0 (by omega) (by omega)), hk]
          have w := mn_C hr hn l1 n 0 k 0 (by omega)
          rw [show (0 : Int32) = nI 0 from rfl, w, Option.bind_some, gd_t b0]; rfl
        · rw [eM h' S, if_neg (nI_ne0 (by omega) (by omega)), gd_t b0]; rfl
  · exact in_bad H (M := ff_X8_mean a1) (v := -1) (by unfold ff_X7_mean; rw [c1, if_pos rfl]) (by unfold ff_X8_mean; rw [ar_b m1]; rfl)
/-! copy -/
theorem spn_ {h : hh_} {r n z : Nat} (a2 : Int32) (hr : r < 6) (hn : n ≤ 40) (hz : z < 2 ^ 31) (e : h.1 10 r = nI n) : ff_X5r_spans (nI r) a2 (nI z) h = some (bI_ (decide (0 ≤ a2.toInt ∧ a2.toInt + z ≤ n))) := by
  unfold ff_X5r_spans
  by_cases e1 : a2 < 0
  · rw [if_pos e1, decide_eq_false]
    · rfl
    · rw [Int32.lt_iff_toInt_lt, ti_0] at e1
      omega
  · obtain ⟨x, hx, rfl⟩ := nI_of e1
    rw [if_neg e1, gd_n hr (by decide), nI_clamp (by omega), e, nI_toInt hx]
    by_cases e2 : n < z
    · rw [if_pos (nI_lt e2 hz), decide_eq_false (by omega)]; rfl
    · rw [if_neg (nI_nlt (by omega) (by omega)), pk_sub (by omega)]
      by_cases e3 : n - z < x
      · rw [if_pos (nI_lt e3 hx), decide_eq_false (by omega)]; rfl
      · rw [if_neg (nI_nlt (by omega) (by omega)), decide_eq_true (by omega)]; rfl
theorem cmpN {a b : Nat} (ha : a < 2 ^ 63) (hb : b < 2 ^ 63) : lg_cmp (lN a) (lN b) = if b < a then 1 else if a = b then 0 else -1 := by
  unfold lg_cmp
  by_cases e : b < a
  · rw [if_pos e, if_pos (show lN a > lN b from (pk_lLT hb ha).mpr e)]
  · rw [if_neg e, if_neg (show ¬ lN a > lN b from fun q => e ((pk_lLT hb ha).mp q))]
    by_cases e2 : a = b
    · rw [if_pos e2, if_pos (by rw [e2])]
    · rw [if_neg e2, if_neg (fun q => e2 ((pk_lEQ ha hb).mp q))]
theorem cp_M1 {r s x y z : Nat} {KK : hh_ → Option (Int32 × hh_)} {g : Nat → Int32} (hr : r < 6) (hx : x + z ≤ 40) : ∀ (d i m : Nat) (h : hh_), i + d = z → (∀ q, q < z → h.1 101 (40 * r + (x + q)) = g q) → ff_X8_copy_104 (nI r) (nI x) (nI s) (nI y) (nI z) KK (m + d + 1) (nI i) h = KK (fg_ h 102 0 i z g) := by
  intro d
  induction d with
  | zero =>
    intro i m h e eg
    have e : i = z := by omega
    subst e
    rw [ff_X8_copy_104, if_pos (nI_le (by omega) (by omega)), fg_0]
  | succ d ih =>
    intro i m h e eg
    rw [show m + (d + 1) + 1 = (m + d + 1) + 1 by omega, ff_X8_copy_104, if_neg (nI_ge (by omega) (by omega)), nI_add, ra_ h hr (by omega), Option.bind_some, gd_n (by omega) (by decide), nI_clamp (by omega), eg i (by omega), nI_1, ih (i + 1) m _ (by omega) (fun q hq => by rw [sI_ne (by decide)]; exact eg q hq)]
    have w := fg_s (h := h) (k := 102) (b := 0) (a := i) (n := z) (g := g) (by omega)
    rw [Nat.zero_add] at w
    rw [w]
theorem cp_M2 {s y z : Nat} {g : Nat → Int32} (hs : s < 6) (hy : y + z ≤ 40) : ∀ (d i m : Nat) (h : hh_), i + d = z → (∀ q, q < z → h.1 102 q = g q) → ff_X8_copy_136 (nI s) (nI y) (nI z) (m + d + 1) (nI i) h = some (1, fg_ h 101 (40 * s + y) i z g) := by
  intro d
  induction d with
  | zero =>
    intro i m h e eg
    have e : i = z := by omega
    subst e
    rw [ff_X8_copy_136, if_pos (nI_le (by omega) (by omega)), fg_0]
  | succ d ih =>
    intro i m h e eg
    rw [show m + (d + 1) + 1 = (m + d + 1) + 1 by omega, ff_X8_copy_136, if_neg (nI_ge (by omega) (by omega)), gd_n (by omega) (by decide), nI_clamp (by omega), eg i (by omega), nI_add, sr_ h hs (by omega), Option.bind_some, nI_1, ih (i + 1) m _ (by omega) (fun q hq => by rw [sI_ne (by decide)]; exact eg q hq), ← fg_s (h := h) (k := 101) (b := 40 * s + y) (a := i) (n := z) (g := g) (by omega), show 40 * s + (y + i) = 40 * s + y + i by omega]
/-- 4: copy -/
theorem st_4 : sp_4 inv_ := by
  intro h a1 a2 a3 a4 a5 H
  rcases al_r a1 h with ⟨r, hr, rfl, c1, m1⟩ | ⟨c1, m1⟩
  · rcases al_r a3 h with ⟨s, hs, rfl, c2, m2⟩ | ⟨c2, m2⟩
    · by_cases e5 : 0 ≤ a5
      · obtain ⟨z, hz, rfl⟩ := nI_of (x := a5) (by rw [Int32.lt_iff_toInt_lt]; rw [Int32.le_iff_toInt_le] at e5; omega)
        rcases lk_r hr (H.2.1 r hr) with ⟨l0, l1⟩ | ⟨n, hn, l0, l1, l2, l3⟩
        · refine rd_ H 3 0 0 (by decide) ?_ (fun h' S => ?_)
          · unfold ff_X7_copy
            rw [c1, if_neg n10, c2, if_neg n10, if_pos e5, l0, Option.bind_some, if_neg n10]
            exact rfC (f := 1) (by decide)
          · unfold ff_X8_copy
            rw [m1, if_neg n10, m2, if_neg n10, if_pos e5, gd_n hr (by decide), nI_clamp (by omega), S _ _ (by decide) (by decide), l1, if_pos (by decide)]
            exact rfM (f := 1) (by decide)
        · rcases lk_r hs (H.2.1 s hs) with ⟨p0, p1⟩ | ⟨n', hn', p0, p1, p2, p3⟩
          · refine rd_ H 3 0 0 (by decide) ?_ (fun h' S => ?_)
            · unfold ff_X7_copy
              rw [c1, if_neg n10, c2, if_neg n10, if_pos e5, l0, Option.bind_some, if_pos rfl, p0, Option.bind_some, if_neg n10]
              exact rfC (f := 1) (by decide)
            · unfold ff_X8_copy
              rw [m1, if_neg n10, m2, if_neg n10, if_pos e5, gd_n hr (by decide), nI_clamp (by omega), S _ _ (by decide) (by decide), l2, if_neg (nI_pos (by omega)), gd_n hs (by decide), nI_clamp (by omega), S _ _ (by decide) (by decide), p1, if_neg (by decide)]
              exact rfM (f := 1) (by decide)
          · have eC : ff_X7_copy (nI r) a2 (nI s) a4 (nI z) h = if (0 ≤ a2.toInt ∧ a2.toInt + z ≤ n) ∧ (0 ≤ a4.toInt ∧ a4.toInt + z ≤ n') then gd_ (bc_ a2 a4 (nI z) 40 40) (some (1, hh_cp h (4 + r) (4 + s) (Int32.toNatClampNeg a2) (Int32.toNatClampNeg a4) z)) else some (-3, cre_ 2 h) := by
              unfold ff_X7_copy
              rw [c1, if_neg n10, c2, if_neg n10, if_pos e5, l0, Option.bind_some, if_pos rfl, p0, Option.bind_some, if_pos rfl, spn_ a2 hr hn hz l1, Option.bind_some, spn_ a4 hs hn' hz p1, Option.bind_some, show ((ff_X6_refuse (2 : Int32) h).bind fun v9 => some (v9.1, v9.2)) = some (-3, cre_ 2 h) from rfC (f := 2) (by decide), gd_n hr (by decide), gd_n hs (by decide), nI_clamp (show r < 2 ^ 31 by omega), nI_clamp (show s < 2 ^ 31 by omega), nI_clamp hz]
              by_cases q1 : 0 ≤ a2.toInt ∧ a2.toInt + z ≤ n
              · rw [decide_eq_true q1]
                by_cases q2 : 0 ≤ a4.toInt ∧ a4.toInt + z ≤ n'
                · rw [decide_eq_true q2, if_pos (show (0 ≤ a2.toInt ∧ a2.toInt + z ≤ n) ∧ (0 ≤ a4.toInt ∧ a4.toInt + z ≤ n') from ⟨q1, q2⟩)]; rfl
                · rw [decide_eq_false q2, if_neg (show ¬ ((0 ≤ a2.toInt ∧ a2.toInt + z ≤ n) ∧ (0 ≤ a4.toInt ∧ a4.toInt + z ≤ n')) from fun w => q2 w.2)]; rfl
              · rw [decide_eq_false q1, if_neg (show ¬ ((0 ≤ a2.toInt ∧ a2.toInt + z ≤ n) ∧ (0 ≤ a4.toInt ∧ a4.toInt + z ≤ n')) from fun w => q1 w.1)]; rfl
            have eM : ∀ h', h'.1 100 r = nI n → h'.1 100 s = nI n' → (¬ ((0 ≤ a2.toInt ∧ a2.toInt + z ≤ n) ∧ (0 ≤ a4.toInt ∧ a4.toInt + z ≤ n')) → ff_X8_copy (nI r) a2 (nI s) a4 (nI z) h' = some (-3, mre_ 2 h')) ∧ (∀ x y, a2 = nI x → a4 = nI y → x + z ≤ n → y + z ≤ n' → ff_X8_copy (nI r) a2 (nI s) a4 (nI z) h' = some (1, fg_ (fg_ h' 102 0 0 z (fun q => h'.1 101 (40 * r + (x + q)))) 101 (40 * s + y) 0 z (fun q => h'.1 101 (40 * r + (x + q))))) := by
              intro h' g1 g2
              have r2 : ((ff_X8_meet (2 : Int32) h').bind fun v9 => some (v9.1, v9.2)) = some (-3, mre_ 2 h') := rfM (f := 2) (by decide)
              unfold ff_X8_copy
              rw [m1, if_neg n10, m2, if_neg n10, if_pos e5, gd_n hr (by decide), nI_clamp (show r < 2 ^ 31 by omega), g1, if_neg (nI_pos (by omega)), gd_n hs (by decide), nI_clamp (show s < 2 ^ 31 by omega), g2, if_pos (nI_pos' (by omega)), r2]
              constructor
              · intro nq
                by_cases w1 : a2 < 0
                · rw [if_pos w1]
                · rw [if_neg w1]
                  by_cases w2 : a4 < 0
                  · rw [if_pos w2]
                  · rw [if_neg w2]
                    obtain ⟨x, hx, rfl⟩ := nI_of w1
                    obtain ⟨y, hy, rfl⟩ := nI_of w2
                    rw [nI_toInt hx, nI_toInt hy] at nq
                    rw [nI_l hx, nI_l hy, nI_l hz, nI_l (by omega), nI_l (by omega), lN_add, lN_add, cmpN (by omega) (by omega), cmpN (by omega) (by omega)]
                    by_cases v1 : n < x + z
                    · rw [if_pos v1, if_pos (by decide)]
                    · have v2 : n' < y + z := by omega
                      rw [if_neg v1, if_pos v2, if_neg (show ¬ (1 : Int32) ≤ 0 by decide)]
                      by_cases v3 : x + z = n
                      · rw [if_pos v3]; rfl
                      · rw [if_neg v3]; rfl
              · intro x y ex ey q1 q2
                subst ex
                subst ey
                obtain ⟨k, hk⟩ := fu_ z (by omega)
                rw [if_neg (nI_pos (by omega)), if_neg (nI_pos (by omega)), nI_l (show x < 2 ^ 31 by omega), nI_l (show y < 2 ^ 31 by omega), nI_l hz, nI_l (show n < 2 ^ 31 by omega), nI_l (show n' < 2 ^ 31 by omega), lN_add, lN_add, cmpN (by omega) (by omega), cmpN (by omega) (by omega), if_neg (show ¬ n < x + z by omega), if_neg (show ¬ n' < y + z by omega), hk, if_neg (show ¬ 0 < (if x + z = n then (0 : Int32) else -1) from by split <;> decide), if_pos (show (if y + z = n' then (0 : Int32) else -1) ≤ 0 from by split <;> decide)]
                refine (cp_M1 hr (by omega) z 0 k h' (by omega) (g := fun q => h'.1 101 (40 * r + (x + q))) (fun q hq => rfl)).trans ?_
                exact cp_M2 hs (by omega) z 0 k _ (by omega) (fun q hq => by
                  have w := fg_in (h := h') (k := 102) (b := 0) (a := 0) (n := z) (j := q) (g := fun q => h'.1 101 (40 * r + (x + q))) (by omega) hq
                  rw [Nat.zero_add] at w
                  exact w)
            by_cases gq : (0 ≤ a2.toInt ∧ a2.toInt + z ≤ n) ∧ (0 ≤ a4.toInt ∧ a4.toInt + z ≤ n')
            · obtain ⟨x, hx, rfl⟩ := nI_of (x := a2) (by rw [Int32.lt_iff_toInt_lt, ti_0]; omega)
              obtain ⟨y, hy, rfl⟩ := nI_of (x := a4) (by rw [Int32.lt_iff_toInt_lt, ti_0]; omega)
              rw [if_pos gq] at eC
              rw [nI_toInt hx, nI_toInt hy] at gq
              have bc : bc_ (nI x) (nI y) (nI z) 40 40 = true := by
                unfold bc_
                rw [decide_eq_false (nI_pos hx), decide_eq_false (nI_pos hy), decide_eq_false (nI_pos hz), nI_clamp hx, nI_clamp hy, nI_clamp hz, decide_eq_true (show x + z ≤ 40 by omega), decide_eq_true (show y + z ≤ 40 by omega)]; rfl
              rw [gd_t bc, nI_clamp hx, nI_clamp hy] at eC
              have g0 : ∀ c j, c ≠ 4 + s → (hh_cp h (4 + r) (4 + s) x y z).1 c j = h.1 c j := fun c j q => if_neg q
              have g1 : ∀ j, (hh_cp h (4 + r) (4 + s) x y z).1 (4 + s) j = va_cpy (h.1 (4 + r)) (h.1 (4 + s)) x y z j := fun j => if_pos rfl
              refine ⟨1, _, _, eC, (eM _ (by rw [g0 _ _ (by omega)]; exact l2) (by rw [g0 _ _ (by omega)]; exact p2)).2 x y rfl rfl (by omega) (by omega), ?_⟩
              have nw := H.2.2.2.nw
              have H2 : inv_ (fg_ (hh_cp h (4 + r) (4 + s) x y z) 101 (40 * s + y) 0 z (fun q => (hh_cp h (4 + r) (4 + s) x y z).1 101 (40 * r + (x + q)))) := by
                refine inv_rows H (fun k j q => ?_) rfl (iR_new H.2.1 hs hn' ?_ ?_ (fun i hi => ?_) (fun t q => ?_) (fun t q => ?_) (fun t i q q2 => ?_) (fun j q => ?_))
                · rw [fg_ne (by omega), g0 _ _ (by omega)]
                · rw [fg_ne (by decide), g0 _ _ (by omega)]; exact p1
                · rw [fg_ne (by decide), g0 _ _ (by omega)]; exact p2
                · rw [fg_ne (by omega), g1]
                  by_cases v : y ≤ i ∧ i < y + z
                  · rw [pk_cpy_in v.1 v.2, show 40 * s + i = 40 * s + y + (i - y) by omega, fg_in (by omega) (by omega), g0 _ _ (by omega)]
                    exact l3 _ (by omega)
                  · rw [pk_cpy_out (by omega), fg_out (by omega), g0 _ _ (by omega)]
                    exact p3 i hi
                · rw [fg_ne (by decide), g0 _ _ (by omega)]
                · rw [fg_ne (by decide), g0 _ _ (by omega)]
                · rw [fg_ne (by omega), g0 _ _ (by omega)]
                · rw [fg_out (by omega), g0 _ _ (by omega)]
              refine inv_scr H2 (fun k j q => ?_) (fun _ _ _ => rfl) ⟨rfl, rfl⟩
              have k102 : k ≠ 102 := by
                intro e
                subst e
                unfold sc_ fO_ at q
                have nw2 : (fg_ (hh_cp h (4 + r) (4 + s) x y z) 101 (40 * s + y) 0 z (fun q => (hh_cp h (4 + r) (4 + s) x y z).1 101 (40 * r + (x + q)))).2.2.1 = h.2.2.1 := rfl
                rw [nw2] at q
                omega
              by_cases e101 : k = 101
              · subst e101
                by_cases v : 40 * s + y + 0 ≤ j ∧ j < 40 * s + y + z
                · rw [show j = 40 * s + y + (j - (40 * s + y)) by omega, fg_in (by omega) (by omega), fg_in (by omega) (by omega)]
                · rw [fg_out (b := 40 * s + y) (n := z) (by omega), fg_ne (show (101 : Nat) ≠ 102 by decide), fg_out (b := 40 * s + y) (n := z) (by omega)]
              · rw [fg_ne e101, fg_ne e101, fg_ne k102]
            · rw [if_neg gq] at eC
              refine rd_ H 4 0 0 (by decide) eC (fun h' S => ?_)
              exact (eM h' (by rw [S _ _ (by decide) (by decide)]; exact l2) (by rw [S _ _ (by decide) (by decide)]; exact p2)).1 gq
      · refine rd_ H 7 0 0 (by decide) ?_ (fun h' S => ?_)
        · unfold ff_X7_copy
          rw [c1, if_neg n10, c2, if_neg n10, if_neg e5]
          exact rfC (f := 5) (by decide)
        · unfold ff_X8_copy
          rw [m1, if_neg n10, m2, if_neg n10, if_neg e5]
          exact rfM (f := 5) (by decide)
    · exact in_bad H (M := ff_X8_copy (nI r) a2 a3 a4 a5) (v := -1) (by unfold ff_X7_copy; rw [c1, if_neg n10, c2, if_pos rfl]) (by unfold ff_X8_copy; rw [m1, if_neg n10, m2, if_pos rfl])
  · exact in_bad H (M := ff_X8_copy a1 a2 a3 a4 a5) (v := -1) (by unfold ff_X7_copy; rw [c1, if_pos rfl]) (by unfold ff_X8_copy; rw [m1, if_pos rfl])
