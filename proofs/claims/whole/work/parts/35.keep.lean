/-! ===== keep, on ===== -/
theorem kpl_ (a : Int32) : (∃ j, j < 3 ∧ a = nI j ∧ ff_X7_isKeptPlace a = 1 ∧ ff_X8_in a 0 2 = 1) ∨ (ff_X7_isKeptPlace a = 0 ∧ ff_X8_in a 0 2 = 0) := by
  unfold ff_X7_isKeptPlace
  rcases ix_cases a (N := 3) (by decide) (by decide) with ⟨j, hj, e, n1, n2, n3⟩ | ⟨n1, n3⟩
  · exact Or.inl ⟨j, hj, e, by rw [if_neg n1, if_neg (show ¬ (3 : Int32) ≤ a from n2)], n3⟩
  · refine Or.inr ⟨?_, n3⟩
    rcases n1 with n | ⟨n, n2⟩
    · rw [if_pos n]
    · rw [if_neg n, if_pos (show (3 : Int32) ≤ a from n2)]
theorem kp_.fr2 {h h' : hh_} {m t k : Nat} {F : Nat → Nat → Nat} (hm : m ≤ 5) (ht : t ≤ 4) (e1 : ∀ c j, 89 + 3 * k ≤ c → c ≤ 91 + 3 * k → h'.1 c j = h.1 c j) (e2 : ∀ j, 1030 * k ≤ j → j < 1030 * k + 1030 → h'.1 110 j = h.1 110 j) (H : kp_ h m t F k) : kp_ h' m t F k := by
  rcases H with ⟨a, b⟩ | ⟨n, ds, a, b, c, d, f⟩
  · exact Or.inl ⟨by rw [e1 _ _ (by omega) (by omega)]; exact a, by rw [e2 _ (by omega) (by omega)]; exact b⟩
  · have n40 := c.1
    refine Or.inr ⟨n, ds, by rw [e1 _ _ (by omega) (by omega)]; exact a, by rw [e2 _ (by omega) (by omega)]; exact b, ⟨n40, fun x hx => by rw [e1 _ _ (by omega) (by omega)]; exact c.2.1 x hx, fun x hx i hi j hj => by rw [e2 _ (by omega) (by omega)]; exact c.2.2 x hx i hi j hj⟩, fun i hi j hj => by rw [e2 _ (by omega) (by omega)]; exact d i hi j hj, fun x hx => ?_⟩
    obtain ⟨q, hq, h1, h2⟩ := f x hx
    exact ⟨q, hq, by rw [e1 _ _ (by omega) (by omega)]; exact h1, by rw [e2 _ (by omega) (by omega)]; exact h2⟩
theorem tk_loop {o' o : Nat} (ho : ∀ x, x < 4 → o + 14 + x ≠ o' + 2) (g : Nat → Int32) : ∀ (d x m : Nat) (h : hh_), x + d = 4 → (∀ y, y < 4 → h.1 (o + 14 + y) 1 = g y) → ff_X0_take_25 o' o (m + d + 1) (nI x) h = some (fg_ h (o' + 2) 0 x 4 g) := by
  intro d
  induction d with
  | zero =>
    intro x m h e eg
    have e : x = 4 := by omega
    subst e
    rw [ff_X0_take_25, if_pos (by decide), fg_0]
  | succ d ih =>
    intro x m h e eg
    have hx : x < 4 := by omega
    rw [show m + (d + 1) + 1 = (m + d + 1) + 1 by omega, ff_X0_take_25, if_neg (show ¬ (4 : Int32) ≤ nI x from nI_ge (b := 4) hx (by omega)), gd_n hx (by decide), nI_clamp (by omega), show Int32.toNatClampNeg 1 = 1 from rfl, eg x hx, nI_1, ih (x + 1) m _ (by omega) (fun y hy => by rw [sI_ne (ho y hy)]; exact eg y hy)]
    have w := fg_s (h := h) (k := o' + 2) (b := 0) (a := x) (n := 4) (g := g) hx
    rw [Nat.zero_add] at w
    rw [w]
theorem k39_loop {b : Nat} {KK : hh_ → Option (Int32 × hh_)} (hb : b + 30 < 3090) (g : Nat → Int32) : ∀ (d x m : Nat) (h : hh_), x + d = 4 → (∀ y, y < 4 → h.1 106 (3 * y + 1) = g y) → ff_X8_keep_39 (nI b) KK (m + d + 1) (nI x) h = KK (fg_ h 110 (b + 1) x 4 g) := by
  intro d
  induction d with
  | zero =>
    intro x m h e eg
    have e : x = 4 := by omega
    subst e
    rw [ff_X8_keep_39, if_pos (by decide), fg_0]
  | succ d ih =>
    intro x m h e eg
    have hx : x < 4 := by omega
    have e31 : (3 : Int32) * nI x + 1 = nI (3 * x + 1) := by rw [show (3 : Int32) = nI 3 from rfl, pk_mul]; exact nI_add _ 1
    have e1 : nI b + 1 + nI x = nI (b + 1 + x) := by rw [nI_1, nI_add]
    rw [show m + (d + 1) + 1 = (m + d + 1) + 1 by omega, ff_X8_keep_39, if_neg (show ¬ (4 : Int32) ≤ nI x from nI_ge (b := 4) hx (by omega)), e31, e1, gd_n (by omega) (by decide), gd_n (by omega) (by decide), nI_clamp (show b + 1 + x < 2 ^ 31 by omega), nI_clamp (show 3 * x + 1 < 2 ^ 31 by omega), eg x hx, nI_1, ih (x + 1) m _ (by omega) (fun y hy => by rw [sI_ne (by decide)]; exact eg y hy), fg_s hx]
theorem k83_loop {b : Nat} (hb : b + 1030 ≤ 3090) (g : Nat → Int32) : ∀ (d x m : Nat) (h : hh_), x + d = 1000 → (∀ y, y < 1000 → h.1 109 y = g y) → ff_X8_keep_83 (nI b) (m + d + 1) (nI x) h = some (h.1 98 21, fg_ h 110 (b + 30) x 1000 g) := by
  intro d
  induction d with
  | zero =>
    intro x m h e eg
    have e : x = 1000 := by omega
    subst e
    rw [ff_X8_keep_83, if_pos (by decide), fg_0]
  | succ d ih =>
    intro x m h e eg
    have e1 : nI b + 30 + nI x = nI (b + 30 + x) := by rw [show nI b + 30 = nI (b + 30) from nI_add b 30, nI_add]
    rw [show m + (d + 1) + 1 = (m + d + 1) + 1 by omega, ff_X8_keep_83, if_neg (show ¬ (1000 : Int32) ≤ nI x from nI_ge (b := 1000) (by omega) (by omega)), gd_n (by omega) (by decide), e1, gd_n (by omega) (by decide), nI_clamp (show b + 30 + x < 2 ^ 31 by omega), nI_clamp (show x < 2 ^ 31 by omega), eg x (by omega), nI_1, ih (x + 1) m _ (by omega) (fun y hy => by rw [sI_ne (by decide)]; exact eg y hy), fg_s (by omega), sI_ne (by decide)]
def tkC_ (h : hh_) (o k n : Nat) : hh_ := fg_ (hh_cp (hh_sI h (89 + 3 * k) 2 (nI n)) (o + 24) (89 + 3 * k + 1) 0 0 40) (89 + 3 * k + 2) 0 0 4 (fun y => h.1 (o + 14 + y) 1)
theorem tk_C {h : hh_} {o k n : Nat} (ho : o = 39 ∨ o = 64) (hk : k < 3) (e : h.1 o 6 = nI n) : ff_X0_take (89 + 3 * k) o h = some (tkC_ h o k n) := by
  unfold ff_X0_take tkC_
  obtain ⟨q, hq⟩ := fu_ 4 (by decide)
  rw [gd_t (show bc_ 0 0 40 40 40 = true from rfl), e, hq]
  refine tk_loop (fun x hx => by omega) _ 4 0 q _ rfl (fun y hy => ?_)
  show (hh_cp (hh_sI h (89 + 3 * k) 2 (nI n)) (o + 24) (89 + 3 * k + 1) 0 0 40).1 (o + 14 + y) 1 = _
  unfold hh_cp
  dsimp only
  rw [if_neg (by omega), sI_ne (by omega)]
theorem tkC_v {h : hh_} {o k n c j : Nat} : (tkC_ h o k n).1 c j = if c = 91 + 3 * k ∧ j < 4 then h.1 (o + 14 + j) 1 else if c = 90 + 3 * k then va_cpy ((hh_sI h (89 + 3 * k) 2 (nI n)).1 (o + 24)) ((hh_sI h (89 + 3 * k) 2 (nI n)).1 (90 + 3 * k)) 0 0 40 j else (hh_sI h (89 + 3 * k) 2 (nI n)).1 c j := by
  unfold tkC_ fg_ hh_cp
  dsimp only
  rw [show 89 + 3 * k + 2 = 91 + 3 * k by omega, show 89 + 3 * k + 1 = 90 + 3 * k by omega, Nat.sub_zero]
  by_cases e : c = 91 + 3 * k ∧ j < 4
  · rw [if_pos e, if_pos ⟨e.1, by omega, by omega⟩]
  · rw [if_neg e, if_neg (by omega)]
theorem tkC_ne {h : hh_} {o k n c j : Nat} (q : c < 89 + 3 * k ∨ 91 + 3 * k < c) : (tkC_ h o k n).1 c j = h.1 c j := by
  rw [tkC_v, if_neg (by omega), if_neg (by omega), sI_ne (by omega)]
/-- the reference's part -/
def tkM_ (h : hh_) (k n : Nat) : hh_ := fg_ (fg_ (fg_ (hh_sI h 110 (1030 * k) (nI n)) 110 (1030 * k + 1) 0 4 (fun y => h.1 106 (3 * y + 1))) 110 (1030 * k + 5) 0 25 (fun y => h.1 105 y)) 110 (1030 * k + 30) 0 1000 (fun y => h.1 109 y)
theorem tk_M {h : hh_} {k n : Nat} (hk : k < 3) (h0 : ¬ h.1 98 10 = 0) (e : h.1 98 21 = nI n) (hin : ff_X8_in (nI k) 0 2 = 1) : ff_X8_keep (nI k) h = some (nI n, tkM_ h k n) := by
  unfold ff_X8_keep
  obtain ⟨q, hq⟩ := fu_ 4 (by decide)
  obtain ⟨q2, hq2⟩ := fu_ 1000 (by decide)
  have e1 : (1030 : Int32) * nI k = nI (1030 * k) := by rw [show (1030 : Int32) = nI 1030 from rfl, pk_mul]
  rw [hin, if_neg n10, if_neg h0, e1, gd_n (by omega) (by decide), nI_clamp (by omega), e, show nI (1030 * k) + 5 = nI (1030 * k + 5) from nI_add _ 5]
  have w := k39_loop (b := 1030 * k) (KK := fun k4 => (ff_X8_write 110 (nI (1030 * k + 5)) k4).bind fun v5 => ff_X8_keep_83 (nI (1030 * k)) FU_ 0 v5) (by omega) (fun y => h.1 106 (3 * y + 1)) 4 0 q (hh_sI h 110 (1030 * k) (nI n)) rfl (fun y hy => by rw [sI_ne (by decide)])
  rw [← hq] at w
  refine w.trans ?_
  rw [wr_M (by decide) sh110 (by omega) (by decide), Option.bind_some, hq2]
  have w2 := k83_loop (b := 1030 * k) (by omega) (fun y => h.1 109 y) 1000 0 q2 (fg_ (fg_ (hh_sI h 110 (1030 * k) (nI n)) 110 (1030 * k + 1) 0 4 (fun y => h.1 106 (3 * y + 1))) 110 (1030 * k + 5) 0 25 (fun y => (fg_ (hh_sI h 110 (1030 * k) (nI n)) 110 (1030 * k + 1) 0 4 (fun y => h.1 106 (3 * y + 1))).1 105 y)) rfl (fun y hy => by rw [fg_ne (by decide), fg_ne (by decide), sI_ne (by decide)])
  refine w2.trans ?_
  rw [fg_ne (by decide), fg_ne (by decide), sI_ne (by decide), e]
  unfold tkM_
  rw [show (fun y => (fg_ (hh_sI h 110 (1030 * k) (nI n)) 110 (1030 * k + 1) 0 4 (fun y => h.1 106 (3 * y + 1))).1 105 y) = fun y => h.1 105 y from funext fun y => by rw [fg_ne (by decide), sI_ne (by decide)]]
theorem tkM_ne {h : hh_} {k n c j : Nat} (q : c ≠ 110 ∨ j < 1030 * k ∨ 1030 * k + 1030 ≤ j) : (tkM_ h k n).1 c j = h.1 c j := by
  unfold tkM_
  by_cases e : c = 110
  · subst e
    rw [fg_out (by omega), fg_out (by omega), fg_out (by omega), sI_nj (by omega)]
  · rw [fg_ne e, fg_ne e, fg_ne e, sI_ne e]
/-- 19: keep -/
theorem st_19 : sp_19 inv_ := by
  intro h a1 H
  have nw := H.2.2.2.nw
  have B := H.2.2.2.nwB
  have hn0 := H.2.2.2.1
  obtain ⟨hT, hR, hX, hn, D, F, ds, n, K, C, M, k4, k5, k6, k7, k8, k9, k10, k11⟩ := id H
  have m5 := K.1
  have t4 := K.2.1
  have p4 := K.2.2.1
  have n40 := k6.1
  rcases kpl_ a1 with ⟨k, hk, rfl, c1, m1⟩ | ⟨c1, m1⟩
  · by_cases e0 : d_m D = 0
    · refine ⟨-4, h, h, ?_, ?_, H⟩
      · unfold ff_X7_keep
        rw [c1, if_neg n10, gd_t B, show Int32.toNatClampNeg 0 = 0 from rfl, C.1, e0, if_pos (show nI 0 = 0 from rfl)]
      · unfold ff_X8_keep
        rw [m1, if_neg n10, M.1, e0, if_pos (show nI 0 = 0 from rfl)]
    · have g21 : (tkC_ h h.2.2.1 k n).1 98 21 = nI n := by rw [tkC_ne (by omega)]; exact k5
      refine ⟨nI n, tkC_ h h.2.2.1 k n, tkM_ (tkC_ h h.2.2.1 k n) k n, ?_, tk_M hk (by rw [tkC_ne (by omega), M.1]; exact nI_ne0 (by omega) (by omega)) g21 m1, ?_⟩
      · unfold ff_X7_keep
        rw [c1, if_neg n10, gd_t B, show Int32.toNatClampNeg 0 = 0 from rfl, C.1, if_neg (nI_ne0 (by omega) (by omega)), gd_n hk (by decide), nI_clamp (by omega), tk_C nw hk k4, Option.bind_some, show (tkC_ h h.2.2.1 k n).2.2.1 = h.2.2.1 from rfl, gd_t B, tkC_ne (by omega), k4]
      · have g0 : ∀ c j, (c < 89 + 3 * k ∨ 91 + 3 * k < c) → (c ≠ 110 ∨ j < 1030 * k ∨ 1030 * k + 1030 ≤ j) → (tkM_ (tkC_ h h.2.2.1 k n) k n).1 c j = h.1 c j := fun c j v1 v2 => by rw [tkM_ne v2, tkC_ne v1]
        refine ⟨hT.fr (fun c j q => g0 _ _ (by omega) (by omega)) (fun _ _ _ => rfl), hR.fr (fun c j q => g0 _ _ (by omega) (by omega)), hX.fr (fun c j q => g0 _ _ (by omega) (by omega)), hn0, D, F, ds, n, K, (show oC_ h.2.2.1 _ D from C.fr K (fun c j q => g0 _ _ (by omega) (by omega))), M.fr (fun c j q => g0 _ _ (by omega) (by omega)), ?_, by rw [g0 _ _ (by omega) (by omega)]; exact k5, k6.fr (fun j => g0 _ _ ?_ ?_) (fun j => g0 _ _ (by omega) (by omega)), fun i hi j hj => ?_, k8, k9, k10, fun k' hk' => ?_⟩
        · show (tkM_ (tkC_ h h.2.2.1 k n) k n).1 h.2.2.1 6 = _
          rw [g0 _ _ (by omega) (by omega)]; exact k4
        · show h.2.2.1 + 24 < 89 + 3 * k ∨ _
          omega
        · show h.2.2.1 + 24 ≠ 110 ∨ _
          omega
        · show (tkM_ (tkC_ h h.2.2.1 k n) k n).1 (h.2.2.1 + 2 + i) j = _
          rw [g0 _ _ (by omega) (by omega)]; exact k7 i hi j hj
        · by_cases e : k' = k
          · subst e
            have cc : ∀ c j, c < 98 → (tkM_ (tkC_ h h.2.2.1 k' n) k' n).1 c j = (tkC_ h h.2.2.1 k' n).1 c j := fun c j q => tkM_ne (by omega)
            refine Or.inr ⟨n, ds, ?_, ?_, ⟨n40, fun d hd => ?_, fun d hd i hi j hj => ?_⟩, fun i hi j hj => ?_, fun x hx => ⟨d_T D x 1, (K.2.2.2.2.2.1 x hx).2.1, ?_, ?_⟩⟩
            · rw [cc _ _ (by omega), tkC_v, if_neg (by omega), if_neg (by omega), sI_eq]
            · unfold tkM_
              rw [fg_out (by omega), fg_out (by omega), fg_out (by omega), sI_eq]
            · rw [cc _ _ (by omega), tkC_v, if_neg (by omega), if_pos rfl, pk_cpy_in (by omega) (by omega), sI_ne (by omega), Nat.zero_add, Nat.sub_zero]
              exact k6.2.1 d hd
            · unfold tkM_
              rw [fg_in (by omega) (by omega), tkC_ne (by omega)]
              have w := k6.2.2 d hd i hi j hj
              rw [Nat.zero_add] at w
              exact w
            · unfold tkM_
              rw [fg_out (by omega), fg_in (by omega) (by omega), tkC_ne (by omega), M.2.2.2.1 i hi j hj, k9 i hi j hj]
            · rw [cc _ _ (by omega), tkC_v, if_pos ⟨by omega, by omega⟩]
              exact C.2.2.2.2.1 x hx 1 (by omega)
            · unfold tkM_
              rw [fg_out (by omega), fg_out (by omega), fg_in (by omega) (by omega), tkC_ne (by omega)]
              exact M.2.2.2.2.1 x hx 1 (by omega)
          · exact (k11 k' hk').fr2 m5 t4 (fun c j v1 v2 => g0 _ _ (by omega) (by omega)) (fun j v1 v2 => g0 _ _ (by omega) (by omega))
  · exact ⟨-1, h, h, by unfold ff_X7_keep; rw [c1, if_pos rfl], by unfold ff_X8_keep; rw [m1, if_pos rfl], H⟩
