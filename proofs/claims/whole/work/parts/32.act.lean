/-! ===== DEEDS ===== -/
def inc_ (v : Int32) : Int32 := if v + 1 < 5 then v + 1 else 5
theorem inc_n {v : Nat} (hv : v < 2 ^ 30) : inc_ (nI v) = nI (min 5 (v + 1)) := by
  unfold inc_
  rw [nI_1]
  by_cases e : v + 1 < 5
  · rw [if_pos (show nI (v + 1) < 5 from nI_lt (b := 5) e (by omega)), Nat.min_eq_right (by omega)]
  · rw [if_neg (show ¬ nI (v + 1) < 5 from nI_nlt (b := 5) (by omega) (by omega)), Nat.min_eq_left (by omega)]; rfl
def inq_ (h : hh_) (a x j0 : Nat) : hh_ := (fun k j => if k = a ∧ j0 ≤ j ∧ j < 4 ∧ (x = 4 ∨ x = j) then inc_ (h.1 k j) else h.1 k j, h.2)
theorem inq_v {h : hh_} {a x j0 k j : Nat} : (inq_ h a x j0).1 k j = if k = a ∧ j0 ≤ j ∧ j < 4 ∧ (x = 4 ∨ x = j) then inc_ (h.1 k j) else h.1 k j := rfl
theorem inq_s {h : hh_} {a x j : Nat} (hj : j < 4) (hx : x = 4 ∨ x = j) : inq_ (hh_sI h a j (inc_ (h.1 a j))) a x (j + 1) = inq_ h a x j := by
  refine hh_ext (fun k y => ?_) (fun _ _ => rfl) rfl
  rw [inq_v, inq_v]
  by_cases e : k = a
  · subst e
    by_cases e2 : y = j
    · subst e2
      rw [if_neg (by omega), if_pos ⟨rfl, Nat.le_refl _, hj, hx⟩, sI_eq]
    · rw [sI_nj e2]
      by_cases e3 : k = k ∧ j + 1 ≤ y ∧ y < 4 ∧ (x = 4 ∨ x = y)
      · rw [if_pos e3, if_pos (by omega)]
      · rw [if_neg e3, if_neg (by omega)]
  · rw [if_neg (fun q => e q.1), if_neg (fun q => e q.1), sI_ne e]
theorem inq_n {h : hh_} {a x j : Nat} (hx : ¬ (x = 4 ∨ x = j)) : inq_ h a x (j + 1) = inq_ h a x j := by
  refine hh_ext (fun k y => ?_) (fun _ _ => rfl) rfl
  rw [inq_v, inq_v]
  by_cases e3 : k = a ∧ j + 1 ≤ y ∧ y < 4 ∧ (x = 4 ∨ x = y)
  · rw [if_pos e3, if_pos (by omega)]
  · rw [if_neg e3, if_neg]
    intro q
    apply e3
    refine ⟨q.1, ?_, q.2.2⟩
    by_cases e4 : y = j
    · subst e4
      exact absurd q.2.2.2 hx
    · omega
theorem inq_loop {a x : Nat} (hx : x < 5) : ∀ (d j m : Nat) (h : hh_), j + d = 4 → ff_X2_repeat_30 a (nI x) (m + d + 1) (nI j) h = some (inq_ h a x j) := by
  intro d
  induction d with
  | zero =>
    intro j m h e
    have e : j = 4 := by omega
    subst e
    rw [ff_X2_repeat_30, if_pos (by decide)]
    refine congrArg some (hh_ext (fun k y => ?_) (fun _ _ => rfl) rfl)
    rw [inq_v, if_neg (by omega)]
  | succ d ih =>
    intro j m h e
    have hj : j < 4 := by omega
    rw [show m + (d + 1) + 1 = (m + d + 1) + 1 by omega, ff_X2_repeat_30, if_neg (show ¬ (4 : Int32) ≤ nI j from nI_ge (b := 4) hj (by omega))]
    unfold ff_X2_repeat_47
    rw [gd_n (by omega) (by decide), nI_clamp (by omega), nI_1]
    dsimp only
    rw [ih _ _ _ (by omega), ih _ _ _ (by omega)]
    by_cases e2 : x = 4
    · rw [if_pos (show nI x = 4 by rw [e2]; rfl)]
      exact congrArg some (inq_s hj (Or.inl e2))
    · rw [if_neg (show ¬ nI x = 4 from fun q => e2 ((nI_eq (b := 4) (by omega) (by omega)).mp q))]
      by_cases e3 : x = j
      · rw [if_pos (by rw [e3])]
        exact congrArg some (inq_s hj (Or.inr e3))
      · rw [if_neg (fun q => e3 ((nI_eq (by omega) (by omega)).mp q)), inq_n (by omega)]
def rp1_ (h : hh_) (o c : Nat) : hh_ := if c % 8 < 5 then inq_ h (o + 8 + c / 8) (c % 8) 0 else hh_sI h (o + 8 + c / 8) 4 (nI (c % 8 - 5))
theorem rep_C {o c : Nat} {h : hh_} (hc : c < 40) : ff_X2_repeat o (nI c) h = some (rp1_ h o c) := by
  unfold ff_X2_repeat rp1_
  rw [show (8 : Int32) = nI 8 from rfl, pk_rem (by omega) (by omega) (by omega), pk_div (by omega) (by omega) (by omega), gd_n (by omega) (by decide), nI_clamp (by omega)]
  obtain ⟨k, hk⟩ := fu_ 4 (by decide)
  by_cases e : c % 8 < 5
  · rw [if_pos (show nI (c % 8) < 5 from nI_lt (b := 5) e (by omega)), if_pos e, hk]
    exact inq_loop e 4 0 k h rfl
  · rw [if_neg (show ¬ nI (c % 8) < 5 from nI_nlt (b := 5) (by omega) (by omega)), if_neg e, show nI (c % 8) - 5 = nI (c % 8 - 5) from pk_sub (b := 5) (by omega)]; rfl
theorem rp1_2 {h : hh_} {o c : Nat} : (rp1_ h o c).2 = h.2 := by
  unfold rp1_
  split <;> rfl
theorem rp1_ne {h : hh_} {o c k j : Nat} (e : k ≠ o + 8 + c / 8) : (rp1_ h o c).1 k j = h.1 k j := by
  unfold rp1_
  split
  · rw [inq_v, if_neg (fun q => e q.1)]
  · rw [sI_ne e]
theorem rp1_H {h : hh_} {o c m : Nat} {H : Nat → Nat → Nat} (hb : ∀ i, i < m → ∀ j, j < 5 → H i j < 2 ^ 30) (hH : ∀ i, i < m → ∀ j, j < 5 → h.1 (o + 8 + i) j = nI (H i j)) : ∀ i, i < m → ∀ j, j < 5 → (rp1_ h o c).1 (o + 8 + i) j = nI (ap_ c H i j) := by
  intro i hi j hj
  unfold ap_
  by_cases e : i = c / 8
  · rw [if_pos e]
    unfold rp1_
    by_cases e2 : c % 8 < 5
    · rw [if_pos e2, if_neg (show ¬ 5 ≤ c % 8 by omega), inq_v, hH i hi j hj]
      by_cases e3 : j < 4 ∧ (c % 8 = 4 ∨ c % 8 = j)
      · rw [if_pos e3, if_pos (by omega), inc_n (hb i hi j hj)]
      · rw [if_neg e3, if_neg (by omega)]
    · rw [if_neg e2, if_pos (show 5 ≤ c % 8 by omega), ← e, sI_if, hH i hi j hj]
      by_cases e3 : j = 4
      · rw [if_pos e3, if_pos e3]
      · rw [if_neg e3, if_neg e3]
  · rw [if_neg e, rp1_ne (by omega), hH i hi j hj]
theorem ap_b {c i : Nat} {H : Nat → Nat → Nat} (hb : (∀ j, j < 4 → H i j ≤ 5) ∧ H i 4 ≤ 3) : (∀ j, j < 4 → ap_ c H i j ≤ 5) ∧ ap_ c H i 4 ≤ 3 := by
  have h1 := hb.2
  constructor
  · intro j hj
    have h2 := hb.1 j hj
    unfold ap_
    repeat' split
    all_goals omega
  · unfold ap_
    repeat' split
    all_goals omega
theorem ap_c {c m : Nat} {H H' : Nat → Nat → Nat} (e : ∀ i, i < m → ∀ j, j < 5 → H i j = H' i j) : ∀ i, i < m → ∀ j, j < 5 → ap_ c H i j = ap_ c H' i j := by
  intro i hi j hj
  unfold ap_
  rw [e i hi j hj]
theorem rp_c {F : Nat → Nat → Nat} {ds ds' : Nat → Nat} : ∀ (n : Nat), (∀ d, d < n → ds d = ds' d) → rp_ F ds n = rp_ F ds' n := by
  intro n
  induction n with
  | zero => intro _; rfl
  | succ n ih =>
    intro e
    rw [rp_, rp_, e n (by omega), ih (fun d hd => e d (by omega))]
/-- a new DEED keeps the invariant -/
theorem act_I {h h2 : hh_} {D : od_} {F : Nat → Nat → Nat} {ds : Nat → Nat} {n c : Nat} (H : inv_ h) (K : oK_ D) (C : oC_ h.2.2.1 h D) (M : oM_ h D) (k6 : dd2_ h (d_m D) F ds n (h.2.2.1 + 24) 109 0) (k7 : ∀ i, i < d_m D → ∀ j, j < 5 → h.1 (h.2.2.1 + 2 + i) j = nI (F i j)) (k8 : ∀ i, i < d_m D → (∀ j, j < 4 → F i j ≤ 5) ∧ F i 4 ≤ 3) (k9 : ∀ i, i < d_m D → ∀ j, j < 5 → d_H D i j = rp_ F ds n i j) (k11 : ∀ k, k < 3 → kp_ h (d_m D) (d_t D) F k) (hc : c < 40) (hm : c / 8 < d_m D) (hn : n < 40) (e1 : ∀ k j, ¬ (k = h.2.2.1 ∧ j = 6) → ¬ (h.2.2.1 + 8 ≤ k ∧ k < h.2.2.1 + 13) → k ≠ h.2.2.1 + 24 → k ≠ 105 → k ≠ 109 → ¬ (k = 98 ∧ j = 21) → h2.1 k j = h.1 k j) (e2 : h2.2 = h.2) (e3 : h2.1 h.2.2.1 6 = nI (n + 1)) (e4 : h2.1 98 21 = nI (n + 1)) (e5 : ∀ i, i < d_m D → ∀ j, j < 5 → h2.1 (h.2.2.1 + 8 + i) j = nI (ap_ c (d_H D) i j)) (e6 : ∀ i, i < d_m D → ∀ j, j < 5 → h2.1 105 (5 * i + j) = nI (ap_ c (d_H D) i j)) (e7 : ∀ d, h2.1 (h.2.2.1 + 24) d = if d = n then nI c else h.1 (h.2.2.1 + 24) d) (e8 : ∀ x, x < 25 * n → h2.1 109 x = h.1 109 x) (e9 : ∀ x, x < 25 → h2.1 109 (25 * n + x) = h.1 105 x) : inv_ h2 := by
  have nw := H.2.2.2.nw
  have hn0 := H.2.2.2.1
  obtain ⟨hT, hR, hX, hO⟩ := H
  have m5 := K.1
  have t4 := K.2.1
  have p4 := K.2.2.1
  refine ⟨hT.fr (fun k j q => e1 _ _ (by omega) (by omega) (by omega) (by omega) (by omega) (by omega)) (fun k j q => by rw [e2]), hR.fr (fun k j q => e1 _ _ (by omega) (by omega) (by omega) (by omega) (by omega) (by omega)), hX.fr (fun k j q => e1 _ _ (by omega) (by omega) (by omega) (by omega) (by omega) (by omega)), ?_⟩
  have hr : ∀ d, d ≤ n → rp_ F (fun d => if d = n then c else ds d) d = rp_ F ds d := fun d hd => rp_c d (fun x hx => if_neg (by omega))
  unfold iO_
  rw [e2]
  refine ⟨hn0, (D.1, D.2.1, D.2.2.1, ap_ c (d_H D), D.2.2.2.2), F, (fun d => if d = n then c else ds d), n + 1, ?_, ?_, ?_, e3, e4, ⟨by omega, fun d hd => ?_, fun d hd i hi j hj => ?_⟩, fun i hi j hj => ?_, k8, fun i hi j hj => ?_, fun q => absurd hm (by have : d_m D = 0 := q; omega), fun k hk => ?_⟩
  · exact ⟨K.1, K.2.1, K.2.2.1, K.2.2.2.1, fun i hi => ap_b (K.2.2.2.2.1 i hi), K.2.2.2.2.2.1, K.2.2.2.2.2.2⟩
  · refine ⟨?_, ?_, ?_, e5, fun t ht j hj => ?_, fun p hp j hj => ?_⟩
    · rw [e1 _ _ (by omega) (by omega) (by omega) (by omega) (by omega) (by omega)]; exact C.1
    · rw [e1 _ _ (by omega) (by omega) (by omega) (by omega) (by omega) (by omega)]; exact C.2.1
    · rw [e1 _ _ (by omega) (by omega) (by omega) (by omega) (by omega) (by omega)]; exact C.2.2.1
    · have ht : t < d_t D := ht
      rw [e1 _ _ (by omega) (by omega) (by omega) (by omega) (by omega) (by omega)]; exact C.2.2.2.2.1 t ht j hj
    · have hp : p < d_p D := hp
      rw [e1 _ _ (by omega) (by omega) (by omega) (by omega) (by omega) (by omega)]; exact C.2.2.2.2.2 p hp j hj
  · refine ⟨?_, ?_, ?_, e6, fun t ht j hj => ?_, fun p hp j hj => ?_⟩
    · rw [e1 _ _ (by omega) (by omega) (by omega) (by omega) (by omega) (by omega)]; exact M.1
    · rw [e1 _ _ (by omega) (by omega) (by omega) (by omega) (by omega) (by omega)]; exact M.2.1
    · rw [e1 _ _ (by omega) (by omega) (by omega) (by omega) (by omega) (by omega)]; exact M.2.2.1
    · rw [e1 _ _ (by omega) (by omega) (by omega) (by omega) (by omega) (by omega)]; exact M.2.2.2.2.1 t ht j hj
    · rw [e1 _ _ (by omega) (by omega) (by omega) (by omega) (by omega) (by omega)]; exact M.2.2.2.2.2 p hp j hj
  · rw [e7]
    dsimp only
    by_cases e : d = n
    · rw [if_pos e, if_pos e]; exact ⟨rfl, hm, hc⟩
    · rw [if_neg e, if_neg e]; exact k6.2.1 d (by omega)
  · have hi : i < d_m D := hi
    rw [hr d (by omega), Nat.zero_add]
    by_cases e : d = n
    · subst e
      rw [e9 _ (by omega), M.2.2.2.1 i hi j hj, k9 i hi j hj]
    · rw [e8 _ (by omega)]
      have w := k6.2.2 d (by omega) i hi j hj
      rw [Nat.zero_add] at w
      exact w
  · have hi : i < d_m D := hi
    rw [e1 _ _ (by omega) (by omega) (by omega) (by omega) (by omega) (by omega)]; exact k7 i hi j hj
  · show ap_ c (d_H D) i j = rp_ F (fun d => if d = n then c else ds d) (n + 1) i j
    rw [rp_, hr n (Nat.le_refl _), if_pos rfl]
    exact ap_c k9 i hi j hj
  · exact (k11 k hk).fr hk (fun x j q => e1 _ _ (by omega) (by omega) (by omega) (by omega) (by omega) (by omega))
/-- the class's part -/
def acC_ (h : hh_) (o n c : Nat) : hh_ := hh_sI (rp1_ (hh_sI h (o + 24) n (nI c)) o c) o 6 (nI (n + 1))
theorem act_C {o i x n : Nat} {h : hh_} (hi : i < 5) (hx : x < 8) (hn : n < 40) (e : h.1 o 6 = nI n) : ff_X2_act o (nI i) (nI x) h = some (acC_ h o n (i * 8 + x)) := by
  unfold ff_X2_act acC_
  rw [show (8 : Int32) = nI 8 from rfl, pk_mul, nI_add, e, gd_n hn (by decide), nI_clamp (by omega), sI_ne (by omega), e, gd_n hn (by decide), nI_clamp (by omega), sI_eq, rep_C (by omega), Option.bind_some, rp1_ne (by omega), sI_ne (by omega), e, nI_1]
theorem acC_2 {h : hh_} {o n c : Nat} : (acC_ h o n c).2 = h.2 := rp1_2 (h := hh_sI h (o + 24) n (nI c))
theorem acC_ne {h : hh_} {o n c k j : Nat} (q1 : ¬ (k = o ∧ j = 6)) (q2 : k ≠ o + 8 + c / 8) (q3 : k ≠ o + 24) : (acC_ h o n c).1 k j = h.1 k j := by
  unfold acC_
  by_cases e : k = o
  · rw [e, sI_nj (by omega), rp1_ne (by omega), sI_ne (by omega)]
  · rw [sI_ne e, rp1_ne q2, sI_ne q3]
/-- the reference's note -/
theorem wr_loop {a b N : Nat} (ha : a ≠ 105) (sh : sh_ a = (1, N)) (hb : b + 25 ≤ N) (hN : N < 2 ^ 31) (g : Nat → Int32) : ∀ (d x m : Nat) (h : hh_), x + d = 25 → (∀ y, y < 25 → h.1 105 y = g y) → ff_X8_write_2 a (nI b) (m + d + 1) (nI x) h = some (fg_ h a b x 25 g) := by
  intro d
  induction d with
  | zero =>
    intro x m h e eg
    have e : x = 25 := by omega
    subst e
    rw [ff_X8_write_2, if_pos (by decide), fg_0]
  | succ d ih =>
    intro x m h e eg
    have bp : bp_ a (nI (b + x)) = true := by
      unfold bp_
      rw [sh]
      exact bi_t (by omega) hN
    rw [show m + (d + 1) + 1 = (m + d + 1) + 1 by omega, ff_X8_write_2, if_neg (show ¬ (25 : Int32) ≤ nI x from nI_ge (b := 25) (by omega) (by omega)), gd_n (by omega) (by decide), nI_add, gd_t bp, nI_clamp (show b + x < 2 ^ 31 by omega), nI_clamp (show x < 2 ^ 31 by omega), eg x (by omega), nI_1, ih (x + 1) m _ (by omega) (fun y hy => by rw [sI_ne (fun q => ha q.symm)]; exact eg y hy), fg_s (by omega)]
theorem wr_M {a b N : Nat} {h : hh_} (ha : a ≠ 105) (sh : sh_ a = (1, N)) (hb : b + 25 ≤ N) (hN : N < 2 ^ 31) : ff_X8_write a (nI b) h = some (fg_ h a b 0 25 (fun y => h.1 105 y)) := by
  unfold ff_X8_write
  obtain ⟨k, hk⟩ := fu_ 25 (by decide)
  rw [hk]
  exact wr_loop ha sh hb hN _ 25 0 k h rfl (fun y hy => rfl)
theorem sh109 : sh_ 109 = (1, 1000) := by decide +kernel
theorem sh110 : sh_ 110 = (1, 3090) := by decide +kernel
def nt_ (h : hh_) (n : Nat) : hh_ := hh_sI (fg_ h 109 (25 * n) 0 25 (fun y => h.1 105 y)) 98 21 (nI (n + 1))
theorem nt_M {n : Nat} {h : hh_} (hn : n < 40) (e : h.1 98 21 = nI n) : ff_X8_note h = some (nt_ h n) := by
  unfold ff_X8_note nt_
  rw [e, show (25 : Int32) = nI 25 from rfl, pk_mul, wr_M (by decide) sh109 (by omega) (by decide), Option.bind_some, fg_ne (by decide), e, nI_1]
theorem nt_ne {h : hh_} {n k j : Nat} (q1 : k ≠ 109) (q2 : ¬ (k = 98 ∧ j = 21)) : (nt_ h n).1 k j = h.1 k j := by
  unfold nt_
  by_cases e : k = 98
  · rw [e, sI_nj (by omega), fg_ne (by decide)]
  · rw [sI_ne e, fg_ne q1]
theorem nt_old {h : hh_} {n x : Nat} (hx : x < 25 * n) : (nt_ h n).1 109 x = h.1 109 x := by
  unfold nt_
  rw [sI_ne (by decide), fg_out (by omega)]
theorem nt_new {h : hh_} {n x : Nat} (hx : x < 25) : (nt_ h n).1 109 (25 * n + x) = h.1 105 x := by
  unfold nt_
  rw [sI_ne (by decide), fg_in (by omega) hx]
