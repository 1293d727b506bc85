/-! ===== gain ===== -/
theorem q_upo {D : od_} {t i j b a c : Nat} (hac : ¬ (a = i ∧ c = j)) (hj : j < 4) : lst_ (up_ D i j b) t a c 0 = lst_ D t a c 0 := by
  have e : fe_ (up_ D i j b) a c 0 = fe_ D a c 0 := by
    unfold fe_
    rw [up_H, up_H, if_neg (show ¬ (a = i ∧ 4 = j) by omega), if_neg hac]
  unfold lst_ mid_
  rw [e]
  rfl
theorem q_allc {p q : Nat → Bool} : ∀ (d k : Nat), (∀ s, k ≤ s → s < k + d → p s = q s) → all_ p d k = all_ q d k := by
  intro d
  induction d with
  | zero => intro k _; rfl
  | succ d ih =>
    intro k e
    rw [all_, all_, e k (Nat.le_refl _) (by omega), ih _ (fun s h1 h2 => e s (by omega) (by omega))]
/-- the masks by one THUMB with a PAD at place j of HEAD i -/
theorem q_ups {D : od_} {t i j a : Nat} (hj : j < 4) : sms_ (up_ D i j (d_H D i j + 1)) t a 9 = sms_ D t a (if a = i then j else 9) := by
  unfold sms_
  refine msk_c _ _ _ (fun p _ _ => q_allc _ _ (fun c h1 h2 => ?_))
  unfold su_
  have e9 : (if c = 9 then 1 else 0) = 0 := if_neg (by omega)
  rw [e9]
  show decide (d_P D p c ≤ _) = _
  by_cases q : a = i
  · subst q
    rw [if_pos rfl]
    by_cases q2 : c = j
    · subst q2
      rw [if_pos rfl, up_ls rfl hj]
    · rw [if_neg q2, q_upo (by omega) hj]
  · rw [if_neg q, e9, q_upo (by omega) hj]
def q_g1 (D : od_) (t i q a : Nat) : Nat := Int32.toNatClampNeg (sms_ D t a (if a = i then q else 9))
theorem q_g11 {D : od_} (K : oK_ D) {t i q a : Nat} : sms_ D t a (if a = i then q else 9) = nI (q_g1 D t i q a) ∧ q_g1 D t i q a < 16 := q_G (q_mk K.2.2.1)
theorem q_gup {D : od_} {t i j : Nat} (ht : t < d_t D) (hj : j < 4) : q_gm (up_ D i j (d_H D i j + 1)) (fun s => decide (s = t)) = q_g1 D t i j := by
  refine funext fun a => ?_
  unfold q_gm q_g1
  rw [my_1 (D := up_ D i j (d_H D i j + 1)) ht (fun _ => rfl), q_ups hj]
theorem q_bpu {D : od_} {G : Nat → Nat} {i j v : Nat} : ∀ (d k X : Nat), q_bp (up_ D i j v) G d k X = q_bp D G d k X := by
  intro d
  induction d with
  | zero => intro k X; rfl
  | succ d ih =>
    intro k X
    rw [q_bp, q_bp, ih]
    have e : (fun p => d_P (up_ D i j v) p 4 + q_bp (up_ D i j v) G d (k + 1) (X + 2 ^ p)) = fun p => d_P D p 4 + q_bp D G d (k + 1) (X + 2 ^ p) := funext fun p => by rw [ih]; rfl
    rw [e]
    rfl
/-- the gain at places from x6 on: the place and the gain so far -/
def q_ga (f : Nat → Bool) (v : Nat → Nat) (s : Nat) : Nat → Nat → Option Nat × Nat → Option Nat × Nat
  | 0, _, z => z
  | d + 1, j, z => q_ga f v s d (j + 1) (if f j = true then (if v j ≤ s + z.2 then z else (some j, v j - s)) else z)
def q_gf (D : od_) (i j : Nat) : Bool := decide (d_H D i j < 5)
theorem q_67C {D : od_} {t i s : Nat} {KK : Int32 → Int32 → hh_ → Option (Int32 × hh_)} (K : oK_ D) (ht : t < d_t D) (hi : i < d_m D) (hs : s ≤ 100) : ∀ (d j m : Nat) (h : hh_) (z : Option Nat × Nat), j + d = 4 → (h.2.2.1 = 39 ∨ h.2.2.1 = 64) → oC_ h.2.2.1 h D → (∀ a, a < d_m D → a ≠ i → h.1 21 a = sms_ D t a 9) → z.2 ≤ 100 → ∃ h', ff_X7_gain_67 (nI t) (nI i) (nI s) KK (m + d + 1) (oI_ z.1) (nI z.2) (nI j) h = KK (oI_ (q_ga (q_gf D i) (fun j => q_bp D (q_g1 D t i j) (d_m D) 0 0) s d j z).1) (nI (q_ga (q_gf D i) (fun j => q_bp D (q_g1 D t i j) (d_m D) 0 0) s d j z).2) h' ∧ h'.2 = h.2 ∧ ∀ c k, c ≠ 21 → (c < 23 ∨ 35 < c) → h'.1 c k = h.1 c k := by
  have m5 := K.1
  have p4 := K.2.2.1
  have m4 := (q_m4 (d_p D) (by omega)).2.2
  intro d
  induction d with
  | zero =>
    intro j m h z e ho C Z hz
    have e : j = 4 := by omega
    subst e
    exact ⟨h, by rw [ff_X7_gain_67, if_pos (by decide), q_ga], rfl, fun _ _ _ _ => rfl⟩
  | succ d ih =>
    intro j m h z e ho C Z hz
    have hj : j < 4 := by omega
    have bo : bo_ h.2.2.1 = true := by unfold bo_; rcases ho with q | q <;> rw [q] <;> rfl
    have hb := (K.2.2.2.2.1 i hi).1 j hj
    rw [q_ga, show m + (d + 1) + 1 = (m + d + 1) + 1 by omega, ff_X7_gain_67, if_neg (show ¬ (4 : Int32) ≤ nI j from nI_ge (b := 4) hj (by omega)), gd_t bo, gd_n (by omega) (by decide), gd_n (by omega) (by decide), nI_clamp (by omega), nI_clamp (by omega), C.2.2.2.1 i hi j (by omega), nI_1]
    by_cases q : 5 ≤ d_H D i j
    · obtain ⟨h', w1, w2, w3⟩ := ih (j + 1) m h z (by omega) ho C Z hz
      refine ⟨h', ?_, w2, w3⟩
      rw [if_pos (show (5 : Int32) ≤ nI (d_H D i j) from nI_le (a := 5) q (by omega)), if_neg (show ¬ q_gf D i j = true by unfold q_gf; rw [decide_eq_true_eq]; omega), w1]
    · obtain ⟨hA, eA⟩ : ∃ hA, hA = hh_sI h 21 i (sms_ D t i j) := ⟨_, rfl⟩
      have A1 : ∀ c k, c ≠ 21 → hA.1 c k = h.1 c k := fun c k u => by rw [eA, sI_ne u]
      obtain ⟨hB, b1, b2, b3⟩ := q_reckon (G := q_g1 D t i j) (h := hA) ho K (fun a _ => (q_g11 K).2) (C.fr K (fun c k u => A1 c k (by omega))) (fun a ha => by
        rw [← (q_g11 K).1, eA]
        by_cases y : a = i
        · subst y
          rw [if_pos rfl, sI_eq]
        · rw [if_neg y, sI_nj y, Z a ha y])
      have t0 := b3 0 (by omega) 0 (by omega)
      unfold q_ok at t0
      rw [Nat.sub_zero] at t0
      have bb := q_bpb K (G := q_g1 D t i j) (d_m D) 0 0
      have B2 : hB.2 = h.2 := by rw [b2.1, eA]; rfl
      have B1 : ∀ c k, c ≠ 21 → (c < 23 ∨ 35 < c) → hB.1 c k = h.1 c k := fun c k u1 u2 => by rw [b2.2 c k u2, A1 c k u1]
      have st : ∀ z' : Option Nat × Nat, z'.2 ≤ 100 → ∃ h', ff_X7_gain_67 (nI t) (nI i) (nI s) KK (m + d + 1) (oI_ z'.1) (nI z'.2) (nI (j + 1)) hB = KK (oI_ (q_ga (q_gf D i) (fun j => q_bp D (q_g1 D t i j) (d_m D) 0 0) s d (j + 1) z').1) (nI (q_ga (q_gf D i) (fun j => q_bp D (q_g1 D t i j) (d_m D) 0 0) s d (j + 1) z').2) h' ∧ h'.2 = h.2 ∧ ∀ c k, c ≠ 21 → (c < 23 ∨ 35 < c) → h'.1 c k = h.1 c k := by
        intro z' hz'
        obtain ⟨h', w1, w2, w3⟩ := ih (j + 1) m hB z' (by omega) (by rw [B2]; exact ho) (by rw [B2]; exact C.fr K (fun c k u => B1 c k (by omega) (by omega))) (fun a ha y => by rw [b2.2 _ _ (by omega), eA, sI_nj y, Z a ha y]) hz'
        exact ⟨h', w1, w2.trans B2, fun c k u1 u2 => (w3 c k u1 u2).trans (B1 c k u1 u2)⟩
      rw [if_neg (show ¬ (5 : Int32) ≤ nI (d_H D i j) from nI_ge (b := 5) (by omega) (by omega)), if_pos (show q_gf D i j = true by unfold q_gf; rw [decide_eq_true_eq]; omega), sps_C K C ht hi (fun k hk => nI_eq (by omega) (by omega)), Option.bind_some, ← eA, b1, Option.bind_some]
      unfold ff_X3_bestPay
      rw [Option.bind_some, Option.bind_some, show Int32.toNatClampNeg 0 = 0 from rfl, t0.1]
      have cmp : (nI (q_bp D (q_g1 D t i j) (d_m D) 0 0) - nI s ≤ nI z.2) ↔ q_bp D (q_g1 D t i j) (d_m D) 0 0 ≤ s + z.2 := by
        rw [Int32.le_iff_toInt_le, pk_sub_toInt (by omega) (by omega), nI_toInt (by omega)]
        omega
      by_cases y : q_bp D (q_g1 D t i j) (d_m D) 0 0 ≤ s + z.2
      · rw [if_pos (cmp.mpr y), if_pos y]
        exact st z hz
      · rw [if_neg (fun x => y (cmp.mp x)), if_neg y, pk_sub (by omega)]
        exact st (some j, q_bp D (q_g1 D t i j) (d_m D) 0 0 - s) (by show q_bp D (q_g1 D t i j) (d_m D) 0 0 - s ≤ 100; omega)
theorem q_38M {D : od_} {t i s : Nat} {KK : Int32 → Int32 → hh_ → Option (Int32 × hh_)} (K : oK_ D) (ht : t < d_t D) (hi : i < d_m D) (hs : s ≤ 100) : ∀ (d j m : Nat) (h : hh_) (z : Option Nat × Nat), j + d = 4 → oM_ h D → z.2 ≤ 100 → ∃ h', ff_X8_gain_38 (nI t) (nI i) (nI s) KK (m + d + 1) (oI_ z.1) (nI z.2) (nI j) h = KK (oI_ (q_ga (q_gf D i) (fun j => q_bp D (q_g1 D t i j) (d_m D) 0 0) s d j z).1) (nI (q_ga (q_gf D i) (fun j => q_bp D (q_g1 D t i j) (d_m D) 0 0) s d j z).2) h' ∧ q_sM h h' := by
  have m5 := K.1
  have p4 := K.2.2.1
  intro d
  induction d with
  | zero =>
    intro j m h z e M hz
    have e : j = 4 := by omega
    subst e
    exact ⟨h, by rw [ff_X8_gain_38, if_pos (by decide), q_ga], rfl, fun _ _ _ _ _ _ => rfl, fun _ _ _ => rfl⟩
  | succ d ih =>
    intro j m h z e M hz
    have hj : j < 4 := by omega
    have hb := (K.2.2.2.2.1 i hi).1 j hj
    rw [q_ga, show m + (d + 1) + 1 = (m + d + 1) + 1 by omega, ff_X8_gain_38, if_neg (show ¬ (4 : Int32) ≤ nI j from nI_ge (b := 4) hj (by omega)), bu_M K M hi (by omega), Option.bind_some, nI_1]
    by_cases q : 5 ≤ d_H D i j
    · obtain ⟨h', w1, w2⟩ := ih (j + 1) m h z (by omega) M hz
      refine ⟨h', ?_, w2⟩
      rw [if_pos (show (5 : Int32) ≤ nI (d_H D i j) from nI_le (a := 5) q (by omega)), if_neg (show ¬ q_gf D i j = true by unfold q_gf; rw [decide_eq_true_eq]; omega), w1]
    · have Mu := up_M M (i := i) (j := j) (v := d_H D i j + 1) (by omega)
      have Ku := up_K K (i := i) (j := j) (v := d_H D i j + 1) hj (by omega)
      obtain ⟨hE, g1, g2, g3, g4, g5⟩ := q_go (D := up_ D i j (d_H D i j + 1)) Ku (q_w1 (D := up_ D i j (d_H D i j + 1)) ht) Mu
      rw [q_gup ht hj, q_bpu] at g4
      have g4 : hE.1 98 27 = nI (q_bp D (q_g1 D t i j) (d_m D) 0 0) := g4
      have bb := q_bpb K (G := q_g1 D t i j) (d_m D) 0 0
      have eH : hE.1 105 (5 * i + j) = nI (d_H D i j + 1) := by rw [g2.2.1 _ _ (by decide) (by decide) (by decide) (by omega), sI_eq]
      obtain ⟨hF, eF⟩ : ∃ hF, hF = hh_sI hE 105 (5 * i + j) (nI (d_H D i j)) := ⟨_, rfl⟩
      have SF : q_sM h hF := by
        refine ⟨by rw [eF]; exact g2.1, fun c k u1 u2 u3 u4 => ?_, fun c k u => by rw [eF]; exact g2.2.2 c k u⟩
        rw [eF]
        by_cases y : c = 105 ∧ k = 5 * i + j
        · obtain ⟨y1, y2⟩ := y
          subst y1
          subst y2
          rw [sI_eq, M.2.2.2.1 i hi j (by omega)]
        · have e0 : (hh_sI hE 105 (5 * i + j) (nI (d_H D i j))).1 c k = hE.1 c k := by
            by_cases y1 : c = 105
            · exact sI_nj (fun y2 => y ⟨y1, y2⟩)
            · exact sI_ne y1
          rw [e0, g2.2.1 c k u1 u2 u3 u4]
          by_cases y1 : c = 105
          · exact sI_nj (fun y2 => y ⟨y1, y2⟩)
          · exact sI_ne y1
      have MF : oM_ hF D := M.fr (fun c k u => SF.2.1 c k (by omega) (by omega) (by omega) (by omega))
      have st : ∀ z' : Option Nat × Nat, z'.2 ≤ 100 → ∃ h', ff_X8_gain_38 (nI t) (nI i) (nI s) KK (m + d + 1) (oI_ z'.1) (nI z'.2) (nI (j + 1)) hF = KK (oI_ (q_ga (q_gf D i) (fun j => q_bp D (q_g1 D t i j) (d_m D) 0 0) s d (j + 1) z').1) (nI (q_ga (q_gf D i) (fun j => q_bp D (q_g1 D t i j) (d_m D) 0 0) s d (j + 1) z').2) h' ∧ q_sM h h' := by
        intro z' hz'
        obtain ⟨h', w1, w2, w3, w4⟩ := ih (j + 1) m hF z' (by omega) MF hz'
        exact ⟨h', w1, w2.trans SF.1, fun c k u1 u2 u3 u4 => (w3 c k u1 u2 u3 u4).trans (SF.2.1 c k u1 u2 u3 u4), fun c k u => (w4 c k u).trans (SF.2.2 c k u)⟩
      rw [if_neg (show ¬ (5 : Int32) ≤ nI (d_H D i j) from nI_ge (b := 5) (by omega) (by omega)), if_pos (show q_gf D i j = true by unfold q_gf; rw [decide_eq_true_eq]; omega), show (5 : Int32) = nI 5 from rfl, pk_mul, nI_add, gd_n (by omega) (by decide), nI_clamp (by omega), M.2.2.2.1 i hi j (by omega), nI_1, g1, Option.bind_some, eH, show nI (d_H D i j + 1) - 1 = nI (d_H D i j) from pk_sub (a := d_H D i j + 1) (b := 1) (by omega), ← eF]
      have e27 : hF.1 98 27 = nI (q_bp D (q_g1 D t i j) (d_m D) 0 0) := by rw [eF, sI_ne (by decide), g4]
      unfold ff_X8_gain_108
      rw [e27]
      have cmp : (nI (q_bp D (q_g1 D t i j) (d_m D) 0 0) - nI s ≤ nI z.2) ↔ q_bp D (q_g1 D t i j) (d_m D) 0 0 ≤ s + z.2 := by
        rw [Int32.le_iff_toInt_le, pk_sub_toInt (by omega) (by omega), nI_toInt (by omega)]
        omega
      have gr : ff_X8_greater (nI z.2) (nI (q_bp D (q_g1 D t i j) (d_m D) 0 0) - nI s) = nI (if q_bp D (q_g1 D t i j) (d_m D) 0 0 ≤ s + z.2 then z.2 else q_bp D (q_g1 D t i j) (d_m D) 0 0 - s) := by
        unfold ff_X8_greater
        have cm2 : (nI z.2 ≤ nI (q_bp D (q_g1 D t i j) (d_m D) 0 0) - nI s) ↔ s + z.2 ≤ q_bp D (q_g1 D t i j) (d_m D) 0 0 := by
          rw [Int32.le_iff_toInt_le, pk_sub_toInt (by omega) (by omega), nI_toInt (by omega)]
          omega
        by_cases y : s + z.2 ≤ q_bp D (q_g1 D t i j) (d_m D) 0 0
        · rw [if_pos (cm2.mpr y), pk_sub (by omega)]
          by_cases y2 : q_bp D (q_g1 D t i j) (d_m D) 0 0 ≤ s + z.2
          · rw [if_pos y2, show q_bp D (q_g1 D t i j) (d_m D) 0 0 - s = z.2 by omega]
          · rw [if_neg y2]
        · rw [if_neg (fun x => y (cm2.mp x)), if_pos (by omega)]
      rw [gr]
      by_cases y : q_bp D (q_g1 D t i j) (d_m D) 0 0 ≤ s + z.2
      · rw [if_pos (cmp.mpr y), if_pos y, if_pos y]
        exact st z hz
      · rw [if_neg (fun x => y (cmp.mp x)), if_neg y, if_neg y]
        exact st (some j, q_bp D (q_g1 D t i j) (d_m D) 0 0 - s) (by show q_bp D (q_g1 D t i j) (d_m D) 0 0 - s ≤ 100; omega)
theorem q_gav {f : Nat → Bool} {v : Nat → Nat} {s : Nat} : ∀ (d j : Nat) (z : Option Nat × Nat), (∀ x, z.1 = some x → x < j) → ∀ x, (q_ga f v s d j z).1 = some x → x < j + d := by
  intro d
  induction d with
  | zero => intro j z hz x hx; exact hz x hx
  | succ d ih =>
    intro j z hz x hx
    rw [q_ga] at hx
    have := ih (j + 1) _ (fun x hx => by
      split at hx
      · split at hx
        · have := hz x hx; omega
        · injection hx with hx; omega
      · have := hz x hx; omega) x hx
    omega
/-- 37: gain -/
theorem st_37 : sp_37 inv_ := by
  intro h a1 a2 H
  obtain ⟨hn, D, F, ds, n, K, C, M, -⟩ := H.2.2.2
  have ho := H.2.2.2.nw
  have m5 := K.1
  have p4 := K.2.2.1
  have m4 := (q_m4 (d_p D) (by omega)).2.2
  rcases hs_1 a1 K C M with ⟨t, ht, rfl, c1, m1⟩ | ⟨c1, m1⟩
  · rcases hs_0 a2 K C M with ⟨i, hi, rfl, c2, m2⟩ | ⟨c2, m2⟩
    · obtain ⟨k, hk⟩ := fu_ 4 (by decide)
      obtain ⟨hA, eA⟩ : ∃ hA, hA = fg_ h 21 0 0 (d_m D) (mym_ D (fun s => decide (s = t))) := ⟨_, rfl⟩
      have A1 : ∀ c j, c ≠ 21 → hA.1 c j = h.1 c j := fun c j e => by rw [eA, fg_ne e]
      have A2 : hA.2 = h.2 := by rw [eA]; rfl
      obtain ⟨hB, b1, b2, b3⟩ := q_reckon (G := q_gm D (fun s => decide (s = t))) (h := hA) ho K (fun i _ => (q_gm1 K).2) (C.fr K (fun c j u => A1 c j (by omega))) (fun i hi => by rw [eA, fg_in0 (Nat.zero_le _) hi]; exact (q_gm1 K).1)
      have t0 := b3 0 (by omega) 0 (by omega)
      unfold q_ok at t0
      rw [Nat.sub_zero] at t0
      have bb := q_bpb K (G := q_gm D (fun s => decide (s = t))) (d_m D) 0 0
      have B2 : hB.2 = h.2 := by rw [b2.1, A2]
      have B1 : ∀ c k, c ≠ 21 → (c < 23 ∨ 35 < c) → hB.1 c k = h.1 c k := fun c k u1 u2 => by rw [b2.2 c k u2, A1 c k u1]
      obtain ⟨S, eS⟩ : ∃ S, S = q_bp D (q_gm D (fun s => decide (s = t))) (d_m D) 0 0 := ⟨_, rfl⟩
      rw [← eS] at t0 bb
      obtain ⟨Q, eQ⟩ : ∃ Q, Q = q_ga (q_gf D i) (fun j => q_bp D (q_g1 D t i j) (d_m D) 0 0) S 4 0 (none, 0) := ⟨_, rfl⟩
      obtain ⟨h1, w1, w2, w3⟩ := q_67C (s := S) (KK := fun u24 u25 k26 => if u24 = (-9 : Int32) then some ((-9 : Int32), k26) else some (u25, (ff_X6_tell u24 k26).2)) K ht hi (by omega) 4 0 k hB (none, 0) rfl (by rw [B2]; exact ho) (by rw [B2]; exact C.fr K (fun c k u => B1 c k (by omega) (by omega))) (fun a ha _ => by rw [b2.2 _ _ (by omega), eA, fg_in0 (Nat.zero_le _) ha]; exact my_1 ht (fun _ => rfl)) (by show 0 ≤ 100; omega)
      rw [← eQ] at w1
      have W3 : ∀ c k, c ≠ 21 → (c < 23 ∨ 35 < c) → h1.1 c k = h.1 c k := fun c k u1 u2 => (w3 c k u1 u2).trans (B1 c k u1 u2)
      have Cf : ff_X7_gain (nI t) (nI i) h = if oI_ Q.1 = (-9 : Int32) then some ((-9 : Int32), h1) else some (nI Q.2, (ff_X6_tell (oI_ Q.1) h1).2) := by
        unfold ff_X7_gain
        rw [gd_t H.2.2.2.nwB, c1, Option.bind_some, if_neg n10, c2, Option.bind_some, if_neg n10, q_ob ho K ht C, Option.bind_some, ← eA, show hA.2.2.1 = h.2.2.1 by rw [A2], gd_t H.2.2.2.nwB, b1, Option.bind_some]
        unfold ff_X3_bestPay
        rw [Option.bind_some, show Int32.toNatClampNeg 0 = 0 from rfl, t0.1, hk]
        exact w1
      have H1 : inv_ h1 := inv_scr H (fun c j q => by
        have := ho
        unfold sc_ fO_ at q
        exact W3 c j (by omega) (by omega)) (fun c j _ => by rw [w2, B2]) (by rw [w2, B2]; exact ⟨rfl, rfl⟩)
      have Mf : ∀ h', sm_ h1 h' → ∃ h3, ff_X8_gain (nI t) (nI i) h' = (if oI_ Q.1 = (-9 : Int32) then some ((-9 : Int32), h3) else some ((ff_X8_ask (oI_ Q.1) (nI Q.2) h3).1, (ff_X8_ask (oI_ Q.1) (nI Q.2) h3).2)) ∧ q_sM h' h3 := by
        intro h' S'
        have M' : oM_ h' D := M.fr (fun c j u => (S' c j (by omega) (by omega)).trans (W3 c j (by omega) (by omega)))
        have m1' : ff_X8_isThumb (nI t) h' = 1 := by unfold ff_X8_isThumb at m1 ⊢; rw [M'.2.1]; rw [M.2.1] at m1; exact m1
        have m2' : ff_X8_isHead (nI i) h' = 1 := by unfold ff_X8_isHead at m2 ⊢; rw [M'.1]; rw [M.1] at m2; exact m2
        obtain ⟨hE, g1, g2, g3, g4, g5⟩ := q_go K (q_w1 ht) M'
        have ME : oM_ hE D := M'.fr (fun c j u => g2.2.1 c j (by omega) (by omega) (by omega) (by omega))
        obtain ⟨h3, v1, v2, v3, v4⟩ := q_38M (s := S) (KK := fun u12 u13 k14 => if u12 = (-9 : Int32) then some ((-9 : Int32), k14) else some ((ff_X8_ask u12 u13 k14).1, (ff_X8_ask u12 u13 k14).2)) K ht hi (by omega) 4 0 k hE (none, 0) rfl ME (by show 0 ≤ 100; omega)
        rw [← eQ] at v1
        refine ⟨h3, ?_, v2.trans g2.1, fun c k u1 u2 u3 u4 => (v3 c k u1 u2 u3 u4).trans (g2.2.1 c k u1 u2 u3 u4), fun c k u => (v4 c k u).trans (g2.2.2 c k u)⟩
        unfold ff_X8_gain
        rw [m1', if_neg n10, m2', if_neg n10, g1, Option.bind_some, g4, ← eS, hk]
        exact v1
      by_cases y : oI_ Q.1 = (-9 : Int32)
      · obtain ⟨h3, v1, v2⟩ := Mf h1 (fun _ _ _ _ => rfl)
        rw [if_pos y] at Cf v1
        refine ⟨-9, h1, h3, Cf, v1, inv_scr H1 (fun c j q => ?_) (fun c j q => v2.2.2 c j (by omega)) (by rw [v2.1]; exact ⟨rfl, rfl⟩)⟩
        have := H1.2.2.2.nw
        unfold sc_ fO_ at q
        exact v2.2.1 c j (by omega) (by omega) (by omega) (by omega)
      · obtain ⟨h3, v1, v2⟩ := Mf (cte_ (oI_ Q.1) h1) (fun c j u1 u2 => sI_ne u1)
        rw [if_neg y] at Cf v1
        refine ⟨nI Q.2, cte_ (oI_ Q.1) h1, mte_ (oI_ Q.1) h3, Cf, v1, ?_⟩
        have H3 : inv_ (hh_sI (hh_sI h3 36 2 (h1.1 36 2)) 98 2 (h1.1 98 2)) := inv_scr H1 (fun c j q => by
          have := H1.2.2.2.nw
          unfold sc_ fO_ at q
          by_cases z : c = 98 ∧ j = 2
          · obtain ⟨z1, z2⟩ := z
            subst z1
            subst z2
            rw [sI_eq]
          · have e0 : (hh_sI (hh_sI h3 36 2 (h1.1 36 2)) 98 2 (h1.1 98 2)).1 c j = (hh_sI h3 36 2 (h1.1 36 2)).1 c j := by
              by_cases y1 : c = 98
              · exact sI_nj (fun y2 => z ⟨y1, y2⟩)
              · exact sI_ne y1
            rw [e0]
            by_cases x : c = 36 ∧ j = 2
            · obtain ⟨z1, z2⟩ := x
              subst z1
              subst z2
              rw [sI_eq]
            · have e1 : (hh_sI h3 36 2 (h1.1 36 2)).1 c j = h3.1 c j := by
                by_cases y1 : c = 36
                · exact sI_nj (fun y2 => x ⟨y1, y2⟩)
                · exact sI_ne y1
              rw [e1, v2.2.1 c j (by omega) (by omega) (by omega) (by omega)]
              by_cases y1 : c = 36
              · exact sI_nj (fun y2 => x ⟨y1, y2⟩)
              · exact sI_ne y1) (fun c j q => v2.2.2 c j (by omega)) (by
                show h3.2.2.1 = _ ∧ h3.2.2.2.1 = _
                rw [v2.1]
                exact ⟨rfl, rfl⟩)
        have H4 := inv_tell H3 (oI_ Q.1)
        have E : mte_ (oI_ Q.1) (cte_ (oI_ Q.1) (hh_sI (hh_sI h3 36 2 (h1.1 36 2)) 98 2 (h1.1 98 2))) = mte_ (oI_ Q.1) h3 := by
          unfold mte_ cte_
          rw [sI_comm (a := 98) (b := 36) (by decide), sI_sI, sI_sI]
          rw [sI_self (h := h3) (a := 36) (i := 2)]
          rw [v2.2.1 _ _ (by decide) (by decide) (by decide) (by omega)]
          exact sI_eq
        rw [E] at H4
        exact H4
    · refine rd_ H 0 (-1) 0 (by decide) ?_ (fun h' S => ?_)
      · unfold ff_X7_gain
        rw [gd_t H.2.2.2.nwB, c1, Option.bind_some, if_neg n10, c2, Option.bind_some, if_pos rfl]; rfl
      · unfold ff_X8_gain
        rw [S.iT (D := D) m1, if_neg n10, S.iH m2, if_pos rfl]; rfl
  · refine rd_ H 0 (-1) 0 (by decide) ?_ (fun h' S => ?_)
    · unfold ff_X7_gain
      rw [gd_t H.2.2.2.nwB, c1, Option.bind_some, if_pos rfl]; rfl
    · unfold ff_X8_gain
      rw [S.iT (D := D) m1, if_pos rfl]; rfl
