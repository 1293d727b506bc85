/-! ===== the class reads its table; the reference searches ===== -/
theorem q_bP {o i X : Nat} {D : od_} {G : Nat → Nat} {h : hh_} (ho : o = 39 ∨ o = 64) (K : oK_ D) (hi : i < d_m D) (hX : X < 2 ^ d_p D) (hG : G i < 16) (C : oC_ o h D) (e1 : h.1 21 i = nI (G i)) (T : ∀ i, i ≤ d_m D → ∀ Y, Y < 2 ^ d_p D → q_ok D G h i Y) : ∀ (e p m : Nat), p + e = d_p D → q_lb (q_f (G i) X) (fun p => d_P D p 4 + q_bp D G (d_m D - (i + 1)) (i + 1) (X + 2 ^ p)) (q_bp D G (d_m D - (i + 1)) (i + 1) X) e p = q_bp D G (d_m D - i) i X → ff_X3_bestPost_3 o (nI i) (nI X) h (m + e + 1) (nI p) = some (q_cv (q_ch (q_f (G i) X) (fun p => d_P D p 4 + q_bp D G (d_m D - (i + 1)) (i + 1) (X + 2 ^ p)) (q_bp D G (d_m D - (i + 1)) (i + 1) X) e p)) := by
  have m5 := K.1
  have p4 := K.2.2.1
  have m4 := (q_m4 (d_p D) (by omega)).2.2.1
  intro e
  induction e with
  | zero =>
    intro p m e _
    rw [ff_X3_bestPost_3, show Int32.toNatClampNeg 2 = 2 from rfl, C.2.2.1, if_pos (nI_le (by omega) (by omega))]
    rfl
  | succ e ih =>
    intro p m ee hT
    have hp : p < d_p D := by omega
    have T0 := T i (by omega) X hX
    unfold q_ok at T0
    rw [q_lb] at hT
    rw [show m + (e + 1) + 1 = (m + e + 1) + 1 by omega, ff_X3_bestPost_3, show Int32.toNatClampNeg 2 = 2 from rfl, C.2.2.1, if_neg (nI_ge (by omega) (by omega)), q_iF (by omega) (by omega) (by omega) hG e1, Option.bind_some, nI_1, q_ch]
    by_cases q : q_f (G i) X p = true
    · have hb := q_fX q
      obtain ⟨m1, m2, -⟩ := q_m3 (d_p D) (by omega) X hX p hp hb
      have t := T (i + 1) (by omega) _ m2
      unfold q_ok at t
      have pb := (K.2.2.2.2.2.2 p hp).2.2
      have b1 := q_bpb K (G := G) (d_m D - (i + 1)) (i + 1) (X + 2 ^ p)
      have b2 := q_bpb K (G := G) (d_m D - i) i X
      rw [if_pos q] at hT
      rw [q, if_neg (show ¬ bI_ true = 0 by decide), q_pB K C (by omega) hp hX hb (show h.1 (24 + i) (X + 2 ^ p) = _ by rw [show 24 + i = 23 + (i + 1) by omega]; exact t.1), Option.bind_some, gd_n (by omega) (by decide), gd_n (by omega) (by decide), nI_clamp (by omega), nI_clamp (by omega), T0.1]
      by_cases z : d_P D p 4 + q_bp D G (d_m D - (i + 1)) (i + 1) (X + 2 ^ p) = q_bp D G (d_m D - i) i X
      · rw [if_pos (by rw [z]), if_pos ⟨rfl, by omega⟩, q_cv, if_neg (by omega)]
      · rw [if_neg (fun y => z ((nI_eq (by omega) (by omega)).mp y)), if_neg (by omega), ih (p + 1) m (by omega) (by omega)]
    · have q' := Bool.eq_false_iff.mpr q
      rw [if_neg q] at hT
      rw [q', if_pos (show bI_ false = 0 from rfl), if_neg (fun y => by cases y.1), ih (p + 1) m (by omega) hT]
theorem q_fgc {h : hh_} {k b a n : Nat} {g g' : Nat → Int32} (e : ∀ j, a ≤ j → j < n → g j = g' j) : fg_ h k b a n g = fg_ h k b a n g' := by
  refine hh_ext (fun c j => ?_) (fun _ _ => rfl) rfl
  show (if c = k ∧ b + a ≤ j ∧ j < b + n then g (j - b) else h.1 c j) = if c = k ∧ b + a ≤ j ∧ j < b + n then g' (j - b) else h.1 c j
  by_cases q : c = k ∧ b + a ≤ j ∧ j < b + n
  · rw [if_pos q, if_pos q, e _ (by omega) (by omega)]
  · rw [if_neg q, if_neg q]
theorem q_chb {f : Nat → Bool} {v : Nat → Nat} {s : Nat} : ∀ (e p : Nat), q_ch f v s e p = 9 ∨ (p ≤ q_ch f v s e p ∧ q_ch f v s e p < p + e ∧ f (q_ch f v s e p) = true) := by
  intro e
  induction e with
  | zero => intro p; exact Or.inl rfl
  | succ e ih =>
    intro p
    rw [q_ch]
    by_cases q : f p = true ∧ q_lb f v s e (p + 1) ≤ v p
    · rw [if_pos q]; exact Or.inr ⟨Nat.le_refl _, by omega, q.1⟩
    · rw [if_neg q]
      rcases ih (p + 1) with w | ⟨w1, w2, w3⟩
      · exact Or.inl w
      · exact Or.inr ⟨by omega, by omega, w3⟩
theorem q_26 {r : Nat} {D : od_} {G : Nat → Nat} (K : oK_ D) (hG : ∀ i, i < d_m D → G i < 16) (hr : r < 6) : ∀ (d i X m : Nat) (h : hh_), i + d = d_m D → X < 2 ^ d_p D → (h.2.2.1 = 39 ∨ h.2.2.1 = 64) → oC_ h.2.2.1 h D → (∀ i, i < d_m D → h.1 21 i = nI (G i)) → (∀ i, i ≤ d_m D → ∀ Y, Y < 2 ^ d_p D → q_ok D G h i Y) → (∀ j, i ≤ j → j < d_m D → h.1 (4 + r) j = -9) → ff_X7_layBestPlan_26 (nI r) (nI (d_m D)) (m + d + 1) (nI X) (nI i) h = some (nI (q_bp D G (d_m D) 0 0), fg_ h (4 + r) 0 i (d_m D) (fun j => q_cv (q_gp D G d i X j))) := by
  have m5 := K.1
  have p4 := K.2.2.1
  have m4 := (q_m4 (d_p D) (by omega)).2.2
  obtain ⟨k, hk⟩ := fu_ (d_p D) (by omega)
  intro d
  induction d with
  | zero =>
    intro i X m h e hX ho C e1 T Z
    have e : i = d_m D := by omega
    subst e
    have t := T 0 (by omega) 0 (by omega)
    unfold q_ok at t
    rw [ff_X7_layBestPlan_26, if_pos (nI_le (by omega) (by omega)), ff_X3_bestPay, Option.bind_some, fg_0, show Int32.toNatClampNeg 0 = 0 from rfl, t.1]
    rfl
  | succ d ih =>
    intro i X m h e hX ho C e1 T Z
    have hi : i < d_m D := by omega
    have bo : bo_ h.2.2.1 = true := by unfold bo_; rcases ho with q | q <;> rw [q] <;> rfl
    have bP := q_bP ho K hi hX (hG i hi) C (e1 i hi) T (d_p D) 0 k (by omega) (by rw [show d_m D - i = (d_m D - (i + 1)) + 1 by omega, q_bp])
    have ed : d_m D - (i + 1) = d := by omega
    rw [ed] at bP
    rw [show m + (d + 1) + 1 = (m + d + 1) + 1 by omega, ff_X7_layBestPlan_26, if_neg (nI_ge (by omega) (by omega)), gd_t bo]
    unfold ff_X3_bestPost
    rw [hk, show (0 : Int32) = nI 0 from rfl, bP, Option.bind_some, nI_1]
    have ce : q_cc D G d i X = q_ch (q_f (G i) X) (fun p => d_P D p 4 + q_bp D G d (i + 1) (X + 2 ^ p)) (q_bp D G d (i + 1) X) (d_p D) 0 := rfl
    rw [← ce]
    have cb := q_chb (f := q_f (G i) X) (v := fun p => d_P D p 4 + q_bp D G d (i + 1) (X + 2 ^ p)) (s := q_bp D G d (i + 1) X) (d_p D) 0
    rw [← ce] at cb
    have fs := fg_s (h := h) (k := 4 + r) (b := 0) (a := i) (n := d_m D) (g := fun j => q_cv (q_gp D G (d + 1) i X j)) hi
    rw [Nat.zero_add] at fs
    have gi : q_gp D G (d + 1) i X i = q_cc D G d i X := by rw [q_gp, if_pos rfl]
    have gj : ∀ j, i + 1 ≤ j → j < d_m D → q_cv (q_gp D G d (i + 1) (q_nx (q_cc D G d i X) X) j) = q_cv (q_gp D G (d + 1) i X j) := by
      intro j h1 h2
      rw [q_gp, if_neg (by omega)]
    rcases cb with q | ⟨q1, q2, q3⟩
    · have v9 : q_cv (q_cc D G d i X) = -9 := by rw [q]; rfl
      rw [v9, if_pos rfl, ih (i + 1) X m h (by omega) hX ho C e1 T (fun j h1 h2 => Z j (by omega) h2)]
      have w := q_fgc (h := h) (k := 4 + r) (b := 0) gj
      have nx : q_nx (q_cc D G d i X) X = X := by rw [q]; rfl
      rw [nx] at w
      rw [w, ← fs, gi, v9, sI_self (Z i (by omega) hi)]
    · have hc : ¬ q_cc D G d i X = 9 := by omega
      have vc : q_cv (q_cc D G d i X) = nI (q_cc D G d i X) := by rw [q_cv, if_neg hc]
      have nx : q_nx (q_cc D G d i X) X = X + 2 ^ (q_cc D G d i X) := by rw [q_nx, if_neg hc]
      have n9 : ¬ nI (q_cc D G d i X) = -9 := by
        intro v
        have v2 := congrArg Int32.toInt v
        rw [nI_toInt (by omega), show (-9 : Int32).toInt = -9 from rfl] at v2
        omega
      obtain ⟨m1, m2, -⟩ := q_m3 (d_p D) (by omega) X hX (q_cc D G d i X) (by omega) (q_fX q3)
      rw [vc, if_neg n9, gd_n hr (by decide), gd_n (by omega) (by decide), m1, nI_clamp (by omega), nI_clamp (by omega)]
      rw [ih (i + 1) _ m (hh_sI h (4 + r) i (nI (q_cc D G d i X))) (by omega) m2 ho (show oC_ h.2.2.1 (hh_sI h (4 + r) i (nI (q_cc D G d i X))) D from C.fr K (fun c x q => sI_ne (by omega))) (fun i hi => by rw [sI_ne (by omega)]; exact e1 i hi) (fun i hi Y hY => by
        have t := T i hi Y hY
        unfold q_ok at t ⊢
        rw [sI_ne (by omega), sI_ne (by omega)]
        exact t) (fun j h1 h2 => by rw [sI_nj (by omega)]; exact Z j (by omega) h2)]
      have w := q_fgc (h := hh_sI h (4 + r) i (nI (q_cc D G d i X))) (k := 4 + r) (b := 0) gj
      rw [nx] at w
      rw [w, ← fs, gi, vc]
/-! the reference -/
def q_bs (B : Nat) : Int32 := if B = 0 then -1 else nI (B - 1)
theorem q_bsl {x B : Nat} (hx : x < 2 ^ 30) (hB : B < 2 ^ 30) : nI x ≤ q_bs B ↔ x < B := by
  unfold q_bs
  by_cases q : B = 0
  · rw [if_pos q, Int32.le_iff_toInt_le, nI_toInt (by omega), show (-1 : Int32).toInt = -1 from rfl]
    omega
  · rw [if_neg q, nI_leI (by omega) (by omega)]
    omega
theorem q_bsS {x : Nat} : q_bs (x + 1) = nI x := rfl
/-- what a search from HEAD i on does: B - 1 the best so far, T what it finds, W how many -/
def q_rs (N i B T W : Nat) (pl : Nat → Int32) (h h' : hh_) : Prop :=
  h'.2.2 = h.2.2 ∧ (∀ c j, c ≠ 112 → c ≠ 113 → ¬ (c = 98 ∧ j = 27) → h'.1 c j = h.1 c j) ∧ (∀ j, j < i → h'.1 112 j = h.1 112 j) ∧ (∀ c j, ¬ (c = 98 ∧ j = 28) → h'.2.1 c j = h.2.1 c j) ∧ h'.2.1 98 28 = h.2.1 98 28 + lN W ∧ h'.1 98 27 = q_bs (max B (T + 1)) ∧ ∀ j, j < N → h'.1 113 j = if B < T + 1 then (if j < i then h.1 112 j else pl j) else h.1 113 j
theorem q_34 {rc : Int32 → Int32 → Int32 → hh_ → Option hh_} {N : Nat} {g : Nat → Int32} (hN : N ≤ 5) : ∀ (d i m : Nat) (h : hh_), i + d = N → h.1 98 10 = nI N → (∀ j, j < N → h.1 112 j = g j) → ff_X8_planOn_34 rc (m + d + 1) (nI i) h = some (fg_ h 113 0 i N g) := by
  intro d
  induction d with
  | zero =>
    intro i m h e e1 e2
    have e : i = N := by omega
    subst e
    rw [ff_X8_planOn_34, e1, if_pos (nI_le (by omega) (by omega)), fg_0]
  | succ d ih =>
    intro i m h e e1 e2
    rw [show m + (d + 1) + 1 = (m + d + 1) + 1 by omega, ff_X8_planOn_34, e1, if_neg (nI_ge (by omega) (by omega)), gd_n (by omega) (by decide), nI_clamp (by omega), e2 i (by omega), nI_1, ih (i + 1) m (hh_sI h 113 i (g i)) (by omega) (by rw [sI_ne (by decide)]; exact e1) (fun j hj => by rw [sI_ne (by decide)]; exact e2 j hj)]
    have v := fg_s (h := h) (k := 113) (b := 0) (a := i) (n := N) (g := g) (by omega)
    rw [Nat.zero_add] at v
    rw [v]
theorem q_put {N i B T W : Nat} {pl : Nat → Int32} {x : Int32} {h h' : hh_} (R : q_rs N (i + 1) B T W pl (hh_sI h 112 i x) h') : q_rs N i B T W (fun j => if j = i then x else pl j) h h' := by
  obtain ⟨r1, r2, r3, r4, r5, r6, r7⟩ := R
  refine ⟨r1, fun c j h1 h2 h3 => ?_, fun j hj => ?_, r4, r5, r6, fun j hj => ?_⟩
  · rw [r2 c j h1 h2 h3, sI_ne h1]
  · rw [r3 j (by omega), sI_nj (by omega)]
  · rw [r7 j hj]
    by_cases q : B < T + 1
    · rw [if_pos q, if_pos q]
      by_cases q1 : j < i
      · rw [if_pos (by omega), if_pos q1, sI_nj (by omega)]
      · rw [if_neg q1]
        by_cases q2 : j = i
        · subst q2
          rw [if_pos (by omega), sI_eq]
          exact (if_pos rfl).symm
        · rw [if_neg (by omega)]
          exact (if_neg q2).symm
    · rw [if_neg q, if_neg q, sI_ne (by decide)]
theorem q_cmb {N i B T1 T2 W1 W2 : Nat} {p1 p2 : Nat → Int32} {h h1 h2 : hh_} (R1 : q_rs N i B T1 W1 p1 h h1) (R2 : q_rs N i (max B (T1 + 1)) T2 W2 p2 h1 h2) : q_rs N i B (max T1 T2) (W1 + W2) (if T2 ≤ T1 then p1 else p2) h h2 := by
  obtain ⟨r1, r2, r3, r4, r5, r6, r7⟩ := R1
  obtain ⟨s1, s2, s3, s4, s5, s6, s7⟩ := R2
  refine ⟨s1.trans r1, fun c j e1 e2 e3 => (s2 c j e1 e2 e3).trans (r2 c j e1 e2 e3), fun j hj => (s3 j hj).trans (r3 j hj), fun c j e => (s4 c j e).trans (r4 c j e), ?_, ?_, fun j hj => ?_⟩
  · rw [s5, r5, Int64.add_assoc, lN_add]
  · rw [s6]
    exact congrArg q_bs (by omega)
  · rw [s7 j hj, r7 j hj]
    by_cases q : T2 ≤ T1
    · rw [if_pos q, if_neg (by omega), Nat.max_eq_left q]
    · rw [if_neg q, Nat.max_eq_right (show T1 ≤ T2 by omega)]
      by_cases q1 : B < T2 + 1
      · rw [if_pos (by omega), if_pos q1]
        by_cases q2 : j < i
        · rw [if_pos q2, if_pos q2, r3 j q2]
        · rw [if_neg q2, if_neg q2]
      · rw [if_neg (by omega), if_neg q1, if_neg (by omega)]
def q_pl (D : od_) (G : Nat → Nat) (d i X c j : Nat) : Int32 := if j = i then q_cv c else q_cv (q_gp D G d (i + 1) (q_nx c X) j)
def q_st (D : od_) (G : Nat → Nat) (B : Nat) (h : hh_) : Prop := oM_ h D ∧ (∀ i, i < d_m D → h.1 111 i = nI (G i)) ∧ h.1 98 27 = q_bs B
theorem q_st1 {D : od_} {G : Nat → Nat} {B i : Nat} {x : Int32} {h : hh_} (S : q_st D G B h) : q_st D G B (hh_sI h 112 i x) := by
  obtain ⟨s1, s2, s3⟩ := S
  exact ⟨s1.fr (fun c j u => sI_ne (by omega)), fun i hi => by rw [sI_ne (by decide)]; exact s2 i hi, by rw [sI_ne (by decide)]; exact s3⟩
theorem q_st2 {D : od_} {G : Nat → Nat} {N B i T W : Nat} {pl : Nat → Int32} {h h' : hh_} (S : q_st D G B h) (R : q_rs N i B T W pl h h') : q_st D G (max B (T + 1)) h' := by
  obtain ⟨s1, s2, s3⟩ := S
  obtain ⟨r1, r2, r3, r4, r5, r6, r7⟩ := R
  exact ⟨s1.fr (fun c j u => r2 c j (by omega) (by omega) (by omega)), fun i hi => by rw [r2 _ _ (by omega) (by omega) (by omega)]; exact s2 i hi, r6⟩
theorem q_67 {rc : Int32 → Int32 → Int32 → hh_ → Option hh_} {D : od_} {G : Nat → Nat} {d i X a : Nat} (K : oK_ D) (hG : ∀ i, i < d_m D → G i < 16) (hi : i < d_m D) (hX : X < 2 ^ d_p D) (ha : a + 9 * (d + 1) ≤ 1000)
    (hrc : ∀ (X a B : Nat) (h : hh_), X < 2 ^ d_p D → a + 9 * d ≤ 1000 → B ≤ 3000 → q_st D G B h → ∃ h', rc (nI (i + 1)) (nI (2 ^ d_p D - 1 - X)) (nI a) h = some h' ∧ q_rs (d_m D) (i + 1) B (a + q_bp D G d (i + 1) X) (q_wn D G d (i + 1) X) (fun j => q_cv (q_gp D G d (i + 1) X j)) h h') :
    ∀ (e p m B : Nat) (h : hh_), p + e = d_p D → B ≤ 3000 → q_st D G B h → ∃ h', ff_X8_planOn_67 (nI i) (nI (2 ^ d_p D - 1 - X)) (nI a) rc (m + e + 1) (nI p) h = some h' ∧ q_rs (d_m D) i B (a + q_lb (q_f (G i) X) (fun p => d_P D p 4 + q_bp D G d (i + 1) (X + 2 ^ p)) (q_bp D G d (i + 1) X) e p) (q_sw (q_f (G i) X) (fun p => q_wn D G d (i + 1) (X + 2 ^ p)) e p + q_wn D G d (i + 1) X) (q_pl D G d i X (q_ch (q_f (G i) X) (fun p => d_P D p 4 + q_bp D G d (i + 1) (X + 2 ^ p)) (q_bp D G d (i + 1) X) e p)) h h' := by
  have m5 := K.1
  have p4 := K.2.2.1
  have m4 := (q_m4 (d_p D) (by omega)).2.2
  intro e
  induction e with
  | zero =>
    intro p m B h e hB S
    obtain ⟨h', w1, w2⟩ := hrc X a B (hh_sI h 112 i (-9)) hX (by omega) hB (q_st1 S)
    refine ⟨h', ?_, ?_⟩
    · rw [ff_X8_planOn_67, S.1.2.2.1, if_pos (nI_le (by omega) (by omega)), gd_n (by omega) (by decide), nI_clamp (by omega), nI_1, w1]
      rfl
    · rw [q_lb, q_sw, Nat.zero_add]
      exact q_put w2
  | succ e ih =>
    intro p m B h ee hB S
    have hp : p < d_p D := by omega
    rw [q_lb, q_sw, q_ch, show m + (e + 1) + 1 = (m + e + 1) + 1 by omega, ff_X8_planOn_67, S.1.2.2.1, if_neg (nI_ge (by omega) (by omega)), gd_n (by omega) (by decide), nI_clamp (by omega), S.2.1 i hi, q_m2 (d_p D) (by omega) X hX p hp (G i) (hG i hi), nI_1]
    by_cases q : q_f (G i) X p = true
    · obtain ⟨-, m2, m3⟩ := q_m3 (d_p D) (by omega) X hX p hp (q_fX q)
      have pb := (K.2.2.2.2.2.2 p hp).2.2
      have bb := q_bpb K (G := G) d (i + 1) (X + 2 ^ p)
      obtain ⟨h1, w1, w2⟩ := hrc (X + 2 ^ p) (a + d_P D p 4) B (hh_sI h 112 i (nI p)) m2 (by omega) hB (q_st1 S)
      have w3 := q_put w2
      obtain ⟨h2, v1, v2⟩ := ih (p + 1) m _ h1 (by omega) (by omega) (q_st2 S w3)
      refine ⟨h2, ?_, ?_⟩
      · rw [q, if_neg (show ¬ bI_ true = 0 by decide), show (5 : Int32) = nI 5 from rfl, pk_mul, show (4 : Int32) = nI 4 from rfl, nI_add, gd_n (by omega) (by decide), nI_clamp (by omega), sI_ne (by decide), S.1.2.2.2.2.2 p hp 4 (by decide), m3, nI_add, nI_1, w1]
        exact v1
      · rw [if_pos q, if_pos q]
        have z := q_cmb w3 v2
        rw [Nat.add_assoc a, Nat.add_max_add_left] at z
        rw [Nat.add_assoc]
        have pe : (if a + q_lb (q_f (G i) X) (fun p => d_P D p 4 + q_bp D G d (i + 1) (X + 2 ^ p)) (q_bp D G d (i + 1) X) e (p + 1) ≤ a + (d_P D p 4 + q_bp D G d (i + 1) (X + 2 ^ p)) then (fun j => if j = i then nI p else q_cv (q_gp D G d (i + 1) (X + 2 ^ p) j)) else q_pl D G d i X (q_ch (q_f (G i) X) (fun p => d_P D p 4 + q_bp D G d (i + 1) (X + 2 ^ p)) (q_bp D G d (i + 1) X) e (p + 1))) = q_pl D G d i X (if q_f (G i) X p = true ∧ q_lb (q_f (G i) X) (fun p => d_P D p 4 + q_bp D G d (i + 1) (X + 2 ^ p)) (q_bp D G d (i + 1) X) e (p + 1) ≤ d_P D p 4 + q_bp D G d (i + 1) (X + 2 ^ p) then p else q_ch (q_f (G i) X) (fun p => d_P D p 4 + q_bp D G d (i + 1) (X + 2 ^ p)) (q_bp D G d (i + 1) X) e (p + 1)) := by
          by_cases y : q_lb (q_f (G i) X) (fun p => d_P D p 4 + q_bp D G d (i + 1) (X + 2 ^ p)) (q_bp D G d (i + 1) X) e (p + 1) ≤ d_P D p 4 + q_bp D G d (i + 1) (X + 2 ^ p)
          · rw [if_pos (by omega), if_pos ⟨q, y⟩]
            refine funext fun j => ?_
            unfold q_pl q_cv q_nx
            rw [if_neg (show ¬ p = 9 by omega), if_neg (show ¬ p = 9 by omega)]
          · rw [if_neg (by omega), if_neg (fun u => y u.2)]
        rw [pe] at z
        exact z
    · have q' := Bool.eq_false_iff.mpr q
      obtain ⟨h2, v1, v2⟩ := ih (p + 1) m B h (by omega) hB S
      rw [q', if_pos (show bI_ false = 0 from rfl), if_neg (by decide), if_neg (by decide), if_neg (fun y => by cases y.1)]
      exact ⟨h2, v1, v2⟩
theorem q_pO {D : od_} {G : Nat → Nat} (K : oK_ D) (hG : ∀ i, i < d_m D → G i < 16) : ∀ (d k i X a B : Nat) (h : hh_), i + d = d_m D → X < 2 ^ d_p D → a + 9 * d ≤ 1000 → B ≤ 3000 → q_st D G B h → ∃ h', ff_X8_planOn (k + d + 1) (nI i) (nI (2 ^ d_p D - 1 - X)) (nI a) h = some h' ∧ q_rs (d_m D) i B (a + q_bp D G d i X) (q_wn D G d i X) (fun j => q_cv (q_gp D G d i X j)) h h' := by
  have m5 := K.1
  have p4 := K.2.2.1
  intro d
  induction d with
  | zero =>
    intro k i X a B h e hX ha hB S
    have e : i = d_m D := by omega
    subst e
    obtain ⟨q, hq⟩ := fu_ (d_m D) (by omega)
    rw [ff_X8_planOn, S.1.1, if_pos rfl, show (hh_sL h 98 28 (h.2.1 98 28 + 1)).1 98 27 = h.1 98 27 from rfl, S.2.2, q_bp, q_wn]
    by_cases z : a < B
    · rw [if_pos ((q_bsl (by omega) (by omega)).mpr z)]
      refine ⟨_, rfl, rfl, fun _ _ _ _ _ => rfl, fun _ _ => rfl, fun c j q => ?_, sL_eq, ?_, fun j hj => ?_⟩
      · by_cases y : c = 98
        · subst y
          exact sL_nj (by omega)
        · exact sL_ne y
      · exact S.2.2.trans (congrArg q_bs (by omega))
      · rw [if_neg (by omega)]
        rfl
    · rw [if_neg (fun y => z ((q_bsl (by omega) (by omega)).mp y)), hq, show (0 : Int32) = nI 0 from rfl, q_34 (N := d_m D) (g := fun j => h.1 112 j) m5 (d_m D) 0 q _ (by omega) (by rw [sI_nj (by decide)]; exact S.1.1) (fun j hj => by rw [sI_ne (by decide)]; rfl)]
      refine ⟨_, rfl, rfl, fun c j h1 h2 h3 => ?_, fun j hj => ?_, fun c j q => ?_, sL_eq, ?_, fun j hj => ?_⟩
      · rw [fg_ne h2]
        by_cases y : c = 98
        · subst y
          rw [sI_nj (by omega)]
          rfl
        · rw [sI_ne y]
          rfl
      · rw [fg_ne (by decide), sI_ne (by decide)]
        rfl
      · show (hh_sL h 98 28 (h.2.1 98 28 + 1)).2.1 c j = _
        by_cases y : c = 98
        · subst y
          exact sL_nj (by omega)
        · exact sL_ne y
      · rw [fg_ne (by decide), sI_eq, show max B (a + 0 + 1) = a + 1 by omega, q_bsS]
      · rw [if_pos (by omega), if_pos hj, fg_in0 (Nat.zero_le _) hj]
  | succ d ih =>
    intro k i X a B h e hX ha hB S
    have hi : i < d_m D := by omega
    obtain ⟨q, hq⟩ := fu_ (d_p D) (by omega)
    obtain ⟨h', w1, w2⟩ := q_67 (rc := ff_X8_planOn (k + d + 1)) (d := d) K hG hi hX ha (fun X a B h h1 h2 h3 h4 => ih k (i + 1) X a B h (by omega) h1 h2 h3 h4) (d_p D) 0 q B h (by omega) hB S
    refine ⟨h', ?_, ?_⟩
    · rw [show k + (d + 1) + 1 = (k + d + 1) + 1 by omega, ff_X8_planOn, S.1.1, if_neg (fun y => absurd ((nI_eq (by omega) (by omega)).mp y) (by omega)), hq]
      exact w1
    · rw [q_bp, q_wn, Nat.add_comm (q_wn D G d (i + 1) X)]
      have pe : (fun j => q_cv (q_gp D G (d + 1) i X j)) = q_pl D G d i X (q_cc D G d i X) := by
        refine funext fun j => ?_
        rw [q_gp, q_pl]
        by_cases y : j = i
        · rw [if_pos y, if_pos y]
        · rw [if_neg y, if_neg y]
      rw [pe]
      exact w2
