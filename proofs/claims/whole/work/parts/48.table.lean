/-! ===== plans: HEADS one by one, POSTS taken as a mask ===== -/
def q_f (A X p : Nat) : Bool := A.testBit p && !X.testBit p
/-- the best pay of one HEAD: v what a POST gives with the rest, s what leaving it gives -/
def q_lb (f : Nat → Bool) (v : Nat → Nat) (s : Nat) : Nat → Nat → Nat
  | 0, _ => s
  | e + 1, p => if f p = true then max (v p) (q_lb f v s e (p + 1)) else q_lb f v s e (p + 1)
def q_sw (f : Nat → Bool) (w : Nat → Nat) : Nat → Nat → Nat
  | 0, _ => 0
  | e + 1, p => if f p = true then w p + q_sw f w e (p + 1) else q_sw f w e (p + 1)
/-- the first best POST of one HEAD, 9 for none -/
def q_ch (f : Nat → Bool) (v : Nat → Nat) (s : Nat) : Nat → Nat → Nat
  | 0, _ => 9
  | e + 1, p => if f p = true ∧ q_lb f v s e (p + 1) ≤ v p then p else q_ch f v s e (p + 1)
def q_bp (D : od_) (G : Nat → Nat) : Nat → Nat → Nat → Nat
  | 0, _, _ => 0
  | d + 1, i, X => q_lb (q_f (G i) X) (fun p => d_P D p 4 + q_bp D G d (i + 1) (X + 2 ^ p)) (q_bp D G d (i + 1) X) (d_p D) 0
def q_wn (D : od_) (G : Nat → Nat) : Nat → Nat → Nat → Nat
  | 0, _, _ => 1
  | d + 1, i, X => q_wn D G d (i + 1) X + q_sw (q_f (G i) X) (fun p => q_wn D G d (i + 1) (X + 2 ^ p)) (d_p D) 0
def q_cv (c : Nat) : Int32 := if c = 9 then -9 else nI c
def q_nx (c X : Nat) : Nat := if c = 9 then X else X + 2 ^ c
def q_cc (D : od_) (G : Nat → Nat) (d i X : Nat) : Nat := q_ch (q_f (G i) X) (fun p => d_P D p 4 + q_bp D G d (i + 1) (X + 2 ^ p)) (q_bp D G d (i + 1) X) (d_p D) 0
def q_gp (D : od_) (G : Nat → Nat) : Nat → Nat → Nat → Nat → Nat
  | 0, _, _, _ => 9
  | d + 1, i, X, j => if j = i then q_cc D G d i X else q_gp D G d (i + 1) (q_nx (q_cc D G d i X) X) j
theorem q_ge {f : Nat → Bool} {v : Nat → Nat} {s : Nat} : ∀ (e p : Nat), s ≤ q_lb f v s e p := by
  intro e
  induction e with
  | zero => intro p; exact Nat.le_refl _
  | succ e ih =>
    intro p
    rw [q_lb]
    have := ih (p + 1)
    split <;> omega
theorem q_lbb {f : Nat → Bool} {v : Nat → Nat} {s B : Nat} (hs : s ≤ B) : ∀ (e p : Nat), (∀ k, p ≤ k → k < p + e → v k ≤ B) → q_lb f v s e p ≤ B := by
  intro e
  induction e with
  | zero => intro p _; exact hs
  | succ e ih =>
    intro p hv
    rw [q_lb]
    have := ih (p + 1) (fun k h1 h2 => hv k (by omega) (by omega))
    have := hv p (by omega) (by omega)
    split <;> omega
theorem q_swb {f : Nat → Bool} {w : Nat → Nat} {B : Nat} (hw : ∀ k, w k ≤ B) : ∀ (e p : Nat), q_sw f w e p ≤ e * B := by
  intro e
  induction e with
  | zero => intro p; exact Nat.zero_le _
  | succ e ih =>
    intro p
    rw [q_sw, Nat.succ_mul]
    have := ih (p + 1)
    have := hw p
    split <;> omega
theorem q_bpb {D : od_} {G : Nat → Nat} (K : oK_ D) : ∀ (d i X : Nat), q_bp D G d i X ≤ 9 * d := by
  intro d
  induction d with
  | zero => intro i X; exact Nat.le_refl _
  | succ d ih =>
    intro i X
    rw [q_bp]
    refine q_lbb (by have := ih (i + 1) X; omega) _ _ (fun k h1 h2 => ?_)
    have := (K.2.2.2.2.2.2 k (by omega)).2.2
    have := ih (i + 1) (X + 2 ^ k)
    omega
theorem q_wnb {D : od_} {G : Nat → Nat} (K : oK_ D) : ∀ (d i X : Nat), q_wn D G d i X ≤ 5 ^ d := by
  intro d
  induction d with
  | zero => intro i X; exact Nat.le_refl _
  | succ d ih =>
    intro i X
    rw [q_wn, Nat.pow_succ]
    have h1 := ih (i + 1) X
    have h2 := q_swb (f := q_f (G i) X) (w := fun p => q_wn D G d (i + 1) (X + 2 ^ p)) (B := 5 ^ d) (fun k => ih (i + 1) (X + 2 ^ k)) (d_p D) 0
    have h3 : d_p D * 5 ^ d ≤ 4 * 5 ^ d := Nat.mul_le_mul_right _ K.2.2.1
    omega
theorem q_wnB {D : od_} {G : Nat → Nat} (K : oK_ D) {d i X : Nat} (hd : d ≤ 5) : q_wn D G d i X ≤ 3125 := by
  have h1 := q_wnb K (G := G) d i X
  have h2 : 5 ^ d ≤ 5 ^ 5 := Nat.pow_le_pow_right (by decide) hd
  omega
/-! masks -/
theorem q_m1 : ∀ A, A < 16 → ∀ X, X < 16 → ∀ p, p < 4 → (((nI A &&& (nI X ^^^ (-1 : Int32))) &&& ((1 : Int32) <<< (nI p &&& 31))) = 0 ↔ q_f A X p = false) := by decide +kernel
theorem q_m2 : ∀ n, n < 5 → ∀ X, X < 2 ^ n → ∀ p, p < n → ∀ A, A < 16 → ff_X8_has (nI A &&& nI (2 ^ n - 1 - X)) (nI p) = bI_ (q_f A X p) := by decide +kernel
theorem q_m3 : ∀ n, n < 5 → ∀ X, X < 2 ^ n → ∀ p, p < n → X.testBit p = false → nI X ||| ((1 : Int32) <<< (nI p &&& 31)) = nI (X + 2 ^ p) ∧ X + 2 ^ p < 2 ^ n ∧ nI (2 ^ n - 1 - X) &&& (((1 : Int32) <<< (nI p &&& 31)) ^^^ (-1 : Int32)) = nI (2 ^ n - 1 - (X + 2 ^ p)) := by decide +kernel
theorem q_m4 : ∀ n, n < 5 → (1 : Int32) <<< (nI n &&& 31) = nI (2 ^ n) ∧ ((1 : Int32) <<< (nI n &&& 31)) - 1 = nI (2 ^ n - 1 - 0) ∧ 2 ^ n ≤ 16 ∧ 0 < 2 ^ n := by decide +kernel
theorem q_fX {A X p : Nat} (h : q_f A X p = true) : X.testBit p = false := by
  unfold q_f at h
  cases e : X.testBit p with
  | false => rfl
  | true => rw [e, Bool.not_true, Bool.and_false] at h; cases h
theorem q_mk4 (b0 b1 b2 b3 : Bool) : ∀ m, m < 5 → ∃ k, k < 16 ∧ msk_ (b5_ b0 b1 b2 b3 false) m 0 0 = nI k := by
  cases b0 <;> cases b1 <;> cases b2 <;> cases b3 <;> decide +kernel
theorem q_mk {p : Nat → Bool} {m : Nat} (hm : m ≤ 4) : ∃ k, k < 16 ∧ msk_ p m 0 0 = nI k := by
  rw [msk_c (p := p) (q := b5_ (p 0) (p 1) (p 2) (p 3) false) m 0 0 (fun k _ h => b4_p (by omega))]
  exact q_mk4 _ _ _ _ m (by omega)
/-! the class's table -/
def q_set (h : hh_) (i X A W : Nat) : hh_ := hh_sI (hh_sI h (23 + i) X (nI A)) (30 + i) X (nI W)
theorem q_set2 {h : hh_} {i X A W A' W' : Nat} : q_set (q_set h i X A W) i X A' W' = q_set h i X A' W' := by
  unfold q_set
  rw [sI_comm (a := 30 + i) (b := 23 + i) (by omega), sI_sI, sI_sI]
theorem q_set0 {h : hh_} {i X A W : Nat} (e1 : h.1 (23 + i) X = nI A) (e2 : h.1 (30 + i) X = nI W) : q_set h i X A W = h := by
  unfold q_set
  rw [sI_self e1, sI_self e2]
theorem q_set1 {h : hh_} {i X A W : Nat} : (q_set h i X A W).1 (23 + i) X = nI A ∧ (q_set h i X A W).1 (30 + i) X = nI W := by
  unfold q_set
  exact ⟨by rw [sI_ne (by omega), sI_eq], sI_eq⟩
theorem q_setn {h : hh_} {i X A W c j : Nat} (e : (c ≠ 23 + i ∧ c ≠ 30 + i) ∨ j ≠ X) : (q_set h i X A W).1 c j = h.1 c j := by
  unfold q_set
  rcases e with e | e
  · rw [sI_ne e.2, sI_ne e.1]
  · rw [sI_nj e, sI_nj e]
theorem q_iF {i p X A : Nat} {h : hh_} (hi : i < 5) (hp : p < 4) (hX : X < 16) (hA : A < 16) (e : h.1 21 i = nI A) : ff_X3_isFree (nI i) (nI p) (nI X) h = some (bI_ (q_f A X p)) := by
  unfold ff_X3_isFree
  rw [gd_n hi (by decide), nI_clamp (by omega), e]
  have w := q_m1 A hA X hX p hp
  cases q : q_f A X p with
  | false => rw [if_pos (w.mpr q)]; rfl
  | true => rw [if_neg (fun z => by rw [w.mp z] at q; cases q)]; rfl
theorem q_pB {o i p X V : Nat} {h : hh_} {D : od_} (K : oK_ D) (C : oC_ o h D) (hi : i < 5) (hp : p < d_p D) (hX : X < 2 ^ d_p D) (hf : X.testBit p = false) (e : h.1 (24 + i) (X + 2 ^ p) = nI V) : ff_X3_payBy o (nI i) (nI p) (nI X) h = some (nI (d_P D p 4 + V)) := by
  have p4 := K.2.2.1
  obtain ⟨m1, m2, -⟩ := q_m3 (d_p D) (by omega) X hX p hp hf
  have m4 := (q_m4 (d_p D) (by omega)).2.2.1
  unfold ff_X3_payBy
  rw [gd_n (by omega) (by decide), nI_1, gd_n (by omega) (by decide), m1, gd_n (by omega) (by decide), nI_clamp (by omega), nI_clamp (by omega), nI_clamp (by omega), show Int32.toNatClampNeg 4 = 4 from rfl, C.2.2.2.2.2 p hp 4 (by decide), show 23 + (i + 1) = 24 + i by omega, e, nI_add]
theorem q_39 {o i X A0 s : Nat} {D : od_} {v w : Nat → Nat} (ho : o = 39 ∨ o = 64) (K : oK_ D) (hi : i < d_m D) (hX : X < 2 ^ d_p D) (hG : A0 < 16) (hv : ∀ p, p < d_p D → v p ≤ 1000) : ∀ (e p m : Nat) (h : hh_) (A W : Nat), p + e = d_p D → oC_ o h D → h.1 21 i = nI A0 → (∀ p, p < d_p D → q_f A0 X p = true → h.1 (24 + i) (X + 2 ^ p) = nI (v p) ∧ h.1 (31 + i) (X + 2 ^ p) = nI (w p)) → h.1 (23 + i) X = nI A → h.1 (30 + i) X = nI W → A ≤ 2000 → s ≤ A → ff_X3_reckonFrom_39 o (nI i) (nI X) (m + e + 1) (nI p) h = some (q_set h i X (max A (q_lb (q_f A0 X) (fun p => d_P D p 4 + v p) s e p)) (W + q_sw (q_f A0 X) w e p)) := by
  have m5 := K.1
  have p4 := K.2.2.1
  have m4 := (q_m4 (d_p D) (by omega)).2.2.1
  intro e
  induction e with
  | zero =>
    intro p m h A W e C e1 e2 e3 e4 hA hs
    rw [ff_X3_reckonFrom_39, show Int32.toNatClampNeg 2 = 2 from rfl, C.2.2.1, if_pos (nI_le (by omega) (by omega)), q_set0]
    · rw [e3, q_lb, show max A s = A by omega]
    · exact e4
  | succ e ih =>
    intro p m h A W ee C e1 e2 e3 e4 hA hs
    have hp : p < d_p D := by omega
    rw [show m + (e + 1) + 1 = (m + e + 1) + 1 by omega, ff_X3_reckonFrom_39, show Int32.toNatClampNeg 2 = 2 from rfl, C.2.2.1, if_neg (nI_ge (by omega) (by omega)), q_iF (by omega) (by omega) (by omega) hG e1, Option.bind_some, nI_1, q_lb, q_sw]
    by_cases q : q_f A0 X p = true
    · have hb := q_fX q
      obtain ⟨m1, m2, -⟩ := q_m3 (d_p D) (by omega) X hX p hp hb
      have pb := (K.2.2.2.2.2.2 p hp).2.2
      have vb := hv p hp
      rw [q, if_neg (show ¬ bI_ true = 0 by decide), if_pos rfl, if_pos rfl, gd_n (by omega) (by decide), gd_n (by omega) (by decide), q_pB K C (by omega) hp hX hb (e2 p hp q).1, Option.bind_some, nI_1, gd_n (by omega) (by decide), m1, gd_n (by omega) (by decide), nI_clamp (by omega), nI_clamp (by omega), nI_clamp (by omega), nI_clamp (by omega), sI_ne (show 30 + i ≠ 23 + i by omega), sI_ne (show 30 + (i + 1) ≠ 23 + i by omega), e3, e4, show 30 + (i + 1) = 31 + i by omega, (e2 p hp q).2, nI_add]
      have mx : (if nI A < nI (d_P D p 4 + v p) then nI (d_P D p 4 + v p) else nI A) = nI (max A (d_P D p 4 + v p)) := by
        by_cases z : A < d_P D p 4 + v p
        · rw [if_pos (nI_lt z (by omega)), show max A (d_P D p 4 + v p) = d_P D p 4 + v p by omega]
        · rw [if_neg (by rw [nI_ltI (by omega) (by omega)]; exact z), show max A (d_P D p 4 + v p) = A by omega]
      rw [mx]
      have w1 := ih (p + 1) m (q_set h i X (max A (d_P D p 4 + v p)) (W + w p)) (max A (d_P D p 4 + v p)) (W + w p) (by omega) (C.fr K (fun c j u => q_setn (by omega))) (by rw [q_setn (by omega)]; exact e1) (fun p hp q => by rw [q_setn (by omega), q_setn (by omega)]; exact e2 p hp q) q_set1.1 q_set1.2 (by omega) (by omega)
      unfold q_set at w1 ⊢
      rw [w1]
      have w2 := q_set2 (h := h) (i := i) (X := X) (A := max A (d_P D p 4 + v p)) (W := W + w p) (A' := max (max A (d_P D p 4 + v p)) (q_lb (q_f A0 X) (fun p => d_P D p 4 + v p) s e (p + 1))) (W' := W + w p + q_sw (q_f A0 X) w e (p + 1))
      unfold q_set at w2
      rw [w2, Nat.max_assoc, Nat.add_assoc]
    · have q' := Bool.eq_false_iff.mpr q
      rw [q', if_pos (show bI_ false = 0 from rfl), if_neg (by decide), if_neg (by decide)]
      exact ih (p + 1) m h A W (by omega) C e1 e2 e3 e4 hA hs
/-- a place of the table is right -/
def q_ok (D : od_) (G : Nat → Nat) (h : hh_) (i X : Nat) : Prop := h.1 (23 + i) X = nI (q_bp D G (d_m D - i) i X) ∧ h.1 (30 + i) X = nI (q_wn D G (d_m D - i) i X)
theorem q_from {o i X : Nat} {D : od_} {G : Nat → Nat} {h : hh_} (ho : o = 39 ∨ o = 64) (K : oK_ D) (hi : i < d_m D) (hX : X < 2 ^ d_p D) (hG : G i < 16) (C : oC_ o h D) (e1 : h.1 21 i = nI (G i)) (T : ∀ Y, Y < 2 ^ d_p D → q_ok D G h (i + 1) Y) : ff_X3_reckonFrom o (nI i) (nI X) h = some (q_set h i X (q_bp D G (d_m D - i) i X) (q_wn D G (d_m D - i) i X)) := by
  have m5 := K.1
  have p4 := K.2.2.1
  have m4 := (q_m4 (d_p D) (by omega)).2.2.1
  obtain ⟨k, hk⟩ := fu_ (d_p D) (by omega)
  have T0 := T X hX
  unfold q_ok at T0
  unfold ff_X3_reckonFrom
  rw [gd_n (by omega) (by decide), nI_1, gd_n (by omega) (by decide), gd_n (by omega) (by decide), nI_clamp (by omega), nI_clamp (by omega), nI_clamp (by omega), T0.1, sI_ne (show 30 + (i + 1) ≠ 23 + i by omega), T0.2, hk]
  have b1 := q_bpb K (G := G) (d_m D - (i + 1)) (i + 1) X
  have w := q_39 (s := q_bp D G (d_m D - (i + 1)) (i + 1) X) (v := fun p => q_bp D G (d_m D - (i + 1)) (i + 1) (X + 2 ^ p)) (w := fun p => q_wn D G (d_m D - (i + 1)) (i + 1) (X + 2 ^ p)) ho K hi hX hG (fun p hp => by have := q_bpb K (G := G) (d_m D - (i + 1)) (i + 1) (X + 2 ^ p); omega) (d_p D) 0 k (q_set h i X (q_bp D G (d_m D - (i + 1)) (i + 1) X) (q_wn D G (d_m D - (i + 1)) (i + 1) X)) (q_bp D G (d_m D - (i + 1)) (i + 1) X) (q_wn D G (d_m D - (i + 1)) (i + 1) X) (by omega) (C.fr K (fun c j u => q_setn (by omega))) (by rw [q_setn (by omega)]; exact e1) (fun p hp q => by
    rw [q_setn (by omega), q_setn (by omega)]
    obtain ⟨-, m2, -⟩ := q_m3 (d_p D) (by omega) X hX p hp (q_fX q)
    have t := T _ m2
    unfold q_ok at t
    rw [show 24 + i = 23 + (i + 1) by omega, show 31 + i = 30 + (i + 1) by omega]
    exact t) q_set1.1 q_set1.2 (by omega) (Nat.le_refl _)
  refine w.trans ?_
  rw [q_set2, show d_m D - i = (d_m D - (i + 1)) + 1 by omega, q_bp, q_wn, Nat.max_eq_right (q_ge _ _)]
/-- what reckoning leaves -/
def q_sk (h h' : hh_) : Prop := h'.2 = h.2 ∧ ∀ c j, (c < 23 ∨ 35 < c) → h'.1 c j = h.1 c j
theorem q_64 {o i : Nat} {D : od_} {G : Nat → Nat} {KK : hh_ → Option hh_} (ho : o = 39 ∨ o = 64) (K : oK_ D) (hi : i < d_m D) (hG : ∀ i, i < d_m D → G i < 16) : ∀ (e X m : Nat) (h : hh_), X + e = 2 ^ d_p D → oC_ o h D → (∀ i, i < d_m D → h.1 21 i = nI (G i)) → (∀ i', i < i' → i' ≤ d_m D → ∀ Y, Y < 2 ^ d_p D → q_ok D G h i' Y) → (∀ Y, Y < X → q_ok D G h i Y) → ∃ h', ff_X3_reckon_64 o (nI (2 ^ d_p D)) (nI i) KK (m + e + 1) (nI X) h = KK h' ∧ q_sk h h' ∧ ∀ i', i ≤ i' → i' ≤ d_m D → ∀ Y, Y < 2 ^ d_p D → q_ok D G h' i' Y := by
  have m5 := K.1
  have p4 := K.2.2.1
  have m4 := (q_m4 (d_p D) (by omega)).2.2.1
  intro e
  induction e with
  | zero =>
    intro X m h e C e1 T T0
    refine ⟨h, ?_, ⟨rfl, fun _ _ _ => rfl⟩, fun i' h1 h2 Y hY => ?_⟩
    · rw [ff_X3_reckon_64, if_pos (nI_le (by omega) (by omega))]
    · by_cases q : i' = i
      · subst q
        exact T0 Y (by omega)
      · exact T i' (by omega) h2 Y hY
  | succ e ih =>
    intro X m h ee C e1 T T0
    have st : ∀ i' Y, (i' ≠ i ∨ Y ≠ X) → i' ≤ 5 → q_ok D G h i' Y → q_ok D G (q_set h i X (q_bp D G (d_m D - i) i X) (q_wn D G (d_m D - i) i X)) i' Y := by
      intro i' Y hn h5 t
      unfold q_ok at t ⊢
      rw [q_setn (by omega), q_setn (by omega)]
      exact t
    obtain ⟨h', w1, w2, w3⟩ := ih (X + 1) m (q_set h i X (q_bp D G (d_m D - i) i X) (q_wn D G (d_m D - i) i X)) (by omega) (C.fr K (fun c j u => q_setn (by omega))) (fun i hi => by rw [q_setn (by omega)]; exact e1 i hi) (fun i' h1 h2 Y hY => st i' Y (Or.inl (by omega)) (by omega) (T i' h1 h2 Y hY)) (fun Y hY => by
      by_cases q : Y = X
      · subst q
        exact q_set1
      · exact st i Y (Or.inr q) (by omega) (T0 Y (by omega)))
    refine ⟨h', ?_, ⟨w2.1, fun c j q => by rw [w2.2 c j q, q_setn (by omega)]⟩, w3⟩
    rw [show m + (e + 1) + 1 = (m + e + 1) + 1 by omega, ff_X3_reckon_64, if_neg (nI_ge (by omega) (by omega)), q_from ho K hi (by omega) (hG i hi) C (e1 i hi) (fun Y hY => T (i + 1) (by omega) (by omega) Y hY), Option.bind_some, nI_1, w1]
theorem q_56 {o : Nat} {D : od_} {G : Nat → Nat} (ho : o = 39 ∨ o = 64) (K : oK_ D) (hG : ∀ i, i < d_m D → G i < 16) : ∀ (i m : Nat) (h : hh_), i ≤ d_m D → oC_ o h D → (∀ i, i < d_m D → h.1 21 i = nI (G i)) → (∀ i', i ≤ i' → i' ≤ d_m D → ∀ Y, Y < 2 ^ d_p D → q_ok D G h i' Y) → ∃ h', ff_X3_reckon_56 o (nI (2 ^ d_p D)) (m + i + 1) (nI i - 1) h = some h' ∧ q_sk h h' ∧ ∀ i', i' ≤ d_m D → ∀ Y, Y < 2 ^ d_p D → q_ok D G h' i' Y := by
  have m5 := K.1
  have p4 := K.2.2.1
  have m4 := (q_m4 (d_p D) (by omega)).2.2.1
  obtain ⟨k, hk⟩ := fu_ (2 ^ d_p D) (by omega)
  intro i
  induction i with
  | zero =>
    intro m h hi C e1 T
    refine ⟨h, ?_, ⟨rfl, fun _ _ _ => rfl⟩, fun i' h2 => T i' (by omega) h2⟩
    rw [ff_X3_reckon_56, if_pos (by decide)]
  | succ i ih =>
    intro m h hi C e1 T
    obtain ⟨h1, w1, w2, w3⟩ := q_64 (KK := fun k6 => ff_X3_reckon_56 o (nI (2 ^ d_p D)) (m + i + 1) (nI i + (-1 : Int32)) k6) ho K (show i < d_m D by omega) hG (2 ^ d_p D) 0 k h (by omega) C e1 (fun i' h1 h2 => T i' (by omega) h2) (fun Y hY => absurd hY (by omega))
    obtain ⟨h2, v1, v2, v3⟩ := ih m h1 (by omega) (C.fr K (fun c j u => w2.2 c j (by omega))) (fun i hi => by rw [w2.2 _ _ (by omega)]; exact e1 i hi) w3
    refine ⟨h2, ?_, ⟨v2.1.trans w2.1, fun c j q => (v2.2 c j q).trans (w2.2 c j q)⟩, v3⟩
    rw [show m + (i + 1) + 1 = (m + i + 1) + 1 by omega, ff_X3_reckon_56, show nI (i + 1) - 1 = nI i from pk_sub (a := i + 1) (b := 1) (by omega), if_neg (nI_pos (by omega)), hk]
    refine w1.trans ?_
    rw [← Int32.sub_eq_add_neg]
    exact v1
theorem q_19 {o : Nat} {D : od_} {G : Nat → Nat} {KK : hh_ → Option hh_} (K : oK_ D) : ∀ (e X m : Nat) (h : hh_), X + e = 2 ^ d_p D → (∀ Y, Y < X → q_ok D G h (d_m D) Y) → ∃ h', ff_X3_reckon_19 o (nI (d_m D)) (nI (2 ^ d_p D)) KK (m + e + 1) (nI X) h = KK h' ∧ q_sk h h' ∧ ∀ Y, Y < 2 ^ d_p D → q_ok D G h' (d_m D) Y := by
  have m5 := K.1
  have p4 := K.2.2.1
  have m4 := (q_m4 (d_p D) (by omega)).2.2.1
  intro e
  induction e with
  | zero =>
    intro X m h e T
    refine ⟨h, ?_, ⟨rfl, fun _ _ _ => rfl⟩, fun Y hY => T Y (by omega)⟩
    rw [ff_X3_reckon_19, if_pos (nI_le (by omega) (by omega))]
  | succ e ih =>
    intro X m h ee T
    obtain ⟨h', w1, w2, w3⟩ := ih (X + 1) m (q_set h (d_m D) X 0 1) (by omega) (fun Y hY => by
      by_cases q : Y = X
      · subst q
        unfold q_ok
        rw [Nat.sub_self]
        exact q_set1
      · have t := T Y (by omega)
        unfold q_ok at t ⊢
        rw [q_setn (Or.inr q), q_setn (Or.inr q)]
        exact t)
    refine ⟨h', ?_, ⟨w2.1, fun c j q => by rw [w2.2 c j q, q_setn (by omega)]⟩, w3⟩
    rw [show m + (e + 1) + 1 = (m + e + 1) + 1 by omega, ff_X3_reckon_19, if_neg (nI_ge (by omega) (by omega)), gd_n (by omega) (by decide), gd_n (by omega) (by decide), nI_clamp (by omega), nI_clamp (by omega), nI_1]
    exact w1
theorem q_reckon {o : Nat} {D : od_} {G : Nat → Nat} {h : hh_} (ho : o = 39 ∨ o = 64) (K : oK_ D) (hG : ∀ i, i < d_m D → G i < 16) (C : oC_ o h D) (e1 : ∀ i, i < d_m D → h.1 21 i = nI (G i)) : ∃ h', ff_X3_reckon o h = some h' ∧ q_sk h h' ∧ ∀ i, i ≤ d_m D → ∀ Y, Y < 2 ^ d_p D → q_ok D G h' i Y := by
  have m5 := K.1
  have p4 := K.2.2.1
  have m4 := q_m4 (d_p D) (by omega)
  obtain ⟨k1, hk1⟩ := fu_ (2 ^ d_p D) (by omega)
  obtain ⟨k2, hk2⟩ := fu_ (d_m D) (by omega)
  obtain ⟨h1, w1, w2, w3⟩ := q_19 (o := o) (G := G) (KK := fun k3 => ff_X3_reckon_56 o (nI (2 ^ d_p D)) FU_ (nI (d_m D) - 1) k3) K (2 ^ d_p D) 0 k1 h (by omega) (fun Y hY => absurd hY (by omega))
  obtain ⟨h2, v1, v2, v3⟩ := q_56 ho K hG (d_m D) k2 h1 (Nat.le_refl _) (C.fr K (fun c j u => w2.2 c j (by omega))) (fun i hi => by rw [w2.2 _ _ (by omega)]; exact e1 i hi) (fun i' h1 h2 Y hY => by rw [show i' = d_m D by omega]; exact w3 Y hY)
  refine ⟨h2, ?_, ⟨v2.1.trans w2.1, fun c j q => (v2.2 c j q).trans (w2.2 c j q)⟩, v3⟩
  unfold ff_X3_reckon
  rw [show Int32.toNatClampNeg 0 = 0 from rfl, show Int32.toNatClampNeg 2 = 2 from rfl, C.1, C.2.2.1, m4.1]
  rw [← hk1] at w1
  rw [← hk2] at v1
  exact w1.trans v1
