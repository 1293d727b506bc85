/-! ===== lots ===== -/
theorem r1_ (a : Int32) (lo hi : Nat) (hl : lo ≤ hi) (hh : hi < 2 ^ 31 - 1) : (∃ j, lo ≤ j ∧ j ≤ hi ∧ a = nI j ∧ ¬ a < nI lo ∧ ¬ nI hi < a ∧ ff_X8_in a (nI lo) (nI hi) = 1) ∨ ((a < nI lo ∨ (¬ a < nI lo ∧ nI hi < a)) ∧ ff_X8_in a (nI lo) (nI hi) = 0) := by
  by_cases q1 : a < nI lo
  · exact Or.inr ⟨Or.inl q1, in_f (Or.inl q1)⟩
  · by_cases q2 : nI hi < a
    · exact Or.inr ⟨Or.inr ⟨q1, q2⟩, in_f (Or.inr q2)⟩
    · rcases pk_ix a (n := hi + 1) (by omega) with h | h | ⟨j, hj, rfl⟩
      · exfalso
        apply q1
        rw [Int32.lt_iff_toInt_lt] at h ⊢
        rw [nI_toInt (by omega)]
        rw [ti_0] at h
        omega
      · exfalso
        apply q2
        rw [Int32.le_iff_toInt_le, nI_toInt (by omega)] at h
        rw [Int32.lt_iff_toInt_lt, nI_toInt (by omega)]
        omega
      · have h1 : lo ≤ j := Nat.le_of_not_lt (fun y => q1 (nI_lt y (by omega)))
        exact Or.inl ⟨j, h1, by omega, rfl, q1, q2, in_t h1 (by omega) (by omega)⟩
def nx_ (w : Nat) : Nat := 48271 * w % 2147483647
def it_ (w : Nat) : Nat → Nat
  | 0 => w
  | j + 1 => nx_ (it_ w j)
theorem nx_b {w : Nat} : nx_ w < 2147483647 := Nat.mod_lt _ (by decide)
theorem it_b {w : Nat} (hw : w < 2147483647) : ∀ j, it_ w j < 2147483647
  | 0 => hw
  | _ + 1 => nx_b
theorem nx_L {w : Nat} (hw : w < 2147483647) : ((48271 : Int64) * lN w) - ((48271 : Int64) * lN w) / (2147483647 : Int64) * (2147483647 : Int64) = lN (nx_ w) := by
  rw [show (48271 : Int64) = lN 48271 from rfl, lN_mul, show (2147483647 : Int64) = lN 2147483647 from rfl, pk_lRem (by omega) (by decide) (by decide)]
  rfl
theorem rm_L {w m : Nat} (hw : w < 2147483647) (h0 : 0 < m) (hm : m < 2 ^ 31) : Int64.toInt32 (lN w - lN w / (Int32.toInt64 (nI m)) * (Int32.toInt64 (nI m))) = nI (w % m) := by
  rw [nI_l hm, pk_lRem (by omega) h0 (by omega), lN_i]
/-- a reading drawn -/
def dr_ (D : od_) (t i w j : Nat) : Nat := lst_ D t i j 0 + it_ w (j + 1) % sd_ D t i j
theorem dr_b {D : od_} (K : oK_ D) {t i w j : Nat} (ht : t < d_t D) (hi : i < d_m D) (hj : j < 4) : dr_ D t i w j ≤ 9 := by
  have l1 := mst_le K (x := 0) ht hi hj
  have l2 : lst_ D t i j 0 ≤ mst_ D t i j 0 := lemx_
  have l3 : it_ w (j + 1) % sd_ D t i j < sd_ D t i j := Nat.mod_lt _ sd_pos
  unfold dr_
  unfold sd_ at l3 ⊢
  omega
theorem lo_92 {D : od_} {t i : Nat} {x2 x4 x5 x8 : Int32} {w : Nat} {KK : Int64 → hh_ → Option (Int32 × hh_)} (K : oK_ D) (ht : t < d_t D) (hi : i < d_m D) (hw : w < 2147483647) : ∀ (d j m : Nat) (h : hh_), j + d = 4 → bo_ h.2.2.1 = true → (h.2.2.1 = 39 ∨ h.2.2.1 = 64) → oC_ h.2.2.1 h D → ff_X7_lots_92 (nI t) x2 x4 x5 x8 (nI i) KK (m + d + 1) (lN (it_ w j)) (nI j) h = KK (lN (it_ w 4)) (fg_ h 38 0 j 4 (fun j => nI (dr_ D t i w j))) := by
  have m5 := K.1
  intro d
  induction d with
  | zero =>
    intro j m h e bo ho C
    have e : j = 4 := by omega
    subst e
    rw [ff_X7_lots_92, if_pos (by decide), fg_0]
  | succ d ih =>
    intro j m h e bo ho C
    have hj : j < 4 := by omega
    have b1 := it_b hw j
    have b2 := it_b hw (j + 1)
    have s0 := sd_pos (D := D) (t := t) (i := i) (j := j)
    have s1 := sd_le K (i := i) (j := j) ht
    rw [show m + (d + 1) + 1 = (m + d + 1) + 1 by omega, ff_X7_lots_92, if_neg (show ¬ (4 : Int32) ≤ nI j from nI_ge (b := 4) hj (by omega))]
    unfold ff_X7_nextLot
    rw [Option.bind_some, gd_t bo, nx_L b1, ls_C0 K C ht hi hj, Option.bind_some, wy_C K C ht hi hj, Option.bind_some, gd_t (show bm_ (Int32.toInt64 (nI (sd_ D t i j))) = true by rw [nI_l (by omega)]; exact bm_n (by omega) (by omega)), gd_n hj (by decide), show lN (nx_ (it_ w j)) = lN (it_ w (j + 1)) from rfl, rm_L b2 s0 (by omega), nI_clamp (by omega), nI_add, nI_1]
    have C' : oC_ h.2.2.1 (hh_sI h 38 j (nI (dr_ D t i w j))) D := C.fr K (fun c x q => sI_ne (by omega))
    refine (ih (j + 1) m (hh_sI h 38 j (nI (dr_ D t i w j))) (by omega) bo ho C').trans ?_
    have v := fg_s (h := h) (k := 38) (b := 0) (a := j) (n := 4) (g := fun j => nI (dr_ D t i w j)) hj
    rw [Nat.zero_add] at v
    rw [v]
theorem lo_72 {D : od_} {t i : Nat} {x2 x6 x7 : Int32} {w : Nat} {KK : Int64 → hh_ → Option (Int32 × hh_)} (K : oK_ D) (ht : t < d_t D) (hi : i < d_m D) (hw : w < 2147483647) : ∀ (d j m : Nat) (h : hh_), j + d = 4 → oM_ h D → ff_X8_lots_72 (nI t) x2 x6 x7 (nI i) KK (m + d + 1) (lN (it_ w j)) (nI j) h = KK (lN (it_ w 4)) (fg_ h 114 0 j 4 (fun j => nI (dr_ D t i w j))) := by
  have m5 := K.1
  intro d
  induction d with
  | zero =>
    intro j m h e M
    have e : j = 4 := by omega
    subst e
    rw [ff_X8_lots_72, if_pos (by decide), fg_0]
  | succ d ih =>
    intro j m h e M
    have hj : j < 4 := by omega
    have b1 := it_b hw j
    have b2 := it_b hw (j + 1)
    have s0 := sd_pos (D := D) (t := t) (i := i) (j := j)
    have s1 := sd_le K (i := i) (j := j) ht
    rw [show m + (d + 1) + 1 = (m + d + 1) + 1 by omega, ff_X8_lots_72, if_neg (show ¬ (4 : Int32) ≤ nI j from nI_ge (b := 4) hj (by omega)), ls_M K M ht hi hj, Option.bind_some, wy_M K M ht hi hj, Option.bind_some, gd_t (show bm_ (Int32.toInt64 (nI (sd_ D t i j))) = true by rw [nI_l (by omega)]; exact bm_n (by omega) (by omega)), gd_n hj (by decide), nx_L b1, show lN (nx_ (it_ w j)) = lN (it_ w (j + 1)) from rfl, rm_L b2 s0 (by omega), nI_clamp (by omega), nI_add, nI_1]
    refine (ih (j + 1) m (hh_sI h 114 j (nI (dr_ D t i w j))) (by omega) (M.fr (fun c x q => sI_ne (by omega)))).trans ?_
    have v := fg_s (h := h) (k := 114) (b := 0) (a := j) (n := 4) (g := fun j => nI (dr_ D t i w j)) hj
    rw [Nat.zero_add] at v
    rw [v]
/-! whose head is drawn -/
theorem bp_38 {j : Nat} (hj : j < 4) : bp_ 38 (nI j) = true := by
  unfold bp_
  rw [show sh_ 38 = (1, 4) from rfl]
  exact bi_t hj (by decide)
theorem cr38 {o t i : Nat} {h : hh_} {D : od_} {R : Nat → Nat} (K : oK_ D) (C : oC_ o h D) (ht : t < d_t D) (hi : i < d_m D) (Q : ∀ j, j < 4 → R j ≤ 9 ∧ h.1 38 j = nI (R j)) : ∀ (d j m : Nat), j + d = 4 → ff_X2_canRead_3 o (nI t) (nI i) 38 h (m + d + 1) (nI j) = some (bI_ (all_ (ft_ D t i R) d j)) := by
  intro d
  induction d with
  | zero =>
    intro j m e
    have e : j = 4 := by omega
    subst e
    rw [ff_X2_canRead_3, if_pos (by decide)]; rfl
  | succ d ih =>
    intro j m e
    have hj : j < 4 := by omega
    have q := Q j hj
    have l1 := lst_le K (t := t) (x := 0) hi hj
    have l2 := mst_le K (x := 0) ht hi hj
    rw [show m + (d + 1) + 1 = (m + d + 1) + 1 by omega, ff_X2_canRead_3, if_neg (show ¬ (4 : Int32) ≤ nI j from nI_ge (b := 4) hj (by omega)), gd_t (bp_38 hj), ls_C0 K C ht hi hj, Option.bind_some, nI_clamp (by omega), q.2, ms_C0 K C ht hi hj, Option.bind_some, nI_1, ih (j + 1) m (by omega), all_]
    unfold ft_
    by_cases e1 : R j < lst_ D t i j 0
    · rw [if_pos (nI_lt e1 (by omega)), decide_eq_false (by omega)]; rfl
    · rw [if_neg (nI_nlt (by omega) (by omega)), decide_eq_true (p := lst_ D t i j 0 ≤ R j) (by omega)]
      by_cases e2 : R j ≤ mst_ D t i j 0
      · rw [if_pos (nI_le e2 (by omega)), decide_eq_true e2]; rfl
      · rw [if_neg (nI_ge (by omega) (by omega)), decide_eq_false e2]; rfl
theorem hf38 {o t : Nat} {h : hh_} {D : od_} {R : Nat → Nat} (K : oK_ D) (C : oC_ o h D) (ht : t < d_t D) (Q : ∀ j, j < 4 → R j ≤ 9 ∧ h.1 38 j = nI (R j)) : ∀ (d i m : Nat) (x : Int32), i + d = d_m D → ff_X2_headsThatFit_5 o (nI t) 38 h (m + d + 1) x (nI i) = some (msk_ (fun i => all_ (ft_ D t i R) 4 0) d i x) := by
  have k1 := K.1
  obtain ⟨k, hk⟩ := fu_ 4 (by decide)
  intro d
  induction d with
  | zero =>
    intro i m x e
    rw [ff_X2_headsThatFit_5, show Int32.toNatClampNeg 0 = 0 from rfl, C.1, if_pos (nI_le (by omega) (by omega))]; rfl
  | succ d ih =>
    intro i m x e
    have cr : ff_X2_canRead o (nI t) (nI i) 38 h = some (bI_ (all_ (ft_ D t i R) 4 0)) := by
      unfold ff_X2_canRead
      rw [hk]
      exact cr38 K C ht (by omega) Q 4 0 k rfl
    rw [show m + (d + 1) + 1 = (m + d + 1) + 1 by omega, ff_X2_headsThatFit_5, show Int32.toNatClampNeg 0 = 0 from rfl, C.1, if_neg (nI_ge (by omega) (by omega)), cr, Option.bind_some, nI_1, ih _ _ _ (by omega), ih _ _ _ (by omega), msk_]
    cases all_ (ft_ D t i R) 4 0 <;> rfl
theorem lo_20 {t i k : Nat} {x3 : Int32} {h : hh_} {D : od_} {R : Nat → Nat} {KK : Int32 → Option Int32} (K : oK_ D) (M : oM_ h D) (ht : t < d_t D) (hk : k < d_m D) (Q : ∀ j, j < 4 → R j ≤ 9 ∧ h.1 114 j = nI (R j)) : ∀ (d j m : Nat) (b : Bool), j + d = 4 → ff_X8_isAlone_20 (nI t) (nI i) x3 (nI k) h KK (m + d + 1) (bI_ b) (nI j) = KK (bI_ (b && all_ (ft_ D t k R) d j)) := by
  intro d
  induction d with
  | zero =>
    intro j m b e
    rw [ff_X8_isAlone_20, if_pos (show (4 : Int32) ≤ nI j from nI_le (a := 4) (by omega) (by omega)), all_, Bool.and_true]
  | succ d ih =>
    intro j m b e
    have hj : j < 4 := by omega
    have q := Q j hj
    have l1 := lst_le K (t := t) (x := 0) hk hj
    have l2 := mst_le K (x := 0) ht hk hj
    have i0 : ff_X8_isAlone_20 (nI t) (nI i) x3 (nI k) h KK (m + d + 1) 0 (nI (j + 1)) = KK (bI_ false) := (ih (j + 1) m false (by omega)).trans (by rw [Bool.false_and])
    have i1 : ff_X8_isAlone_20 (nI t) (nI i) x3 (nI k) h KK (m + d + 1) 1 (nI (j + 1)) = KK (bI_ (all_ (ft_ D t k R) d (j + 1))) := (ih (j + 1) m true (by omega)).trans (by rw [Bool.true_and])
    rw [show m + (d + 1) + 1 = (m + d + 1) + 1 by omega, ff_X8_isAlone_20, if_neg (show ¬ (4 : Int32) ≤ nI j from nI_ge (b := 4) hj (by omega)), nI_1, i0, i1, gd_n hj (by decide), ls_M K M ht hk hj, Option.bind_some, ms_M K M ht hk hj, Option.bind_some, nI_clamp (by omega), q.2, in_3 (by omega) (by omega) (by omega), all_]
    cases b with
    | false => rw [if_pos (show bI_ false = 0 from rfl), Bool.false_and]
    | true =>
      rw [if_neg (show ¬ bI_ true = 0 by decide), Bool.true_and]
      show (if bI_ (ft_ D t k R j) = 0 then _ else _) = _
      cases ft_ D t k R j with
      | false => rw [if_pos (show bI_ false = 0 from rfl), Bool.false_and]
      | true => rw [if_neg (show ¬ bI_ true = 0 by decide), Bool.true_and]
def aq_ (f : Nat → Bool) (i k : Nat) : Bool := f k == decide (k = i)
theorem lo_5 {t i : Nat} {h : hh_} {D : od_} {R : Nat → Nat} (K : oK_ D) (M : oM_ h D) (ht : t < d_t D) (hi : i < d_m D) (Q : ∀ j, j < 4 → R j ≤ 9 ∧ h.1 114 j = nI (R j)) : ∀ (d k m : Nat) (b : Bool), k + d = d_m D → ff_X8_isAlone_5 (nI t) (nI i) h (m + d + 1) (bI_ b) (nI k) = some (bI_ (b && all_ (aq_ (fun k => all_ (ft_ D t k R) 4 0) i) d k)) := by
  have m5 := K.1
  obtain ⟨f, hf⟩ := fu_ 4 (by decide)
  intro d
  induction d with
  | zero =>
    intro k m b e
    have bz : bz_ (bI_ b) = true := by cases b <;> rfl
    rw [ff_X8_isAlone_5, M.1, if_pos (nI_le (by omega) (by omega)), gd_t bz, all_, Bool.and_true]
  | succ d ih =>
    intro k m b e
    have i0 : ff_X8_isAlone_5 (nI t) (nI i) h (m + d + 1) 0 (nI (k + 1)) = some (bI_ false) := (ih (k + 1) m false (by omega)).trans (by rw [Bool.false_and])
    have i1 : ff_X8_isAlone_5 (nI t) (nI i) h (m + d + 1) 1 (nI (k + 1)) = some (bI_ (all_ (aq_ (fun k => all_ (ft_ D t k R) 4 0) i) d (k + 1))) := (ih (k + 1) m true (by omega)).trans (by rw [Bool.true_and])
    rw [show m + (d + 1) + 1 = (m + d + 1) + 1 by omega, ff_X8_isAlone_5, M.1, if_neg (nI_ge (by omega) (by omega)), hf]
    refine (lo_20 K M ht (by omega) Q 4 0 f true rfl).trans ?_
    have ea : all_ (aq_ (fun k => all_ (ft_ D t k R) 4 0) i) (d + 1) k = (aq_ (fun k => all_ (ft_ D t k R) 4 0) i k && all_ (aq_ (fun k => all_ (ft_ D t k R) 4 0) i) d (k + 1)) := rfl
    rw [nI_1, i0, i1, Bool.true_and, ea]
    cases b with
    | false => rw [if_pos (show bI_ false = 0 from rfl), Bool.false_and]
    | true =>
      have eq : aq_ (fun k => all_ (ft_ D t k R) 4 0) i k = (all_ (ft_ D t k R) 4 0 == decide (k = i)) := rfl
      rw [if_neg (show ¬ bI_ true = 0 by decide), Bool.true_and, eq]
      by_cases q : k = i
      · rw [if_pos (by rw [q]), decide_eq_true q]
        cases all_ (ft_ D t k R) 4 0 with
        | false => rw [if_neg (by decide)]; rfl
        | true => rw [if_pos (by decide)]; rfl
      · rw [if_neg (fun y => q ((nI_eq (by omega) (by omega)).mp y)), decide_eq_false q]
        cases all_ (ft_ D t k R) 4 0 with
        | false => rw [if_pos (by decide)]; rfl
        | true => rw [if_neg (by decide)]; rfl
theorem aq5 (b0 b1 b2 b3 b4 : Bool) : ∀ m, m < 6 → ∀ i, i < m → (msk_ (b5_ b0 b1 b2 b3 b4) m 0 0 = (1 : Int32) <<< (nI i &&& 31) ↔ all_ (aq_ (b5_ b0 b1 b2 b3 b4) i) m 0 = true) := by
  cases b0 <;> cases b1 <;> cases b2 <;> cases b3 <;> cases b4 <;> decide +kernel
theorem aq_m {p : Nat → Bool} {m i : Nat} (hm : m ≤ 5) (hi : i < m) : msk_ p m 0 0 = (1 : Int32) <<< (nI i &&& 31) ↔ all_ (aq_ p i) m 0 = true := by
  have w := aq5 (p 0) (p 1) (p 2) (p 3) (p 4) m (by omega) i hi
  rw [msk_c (p := p) (q := b5_ (p 0) (p 1) (p 2) (p 3) (p 4)) m 0 0 (fun k _ h => b5_p (by omega)), q_allc (p := aq_ p i) (q := aq_ (b5_ (p 0) (p 1) (p 2) (p 3) (p 4)) i) m 0 (fun k _ h => by unfold aq_; rw [← b5_p (p := p) (by omega)])]
  exact w
def al2_ (D : od_) (t i w : Nat) : Bool := all_ (aq_ (fun k => all_ (ft_ D t k (dr_ D t i w)) 4 0) i) (d_m D) 0
def lo_ (D : od_) (t : Nat) : Nat → Nat → Nat → Nat
  | 0, _, c => c
  | d + 1, w, c => lo_ D t d (it_ (nx_ w) 4) (if al2_ D t (nx_ w % d_m D) (nx_ w) = true then c + 1 else c)
theorem lo_67 {D : od_} {t a : Nat} (K : oK_ D) (ht : t < d_t D) (ha : a ≤ 5) : ∀ (d k m w c : Nat) (h : hh_), k + d = a → w < 2147483647 → bo_ h.2.2.1 = true → (h.2.2.1 = 39 ∨ h.2.2.1 = 64) → oC_ h.2.2.1 h D → ∃ h', ff_X7_lots_67 (nI t) (nI a) (nI (d_m D)) (m + d + 1) (nI c) (lN w) (nI k) h = some (nI (lo_ D t d w c), h') ∧ h'.2 = h.2 ∧ ∀ x j, x ≠ 38 → h'.1 x j = h.1 x j := by
  have m5 := K.1
  have m0 := K.2.2.2.1 (by omega)
  obtain ⟨f, hf⟩ := fu_ 4 (by decide)
  obtain ⟨g, hg⟩ := fu_ (d_m D) (by omega)
  intro d
  induction d with
  | zero =>
    intro k m w c h e hw bo ho C
    exact ⟨h, by rw [ff_X7_lots_67, if_pos (nI_le (by omega) (by omega)), lo_], rfl, fun _ _ _ => rfl⟩
  | succ d ih =>
    intro k m w c h e hw bo ho C
    have hi : nx_ w % d_m D < d_m D := Nat.mod_lt _ m0
    obtain ⟨hR, eR⟩ : ∃ hR, hR = fg_ h 38 0 0 4 (fun j => nI (dr_ D t (nx_ w % d_m D) (nx_ w) j)) := ⟨_, rfl⟩
    have R1 : ∀ x j, x ≠ 38 → hR.1 x j = h.1 x j := fun x j q => by rw [eR, fg_ne q]
    have R2 : hR.2 = h.2 := by rw [eR]; rfl
    have CR : oC_ h.2.2.1 hR D := C.fr K (fun x j q => R1 x j (by omega))
    obtain ⟨h', w1, w2, w3⟩ := ih (k + 1) m (it_ (nx_ w) 4) (if al2_ D t (nx_ w % d_m D) (nx_ w) = true then c + 1 else c) hR (by omega) (it_b nx_b 4) (by rw [R2]; exact bo) (by rw [R2]; exact ho) (by rw [R2]; exact CR)
    refine ⟨h', ?_, w2.trans R2, fun x j q => (w3 x j q).trans (R1 x j q)⟩
    rw [show m + (d + 1) + 1 = (m + d + 1) + 1 by omega, ff_X7_lots_67, if_neg (nI_ge (by omega) (by omega))]
    unfold ff_X7_nextLot
    rw [Option.bind_some, nx_L hw, rm_L nx_b m0 (by omega), gd_t (show bm_ (Int32.toInt64 (nI (d_m D))) = true by rw [nI_l (by omega)]; exact bm_n (by omega) (by omega)), hf]
    refine (lo_92 (w := nx_ w) K ht hi nx_b 4 0 f h rfl bo ho C).trans ?_
    rw [← eR, show hR.2.2.1 = h.2.2.1 by rw [R2], gd_t bo]
    have hfit : ff_X2_headsThatFit h.2.2.1 (nI t) 38 hR = some (msk_ (fun i => all_ (ft_ D t i (dr_ D t (nx_ w % d_m D) (nx_ w))) 4 0) (d_m D) 0 0) := by
      unfold ff_X2_headsThatFit
      rw [hg]
      exact hf38 K CR ht (fun j hj => ⟨dr_b K ht hi hj, by rw [eR, fg_in0 (Nat.zero_le _) hj]⟩) (d_m D) 0 g 0 (by omega)
    rw [hfit, Option.bind_some, nI_1, nI_1, show nI c + 0 = nI (c + 0) from nI_add c 0, lo_]
    have am := aq_m (p := fun i => all_ (ft_ D t i (dr_ D t (nx_ w % d_m D) (nx_ w))) 4 0) m5 hi
    by_cases q : al2_ D t (nx_ w % d_m D) (nx_ w) = true
    · rw [if_pos (am.mpr q)]
      rw [if_pos q] at w1
      rw [if_pos q]
      exact w1
    · rw [if_neg (fun y => q (am.mp y))]
      rw [if_neg q] at w1
      rw [if_neg q]
      exact w1
theorem lo_40 {D : od_} {t a : Nat} (K : oK_ D) (ht : t < d_t D) (ha : a ≤ 5) : ∀ (d k m w c : Nat) (h : hh_), k + d = a → w < 2147483647 → oM_ h D → ∃ h', ff_X8_lots_40 (nI t) (nI a) (m + d + 1) (lN w) (nI c) (nI k) h = some (nI (lo_ D t d w c), h') ∧ h'.2 = h.2 ∧ ∀ x j, x ≠ 114 → h'.1 x j = h.1 x j := by
  have m5 := K.1
  have m0 := K.2.2.2.1 (by omega)
  obtain ⟨f, hf⟩ := fu_ 4 (by decide)
  obtain ⟨g, hg⟩ := fu_ (d_m D) (by omega)
  intro d
  induction d with
  | zero =>
    intro k m w c h e hw M
    exact ⟨h, by rw [ff_X8_lots_40, if_pos (nI_le (by omega) (by omega)), lo_], rfl, fun _ _ _ => rfl⟩
  | succ d ih =>
    intro k m w c h e hw M
    have hi : nx_ w % d_m D < d_m D := Nat.mod_lt _ m0
    obtain ⟨hR, eR⟩ : ∃ hR, hR = fg_ h 114 0 0 4 (fun j => nI (dr_ D t (nx_ w % d_m D) (nx_ w) j)) := ⟨_, rfl⟩
    have R1 : ∀ x j, x ≠ 114 → hR.1 x j = h.1 x j := fun x j q => by rw [eR, fg_ne q]
    have R2 : hR.2 = h.2 := by rw [eR]; rfl
    have MR : oM_ hR D := M.fr (fun x j q => R1 x j (by omega))
    obtain ⟨h', w1, w2, w3⟩ := ih (k + 1) m (it_ (nx_ w) 4) (if al2_ D t (nx_ w % d_m D) (nx_ w) = true then c + 1 else c) hR (by omega) (it_b nx_b 4) MR
    refine ⟨h', ?_, w2.trans R2, fun x j q => (w3 x j q).trans (R1 x j q)⟩
    rw [show m + (d + 1) + 1 = (m + d + 1) + 1 by omega, ff_X8_lots_40, if_neg (nI_ge (by omega) (by omega)), M.1, gd_t (show bm_ (Int32.toInt64 (nI (d_m D))) = true by rw [nI_l (by omega)]; exact bm_n (by omega) (by omega)), nx_L hw, rm_L nx_b m0 (by omega), hf]
    refine (lo_72 (w := nx_ w) K ht hi nx_b 4 0 f h rfl M).trans ?_
    rw [← eR]
    have hal : ff_X8_isAlone (nI t) (nI (nx_ w % d_m D)) hR = some (bI_ (al2_ D t (nx_ w % d_m D) (nx_ w))) := by
      unfold ff_X8_isAlone
      rw [hg]
      refine (lo_5 K MR ht hi (R := dr_ D t (nx_ w % d_m D) (nx_ w)) (fun j hj => ⟨dr_b K ht hi hj, by rw [eR, fg_in0 (Nat.zero_le _) hj]⟩) (d_m D) 0 g true (by omega)).trans ?_
      rw [Bool.true_and]
      rfl
    rw [hal, Option.bind_some, nI_1, nI_1, show nI c + 0 = nI (c + 0) from nI_add c 0, lo_]
    by_cases q : al2_ D t (nx_ w % d_m D) (nx_ w) = true
    · rw [if_pos q] at w1
      rw [q, if_neg (show ¬ bI_ true = 0 by decide), if_pos rfl]
      exact w1
    · rw [if_neg q] at w1
      rw [Bool.eq_false_iff.mpr q, if_pos (show bI_ false = 0 from rfl), if_neg (by decide)]
      exact w1
/-- 40: lots -/
theorem st_40 : sp_40 inv_ := by
  intro h a1 a2 a3 H
  obtain ⟨hn, D, F, ds, n, K, C, M, -⟩ := H.2.2.2
  have bo := H.2.2.2.nwB
  have ho := H.2.2.2.nw
  have m5 := K.1
  rcases hs_1 a1 K C M with ⟨t, ht, rfl, c1, m1⟩ | ⟨c1, m1⟩
  · have m0 := K.2.2.2.1 (by omega)
    rcases r1_ a2 1 5 (by decide) (by decide) with ⟨a, h1, h2, rfl, q1, q2, q3⟩ | ⟨q1, q3⟩
    · rcases r1_ a3 1 2147483646 (by decide) (by decide) with ⟨w, w1, w2, rfl, p1, p2, p3⟩ | ⟨p1, p3⟩
      · obtain ⟨k, hk⟩ := fu_ a (by omega)
        obtain ⟨hC, v1, v2, v3⟩ := lo_67 K ht h2 a 0 k w 0 h (by omega) (by omega) bo ho C
        obtain ⟨hM, u1, u2, u3⟩ := lo_40 K ht h2 a 0 k w 0 hC (by omega) (by omega) (M.fr (fun x j q => v3 x j (by omega)))
        refine ⟨nI (lo_ D t a w 0), hC, hM, ?_, ?_, ?_⟩
        · unfold ff_X7_lots
          have lc : lg_cmp (Int32.toInt64 (nI w)) (2147483647 : Int64) < 0 := by
            rw [nI_l (by omega), show (2147483647 : Int64) = lN 2147483647 from rfl, cmpN (by omega) (by decide), if_neg (by omega), if_neg (by omega)]
            decide
          rw [gd_t bo, c1, Option.bind_some, if_neg n10, if_neg (show ¬ nI a < 1 from q1), if_neg (show ¬ (5 : Int32) < nI a from q2), if_neg (show ¬ nI w < 1 from p1), if_pos lc, show Int32.toNatClampNeg 0 = 0 from rfl, C.1, if_neg (show ¬ nI (d_m D) = 0 from fun y => absurd ((nI_eq (b := 0) (by omega) (by omega)).mp y) (by omega)), nI_l (by omega), hk]
          exact v1
        · have m1' : ff_X8_isThumb (nI t) hC = 1 := by unfold ff_X8_isThumb at m1 ⊢; rw [v3 _ _ (by decide)]; exact m1
          unfold ff_X8_lots
          rw [m1', if_neg n10, show ff_X8_in (nI a) (1 : Int32) (5 : Int32) = 1 from q3, if_neg n10, show ff_X8_in (nI w) (1 : Int32) (2147483646 : Int32) = 1 from p3, if_neg n10, nI_l (by omega), hk]
          exact u1
        · refine inv_scr H (fun c j q => ?_) (fun c j _ => by rw [u2, v2]) (by rw [u2, v2]; exact ⟨rfl, rfl⟩)
          have := ho
          unfold sc_ fO_ at q
          rw [u3 c j (by omega), v3 c j (by omega)]
      · refine rd_ H 0 (-1) 0 (by decide) ?_ (fun h' S => ?_)
        · unfold ff_X7_lots
          rw [gd_t bo, c1, Option.bind_some, if_neg n10, if_neg (show ¬ nI a < 1 from q1), if_neg (show ¬ (5 : Int32) < nI a from q2)]
          rcases p1 with q | ⟨q, q2⟩
          · rw [if_pos (show a3 < 1 from q)]; rfl
          · have lc : ¬ lg_cmp (Int32.toInt64 a3) (2147483647 : Int64) < 0 := by
              rcases pk_ix a3 (n := 2147483647) (by decide) with y | y | ⟨j, hj, rfl⟩
              · exfalso
                apply q
                rw [Int32.lt_iff_toInt_lt] at y ⊢
                rw [nI_toInt (by decide)]
                rw [ti_0] at y
                omega
              · have e : a3 = nI 2147483647 := by
                  apply Int32.toInt_inj.mp
                  rw [Int32.le_iff_toInt_le, nI_toInt (by decide)] at y
                  rw [nI_toInt (by decide)]
                  have := Int32.toInt_le a3
                  rw [show Int32.maxValue.toInt = 2147483647 from rfl] at this
                  omega
                rw [e]
                decide
              · exfalso
                rw [nI_ltI (by omega) (by omega)] at q2
                omega
            rw [if_neg (show ¬ a3 < 1 from q), if_neg lc]; rfl
        · unfold ff_X8_lots
          rw [S.iT (D := D) m1, if_neg n10, show ff_X8_in (nI a) (1 : Int32) (5 : Int32) = 1 from q3, if_neg n10, show ff_X8_in a3 (1 : Int32) (2147483646 : Int32) = 0 from p3, if_pos rfl]; rfl
    · refine rd_ H 0 (-1) 0 (by decide) ?_ (fun h' S => ?_)
      · unfold ff_X7_lots
        rw [gd_t bo, c1, Option.bind_some, if_neg n10]
        rcases q1 with q | ⟨q, q2⟩
        · rw [if_pos (show a2 < 1 from q)]; rfl
        · rw [if_neg (show ¬ a2 < 1 from q), if_pos (show (5 : Int32) < a2 from q2)]; rfl
      · unfold ff_X8_lots
        rw [S.iT (D := D) m1, if_neg n10, show ff_X8_in a2 (1 : Int32) (5 : Int32) = 0 from q3, if_pos rfl]; rfl
  · refine rd_ H 0 (-1) 0 (by decide) ?_ (fun h' S => ?_)
    · unfold ff_X7_lots
      rw [gd_t bo, c1, Option.bind_some, if_pos rfl]; rfl
    · unfold ff_X8_lots
      rw [S.iT (D := D) m1, if_pos rfl]; rfl
