/-! ===== items opened; the whole text ===== -/
theorem z_kb (a : Int32) (h : hh_) : ff_X4_kindBy a h = some (ff_X8_kindOf a) := by
  obtain ⟨k, hk⟩ := fu_ 6 (by decide)
  have st : ∀ j m, j < 6 → ff_X4_kindBy_2 a h (m + 1) (nI j) = if (sn_ 3).2.getD j 0 = a then some (nI j) else ff_X4_kindBy_2 a h m (nI (j + 1)) := by
    intro j m hj
    rw [ff_X4_kindBy_2, if_neg (show ¬ (6 : Int32) ≤ nI j from nI_ge (b := 6) hj (by omega)), gd_n hj (by decide), nI_clamp (by omega), nI_1]
  unfold ff_X4_kindBy ff_X8_kindOf
  rw [hk, show (0 : Int32) = nI 0 from rfl, st 0 _ (by decide), show (sn_ 3).2.getD 0 0 = (116 : Int32) from rfl]
  by_cases e0 : a = 116
  · rw [if_pos e0.symm, if_pos e0]
  · rw [if_neg (fun y => e0 y.symm), if_neg e0, show k + 6 = k + 5 + 1 by omega, st 1 _ (by decide), show (sn_ 3).2.getD 1 0 = (118 : Int32) from rfl]
    by_cases e1 : a = 118
    · rw [if_pos e1.symm, if_pos e1]; rfl
    · rw [if_neg (fun y => e1 y.symm), if_neg e1, show k + 5 = k + 4 + 1 by omega, st 2 _ (by decide), show (sn_ 3).2.getD 2 0 = (108 : Int32) from rfl]
      by_cases e2 : a = 108
      · rw [if_pos e2.symm, if_pos e2]; rfl
      · rw [if_neg (fun y => e2 y.symm), if_neg e2, show k + 4 = k + 3 + 1 by omega, st 3 _ (by decide), show (sn_ 3).2.getD 3 0 = (119 : Int32) from rfl]
        by_cases e3 : a = 119
        · rw [if_pos e3.symm, if_pos e3]; rfl
        · rw [if_neg (fun y => e3 y.symm), if_neg e3, show k + 3 = k + 2 + 1 by omega, st 4 _ (by decide), show (sn_ 3).2.getD 4 0 = (99 : Int32) from rfl]
          by_cases e4 : a = 99
          · rw [if_pos e4.symm, if_pos e4]; rfl
          · rw [if_neg (fun y => e4 y.symm), if_neg e4, show k + 2 = k + 1 + 1 by omega, st 5 _ (by decide), show (sn_ 3).2.getD 5 0 = (100 : Int32) from rfl]
            by_cases e5 : a = 100
            · rw [if_pos e5.symm, if_pos e5]; rfl
            · rw [if_neg (fun y => e5 y.symm), if_neg e5, ff_X4_kindBy_2, if_pos (by decide)]
theorem z_kv (a : Int32) : ff_X8_kindOf a = -9 ∨ ∃ q, q < 6 ∧ ff_X8_kindOf a = nI q := by
  unfold ff_X8_kindOf
  by_cases e0 : a = 116
  · rw [if_pos e0]; exact Or.inr ⟨0, by decide, rfl⟩
  · rw [if_neg e0]
    by_cases e1 : a = 118
    · rw [if_pos e1]; exact Or.inr ⟨1, by decide, rfl⟩
    · rw [if_neg e1]
      by_cases e2 : a = 108
      · rw [if_pos e2]; exact Or.inr ⟨2, by decide, rfl⟩
      · rw [if_neg e2]
        by_cases e3 : a = 119
        · rw [if_pos e3]; exact Or.inr ⟨3, by decide, rfl⟩
        · rw [if_neg e3]
          by_cases e4 : a = 99
          · rw [if_pos e4]; exact Or.inr ⟨4, by decide, rfl⟩
          · rw [if_neg e4]
            by_cases e5 : a = 100
            · rw [if_pos e5]; exact Or.inr ⟨5, by decide, rfl⟩
            · rw [if_neg e5]; exact Or.inl rfl
def op_ (o k c : Nat) (x2 : Int32) (h : hh_) : hh_ := hh_sI (hh_sI (hh_sI (if k = 1 then hh_sI h (o + 14 + c) 0 x2 else h) 19 1 (nI k)) 19 2 (nI (nf_k k))) (o + 23) k (nI (c + 1))
theorem op_2 {o k c : Nat} {x2 : Int32} {h : hh_} : (op_ o k c x2 h).2 = h.2 := by
  unfold op_
  by_cases q : k = 1
  · rw [if_pos q]; rfl
  · rw [if_neg q]; rfl
theorem op_n {o k c y j : Nat} {x2 : Int32} {h : hh_} (h1 : y ≠ 19) (h2 : ¬ (y = o + 23 ∧ j = k)) (h3 : ¬ (k = 1 ∧ y = o + 14 + c ∧ j = 0)) : (op_ o k c x2 h).1 y j = h.1 y j := by
  have e0 : ∀ g : hh_, (hh_sI g (o + 23) k (nI (c + 1))).1 y j = g.1 y j := fun g => by
    by_cases q : y = o + 23
    · exact sI_nj (fun z => h2 ⟨q, z⟩)
    · exact sI_ne q
  unfold op_
  rw [e0, sI_ne h1, sI_ne h1]
  by_cases q : k = 1
  · rw [if_pos q]
    by_cases q2 : y = o + 14 + c
    · exact sI_nj (fun z => h3 ⟨q, q2, z⟩)
    · exact sI_ne q2
  · rw [if_neg q]
theorem op_19 {o k c : Nat} {x2 : Int32} {h : hh_} (ho : o = 39 ∨ o = 64) : (op_ o k c x2 h).1 19 1 = nI k ∧ (op_ o k c x2 h).1 19 2 = nI (nf_k k) ∧ (op_ o k c x2 h).1 (o + 23) k = nI (c + 1) := by
  unfold op_
  exact ⟨by rw [sI_ne (by omega), sI_nj (by decide), sI_eq], by rw [sI_ne (by omega), sI_eq], sI_eq⟩
theorem op_T {o c : Nat} {x2 : Int32} {h : hh_} (ho : o = 39 ∨ o = 64) (hc : c < 4) : (op_ o 1 c x2 h).1 (o + 14 + c) 0 = x2 := by
  unfold op_
  rw [sI_ne (by omega), sI_ne (by omega), sI_ne (by omega), if_pos rfl, sI_eq]
theorem op_f {o k c : Nat} {x2 : Int32} {h : hh_} (hc : c < 5) : fC2_ o h (op_ o k c x2 h) := ⟨op_2, fun y j q1 q2 => op_n q1 (by omega) (by omega)⟩
theorem z_op {o k c : Nat} {x2 : Int32} {h : hh_} (ho : o = 39 ∨ o = 64) (bo : bo_ o = true) (eo : h.2.2.2.2 = o) (hk : k < 3) (hc : c ≤ 5) (e3 : h.1 (o + 23) k = nI c) : ff_X4_opensItem_62 x2 (nI k) h = if c < mi_k k then some (1, op_ o k c x2 h) else some (0, h) := by
  have m5 : mi_k k ≤ 5 := by unfold mi_k; split <;> omega
  unfold ff_X4_opensItem_62
  rw [eo, gd_t bo, gd_n hk (by decide), nI_clamp (show k < 2 ^ 31 by omega), e3, sn4_k k hk]
  by_cases q : c < mi_k k
  · rw [if_pos (nI_lt q (by omega)), if_pos q]
    by_cases q1 : k = 1
    · subst q1
      have c4 : c < 4 := q
      rw [if_pos (show nI 1 = 1 from rfl), show Int32.toNatClampNeg 1 = 1 from rfl, e3, gd_n c4 (by decide), nI_clamp (by omega), show Int32.toNatClampNeg 0 = 0 from rfl]
      unfold ff_X4_opensItem_106
      rw [gd_n (by decide) (by decide), show (hh_sI h (o + 14 + c) 0 x2).2.2.2.2 = o from eo, gd_t bo, nI_clamp (by omega), sn0_k 1 (by decide), sI_ne (show o + 23 ≠ 19 by omega), sI_ne (show o + 23 ≠ 19 by omega), sI_ne (show o + 23 ≠ o + 14 + c by omega), e3, nI_1]
      rfl
    · rw [if_neg (show ¬ nI k = 1 from fun y => q1 ((nI_eq (b := 1) (by omega) (by omega)).mp y))]
      unfold ff_X4_opensItem_106 op_
      rw [gd_n hk (by decide), eo, gd_t bo, nI_clamp (by omega), sn0_k k hk, sI_ne (show o + 23 ≠ 19 by omega), sI_ne (show o + 23 ≠ 19 by omega), e3, nI_1, if_neg q1]
  · rw [if_neg (fun y => q ((nI_ltI (by omega) (by omega)).mp y)), if_neg q]
/-! what both hold of the items read -/
def zH_ (o a : Nat) (hC hM : hh_) : Prop := ∀ i, i < a → ∀ j, j < 5 → ∃ v, v ≤ hi_k 0 j ∧ hC.1 (o + 2 + i) j = nI v ∧ hM.1 108 (5 * i + j) = nI v
def zT_ (o b : Nat) (hC hM : hh_) : Prop := ∀ t, t < b → (∃ v, v ≤ 5 ∧ hC.1 (o + 14 + t) 0 = nI v ∧ hM.1 108 (25 + 3 * t) = nI v) ∧ ∀ j, j < 2 → ∃ v, v ≤ hi_k 1 j ∧ hC.1 (o + 14 + t) (1 + j) = nI v ∧ hM.1 108 (25 + 3 * t + 1 + j) = nI v
def zP_ (o c : Nat) (hC hM : hh_) : Prop := ∀ p, p < c → ∀ j, j < 5 → ∃ v, lo_k 2 j ≤ v ∧ v ≤ hi_k 2 j ∧ hC.1 (o + 19 + p) j = nI v ∧ hM.1 108 (37 + 5 * p + j) = nI v
theorem zH_.fr {o a : Nat} {hC hM hC' hM' : hh_} (e1 : ∀ i, i < a → ∀ j, j < 5 → hC'.1 (o + 2 + i) j = hC.1 (o + 2 + i) j) (e2 : ∀ i, i < a → ∀ j, j < 5 → hM'.1 108 (5 * i + j) = hM.1 108 (5 * i + j)) (Z : zH_ o a hC hM) : zH_ o a hC' hM' := fun i hi j hj => by
  rw [e1 i hi j hj, e2 i hi j hj]
  exact Z i hi j hj
theorem zT_.fr {o b : Nat} {hC hM hC' hM' : hh_} (e1 : ∀ t, t < b → ∀ j, j < 3 → hC'.1 (o + 14 + t) j = hC.1 (o + 14 + t) j) (e2 : ∀ t, t < b → ∀ j, j < 3 → hM'.1 108 (25 + 3 * t + j) = hM.1 108 (25 + 3 * t + j)) (Z : zT_ o b hC hM) : zT_ o b hC' hM' := fun t ht => by
  obtain ⟨z1, z2⟩ := Z t ht
  refine ⟨?_, fun j hj => ?_⟩
  · rw [e1 t ht 0 (by decide), show 25 + 3 * t = 25 + 3 * t + 0 from rfl, e2 t ht 0 (by decide)]
    exact z1
  · rw [e1 t ht (1 + j) (by omega), Nat.add_assoc (25 + 3 * t), e2 t ht (1 + j) (by omega), ← Nat.add_assoc (25 + 3 * t)]
    exact z2 j hj
theorem zP_.fr {o c : Nat} {hC hM hC' hM' : hh_} (e1 : ∀ i, i < c → ∀ j, j < 5 → hC'.1 (o + 19 + i) j = hC.1 (o + 19 + i) j) (e2 : ∀ i, i < c → ∀ j, j < 5 → hM'.1 108 (37 + 5 * i + j) = hM.1 108 (37 + 5 * i + j)) (Z : zP_ o c hC hM) : zP_ o c hC' hM' := fun i hi j hj => by
  rw [e1 i hi j hj, e2 i hi j hj]
  exact Z i hi j hj
def zR_ (o a b c : Nat) (hC hM : hh_) : Prop := a ≤ 5 ∧ b ≤ 4 ∧ c ≤ 4 ∧ hC.1 (o + 23) 0 = nI a ∧ hC.1 (o + 23) 1 = nI b ∧ hC.1 (o + 23) 2 = nI c ∧ hM.1 98 17 = nI a ∧ hM.1 98 18 = nI b ∧ hM.1 98 19 = nI c ∧ zH_ o a hC hM ∧ zT_ o b hC hM ∧ zP_ o c hC hM
def zc_ (b c : Nat) : Nat := if 0 < c then 2 else if 0 < b then 1 else 0
def zS_ (o r n : Nat) (S : Nat → Int32) (a b c x : Nat) (hC hM : hh_) : Prop := zC_ o r n S hC ∧ zM_ r n S hM ∧ hC.1 19 1 = nI (zc_ b c) ∧ hC.1 19 2 = nI 0 ∧ hM.1 98 16 = nI x ∧ zR_ o a b c hC hM
def zN_ (r : Nat) (k10 : hh_) : Option (Int32 × hh_) := if (k10.1 98 17) = 0 then gd_ (bi_ (nI r) 4) <| some ((k10.1 103 (Int32.toNatClampNeg (nI r))), k10) else some ((-9 : Int32), k10)
/-- both scans from here on end alike -/
def zW_ (o r n x m m' : Nat) (hC hM : hh_) : Prop := ∃ v hC' hM', ff_X4_into_51 (13 + r) (nI n) (zK_ n) (m + (n - x) + 1) (nI x) hC = some (v, hC') ∧ ff_X8_goesOn_20 (nI r) (zN_ r) (m' + (n - x) + 1) hM = some (v, hM') ∧ fC2_ o hC hC' ∧ fM2_ hM hM' ∧ (v = -9 → ∃ a b c, 0 < a ∧ zR_ o a b c hC' hM')
theorem z_end {o r n a b c m m' : Nat} {S : Nat → Int32} {hC hM : hh_} (bo : bo_ o = true) (hr : r < 4) (hn : n ≤ 80) (Z : zS_ o r n S a b c n hC hM) : zW_ o r n n m m' hC hM := by
  obtain ⟨ZC, ZM, e1, e2, eM, R⟩ := Z
  have ra := R.1
  have cl : ff_X4_into_51 (13 + r) (nI n) (zK_ n) (m + (n - n) + 1) (nI n) hC = if a = 0 then some (nI n, hC) else some (-9, hC) := by
    rw [ff_X4_into_51, if_pos (nI_le (by omega) (by omega)), zK_, e2, if_neg (show ¬ (0 : Int32) < nI 0 by decide), ZC.1, gd_t bo, show Int32.toNatClampNeg 0 = 0 from rfl, R.2.2.2.1]
    by_cases q : a = 0
    · rw [if_pos q, if_pos (by rw [q]; rfl)]
    · rw [if_neg q, if_neg (show ¬ nI a = 0 from fun y => q ((nI_eq (b := 0) (by omega) (by omega)).mp y))]
  have ml : ff_X8_goesOn_20 (nI r) (zN_ r) (m' + (n - n) + 1) hM = if a = 0 then some (nI n, hM) else some (-9, hM) := by
    rw [ff_X8_goesOn_20, gd_n hr (by decide), nI_clamp (by omega), ZM.1, eM, if_pos (nI_le (by omega) (by omega)), zN_, R.2.2.2.2.2.2.1, gd_n hr (by decide), nI_clamp (by omega), ZM.1]
    by_cases q : a = 0
    · rw [if_pos q, if_pos (by rw [q]; rfl)]
    · rw [if_neg q, if_neg (show ¬ nI a = 0 from fun y => q ((nI_eq (b := 0) (by omega) (by omega)).mp y))]
  by_cases q : a = 0
  · rw [if_pos q] at cl ml
    exact ⟨nI n, hC, hM, cl, ml, fC2_.r, fM2_.r, fun y => absurd y (z_m9 (by omega))⟩
  · rw [if_neg q] at cl ml
    exact ⟨-9, hC, hM, cl, ml, fC2_.r, fM2_.r, fun _ => ⟨a, b, c, by omega, R⟩⟩
/-- both stop at x -/
theorem z_stop {o r n x m m' : Nat} {S : Nat → Int32} {hC hM : hh_} (hn : n ≤ 80) (hx : x ≤ n) (e1 : ff_X4_into_51 (13 + r) (nI n) (zK_ n) (m + (n - x) + 1) (nI x) hC = some (nI x, hC)) (e2 : ff_X8_goesOn_20 (nI r) (zN_ r) (m' + (n - x) + 1) hM = some (nI x, hM)) : zW_ o r n x m m' hC hM :=
  ⟨nI x, hC, hM, e1, e2, fC2_.r, fM2_.r, fun y => absurd y (z_m9 (by omega))⟩
/-- a step of the class at the beginning of an item -/
theorem z_cs {o r n x m : Nat} {S : Nat → Int32} {hC : hh_} (hr : r < 4) (hn : n ≤ 80) (ZC : zC_ o r n S hC) (e2 : hC.1 19 2 = nI 0) (hx : x < n) (h32 : ¬ S x = 32) : ff_X4_into_51 (13 + r) (nI n) (zK_ n) (m + (n - x) + 1) (nI x) hC = (ff_X4_opensItem (S x) hC).bind fun v => if v.1 = 0 then some (nI x, v.2) else ff_X4_into_51 (13 + r) (nI n) (zK_ n) (m + (n - (x + 1)) + 1) (nI (x + 1)) v.2 := by
  rw [show m + (n - x) + 1 = (m + (n - (x + 1)) + 1) + 1 by omega, ff_X4_into_51, if_neg (nI_ge hx (by omega)), gd_t (bp_t hr (by omega)), nI_clamp (by omega), ZC.2 x hx, nI_1]
  unfold ff_X4_goesOn
  rw [e2, if_pos (show nI 0 ≤ 0 by decide), if_neg h32, Option.bind_assoc]
  refine congrArg (Option.bind _) (funext fun v => ?_)
  by_cases q : v.1 = 0
  · rw [if_pos q, Option.bind_some, if_pos rfl, if_pos q]
  · rw [if_neg q, Option.bind_some, if_neg n10, if_neg q]
theorem z_ms {r n x m' : Nat} {S : Nat → Int32} {hM : hh_} (hr : r < 4) (hn : n ≤ 80) (ZM : zM_ r n S hM) (eM : hM.1 98 16 = nI x) (hx : x < n) : ff_X8_goesOn_20 (nI r) (zN_ r) (m' + (n - x) + 1) hM = if S x = 32 then ff_X8_goesOn_20 (nI r) (zN_ r) (m' + (n - (x + 1)) + 1) (hh_sI hM 98 16 (nI (x + 1))) else if S x = 104 then (ff_X8_readsHead (nI r) hM).bind fun v8 => if v8.1 = 0 then some ((v8.2.1 98 16), v8.2) else ff_X8_goesOn_20 (nI r) (zN_ r) (m' + (n - (x + 1)) + 1) v8.2 else if S x = 112 then (ff_X8_readsPost (nI r) hM).bind fun v8 => if v8.1 = 0 then some ((v8.2.1 98 16), v8.2) else ff_X8_goesOn_20 (nI r) (zN_ r) (m' + (n - (x + 1)) + 1) v8.2 else (ff_X8_readsThumb (nI r) hM).bind fun v8 => if v8.1 = 0 then some ((v8.2.1 98 16), v8.2) else ff_X8_goesOn_20 (nI r) (zN_ r) (m' + (n - (x + 1)) + 1) v8.2 := by
  have he := z_he hr hn ZM (Nat.le_of_lt hx) eM
  rw [if_pos hx] at he
  rw [show m' + (n - x) + 1 = (m' + (n - (x + 1)) + 1) + 1 by omega, ff_X8_goesOn_20, gd_n hr (by decide), nI_clamp (by omega), ZM.1, eM, if_neg (nI_ge hx (by omega)), he, Option.bind_some, nI_1]
/-- a whole item: its figures read in both, then on -/
theorem z_item {o r n x k c b m m' : Nat} {S : Nat → Int32} {hC hM hC1 hM1 : hh_} {R : (Int32 → hh_ → Option (Int32 × hh_)) → Option (Int32 × hh_)} {KM : Int32 → hh_ → Option (Int32 × hh_)} (ho : o = 39 ∨ o = 64) (hr : r < 4) (hn : n ≤ 80) (hx : x < n) (hk : k < 3) (hc : c < mi_k k) (hb : b + nf_k k ≤ 60)
    (Z : zF_ o r n S k c b 0 (nf_k k) (x + 1) m hC1 hM1 R) (ZC : zC_ o r n S hC1) (ZM : zM_ r n S hM1) (fC : fC2_ o hC hC1) (fM : fM2_ hM hM1) (fj : ∀ j, 17 ≤ j → j ≤ 19 → hM1.1 98 j = hM.1 98 j)
    (cl : ff_X4_into_51 (13 + r) (nI n) (zK_ n) (m + (n - x) + 1) (nI x) hC = ff_X4_into_51 (13 + r) (nI n) (zK_ n) (m + (n - (x + 1)) + 1) (nI (x + 1)) hC1)
    (ml : ff_X8_goesOn_20 (nI r) (zN_ r) (m' + (n - x) + 1) hM = (R KM).bind fun v8 => if v8.1 = 0 then some ((v8.2.1 98 16), v8.2) else ff_X8_goesOn_20 (nI r) (zN_ r) (m' + (n - (x + 1)) + 1) v8.2)
    (K0 : ∀ g : hh_, (∀ j, 17 ≤ j → j ≤ 19 → g.1 98 j = hM1.1 98 j) → KM 0 g = some (0, hh_sI g 98 (17 + k) (hM1.1 98 (17 + k))))
    (K1 : ∀ g : hh_, (∀ j, 17 ≤ j → j ≤ 19 → g.1 98 j = hM1.1 98 j) → KM 1 g = some (1, hh_sI g 98 (17 + k) (nI (c + 1))))
    (go : ∀ (hC2 hM2 : hh_), x + 1 + nf_k k ≤ n → zC_ o r n S hC2 → zM_ r n S hM2 → hC2.1 19 1 = nI k → hC2.1 19 2 = nI 0 → hM2.1 98 16 = nI (x + 1 + nf_k k) → hM2.1 98 (17 + k) = nI (c + 1) → (∀ j, 17 ≤ j → j ≤ 19 → j ≠ 17 + k → hM2.1 98 j = hM1.1 98 j) → (∀ y j, y ≠ 19 → ¬ (y = o + cb_k k + c ∧ po_k k ≤ j) → hC2.1 y j = hC1.1 y j) → (∀ j, ¬ (b ≤ j ∧ j < b + nf_k k) → hM2.1 108 j = hM1.1 108 j) → (∀ j, j < nf_k k → ∃ v, lo_k k j ≤ v ∧ v ≤ hi_k k j ∧ hC2.1 (o + cb_k k + c) (po_k k + j) = nI v ∧ hM2.1 108 (b + j) = nI v) → zW_ o r n (x + 1 + nf_k k) m (m' + nf_k k) hC2 hM2) : zW_ o r n x m m' hC hM := by
  have ck : cb_k k + c ≤ 24 := by unfold cb_k; unfold mi_k at hc; split at hc <;> split <;> (try split) <;> omega
  rcases Z with ⟨y, hM', hy, ⟨hC', u1, u2⟩, u3, u4, u5, u6⟩ | ⟨hd, hC', hM', u1, u2, u3, u4, u5, u6, u7, u8, u9, u10⟩
  · refine ⟨nI y, hC', hh_sI hM' 98 (17 + k) (hM1.1 98 (17 + k)), cl.trans u1, ?_, fC.t u2, fM.t (u5.t ⟨rfl, fun a j q1 q2 => ?_⟩), fun z => absurd z (z_m9 (by omega))⟩
    · rw [ml, u3, K0 hM' u6, Option.bind_some, if_pos rfl, sI_nj (by omega), u4]
    · by_cases q : a = 98
      · subst q
        exact sI_nj (by omega)
      · exact sI_ne q
  · have fj9 : ∀ j, 17 ≤ j → j ≤ 19 → hM'.1 98 j = hM1.1 98 j := fun j h1 h2 => u9 98 j (by omega) (by omega)
    obtain ⟨v, hC3, hM3, g1, g2, g3, g4, g5⟩ := go hC' (hh_sI hM' 98 (17 + k) (nI (c + 1))) hd (ZC.fr (h := hC1) u6 (fun y => u8 _ _ (by omega) (by omega))) (ZM.fr (h := hM1) (fun y => by rw [sI_ne (by decide), u9 _ _ (by omega) (by omega)]) (fun y => by rw [sI_ne (by decide), u9 _ _ (by omega) (by omega)])) u4 u5 (by rw [sI_nj (by omega), u3]) sI_eq (fun j h1 h2 h3 => by rw [sI_nj h3, fj9 j h1 h2]) (fun y j q1 q2 => u8 y j q1 q2) (fun j q => by rw [sI_ne (by decide), u9 _ _ (by omega) (by omega)]) (fun j hj => by
      obtain ⟨w, w1, w2, w3, w4⟩ := u10 j (Nat.zero_le _) (by omega)
      exact ⟨w, w1, w2, w3, by rw [sI_ne (by decide)]; exact w4⟩)
    refine ⟨v, hC3, hM3, (cl.trans u1).trans g1, ?_, fC.t (fC2_.t ⟨u6, fun y j q1 q2 => u8 y j q1 (by omega)⟩ g3), fM.t (fM2_.t (h1 := hM1) (h2 := hh_sI hM' 98 (17 + k) (nI (c + 1))) ⟨u7, fun y j q1 q2 => ?_⟩ g4), g5⟩
    · rw [ml, u2, K1 hM' fj9, Option.bind_some, if_neg n10]
      rw [show m' + (n - (x + 1)) + 1 = m' + nf_k k + (n - (x + 1 + nf_k k)) + 1 by omega]
      exact g2
    · have e9 : (hh_sI hM' 98 (17 + k) (nI (c + 1))).1 y j = hM'.1 y j := by
        by_cases q : y = 98
        · subst q
          exact sI_nj (by omega)
        · exact sI_ne q
      rw [e9, u9 y j (by omega) (by omega)]
