/-! ===== learn ===== -/
theorem l_m3 : ∀ n, n < 41 → ((nI n - nI n / (3 : Int32) * (3 : Int32)) = 0 ↔ n % 3 = 0) := by decide +kernel
theorem l_d4 : ∀ x, x < 24 → nI x / (4 : Int32) = nI (x / 4) ∧ nI x - nI x / (4 : Int32) * (4 : Int32) = nI (x % 4) := by decide +kernel
theorem l_c1 : ∀ v, v < 10 → ∀ q, q < 10 → ∀ e, e < 3 → ((if 0 ≤ (nI v - nI q) then (nI v - nI q) else 0 - (nI v - nI q)) ≤ nI e ↔ (v ≤ q + e ∧ q ≤ v + e)) := by decide +kernel
theorem l_c2 : ∀ v, v < 10 → ∀ q, q < 10 → ∀ e, e < 3 → ff_X8_in (nI v) (ff_X8_greater (0 : Int32) (nI q - nI e)) (nI q + nI e) = bI_ (decide (v ≤ q + e ∧ q ≤ v + e)) := by decide +kernel
/-- a row of threes -/
def t3_ (D : od_) (h : hh_) (r N : Nat) (A B V : Nat → Nat) : Prop := ∀ k, k < N → A k < d_m D ∧ B k < 4 ∧ V k ≤ 9 ∧ h.1 (4 + r) (3 * k) = nI (A k) ∧ h.1 (4 + r) (3 * k + 1) = nI (B k) ∧ h.1 (4 + r) (3 * k + 2) = nI (V k) ∧ h.1 101 (40 * r + 3 * k) = nI (A k) ∧ h.1 101 (40 * r + (3 * k + 1)) = nI (B k) ∧ h.1 101 (40 * r + (3 * k + 2)) = nI (V k)
theorem t3_.sm {D : od_} {h h' : hh_} {r N : Nat} {A B V : Nat → Nat} (hr : r < 6) (S : sm_ h h') (Q : t3_ D h r N A B V) : t3_ D h' r N A B V := fun k hk => by
  rw [S _ _ (by omega) (by omega), S _ _ (by omega) (by omega), S _ _ (by omega) (by omega), S _ _ (by omega) (by omega), S _ _ (by omega) (by omega), S _ _ (by omega) (by omega)]
  exact Q k hk
theorem l_hd {D : od_} {h h' : hh_} (K : oK_ D) (C : oC_ h.2.2.1 h D) (M : oM_ h' D) (a : Int32) : (∃ i, i < d_m D ∧ a = nI i ∧ ff_X2_has h.2.2.1 0 a h = some 1 ∧ ff_X8_isHead a h' = 1) ∨ (ff_X2_has h.2.2.1 0 a h = some 0 ∧ ff_X8_isHead a h' = 0) := hs_0 a K C M
theorem l_41 {D : od_} {h : hh_} {r n N : Nat} (B : bo_ h.2.2.1 = true) (K : oK_ D) (C : oC_ h.2.2.1 h D) (M : oM_ h D) (hr : r < 6) (hn : n ≤ 40) (hN : n = 3 * N) (e1 : h.1 10 r = nI n) (e2 : h.1 100 r = nI n) (E : ∀ i, i < n → h.1 (4 + r) i = h.1 101 (40 * r + i)) : ∀ (d k m : Nat), k + d = N →
    (ff_X7_findingOfThrees_41 (nI r) (4 + r) h (m + d + 1) (nI (3 * k)) = some (nI 3) ∧ ∀ (h' : hh_) (x2 : Int32) (KK : Option (Int32 × hh_)) (m' : Nat), sm_ h h' → ff_X8_learn_50 (nI r) x2 h' KK (m' + d + 1) (nI (3 * k)) = some (-3, mre_ 3 h')) ∨
    (ff_X7_findingOfThrees_41 (nI r) (4 + r) h (m + d + 1) (nI (3 * k)) = some 0 ∧ (∀ (h' : hh_) (x2 : Int32) (KK : Option (Int32 × hh_)) (m' : Nat), sm_ h h' → ff_X8_learn_50 (nI r) x2 h' KK (m' + d + 1) (nI (3 * k)) = KK) ∧ ∀ x, k ≤ x → x < N → ∃ i j v, i < d_m D ∧ j < 4 ∧ v ≤ 9 ∧ h.1 (4 + r) (3 * x) = nI i ∧ h.1 (4 + r) (3 * x + 1) = nI j ∧ h.1 (4 + r) (3 * x + 2) = nI v) := by
  intro d
  induction d with
  | zero =>
    intro k m e
    refine Or.inr ⟨?_, fun h' x2 KK m' S => ?_, fun x h1 h2 => by omega⟩
    · rw [ff_X7_findingOfThrees_41, gd_n hr (by decide), nI_clamp (by omega), e1, show nI (3 * k) + 2 = nI (3 * k + 2) from nI_add _ 2, if_pos (nI_le (by omega) (by omega))]
    · rw [ff_X8_learn_50, gd_n hr (by decide), nI_clamp (by omega), S _ _ (by decide) (by decide), e2, if_pos (nI_le (by omega) (by omega))]
  | succ d ih =>
    intro k m e
    have hk : k < N := by omega
    have g0 : ∀ h', sm_ h h' → h'.1 101 (40 * r + 3 * k) = h.1 (4 + r) (3 * k) := fun h' S => by rw [S _ _ (by decide) (by decide), E _ (by omega)]
    have g1 : ∀ h', sm_ h h' → h'.1 101 (40 * r + (3 * k + 1)) = h.1 (4 + r) (3 * k + 1) := fun h' S => by rw [S _ _ (by decide) (by decide), E _ (by omega)]
    have g2 : ∀ h', sm_ h h' → h'.1 101 (40 * r + (3 * k + 2)) = h.1 (4 + r) (3 * k + 2) := fun h' S => by rw [S _ _ (by decide) (by decide), E _ (by omega)]
    have cc : ∀ y : Int32, ∀ b : Bool, y = bI_ b → (if h.1 (4 + r) (3 * k + 2) < 0 then y = 0 else if (9 : Int32) < h.1 (4 + r) (3 * k + 2) then y = 0 else y = 1) → ff_X7_findingOfThrees_41 (nI r) (4 + r) h (m + (d + 1) + 1) (nI (3 * k)) = ff_X7_findingOfThrees_79 (nI r) (4 + r) (nI (3 * k)) y h (fun z3 => ff_X7_findingOfThrees_41 (nI r) (4 + r) h (m + d + 1) z3) := by
      intro y b yb ye
      rw [show m + (d + 1) + 1 = (m + d + 1) + 1 by omega, ff_X7_findingOfThrees_41, gd_n hr (by decide), nI_clamp (show r < 2 ^ 31 by omega), e1, show nI (3 * k) + 2 = nI (3 * k + 2) from nI_add _ 2, if_neg (nI_ge (by omega) (by omega)), gd_n (by omega) (by decide), nI_clamp (show 3 * k + 2 < 2 ^ 31 by omega)]
      unfold ff_X7_findingOfThrees_78
      by_cases q1 : h.1 (4 + r) (3 * k + 2) < 0
      · rw [if_pos q1] at ye
        rw [if_pos q1, ye]
      · rw [if_neg q1] at ye ⊢
        by_cases q2 : (9 : Int32) < h.1 (4 + r) (3 * k + 2)
        · rw [if_pos q2] at ye
          rw [if_pos q2, ye]
        · rw [if_neg q2] at ye ⊢
          rw [ye]
    have hm0 : ∀ h', sm_ h h' → ∀ (x2 : Int32) (KK : Option (Int32 × hh_)) (m' : Nat), ff_X8_learn_50 (nI r) x2 h' KK (m' + (d + 1) + 1) (nI (3 * k)) = if ff_X8_isHead (h.1 (4 + r) (3 * k)) h' = 0 then some (-3, mre_ 3 h') else if ff_X8_isPlace (h.1 (4 + r) (3 * k + 1)) = 0 then some (-3, mre_ 3 h') else if ff_X8_in (h.1 (4 + r) (3 * k + 2)) 0 9 = 0 then some (-3, mre_ 3 h') else ff_X8_learn_50 (nI r) x2 h' KK (m' + d + 1) (nI (3 * (k + 1))) := by
      intro h' S x2 KK m'
      rw [show m' + (d + 1) + 1 = (m' + d + 1) + 1 by omega, ff_X8_learn_50, gd_n hr (by decide), nI_clamp (by omega), S _ _ (by decide) (by decide), e2, if_neg (nI_ge (by omega) (by omega)), ra_ h' hr (by omega), Option.bind_some, g0 h' S, nI_1, ra_ h' hr (by omega), Option.bind_some, g1 h' S, show nI (3 * k) + 2 = nI (3 * k + 2) from nI_add _ 2, ra_ h' hr (by omega), Option.bind_some, g2 h' S, show nI (3 * k) + 3 = nI (3 * (k + 1)) from nI_add _ 3, show (3 : Int32) = nI 3 from rfl, rfM (by decide)]
      rfl
    have c79 : ∀ (y : Int32), ff_X7_findingOfThrees_79 (nI r) (4 + r) (nI (3 * k)) y h (fun z3 => ff_X7_findingOfThrees_41 (nI r) (4 + r) h (m + d + 1) z3) = (ff_X2_has h.2.2.1 0 (h.1 (4 + r) (3 * k)) h).bind fun v9 => if v9 = 0 then some 3 else if ff_X7_isPlace (h.1 (4 + r) (3 * k + 1)) = 0 then some 3 else if y = 0 then some 3 else ff_X7_findingOfThrees_41 (nI r) (4 + r) h (m + d + 1) (nI (3 * (k + 1))) := by
      intro y
      unfold ff_X7_findingOfThrees_79
      rw [gd_t B, gd_n (by omega) (by decide), nI_clamp (by omega), nI_1, show nI (3 * k) + 3 = nI (3 * (k + 1)) from nI_add _ 3, gd_n (by omega) (by decide), nI_clamp (by omega)]
    rcases hs_0 (h.1 (4 + r) (3 * k)) K C M with ⟨i, hi, ei, c1, m1⟩ | ⟨c1, m1⟩
    · rcases pl_ (h.1 (4 + r) (3 * k + 1)) with ⟨j, hj, ej, c2, m2⟩ | ⟨c2, m2⟩
      · rcases fo_cases (h.1 (4 + r) (3 * k + 2)) with ⟨v, hv, ev, n1, n2, m3⟩ | ⟨n1, m3⟩
        · have ye : (if h.1 (4 + r) (3 * k + 2) < 0 then (1 : Int32) = 0 else if (9 : Int32) < h.1 (4 + r) (3 * k + 2) then (1 : Int32) = 0 else (1 : Int32) = 1) := by
            rw [if_neg n1, if_neg]
            rw [ev]
            exact fun w => absurd ((nI_ltI (a := 9) (by omega) (by omega)).mp w) (by omega)
          have cl : ff_X7_findingOfThrees_41 (nI r) (4 + r) h (m + (d + 1) + 1) (nI (3 * k)) = ff_X7_findingOfThrees_41 (nI r) (4 + r) h (m + d + 1) (nI (3 * (k + 1))) := by
            rw [cc 1 true rfl ye, c79, c1, Option.bind_some, if_neg n10, c2, if_neg n10, if_neg n10]
          have ml : ∀ h', sm_ h h' → ∀ (x2 : Int32) (KK : Option (Int32 × hh_)) (m' : Nat), ff_X8_learn_50 (nI r) x2 h' KK (m' + (d + 1) + 1) (nI (3 * k)) = ff_X8_learn_50 (nI r) x2 h' KK (m' + d + 1) (nI (3 * (k + 1))) := by
            intro h' S x2 KK m'
            rw [hm0 h' S, S.iH m1, if_neg n10, m2, if_neg n10, m3, if_neg n10]
          rcases ih (k + 1) m (by omega) with ⟨w1, w2⟩ | ⟨w1, w2, w3⟩
          · exact Or.inl ⟨cl.trans w1, fun h' x2 KK m' S => (ml h' S x2 KK m').trans (w2 h' x2 KK m' S)⟩
          · refine Or.inr ⟨cl.trans w1, fun h' x2 KK m' S => (ml h' S x2 KK m').trans (w2 h' x2 KK m' S), fun x h1 h2 => ?_⟩
            by_cases q : x = k
            · subst q
              exact ⟨i, j, v, hi, hj, hv, ei, ej, ev⟩
            · exact w3 x (by omega) h2
        · refine Or.inl ⟨?_, fun h' x2 KK m' S => ?_⟩
          · have ye : (if h.1 (4 + r) (3 * k + 2) < 0 then (0 : Int32) = 0 else if (9 : Int32) < h.1 (4 + r) (3 * k + 2) then (0 : Int32) = 0 else (0 : Int32) = 1) := by
              rcases n1 with q | ⟨q, q2⟩
              · rw [if_pos q]
              · rw [if_neg q, if_pos]
                rw [Int32.le_iff_toInt_le] at q2
                rw [Int32.lt_iff_toInt_lt]
                omega
            rw [cc 0 false rfl ye, c79, c1, Option.bind_some, if_neg n10, c2, if_neg n10, if_pos rfl]
            rfl
          · rw [hm0 h' S, S.iH m1, if_neg n10, m2, if_neg n10, m3, if_pos rfl]
      · have key : ∃ y b, y = bI_ b ∧ (if h.1 (4 + r) (3 * k + 2) < 0 then y = 0 else if (9 : Int32) < h.1 (4 + r) (3 * k + 2) then y = 0 else y = 1) := by
          by_cases q1 : h.1 (4 + r) (3 * k + 2) < 0
          · exact ⟨0, false, rfl, by rw [if_pos q1]⟩
          · by_cases q2 : (9 : Int32) < h.1 (4 + r) (3 * k + 2)
            · exact ⟨0, false, rfl, by rw [if_neg q1, if_pos q2]⟩
            · exact ⟨1, true, rfl, by rw [if_neg q1, if_neg q2]⟩
        obtain ⟨y, b, yb, ye⟩ := key
        refine Or.inl ⟨?_, fun h' x2 KK m' S => ?_⟩
        · rw [cc y b yb ye, c79, c1, Option.bind_some, if_neg n10, c2, if_pos rfl]
          rfl
        · rw [hm0 h' S, S.iH m1, if_neg n10, m2, if_pos rfl]
    · have key : ∃ y b, y = bI_ b ∧ (if h.1 (4 + r) (3 * k + 2) < 0 then y = 0 else if (9 : Int32) < h.1 (4 + r) (3 * k + 2) then y = 0 else y = 1) := by
        by_cases q1 : h.1 (4 + r) (3 * k + 2) < 0
        · exact ⟨0, false, rfl, by rw [if_pos q1]⟩
        · by_cases q2 : (9 : Int32) < h.1 (4 + r) (3 * k + 2)
          · exact ⟨0, false, rfl, by rw [if_neg q1, if_pos q2]⟩
          · exact ⟨1, true, rfl, by rw [if_neg q1, if_neg q2]⟩
      obtain ⟨y, b, yb, ye⟩ := key
      refine Or.inl ⟨?_, fun h' x2 KK m' S => ?_⟩
      · rw [cc y b yb ye, c79, c1, Option.bind_some, if_pos rfl]
        rfl
      · rw [hm0 h' S, S.iH m1, if_pos rfl]
/-- a kind with a wish fits one of the threes -/
def l_ok (D : od_) (A B V : Nat → Nat) (c p e k : Nat) : Bool := decide (V k ≤ mo_ c (if p = B k then 1 else 0) (fe_ D (A k) (B k) 0) + e ∧ mo_ c (if p = B k then 1 else 0) (fe_ D (A k) (B k) 0) ≤ V k + e)
theorem l_mb {D : od_} (K : oK_ D) {i j c p : Nat} (hi : i < d_m D) (hj : j < 4) : fe_ D i j 0 < 8 ∧ mo_ c (if p = j then 1 else 0) (fe_ D i j 0) < 10 := by
  have b := (K.2.2.2.2.1 i hi).1 j hj
  have f := fe_le K (x := 0) hi hj
  have g := mo_le c (if p = j then 1 else 0) (fe_ D i j 0)
  refine ⟨by omega, ?_⟩
  split at g <;> rename_i q
  · rw [if_pos q]; omega
  · rw [if_neg q]; omega
theorem l_14 {D : od_} {h : hh_} {r n N c p e : Nat} {A B V : Nat → Nat} (bo : bo_ h.2.2.1 = true) (K : oK_ D) (C : oC_ h.2.2.1 h D) (hr : r < 6) (hn : n ≤ 40) (hN : n = 3 * N) (e1 : h.1 10 r = nI n) (Q : t3_ D h r N A B V) (hc : c < 6) (hp : p < 4) (he : e < 3) : ∀ (d k m : Nat), k + d = N → ff_X7_threesFit_14 (nI r) (nI c) (nI e) (nI p) (4 + r) h (m + d + 1) (nI (3 * k)) = some (bI_ (all_ (l_ok D A B V c p e) d k)) := by
  intro d
  induction d with
  | zero =>
    intro k m ee
    rw [ff_X7_threesFit_14, gd_n hr (by decide), nI_clamp (by omega), e1, show nI (3 * k) + 2 = nI (3 * k + 2) from nI_add _ 2, if_pos (nI_le (by omega) (by omega))]
    rfl
  | succ d ih =>
    intro k m ee
    obtain ⟨q1, q2, q3, q4, q5, q6, -⟩ := Q k (by omega)
    obtain ⟨b1, b2⟩ := l_mb K (c := c) (p := p) q1 q2
    have bd := (K.2.2.2.2.1 _ q1).1 _ q2
    have step : ∀ w : Nat, w = (if p = B k then 1 else 0) → ff_X7_threesFit_52 (nI r) (nI c) (nI e) (nI p) (4 + r) (nI (3 * k)) (nI (B k)) (nI c) (nI w) h (fun z6 => ff_X7_threesFit_14 (nI r) (nI c) (nI e) (nI p) (4 + r) h (m + d + 1) z6) = some (bI_ (all_ (l_ok D A B V c p e) (d + 1) k)) := by
      intro w hw
      have w2 : w < 2 := by rw [hw]; split <;> decide
      unfold ff_X7_threesFit_52
      rw [gd_t bo, gd_n (by omega) (by decide), nI_clamp (by omega), q4, fe_C0 K C q1 q2, Option.bind_some, md_C2, md_C1 _ hc _ w2 _ b1, Option.bind_some, show nI (3 * k) + 2 = nI (3 * k + 2) from nI_add _ 2, gd_n (by omega) (by decide), nI_clamp (by omega), q6, show nI (3 * k) + 3 = nI (3 * (k + 1)) from nI_add _ 3]
      show (if _ ≤ nI e then ff_X7_threesFit_14 (nI r) (nI c) (nI e) (nI p) (4 + r) h (m + d + 1) (nI (3 * (k + 1))) else some 0) = _
      rw [ih (k + 1) m (by omega), all_]
      rw [← hw] at b2
      have cm := l_c1 (V k) (by omega) (mo_ c w (fe_ D (A k) (B k) 0)) b2 e he
      by_cases z : V k ≤ mo_ c w (fe_ D (A k) (B k) 0) + e ∧ mo_ c w (fe_ D (A k) (B k) 0) ≤ V k + e
      · rw [if_pos (cm.mpr z), show l_ok D A B V c p e k = true by unfold l_ok; rw [← hw]; exact decide_eq_true z, Bool.true_and]
      · rw [if_neg (fun y => z (cm.mp y)), show l_ok D A B V c p e k = false by unfold l_ok; rw [← hw]; exact decide_eq_false z, Bool.false_and]
        rfl
    rw [show m + (d + 1) + 1 = (m + d + 1) + 1 by omega, ff_X7_threesFit_14, gd_n hr (by decide), nI_clamp (show r < 2 ^ 31 by omega), e1, show nI (3 * k) + 2 = nI (3 * k + 2) from nI_add _ 2, if_neg (nI_ge (by omega) (by omega)), nI_1, gd_n (by omega) (by decide), nI_clamp (show 3 * k + 1 < 2 ^ 31 by omega), q5]
    by_cases z : B k = p
    · rw [if_pos (by rw [z])]
      exact step 1 (by rw [if_pos z.symm])
    · rw [if_neg (fun y => z ((nI_eq (by omega) (by omega)).mp y))]
      exact step 0 (by rw [if_neg (fun y => z y.symm)])
theorem l_6 {D : od_} {h : hh_} {r n N c p e : Nat} {A B V : Nat → Nat} (K : oK_ D) (M : oM_ h D) (hr : r < 6) (hn : n ≤ 40) (hN : n = 3 * N) (e1 : h.1 100 r = nI n) (Q : t3_ D h r N A B V) (hc : c < 6) (hp : p < 4) (he : e < 3) : ∀ (d k m : Nat) (b : Bool), k + d = N → ff_X8_doesLearn_6 (nI r) (nI c) (nI p) (nI e) h (m + d + 1) (bI_ b) (nI (3 * k)) = some (bI_ (b && all_ (l_ok D A B V c p e) d k)) := by
  intro d
  induction d with
  | zero =>
    intro k m b ee
    have bz : bz_ (bI_ b) = true := by cases b <;> rfl
    rw [ff_X8_doesLearn_6, gd_n hr (by decide), nI_clamp (by omega), e1, if_pos (nI_le (by omega) (by omega)), gd_t bz, all_, Bool.and_true]
  | succ d ih =>
    intro k m b ee
    obtain ⟨q1, q2, q3, -, -, -, q4, q5, q6⟩ := Q k (by omega)
    obtain ⟨b1, b2⟩ := l_mb K (c := c) (p := p) q1 q2
    have i0 : ff_X8_doesLearn_6 (nI r) (nI c) (nI p) (nI e) h (m + d + 1) 0 (nI (3 * (k + 1))) = some (bI_ false) := (ih (k + 1) m false (by omega)).trans (by rw [Bool.false_and])
    have i1 : ff_X8_doesLearn_6 (nI r) (nI c) (nI p) (nI e) h (m + d + 1) 1 (nI (3 * (k + 1))) = some (bI_ (all_ (l_ok D A B V c p e) d (k + 1))) := (ih (k + 1) m true (by omega)).trans (by rw [Bool.true_and])
    rw [show m + (d + 1) + 1 = (m + d + 1) + 1 by omega, ff_X8_doesLearn_6, gd_n hr (by decide), nI_clamp (by omega), e1, if_neg (nI_ge (by omega) (by omega)), nI_1, ra_ h hr (by omega), Option.bind_some, q5, ra_ h hr (by omega), Option.bind_some, q4, fe_M K M q1 q2, Option.bind_some, show nI (3 * k) + 3 = nI (3 * (k + 1)) from nI_add _ 3, i0, i1, show nI (3 * k) + 2 = nI (3 * k + 2) from nI_add _ 2, ra_ h hr (by omega), Option.bind_some, q6, mo_M c hc p hp (B k) q2 _ b1, l_c2 (V k) (by omega) _ b2 e he, all_]
    cases b with
    | false => rw [if_pos (show bI_ false = 0 from rfl), Bool.false_and]
    | true =>
      rw [if_neg (show ¬ bI_ true = 0 by decide), Bool.true_and]
      show (if bI_ (l_ok D A B V c p e k) = 0 then _ else _) = _
      cases l_ok D A B V c p e k with
      | false => rw [if_pos (show bI_ false = 0 from rfl), Bool.false_and]
      | true => rw [if_neg (show ¬ bI_ true = 0 by decide), Bool.true_and]
/-- kinds and wishes in turn -/
def ln_ (f : Nat → Bool) : Nat → Nat → Int32 × Int32 → Int32 × Int32
  | 0, _, z => z
  | d + 1, x, z => ln_ f d (x + 1) (if f x = true then (z.1 ||| ((1 : Int32) <<< (nI (x / 4) &&& 31)), z.2 ||| ((1 : Int32) <<< (nI (x % 4) &&& 31))) else z)
theorem ln_a {f : Nat → Bool} : ∀ (a b x : Nat) (z : Int32 × Int32), ln_ f (a + b) x z = ln_ f b (x + a) (ln_ f a x z) := by
  intro a
  induction a with
  | zero => intro b x z; rw [Nat.zero_add]; rfl
  | succ a ih =>
    intro b x z
    rw [show a + 1 + b = (a + b) + 1 by omega, ln_, ln_, ih, show x + 1 + a = x + (a + 1) by omega]
def l_f (D : od_) (A B V : Nat → Nat) (N e x : Nat) : Bool := all_ (l_ok D A B V (x / 4) (x % 4) e) N 0
theorem l_60 {D : od_} {h : hh_} {r n N c e : Nat} {A B V : Nat → Nat} {KK : Int32 → Int32 → Option (Int32 × hh_)} (bo : bo_ h.2.2.1 = true) (K : oK_ D) (C : oC_ h.2.2.1 h D) (hr : r < 6) (hn : n ≤ 40) (hN : n = 3 * N) (e1 : h.1 10 r = nI n) (Q : t3_ D h r N A B V) (hc : c < 6) (he : e < 3) : ∀ (d p m : Nat) (z : Int32 × Int32), p + d = 4 → ff_X7_learn_60 (nI r) (nI e) (nI c) h KK (m + d + 1) z.1 z.2 (nI p) = KK (ln_ (l_f D A B V N e) d (4 * c + p) z).1 (ln_ (l_f D A B V N e) d (4 * c + p) z).2 := by
  obtain ⟨k, hk⟩ := fu_ N (by omega)
  intro d
  induction d with
  | zero =>
    intro p m z ee
    rw [ff_X7_learn_60, if_pos (show (4 : Int32) ≤ nI p from nI_le (a := 4) (by omega) (by omega))]
    rfl
  | succ d ih =>
    intro p m z ee
    rw [show m + (d + 1) + 1 = (m + d + 1) + 1 by omega, ff_X7_learn_60, if_neg (show ¬ (4 : Int32) ≤ nI p from nI_ge (b := 4) (by omega) (by omega))]
    unfold ff_X7_threesFit
    rw [gd_n hr (by decide), nI_clamp (by omega), hk, show (0 : Int32) = nI (3 * 0) from rfl, l_14 bo K C hr hn hN e1 Q hc (by omega) he N 0 k (by omega), Option.bind_some, nI_1, ln_]
    have ex : (4 * c + p) / 4 = c ∧ (4 * c + p) % 4 = p := by omega
    have ef : l_f D A B V N e (4 * c + p) = all_ (l_ok D A B V c p e) N 0 := by unfold l_f; rw [ex.1, ex.2]
    rw [ef, ex.1, ex.2]
    by_cases q : all_ (l_ok D A B V c p e) N 0 = true
    · rw [q, if_neg (show ¬ bI_ true = nI (3 * 0) by decide), if_pos rfl]
      exact ih (p + 1) m (z.1 ||| ((1 : Int32) <<< (nI c &&& 31)), z.2 ||| ((1 : Int32) <<< (nI p &&& 31))) (by omega)
    · rw [Bool.eq_false_iff.mpr q, if_pos (show bI_ false = nI (3 * 0) from rfl), if_neg (by decide)]
      exact ih (p + 1) m z (by omega)
theorem l_50 {D : od_} {h : hh_} {r n N e : Nat} {A B V : Nat → Nat} (bo : bo_ h.2.2.1 = true) (K : oK_ D) (C : oC_ h.2.2.1 h D) (hr : r < 6) (hn : n ≤ 40) (hN : n = 3 * N) (e1 : h.1 10 r = nI n) (Q : t3_ D h r N A B V) (he : e < 3) : ∀ (d c m : Nat) (z : Int32 × Int32), c + d = 6 → ff_X7_learn_50 (nI r) (nI e) h (m + d + 1) z.1 z.2 (nI c) = some ((ln_ (l_f D A B V N e) (4 * d) (4 * c) z).1, cte_ (ln_ (l_f D A B V N e) (4 * d) (4 * c) z).2 h) := by
  obtain ⟨k, hk⟩ := fu_ 4 (by omega)
  intro d
  induction d with
  | zero =>
    intro c m z ee
    rw [ff_X7_learn_50, if_pos (show (6 : Int32) ≤ nI c from nI_le (a := 6) (by omega) (by omega))]
    rfl
  | succ d ih =>
    intro c m z ee
    rw [show m + (d + 1) + 1 = (m + d + 1) + 1 by omega, ff_X7_learn_50, if_neg (show ¬ (6 : Int32) ≤ nI c from nI_ge (b := 6) (by omega) (by omega)), hk]
    refine (l_60 bo K C hr hn hN e1 Q (by omega) he 4 0 k z rfl).trans ?_
    rw [nI_1, ih (c + 1) m _ (by omega), show 4 * (d + 1) = 4 + 4 * d by omega, ln_a, show 4 * (c + 1) = 4 * c + 4 by omega]
    rfl
theorem l_129 {D : od_} {h : hh_} {r n N e : Nat} {A B V : Nat → Nat} (K : oK_ D) (M : oM_ h D) (hr : r < 6) (hn : n ≤ 40) (hN : n = 3 * N) (e1 : h.1 100 r = nI n) (Q : t3_ D h r N A B V) (he : e < 3) : ∀ (d x m : Nat) (z : Int32 × Int32), x + d = 24 → ff_X8_learn_129 (nI r) (nI e) h (m + d + 1) z.1 z.2 (nI x) = some ((ln_ (l_f D A B V N e) d x z).1, mte_ (ln_ (l_f D A B V N e) d x z).2 h) := by
  obtain ⟨k, hk⟩ := fu_ N (by omega)
  intro d
  induction d with
  | zero =>
    intro x m z ee
    rw [ff_X8_learn_129, if_pos (show (24 : Int32) ≤ nI x from nI_le (a := 24) (by omega) (by omega))]
    rfl
  | succ d ih =>
    intro x m z ee
    obtain ⟨d1, d2⟩ := l_d4 x (by omega)
    have lf := l_6 (c := x / 4) (p := x % 4) K M hr hn hN e1 Q (by omega) (by omega) he N 0 k true (by omega)
    rw [Bool.true_and] at lf
    have lf2 : ff_X8_doesLearn (nI r) (nI (x / 4)) (nI (x % 4)) (nI e) h = some (bI_ (l_f D A B V N e x)) := by
      unfold ff_X8_doesLearn
      rw [hk]
      exact lf
    rw [show m + (d + 1) + 1 = (m + d + 1) + 1 by omega, ff_X8_learn_129, if_neg (show ¬ (24 : Int32) ≤ nI x from nI_ge (b := 24) (by omega) (by omega)), d2, d1, lf2, Option.bind_some, ln_]
    unfold ff_X8_learn_169
    rw [d2, nI_1]
    by_cases q : l_f D A B V N e x = true
    · rw [q, if_neg (show ¬ bI_ true = 0 by decide), if_neg (show ¬ bI_ true = 0 by decide), if_pos rfl]
      exact ih (x + 1) m (z.1 ||| ((1 : Int32) <<< (nI (x / 4) &&& 31)), z.2 ||| ((1 : Int32) <<< (nI (x % 4) &&& 31))) (by omega)
    · rw [Bool.eq_false_iff.mpr q, if_pos (show bI_ false = 0 from rfl), if_pos (show bI_ false = 0 from rfl), if_neg (by decide), or_0, or_0]
      exact ih (x + 1) m z (by omega)
/-- 38: learn -/
theorem st_38 : sp_38 inv_ := by
  intro h a1 a2 H
  obtain ⟨hn, D, F, ds, n, K, C, M, -⟩ := H.2.2.2
  have bo := H.2.2.2.nwB
  rcases al_r a1 h with ⟨r, hr, rfl, q1, q2⟩ | ⟨q1, q2⟩
  · rcases rg_ a2 2 (by decide) with ⟨e, he, rfl, p1, p2, p3⟩ | ⟨p1, p3⟩
    · rcases lk_r hr (H.2.1 r hr) with ⟨l0, l1⟩ | ⟨n, hn, l0, l1, l2, l3⟩
      · refine rd_ H 3 (-3) 0 (by decide) ?_ (fun h' S => ?_)
        · unfold ff_X7_learn ff_X7_findingOfThrees
          rw [q1, if_neg n10, if_neg p1, if_pos (show nI e ≤ 2 from p2), l0, Option.bind_some, if_neg n10, Option.bind_some, if_neg n10, show (1 : Int32) = nI 1 from rfl, rfC (by decide)]
          rfl
        · unfold ff_X8_learn
          rw [q2, if_neg n10, show (2 : Int32) = nI 2 from rfl, p3, if_neg n10, ar_n hr (by rw [S _ _ (by decide) (by decide)]; exact l1), Option.bind_some, if_neg m3_neg]
          rfl
      · by_cases n3 : n % 3 = 0
        · obtain ⟨N, hN⟩ : ∃ N, n = 3 * N := ⟨n / 3, by omega⟩
          obtain ⟨k, hk⟩ := fu_ N (by omega)
          obtain ⟨k6, hk6⟩ := fu_ 6 (by decide)
          obtain ⟨k24, hk24⟩ := fu_ 24 (by decide)
          have fC : ff_X7_findingOfThrees (nI r) h = ff_X7_findingOfThrees_41 (nI r) (4 + r) h (k + N + 1) (nI (3 * 0)) := by
            unfold ff_X7_findingOfThrees
            rw [l0, Option.bind_some, if_pos rfl, gd_n hr (by decide), nI_clamp (by omega), l1, if_pos ((l_m3 n (by omega)).mpr n3), hk]
            rfl
          have fM : ∀ h', sm_ h h' → ff_X8_learn (nI r) (nI e) h' = ff_X8_learn_50 (nI r) (nI e) h' (ff_X8_learn_129 (nI r) (nI e) h' FU_ 0 0 0) (k + N + 1) (nI (3 * 0)) := by
            intro h' S
            have s0 : h'.1 100 r = nI n := by rw [S _ _ (by decide) (by decide)]; exact l2
            unfold ff_X8_learn
            rw [q2, if_neg n10, show (2 : Int32) = nI 2 from rfl, p3, if_neg n10, ar_s hr (show n < 2 ^ 31 by omega) s0, Option.bind_some, if_pos (show (0 : Int32) ≤ 0 by decide), gd_n hr (by decide), nI_clamp (by omega), s0, if_pos ((l_m3 n (by omega)).mpr n3)]
            exact congrArg (fun q => ff_X8_learn_50 (nI r) (nI e) h' (ff_X8_learn_129 (nI r) (nI e) h' FU_ 0 0 0) q (nI 0)) hk
          rcases l_41 bo K C M hr hn hN l1 l2 l3 N 0 k (by omega) with ⟨w1, w2⟩ | ⟨w1, w2, w3⟩
          · refine rd_ H 5 (-3) 0 (by decide) ?_ (fun h' S => ?_)
            · unfold ff_X7_learn
              rw [q1, if_neg n10, if_neg p1, if_pos (show nI e ≤ 2 from p2), fC, w1, Option.bind_some, if_neg (by decide), rfC (by decide)]
              rfl
            · rw [fM h' S, w2 h' _ _ _ S]
              rfl
          · have Q : t3_ D h r N (fun k => Int32.toNatClampNeg (h.1 (4 + r) (3 * k))) (fun k => Int32.toNatClampNeg (h.1 (4 + r) (3 * k + 1))) (fun k => Int32.toNatClampNeg (h.1 (4 + r) (3 * k + 2))) := by
              intro k hk
              obtain ⟨i, j, v, hi, hj, hv, e1, e2, e3⟩ := w3 k (Nat.zero_le _) hk
              have hm := K.1
              rw [← l3 (3 * k) (by omega), ← l3 (3 * k + 1) (by omega), ← l3 (3 * k + 2) (by omega), e1, e2, e3]
              show Int32.toNatClampNeg (h.1 (4 + r) (3 * k)) < _ ∧ Int32.toNatClampNeg (h.1 (4 + r) (3 * k + 1)) < _ ∧ Int32.toNatClampNeg (h.1 (4 + r) (3 * k + 2)) ≤ _ ∧ nI i = nI (Int32.toNatClampNeg (h.1 (4 + r) (3 * k))) ∧ nI j = nI (Int32.toNatClampNeg (h.1 (4 + r) (3 * k + 1))) ∧ nI v = nI (Int32.toNatClampNeg (h.1 (4 + r) (3 * k + 2))) ∧ nI i = nI (Int32.toNatClampNeg (h.1 (4 + r) (3 * k))) ∧ nI j = nI (Int32.toNatClampNeg (h.1 (4 + r) (3 * k + 1))) ∧ nI v = nI (Int32.toNatClampNeg (h.1 (4 + r) (3 * k + 2)))
              rw [e1, e2, e3, nI_clamp (by omega), nI_clamp (by omega), nI_clamp (by omega)]
              exact ⟨hi, hj, hv, rfl, rfl, rfl, rfl, rfl, rfl⟩
            have c50 := l_50 bo K C hr hn hN l1 Q (show e < 3 by omega) 6 0 k6 (0, 0) rfl
            refine rd_ H 1 _ _ (by decide) (c50.symm.trans ?_).symm (fun h' S => ?_)
            · unfold ff_X7_learn
              rw [q1, if_neg n10, if_neg p1, if_pos (show nI e ≤ 2 from p2), fC, w1, Option.bind_some, if_pos rfl, hk6]
              rfl
            · rw [fM h' S, w2 h' _ _ _ S, hk24]
              exact l_129 K (S.oM M) hr hn hN (by rw [S _ _ (by decide) (by decide)]; exact l2) (Q.sm hr S) (show e < 3 by omega) 24 0 k24 (0, 0) rfl
        · refine rd_ H 7 (-3) 0 (by decide) ?_ (fun h' S => ?_)
          · unfold ff_X7_learn ff_X7_findingOfThrees
            rw [q1, if_neg n10, if_neg p1, if_pos (show nI e ≤ 2 from p2), l0, Option.bind_some, if_pos rfl, gd_n hr (by decide), nI_clamp (by omega), l1, if_neg (fun y => n3 ((l_m3 n (by omega)).mp y)), Option.bind_some, if_neg (by decide), show (5 : Int32) = nI 5 from rfl, rfC (by decide)]
            rfl
          · have s0 : h'.1 100 r = nI n := by rw [S _ _ (by decide) (by decide)]; exact l2
            unfold ff_X8_learn
            rw [q2, if_neg n10, show (2 : Int32) = nI 2 from rfl, p3, if_neg n10, ar_s hr (show n < 2 ^ 31 by omega) s0, Option.bind_some, if_pos (show (0 : Int32) ≤ 0 by decide), gd_n hr (by decide), nI_clamp (by omega), s0, if_neg (fun y => n3 ((l_m3 n (by omega)).mp y)), show (5 : Int32) = nI 5 from rfl, rfM (by decide)]
            rfl
    · refine rd_ H 0 (-1) 0 (by decide) ?_ (fun h' S => ?_)
      · unfold ff_X7_learn
        rw [q1, if_neg n10]
        rcases p1 with q | ⟨q, q2⟩
        · rw [if_pos q]; rfl
        · rw [if_neg q, if_neg (show ¬ a2 ≤ 2 from q2)]; rfl
      · unfold ff_X8_learn
        rw [q2, if_neg n10, show (2 : Int32) = nI 2 from rfl, p3, if_pos rfl]; rfl
  · refine rd_ H 0 (-1) 0 (by decide) ?_ (fun h' S => ?_)
    · unfold ff_X7_learn
      rw [q1, if_pos rfl]; rfl
    · unfold ff_X8_learn
      rw [q2, if_pos rfl]; rfl
