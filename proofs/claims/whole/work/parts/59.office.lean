/-! ===== office ===== -/
theorem z_val {x : Int32} {v : Nat} (hv : v < 2 ^ 31) (e : x = nI v) : Int32.toNatClampNeg x = v := by rw [e, nI_clamp hv]
/-- the items read, as an office's data -/
def zD_ (o a b c : Nat) (h : hh_) : od_ := (a, b, c, fun i j => Int32.toNatClampNeg (h.1 (o + 2 + i) j), fun t j => Int32.toNatClampNeg (h.1 (o + 14 + t) j), fun p j => Int32.toNatClampNeg (h.1 (o + 19 + p) j))
theorem zD_H {o a b c : Nat} {hC hM : hh_} (Z : zR_ o a b c hC hM) {i j : Nat} (hi : i < a) (hj : j < 5) : d_H (zD_ o a b c hC) i j ≤ hi_k 0 j ∧ hC.1 (o + 2 + i) j = nI (d_H (zD_ o a b c hC) i j) ∧ hM.1 108 (5 * i + j) = nI (d_H (zD_ o a b c hC) i j) := by
  obtain ⟨-, -, -, -, -, -, -, -, -, ZH, -, -⟩ := Z
  obtain ⟨v, v1, v2, v3⟩ := ZH i hi j hj
  have hb : hi_k 0 j ≤ 5 := by unfold hi_k; rw [if_pos rfl]; split <;> omega
  have e : d_H (zD_ o a b c hC) i j = v := z_val (by omega) v2
  rw [e]
  exact ⟨v1, v2, v3⟩
theorem zD_T {o a b c : Nat} {hC hM : hh_} (Z : zR_ o a b c hC hM) {t j : Nat} (ht : t < b) (hj : j < 3) : d_T (zD_ o a b c hC) t j ≤ (if j = 0 then 5 else if j = 1 then 2 else 3) ∧ hC.1 (o + 14 + t) j = nI (d_T (zD_ o a b c hC) t j) ∧ hM.1 108 (25 + (3 * t + j)) = nI (d_T (zD_ o a b c hC) t j) := by
  obtain ⟨-, -, -, -, -, -, -, -, -, -, ZT, -⟩ := Z
  obtain ⟨⟨v, v1, v2, v3⟩, ZZ⟩ := ZT t ht
  by_cases q : j = 0
  · subst q
    have e : d_T (zD_ o a b c hC) t 0 = v := z_val (by omega) v2
    rw [e]
    exact ⟨v1, v2, v3⟩
  · obtain ⟨w, w1, w2, w3⟩ := ZZ (j - 1) (by omega)
    have ej : 1 + (j - 1) = j := by omega
    have hb : hi_k 1 (j - 1) = if j = 1 then 2 else 3 := by
      rcases (show j = 1 ∨ j = 2 by omega) with rfl | rfl <;> rfl
    rw [ej] at w2
    rw [Nat.add_assoc, ej, Nat.add_assoc] at w3
    rw [hb] at w1
    have hw : w < 2 ^ 31 := by split at w1 <;> omega
    have e : d_T (zD_ o a b c hC) t j = w := z_val hw w2
    rw [e, if_neg q]
    exact ⟨w1, w2, w3⟩
theorem zD_P {o a b c : Nat} {hC hM : hh_} (Z : zR_ o a b c hC hM) {p j : Nat} (hp : p < c) (hj : j < 5) : lo_k 2 j ≤ d_P (zD_ o a b c hC) p j ∧ d_P (zD_ o a b c hC) p j ≤ hi_k 2 j ∧ hC.1 (o + 19 + p) j = nI (d_P (zD_ o a b c hC) p j) ∧ hM.1 108 (37 + (5 * p + j)) = nI (d_P (zD_ o a b c hC) p j) := by
  obtain ⟨-, -, -, -, -, -, -, -, -, -, -, ZP⟩ := Z
  obtain ⟨v, v0, v1, v2, v3⟩ := ZP p hp j hj
  have hb : hi_k 2 j ≤ 9 := by unfold hi_k; rw [if_neg (by decide), if_neg (by decide)]; split <;> omega
  have e : d_P (zD_ o a b c hC) p j = v := z_val (by omega) v2
  rw [e]
  rw [Nat.add_assoc] at v3
  exact ⟨v0, v1, v2, v3⟩
theorem zD_K {o a b c : Nat} {hC hM : hh_} (ha : 0 < a) (Z : zR_ o a b c hC hM) : oK_ (zD_ o a b c hC) := by
  refine ⟨Z.1, Z.2.1, Z.2.2.1, fun _ => ha, fun i hi => ⟨fun j hj => ?_, ?_⟩, fun t ht => ⟨?_, ?_, ?_⟩, fun p hp => ⟨fun j hj => ?_, ?_, ?_⟩⟩
  · have w := (zD_H Z (i := i) (j := j) hi (by omega)).1
    unfold hi_k at w
    rw [if_pos rfl, if_neg (by omega)] at w
    exact w
  · exact (zD_H Z (i := i) (j := 4) hi (by decide)).1
  · exact (zD_T Z (t := t) (j := 0) ht (by decide)).1
  · exact (zD_T Z (t := t) (j := 1) ht (by decide)).1
  · exact (zD_T Z (t := t) (j := 2) ht (by decide)).1
  · have w := (zD_P Z (p := p) (j := j) hp (by omega)).2.1
    unfold hi_k at w
    rw [if_neg (by decide), if_neg (by decide), if_neg (by omega)] at w
    exact w
  · exact (zD_P Z (p := p) (j := 4) hp (by decide)).1
  · exact (zD_P Z (p := p) (j := 4) hp (by decide)).2.1
/-- the reference's office after a text without fault -/
def zO_ (a b c : Nat) (h : hh_) : hh_ := hh_sI (hh_sI (hh_sI (hh_sI (fg_ (fg_ (fg_ (hh_sI (hh_sI (hh_sI h 98 10 (nI a)) 98 11 (nI b)) 98 12 (nI c)) 105 0 0 25 (fun j => h.1 108 j)) 106 0 0 12 (fun j => h.1 108 (25 + j))) 107 0 0 20 (fun j => h.1 108 (37 + j))) 98 21 0) 110 0 (-9)) 110 1030 (-9)) 110 2060 (-9)
theorem zO_2 {a b c : Nat} {h : hh_} : (zO_ a b c h).2 = h.2 := rfl
theorem zO_n {a b c y j : Nat} {h : hh_} (h1 : y ≠ 105) (h2 : y ≠ 106) (h3 : y ≠ 107) (h4 : y ≠ 110) (h5 : ¬ (y = 98 ∧ (j = 10 ∨ j = 11 ∨ j = 12 ∨ j = 21))) : (zO_ a b c h).1 y j = h.1 y j := by
  have s : ∀ (g : hh_) (k : Nat) (v : Int32), (k = 10 ∨ k = 11 ∨ k = 12 ∨ k = 21) → (hh_sI g 98 k v).1 y j = g.1 y j := fun g k v hk => by
    by_cases q : y = 98
    · exact sI_nj (fun z => h5 ⟨q, by omega⟩)
    · exact sI_ne q
  unfold zO_
  rw [sI_ne h4, sI_ne h4, sI_ne h4, s _ 21 _ (by omega), fg_ne h3, fg_ne h2, fg_ne h1, s _ 12 _ (by omega), s _ 11 _ (by omega), s _ 10 _ (by omega)]
theorem zO_98 {a b c : Nat} {h : hh_} : (zO_ a b c h).1 98 10 = nI a ∧ (zO_ a b c h).1 98 11 = nI b ∧ (zO_ a b c h).1 98 12 = nI c ∧ (zO_ a b c h).1 98 21 = 0 := by
  unfold zO_
  refine ⟨?_, ?_, ?_, ?_⟩
  · rw [sI_ne (by decide), sI_ne (by decide), sI_ne (by decide), sI_nj (by decide), fg_ne (by decide), fg_ne (by decide), fg_ne (by decide), sI_nj (by decide), sI_nj (by decide), sI_eq]
  · rw [sI_ne (by decide), sI_ne (by decide), sI_ne (by decide), sI_nj (by decide), fg_ne (by decide), fg_ne (by decide), fg_ne (by decide), sI_nj (by decide), sI_eq]
  · rw [sI_ne (by decide), sI_ne (by decide), sI_ne (by decide), sI_nj (by decide), fg_ne (by decide), fg_ne (by decide), fg_ne (by decide), sI_eq]
  · rw [sI_ne (by decide), sI_ne (by decide), sI_ne (by decide), sI_eq]
theorem zO_105 {a b c x : Nat} {h : hh_} (hx : x < 25) : (zO_ a b c h).1 105 x = h.1 108 x := by
  unfold zO_
  rw [sI_ne (by decide), sI_ne (by decide), sI_ne (by decide), sI_ne (by decide), fg_ne (by decide), fg_ne (by decide), fg_in0 (Nat.zero_le _) hx]
theorem zO_106 {a b c x : Nat} {h : hh_} (hx : x < 12) : (zO_ a b c h).1 106 x = h.1 108 (25 + x) := by
  unfold zO_
  rw [sI_ne (by decide), sI_ne (by decide), sI_ne (by decide), sI_ne (by decide), fg_ne (by decide), fg_in0 (Nat.zero_le _) hx]
theorem zO_107 {a b c x : Nat} {h : hh_} (hx : x < 20) : (zO_ a b c h).1 107 x = h.1 108 (37 + x) := by
  unfold zO_
  rw [sI_ne (by decide), sI_ne (by decide), sI_ne (by decide), sI_ne (by decide), fg_in0 (Nat.zero_le _) hx]
theorem zO_110 {a b c k : Nat} {h : hh_} (hk : k < 3) : (zO_ a b c h).1 110 (1030 * k) = -9 := by
  unfold zO_
  rcases (show k = 0 ∨ k = 1 ∨ k = 2 by omega) with rfl | rfl | rfl
  · rw [sI_nj (by decide), sI_nj (by decide), sI_eq]
  · rw [sI_nj (by decide), sI_eq]
  · exact sI_eq
theorem z_oM {r n a b c : Nat} {h hM : hh_} (hr : r < 4) (hn : n ≤ 80) (e : h.1 103 r = nI n) (g : ff_X8_goesOn (nI r) h = some (-9, hM)) (t0 : hM.1 98 17 = nI a) (t1 : hM.1 98 18 = nI b) (t2 : hM.1 98 19 = nI c) : ff_X8_office (nI r) h = some (nI a, zO_ a b c hM) := by
  obtain ⟨k1, hk1⟩ := fu_ 25 (by decide)
  obtain ⟨k2, hk2⟩ := fu_ 12 (by decide)
  obtain ⟨k3, hk3⟩ := fu_ 20 (by decide)
  unfold ff_X8_office
  rw [at_s hr (show n < 2 ^ 31 by omega) e, Option.bind_some, if_pos (show (0 : Int32) ≤ 0 by decide), g, Option.bind_some, if_pos rfl, t0, sI_nj (by decide), t1, sI_nj (by decide), sI_nj (by decide), t2]
  have e1 : ∀ KK, ff_X8_office_51 KK FU_ 0 (hh_sI (hh_sI (hh_sI hM 98 10 (nI a)) 98 11 (nI b)) 98 12 (nI c)) = KK (fg_ (hh_sI (hh_sI (hh_sI hM 98 10 (nI a)) 98 11 (nI b)) 98 12 (nI c)) 105 0 0 25 (fun j => hM.1 108 j)) := by
    intro KK
    rw [hk1]
    exact z_51 25 0 k1 _ rfl (fun j hj => by rw [sI_ne (by decide), sI_ne (by decide), sI_ne (by decide)])
  rw [e1]
  have e2 : ∀ KK, ff_X8_office_77 KK FU_ 0 (fg_ (hh_sI (hh_sI (hh_sI hM 98 10 (nI a)) 98 11 (nI b)) 98 12 (nI c)) 105 0 0 25 (fun j => hM.1 108 j)) = KK (fg_ (fg_ (hh_sI (hh_sI (hh_sI hM 98 10 (nI a)) 98 11 (nI b)) 98 12 (nI c)) 105 0 0 25 (fun j => hM.1 108 j)) 106 0 0 12 (fun j => hM.1 108 (25 + j))) := by
    intro KK
    rw [hk2]
    exact z_77 12 0 k2 _ rfl (fun j hj => by rw [fg_ne (by decide), sI_ne (by decide), sI_ne (by decide), sI_ne (by decide)])
  rw [e2]
  have e3 : ∀ KK, ff_X8_office_106 KK FU_ 0 (fg_ (fg_ (hh_sI (hh_sI (hh_sI hM 98 10 (nI a)) 98 11 (nI b)) 98 12 (nI c)) 105 0 0 25 (fun j => hM.1 108 j)) 106 0 0 12 (fun j => hM.1 108 (25 + j))) = KK (fg_ (fg_ (fg_ (hh_sI (hh_sI (hh_sI hM 98 10 (nI a)) 98 11 (nI b)) 98 12 (nI c)) 105 0 0 25 (fun j => hM.1 108 j)) 106 0 0 12 (fun j => hM.1 108 (25 + j))) 107 0 0 20 (fun j => hM.1 108 (37 + j))) := by
    intro KK
    rw [hk3]
    exact z_106 20 0 k3 _ rfl (fun j hj => by rw [fg_ne (by decide), fg_ne (by decide), sI_ne (by decide), sI_ne (by decide), sI_ne (by decide)])
  rw [e3, z_140, sI_nj (by decide), fg_ne (by decide), fg_ne (by decide), fg_ne (by decide), sI_nj (by decide), sI_nj (by decide), sI_eq]
  rfl
/-- 9: office -/
theorem st_9 : sp_9 inv_ := by
  intro h a1 H
  obtain ⟨ho, bo⟩ := z_od H
  have hnw := H.2.2.2.1
  rcases al_t a1 h with ⟨r, hr, rfl, q1, q2⟩ | ⟨q1, q2⟩
  · rcases lk_t hr (H.2.2.1 r hr) with ⟨l0, l1⟩ | ⟨n, hn, l0, l1, l2, l3⟩
    · refine rd_ H 3 (-3) 0 (by decide) ?_ (fun h' S => ?_)
      · unfold ff_X7_office
        rw [q1, if_neg n10, l0, Option.bind_some, if_neg n10, show (1 : Int32) = nI 1 from rfl, rfC (by decide)]
        rfl
      · unfold ff_X8_office
        rw [at_n hr (by rw [S _ _ (by decide) (by decide)]; exact l1), Option.bind_some, if_neg m3_neg]
        rfl
    · obtain ⟨o, eo⟩ : ∃ o, o = h.2.2.2.1 := ⟨_, rfl⟩
      rw [← eo] at ho bo
      obtain ⟨v0, hC, g0, w1, -, c1, c2, -, w5⟩ := z_into (hM := h) bo ho hr hn ⟨l2, fun x hx => (l3 x hx).symm⟩
      have cls : ff_X7_office (nI r) h = if v0 = -9 then (gd_ (bo_ hC.2.2.1) <| gd_ (bo_ hC.2.2.2.1) <| (ff_X2_goBack hC.2.2.2.1 (0 : Int32) (hh_sD (hh_sN hC hC.2.2.2.1) hC.2.2.1)).bind fun v9 => ff_X7_office_98 FU_ (0 : Int32) v9) else some (-4, hC) := by
        unfold ff_X7_office
        rw [q1, if_neg n10, l0, Option.bind_some, if_pos rfl, ← eo, gd_t bo, gd_n hr (by decide), nI_clamp (by omega), l1, w1, Option.bind_some]
      by_cases v9 : v0 = -9
      · rw [if_pos v9] at cls
        obtain ⟨a', b', c', ha', R'⟩ := w5 v9
        have cw : hC.2.2.1 = h.2.2.1 := c1.2.1
        have cd : hC.2.2.2.1 = o := c1.2.2.trans eo.symm
        have bw : bo_ hC.2.2.1 = true := by rw [cw]; exact H.2.2.2.nwB
        obtain ⟨hG, g1, g2, g3, g4, g5⟩ := gb_C (o := o) (a := 0) (mm := a') (h := hh_sD (hh_sN hC o) hC.2.2.1) (F := d_H (zD_ o a' b' c' hC)) (ds := fun _ => 0) R'.1 (by decide) (zD_K ha' R').2.2.2.2.1 (fun d hd => absurd hd (by omega)) R'.2.2.2.1 (fun y hy => absurd hy (by omega)) (fun i hi j hj => (zD_H R' hi hj).2.1)
        have g3' : ∀ k j, ¬ (o + 8 ≤ k ∧ k < o + 13) → ¬ (k = o ∧ j = 6) → hG.1 k j = hC.1 k j := g3
        have G2 : hG.2.2.1 = o ∧ hG.2.2.2.1 = h.2.2.1 ∧ hG.2.1 = h.2.1 := by
          rw [g2]
          exact ⟨rfl, cw, c1.1⟩
        obtain ⟨h1, e1⟩ : ∃ h1, h1 = hh_sI (hh_sI (hh_sI hG 89 2 (-1)) 92 2 (-1)) 95 2 (-1) := ⟨_, rfl⟩
        have E1 : ∀ c j, c ≠ 89 → c ≠ 92 → c ≠ 95 → h1.1 c j = hG.1 c j := fun c j a1 a2 a3 => by rw [e1, sI_ne a3, sI_ne a2, sI_ne a1]
        have E2 : h1.2 = hG.2 := by rw [e1]; rfl
        have cls2 : ff_X7_office (nI r) h = some (nI a', h1) := by
          rw [cls, gd_t bw, cd, gd_t bo]
          have g1' : ff_X2_goBack o 0 (hh_sD (hh_sN hC o) hC.2.2.1) = some hG := g1
          rw [g1', Option.bind_some, z_98 ho bo G2.1 (by rw [g3' _ _ (by omega) (by omega)]; exact R'.2.2.2.1), ← e1]
        have F1 : ∀ c j, c ≠ 19 → ¬ (o ≤ c ∧ c ≤ o + 24) → c ≠ 89 → c ≠ 92 → c ≠ 95 → h1.1 c j = h.1 c j := fun c j a1 a2 a3 a4 a5 => by
          rw [E1 c j a3 a4 a5, g3' c j (by omega) (by omega), c2 c j a1 a2]
        have ZM : zM_ r n (fun x => h.1 (13 + r) x) h1 := ⟨by rw [F1 _ _ (by omega) (by omega) (by omega) (by omega) (by omega)]; exact l2, fun x hx => by rw [F1 _ _ (by omega) (by omega) (by omega) (by omega) (by omega)]; exact (l3 x hx).symm⟩
        obtain ⟨v, hC', hM, u1, u2, -, -, u3, u5⟩ := z_into bo ho hr hn ZM
        have e0 := Option.some.inj (w1.symm.trans u1)
        have ev : v0 = v := congrArg Prod.fst e0
        have eC : hC = hC' := congrArg Prod.snd e0
        subst ev
        subst eC
        obtain ⟨a, b, c, ha, R⟩ := u5 v9
        rw [v9] at u2
        have aa : a' = a := by
          have z : nI a' = nI a := R'.2.2.2.1.symm.trans R.2.2.2.1
          have := R.1
          have := R'.1
          exact (nI_eq (by omega) (by omega)).mp z
        subst aa
        have K := zD_K ha R
        have ra := R.1
        have rb := R.2.1
        have rc := R.2.2.1
        refine ⟨nI a', h1, zO_ a' b c hM, cls2, z_oM hr hn ZM.1 u2 R.2.2.2.2.2.2.1 R.2.2.2.2.2.2.2.1 R.2.2.2.2.2.2.2.2.1, ?_⟩
        have XF : ∀ y j, y ≠ 19 → ¬ (o ≤ y ∧ y ≤ o + 24) → y ≠ 89 → y ≠ 92 → y ≠ 95 → y ≠ 105 → y ≠ 106 → y ≠ 107 → y ≠ 108 → y ≠ 110 → ¬ (y = 98 ∧ (j = 10 ∨ j = 11 ∨ j = 12 ∨ j = 21 ∨ (16 ≤ j ∧ j ≤ 19))) → (zO_ a' b c hM).1 y j = h.1 y j := fun y j a1 a2 a3 a4 a5 a6 a7 a8 a9 a10 a11 => by
          rw [zO_n a6 a7 a8 a10 (by omega), u3.2 y j a9 (by omega), F1 y j a1 a2 a3 a4 a5]
        have XO : ∀ y j, o ≤ y ∧ y ≤ o + 24 → (zO_ a' b c hM).1 y j = hG.1 y j := fun y j q => by
          rw [zO_n (by omega) (by omega) (by omega) (by omega) (by omega), u3.2 y j (by omega) (by omega), E1 y j (by omega) (by omega) (by omega)]
        have X2 : (zO_ a' b c hM).2 = hG.2 := by rw [zO_2, u3.1, E2]
        have XC : ∀ y j, o ≤ y ∧ y ≤ o + 24 → ¬ (o + 8 ≤ y ∧ y < o + 13) → ¬ (y = o ∧ j = 6) → (zO_ a' b c hM).1 y j = hC.1 y j := fun y j q q2 q3 => by rw [XO y j q, g3' y j q2 q3]
        have gH : ∀ i, i < a' → ∀ j, j < 5 → hG.1 (o + 8 + i) j = nI (d_H (zD_ o a' b c hC) i j) := g5
        refine ⟨H.1.fr (fun y j q => XF y j (by omega) (by omega) (by omega) (by omega) (by omega) (by omega) (by omega) (by omega) (by omega) (by omega) (by omega)) (fun y j q => by rw [X2, G2.2.2]), H.2.1.fr (fun y j q => XF y j (by omega) (by omega) (by omega) (by omega) (by omega) (by omega) (by omega) (by omega) (by omega) (by omega) (by omega)), H.2.2.1.fr (fun y j q => XF y j (by omega) (by omega) (by omega) (by omega) (by omega) (by omega) (by omega) (by omega) (by omega) (by omega) (by omega)), ?_⟩
        unfold iO_
        rw [X2, G2.1, G2.2.1]
        refine ⟨by omega, zD_ o a' b c hC, d_H (zD_ o a' b c hC), fun _ => 0, 0, K, ⟨?_, ?_, ?_, fun i hi j hj => ?_, fun t ht j hj => ?_, fun p hp j hj => ?_⟩, ⟨?_, ?_, ?_, fun i hi j hj => ?_, fun t ht j hj => ?_, fun p hp j hj => ?_⟩, ?_, ?_, ⟨by decide, fun d hd => absurd hd (by omega), fun d hd => absurd hd (by omega)⟩, fun i hi j hj => ?_, K.2.2.2.2.1, fun i hi j hj => rfl, fun _ => rfl, fun k hk => Or.inl ⟨?_, ?_⟩⟩
        · rw [XC _ _ (by omega) (by omega) (by omega)]; exact R.2.2.2.1
        · rw [XC _ _ (by omega) (by omega) (by omega)]; exact R.2.2.2.2.1
        · rw [XC _ _ (by omega) (by omega) (by omega)]; exact R.2.2.2.2.2.1
        · have hi : i < a' := hi
          rw [XO _ _ (by omega)]; exact gH i hi j hj
        · have ht : t < b := ht
          rw [XC _ _ (by omega) (by omega) (by omega)]; exact (zD_T R ht hj).2.1
        · have hp : p < c := hp
          rw [XC _ _ (by omega) (by omega) (by omega)]; exact (zD_P R hp hj).2.2.1
        · exact zO_98.1
        · exact zO_98.2.1
        · exact zO_98.2.2.1
        · have hi : i < a' := hi
          rw [zO_105 (by omega)]; exact (zD_H R hi hj).2.2
        · have ht : t < b := ht
          rw [zO_106 (by omega)]; exact (zD_T R ht hj).2.2
        · have hp : p < c := hp
          rw [zO_107 (by omega)]; exact (zD_P R hp hj).2.2.2
        · rw [XO _ _ (by omega)]; exact g4
        · exact zO_98.2.2.2
        · have hi : i < a' := hi
          rw [XC _ _ (by omega) (by omega) (by omega)]; exact (zD_H R hi hj).2.1
        · rw [zO_n (by omega) (by omega) (by omega) (by omega) (by omega), u3.2 _ _ (by omega) (by omega), e1]
          rcases (show k = 0 ∨ k = 1 ∨ k = 2 by omega) with rfl | rfl | rfl
          · rw [sI_ne (by decide), sI_ne (by decide), sI_eq]
          · rw [sI_ne (by decide), sI_eq]
          · exact sI_eq
        · exact zO_110 hk
      · rw [if_neg v9] at cls
        have ZM : zM_ r n (fun x => h.1 (13 + r) x) hC := ⟨by rw [c2 _ _ (by decide) (by omega)]; exact l2, fun x hx => by rw [c2 _ _ (by decide) (by omega)]; exact (l3 x hx).symm⟩
        obtain ⟨v, hC', hM, u1, u2, -, -, u3, -⟩ := z_into bo ho hr hn ZM
        have e0 := Option.some.inj (w1.symm.trans u1)
        have ev : v0 = v := congrArg Prod.fst e0
        subst ev
        refine ⟨-4, hC, hM, cls, ?_, z_inv H c1 (by rw [← eo]; exact c2) u3⟩
        unfold ff_X8_office
        rw [at_s hr (show n < 2 ^ 31 by omega) ZM.1, Option.bind_some, if_pos (show (0 : Int32) ≤ 0 by decide), u2, Option.bind_some, if_neg v9]
  · refine rd_ H 0 (-1) 0 (by decide) ?_ (fun h' S => ?_)
    · unfold ff_X7_office
      rw [q1, if_pos rfl]; rfl
    · unfold ff_X8_office
      rw [at_b q2, Option.bind_some, if_neg (show ¬ (0 : Int32) ≤ -1 by decide)]; rfl
