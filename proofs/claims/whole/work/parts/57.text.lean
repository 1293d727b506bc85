/-! ===== the whole text, item by item ===== -/
theorem z_bz {g : hh_} {k : Nat} {x : Int32} : hh_sI g 98 k (g.1 98 k + 0) = hh_sI g 98 k (g.1 98 k) := by rw [a0]
theorem z_scan {o r n : Nat} {S : Nat → Int32} (bo : bo_ o = true) (ho : o = 39 ∨ o = 64) (hr : r < 4) (hn : n ≤ 80) : ∀ (N d : Nat), d ≤ N → ∀ (x a b c m m' : Nat) (hC hM : hh_), x + d = n → zS_ o r n S a b c x hC hM → (a = 0 → b = 0 ∧ c = 0) → zW_ o r n x m m' hC hM := by
  intro N
  induction N with
  | zero =>
    intro d hd x a b c m m' hC hM e Z _
    have xe : x = n := by omega
    subst xe
    exact z_end bo hr hn Z
  | succ N ih =>
    intro d hd x a b c m m' hC hM e Z Z0
    by_cases xn : x = n
    · subst xn
      exact z_end bo hr hn Z
    · have hx : x < n := by omega
      obtain ⟨ZC, ZM, e1, e2, eM, ra, rb, rc, s0, s1, s2, t0, t1, t2, ZH, ZT, ZP⟩ := Z
      have ms := z_ms (m' := m') hr hn ZM eM hx
      by_cases h32 : S x = 32
      · rw [if_pos h32] at ms
        have cl : ff_X4_into_51 (13 + r) (nI n) (zK_ n) (m + (n - x) + 1) (nI x) hC = ff_X4_into_51 (13 + r) (nI n) (zK_ n) (m + (n - (x + 1)) + 1) (nI (x + 1)) hC := by
          rw [show m + (n - x) + 1 = (m + (n - (x + 1)) + 1) + 1 by omega, ff_X4_into_51, if_neg (nI_ge hx (by omega)), gd_t (bp_t hr (by omega)), nI_clamp (by omega), ZC.2 x hx, nI_1]
          unfold ff_X4_goesOn
          rw [e2, if_pos (show nI 0 ≤ 0 by decide), if_pos h32, Option.bind_some, if_neg n10]
        have j9 : ∀ j, j ≠ 16 → (hh_sI hM 98 16 (nI (x + 1))).1 98 j = hM.1 98 j := fun j q => sI_nj q
        have c9 : ∀ y j, y ≠ 98 → (hh_sI hM 98 16 (nI (x + 1))).1 y j = hM.1 y j := fun y j q => sI_ne q
        obtain ⟨v, hC', hM', w1, w2, w3, w4, w5⟩ := ih (n - (x + 1)) (by omega) (x + 1) a b c m m' hC (hh_sI hM 98 16 (nI (x + 1))) (by omega) ⟨ZC, ZM.fr (h := hM) (fun y => c9 _ _ (by decide)) (fun y => c9 _ _ (by decide)), e1, e2, sI_eq, ra, rb, rc, s0, s1, s2, by rw [j9 _ (by decide)]; exact t0, by rw [j9 _ (by decide)]; exact t1, by rw [j9 _ (by decide)]; exact t2, ZH.fr (fun _ _ _ _ => rfl) (fun _ _ _ _ => c9 _ _ (by decide)), ZT.fr (fun _ _ _ _ => rfl) (fun _ _ _ _ => c9 _ _ (by decide)), ZP.fr (fun _ _ _ _ => rfl) (fun _ _ _ _ => c9 _ _ (by decide))⟩ Z0
        refine ⟨v, hC', hM', cl.trans w1, ms.trans w2, w3, fM2_.t (h2 := hh_sI hM 98 16 (nI (x + 1))) ⟨rfl, fun y j q1 q2 => ?_⟩ w4, w5⟩
        by_cases q : y = 98
        · subst q
          exact j9 _ (by omega)
        · exact c9 _ _ q
      · rw [if_neg h32] at ms
        have cs := z_cs (m := m) hr hn ZC e2 hx h32
        have oI : ff_X4_opensItem (S x) hC = if ff_X8_kindOf (S x) = -9 then (if S x = 104 then ff_X4_opensItem_37 (ff_X8_kindOf (S x)) 0 hC else if S x = 112 then ff_X4_opensItem_37 (ff_X8_kindOf (S x)) 2 hC else ff_X4_opensItem_37 (ff_X8_kindOf (S x)) (-9) hC) else ff_X4_opensItem_37 (ff_X8_kindOf (S x)) 1 hC := by
          unfold ff_X4_opensItem
          rw [z_kb, Option.bind_some]
        have zcb : zc_ b c ≤ 2 := by unfold zc_; split <;> (try split) <;> omega
        have eM1 : ∀ y j, y ≠ 98 → (hh_sI hM 98 16 (nI (x + 1))).1 y j = hM.1 y j := fun y j q => sI_ne q
        have fM1 : fM2_ hM (hh_sI hM 98 16 (nI (x + 1))) := ⟨rfl, fun y j q1 q2 => by
          by_cases q : y = 98
          · subst q
            exact sI_nj (by omega)
          · exact sI_ne q⟩
        have ZM1 : zM_ r n S (hh_sI hM 98 16 (nI (x + 1))) := ZM.fr (h := hM) (fun y => eM1 _ _ (by decide)) (fun y => eM1 _ _ (by decide))
        by_cases h104 : S x = 104
        · rw [if_pos h104] at ms
          rw [h104, show ff_X8_kindOf 104 = -9 from rfl, if_pos rfl, if_pos rfl] at oI
          unfold ff_X4_opensItem_37 at oI
          rw [e1, if_pos (show (0 : Int32) = 0 from rfl), show (0 : Int32) = nI 0 from rfl, z_op ho bo ZC.1 (by decide) ra s0] at oI
          rw [h104, oI] at cs
          unfold ff_X8_readsHead at ms
          rw [t0, t1, t2, nI_add, eM, nI_1] at ms
          by_cases q1 : b = 0 ∧ c = 0
          · have zc0 : zc_ b c = 0 := by unfold zc_; rw [if_neg (by omega), if_neg (by omega)]
            rw [zc0, if_neg (show ¬ nI 0 < nI 0 by decide)] at cs
            by_cases q2 : a < 5
            · rw [if_pos (show a < mi_k 0 from q2), Option.bind_some, if_neg n10] at cs
              rw [if_neg (show ¬ nI a = 5 from fun y => absurd ((nI_eq (b := 5) (by omega) (by omega)).mp y) (by omega)), if_pos (show nI (b + c) ≤ 0 from nI_le (b := 0) (by omega) (by omega))] at ms
              obtain ⟨mm, hmm⟩ := fu_ 5 (by decide)
              have p19 := op_19 (k := 0) (c := a) (x2 := -9) (h := hC) ho
              have ZC1 : zC_ o r n S (op_ o 0 a (-9) hC) := ZC.fr (h := hC) op_2 (fun y => op_n (by omega) (by omega) (by omega))
              have zf := z_hd bo ho hr hn q2 5 0 (x + 1) m mm (op_ o 0 a (-9) hC) (hh_sI hM 98 16 (nI (x + 1))) rfl ZC1 ZM1 p19.1 p19.2.1 p19.2.2 sI_eq (by omega) (by rw [sI_nj (by decide)]; exact t0)
              refine z_item (k := 0) (c := a) (b := 5 * a) (KM := fun u5 k6 => ff_X8_readsHead_76 u5 k6) ho hr hn hx (by decide) q2 (by show 5 * a + 5 ≤ 60; omega) zf ZC1 ZM1 (op_f (by omega)) fM1 (fun j h1 h2 => sI_nj (by omega)) cs ?_ (fun g hg => ?_) (fun g hg => ?_) (fun hC2 hM2 g0 gC gM g1 g2 g3 g4 g5 g6 g7 g8 => ?_)
              · rw [hmm] at ms
                exact ms
              · unfold ff_X8_readsHead_76
                rw [if_pos rfl, gd_t bz_0, z_bz (x := 0), hg 17 (by decide) (by decide)]
              · unfold ff_X8_readsHead_76
                rw [if_neg n10, gd_t bz_1, hg 17 (by decide) (by decide), sI_nj (by decide), t0, nI_1]
              · have g0 : x + 1 + 5 ≤ n := g0
                refine ih (n - (x + 1 + 5)) (by omega) (x + 1 + 5) (a + 1) b c m (m' + 5) hC2 hM2 (by omega) ⟨gC, gM, ?_, g2, g3, by omega, rb, rc, ?_, ?_, ?_, g4, ?_, ?_, fun i hi j hj => ?_, ?_, ?_⟩ (by omega)
                · rw [zc0]; exact g1
                · rw [g6 _ _ (by omega) (by show ¬ (o + 23 = o + 2 + a ∧ _); omega)]; exact p19.2.2
                · rw [g6 _ _ (by omega) (by show ¬ (o + 23 = o + 2 + a ∧ _); omega), op_n (by omega) (by omega) (by omega)]; exact s1
                · rw [g6 _ _ (by omega) (by show ¬ (o + 23 = o + 2 + a ∧ _); omega), op_n (by omega) (by omega) (by omega)]; exact s2
                · rw [g5 18 (by decide) (by decide) (by decide), sI_nj (by decide)]; exact t1
                · rw [g5 19 (by decide) (by decide) (by decide), sI_nj (by decide)]; exact t2
                · by_cases qi : i = a
                  · subst qi
                    obtain ⟨v, v1, v2, v3, v4⟩ := g8 j hj
                    refine ⟨v, v2, ?_, v4⟩
                    have v3 : hC2.1 (o + 2 + i) (0 + j) = nI v := v3
                    rw [Nat.zero_add] at v3
                    exact v3
                  · rw [g6 _ _ (by omega) (by show ¬ (o + 2 + i = o + 2 + a ∧ _); omega), op_n (by omega) (by omega) (by omega), g7 _ (by show ¬ (5 * a ≤ 5 * i + j ∧ 5 * i + j < 5 * a + 5); omega), eM1 _ _ (by decide)]
                    exact ZH i (by omega) j hj
                · rw [q1.1]; exact fun t ht => absurd ht (by omega)
                · rw [q1.2]; exact fun t ht => absurd ht (by omega)
            · have a5 : a = 5 := by omega
              rw [if_neg (show ¬ a < mi_k 0 from q2), Option.bind_some, if_pos rfl] at cs
              rw [if_pos (show nI a = 5 by rw [a5]; rfl), Option.bind_some, if_pos rfl, eM] at ms
              exact z_stop (S := S) hn (by omega) cs ms
          · have zc1 : 0 < zc_ b c := by unfold zc_; split <;> (try split) <;> omega
            rw [if_pos (nI_lt zc1 (by omega)), Option.bind_some, if_pos (show nI 0 = 0 from rfl)] at cs
            rw [if_neg (show ¬ nI (b + c) ≤ 0 from nI_ge (a := 0) (by omega) (by omega))] at ms
            have ms2 : ff_X8_goesOn_20 (nI r) (zN_ r) (m' + (n - x) + 1) hM = some (nI x, hM) := by
              rw [ms]
              by_cases q3 : nI a = 5
              · rw [if_pos q3, Option.bind_some, if_pos rfl, eM]
              · rw [if_neg q3, Option.bind_some, if_pos rfl, eM]
            exact z_stop (S := S) hn (by omega) cs ms2
        · rw [if_neg h104] at ms
          by_cases h112 : S x = 112
          · rw [if_pos h112] at ms
            rw [h112, show ff_X8_kindOf 112 = -9 from rfl, if_pos rfl, if_neg (by decide), if_pos rfl] at oI
            unfold ff_X4_opensItem_37 at oI
            rw [e1, if_neg (show ¬ (2 : Int32) < nI (zc_ b c) from fun y => absurd ((nI_ltI (a := 2) (by omega) (by omega)).mp y) (by omega)), if_neg (show ¬ (2 : Int32) = 0 by decide), ZC.1, gd_t bo, show Int32.toNatClampNeg 0 = 0 from rfl, s0, show (2 : Int32) = nI 2 from rfl, z_op ho bo ZC.1 (by decide) (by omega) s2] at oI
            rw [h112, oI] at cs
            unfold ff_X8_readsPost at ms
            rw [t0, t2, eM, nI_1] at ms
            by_cases q1 : a = 0
            · rw [if_pos (show nI a = 0 by rw [q1]; rfl), Option.bind_some, if_pos rfl] at cs
              rw [if_pos (show nI a = 0 by rw [q1]; rfl), Option.bind_some, if_pos rfl, eM] at ms
              exact z_stop (S := S) hn (by omega) cs ms
            · have a0' : ¬ nI a = 0 := fun y => q1 ((nI_eq (b := 0) (by omega) (by omega)).mp y)
              rw [if_neg a0'] at cs ms
              by_cases q2 : c < 4
              · rw [if_pos (show c < mi_k 2 from q2), Option.bind_some, if_neg n10] at cs
                rw [if_neg (show ¬ nI c = 4 from fun y => absurd ((nI_eq (b := 4) (by omega) (by omega)).mp y) (by omega))] at ms
                obtain ⟨mm, hmm⟩ := fu_ 5 (by decide)
                have p19 := op_19 (k := 2) (c := c) (x2 := -9) (h := hC) ho
                have ZC1 : zC_ o r n S (op_ o 2 c (-9) hC) := ZC.fr (h := hC) op_2 (fun y => op_n (by omega) (by omega) (by omega))
                have zf := z_po bo ho hr hn q2 5 0 (x + 1) m mm (op_ o 2 c (-9) hC) (hh_sI hM 98 16 (nI (x + 1))) rfl ZC1 ZM1 p19.1 p19.2.1 p19.2.2 sI_eq (by omega) (by rw [sI_nj (by decide)]; exact t2)
                refine z_item (k := 2) (c := c) (b := 37 + 5 * c) (KM := fun u5 k6 => ff_X8_readsPost_85 u5 k6) ho hr hn hx (by decide) q2 (by show 37 + 5 * c + 5 ≤ 60; omega) zf ZC1 ZM1 (op_f (by omega)) fM1 (fun j h1 h2 => sI_nj (by omega)) cs ?_ (fun g hg => ?_) (fun g hg => ?_) (fun hC2 hM2 g0 gC gM g1 g2 g3 g4 g5 g6 g7 g8 => ?_)
                · rw [hmm] at ms
                  exact ms
                · unfold ff_X8_readsPost_85
                  rw [if_pos rfl, gd_t bz_0, z_bz (x := 0), hg 19 (by decide) (by decide)]
                · unfold ff_X8_readsPost_85
                  rw [if_neg n10, gd_t bz_1, hg 19 (by decide) (by decide), sI_nj (by decide), t2, nI_1]
                · have g0 : x + 1 + 5 ≤ n := g0
                  refine ih (n - (x + 1 + 5)) (by omega) (x + 1 + 5) a b (c + 1) m (m' + 5) hC2 hM2 (by omega) ⟨gC, gM, ?_, g2, g3, ra, rb, by omega, ?_, ?_, ?_, ?_, ?_, g4, ?_, ?_, fun i hi j hj => ?_⟩ (by omega)
                  · rw [show zc_ b (c + 1) = 2 by unfold zc_; rw [if_pos (by omega)]]; exact g1
                  · rw [g6 _ _ (by omega) (by show ¬ (o + 23 = o + 19 + c ∧ _); omega), op_n (by omega) (by omega) (by omega)]; exact s0
                  · rw [g6 _ _ (by omega) (by show ¬ (o + 23 = o + 19 + c ∧ _); omega), op_n (by omega) (by omega) (by omega)]; exact s1
                  · rw [g6 _ _ (by omega) (by show ¬ (o + 23 = o + 19 + c ∧ _); omega)]; exact p19.2.2
                  · rw [g5 17 (by decide) (by decide) (by decide), sI_nj (by decide)]; exact t0
                  · rw [g5 18 (by decide) (by decide) (by decide), sI_nj (by decide)]; exact t1
                  · exact ZH.fr (fun i hi j hj => by rw [g6 _ _ (by omega) (by show ¬ (o + 2 + i = o + 19 + c ∧ _); omega), op_n (by omega) (by omega) (by omega)]) (fun i hi j hj => by rw [g7 _ (by show ¬ (37 + 5 * c ≤ 5 * i + j ∧ _); omega), eM1 _ _ (by decide)])
                  · exact ZT.fr (fun i hi j hj => by rw [g6 _ _ (by omega) (by show ¬ (o + 14 + i = o + 19 + c ∧ _); omega), op_n (by omega) (by omega) (by omega)]) (fun i hi j hj => by rw [g7 _ (by show ¬ (37 + 5 * c ≤ 25 + 3 * i + j ∧ _); omega), eM1 _ _ (by decide)])
                  · by_cases qi : i = c
                    · subst qi
                      obtain ⟨v, v1, v2, v3, v4⟩ := g8 j hj
                      refine ⟨v, v1, v2, ?_, v4⟩
                      have v3 : hC2.1 (o + 19 + i) (0 + j) = nI v := v3
                      rw [Nat.zero_add] at v3
                      exact v3
                    · rw [g6 _ _ (by omega) (by show ¬ (o + 19 + i = o + 19 + c ∧ _); omega), op_n (by omega) (by omega) (by omega), g7 _ (by show ¬ (37 + 5 * c ≤ 37 + 5 * i + j ∧ 37 + 5 * i + j < 37 + 5 * c + 5); omega), eM1 _ _ (by decide)]
                      exact ZP i (by omega) j hj
              · have c4 : c = 4 := by omega
                rw [if_neg (show ¬ c < mi_k 2 from q2), Option.bind_some, if_pos rfl] at cs
                rw [if_pos (show nI c = 4 by rw [c4]; rfl), Option.bind_some, if_pos rfl, eM] at ms
                exact z_stop (S := S) hn (by omega) cs ms
          · rw [if_neg h112] at ms
            have he := z_he hr hn ZM (Nat.le_of_lt hx) eM
            rw [if_pos hx] at he
            unfold ff_X8_readsThumb at ms
            rw [he, Option.bind_some, t0, t1, t2] at ms
            rcases z_kv (S x) with kv | ⟨q, hq, kv⟩
            · rw [kv, if_pos rfl, if_neg h104, if_neg h112] at oI
              unfold ff_X4_opensItem_37 at oI
              rw [e1, if_pos (show (-9 : Int32) < nI (zc_ b c) by
                rw [Int32.lt_iff_toInt_lt, nI_toInt (by omega), show (-9 : Int32).toInt = -9 from rfl]
                omega)] at oI
              rw [oI, Option.bind_some, if_pos rfl] at cs
              rw [kv, if_pos rfl, Option.bind_some, if_pos rfl, eM] at ms
              exact z_stop (S := S) hn (by omega) cs ms
            · have kn : ¬ ff_X8_kindOf (S x) = -9 := by rw [kv]; exact z_m9 (by omega)
              rw [if_neg kn, kv] at oI
              rw [if_neg kn, kv] at ms
              unfold ff_X4_opensItem_37 at oI
              rw [e1, if_neg (show ¬ (1 : Int32) = 0 by decide), ZC.1, gd_t bo, show Int32.toNatClampNeg 0 = 0 from rfl, s0, show (1 : Int32) = nI 1 from rfl, z_op ho bo ZC.1 (by decide) (by omega) s1] at oI
              rw [oI] at cs
              by_cases q0 : c = 0
              · have zc1 : zc_ b c ≤ 1 := by unfold zc_; rw [if_neg (by omega)]; split <;> omega
                rw [if_neg (show ¬ nI 1 < nI (zc_ b c) from fun y => absurd ((nI_ltI (by omega) (by omega)).mp y) (by omega))] at cs
                by_cases q1 : a = 0
                · rw [if_pos (show nI a = 0 by rw [q1]; rfl), Option.bind_some, if_pos rfl] at cs
                  rw [if_pos (show nI a = 0 by rw [q1]; rfl), Option.bind_some, if_pos rfl, eM] at ms
                  exact z_stop (S := S) hn (by omega) cs ms
                · have a0' : ¬ nI a = 0 := fun y => q1 ((nI_eq (b := 0) (by omega) (by omega)).mp y)
                  rw [if_neg a0'] at cs ms
                  by_cases q2 : b < 4
                  · rw [if_pos (show b < mi_k 1 from q2), Option.bind_some, if_neg n10] at cs
                    rw [if_neg (show ¬ nI b = 4 from fun y => absurd ((nI_eq (b := 4) (by omega) (by omega)).mp y) (by omega)), if_pos (show nI c ≤ 0 from nI_le (b := 0) (by omega) (by omega)), eM, nI_1, sI_nj (by decide), t1, show (3 : Int32) = nI 3 from rfl, pk_mul, show (25 : Int32) = nI 25 from rfl, nI_add, gd_n (by omega) (by decide), nI_clamp (by omega), nI_1, show nI (25 + 3 * b) + 2 = nI (25 + 3 * b + 2) from nI_add _ 2] at ms
                    have p19 := op_19 (k := 1) (c := b) (x2 := nI q) (h := hC) ho
                    have ZC1 : zC_ o r n S (op_ o 1 b (nI q) hC) := ZC.fr (h := hC) op_2 (fun y => op_n (by omega) (by omega) (by omega))
                    have ZM2 : zM_ r n S (hh_sI (hh_sI hM 98 16 (nI (x + 1))) 108 (25 + 3 * b) (nI q)) := ZM1.fr (h := hh_sI hM 98 16 (nI (x + 1))) (fun y => sI_ne (by decide)) (fun y => sI_ne (by decide))
                    have fM3 : fM2_ hM (hh_sI (hh_sI hM 98 16 (nI (x + 1))) 108 (25 + 3 * b) (nI q)) := fM1.t ⟨rfl, fun y j q1 q2 => sI_ne q1⟩
                    have zf := z_th (m := m) bo ho hr hn q2 ZC1 ZM2 p19.1 p19.2.1 p19.2.2 (by rw [sI_ne (by decide)]; exact sI_eq) (show x + 1 ≤ n by omega)
                    refine z_item (k := 1) (c := b) (b := 25 + 3 * b + 1) (KM := fun q6 k => ff_X8_readsThumb_97 q6 k) ho hr hn hx (by decide) q2 (by show 25 + 3 * b + 1 + 2 ≤ 60; omega) zf ZC1 ZM2 (op_f (by omega)) fM3 (fun j h1 h2 => by rw [sI_ne (by decide), sI_nj (by omega)]) cs ms (fun g hg => ?_) (fun g hg => ?_) (fun hC2 hM2 g0 gC gM g1 g2 g3 g4 g5 g6 g7 g8 => ?_)
                    · unfold ff_X8_readsThumb_97
                      rw [if_pos rfl, gd_t bz_0, z_bz (x := 0), hg 18 (by decide) (by decide)]
                    · unfold ff_X8_readsThumb_97
                      rw [if_neg n10, gd_t bz_1, hg 18 (by decide) (by decide), sI_ne (by decide), sI_nj (by decide), t1, nI_1]
                    · have g0 : x + 1 + 2 ≤ n := g0
                      refine ih (n - (x + 1 + 2)) (by omega) (x + 1 + 2) a (b + 1) c m (m' + 2) hC2 hM2 (by omega) ⟨gC, gM, ?_, g2, g3, ra, by omega, rc, ?_, ?_, ?_, ?_, g4, ?_, ?_, fun i hi => ?_, ?_⟩ (by omega)
                      · rw [show zc_ (b + 1) c = 1 by unfold zc_; rw [if_neg (by omega), if_pos (by omega)]]; exact g1
                      · rw [g6 _ _ (by omega) (by show ¬ (o + 23 = o + 14 + b ∧ _); omega), op_n (by omega) (by omega) (by omega)]; exact s0
                      · rw [g6 _ _ (by omega) (by show ¬ (o + 23 = o + 14 + b ∧ _); omega)]; exact p19.2.2
                      · rw [g6 _ _ (by omega) (by show ¬ (o + 23 = o + 14 + b ∧ _); omega), op_n (by omega) (by omega) (by omega)]; exact s2
                      · rw [g5 17 (by decide) (by decide) (by decide), sI_ne (by decide), sI_nj (by decide)]; exact t0
                      · rw [g5 19 (by decide) (by decide) (by decide), sI_ne (by decide), sI_nj (by decide)]; exact t2
                      · exact ZH.fr (fun i hi j hj => by rw [g6 _ _ (by omega) (by show ¬ (o + 2 + i = o + 14 + b ∧ _); omega), op_n (by omega) (by omega) (by omega)]) (fun i hi j hj => by rw [g7 _ (by show ¬ (25 + 3 * b + 1 ≤ 5 * i + j ∧ _); omega), sI_nj (by omega), eM1 _ _ (by decide)])
                      · by_cases qi : i = b
                        · subst qi
                          refine ⟨⟨q, by omega, ?_, ?_⟩, fun j hj => ?_⟩
                          · rw [g6 _ _ (by omega) (by show ¬ (o + 14 + i = o + 14 + i ∧ 1 ≤ 0); omega)]; exact op_T ho q2
                          · rw [g7 _ (by show ¬ (25 + 3 * i + 1 ≤ 25 + 3 * i ∧ _); omega), sI_eq]
                          · obtain ⟨v, v1, v2, v3, v4⟩ := g8 j hj
                            exact ⟨v, v2, v3, v4⟩
                        · have ot : ∀ j, hC2.1 (o + 14 + i) j = hC.1 (o + 14 + i) j := fun j => by rw [g6 _ _ (by omega) (by show ¬ (o + 14 + i = o + 14 + b ∧ _); omega), op_n (by omega) (by omega) (by omega)]
                          have om : ∀ j, j < 3 → hM2.1 108 (25 + 3 * i + j) = hM.1 108 (25 + 3 * i + j) := fun j hj => by rw [g7 _ (by show ¬ (25 + 3 * b + 1 ≤ 25 + 3 * i + j ∧ _); omega), sI_nj (by omega), eM1 _ _ (by decide)]
                          have z1 := ZT i (by omega)
                          refine ⟨?_, fun j hj => ?_⟩
                          · rw [ot, show 25 + 3 * i = 25 + 3 * i + 0 from rfl, om 0 (by decide)]
                            exact z1.1
                          · rw [ot, Nat.add_assoc (25 + 3 * i), om (1 + j) (by omega), ← Nat.add_assoc (25 + 3 * i)]
                            exact z1.2 j hj
                      · rw [q0]; exact fun t ht => absurd ht (by omega)
                  · have b4 : b = 4 := by omega
                    rw [if_neg (show ¬ b < mi_k 1 from q2), Option.bind_some, if_pos rfl] at cs
                    rw [if_pos (show nI b = 4 by rw [b4]; rfl), Option.bind_some, if_pos rfl, eM] at ms
                    exact z_stop (S := S) hn (by omega) cs ms
              · have zc2 : zc_ b c = 2 := by unfold zc_; rw [if_pos (by omega)]
                rw [zc2, if_pos (show nI 1 < nI 2 by decide), Option.bind_some, if_pos rfl] at cs
                rw [if_neg (show ¬ nI c ≤ 0 from nI_ge (a := 0) (by omega) (by omega))] at ms
                have ms2 : ff_X8_goesOn_20 (nI r) (zN_ r) (m' + (n - x) + 1) hM = some (nI x, hM) := by
                  rw [ms]
                  by_cases q3 : nI a = 0
                  · rw [if_pos q3, Option.bind_some, if_pos rfl, eM]
                  · rw [if_neg q3]
                    by_cases q4 : nI b = 4
                    · rw [if_pos q4, Option.bind_some, if_pos rfl, eM]
                    · rw [if_neg q4, Option.bind_some, if_pos rfl, eM]
                exact z_stop (S := S) hn (by omega) cs ms2
