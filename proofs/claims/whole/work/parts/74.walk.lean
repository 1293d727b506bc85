theorem ss_X8_layMay_59 {Z : zz_} (C : cx_ Z mt_X8_layMay 5) {h9 : hh_} {x1 : Int32} {x2 : Int32} {x3 : Int32} {x5 : Int32} {h : hh_} {K59_75 : Option (hh_)} {K59_71 : Option (hh_)} (Q : rq_ Z none h9) (hK59_75 : K59_75 = some h9 → xx_ Z 75 [some (.ref 98), some (.int x1), some (.int x2), some (.int x3), none, some (.int x5)] [] h) (hK59_71 : K59_71 = some h9 → xx_ Z 71 [some (.ref 98), some (.int x1), some (.int x2), some (.int x3), none, some (.int x5)] [] h) (hf : ff_X8_layMay_59 x1 x2 x3 x5 h K59_75 K59_71 = some h9) : xx_ Z 59 [some (.ref 98), some (.int x1), some (.int x2), some (.int x3), none, some (.int x5)] [] h := by
  unfold ff_X8_layMay_59 at hf
  refine xx_aload_n C (dd_X8_layMay.at 33 rfl) rfl (Nat.le_of_ble_eq_true rfl) ?_
  refine xx_iload C (dd_X8_layMay.at 34 rfl) rfl ?_
  refine xx_iload_n C (dd_X8_layMay.at 35 rfl) rfl ?_
  refine xx_iload_n C (dd_X8_layMay.at 36 rfl) rfl ?_
  obtain ⟨v2, e3, hf⟩ := bdo_ hf
  refine xx_callVi C (ss_X8_suitsOf e3) (dd_X8_layMay.at 37 rfl) ck_7 rfl sh_k98 kk_X8_suitsOf ki_X8_suitsOf lm_RX8_240 (lb_ rfl) rfl rfl (lb_ rfl) ?_
  refine xx_iconst C (dd_X8_layMay.at 38 rfl) ic_2 ?_
  rcases ifo_ hf with ⟨hc, hf⟩ | ⟨hc, hf⟩
  · refine xx_icmp_ne_f (tgt := 75) C (dd_X8_layMay.at 39 rfl) (by decide) (not_not_intro hc) ?_
    exact xx_mask [true, true, true, true, false, true] (hK59_71  hf)
  · refine xx_icmp_ne_t (tgt := 75) C (dd_X8_layMay.at 39 rfl) (by decide) hc ?_
    exact xx_mask [true, true, true, true, false, true] (hK59_75  hf)
theorem ss_X8_layMay_33 {Z : zz_} (C : cx_ Z mt_X8_layMay 5) {h9 : hh_} {x1 : Int32} {x2 : Int32} {x3 : Int32} {h : hh_} {K33_84 : Int32 → Option (hh_)} (Q : rq_ Z none h9) (hK33_84 : ∀ (z4 : Int32), K33_84 z4 = some h9 → xx_ Z 84 [some (.ref 98), some (.int x1), some (.int x2), some (.int x3), some (.int z4), none] [] h) : ∀ (n9 : Nat) (x4 : Int32) (x5 : Int32), ff_X8_layMay_33 x1 x2 x3 h K33_84 n9 x4 x5 = some h9 → xx_ Z 33 [some (.ref 98), some (.int x1), some (.int x2), some (.int x3), some (.int x4), some (.int x5)] [] h := by
  intro n9
  induction n9 with
  | zero =>
    intro x4 x5 hf
    exact absurd hf (by rw [ff_X8_layMay_33]; exact nofun)
  | succ n9 ih =>
    intro x4 x5 hf
    rw [ff_X8_layMay_33] at hf
    refine xx_iload C (dd_X8_layMay.at 21 rfl) rfl ?_
    refine xx_aload_n C (dd_X8_layMay.at 22 rfl) rfl (Nat.le_of_ble_eq_true rfl) ?_
    refine xx_getI (j := 11) C ck_7 (lb_ rfl) lf_RX8_144 sh_k98 rfl (dd_X8_layMay.at 23 rfl) ?_
    rcases ifo_ hf with ⟨hc, hf⟩ | ⟨hc, hf⟩
    · refine xx_icmp_ge_t (tgt := 84) C (dd_X8_layMay.at 24 rfl) (by decide) hc ?_
      exact xx_mask [true, true, true, true, true, false] (hK33_84 _ hf)
    · refine xx_icmp_ge_f (tgt := 84) C (dd_X8_layMay.at 24 rfl) (by decide) hc ?_
      refine xx_iload C (dd_X8_layMay.at 25 rfl) rfl ?_
      rcases ifo_ hf with ⟨hc, hf⟩ | ⟨hc, hf⟩
      · refine xx_if_eq_t (tgt := 75) C (dd_X8_layMay.at 26 rfl) (by decide) hc ?_
        refine xx_iconst C (dd_X8_layMay.at 42 rfl) ic_0 ?_
        refine xx_istore (lv' := [_, _, _, _, _, _]) C (dd_X8_layMay.at 43 rfl) (lb_ rfl) rfl ?_
        refine xx_iinc (v := _ + (1 : Int32)) (lv' := [_, _, _, _, _, _]) C (dd_X8_layMay.at 44 rfl) (lb_ rfl) rfl (by rw [ic_1]) rfl ?_
        refine xx_goto (tgt := 33) C (dd_X8_layMay.at 45 rfl) (by decide) ?_
        exact xx_mask [true, true, true, true, true, true] (ih _ _ hf)
      · refine xx_if_eq_f (tgt := 75) C (dd_X8_layMay.at 26 rfl) (by decide) hc ?_
        refine xx_iload_n C (dd_X8_layMay.at 27 rfl) rfl ?_
        refine xx_bipush C (dd_X8_layMay.at 28 rfl) bq_m9 ?_
        rcases ifo_ hf with ⟨hc, hf⟩ | ⟨hc, hf⟩
        · refine xx_icmp_eq_t (tgt := 59) C (dd_X8_layMay.at 29 rfl) (by decide) hc ?_
          refine xx_mask [true, true, true, true, false, true] (ss_X8_layMay_59 C Q (fun hf => ?_) (fun hf => ?_) hf)
          · refine xx_iconst C (dd_X8_layMay.at 42 rfl) ic_0 ?_
            refine xx_istore (lv' := [_, _, _, _, _, _]) C (dd_X8_layMay.at 43 rfl) (lb_ rfl) rfl ?_
            refine xx_iinc (v := _ + (1 : Int32)) (lv' := [_, _, _, _, _, _]) C (dd_X8_layMay.at 44 rfl) (lb_ rfl) rfl (by rw [ic_1]) rfl ?_
            refine xx_goto (tgt := 33) C (dd_X8_layMay.at 45 rfl) (by decide) ?_
            exact xx_mask [true, true, true, true, true, true] (ih _ _ hf)
          · refine xx_iconst C (dd_X8_layMay.at 40 rfl) ic_1 ?_
            refine xx_goto (tgt := 76) C (dd_X8_layMay.at 41 rfl) (by decide) ?_
            refine xx_istore (lv' := [_, _, _, _, _, _]) C (dd_X8_layMay.at 43 rfl) (lb_ rfl) rfl ?_
            refine xx_iinc (v := _ + (1 : Int32)) (lv' := [_, _, _, _, _, _]) C (dd_X8_layMay.at 44 rfl) (lb_ rfl) rfl (by rw [ic_1]) rfl ?_
            refine xx_goto (tgt := 33) C (dd_X8_layMay.at 45 rfl) (by decide) ?_
            exact xx_mask [true, true, true, true, true, true] (ih _ _ hf)
        · refine xx_icmp_eq_f (tgt := 59) C (dd_X8_layMay.at 29 rfl) (by decide) hc ?_
          refine xx_iload C (dd_X8_layMay.at 30 rfl) rfl ?_
          refine xx_iload_n C (dd_X8_layMay.at 31 rfl) rfl ?_
          rcases ifo_ hf with ⟨hc, hf⟩ | ⟨hc, hf⟩
          · refine xx_icmp_ne_f (tgt := 71) C (dd_X8_layMay.at 32 rfl) (by decide) (not_not_intro hc) ?_
            refine xx_mask [true, true, true, true, false, true] (ss_X8_layMay_59 C Q (fun hf => ?_) (fun hf => ?_) hf)
            · refine xx_iconst C (dd_X8_layMay.at 42 rfl) ic_0 ?_
              refine xx_istore (lv' := [_, _, _, _, _, _]) C (dd_X8_layMay.at 43 rfl) (lb_ rfl) rfl ?_
              refine xx_iinc (v := _ + (1 : Int32)) (lv' := [_, _, _, _, _, _]) C (dd_X8_layMay.at 44 rfl) (lb_ rfl) rfl (by rw [ic_1]) rfl ?_
              refine xx_goto (tgt := 33) C (dd_X8_layMay.at 45 rfl) (by decide) ?_
              exact xx_mask [true, true, true, true, true, true] (ih _ _ hf)
            · refine xx_iconst C (dd_X8_layMay.at 40 rfl) ic_1 ?_
              refine xx_goto (tgt := 76) C (dd_X8_layMay.at 41 rfl) (by decide) ?_
              refine xx_istore (lv' := [_, _, _, _, _, _]) C (dd_X8_layMay.at 43 rfl) (lb_ rfl) rfl ?_
              refine xx_iinc (v := _ + (1 : Int32)) (lv' := [_, _, _, _, _, _]) C (dd_X8_layMay.at 44 rfl) (lb_ rfl) rfl (by rw [ic_1]) rfl ?_
              refine xx_goto (tgt := 33) C (dd_X8_layMay.at 45 rfl) (by decide) ?_
              exact xx_mask [true, true, true, true, true, true] (ih _ _ hf)
          · refine xx_icmp_ne_t (tgt := 71) C (dd_X8_layMay.at 32 rfl) (by decide) hc ?_
            refine xx_iconst C (dd_X8_layMay.at 40 rfl) ic_1 ?_
            refine xx_goto (tgt := 76) C (dd_X8_layMay.at 41 rfl) (by decide) ?_
            refine xx_istore (lv' := [_, _, _, _, _, _]) C (dd_X8_layMay.at 43 rfl) (lb_ rfl) rfl ?_
            refine xx_iinc (v := _ + (1 : Int32)) (lv' := [_, _, _, _, _, _]) C (dd_X8_layMay.at 44 rfl) (lb_ rfl) rfl (by rw [ic_1]) rfl ?_
            refine xx_goto (tgt := 33) C (dd_X8_layMay.at 45 rfl) (by decide) ?_
            exact xx_mask [true, true, true, true, true, true] (ih _ _ hf)
theorem ss_X8_layMay_19 {Z : zz_} (C : cx_ Z mt_X8_layMay 5) {h9 : hh_} {x1 : Int32} {x2 : Int32} {K19_111 : hh_ → Option (hh_)} (Q : rq_ Z none h9) (hK19_111 : ∀ (h8 : hh_), K19_111 h8 = some h9 → xx_ Z 111 [some (.ref 98), some (.int x1), some (.int x2), none, none, none] [] h8) : ∀ (n9 : Nat) (x3 : Int32) (h : hh_), ff_X8_layMay_19 x1 x2 K19_111 n9 x3 h = some h9 → xx_ Z 19 [some (.ref 98), some (.int x1), some (.int x2), some (.int x3), none, none] [] h := by
  intro n9
  induction n9 with
  | zero =>
    intro x3 h hf
    exact absurd hf (by rw [ff_X8_layMay_19]; exact nofun)
  | succ n9 ih =>
    intro x3 h hf
    rw [ff_X8_layMay_19] at hf
    refine xx_iload_n C (dd_X8_layMay.at 13 rfl) rfl ?_
    refine xx_aload_n C (dd_X8_layMay.at 14 rfl) rfl (Nat.le_of_ble_eq_true rfl) ?_
    refine xx_getI (j := 12) C ck_7 (lb_ rfl) lf_RX8_147 sh_k98 rfl (dd_X8_layMay.at 15 rfl) ?_
    rcases ifo_ hf with ⟨hc, hf⟩ | ⟨hc, hf⟩
    · refine xx_icmp_ge_t (tgt := 111) C (dd_X8_layMay.at 16 rfl) (by decide) hc ?_
      exact xx_mask [true, true, true, false, false, false] (hK19_111 _ hf)
    · refine xx_icmp_ge_f (tgt := 111) C (dd_X8_layMay.at 16 rfl) (by decide) hc ?_
      refine xx_iconst C (dd_X8_layMay.at 17 rfl) ic_1 ?_
      refine xx_istore (lv' := [_, _, _, _, _, _]) C (dd_X8_layMay.at 18 rfl) (lb_ rfl) rfl ?_
      refine xx_iconst C (dd_X8_layMay.at 19 rfl) ic_0 ?_
      refine xx_istore (lv' := [_, _, _, _, _, _]) C (dd_X8_layMay.at 20 rfl) (lb_ rfl) rfl ?_
      refine xx_mask [true, true, true, true, true, true] (ss_X8_layMay_33 C Q (fun u4 hf => ?_) _ _ _ hf)
      refine xx_aload_n C (dd_X8_layMay.at 46 rfl) rfl (Nat.le_of_ble_eq_true rfl) ?_
      refine xx_getR (j := 24) (r := 111) C ck_7 (lb_ rfl) lf_RX8_50 sh_k98 rfl (lb_ rfl) rfl (dd_X8_layMay.at 47 rfl) ?_
      refine xx_iload_n C (dd_X8_layMay.at 48 rfl) rfl ?_
      refine xx_dup2 C (dd_X8_layMay.at 49 rfl) rfl rfl ?_
      obtain ⟨g5, hf⟩ := gd_ok hf
      refine xx_iaload C (dd_X8_layMay.at 50 rfl) sh_k111 (bi_ok g5) ?_
      refine xx_iload C (dd_X8_layMay.at 51 rfl) rfl ?_
      rcases ifo_ hf with ⟨hc, hf⟩ | ⟨hc, hf⟩
      · refine xx_if_eq_t (tgt := 102) C (dd_X8_layMay.at 52 rfl) (by decide) hc ?_
        refine xx_iconst C (dd_X8_layMay.at 57 rfl) ic_0 ?_
        refine xx_ior C (dd_X8_layMay.at 58 rfl) ?_
        refine xx_iastore C (dd_X8_layMay.at 59 rfl) sh_k111 (bi_ok g5) ?_
        refine xx_iinc (v := _ + (1 : Int32)) (lv' := [_, _, _, _, _, _]) C (dd_X8_layMay.at 60 rfl) (lb_ rfl) rfl (by rw [ic_1]) rfl ?_
        refine xx_goto (tgt := 19) C (dd_X8_layMay.at 61 rfl) (by decide) ?_
        exact xx_mask [true, true, true, true, false, false] (ih _ _ hf)
      · refine xx_if_eq_f (tgt := 102) C (dd_X8_layMay.at 52 rfl) (by decide) hc ?_
        refine xx_iconst C (dd_X8_layMay.at 53 rfl) ic_1 ?_
        refine xx_iload_n C (dd_X8_layMay.at 54 rfl) rfl ?_
        refine xx_ishl C (dd_X8_layMay.at 55 rfl) ?_
        refine xx_goto (tgt := 103) C (dd_X8_layMay.at 56 rfl) (by decide) ?_
        refine xx_ior C (dd_X8_layMay.at 58 rfl) ?_
        refine xx_iastore C (dd_X8_layMay.at 59 rfl) sh_k111 (bi_ok g5) ?_
        refine xx_iinc (v := _ + (1 : Int32)) (lv' := [_, _, _, _, _, _]) C (dd_X8_layMay.at 60 rfl) (lb_ rfl) rfl (by rw [ic_1]) rfl ?_
        refine xx_goto (tgt := 19) C (dd_X8_layMay.at 61 rfl) (by decide) ?_
        exact xx_mask [true, true, true, true, false, false] (ih _ _ hf)
theorem ss_X8_layMay_2 {Z : zz_} (C : cx_ Z mt_X8_layMay 5) {h9 : hh_} {x1 : Int32}  (Q : rq_ Z none h9) : ∀ (n9 : Nat) (x2 : Int32) (h : hh_), ff_X8_layMay_2 x1 n9 x2 h = some h9 → xx_ Z 2 [some (.ref 98), some (.int x1), some (.int x2), none, none, none] [] h := by
  intro n9
  induction n9 with
  | zero =>
    intro x2 h hf
    exact absurd hf (by rw [ff_X8_layMay_2]; exact nofun)
  | succ n9 ih =>
    intro x2 h hf
    rw [ff_X8_layMay_2] at hf
    refine xx_iload_n C (dd_X8_layMay.at 2 rfl) rfl ?_
    refine xx_aload_n C (dd_X8_layMay.at 3 rfl) rfl (Nat.le_of_ble_eq_true rfl) ?_
    refine xx_getI (j := 10) C ck_7 (lb_ rfl) lf_RX8_141 sh_k98 rfl (dd_X8_layMay.at 4 rfl) ?_
    rcases ifo_ hf with ⟨hc, hf⟩ | ⟨hc, hf⟩
    · refine xx_icmp_ge_t (tgt := 117) C (dd_X8_layMay.at 5 rfl) (by decide) hc ?_
      exact xx_return C (rt_vwp hf Q) (dd_X8_layMay.at 64 rfl) rfl
    · refine xx_icmp_ge_f (tgt := 117) C (dd_X8_layMay.at 5 rfl) (by decide) hc ?_
      refine xx_aload_n C (dd_X8_layMay.at 6 rfl) rfl (Nat.le_of_ble_eq_true rfl) ?_
      refine xx_getR (j := 24) (r := 111) C ck_7 (lb_ rfl) lf_RX8_50 sh_k98 rfl (lb_ rfl) rfl (dd_X8_layMay.at 7 rfl) ?_
      refine xx_iload_n C (dd_X8_layMay.at 8 rfl) rfl ?_
      refine xx_iconst C (dd_X8_layMay.at 9 rfl) ic_0 ?_
      obtain ⟨g1, hf⟩ := gd_ok hf
      refine xx_iastore C (dd_X8_layMay.at 10 rfl) sh_k111 (bi_ok g1) ?_
      refine xx_iconst C (dd_X8_layMay.at 11 rfl) ic_0 ?_
      refine xx_istore_n (lv' := [_, _, _, _, _, _]) C (dd_X8_layMay.at 12 rfl) (lb_ rfl) rfl ?_
      refine xx_mask [true, true, true, true, false, false] (ss_X8_layMay_19 C Q (fun k6 hf => ?_) _ _ _ hf)
      refine xx_iinc (v := _ + (1 : Int32)) (lv' := [_, _, _, _, _, _]) C (dd_X8_layMay.at 62 rfl) (lb_ rfl) rfl (by rw [ic_1]) rfl ?_
      refine xx_goto (tgt := 2) C (dd_X8_layMay.at 63 rfl) (by decide) ?_
      exact xx_mask [true, true, true, false, false, false] (ih _ _ hf)
theorem ss_X8_layMay {l : Launch} {G : gt_} {a1 : Int32} {h : hh_} {h9 : hh_}  (hf : ff_X8_layMay a1 h = some h9) : ok_ l G 5 mt_X8_layMay [.ref 98, .int a1] h none h9 := by
  refine ok_of pn_RX8 (lb_ rfl) (fun Z _ _ C Q => ?_)
  show xx_ Z 0 [some (.ref 98), some (.int a1), none, none, none, none] [] h
  unfold ff_X8_layMay at hf
  refine xx_iconst C (dd_X8_layMay.at 0 rfl) ic_0 ?_
  refine xx_istore_n (lv' := [_, _, _, _, _, _]) C (dd_X8_layMay.at 1 rfl) (lb_ rfl) rfl ?_
  exact xx_mask [true, true, true, false, false, false] (ss_X8_layMay_2 C Q _ _ _ hf)
theorem ss_X8_planOn_67 {Z : zz_} {d9 : Nat} (C : cx_ Z mt_X8_planOn (d9 + 2)) {h9 : hh_} {x1 : Int32} {x2 : Int32} {x3 : Int32} {rc9 : Int32 → Int32 → Int32 → hh_ → Option (hh_)}  (Q : rq_ Z none h9) (hrec : ∀ (b0 : Int32) (b1 : Int32) (b2 : Int32) (k h9 : hh_), rc9 b0 b1 b2 k = some h9 → ok_ (z_l Z) (z_G Z) (d9 + 1) mt_X8_planOn [.ref 98, .int b0, .int b1, .int b2] k none h9) : ∀ (n9 : Nat) (x4 : Int32) (h : hh_), ff_X8_planOn_67 x1 x2 x3 rc9 n9 x4 h = some h9 → xx_ Z 67 [some (.ref 98), some (.int x1), some (.int x2), some (.int x3), some (.int x4)] [] h := by
  intro n9
  induction n9 with
  | zero =>
    intro x4 h hf
    exact absurd hf (by rw [ff_X8_planOn_67]; exact nofun)
  | succ n9 ih =>
    intro x4 h hf
    rw [ff_X8_planOn_67] at hf
    refine xx_iload C (dd_X8_planOn.at 36 rfl) rfl ?_
    refine xx_aload_n C (dd_X8_planOn.at 37 rfl) rfl (Nat.le_of_ble_eq_true rfl) ?_
    refine xx_getI (j := 12) C ck_7 (lb_ rfl) lf_RX8_147 sh_k98 rfl (dd_X8_planOn.at 38 rfl) ?_
    rcases ifo_ hf with ⟨hc, hf⟩ | ⟨hc, hf⟩
    · refine xx_icmp_ge_t (tgt := 134) C (dd_X8_planOn.at 39 rfl) (by decide) hc ?_
      refine xx_aload_n C (dd_X8_planOn.at 78 rfl) rfl (Nat.le_of_ble_eq_true rfl) ?_
      refine xx_getR (j := 25) (r := 112) C ck_7 (lb_ rfl) lf_RX8_53 sh_k98 rfl (lb_ rfl) rfl (dd_X8_planOn.at 79 rfl) ?_
      refine xx_iload_n C (dd_X8_planOn.at 80 rfl) rfl ?_
      refine xx_bipush C (dd_X8_planOn.at 81 rfl) bq_m9 ?_
      obtain ⟨g1, hf⟩ := gd_ok hf
      refine xx_iastore C (dd_X8_planOn.at 82 rfl) sh_k112 (bi_ok g1) ?_
      refine xx_aload_n C (dd_X8_planOn.at 83 rfl) rfl (Nat.le_of_ble_eq_true rfl) ?_
      refine xx_iload_n C (dd_X8_planOn.at 84 rfl) rfl ?_
      refine xx_iconst C (dd_X8_planOn.at 85 rfl) ic_1 ?_
      refine xx_iadd C (dd_X8_planOn.at 86 rfl) ?_
      refine xx_iload_n C (dd_X8_planOn.at 87 rfl) rfl ?_
      refine xx_iload_n C (dd_X8_planOn.at 88 rfl) rfl ?_
      obtain ⟨v2, e3, hf⟩ := bdo_ hf
      refine xx_callVv C (hrec _ _ _ _ _ e3) (dd_X8_planOn.at 89 rfl) ck_7 rfl sh_k98 kk_X8_planOn ki_X8_planOn lm_RX8_258 (Nat.le_refl _) rfl rfl (lb_ rfl) ?_
      exact xx_return C (rt_vwp hf Q) (dd_X8_planOn.at 90 rfl) rfl
    · refine xx_icmp_ge_f (tgt := 134) C (dd_X8_planOn.at 39 rfl) (by decide) hc ?_
      refine xx_aload_n C (dd_X8_planOn.at 40 rfl) rfl (Nat.le_of_ble_eq_true rfl) ?_
      refine xx_getR (j := 24) (r := 111) C ck_7 (lb_ rfl) lf_RX8_50 sh_k98 rfl (lb_ rfl) rfl (dd_X8_planOn.at 41 rfl) ?_
      refine xx_iload_n C (dd_X8_planOn.at 42 rfl) rfl ?_
      obtain ⟨g4, hf⟩ := gd_ok hf
      refine xx_iaload C (dd_X8_planOn.at 43 rfl) sh_k111 (bi_ok g4) ?_
      refine xx_iload_n C (dd_X8_planOn.at 44 rfl) rfl ?_
      refine xx_iand C (dd_X8_planOn.at 45 rfl) ?_
      refine xx_iload C (dd_X8_planOn.at 46 rfl) rfl ?_
      refine xx_callSi C (ss_X8_has rfl) (dd_X8_planOn.at 47 rfl) kk_X8_has ks_X8_has lm_RX8_255 (by omega) rfl rfl (lb_ rfl) ?_
      rcases ifo_ hf with ⟨hc, hf⟩ | ⟨hc, hf⟩
      · refine xx_if_eq_t (tgt := 128) C (dd_X8_planOn.at 48 rfl) (by decide) hc ?_
        refine xx_iinc (v := _ + (1 : Int32)) (lv' := [_, _, _, _, _]) C (dd_X8_planOn.at 76 rfl) (lb_ rfl) rfl (by rw [ic_1]) rfl ?_
        refine xx_goto (tgt := 67) C (dd_X8_planOn.at 77 rfl) (by decide) ?_
        exact xx_mask [true, true, true, true, true] (ih _ _ hf)
      · refine xx_if_eq_f (tgt := 128) C (dd_X8_planOn.at 48 rfl) (by decide) hc ?_
        refine xx_aload_n C (dd_X8_planOn.at 49 rfl) rfl (Nat.le_of_ble_eq_true rfl) ?_
        refine xx_getR (j := 25) (r := 112) C ck_7 (lb_ rfl) lf_RX8_53 sh_k98 rfl (lb_ rfl) rfl (dd_X8_planOn.at 50 rfl) ?_
        refine xx_iload_n C (dd_X8_planOn.at 51 rfl) rfl ?_
        refine xx_iload C (dd_X8_planOn.at 52 rfl) rfl ?_
        refine xx_iastore C (dd_X8_planOn.at 53 rfl) sh_k112 (bi_ok g4) ?_
        refine xx_aload_n C (dd_X8_planOn.at 54 rfl) rfl (Nat.le_of_ble_eq_true rfl) ?_
        refine xx_iload_n C (dd_X8_planOn.at 55 rfl) rfl ?_
        refine xx_iconst C (dd_X8_planOn.at 56 rfl) ic_1 ?_
        refine xx_iadd C (dd_X8_planOn.at 57 rfl) ?_
        refine xx_iload_n C (dd_X8_planOn.at 58 rfl) rfl ?_
        refine xx_iconst C (dd_X8_planOn.at 59 rfl) ic_1 ?_
        refine xx_iload C (dd_X8_planOn.at 60 rfl) rfl ?_
        refine xx_ishl C (dd_X8_planOn.at 61 rfl) ?_
        refine xx_iconst C (dd_X8_planOn.at 62 rfl) ic_m1 ?_
        refine xx_ixor C (dd_X8_planOn.at 63 rfl) ?_
        refine xx_iand C (dd_X8_planOn.at 64 rfl) ?_
        refine xx_iload_n C (dd_X8_planOn.at 65 rfl) rfl ?_
        refine xx_aload_n C (dd_X8_planOn.at 66 rfl) rfl (Nat.le_of_ble_eq_true rfl) ?_
        refine xx_getR (j := 15) (r := 107) C ck_7 (lb_ rfl) lf_RX8_38 sh_k98 rfl (lb_ rfl) rfl (dd_X8_planOn.at 67 rfl) ?_
        refine xx_iconst C (dd_X8_planOn.at 68 rfl) ic_5 ?_
        refine xx_iload C (dd_X8_planOn.at 69 rfl) rfl ?_
        refine xx_imul C (dd_X8_planOn.at 70 rfl) ?_
        refine xx_iconst C (dd_X8_planOn.at 71 rfl) ic_4 ?_
        refine xx_iadd C (dd_X8_planOn.at 72 rfl) ?_
        obtain ⟨g5, hf⟩ := gd_ok hf
        refine xx_iaload C (dd_X8_planOn.at 73 rfl) sh_k107 (bi_ok g5) ?_
        refine xx_iadd C (dd_X8_planOn.at 74 rfl) ?_
        obtain ⟨v6, e7, hf⟩ := bdo_ hf
        refine xx_callVv C (hrec _ _ _ _ _ e7) (dd_X8_planOn.at 75 rfl) ck_7 rfl sh_k98 kk_X8_planOn ki_X8_planOn lm_RX8_258 (Nat.le_refl _) rfl rfl (lb_ rfl) ?_
        refine xx_iinc (v := _ + (1 : Int32)) (lv' := [_, _, _, _, _]) C (dd_X8_planOn.at 76 rfl) (lb_ rfl) rfl (by rw [ic_1]) rfl ?_
        refine xx_goto (tgt := 67) C (dd_X8_planOn.at 77 rfl) (by decide) ?_
        exact xx_mask [true, true, true, true, true] (ih _ _ hf)
theorem ss_X8_planOn_34 {Z : zz_} {d9 : Nat} (C : cx_ Z mt_X8_planOn (d9 + 2)) {h9 : hh_} {rc9 : Int32 → Int32 → Int32 → hh_ → Option (hh_)}  (Q : rq_ Z none h9) (hrec : ∀ (b0 : Int32) (b1 : Int32) (b2 : Int32) (k h9 : hh_), rc9 b0 b1 b2 k = some h9 → ok_ (z_l Z) (z_G Z) (d9 + 1) mt_X8_planOn [.ref 98, .int b0, .int b1, .int b2] k none h9) : ∀ (n9 : Nat) (x4 : Int32) (h : hh_), ff_X8_planOn_34 rc9 n9 x4 h = some h9 → xx_ Z 34 [some (.ref 98), none, none, none, some (.int x4)] [] h := by
  intro n9
  induction n9 with
  | zero =>
    intro x4 h hf
    exact absurd hf (by rw [ff_X8_planOn_34]; exact nofun)
  | succ n9 ih =>
    intro x4 h hf
    rw [ff_X8_planOn_34] at hf
    refine xx_iload C (dd_X8_planOn.at 19 rfl) rfl ?_
    refine xx_aload_n C (dd_X8_planOn.at 20 rfl) rfl (Nat.le_of_ble_eq_true rfl) ?_
    refine xx_getI (j := 10) C ck_7 (lb_ rfl) lf_RX8_141 sh_k98 rfl (dd_X8_planOn.at 21 rfl) ?_
    rcases ifo_ hf with ⟨hc, hf⟩ | ⟨hc, hf⟩
    · refine xx_icmp_ge_t (tgt := 63) C (dd_X8_planOn.at 22 rfl) (by decide) hc ?_
      exact xx_return C (rt_vwp hf Q) (dd_X8_planOn.at 33 rfl) rfl
    · refine xx_icmp_ge_f (tgt := 63) C (dd_X8_planOn.at 22 rfl) (by decide) hc ?_
      refine xx_aload_n C (dd_X8_planOn.at 23 rfl) rfl (Nat.le_of_ble_eq_true rfl) ?_
      refine xx_getR (j := 26) (r := 113) C ck_7 (lb_ rfl) lf_RX8_56 sh_k98 rfl (lb_ rfl) rfl (dd_X8_planOn.at 24 rfl) ?_
      refine xx_iload C (dd_X8_planOn.at 25 rfl) rfl ?_
      refine xx_aload_n C (dd_X8_planOn.at 26 rfl) rfl (Nat.le_of_ble_eq_true rfl) ?_
      refine xx_getR (j := 25) (r := 112) C ck_7 (lb_ rfl) lf_RX8_53 sh_k98 rfl (lb_ rfl) rfl (dd_X8_planOn.at 27 rfl) ?_
      refine xx_iload C (dd_X8_planOn.at 28 rfl) rfl ?_
      obtain ⟨g8, hf⟩ := gd_ok hf
      refine xx_iaload C (dd_X8_planOn.at 29 rfl) sh_k112 (bi_ok g8) ?_
      refine xx_iastore C (dd_X8_planOn.at 30 rfl) sh_k113 (bi_ok g8) ?_
      refine xx_iinc (v := _ + (1 : Int32)) (lv' := [_, _, _, _, _]) C (dd_X8_planOn.at 31 rfl) (lb_ rfl) rfl (by rw [ic_1]) rfl ?_
      refine xx_goto (tgt := 34) C (dd_X8_planOn.at 32 rfl) (by decide) ?_
      exact xx_mask [true, false, false, false, true] (ih _ _ hf)
theorem ss_X8_planOn {l : Launch} {G : gt_} : ∀ (n8 : Nat) (a1 : Int32) (a2 : Int32) (a3 : Int32) (h : hh_) {h9 : hh_}, ff_X8_planOn n8 a1 a2 a3 h = some h9 → ok_ l G (n8 + 1) mt_X8_planOn [.ref 98, .int a1, .int a2, .int a3] h none h9 := by
  intro n8
  induction n8 with
  | zero =>
    intro a1 a2 a3 h h9 hf
    exact absurd hf (by rw [ff_X8_planOn]; exact nofun)
  | succ n8 ihr =>
    intro a1 a2 a3 h h9 hf
    refine ok_of pn_RX8 (lb_ rfl) (fun Z eL eG C Q => ?_)
    have hrec : ∀ (b0 : Int32) (b1 : Int32) (b2 : Int32) (k h9 : hh_), ff_X8_planOn n8 b0 b1 b2 k = some h9 → ok_ (z_l Z) (z_G Z) (n8 + 1) mt_X8_planOn [.ref 98, .int b0, .int b1, .int b2] k none h9 := fun b0 b1 b2 k h9 e => by rw [eL, eG]; exact ihr _ _ _ _ e
    show xx_ Z 0 [some (.ref 98), some (.int a1), some (.int a2), some (.int a3), none] [] h
    rw [ff_X8_planOn] at hf
    refine xx_iload_n C (dd_X8_planOn.at 0 rfl) rfl ?_
    refine xx_aload_n C (dd_X8_planOn.at 1 rfl) rfl (Nat.le_of_ble_eq_true rfl) ?_
    refine xx_getI (j := 10) C ck_7 (lb_ rfl) lf_RX8_141 sh_k98 rfl (dd_X8_planOn.at 2 rfl) ?_
    rcases ifo_ hf with ⟨hc, hf⟩ | ⟨hc, hf⟩
    · refine xx_icmp_ne_f (tgt := 64) C (dd_X8_planOn.at 3 rfl) (by decide) (not_not_intro hc) ?_
      refine xx_aload_n C (dd_X8_planOn.at 4 rfl) rfl (Nat.le_of_ble_eq_true rfl) ?_
      refine xx_dup C (dd_X8_planOn.at 5 rfl) rfl ?_
      refine xx_getL (j := 28) C ck_7 (lb_ rfl) lf_RX8_249 sh_k98 rfl (dd_X8_planOn.at 6 rfl) ?_
      refine xx_lconst (v := 1) C (dd_X8_planOn.at 7 rfl) rfl ?_
      refine xx_ladd C (dd_X8_planOn.at 8 rfl) ?_
      refine xx_putL (j := 28) C ck_7 (lb_ rfl) lf_RX8_249 rfl rfl sh_k98 rfl (dd_X8_planOn.at 9 rfl) ?_
      refine xx_iload_n C (dd_X8_planOn.at 10 rfl) rfl ?_
      refine xx_aload_n C (dd_X8_planOn.at 11 rfl) rfl (Nat.le_of_ble_eq_true rfl) ?_
      refine xx_getI (j := 27) C ck_7 (lb_ rfl) lf_RX8_252 sh_k98 rfl (dd_X8_planOn.at 12 rfl) ?_
      rcases ifo_ hf with ⟨hc, hf⟩ | ⟨hc, hf⟩
      · refine xx_icmp_le_t (tgt := 63) C (dd_X8_planOn.at 13 rfl) (by decide) hc ?_
        exact xx_return C (rt_vwp hf Q) (dd_X8_planOn.at 33 rfl) rfl
      · refine xx_icmp_le_f (tgt := 63) C (dd_X8_planOn.at 13 rfl) (by decide) hc ?_
        refine xx_aload_n C (dd_X8_planOn.at 14 rfl) rfl (Nat.le_of_ble_eq_true rfl) ?_
        refine xx_iload_n C (dd_X8_planOn.at 15 rfl) rfl ?_
        refine xx_putI (j := 27) C ck_7 (lb_ rfl) lf_RX8_252 rfl rfl sh_k98 rfl (dd_X8_planOn.at 16 rfl) ?_
        refine xx_iconst C (dd_X8_planOn.at 17 rfl) ic_0 ?_
        refine xx_istore (lv' := [_, _, _, _, _]) C (dd_X8_planOn.at 18 rfl) (lb_ rfl) rfl ?_
        exact xx_mask [true, false, false, false, true] (ss_X8_planOn_34 C Q hrec _ _ _ hf)
    · refine xx_icmp_ne_t (tgt := 64) C (dd_X8_planOn.at 3 rfl) (by decide) hc ?_
      refine xx_iconst C (dd_X8_planOn.at 34 rfl) ic_0 ?_
      refine xx_istore (lv' := [_, _, _, _, _]) C (dd_X8_planOn.at 35 rfl) (lb_ rfl) rfl ?_
      exact xx_mask [true, true, true, true, true] (ss_X8_planOn_67 C Q hrec _ _ _ hf)
theorem ss_X8_goPlans {l : Launch} {G : gt_} {a1 : Int32} {h : hh_} {h9 : hh_}  (hf : ff_X8_goPlans a1 h = some h9) : ok_ l G 12 mt_X8_goPlans [.ref 98, .int a1] h none h9 := by
  refine ok_of pn_RX8 (lb_ rfl) (fun Z _ _ C Q => ?_)
  show xx_ Z 0 [some (.ref 98), some (.int a1)] [] h
  unfold ff_X8_goPlans at hf
  refine xx_aload_n C (dd_X8_goPlans.at 0 rfl) rfl (Nat.le_of_ble_eq_true rfl) ?_
  refine xx_iload_n C (dd_X8_goPlans.at 1 rfl) rfl ?_
  obtain ⟨v1, e2, hf⟩ := bdo_ hf
  refine xx_callVv C (ss_X8_layMay e2) (dd_X8_goPlans.at 2 rfl) ck_7 rfl sh_k98 kk_X8_layMay ki_X8_layMay lm_RX8_261 (lb_ rfl) rfl rfl (lb_ rfl) ?_
  refine xx_aload_n C (dd_X8_goPlans.at 3 rfl) rfl (Nat.le_of_ble_eq_true rfl) ?_
  refine xx_iconst C (dd_X8_goPlans.at 4 rfl) ic_m1 ?_
  refine xx_putI (j := 27) C ck_7 (lb_ rfl) lf_RX8_252 rfl rfl sh_k98 rfl (dd_X8_goPlans.at 5 rfl) ?_
  refine xx_aload_n C (dd_X8_goPlans.at 6 rfl) rfl (Nat.le_of_ble_eq_true rfl) ?_
  refine xx_lconst (v := 0) C (dd_X8_goPlans.at 7 rfl) rfl ?_
  refine xx_putL (j := 28) C ck_7 (lb_ rfl) lf_RX8_249 rfl rfl sh_k98 rfl (dd_X8_goPlans.at 8 rfl) ?_
  refine xx_aload_n C (dd_X8_goPlans.at 9 rfl) rfl (Nat.le_of_ble_eq_true rfl) ?_
  refine xx_iconst C (dd_X8_goPlans.at 10 rfl) ic_0 ?_
  refine xx_iconst C (dd_X8_goPlans.at 11 rfl) ic_1 ?_
  refine xx_aload_n C (dd_X8_goPlans.at 12 rfl) rfl (Nat.le_of_ble_eq_true rfl) ?_
  refine xx_getI (j := 12) C ck_7 (lb_ rfl) lf_RX8_147 sh_k98 rfl (dd_X8_goPlans.at 13 rfl) ?_
  refine xx_ishl C (dd_X8_goPlans.at 14 rfl) ?_
  refine xx_iconst C (dd_X8_goPlans.at 15 rfl) ic_1 ?_
  refine xx_isub C (dd_X8_goPlans.at 16 rfl) ?_
  refine xx_iconst C (dd_X8_goPlans.at 17 rfl) ic_0 ?_
  obtain ⟨v3, e4, hf⟩ := bdo_ hf
  refine xx_callVv C (ss_X8_planOn 10 _ _ _ _ e4) (dd_X8_goPlans.at 18 rfl) ck_7 rfl sh_k98 kk_X8_planOn ki_X8_planOn lm_RX8_258 (lb_ rfl) rfl rfl (lb_ rfl) ?_
  exact xx_return C (rt_vwp hf Q) (dd_X8_goPlans.at 19 rfl) rfl
theorem ss_X8_layPlan_12 {Z : zz_} (C : cx_ Z mt_X8_layPlan 3) {r9 : Int32} {h9 : hh_} {x1 : Int32}  (Q : rq_ Z (some (.int r9)) h9) : ∀ (n9 : Nat) (x2 : Int32) (h : hh_), ff_X8_layPlan_12 x1 n9 x2 h = some (r9, h9) → xx_ Z 12 [some (.ref 98), some (.int x1), some (.int x2)] [] h := by
  intro n9
  induction n9 with
  | zero =>
    intro x2 h hf
    exact absurd hf (by rw [ff_X8_layPlan_12]; exact nofun)
  | succ n9 ih =>
    intro x2 h hf
    rw [ff_X8_layPlan_12] at hf
    refine xx_iload_n C (dd_X8_layPlan.at 8 rfl) rfl ?_
    refine xx_aload_n C (dd_X8_layPlan.at 9 rfl) rfl (Nat.le_of_ble_eq_true rfl) ?_
    refine xx_getI (j := 10) C ck_7 (lb_ rfl) lf_RX8_141 sh_k98 rfl (dd_X8_layPlan.at 10 rfl) ?_
    rcases ifo_ hf with ⟨hc, hf⟩ | ⟨hc, hf⟩
    · refine xx_icmp_ge_t (tgt := 38) C (dd_X8_layPlan.at 11 rfl) (by decide) hc ?_
      refine xx_aload_n C (dd_X8_layPlan.at 22 rfl) rfl (Nat.le_of_ble_eq_true rfl) ?_
      refine xx_getI (j := 27) C ck_7 (lb_ rfl) lf_RX8_252 sh_k98 rfl (dd_X8_layPlan.at 23 rfl) ?_
      exact xx_ireturn C (rt_iwp hf Q) (dd_X8_layPlan.at 24 rfl) rfl
    · refine xx_icmp_ge_f (tgt := 38) C (dd_X8_layPlan.at 11 rfl) (by decide) hc ?_
      refine xx_aload_n C (dd_X8_layPlan.at 12 rfl) rfl (Nat.le_of_ble_eq_true rfl) ?_
      refine xx_iload_n C (dd_X8_layPlan.at 13 rfl) rfl ?_
      refine xx_iload_n C (dd_X8_layPlan.at 14 rfl) rfl ?_
      refine xx_aload_n C (dd_X8_layPlan.at 15 rfl) rfl (Nat.le_of_ble_eq_true rfl) ?_
      refine xx_getR (j := 26) (r := 113) C ck_7 (lb_ rfl) lf_RX8_56 sh_k98 rfl (lb_ rfl) rfl (dd_X8_layPlan.at 16 rfl) ?_
      refine xx_iload_n C (dd_X8_layPlan.at 17 rfl) rfl ?_
      obtain ⟨g3, hf⟩ := gd_ok hf
      refine xx_iaload C (dd_X8_layPlan.at 18 rfl) sh_k113 (bi_ok g3) ?_
      obtain ⟨v4, e5, hf⟩ := bdo_ hf
      refine xx_callVv C (ss_X8_setRow e5) (dd_X8_layPlan.at 19 rfl) ck_7 rfl sh_k98 kk_X8_setRow ki_X8_setRow lm_RX8_87 (lb_ rfl) rfl rfl (lb_ rfl) ?_
      refine xx_iinc (v := _ + (1 : Int32)) (lv' := [_, _, _]) C (dd_X8_layPlan.at 20 rfl) (lb_ rfl) rfl (by rw [ic_1]) rfl ?_
      refine xx_goto (tgt := 12) C (dd_X8_layPlan.at 21 rfl) (by decide) ?_
      exact xx_mask [true, true, true] (ih _ _ hf)
theorem ss_X8_layPlan {l : Launch} {G : gt_} {a1 : Int32} {h : hh_} {r9 : Int32} {h9 : hh_}  (hf : ff_X8_layPlan a1 h = some (r9, h9)) : ok_ l G 3 mt_X8_layPlan [.ref 98, .int a1] h (some (.int r9)) h9 := by
  refine ok_of pn_RX8 (lb_ rfl) (fun Z _ _ C Q => ?_)
  show xx_ Z 0 [some (.ref 98), some (.int a1), none] [] h
  unfold ff_X8_layPlan at hf
  refine xx_aload_n C (dd_X8_layPlan.at 0 rfl) rfl (Nat.le_of_ble_eq_true rfl) ?_
  refine xx_iload_n C (dd_X8_layPlan.at 1 rfl) rfl ?_
  refine xx_aload_n C (dd_X8_layPlan.at 2 rfl) rfl (Nat.le_of_ble_eq_true rfl) ?_
  refine xx_getI (j := 10) C ck_7 (lb_ rfl) lf_RX8_141 sh_k98 rfl (dd_X8_layPlan.at 3 rfl) ?_
  obtain ⟨v1, e2, hf⟩ := bdo_ hf
  refine xx_callVi C (ss_X8_row (pz_ e2)) (dd_X8_layPlan.at 4 rfl) ck_7 rfl sh_k98 kk_X8_row ki_X8_row lm_RX8_246 (lb_ rfl) rfl rfl (lb_ rfl) ?_
  refine xx_pop C (dd_X8_layPlan.at 5 rfl) rfl ?_
  refine xx_iconst C (dd_X8_layPlan.at 6 rfl) ic_0 ?_
  refine xx_istore_n (lv' := [_, _, _]) C (dd_X8_layPlan.at 7 rfl) (lb_ rfl) rfl ?_
  exact xx_mask [true, true, true] (ss_X8_layPlan_12 C Q _ _ _ hf)
theorem ss_X8_plan {l : Launch} {G : gt_} {a1 : Int32} {a2 : Int32} {h : hh_} {r9 : Int32} {h9 : hh_}  (hf : ff_X8_plan a1 a2 h = some (r9, h9)) : ok_ l G 13 mt_X8_plan [.ref 98, .int a1, .int a2] h (some (.int r9)) h9 := by
  refine ok_of pn_RX8 (lb_ rfl) (fun Z _ _ C Q => ?_)
  show xx_ Z 0 [some (.ref 98), some (.int a1), some (.int a2)] [] h
  unfold ff_X8_plan at hf
  refine xx_aload_n C (dd_X8_plan.at 0 rfl) rfl (Nat.le_of_ble_eq_true rfl) ?_
  refine xx_iload_n C (dd_X8_plan.at 1 rfl) rfl ?_
  refine xx_callVi C (ss_X8_isThumb rfl) (dd_X8_plan.at 2 rfl) ck_7 rfl sh_k98 kk_X8_isThumb ki_X8_isThumb lm_RX8_165 (lb_ rfl) rfl rfl (lb_ rfl) ?_
  rcases ifo_ hf with ⟨hc, hf⟩ | ⟨hc, hf⟩
  · refine xx_if_eq_t (tgt := 15) C (dd_X8_plan.at 3 rfl) (by decide) hc ?_
    refine xx_iconst C (dd_X8_plan.at 7 rfl) ic_m1 ?_
    exact xx_ireturn C (rt_iwp hf Q) (dd_X8_plan.at 8 rfl) rfl
  · refine xx_if_eq_f (tgt := 15) C (dd_X8_plan.at 3 rfl) (by decide) hc ?_
    refine xx_iload_n C (dd_X8_plan.at 4 rfl) rfl ?_
    refine xx_callSi C (ss_X8_isRow rfl) (dd_X8_plan.at 5 rfl) kk_X8_isRow ks_X8_isRow lm_RX8_76 (lb_ rfl) rfl rfl (lb_ rfl) ?_
    rcases ifo_ hf with ⟨hc, hf⟩ | ⟨hc, hf⟩
    · refine xx_if_ne_f (tgt := 17) C (dd_X8_plan.at 6 rfl) (by decide) (not_not_intro hc) ?_
      refine xx_iconst C (dd_X8_plan.at 7 rfl) ic_m1 ?_
      exact xx_ireturn C (rt_iwp hf Q) (dd_X8_plan.at 8 rfl) rfl
    · refine xx_if_ne_t (tgt := 17) C (dd_X8_plan.at 6 rfl) (by decide) hc ?_
      refine xx_aload_n C (dd_X8_plan.at 9 rfl) rfl (Nat.le_of_ble_eq_true rfl) ?_
      refine xx_iload_n C (dd_X8_plan.at 10 rfl) rfl ?_
      obtain ⟨v1, e2, hf⟩ := bdo_ hf
      refine xx_callVv C (ss_X8_goPlans e2) (dd_X8_plan.at 11 rfl) ck_7 rfl sh_k98 kk_X8_goPlans ki_X8_goPlans lm_RX8_265 (lb_ rfl) rfl rfl (lb_ rfl) ?_
      refine xx_aload_n C (dd_X8_plan.at 12 rfl) rfl (Nat.le_of_ble_eq_true rfl) ?_
      refine xx_iload_n C (dd_X8_plan.at 13 rfl) rfl ?_
      obtain ⟨v3, e4, hf⟩ := bdo_ hf
      refine xx_callVi C (ss_X8_layPlan (pz_ e4)) (dd_X8_plan.at 14 rfl) ck_7 rfl sh_k98 kk_X8_layPlan ki_X8_layPlan lm_RX8_268 (lb_ rfl) rfl rfl (lb_ rfl) ?_
      exact xx_ireturn C (rt_iwp hf Q) (dd_X8_plan.at 15 rfl) rfl
theorem ss_X8_plans {l : Launch} {G : gt_} {a1 : Int32} {h : hh_} {r9 : Int32} {h9 : hh_}  (hf : ff_X8_plans a1 h = some (r9, h9)) : ok_ l G 13 mt_X8_plans [.ref 98, .int a1] h (some (.int r9)) h9 := by
  refine ok_of pn_RX8 (lb_ rfl) (fun Z _ _ C Q => ?_)
  show xx_ Z 0 [some (.ref 98), some (.int a1)] [] h
  unfold ff_X8_plans at hf
  refine xx_aload_n C (dd_X8_plans.at 0 rfl) rfl (Nat.le_of_ble_eq_true rfl) ?_
  refine xx_iload_n C (dd_X8_plans.at 1 rfl) rfl ?_
  refine xx_callVi C (ss_X8_isThumb rfl) (dd_X8_plans.at 2 rfl) ck_7 rfl sh_k98 kk_X8_isThumb ki_X8_isThumb lm_RX8_165 (lb_ rfl) rfl rfl (lb_ rfl) ?_
  rcases ifo_ hf with ⟨hc, hf⟩ | ⟨hc, hf⟩
  · refine xx_if_ne_f (tgt := 10) C (dd_X8_plans.at 3 rfl) (by decide) (not_not_intro hc) ?_
    refine xx_iconst C (dd_X8_plans.at 4 rfl) ic_m1 ?_
    exact xx_ireturn C (rt_iwp hf Q) (dd_X8_plans.at 5 rfl) rfl
  · refine xx_if_ne_t (tgt := 10) C (dd_X8_plans.at 3 rfl) (by decide) hc ?_
    refine xx_aload_n C (dd_X8_plans.at 6 rfl) rfl (Nat.le_of_ble_eq_true rfl) ?_
    refine xx_iload_n C (dd_X8_plans.at 7 rfl) rfl ?_
    obtain ⟨v1, e2, hf⟩ := bdo_ hf
    refine xx_callVv C (ss_X8_goPlans e2) (dd_X8_plans.at 8 rfl) ck_7 rfl sh_k98 kk_X8_goPlans ki_X8_goPlans lm_RX8_265 (lb_ rfl) rfl rfl (lb_ rfl) ?_
    refine xx_aload_n C (dd_X8_plans.at 9 rfl) rfl (Nat.le_of_ble_eq_true rfl) ?_
    refine xx_aload_n C (dd_X8_plans.at 10 rfl) rfl (Nat.le_of_ble_eq_true rfl) ?_
    refine xx_getL (j := 28) C ck_7 (lb_ rfl) lf_RX8_249 sh_k98 rfl (dd_X8_plans.at 11 rfl) ?_
    refine xx_lconst (v := 1) C (dd_X8_plans.at 12 rfl) rfl ?_
    obtain ⟨v3, e4, hf⟩ := bdo_ hf
    refine xx_callVi C (ss_X8_part (pz_ e4)) (dd_X8_plans.at 13 rfl) ck_7 rfl sh_k98 kk_X8_part ki_X8_part lm_RX8_230 (lb_ rfl) rfl rfl (lb_ rfl) ?_
    exact xx_ireturn C (rt_iwp hf Q) (dd_X8_plans.at 14 rfl) rfl
theorem ss_X8_safest {l : Launch} {G : gt_} {a1 : Int32} {h : hh_} {r9 : Int32} {h9 : hh_}  (hf : ff_X8_safest a1 h = some (r9, h9)) : ok_ l G 13 mt_X8_safest [.ref 98, .int a1] h (some (.int r9)) h9 := by
  refine ok_of pn_RX8 (lb_ rfl) (fun Z _ _ C Q => ?_)
  show xx_ Z 0 [some (.ref 98), some (.int a1)] [] h
  unfold ff_X8_safest at hf
  refine xx_iload_n C (dd_X8_safest.at 0 rfl) rfl ?_
  refine xx_callSi C (ss_X8_isRow rfl) (dd_X8_safest.at 1 rfl) kk_X8_isRow ks_X8_isRow lm_RX8_76 (lb_ rfl) rfl rfl (lb_ rfl) ?_
  rcases ifo_ hf with ⟨hc, hf⟩ | ⟨hc, hf⟩
  · refine xx_if_ne_f (tgt := 9) C (dd_X8_safest.at 2 rfl) (by decide) (not_not_intro hc) ?_
    refine xx_iconst C (dd_X8_safest.at 3 rfl) ic_m1 ?_
    exact xx_ireturn C (rt_iwp hf Q) (dd_X8_safest.at 4 rfl) rfl
  · refine xx_if_ne_t (tgt := 9) C (dd_X8_safest.at 2 rfl) (by decide) hc ?_
    refine xx_aload_n C (dd_X8_safest.at 5 rfl) rfl (Nat.le_of_ble_eq_true rfl) ?_
    refine xx_getI (j := 10) C ck_7 (lb_ rfl) lf_RX8_141 sh_k98 rfl (dd_X8_safest.at 6 rfl) ?_
    rcases ifo_ hf with ⟨hc, hf⟩ | ⟨hc, hf⟩
    · refine xx_if_ne_f (tgt := 19) C (dd_X8_safest.at 7 rfl) (by decide) (not_not_intro hc) ?_
      refine xx_bipush C (dd_X8_safest.at 8 rfl) bq_m4 ?_
      exact xx_ireturn C (rt_iwp hf Q) (dd_X8_safest.at 9 rfl) rfl
    · refine xx_if_ne_t (tgt := 19) C (dd_X8_safest.at 7 rfl) (by decide) hc ?_
      refine xx_aload_n C (dd_X8_safest.at 10 rfl) rfl (Nat.le_of_ble_eq_true rfl) ?_
      refine xx_bipush C (dd_X8_safest.at 11 rfl) bq_m9 ?_
      obtain ⟨v1, e2, hf⟩ := bdo_ hf
      refine xx_callVv C (ss_X8_goPlans e2) (dd_X8_safest.at 12 rfl) ck_7 rfl sh_k98 kk_X8_goPlans ki_X8_goPlans lm_RX8_265 (lb_ rfl) rfl rfl (lb_ rfl) ?_
      refine xx_aload_n C (dd_X8_safest.at 13 rfl) rfl (Nat.le_of_ble_eq_true rfl) ?_
      refine xx_iload_n C (dd_X8_safest.at 14 rfl) rfl ?_
      obtain ⟨v3, e4, hf⟩ := bdo_ hf
      refine xx_callVi C (ss_X8_layPlan (pz_ e4)) (dd_X8_safest.at 15 rfl) ck_7 rfl sh_k98 kk_X8_layPlan ki_X8_layPlan lm_RX8_268 (lb_ rfl) rfl rfl (lb_ rfl) ?_
      exact xx_ireturn C (rt_iwp hf Q) (dd_X8_safest.at 16 rfl) rfl
theorem ss_X8_gain_108 {Z : zz_} (C : cx_ Z mt_X8_gain 13) {r9 : Int32} {h9 : hh_} {x1 : Int32} {x2 : Int32} {x3 : Int32} {x5 : Int32} {x6 : Int32} {y0 : Int32} {h : hh_} {K108_123 : Int32 → Int32 → Option (Int32 × hh_)} (Q : rq_ Z (some (.int r9)) h9) (hK108_123 : ∀ (z4 : Int32) (z5 : Int32), K108_123 z4 z5 = some (r9, h9) → xx_ Z 123 [some (.ref 98), some (.int x1), some (.int x2), some (.int x3), some (.int z4), some (.int z5), some (.int x6)] [] h) (hf : ff_X8_gain_108 x1 x2 x3 x5 x6 y0 h K108_123 = some (r9, h9)) : xx_ Z 108 [some (.ref 98), some (.int x1), some (.int x2), some (.int x3), none, some (.int x5), some (.int x6)] [.int y0] h := by
  unfold ff_X8_gain_108 at hf
  refine xx_istore (lv' := [_, _, _, _, _, _, _]) C (dd_X8_gain.at 67 rfl) (lb_ rfl) rfl ?_
  refine xx_iload C (dd_X8_gain.at 68 rfl) rfl ?_
  refine xx_aload_n C (dd_X8_gain.at 69 rfl) rfl (Nat.le_of_ble_eq_true rfl) ?_
  refine xx_getI (j := 27) C ck_7 (lb_ rfl) lf_RX8_252 sh_k98 rfl (dd_X8_gain.at 70 rfl) ?_
  refine xx_iload_n C (dd_X8_gain.at 71 rfl) rfl ?_
  refine xx_isub C (dd_X8_gain.at 72 rfl) ?_
  refine xx_callSi C (ss_X8_greater rfl) (dd_X8_gain.at 73 rfl) kk_X8_greater ks_X8_greater lm_RX8_171 (lb_ rfl) rfl rfl (lb_ rfl) ?_
  refine xx_istore (lv' := [_, _, _, _, _, _, _]) C (dd_X8_gain.at 74 rfl) (lb_ rfl) rfl ?_
  exact xx_mask [true, true, true, true, true, true, true] (hK108_123 _ _ hf)
theorem ss_X8_gain_38 {Z : zz_} (C : cx_ Z mt_X8_gain 13) {r9 : Int32} {h9 : hh_} {x1 : Int32} {x2 : Int32} {x3 : Int32} {K38_129 : Int32 → Int32 → hh_ → Option (Int32 × hh_)} (Q : rq_ Z (some (.int r9)) h9) (hK38_129 : ∀ (z4 : Int32) (z5 : Int32) (h8 : hh_), K38_129 z4 z5 h8 = some (r9, h9) → xx_ Z 129 [some (.ref 98), none, none, none, some (.int z4), some (.int z5), none] [] h8) : ∀ (n9 : Nat) (x4 : Int32) (x5 : Int32) (x6 : Int32) (h : hh_), ff_X8_gain_38 x1 x2 x3 K38_129 n9 x4 x5 x6 h = some (r9, h9) → xx_ Z 38 [some (.ref 98), some (.int x1), some (.int x2), some (.int x3), some (.int x4), some (.int x5), some (.int x6)] [] h := by
  intro n9
  induction n9 with
  | zero =>
    intro x4 x5 x6 h hf
    exact absurd hf (by rw [ff_X8_gain_38]; exact nofun)
  | succ n9 ih =>
    intro x4 x5 x6 h hf
    rw [ff_X8_gain_38] at hf
    refine xx_iload C (dd_X8_gain.at 22 rfl) rfl ?_
    refine xx_iconst C (dd_X8_gain.at 23 rfl) ic_4 ?_
    rcases ifo_ hf with ⟨hc, hf⟩ | ⟨hc, hf⟩
    · refine xx_icmp_ge_t (tgt := 129) C (dd_X8_gain.at 24 rfl) (by decide) hc ?_
      exact xx_mask [true, false, false, false, true, true, false] (hK38_129 _ _ _ hf)
    · refine xx_icmp_ge_f (tgt := 129) C (dd_X8_gain.at 24 rfl) (by decide) hc ?_
      refine xx_aload_n C (dd_X8_gain.at 25 rfl) rfl (Nat.le_of_ble_eq_true rfl) ?_
      refine xx_iload_n C (dd_X8_gain.at 26 rfl) rfl ?_
      refine xx_iload C (dd_X8_gain.at 27 rfl) rfl ?_
      obtain ⟨v3, e4, hf⟩ := bdo_ hf
      refine xx_callVi C (ss_X8_bump e4) (dd_X8_gain.at 28 rfl) ck_7 rfl sh_k98 kk_X8_bump ki_X8_bump lm_RX8_153 (lb_ rfl) rfl rfl (lb_ rfl) ?_
      refine xx_iconst C (dd_X8_gain.at 29 rfl) ic_5 ?_
      rcases ifo_ hf with ⟨hc, hf⟩ | ⟨hc, hf⟩
      · refine xx_icmp_ge_t (tgt := 123) C (dd_X8_gain.at 30 rfl) (by decide) hc ?_
        refine xx_iinc (v := _ + (1 : Int32)) (lv' := [_, _, _, _, _, _, _]) C (dd_X8_gain.at 75 rfl) (lb_ rfl) rfl (by rw [ic_1]) rfl ?_
        refine xx_goto (tgt := 38) C (dd_X8_gain.at 76 rfl) (by decide) ?_
        exact xx_mask [true, true, true, true, true, true, true] (ih _ _ _ _ hf)
      · refine xx_icmp_ge_f (tgt := 123) C (dd_X8_gain.at 30 rfl) (by decide) hc ?_
        refine xx_aload_n C (dd_X8_gain.at 31 rfl) rfl (Nat.le_of_ble_eq_true rfl) ?_
        refine xx_getR (j := 13) (r := 105) C ck_7 (lb_ rfl) lf_RX8_32 sh_k98 rfl (lb_ rfl) rfl (dd_X8_gain.at 32 rfl) ?_
        refine xx_iconst C (dd_X8_gain.at 33 rfl) ic_5 ?_
        refine xx_iload_n C (dd_X8_gain.at 34 rfl) rfl ?_
        refine xx_imul C (dd_X8_gain.at 35 rfl) ?_
        refine xx_iload C (dd_X8_gain.at 36 rfl) rfl ?_
        refine xx_iadd C (dd_X8_gain.at 37 rfl) ?_
        refine xx_dup2 C (dd_X8_gain.at 38 rfl) rfl rfl ?_
        obtain ⟨g5, hf⟩ := gd_ok hf
        refine xx_iaload C (dd_X8_gain.at 39 rfl) sh_k105 (bi_ok g5) ?_
        refine xx_iconst C (dd_X8_gain.at 40 rfl) ic_1 ?_
        refine xx_iadd C (dd_X8_gain.at 41 rfl) ?_
        refine xx_iastore C (dd_X8_gain.at 42 rfl) sh_k105 (bi_ok g5) ?_
        refine xx_aload_n C (dd_X8_gain.at 43 rfl) rfl (Nat.le_of_ble_eq_true rfl) ?_
        refine xx_iload_n C (dd_X8_gain.at 44 rfl) rfl ?_
        obtain ⟨v6, e7, hf⟩ := bdo_ hf
        refine xx_callVv C (ss_X8_goPlans e7) (dd_X8_gain.at 45 rfl) ck_7 rfl sh_k98 kk_X8_goPlans ki_X8_goPlans lm_RX8_265 (lb_ rfl) rfl rfl (lb_ rfl) ?_
        refine xx_aload_n C (dd_X8_gain.at 46 rfl) rfl (Nat.le_of_ble_eq_true rfl) ?_
        refine xx_getR (j := 13) (r := 105) C ck_7 (lb_ rfl) lf_RX8_32 sh_k98 rfl (lb_ rfl) rfl (dd_X8_gain.at 47 rfl) ?_
        refine xx_iconst C (dd_X8_gain.at 48 rfl) ic_5 ?_
        refine xx_iload_n C (dd_X8_gain.at 49 rfl) rfl ?_
        refine xx_imul C (dd_X8_gain.at 50 rfl) ?_
        refine xx_iload C (dd_X8_gain.at 51 rfl) rfl ?_
        refine xx_iadd C (dd_X8_gain.at 52 rfl) ?_
        refine xx_dup2 C (dd_X8_gain.at 53 rfl) rfl rfl ?_
        refine xx_iaload C (dd_X8_gain.at 54 rfl) sh_k105 (bi_ok g5) ?_
        refine xx_iconst C (dd_X8_gain.at 55 rfl) ic_1 ?_
        refine xx_isub C (dd_X8_gain.at 56 rfl) ?_
        refine xx_iastore C (dd_X8_gain.at 57 rfl) sh_k105 (bi_ok g5) ?_
        refine xx_aload_n C (dd_X8_gain.at 58 rfl) rfl (Nat.le_of_ble_eq_true rfl) ?_
        refine xx_getI (j := 27) C ck_7 (lb_ rfl) lf_RX8_252 sh_k98 rfl (dd_X8_gain.at 59 rfl) ?_
        refine xx_iload_n C (dd_X8_gain.at 60 rfl) rfl ?_
        refine xx_isub C (dd_X8_gain.at 61 rfl) ?_
        refine xx_iload C (dd_X8_gain.at 62 rfl) rfl ?_
        rcases ifo_ hf with ⟨hc, hf⟩ | ⟨hc, hf⟩
        · refine xx_icmp_le_t (tgt := 106) C (dd_X8_gain.at 63 rfl) (by decide) hc ?_
          refine xx_iload C (dd_X8_gain.at 66 rfl) rfl ?_
          refine xx_mask [true, true, true, true, false, true, true] (ss_X8_gain_108 C Q (fun u8 u9 hf => ?_) hf)
          refine xx_iinc (v := _ + (1 : Int32)) (lv' := [_, _, _, _, _, _, _]) C (dd_X8_gain.at 75 rfl) (lb_ rfl) rfl (by rw [ic_1]) rfl ?_
          refine xx_goto (tgt := 38) C (dd_X8_gain.at 76 rfl) (by decide) ?_
          exact xx_mask [true, true, true, true, true, true, true] (ih _ _ _ _ hf)
        · refine xx_icmp_le_f (tgt := 106) C (dd_X8_gain.at 63 rfl) (by decide) hc ?_
          refine xx_iload C (dd_X8_gain.at 64 rfl) rfl ?_
          refine xx_goto (tgt := 108) C (dd_X8_gain.at 65 rfl) (by decide) ?_
          refine xx_mask [true, true, true, true, false, true, true] (ss_X8_gain_108 C Q (fun u10 u11 hf => ?_) hf)
          refine xx_iinc (v := _ + (1 : Int32)) (lv' := [_, _, _, _, _, _, _]) C (dd_X8_gain.at 75 rfl) (lb_ rfl) rfl (by rw [ic_1]) rfl ?_
          refine xx_goto (tgt := 38) C (dd_X8_gain.at 76 rfl) (by decide) ?_
          exact xx_mask [true, true, true, true, true, true, true] (ih _ _ _ _ hf)
theorem ss_X8_gain {l : Launch} {G : gt_} {a1 : Int32} {a2 : Int32} {h : hh_} {r9 : Int32} {h9 : hh_}  (hf : ff_X8_gain a1 a2 h = some (r9, h9)) : ok_ l G 13 mt_X8_gain [.ref 98, .int a1, .int a2] h (some (.int r9)) h9 := by
  refine ok_of pn_RX8 (lb_ rfl) (fun Z _ _ C Q => ?_)
  show xx_ Z 0 [some (.ref 98), some (.int a1), some (.int a2), none, none, none, none] [] h
  unfold ff_X8_gain at hf
  refine xx_aload_n C (dd_X8_gain.at 0 rfl) rfl (Nat.le_of_ble_eq_true rfl) ?_
  refine xx_iload_n C (dd_X8_gain.at 1 rfl) rfl ?_
  refine xx_callVi C (ss_X8_isThumb rfl) (dd_X8_gain.at 2 rfl) ck_7 rfl sh_k98 kk_X8_isThumb ki_X8_isThumb lm_RX8_165 (lb_ rfl) rfl rfl (lb_ rfl) ?_
  rcases ifo_ hf with ⟨hc, hf⟩ | ⟨hc, hf⟩
  · refine xx_if_eq_t (tgt := 16) C (dd_X8_gain.at 3 rfl) (by decide) hc ?_
    refine xx_iconst C (dd_X8_gain.at 8 rfl) ic_m1 ?_
    exact xx_ireturn C (rt_iwp hf Q) (dd_X8_gain.at 9 rfl) rfl
  · refine xx_if_eq_f (tgt := 16) C (dd_X8_gain.at 3 rfl) (by decide) hc ?_
    refine xx_aload_n C (dd_X8_gain.at 4 rfl) rfl (Nat.le_of_ble_eq_true rfl) ?_
    refine xx_iload_n C (dd_X8_gain.at 5 rfl) rfl ?_
    refine xx_callVi C (ss_X8_isHead rfl) (dd_X8_gain.at 6 rfl) ck_7 rfl sh_k98 kk_X8_isHead ki_X8_isHead lm_RX8_159 (lb_ rfl) rfl rfl (lb_ rfl) ?_
    rcases ifo_ hf with ⟨hc, hf⟩ | ⟨hc, hf⟩
    · refine xx_if_ne_f (tgt := 18) C (dd_X8_gain.at 7 rfl) (by decide) (not_not_intro hc) ?_
      refine xx_iconst C (dd_X8_gain.at 8 rfl) ic_m1 ?_
      exact xx_ireturn C (rt_iwp hf Q) (dd_X8_gain.at 9 rfl) rfl
    · refine xx_if_ne_t (tgt := 18) C (dd_X8_gain.at 7 rfl) (by decide) hc ?_
      refine xx_aload_n C (dd_X8_gain.at 10 rfl) rfl (Nat.le_of_ble_eq_true rfl) ?_
      refine xx_iload_n C (dd_X8_gain.at 11 rfl) rfl ?_
      obtain ⟨v1, e2, hf⟩ := bdo_ hf
      refine xx_callVv C (ss_X8_goPlans e2) (dd_X8_gain.at 12 rfl) ck_7 rfl sh_k98 kk_X8_goPlans ki_X8_goPlans lm_RX8_265 (lb_ rfl) rfl rfl (lb_ rfl) ?_
      refine xx_aload_n C (dd_X8_gain.at 13 rfl) rfl (Nat.le_of_ble_eq_true rfl) ?_
      refine xx_getI (j := 27) C ck_7 (lb_ rfl) lf_RX8_252 sh_k98 rfl (dd_X8_gain.at 14 rfl) ?_
      refine xx_istore_n (lv' := [_, _, _, _, _, _, _]) C (dd_X8_gain.at 15 rfl) (lb_ rfl) rfl ?_
      refine xx_bipush C (dd_X8_gain.at 16 rfl) bq_m9 ?_
      refine xx_istore (lv' := [_, _, _, _, _, _, _]) C (dd_X8_gain.at 17 rfl) (lb_ rfl) rfl ?_
      refine xx_iconst C (dd_X8_gain.at 18 rfl) ic_0 ?_
      refine xx_istore (lv' := [_, _, _, _, _, _, _]) C (dd_X8_gain.at 19 rfl) (lb_ rfl) rfl ?_
      refine xx_iconst C (dd_X8_gain.at 20 rfl) ic_0 ?_
      refine xx_istore (lv' := [_, _, _, _, _, _, _]) C (dd_X8_gain.at 21 rfl) (lb_ rfl) rfl ?_
      refine xx_mask [true, true, true, true, true, true, true] (ss_X8_gain_38 C Q (fun u12 u13 k14 hf => ?_) _ _ _ _ _ hf)
      refine xx_iload C (dd_X8_gain.at 77 rfl) rfl ?_
      refine xx_bipush C (dd_X8_gain.at 78 rfl) bq_m9 ?_
      rcases ifo_ hf with ⟨hc, hf⟩ | ⟨hc, hf⟩
      · refine xx_icmp_ne_f (tgt := 141) C (dd_X8_gain.at 79 rfl) (by decide) (not_not_intro hc) ?_
        refine xx_bipush C (dd_X8_gain.at 80 rfl) bq_m9 ?_
        refine xx_goto (tgt := 149) C (dd_X8_gain.at 81 rfl) (by decide) ?_
        exact xx_ireturn C (rt_iwp hf Q) (dd_X8_gain.at 86 rfl) rfl
      · refine xx_icmp_ne_t (tgt := 141) C (dd_X8_gain.at 79 rfl) (by decide) hc ?_
        refine xx_aload_n C (dd_X8_gain.at 82 rfl) rfl (Nat.le_of_ble_eq_true rfl) ?_
        refine xx_iload C (dd_X8_gain.at 83 rfl) rfl ?_
        refine xx_iload C (dd_X8_gain.at 84 rfl) rfl ?_
        refine xx_callVi C (ss_X8_ask pe_) (dd_X8_gain.at 85 rfl) ck_7 rfl sh_k98 kk_X8_ask ki_X8_ask lm_RX8_98 (lb_ rfl) rfl rfl (lb_ rfl) ?_
        exact xx_ireturn C (rt_iwp hf Q) (dd_X8_gain.at 86 rfl) rfl
theorem ss_X8_doesLearn_6 {Z : zz_} (C : cx_ Z mt_X8_doesLearn 2) {r9 : Int32} {x1 : Int32} {x2 : Int32} {x3 : Int32} {x4 : Int32} {h : hh_}  (Q : rq_ Z (some (.int r9)) h) : ∀ (n9 : Nat) (x5 : Int32) (x6 : Int32), ff_X8_doesLearn_6 x1 x2 x3 x4 h n9 x5 x6 = some r9 → xx_ Z 6 [some (.ref 98), some (.int x1), some (.int x2), some (.int x3), some (.int x4), some (.int x5), some (.int x6), none, none] [] h := by
  intro n9
  induction n9 with
  | zero =>
    intro x5 x6 hf
    exact absurd hf (by rw [ff_X8_doesLearn_6]; exact nofun)
  | succ n9 ih =>
    intro x5 x6 hf
    rw [ff_X8_doesLearn_6] at hf
    refine xx_iload C (dd_X8_doesLearn.at 4 rfl) rfl ?_
    refine xx_aload_n C (dd_X8_doesLearn.at 5 rfl) rfl (Nat.le_of_ble_eq_true rfl) ?_
    refine xx_getR (j := 5) (r := 100) C ck_7 (lb_ rfl) lf_RX8_17 sh_k98 rfl (lb_ rfl) rfl (dd_X8_doesLearn.at 6 rfl) ?_
    refine xx_iload_n C (dd_X8_doesLearn.at 7 rfl) rfl ?_
    obtain ⟨g1, hf⟩ := gd_ok hf
    refine xx_iaload C (dd_X8_doesLearn.at 8 rfl) sh_k100 (bi_ok g1) ?_
    rcases ifo_ hf with ⟨hc, hf⟩ | ⟨hc, hf⟩
    · refine xx_icmp_ge_t (tgt := 97) C (dd_X8_doesLearn.at 9 rfl) (by decide) hc ?_
      refine xx_iload C (dd_X8_doesLearn.at 53 rfl) rfl ?_
      obtain ⟨g2, hf⟩ := gd_ok hf
      exact xx_zreturn C (rt_ip hf Q) (dd_X8_doesLearn.at 54 rfl) rfl (bz_ok g2)
    · refine xx_icmp_ge_f (tgt := 97) C (dd_X8_doesLearn.at 9 rfl) (by decide) hc ?_
      refine xx_aload_n C (dd_X8_doesLearn.at 10 rfl) rfl (Nat.le_of_ble_eq_true rfl) ?_
      refine xx_iload_n C (dd_X8_doesLearn.at 11 rfl) rfl ?_
      refine xx_iload C (dd_X8_doesLearn.at 12 rfl) rfl ?_
      refine xx_iconst C (dd_X8_doesLearn.at 13 rfl) ic_1 ?_
      refine xx_iadd C (dd_X8_doesLearn.at 14 rfl) ?_
      obtain ⟨v3, e4, hf⟩ := bdo_ hf
      refine xx_callVi C (ss_X8_rowAt e4) (dd_X8_doesLearn.at 15 rfl) ck_7 rfl sh_k98 kk_X8_rowAt ki_X8_rowAt lm_RX8_94 (lb_ rfl) rfl rfl (lb_ rfl) ?_
      refine xx_istore (lv' := [_, _, _, _, _, _, _, _, _]) C (dd_X8_doesLearn.at 16 rfl) (lb_ rfl) rfl ?_
      refine xx_iload_n C (dd_X8_doesLearn.at 17 rfl) rfl ?_
      refine xx_iload_n C (dd_X8_doesLearn.at 18 rfl) rfl ?_
      refine xx_aload_n C (dd_X8_doesLearn.at 19 rfl) rfl (Nat.le_of_ble_eq_true rfl) ?_
      refine xx_aload_n C (dd_X8_doesLearn.at 20 rfl) rfl (Nat.le_of_ble_eq_true rfl) ?_
      refine xx_iload_n C (dd_X8_doesLearn.at 21 rfl) rfl ?_
      refine xx_iload C (dd_X8_doesLearn.at 22 rfl) rfl ?_
      obtain ⟨v5, e6, hf⟩ := bdo_ hf
      refine xx_callVi C (ss_X8_rowAt e6) (dd_X8_doesLearn.at 23 rfl) ck_7 rfl sh_k98 kk_X8_rowAt ki_X8_rowAt lm_RX8_94 (lb_ rfl) rfl rfl (lb_ rfl) ?_
      refine xx_iload C (dd_X8_doesLearn.at 24 rfl) rfl ?_
      obtain ⟨v7, e8, hf⟩ := bdo_ hf
      refine xx_callVi C (ss_X8_felt e8) (dd_X8_doesLearn.at 25 rfl) ck_7 rfl sh_k98 kk_X8_felt ki_X8_felt lm_RX8_177 (lb_ rfl) rfl rfl (lb_ rfl) ?_
      refine xx_iload C (dd_X8_doesLearn.at 26 rfl) rfl ?_
      refine xx_callSi C (ss_X8_middleOf rfl) (dd_X8_doesLearn.at 27 rfl) kk_X8_middleOf ks_X8_middleOf lm_RX8_180 (lb_ rfl) rfl rfl (lb_ rfl) ?_
      refine xx_istore (lv' := [_, _, _, _, _, _, _, _, _]) C (dd_X8_doesLearn.at 28 rfl) (lb_ rfl) rfl ?_
      refine xx_iload C (dd_X8_doesLearn.at 29 rfl) rfl ?_
      rcases ifo_ hf with ⟨hc, hf⟩ | ⟨hc, hf⟩
      · refine xx_if_eq_t (tgt := 88) C (dd_X8_doesLearn.at 30 rfl) (by decide) hc ?_
        refine xx_iconst C (dd_X8_doesLearn.at 49 rfl) ic_0 ?_
        refine xx_istore (lv' := [_, _, _, _, _, _, _, _, _]) C (dd_X8_doesLearn.at 50 rfl) (lb_ rfl) rfl ?_
        refine xx_iinc (v := _ + (3 : Int32)) (lv' := [_, _, _, _, _, _, _, _, _]) C (dd_X8_doesLearn.at 51 rfl) (lb_ rfl) rfl (by rw [ic_3]) rfl ?_
        refine xx_goto (tgt := 6) C (dd_X8_doesLearn.at 52 rfl) (by decide) ?_
        exact xx_mask [true, true, true, true, true, true, true, false, false] (ih _ _ hf)
      · refine xx_if_eq_f (tgt := 88) C (dd_X8_doesLearn.at 30 rfl) (by decide) hc ?_
        refine xx_aload_n C (dd_X8_doesLearn.at 31 rfl) rfl (Nat.le_of_ble_eq_true rfl) ?_
        refine xx_iload_n C (dd_X8_doesLearn.at 32 rfl) rfl ?_
        refine xx_iload C (dd_X8_doesLearn.at 33 rfl) rfl ?_
        refine xx_iconst C (dd_X8_doesLearn.at 34 rfl) ic_2 ?_
        refine xx_iadd C (dd_X8_doesLearn.at 35 rfl) ?_
        obtain ⟨v9, e10, hf⟩ := bdo_ hf
        refine xx_callVi C (ss_X8_rowAt e10) (dd_X8_doesLearn.at 36 rfl) ck_7 rfl sh_k98 kk_X8_rowAt ki_X8_rowAt lm_RX8_94 (lb_ rfl) rfl rfl (lb_ rfl) ?_
        refine xx_iconst C (dd_X8_doesLearn.at 37 rfl) ic_0 ?_
        refine xx_iload C (dd_X8_doesLearn.at 38 rfl) rfl ?_
        refine xx_iload C (dd_X8_doesLearn.at 39 rfl) rfl ?_
        refine xx_isub C (dd_X8_doesLearn.at 40 rfl) ?_
        refine xx_callSi C (ss_X8_greater rfl) (dd_X8_doesLearn.at 41 rfl) kk_X8_greater ks_X8_greater lm_RX8_171 (lb_ rfl) rfl rfl (lb_ rfl) ?_
        refine xx_iload C (dd_X8_doesLearn.at 42 rfl) rfl ?_
        refine xx_iload C (dd_X8_doesLearn.at 43 rfl) rfl ?_
        refine xx_iadd C (dd_X8_doesLearn.at 44 rfl) ?_
        refine xx_callSi C (ss_X8_in rfl) (dd_X8_doesLearn.at 45 rfl) kk_X8_in ks_X8_in lm_RX8_72 (lb_ rfl) rfl rfl (lb_ rfl) ?_
        rcases ifo_ hf with ⟨hc, hf⟩ | ⟨hc, hf⟩
        · refine xx_if_eq_t (tgt := 88) C (dd_X8_doesLearn.at 46 rfl) (by decide) hc ?_
          refine xx_iconst C (dd_X8_doesLearn.at 49 rfl) ic_0 ?_
          refine xx_istore (lv' := [_, _, _, _, _, _, _, _, _]) C (dd_X8_doesLearn.at 50 rfl) (lb_ rfl) rfl ?_
          refine xx_iinc (v := _ + (3 : Int32)) (lv' := [_, _, _, _, _, _, _, _, _]) C (dd_X8_doesLearn.at 51 rfl) (lb_ rfl) rfl (by rw [ic_3]) rfl ?_
          refine xx_goto (tgt := 6) C (dd_X8_doesLearn.at 52 rfl) (by decide) ?_
          exact xx_mask [true, true, true, true, true, true, true, false, false] (ih _ _ hf)
        · refine xx_if_eq_f (tgt := 88) C (dd_X8_doesLearn.at 46 rfl) (by decide) hc ?_
          refine xx_iconst C (dd_X8_doesLearn.at 47 rfl) ic_1 ?_
          refine xx_goto (tgt := 89) C (dd_X8_doesLearn.at 48 rfl) (by decide) ?_
          refine xx_istore (lv' := [_, _, _, _, _, _, _, _, _]) C (dd_X8_doesLearn.at 50 rfl) (lb_ rfl) rfl ?_
          refine xx_iinc (v := _ + (3 : Int32)) (lv' := [_, _, _, _, _, _, _, _, _]) C (dd_X8_doesLearn.at 51 rfl) (lb_ rfl) rfl (by rw [ic_3]) rfl ?_
          refine xx_goto (tgt := 6) C (dd_X8_doesLearn.at 52 rfl) (by decide) ?_
          exact xx_mask [true, true, true, true, true, true, true, false, false] (ih _ _ hf)
theorem ss_X8_doesLearn {l : Launch} {G : gt_} {a1 : Int32} {a2 : Int32} {a3 : Int32} {a4 : Int32} {h : hh_} {r9 : Int32}  (hf : ff_X8_doesLearn a1 a2 a3 a4 h = some r9) : ok_ l G 2 mt_X8_doesLearn [.ref 98, .int a1, .int a2, .int a3, .int a4] h (some (.int r9)) h := by
  refine ok_of pn_RX8 (lb_ rfl) (fun Z _ _ C Q => ?_)
  show xx_ Z 0 [some (.ref 98), some (.int a1), some (.int a2), some (.int a3), some (.int a4), none, none, none, none] [] h
  unfold ff_X8_doesLearn at hf
  refine xx_iconst C (dd_X8_doesLearn.at 0 rfl) ic_1 ?_
  refine xx_istore (lv' := [_, _, _, _, _, _, _, _, _]) C (dd_X8_doesLearn.at 1 rfl) (lb_ rfl) rfl ?_
  refine xx_iconst C (dd_X8_doesLearn.at 2 rfl) ic_0 ?_
  refine xx_istore (lv' := [_, _, _, _, _, _, _, _, _]) C (dd_X8_doesLearn.at 3 rfl) (lb_ rfl) rfl ?_
  exact xx_mask [true, true, true, true, true, true, true, false, false] (ss_X8_doesLearn_6 C Q _ _ _ hf)
theorem ss_X8_learn_50 {Z : zz_} (C : cx_ Z mt_X8_learn 3) {r9 : Int32} {h9 : hh_} {x1 : Int32} {x2 : Int32} {h : hh_} {K50_120 : Option (Int32 × hh_)} (Q : rq_ Z (some (.int r9)) h9) (hK50_120 : K50_120 = some (r9, h9) → xx_ Z 120 [some (.ref 98), some (.int x1), some (.int x2), none, none, none, none, none] [] h) : ∀ (n9 : Nat) (x4 : Int32), ff_X8_learn_50 x1 x2 h K50_120 n9 x4 = some (r9, h9) → xx_ Z 50 [some (.ref 98), some (.int x1), some (.int x2), none, some (.int x4), none, none, none] [] h := by
  intro n9
  induction n9 with
  | zero =>
    intro x4 hf
    exact absurd hf (by rw [ff_X8_learn_50]; exact nofun)
  | succ n9 ih =>
    intro x4 hf
    rw [ff_X8_learn_50] at hf
    refine xx_iload C (dd_X8_learn.at 31 rfl) rfl ?_
    refine xx_aload_n C (dd_X8_learn.at 32 rfl) rfl (Nat.le_of_ble_eq_true rfl) ?_
    refine xx_getR (j := 5) (r := 100) C ck_7 (lb_ rfl) lf_RX8_17 sh_k98 rfl (lb_ rfl) rfl (dd_X8_learn.at 33 rfl) ?_
    refine xx_iload_n C (dd_X8_learn.at 34 rfl) rfl ?_
    obtain ⟨g4, hf⟩ := gd_ok hf
    refine xx_iaload C (dd_X8_learn.at 35 rfl) sh_k100 (bi_ok g4) ?_
    rcases ifo_ hf with ⟨hc, hf⟩ | ⟨hc, hf⟩
    · refine xx_icmp_ge_t (tgt := 120) C (dd_X8_learn.at 36 rfl) (by decide) hc ?_
      exact xx_mask [true, true, true, false, false, false, false, false] (hK50_120  hf)
    · refine xx_icmp_ge_f (tgt := 120) C (dd_X8_learn.at 36 rfl) (by decide) hc ?_
      refine xx_aload_n C (dd_X8_learn.at 37 rfl) rfl (Nat.le_of_ble_eq_true rfl) ?_
      refine xx_aload_n C (dd_X8_learn.at 38 rfl) rfl (Nat.le_of_ble_eq_true rfl) ?_
      refine xx_iload_n C (dd_X8_learn.at 39 rfl) rfl ?_
      refine xx_iload C (dd_X8_learn.at 40 rfl) rfl ?_
      obtain ⟨v5, e6, hf⟩ := bdo_ hf
      refine xx_callVi C (ss_X8_rowAt e6) (dd_X8_learn.at 41 rfl) ck_7 rfl sh_k98 kk_X8_rowAt ki_X8_rowAt lm_RX8_94 (lb_ rfl) rfl rfl (lb_ rfl) ?_
      refine xx_callVi C (ss_X8_isHead rfl) (dd_X8_learn.at 42 rfl) ck_7 rfl sh_k98 kk_X8_isHead ki_X8_isHead lm_RX8_159 (lb_ rfl) rfl rfl (lb_ rfl) ?_
      rcases ifo_ hf with ⟨hc, hf⟩ | ⟨hc, hf⟩
      · refine xx_if_eq_t (tgt := 108) C (dd_X8_learn.at 43 rfl) (by decide) hc ?_
        refine xx_aload_n C (dd_X8_learn.at 62 rfl) rfl (Nat.le_of_ble_eq_true rfl) ?_
        refine xx_iconst C (dd_X8_learn.at 63 rfl) ic_3 ?_
        obtain ⟨v7, e8, hf⟩ := bdo_ hf
        refine xx_callVi C (ss_X8_meet (pz_ e8)) (dd_X8_learn.at 64 rfl) ck_7 rfl sh_k98 kk_X8_meet ki_X8_meet lm_RX8_80 (lb_ rfl) rfl rfl (lb_ rfl) ?_
        exact xx_ireturn C (rt_iwp hf Q) (dd_X8_learn.at 65 rfl) rfl
      · refine xx_if_eq_f (tgt := 108) C (dd_X8_learn.at 43 rfl) (by decide) hc ?_
        refine xx_aload_n C (dd_X8_learn.at 44 rfl) rfl (Nat.le_of_ble_eq_true rfl) ?_
        refine xx_iload_n C (dd_X8_learn.at 45 rfl) rfl ?_
        refine xx_iload C (dd_X8_learn.at 46 rfl) rfl ?_
        refine xx_iconst C (dd_X8_learn.at 47 rfl) ic_1 ?_
        refine xx_iadd C (dd_X8_learn.at 48 rfl) ?_
        obtain ⟨v9, e10, hf⟩ := bdo_ hf
        refine xx_callVi C (ss_X8_rowAt e10) (dd_X8_learn.at 49 rfl) ck_7 rfl sh_k98 kk_X8_rowAt ki_X8_rowAt lm_RX8_94 (lb_ rfl) rfl rfl (lb_ rfl) ?_
        refine xx_callSi C (ss_X8_isPlace rfl) (dd_X8_learn.at 50 rfl) kk_X8_isPlace ks_X8_isPlace lm_RX8_205 (lb_ rfl) rfl rfl (lb_ rfl) ?_
        rcases ifo_ hf with ⟨hc, hf⟩ | ⟨hc, hf⟩
        · refine xx_if_eq_t (tgt := 108) C (dd_X8_learn.at 51 rfl) (by decide) hc ?_
          refine xx_aload_n C (dd_X8_learn.at 62 rfl) rfl (Nat.le_of_ble_eq_true rfl) ?_
          refine xx_iconst C (dd_X8_learn.at 63 rfl) ic_3 ?_
          obtain ⟨v11, e12, hf⟩ := bdo_ hf
          refine xx_callVi C (ss_X8_meet (pz_ e12)) (dd_X8_learn.at 64 rfl) ck_7 rfl sh_k98 kk_X8_meet ki_X8_meet lm_RX8_80 (lb_ rfl) rfl rfl (lb_ rfl) ?_
          exact xx_ireturn C (rt_iwp hf Q) (dd_X8_learn.at 65 rfl) rfl
        · refine xx_if_eq_f (tgt := 108) C (dd_X8_learn.at 51 rfl) (by decide) hc ?_
          refine xx_aload_n C (dd_X8_learn.at 52 rfl) rfl (Nat.le_of_ble_eq_true rfl) ?_
          refine xx_iload_n C (dd_X8_learn.at 53 rfl) rfl ?_
          refine xx_iload C (dd_X8_learn.at 54 rfl) rfl ?_
          refine xx_iconst C (dd_X8_learn.at 55 rfl) ic_2 ?_
          refine xx_iadd C (dd_X8_learn.at 56 rfl) ?_
          obtain ⟨v13, e14, hf⟩ := bdo_ hf
          refine xx_callVi C (ss_X8_rowAt e14) (dd_X8_learn.at 57 rfl) ck_7 rfl sh_k98 kk_X8_rowAt ki_X8_rowAt lm_RX8_94 (lb_ rfl) rfl rfl (lb_ rfl) ?_
          refine xx_iconst C (dd_X8_learn.at 58 rfl) ic_0 ?_
          refine xx_bipush C (dd_X8_learn.at 59 rfl) bq_9 ?_
          refine xx_callSi C (ss_X8_in rfl) (dd_X8_learn.at 60 rfl) kk_X8_in ks_X8_in lm_RX8_72 (lb_ rfl) rfl rfl (lb_ rfl) ?_
          rcases ifo_ hf with ⟨hc, hf⟩ | ⟨hc, hf⟩
          · refine xx_if_ne_f (tgt := 114) C (dd_X8_learn.at 61 rfl) (by decide) (not_not_intro hc) ?_
            refine xx_aload_n C (dd_X8_learn.at 62 rfl) rfl (Nat.le_of_ble_eq_true rfl) ?_
            refine xx_iconst C (dd_X8_learn.at 63 rfl) ic_3 ?_
            obtain ⟨v15, e16, hf⟩ := bdo_ hf
            refine xx_callVi C (ss_X8_meet (pz_ e16)) (dd_X8_learn.at 64 rfl) ck_7 rfl sh_k98 kk_X8_meet ki_X8_meet lm_RX8_80 (lb_ rfl) rfl rfl (lb_ rfl) ?_
            exact xx_ireturn C (rt_iwp hf Q) (dd_X8_learn.at 65 rfl) rfl
          · refine xx_if_ne_t (tgt := 114) C (dd_X8_learn.at 61 rfl) (by decide) hc ?_
            refine xx_iinc (v := _ + (3 : Int32)) (lv' := [_, _, _, _, _, _, _, _]) C (dd_X8_learn.at 66 rfl) (lb_ rfl) rfl (by rw [ic_3]) rfl ?_
            refine xx_goto (tgt := 50) C (dd_X8_learn.at 67 rfl) (by decide) ?_
            exact xx_mask [true, true, true, false, true, false, false, false] (ih _ hf)
theorem ss_X8_learn_169 {Z : zz_} (C : cx_ Z mt_X8_learn 3) {r9 : Int32} {h9 : hh_} {x1 : Int32} {x2 : Int32} {x5 : Int32} {x6 : Int32} {x7 : Int32} {y0 : Int32} {y1 : Int32} {h : hh_} {K169_129 : Int32 → Int32 → Int32 → Option (Int32 × hh_)} (Q : rq_ Z (some (.int r9)) h9) (hK169_129 : ∀ (z4 : Int32) (z5 : Int32) (z6 : Int32), K169_129 z4 z5 z6 = some (r9, h9) → xx_ Z 129 [some (.ref 98), some (.int x1), some (.int x2), none, some (.int z4), some (.int z5), some (.int z6), none] [] h) (hf : ff_X8_learn_169 x1 x2 x5 x6 x7 y0 y1 h K169_129 = some (r9, h9)) : xx_ Z 169 [some (.ref 98), some (.int x1), some (.int x2), none, none, some (.int x5), some (.int x6), some (.int x7)] [.int y1, .int y0] h := by
  unfold ff_X8_learn_169 at hf
  refine xx_ior C (dd_X8_learn.at 98 rfl) ?_
  refine xx_istore (lv' := [_, _, _, _, _, _, _, _]) C (dd_X8_learn.at 99 rfl) (lb_ rfl) rfl ?_
  refine xx_iload C (dd_X8_learn.at 100 rfl) rfl ?_
  refine xx_iload C (dd_X8_learn.at 101 rfl) rfl ?_
  rcases ifo_ hf with ⟨hc, hf⟩ | ⟨hc, hf⟩
  · refine xx_if_eq_t (tgt := 188) C (dd_X8_learn.at 102 rfl) (by decide) hc ?_
    refine xx_iconst C (dd_X8_learn.at 109 rfl) ic_0 ?_
    refine xx_ior C (dd_X8_learn.at 110 rfl) ?_
    refine xx_istore (lv' := [_, _, _, _, _, _, _, _]) C (dd_X8_learn.at 111 rfl) (lb_ rfl) rfl ?_
    refine xx_iinc (v := _ + (1 : Int32)) (lv' := [_, _, _, _, _, _, _, _]) C (dd_X8_learn.at 112 rfl) (lb_ rfl) rfl (by rw [ic_1]) rfl ?_
    refine xx_goto (tgt := 129) C (dd_X8_learn.at 113 rfl) (by decide) ?_
    exact xx_mask [true, true, true, false, true, true, true, false] (hK169_129 _ _ _ hf)
  · refine xx_if_eq_f (tgt := 188) C (dd_X8_learn.at 102 rfl) (by decide) hc ?_
    refine xx_iconst C (dd_X8_learn.at 103 rfl) ic_1 ?_
    refine xx_iload C (dd_X8_learn.at 104 rfl) rfl ?_
    refine xx_iconst C (dd_X8_learn.at 105 rfl) ic_4 ?_
    refine xx_irem C (dd_X8_learn.at 106 rfl) (by decide) ?_
    refine xx_ishl C (dd_X8_learn.at 107 rfl) ?_
    refine xx_goto (tgt := 189) C (dd_X8_learn.at 108 rfl) (by decide) ?_
    refine xx_ior C (dd_X8_learn.at 110 rfl) ?_
    refine xx_istore (lv' := [_, _, _, _, _, _, _, _]) C (dd_X8_learn.at 111 rfl) (lb_ rfl) rfl ?_
    refine xx_iinc (v := _ + (1 : Int32)) (lv' := [_, _, _, _, _, _, _, _]) C (dd_X8_learn.at 112 rfl) (lb_ rfl) rfl (by rw [ic_1]) rfl ?_
    refine xx_goto (tgt := 129) C (dd_X8_learn.at 113 rfl) (by decide) ?_
    exact xx_mask [true, true, true, false, true, true, true, false] (hK169_129 _ _ _ hf)
theorem ss_X8_learn_129 {Z : zz_} (C : cx_ Z mt_X8_learn 3) {r9 : Int32} {h9 : hh_} {x1 : Int32} {x2 : Int32} {h : hh_}  (Q : rq_ Z (some (.int r9)) h9) : ∀ (n9 : Nat) (x4 : Int32) (x5 : Int32) (x6 : Int32), ff_X8_learn_129 x1 x2 h n9 x4 x5 x6 = some (r9, h9) → xx_ Z 129 [some (.ref 98), some (.int x1), some (.int x2), none, some (.int x4), some (.int x5), some (.int x6), none] [] h := by
  intro n9
  induction n9 with
  | zero =>
    intro x4 x5 x6 hf
    exact absurd hf (by rw [ff_X8_learn_129]; exact nofun)
  | succ n9 ih =>
    intro x4 x5 x6 hf
    rw [ff_X8_learn_129] at hf
    refine xx_iload C (dd_X8_learn.at 74 rfl) rfl ?_
    refine xx_bipush C (dd_X8_learn.at 75 rfl) bq_24 ?_
    rcases ifo_ hf with ⟨hc, hf⟩ | ⟨hc, hf⟩
    · refine xx_icmp_ge_t (tgt := 198) C (dd_X8_learn.at 76 rfl) (by decide) hc ?_
      refine xx_aload_n C (dd_X8_learn.at 114 rfl) rfl (Nat.le_of_ble_eq_true rfl) ?_
      refine xx_iload C (dd_X8_learn.at 115 rfl) rfl ?_
      refine xx_iload C (dd_X8_learn.at 116 rfl) rfl ?_
      refine xx_callVi C (ss_X8_ask pe_) (dd_X8_learn.at 117 rfl) ck_7 rfl sh_k98 kk_X8_ask ki_X8_ask lm_RX8_98 (lb_ rfl) rfl rfl (lb_ rfl) ?_
      exact xx_ireturn C (rt_iwp hf Q) (dd_X8_learn.at 118 rfl) rfl
    · refine xx_icmp_ge_f (tgt := 198) C (dd_X8_learn.at 76 rfl) (by decide) hc ?_
      refine xx_aload_n C (dd_X8_learn.at 77 rfl) rfl (Nat.le_of_ble_eq_true rfl) ?_
      refine xx_iload_n C (dd_X8_learn.at 78 rfl) rfl ?_
      refine xx_iload C (dd_X8_learn.at 79 rfl) rfl ?_
      refine xx_iconst C (dd_X8_learn.at 80 rfl) ic_4 ?_
      refine xx_idiv C (dd_X8_learn.at 81 rfl) (by decide) ?_
      refine xx_iload C (dd_X8_learn.at 82 rfl) rfl ?_
      refine xx_iconst C (dd_X8_learn.at 83 rfl) ic_4 ?_
      refine xx_irem C (dd_X8_learn.at 84 rfl) (by decide) ?_
      refine xx_iload_n C (dd_X8_learn.at 85 rfl) rfl ?_
      obtain ⟨v17, e18, hf⟩ := bdo_ hf
      refine xx_callVi C (ss_X8_doesLearn e18) (dd_X8_learn.at 86 rfl) ck_7 rfl sh_k98 kk_X8_doesLearn ki_X8_doesLearn lm_RX8_271 (lb_ rfl) rfl rfl (lb_ rfl) ?_
      refine xx_istore (lv' := [_, _, _, _, _, _, _, _]) C (dd_X8_learn.at 87 rfl) (lb_ rfl) rfl ?_
      refine xx_iload C (dd_X8_learn.at 88 rfl) rfl ?_
      refine xx_iload C (dd_X8_learn.at 89 rfl) rfl ?_
      rcases ifo_ hf with ⟨hc, hf⟩ | ⟨hc, hf⟩
      · refine xx_if_eq_t (tgt := 168) C (dd_X8_learn.at 90 rfl) (by decide) hc ?_
        refine xx_iconst C (dd_X8_learn.at 97 rfl) ic_0 ?_
        exact xx_mask [true, true, true, false, false, true, true, true] (ss_X8_learn_169 C Q (fun _ _ _ hf => ih _ _ _ hf) hf)
      · refine xx_if_eq_f (tgt := 168) C (dd_X8_learn.at 90 rfl) (by decide) hc ?_
        refine xx_iconst C (dd_X8_learn.at 91 rfl) ic_1 ?_
        refine xx_iload C (dd_X8_learn.at 92 rfl) rfl ?_
        refine xx_iconst C (dd_X8_learn.at 93 rfl) ic_4 ?_
        refine xx_idiv C (dd_X8_learn.at 94 rfl) (by decide) ?_
        refine xx_ishl C (dd_X8_learn.at 95 rfl) ?_
        refine xx_goto (tgt := 169) C (dd_X8_learn.at 96 rfl) (by decide) ?_
        exact xx_mask [true, true, true, false, false, true, true, true] (ss_X8_learn_169 C Q (fun _ _ _ hf => ih _ _ _ hf) hf)
theorem ss_X8_learn {l : Launch} {G : gt_} {a1 : Int32} {a2 : Int32} {h : hh_} {r9 : Int32} {h9 : hh_}  (hf : ff_X8_learn a1 a2 h = some (r9, h9)) : ok_ l G 3 mt_X8_learn [.ref 98, .int a1, .int a2] h (some (.int r9)) h9 := by
  refine ok_of pn_RX8 (lb_ rfl) (fun Z _ _ C Q => ?_)
  show xx_ Z 0 [some (.ref 98), some (.int a1), some (.int a2), none, none, none, none, none] [] h
  unfold ff_X8_learn at hf
  refine xx_iload_n C (dd_X8_learn.at 0 rfl) rfl ?_
  refine xx_callSi C (ss_X8_isRow rfl) (dd_X8_learn.at 1 rfl) kk_X8_isRow ks_X8_isRow lm_RX8_76 (lb_ rfl) rfl rfl (lb_ rfl) ?_
  rcases ifo_ hf with ⟨hc, hf⟩ | ⟨hc, hf⟩
  · refine xx_if_eq_t (tgt := 16) C (dd_X8_learn.at 2 rfl) (by decide) hc ?_
    refine xx_iconst C (dd_X8_learn.at 8 rfl) ic_m1 ?_
    exact xx_ireturn C (rt_iwp hf Q) (dd_X8_learn.at 9 rfl) rfl
  · refine xx_if_eq_f (tgt := 16) C (dd_X8_learn.at 2 rfl) (by decide) hc ?_
    refine xx_iload_n C (dd_X8_learn.at 3 rfl) rfl ?_
    refine xx_iconst C (dd_X8_learn.at 4 rfl) ic_0 ?_
    refine xx_iconst C (dd_X8_learn.at 5 rfl) ic_2 ?_
    refine xx_callSi C (ss_X8_in rfl) (dd_X8_learn.at 6 rfl) kk_X8_in ks_X8_in lm_RX8_72 (lb_ rfl) rfl rfl (lb_ rfl) ?_
    rcases ifo_ hf with ⟨hc, hf⟩ | ⟨hc, hf⟩
    · refine xx_if_ne_f (tgt := 18) C (dd_X8_learn.at 7 rfl) (by decide) (not_not_intro hc) ?_
      refine xx_iconst C (dd_X8_learn.at 8 rfl) ic_m1 ?_
      exact xx_ireturn C (rt_iwp hf Q) (dd_X8_learn.at 9 rfl) rfl
    · refine xx_if_ne_t (tgt := 18) C (dd_X8_learn.at 7 rfl) (by decide) hc ?_
      refine xx_aload_n C (dd_X8_learn.at 10 rfl) rfl (Nat.le_of_ble_eq_true rfl) ?_
      refine xx_iload_n C (dd_X8_learn.at 11 rfl) rfl ?_
      obtain ⟨v1, e2, hf⟩ := bdo_ hf
      refine xx_callVi C (ss_X8_askedRow (pz_ e2)) (dd_X8_learn.at 12 rfl) ck_7 rfl sh_k98 kk_X8_askedRow ki_X8_askedRow lm_RX8_91 (lb_ rfl) rfl rfl (lb_ rfl) ?_
      refine xx_istore_n (lv' := [_, _, _, _, _, _, _, _]) C (dd_X8_learn.at 13 rfl) (lb_ rfl) rfl ?_
      refine xx_iload_n C (dd_X8_learn.at 14 rfl) rfl ?_
      rcases ifo_ hf with ⟨hc, hf⟩ | ⟨hc, hf⟩
      · refine xx_if_ge_t (tgt := 30) C (dd_X8_learn.at 15 rfl) (by decide) hc ?_
        refine xx_aload_n C (dd_X8_learn.at 18 rfl) rfl (Nat.le_of_ble_eq_true rfl) ?_
        refine xx_getR (j := 5) (r := 100) C ck_7 (lb_ rfl) lf_RX8_17 sh_k98 rfl (lb_ rfl) rfl (dd_X8_learn.at 19 rfl) ?_
        refine xx_iload_n C (dd_X8_learn.at 20 rfl) rfl ?_
        obtain ⟨g3, hf⟩ := gd_ok hf
        refine xx_iaload C (dd_X8_learn.at 21 rfl) sh_k100 (bi_ok g3) ?_
        refine xx_iconst C (dd_X8_learn.at 22 rfl) ic_3 ?_
        refine xx_irem C (dd_X8_learn.at 23 rfl) (by decide) ?_
        rcases ifo_ hf with ⟨hc, hf⟩ | ⟨hc, hf⟩
        · refine xx_if_eq_t (tgt := 47) C (dd_X8_learn.at 24 rfl) (by decide) hc ?_
          refine xx_iconst C (dd_X8_learn.at 29 rfl) ic_0 ?_
          refine xx_istore (lv' := [_, _, _, _, _, _, _, _]) C (dd_X8_learn.at 30 rfl) (lb_ rfl) rfl ?_
          refine xx_mask [true, true, true, false, true, false, false, false] (ss_X8_learn_50 C Q (fun hf => ?_) _ _ hf)
          refine xx_iconst C (dd_X8_learn.at 68 rfl) ic_0 ?_
          refine xx_istore (lv' := [_, _, _, _, _, _, _, _]) C (dd_X8_learn.at 69 rfl) (lb_ rfl) rfl ?_
          refine xx_iconst C (dd_X8_learn.at 70 rfl) ic_0 ?_
          refine xx_istore (lv' := [_, _, _, _, _, _, _, _]) C (dd_X8_learn.at 71 rfl) (lb_ rfl) rfl ?_
          refine xx_iconst C (dd_X8_learn.at 72 rfl) ic_0 ?_
          refine xx_istore (lv' := [_, _, _, _, _, _, _, _]) C (dd_X8_learn.at 73 rfl) (lb_ rfl) rfl ?_
          exact xx_mask [true, true, true, false, true, true, true, false] (ss_X8_learn_129 C Q _ _ _ _ hf)
        · refine xx_if_eq_f (tgt := 47) C (dd_X8_learn.at 24 rfl) (by decide) hc ?_
          refine xx_aload_n C (dd_X8_learn.at 25 rfl) rfl (Nat.le_of_ble_eq_true rfl) ?_
          refine xx_iconst C (dd_X8_learn.at 26 rfl) ic_5 ?_
          obtain ⟨v19, e20, hf⟩ := bdo_ hf
          refine xx_callVi C (ss_X8_meet (pz_ e20)) (dd_X8_learn.at 27 rfl) ck_7 rfl sh_k98 kk_X8_meet ki_X8_meet lm_RX8_80 (lb_ rfl) rfl rfl (lb_ rfl) ?_
          exact xx_ireturn C (rt_iwp hf Q) (dd_X8_learn.at 28 rfl) rfl
      · refine xx_if_ge_f (tgt := 30) C (dd_X8_learn.at 15 rfl) (by decide) hc ?_
        refine xx_iload_n C (dd_X8_learn.at 16 rfl) rfl ?_
        exact xx_ireturn C (rt_iwp hf Q) (dd_X8_learn.at 17 rfl) rfl
