theorem ss_X4_opensItem_106 {Z : zz_} (C : cx_ Z mt_X4_opensItem 1) {r9 : Int32} {h9 : hh_} {x3 : Int32} {h : hh_}  (Q : rq_ Z (some (.int r9)) h9) (hf : ff_X4_opensItem_106 x3 h = some (r9, h9)) : xx_ Z 106 [some (.ref 19), none, none, some (.int x3)] [] h := by
  unfold ff_X4_opensItem_106 at hf
  refine xx_aload_n C (dd_X4_opensItem.at 58 rfl) rfl (Nat.le_of_ble_eq_true rfl) ?_
  refine xx_iload_n C (dd_X4_opensItem.at 59 rfl) rfl ?_
  refine xx_putI (j := 1) C ck_3 (lb_ rfl) lf_RX4_15 rfl rfl sh_k19 rfl (dd_X4_opensItem.at 60 rfl) ?_
  refine xx_aload_n C (dd_X4_opensItem.at 61 rfl) rfl (Nat.le_of_ble_eq_true rfl) ?_
  refine xx_getS (k := 0) C (lb_ rfl) lf_RX4_49 (dd_X4_opensItem.at 62 rfl) ?_
  refine xx_iload_n C (dd_X4_opensItem.at 63 rfl) rfl ?_
  obtain ⟨g5, hf⟩ := gd_ok hf
  refine xx_saload C (dd_X4_opensItem.at 64 rfl) (lb_ rfl) (bi_ok g5) ?_
  refine xx_putI (j := 2) C ck_3 (lb_ rfl) lf_RX4_19 rfl rfl sh_k19 rfl (dd_X4_opensItem.at 65 rfl) ?_
  refine xx_aload_n C (dd_X4_opensItem.at 66 rfl) rfl (Nat.le_of_ble_eq_true rfl) ?_
  obtain ⟨g6, hf⟩ := gd_ok hf
  refine xx_getR (j := 0) (r := h.2.2.2.2) C ck_3 (lb_ rfl) lf_RX4_9 sh_k19 rfl (lb_ rfl) rfl (dd_X4_opensItem.at 67 rfl) ?_
  refine xx_getR (j := 4) (r := (h.2.2.2.2 + 23)) C ck_1 (lb_ rfl) lf_RX4_22 (sh_o (bo_ok g6)) rfl (rc_o4 (bo_ok g6)) (rf_o4 (bo_ok g6)) (dd_X4_opensItem.at 68 rfl) ?_
  refine xx_iload_n C (dd_X4_opensItem.at 69 rfl) rfl ?_
  refine xx_dup2 C (dd_X4_opensItem.at 70 rfl) rfl rfl ?_
  refine xx_iaload C (dd_X4_opensItem.at 71 rfl) (sh_o23 (bo_ok g6)) (bi_ok g5) ?_
  refine xx_iconst C (dd_X4_opensItem.at 72 rfl) ic_1 ?_
  refine xx_iadd C (dd_X4_opensItem.at 73 rfl) ?_
  refine xx_iastore C (dd_X4_opensItem.at 74 rfl) (sh_o23 (bo_ok g6)) (bi_ok g5) ?_
  refine xx_iconst C (dd_X4_opensItem.at 75 rfl) ic_1 ?_
  exact xx_zreturn C (rt_iwp hf Q) (dd_X4_opensItem.at 76 rfl) rfl zb_1
theorem ss_X4_opensItem_62 {Z : zz_} (C : cx_ Z mt_X4_opensItem 1) {r9 : Int32} {h9 : hh_} {x2 : Int32} {x3 : Int32} {h : hh_}  (Q : rq_ Z (some (.int r9)) h9) (hf : ff_X4_opensItem_62 x2 x3 h = some (r9, h9)) : xx_ Z 62 [some (.ref 19), none, some (.int x2), some (.int x3)] [] h := by
  unfold ff_X4_opensItem_62 at hf
  refine xx_aload_n C (dd_X4_opensItem.at 32 rfl) rfl (Nat.le_of_ble_eq_true rfl) ?_
  obtain ⟨g3, hf⟩ := gd_ok hf
  refine xx_getR (j := 0) (r := h.2.2.2.2) C ck_3 (lb_ rfl) lf_RX4_9 sh_k19 rfl (lb_ rfl) rfl (dd_X4_opensItem.at 33 rfl) ?_
  refine xx_getR (j := 4) (r := (h.2.2.2.2 + 23)) C ck_1 (lb_ rfl) lf_RX4_22 (sh_o (bo_ok g3)) rfl (rc_o4 (bo_ok g3)) (rf_o4 (bo_ok g3)) (dd_X4_opensItem.at 34 rfl) ?_
  refine xx_iload_n C (dd_X4_opensItem.at 35 rfl) rfl ?_
  obtain ⟨g4, hf⟩ := gd_ok hf
  refine xx_iaload C (dd_X4_opensItem.at 36 rfl) (sh_o23 (bo_ok g3)) (bi_ok g4) ?_
  refine xx_getS (k := 4) C (lb_ rfl) lf_RX4_42 (dd_X4_opensItem.at 37 rfl) ?_
  refine xx_iload_n C (dd_X4_opensItem.at 38 rfl) rfl ?_
  refine xx_saload C (dd_X4_opensItem.at 39 rfl) (lb_ rfl) (bi_ok g4) ?_
  rcases ifo_ hf with ⟨hc, hf⟩ | ⟨hc, hf⟩
  · refine xx_icmp_lt_t (tgt := 81) C (dd_X4_opensItem.at 40 rfl) (by decide) hc ?_
    refine xx_iload_n C (dd_X4_opensItem.at 43 rfl) rfl ?_
    refine xx_iconst C (dd_X4_opensItem.at 44 rfl) ic_1 ?_
    rcases ifo_ hf with ⟨hc, hf⟩ | ⟨hc, hf⟩
    · refine xx_icmp_ne_f (tgt := 106) C (dd_X4_opensItem.at 45 rfl) (by decide) (not_not_intro hc) ?_
      refine xx_aload_n C (dd_X4_opensItem.at 46 rfl) rfl (Nat.le_of_ble_eq_true rfl) ?_
      refine xx_getR (j := 0) (r := h.2.2.2.2) C ck_3 (lb_ rfl) lf_RX4_9 sh_k19 rfl (lb_ rfl) rfl (dd_X4_opensItem.at 47 rfl) ?_
      refine xx_getR (j := 2) (r := (h.2.2.2.2 + 13)) C ck_1 (lb_ rfl) lf_RX4_45 (sh_o (bo_ok g3)) rfl (rc_o2 (bo_ok g3)) (rf_o2 (bo_ok g3)) (dd_X4_opensItem.at 48 rfl) ?_
      refine xx_aload_n C (dd_X4_opensItem.at 49 rfl) rfl (Nat.le_of_ble_eq_true rfl) ?_
      refine xx_getR (j := 0) (r := h.2.2.2.2) C ck_3 (lb_ rfl) lf_RX4_9 sh_k19 rfl (lb_ rfl) rfl (dd_X4_opensItem.at 50 rfl) ?_
      refine xx_getR (j := 4) (r := (h.2.2.2.2 + 23)) C ck_1 (lb_ rfl) lf_RX4_22 (sh_o (bo_ok g3)) rfl (rc_o4 (bo_ok g3)) (rf_o4 (bo_ok g3)) (dd_X4_opensItem.at 51 rfl) ?_
      refine xx_iconst C (dd_X4_opensItem.at 52 rfl) ic_1 ?_
      refine xx_iaload C (dd_X4_opensItem.at 53 rfl) (sh_o23 (bo_ok g3)) (bi_ok (i := (1 : Int32)) (n := 3) rfl) ?_
      obtain ⟨g7, hf⟩ := gd_ok hf
      refine xx_aaload (r := (h.2.2.2.2 + 14 + Int32.toNatClampNeg (h.1 (h.2.2.2.2 + 23) (Int32.toNatClampNeg (1 : Int32))))) C (dd_X4_opensItem.at 54 rfl) (sh_o13 (bo_ok g3)) (bi_ok g7) (sh_lt (sh_oe13 (bo_ok g3) (bi_ok g7))) rfl ?_
      refine xx_iconst C (dd_X4_opensItem.at 55 rfl) ic_0 ?_
      refine xx_iload_n C (dd_X4_opensItem.at 56 rfl) rfl ?_
      refine xx_iastore C (dd_X4_opensItem.at 57 rfl) (sh_oe13 (bo_ok g3) (bi_ok g7)) (bi_ok (i := (0 : Int32)) (n := 3) rfl) ?_
      exact xx_mask [true, false, false, true] (ss_X4_opensItem_106 C Q hf)
    · refine xx_icmp_ne_t (tgt := 106) C (dd_X4_opensItem.at 45 rfl) (by decide) hc ?_
      exact xx_mask [true, false, false, true] (ss_X4_opensItem_106 C Q hf)
  · refine xx_icmp_lt_f (tgt := 81) C (dd_X4_opensItem.at 40 rfl) (by decide) hc ?_
    refine xx_iconst C (dd_X4_opensItem.at 41 rfl) ic_0 ?_
    exact xx_zreturn C (rt_iwp hf Q) (dd_X4_opensItem.at 42 rfl) rfl zb_0
theorem ss_X4_opensItem_37 {Z : zz_} (C : cx_ Z mt_X4_opensItem 1) {r9 : Int32} {h9 : hh_} {x2 : Int32} {y0 : Int32} {h : hh_}  (Q : rq_ Z (some (.int r9)) h9) (hf : ff_X4_opensItem_37 x2 y0 h = some (r9, h9)) : xx_ Z 37 [some (.ref 19), none, some (.int x2), none] [.int y0] h := by
  unfold ff_X4_opensItem_37 at hf
  refine xx_istore_n (lv' := [_, _, _, _]) C (dd_X4_opensItem.at 19 rfl) (lb_ rfl) rfl ?_
  refine xx_iload_n C (dd_X4_opensItem.at 20 rfl) rfl ?_
  refine xx_aload_n C (dd_X4_opensItem.at 21 rfl) rfl (Nat.le_of_ble_eq_true rfl) ?_
  refine xx_getI (j := 1) C ck_3 (lb_ rfl) lf_RX4_15 sh_k19 rfl (dd_X4_opensItem.at 22 rfl) ?_
  rcases ifo_ hf with ⟨hc, hf⟩ | ⟨hc, hf⟩
  · refine xx_icmp_lt_t (tgt := 79) C (dd_X4_opensItem.at 23 rfl) (by decide) hc ?_
    refine xx_iconst C (dd_X4_opensItem.at 41 rfl) ic_0 ?_
    exact xx_zreturn C (rt_iwp hf Q) (dd_X4_opensItem.at 42 rfl) rfl zb_0
  · refine xx_icmp_lt_f (tgt := 79) C (dd_X4_opensItem.at 23 rfl) (by decide) hc ?_
    refine xx_iload_n C (dd_X4_opensItem.at 24 rfl) rfl ?_
    rcases ifo_ hf with ⟨hc, hf⟩ | ⟨hc, hf⟩
    · refine xx_if_eq_t (tgt := 62) C (dd_X4_opensItem.at 25 rfl) (by decide) hc ?_
      exact xx_mask [true, false, true, true] (ss_X4_opensItem_62 C Q hf)
    · refine xx_if_eq_f (tgt := 62) C (dd_X4_opensItem.at 25 rfl) (by decide) hc ?_
      refine xx_aload_n C (dd_X4_opensItem.at 26 rfl) rfl (Nat.le_of_ble_eq_true rfl) ?_
      obtain ⟨g8, hf⟩ := gd_ok hf
      refine xx_getR (j := 0) (r := h.2.2.2.2) C ck_3 (lb_ rfl) lf_RX4_9 sh_k19 rfl (lb_ rfl) rfl (dd_X4_opensItem.at 27 rfl) ?_
      refine xx_getR (j := 4) (r := (h.2.2.2.2 + 23)) C ck_1 (lb_ rfl) lf_RX4_22 (sh_o (bo_ok g8)) rfl (rc_o4 (bo_ok g8)) (rf_o4 (bo_ok g8)) (dd_X4_opensItem.at 28 rfl) ?_
      refine xx_iconst C (dd_X4_opensItem.at 29 rfl) ic_0 ?_
      refine xx_iaload C (dd_X4_opensItem.at 30 rfl) (sh_o23 (bo_ok g8)) (bi_ok (i := (0 : Int32)) (n := 3) rfl) ?_
      rcases ifo_ hf with ⟨hc, hf⟩ | ⟨hc, hf⟩
      · refine xx_if_eq_t (tgt := 79) C (dd_X4_opensItem.at 31 rfl) (by decide) hc ?_
        refine xx_iconst C (dd_X4_opensItem.at 41 rfl) ic_0 ?_
        exact xx_zreturn C (rt_iwp hf Q) (dd_X4_opensItem.at 42 rfl) rfl zb_0
      · refine xx_if_eq_f (tgt := 79) C (dd_X4_opensItem.at 31 rfl) (by decide) hc ?_
        exact xx_mask [true, false, true, true] (ss_X4_opensItem_62 C Q hf)
theorem ss_X4_opensItem {l : Launch} {G : gt_} {a1 : Int32} {h : hh_} {r9 : Int32} {h9 : hh_}  (hf : ff_X4_opensItem a1 h = some (r9, h9)) : ok_ l G 1 mt_X4_opensItem [.ref 19, .int a1] h (some (.int r9)) h9 := by
  refine ok_of pn_RX4 (lb_ rfl) (fun Z _ _ C Q => ?_)
  show xx_ Z 0 [some (.ref 19), some (.int a1), none, none] [] h
  unfold ff_X4_opensItem at hf
  refine xx_iload_n C (dd_X4_opensItem.at 0 rfl) rfl ?_
  obtain ⟨v1, e2, hf⟩ := bdo_ hf
  refine xx_callSi C (ss_X4_kindBy e2) (dd_X4_opensItem.at 1 rfl) kk_X4_kindBy ks_X4_kindBy lm_RX4_38 (lb_ rfl) rfl rfl (lb_ rfl) ?_
  refine xx_istore_n (lv' := [_, _, _, _]) C (dd_X4_opensItem.at 2 rfl) (lb_ rfl) rfl ?_
  refine xx_iload_n C (dd_X4_opensItem.at 3 rfl) rfl ?_
  refine xx_bipush C (dd_X4_opensItem.at 4 rfl) bq_m9 ?_
  rcases ifo_ hf with ⟨hc, hf⟩ | ⟨hc, hf⟩
  · refine xx_icmp_eq_t (tgt := 15) C (dd_X4_opensItem.at 5 rfl) (by decide) hc ?_
    refine xx_iload_n C (dd_X4_opensItem.at 8 rfl) rfl ?_
    refine xx_bipush C (dd_X4_opensItem.at 9 rfl) bq_104 ?_
    rcases ifo_ hf with ⟨hc, hf⟩ | ⟨hc, hf⟩
    · refine xx_icmp_ne_f (tgt := 25) C (dd_X4_opensItem.at 10 rfl) (by decide) (not_not_intro hc) ?_
      refine xx_iconst C (dd_X4_opensItem.at 11 rfl) ic_0 ?_
      refine xx_goto (tgt := 37) C (dd_X4_opensItem.at 12 rfl) (by decide) ?_
      exact xx_mask [true, false, true, false] (ss_X4_opensItem_37 C Q hf)
    · refine xx_icmp_ne_t (tgt := 25) C (dd_X4_opensItem.at 10 rfl) (by decide) hc ?_
      refine xx_iload_n C (dd_X4_opensItem.at 13 rfl) rfl ?_
      refine xx_bipush C (dd_X4_opensItem.at 14 rfl) bq_112 ?_
      rcases ifo_ hf with ⟨hc, hf⟩ | ⟨hc, hf⟩
      · refine xx_icmp_ne_f (tgt := 35) C (dd_X4_opensItem.at 15 rfl) (by decide) (not_not_intro hc) ?_
        refine xx_iconst C (dd_X4_opensItem.at 16 rfl) ic_2 ?_
        refine xx_goto (tgt := 37) C (dd_X4_opensItem.at 17 rfl) (by decide) ?_
        exact xx_mask [true, false, true, false] (ss_X4_opensItem_37 C Q hf)
      · refine xx_icmp_ne_t (tgt := 35) C (dd_X4_opensItem.at 15 rfl) (by decide) hc ?_
        refine xx_bipush C (dd_X4_opensItem.at 18 rfl) bq_m9 ?_
        exact xx_mask [true, false, true, false] (ss_X4_opensItem_37 C Q hf)
  · refine xx_icmp_eq_f (tgt := 15) C (dd_X4_opensItem.at 5 rfl) (by decide) hc ?_
    refine xx_iconst C (dd_X4_opensItem.at 6 rfl) ic_1 ?_
    refine xx_goto (tgt := 37) C (dd_X4_opensItem.at 7 rfl) (by decide) ?_
    exact xx_mask [true, false, true, false] (ss_X4_opensItem_37 C Q hf)
theorem ss_X4_takesFigure {l : Launch} {G : gt_} {a1 : Int32} {h : hh_} {r9 : Int32} {h9 : hh_}  (hf : ff_X4_takesFigure a1 h = some (r9, h9)) : ok_ l G 0 mt_X4_takesFigure [.ref 19, .int a1] h (some (.int r9)) h9 := by
  refine ok_of pn_RX4 (lb_ rfl) (fun Z _ _ C Q => ?_)
  show xx_ Z 0 [some (.ref 19), some (.int a1), none, none, none] [] h
  unfold ff_X4_takesFigure at hf
  refine xx_getS (k := 0) C (lb_ rfl) lf_RX4_49 (dd_X4_takesFigure.at 0 rfl) ?_
  refine xx_aload_n C (dd_X4_takesFigure.at 1 rfl) rfl (Nat.le_of_ble_eq_true rfl) ?_
  refine xx_getI (j := 1) C ck_3 (lb_ rfl) lf_RX4_15 sh_k19 rfl (dd_X4_takesFigure.at 2 rfl) ?_
  obtain ⟨g1, hf⟩ := gd_ok hf
  refine xx_saload C (dd_X4_takesFigure.at 3 rfl) (lb_ rfl) (bi_ok g1) ?_
  refine xx_aload_n C (dd_X4_takesFigure.at 4 rfl) rfl (Nat.le_of_ble_eq_true rfl) ?_
  refine xx_getI (j := 2) C ck_3 (lb_ rfl) lf_RX4_19 sh_k19 rfl (dd_X4_takesFigure.at 5 rfl) ?_
  refine xx_isub C (dd_X4_takesFigure.at 6 rfl) ?_
  refine xx_istore_n (lv' := [_, _, _, _, _]) C (dd_X4_takesFigure.at 7 rfl) (lb_ rfl) rfl ?_
  refine xx_iload_n C (dd_X4_takesFigure.at 8 rfl) rfl ?_
  refine xx_bipush C (dd_X4_takesFigure.at 9 rfl) bq_48 ?_
  refine xx_isub C (dd_X4_takesFigure.at 10 rfl) ?_
  refine xx_istore_n (lv' := [_, _, _, _, _]) C (dd_X4_takesFigure.at 11 rfl) (lb_ rfl) rfl ?_
  refine xx_iload_n C (dd_X4_takesFigure.at 12 rfl) rfl ?_
  refine xx_getS (k := 1) C (lb_ rfl) lf_RX4_55 (dd_X4_takesFigure.at 13 rfl) ?_
  refine xx_aload_n C (dd_X4_takesFigure.at 14 rfl) rfl (Nat.le_of_ble_eq_true rfl) ?_
  refine xx_getI (j := 1) C ck_3 (lb_ rfl) lf_RX4_15 sh_k19 rfl (dd_X4_takesFigure.at 15 rfl) ?_
  refine xx_iconst C (dd_X4_takesFigure.at 16 rfl) ic_5 ?_
  refine xx_imul C (dd_X4_takesFigure.at 17 rfl) ?_
  refine xx_iload_n C (dd_X4_takesFigure.at 18 rfl) rfl ?_
  refine xx_iadd C (dd_X4_takesFigure.at 19 rfl) ?_
  obtain ⟨g2, hf⟩ := gd_ok hf
  refine xx_saload C (dd_X4_takesFigure.at 20 rfl) (lb_ rfl) (bi_ok g2) ?_
  rcases ifo_ hf with ⟨hc, hf⟩ | ⟨hc, hf⟩
  · refine xx_icmp_lt_t (tgt := 51) C (dd_X4_takesFigure.at 21 rfl) (by decide) hc ?_
    refine xx_iconst C (dd_X4_takesFigure.at 32 rfl) ic_0 ?_
    exact xx_zreturn C (rt_iwp hf Q) (dd_X4_takesFigure.at 33 rfl) rfl zb_0
  · refine xx_icmp_lt_f (tgt := 51) C (dd_X4_takesFigure.at 21 rfl) (by decide) hc ?_
    refine xx_iload_n C (dd_X4_takesFigure.at 22 rfl) rfl ?_
    refine xx_getS (k := 2) C (lb_ rfl) lf_RX4_58 (dd_X4_takesFigure.at 23 rfl) ?_
    refine xx_aload_n C (dd_X4_takesFigure.at 24 rfl) rfl (Nat.le_of_ble_eq_true rfl) ?_
    refine xx_getI (j := 1) C ck_3 (lb_ rfl) lf_RX4_15 sh_k19 rfl (dd_X4_takesFigure.at 25 rfl) ?_
    refine xx_iconst C (dd_X4_takesFigure.at 26 rfl) ic_5 ?_
    refine xx_imul C (dd_X4_takesFigure.at 27 rfl) ?_
    refine xx_iload_n C (dd_X4_takesFigure.at 28 rfl) rfl ?_
    refine xx_iadd C (dd_X4_takesFigure.at 29 rfl) ?_
    refine xx_saload C (dd_X4_takesFigure.at 30 rfl) (lb_ rfl) (bi_ok g2) ?_
    rcases ifo_ hf with ⟨hc, hf⟩ | ⟨hc, hf⟩
    · refine xx_icmp_le_t (tgt := 53) C (dd_X4_takesFigure.at 31 rfl) (by decide) hc ?_
      refine xx_aload_n C (dd_X4_takesFigure.at 34 rfl) rfl (Nat.le_of_ble_eq_true rfl) ?_
      obtain ⟨g3, hf⟩ := gd_ok hf
      refine xx_getR (j := 0) (r := h.2.2.2.2) C ck_3 (lb_ rfl) lf_RX4_9 sh_k19 rfl (lb_ rfl) rfl (dd_X4_takesFigure.at 35 rfl) ?_
      refine xx_getR (j := 4) (r := (h.2.2.2.2 + 23)) C ck_1 (lb_ rfl) lf_RX4_22 (sh_o (bo_ok g3)) rfl (rc_o4 (bo_ok g3)) (rf_o4 (bo_ok g3)) (dd_X4_takesFigure.at 36 rfl) ?_
      refine xx_aload_n C (dd_X4_takesFigure.at 37 rfl) rfl (Nat.le_of_ble_eq_true rfl) ?_
      refine xx_getI (j := 1) C ck_3 (lb_ rfl) lf_RX4_15 sh_k19 rfl (dd_X4_takesFigure.at 38 rfl) ?_
      refine xx_iaload C (dd_X4_takesFigure.at 39 rfl) (sh_o23 (bo_ok g3)) (bi_ok g1) ?_
      refine xx_iconst C (dd_X4_takesFigure.at 40 rfl) ic_1 ?_
      refine xx_isub C (dd_X4_takesFigure.at 41 rfl) ?_
      refine xx_istore (lv' := [_, _, _, _, _]) C (dd_X4_takesFigure.at 42 rfl) (lb_ rfl) rfl ?_
      refine xx_aload_n C (dd_X4_takesFigure.at 43 rfl) rfl (Nat.le_of_ble_eq_true rfl) ?_
      refine xx_getI (j := 1) C ck_3 (lb_ rfl) lf_RX4_15 sh_k19 rfl (dd_X4_takesFigure.at 44 rfl) ?_
      rcases ifo_ hf with ⟨hc, hf⟩ | ⟨hc, hf⟩
      · refine xx_if_ne_f (tgt := 92) C (dd_X4_takesFigure.at 45 rfl) (by decide) (not_not_intro hc) ?_
        refine xx_aload_n C (dd_X4_takesFigure.at 46 rfl) rfl (Nat.le_of_ble_eq_true rfl) ?_
        refine xx_getR (j := 0) (r := h.2.2.2.2) C ck_3 (lb_ rfl) lf_RX4_9 sh_k19 rfl (lb_ rfl) rfl (dd_X4_takesFigure.at 47 rfl) ?_
        refine xx_getR (j := 0) (r := (h.2.2.2.2 + 1)) C ck_1 (lb_ rfl) lf_RX4_61 (sh_o (bo_ok g3)) rfl (rc_o0 (bo_ok g3)) (rf_o0 (bo_ok g3)) (dd_X4_takesFigure.at 48 rfl) ?_
        refine xx_iload C (dd_X4_takesFigure.at 49 rfl) rfl ?_
        obtain ⟨g8, hf⟩ := gd_ok hf
        refine xx_aaload (r := (h.2.2.2.2 + 2 + Int32.toNatClampNeg ((h.1 (h.2.2.2.2 + 23) (Int32.toNatClampNeg (h.1 19 1))) - (1 : Int32)))) C (dd_X4_takesFigure.at 50 rfl) (sh_o1 (bo_ok g3)) (bi_ok g8) (sh_lt (sh_oe1 (bo_ok g3) (bi_ok g8))) rfl ?_
        refine xx_iload_n C (dd_X4_takesFigure.at 51 rfl) rfl ?_
        refine xx_iload_n C (dd_X4_takesFigure.at 52 rfl) rfl ?_
        obtain ⟨g9, hf⟩ := gd_ok hf
        refine xx_iastore C (dd_X4_takesFigure.at 53 rfl) (sh_oe1 (bo_ok g3) (bi_ok g8)) (bi_ok g9) ?_
        refine xx_goto (tgt := 131) C (dd_X4_takesFigure.at 54 rfl) (by decide) ?_
        refine xx_aload_n C (dd_X4_takesFigure.at 78 rfl) rfl (Nat.le_of_ble_eq_true rfl) ?_
        refine xx_dup C (dd_X4_takesFigure.at 79 rfl) rfl ?_
        refine xx_getI (j := 2) C ck_3 (lb_ rfl) lf_RX4_19 sh_k19 rfl (dd_X4_takesFigure.at 80 rfl) ?_
        refine xx_iconst C (dd_X4_takesFigure.at 81 rfl) ic_1 ?_
        refine xx_isub C (dd_X4_takesFigure.at 82 rfl) ?_
        refine xx_putI (j := 2) C ck_3 (lb_ rfl) lf_RX4_19 rfl rfl sh_k19 rfl (dd_X4_takesFigure.at 83 rfl) ?_
        refine xx_iconst C (dd_X4_takesFigure.at 84 rfl) ic_1 ?_
        exact xx_zreturn C (rt_iwp hf Q) (dd_X4_takesFigure.at 85 rfl) rfl zb_1
      · refine xx_if_ne_t (tgt := 92) C (dd_X4_takesFigure.at 45 rfl) (by decide) hc ?_
        refine xx_aload_n C (dd_X4_takesFigure.at 55 rfl) rfl (Nat.le_of_ble_eq_true rfl) ?_
        refine xx_getI (j := 1) C ck_3 (lb_ rfl) lf_RX4_15 sh_k19 rfl (dd_X4_takesFigure.at 56 rfl) ?_
        refine xx_iconst C (dd_X4_takesFigure.at 57 rfl) ic_1 ?_
        rcases ifo_ hf with ⟨hc, hf⟩ | ⟨hc, hf⟩
        · refine xx_icmp_ne_f (tgt := 118) C (dd_X4_takesFigure.at 58 rfl) (by decide) (not_not_intro hc) ?_
          refine xx_aload_n C (dd_X4_takesFigure.at 59 rfl) rfl (Nat.le_of_ble_eq_true rfl) ?_
          refine xx_getR (j := 0) (r := h.2.2.2.2) C ck_3 (lb_ rfl) lf_RX4_9 sh_k19 rfl (lb_ rfl) rfl (dd_X4_takesFigure.at 60 rfl) ?_
          refine xx_getR (j := 2) (r := (h.2.2.2.2 + 13)) C ck_1 (lb_ rfl) lf_RX4_45 (sh_o (bo_ok g3)) rfl (rc_o2 (bo_ok g3)) (rf_o2 (bo_ok g3)) (dd_X4_takesFigure.at 61 rfl) ?_
          refine xx_iload C (dd_X4_takesFigure.at 62 rfl) rfl ?_
          obtain ⟨g6, hf⟩ := gd_ok hf
          refine xx_aaload (r := (h.2.2.2.2 + 14 + Int32.toNatClampNeg ((h.1 (h.2.2.2.2 + 23) (Int32.toNatClampNeg (h.1 19 1))) - (1 : Int32)))) C (dd_X4_takesFigure.at 63 rfl) (sh_o13 (bo_ok g3)) (bi_ok g6) (sh_lt (sh_oe13 (bo_ok g3) (bi_ok g6))) rfl ?_
          refine xx_iconst C (dd_X4_takesFigure.at 64 rfl) ic_1 ?_
          refine xx_iload_n C (dd_X4_takesFigure.at 65 rfl) rfl ?_
          refine xx_iadd C (dd_X4_takesFigure.at 66 rfl) ?_
          refine xx_iload_n C (dd_X4_takesFigure.at 67 rfl) rfl ?_
          obtain ⟨g7, hf⟩ := gd_ok hf
          refine xx_iastore C (dd_X4_takesFigure.at 68 rfl) (sh_oe13 (bo_ok g3) (bi_ok g6)) (bi_ok g7) ?_
          refine xx_goto (tgt := 131) C (dd_X4_takesFigure.at 69 rfl) (by decide) ?_
          refine xx_aload_n C (dd_X4_takesFigure.at 78 rfl) rfl (Nat.le_of_ble_eq_true rfl) ?_
          refine xx_dup C (dd_X4_takesFigure.at 79 rfl) rfl ?_
          refine xx_getI (j := 2) C ck_3 (lb_ rfl) lf_RX4_19 sh_k19 rfl (dd_X4_takesFigure.at 80 rfl) ?_
          refine xx_iconst C (dd_X4_takesFigure.at 81 rfl) ic_1 ?_
          refine xx_isub C (dd_X4_takesFigure.at 82 rfl) ?_
          refine xx_putI (j := 2) C ck_3 (lb_ rfl) lf_RX4_19 rfl rfl sh_k19 rfl (dd_X4_takesFigure.at 83 rfl) ?_
          refine xx_iconst C (dd_X4_takesFigure.at 84 rfl) ic_1 ?_
          exact xx_zreturn C (rt_iwp hf Q) (dd_X4_takesFigure.at 85 rfl) rfl zb_1
        · refine xx_icmp_ne_t (tgt := 118) C (dd_X4_takesFigure.at 58 rfl) (by decide) hc ?_
          refine xx_aload_n C (dd_X4_takesFigure.at 70 rfl) rfl (Nat.le_of_ble_eq_true rfl) ?_
          refine xx_getR (j := 0) (r := h.2.2.2.2) C ck_3 (lb_ rfl) lf_RX4_9 sh_k19 rfl (lb_ rfl) rfl (dd_X4_takesFigure.at 71 rfl) ?_
          refine xx_getR (j := 3) (r := (h.2.2.2.2 + 18)) C ck_1 (lb_ rfl) lf_RX4_64 (sh_o (bo_ok g3)) rfl (rc_o3 (bo_ok g3)) (rf_o3 (bo_ok g3)) (dd_X4_takesFigure.at 72 rfl) ?_
          refine xx_iload C (dd_X4_takesFigure.at 73 rfl) rfl ?_
          obtain ⟨g4, hf⟩ := gd_ok hf
          refine xx_aaload (r := (h.2.2.2.2 + 19 + Int32.toNatClampNeg ((h.1 (h.2.2.2.2 + 23) (Int32.toNatClampNeg (h.1 19 1))) - (1 : Int32)))) C (dd_X4_takesFigure.at 74 rfl) (sh_o18 (bo_ok g3)) (bi_ok g4) (sh_lt (sh_oe18 (bo_ok g3) (bi_ok g4))) rfl ?_
          refine xx_iload_n C (dd_X4_takesFigure.at 75 rfl) rfl ?_
          refine xx_iload_n C (dd_X4_takesFigure.at 76 rfl) rfl ?_
          obtain ⟨g5, hf⟩ := gd_ok hf
          refine xx_iastore C (dd_X4_takesFigure.at 77 rfl) (sh_oe18 (bo_ok g3) (bi_ok g4)) (bi_ok g5) ?_
          refine xx_aload_n C (dd_X4_takesFigure.at 78 rfl) rfl (Nat.le_of_ble_eq_true rfl) ?_
          refine xx_dup C (dd_X4_takesFigure.at 79 rfl) rfl ?_
          refine xx_getI (j := 2) C ck_3 (lb_ rfl) lf_RX4_19 sh_k19 rfl (dd_X4_takesFigure.at 80 rfl) ?_
          refine xx_iconst C (dd_X4_takesFigure.at 81 rfl) ic_1 ?_
          refine xx_isub C (dd_X4_takesFigure.at 82 rfl) ?_
          refine xx_putI (j := 2) C ck_3 (lb_ rfl) lf_RX4_19 rfl rfl sh_k19 rfl (dd_X4_takesFigure.at 83 rfl) ?_
          refine xx_iconst C (dd_X4_takesFigure.at 84 rfl) ic_1 ?_
          exact xx_zreturn C (rt_iwp hf Q) (dd_X4_takesFigure.at 85 rfl) rfl zb_1
    · refine xx_icmp_le_f (tgt := 53) C (dd_X4_takesFigure.at 31 rfl) (by decide) hc ?_
      refine xx_iconst C (dd_X4_takesFigure.at 32 rfl) ic_0 ?_
      exact xx_zreturn C (rt_iwp hf Q) (dd_X4_takesFigure.at 33 rfl) rfl zb_0
theorem ss_X4_goesOn {l : Launch} {G : gt_} {a1 : Int32} {h : hh_} {r9 : Int32} {h9 : hh_}  (hf : ff_X4_goesOn a1 h = some (r9, h9)) : ok_ l G 2 mt_X4_goesOn [.ref 19, .int a1] h (some (.int r9)) h9 := by
  refine ok_of pn_RX4 (lb_ rfl) (fun Z _ _ C Q => ?_)
  show xx_ Z 0 [some (.ref 19), some (.int a1)] [] h
  unfold ff_X4_goesOn at hf
  refine xx_aload_n C (dd_X4_goesOn.at 0 rfl) rfl (Nat.le_of_ble_eq_true rfl) ?_
  refine xx_getI (j := 2) C ck_3 (lb_ rfl) lf_RX4_19 sh_k19 rfl (dd_X4_goesOn.at 1 rfl) ?_
  rcases ifo_ hf with ⟨hc, hf⟩ | ⟨hc, hf⟩
  · refine xx_if_le_t (tgt := 13) C (dd_X4_goesOn.at 2 rfl) (by decide) hc ?_
    refine xx_iload_n C (dd_X4_goesOn.at 7 rfl) rfl ?_
    refine xx_bipush C (dd_X4_goesOn.at 8 rfl) bq_32 ?_
    rcases ifo_ hf with ⟨hc, hf⟩ | ⟨hc, hf⟩
    · refine xx_icmp_eq_t (tgt := 27) C (dd_X4_goesOn.at 9 rfl) (by decide) hc ?_
      refine xx_iconst C (dd_X4_goesOn.at 14 rfl) ic_1 ?_
      refine xx_goto (tgt := 32) C (dd_X4_goesOn.at 15 rfl) (by decide) ?_
      exact xx_zreturn C (rt_iwp hf Q) (dd_X4_goesOn.at 17 rfl) rfl zb_1
    · refine xx_icmp_eq_f (tgt := 27) C (dd_X4_goesOn.at 9 rfl) (by decide) hc ?_
      refine xx_aload_n C (dd_X4_goesOn.at 10 rfl) rfl (Nat.le_of_ble_eq_true rfl) ?_
      refine xx_iload_n C (dd_X4_goesOn.at 11 rfl) rfl ?_
      obtain ⟨v1, e2, hf⟩ := bdo_ hf
      refine xx_callVi C (ss_X4_opensItem (pz_ e2)) (dd_X4_goesOn.at 12 rfl) ck_3 rfl sh_k19 kk_X4_opensItem ki_X4_opensItem lm_RX4_35 (lb_ rfl) rfl rfl (lb_ rfl) ?_
      rcases ifo_ hf with ⟨hc, hf⟩ | ⟨hc, hf⟩
      · refine xx_if_eq_t (tgt := 31) C (dd_X4_goesOn.at 13 rfl) (by decide) hc ?_
        refine xx_iconst C (dd_X4_goesOn.at 16 rfl) ic_0 ?_
        exact xx_zreturn C (rt_iwp hf Q) (dd_X4_goesOn.at 17 rfl) rfl zb_0
      · refine xx_if_eq_f (tgt := 31) C (dd_X4_goesOn.at 13 rfl) (by decide) hc ?_
        refine xx_iconst C (dd_X4_goesOn.at 14 rfl) ic_1 ?_
        refine xx_goto (tgt := 32) C (dd_X4_goesOn.at 15 rfl) (by decide) ?_
        exact xx_zreturn C (rt_iwp hf Q) (dd_X4_goesOn.at 17 rfl) rfl zb_1
  · refine xx_if_le_f (tgt := 13) C (dd_X4_goesOn.at 2 rfl) (by decide) hc ?_
    refine xx_aload_n C (dd_X4_goesOn.at 3 rfl) rfl (Nat.le_of_ble_eq_true rfl) ?_
    refine xx_iload_n C (dd_X4_goesOn.at 4 rfl) rfl ?_
    obtain ⟨v3, e4, hf⟩ := bdo_ hf
    refine xx_callVi C (ss_X4_takesFigure (pz_ e4)) (dd_X4_goesOn.at 5 rfl) ck_3 rfl sh_k19 kk_X4_takesFigure ki_X4_takesFigure lm_RX4_32 (lb_ rfl) rfl rfl (lb_ rfl) ?_
    obtain ⟨g5, hf⟩ := gd_ok hf
    exact xx_zreturn C (rt_iwp hf Q) (dd_X4_goesOn.at 6 rfl) rfl (bz_ok g5)
theorem ss_X4_into_18 {Z : zz_} (C : cx_ Z mt_X4_into 3) {r9 : Int32} {h9 : hh_} {x2 : Nat} {x3 : Int32} {K18_48 : hh_ → Option (Int32 × hh_)} (Q : rq_ Z (some (.int r9)) h9) (hp2 : 0 < x2) (hK18_48 : ∀ (h8 : hh_), K18_48 h8 = some (r9, h9) → xx_ Z 48 [some (.ref 19), none, some (.ref x2), some (.int x3), none] [] h8) : ∀ (n9 : Nat) (x4 : Int32) (h : hh_), ff_X4_into_18 x2 x3 K18_48 n9 x4 h = some (r9, h9) → xx_ Z 18 [some (.ref 19), none, some (.ref x2), some (.int x3), some (.int x4)] [] h := by
  intro n9
  induction n9 with
  | zero =>
    intro x4 h hf
    exact absurd hf (by rw [ff_X4_into_18]; exact nofun)
  | succ n9 ih =>
    intro x4 h hf
    rw [ff_X4_into_18] at hf
    refine xx_iload C (dd_X4_into.at 11 rfl) rfl ?_
    refine xx_aload_n C (dd_X4_into.at 12 rfl) rfl (Nat.le_of_ble_eq_true rfl) ?_
    obtain ⟨g1, hf⟩ := gd_ok hf
    refine xx_getR (j := 0) (r := h.2.2.2.2) C ck_3 (lb_ rfl) lf_RX4_9 sh_k19 rfl (lb_ rfl) rfl (dd_X4_into.at 13 rfl) ?_
    refine xx_getR (j := 4) (r := (h.2.2.2.2 + 23)) C ck_1 (lb_ rfl) lf_RX4_22 (sh_o (bo_ok g1)) rfl (rc_o4 (bo_ok g1)) (rf_o4 (bo_ok g1)) (dd_X4_into.at 14 rfl) ?_
    refine xx_alen (v := 3) C (dd_X4_into.at 15 rfl) (sh_o23 (bo_ok g1)) rfl ?_
    rcases ifo_ hf with ⟨hc, hf⟩ | ⟨hc, hf⟩
    · refine xx_icmp_ge_t (tgt := 48) C (dd_X4_into.at 16 rfl) (by decide) hc ?_
      exact xx_mask [true, false, true, true, false] (hK18_48 _ hf)
    · refine xx_icmp_ge_f (tgt := 48) C (dd_X4_into.at 16 rfl) (by decide) hc ?_
      refine xx_aload_n C (dd_X4_into.at 17 rfl) rfl (Nat.le_of_ble_eq_true rfl) ?_
      refine xx_getR (j := 0) (r := h.2.2.2.2) C ck_3 (lb_ rfl) lf_RX4_9 sh_k19 rfl (lb_ rfl) rfl (dd_X4_into.at 18 rfl) ?_
      refine xx_getR (j := 4) (r := (h.2.2.2.2 + 23)) C ck_1 (lb_ rfl) lf_RX4_22 (sh_o (bo_ok g1)) rfl (rc_o4 (bo_ok g1)) (rf_o4 (bo_ok g1)) (dd_X4_into.at 19 rfl) ?_
      refine xx_iload C (dd_X4_into.at 20 rfl) rfl ?_
      refine xx_iconst C (dd_X4_into.at 21 rfl) ic_0 ?_
      obtain ⟨g2, hf⟩ := gd_ok hf
      refine xx_iastore C (dd_X4_into.at 22 rfl) (sh_o23 (bo_ok g1)) (bi_ok g2) ?_
      refine xx_iinc (v := _ + (1 : Int32)) (lv' := [_, _, _, _, _]) C (dd_X4_into.at 23 rfl) (lb_ rfl) rfl (by rw [ic_1]) rfl ?_
      refine xx_goto (tgt := 18) C (dd_X4_into.at 24 rfl) (by decide) ?_
      exact xx_mask [true, false, true, true, true] (ih _ _ hf)
theorem ss_X4_into_51 {Z : zz_} (C : cx_ Z mt_X4_into 3) {r9 : Int32} {h9 : hh_} {x2 : Nat} {x3 : Int32} {K51_77 : hh_ → Option (Int32 × hh_)} (Q : rq_ Z (some (.int r9)) h9) (hp2 : 0 < x2) (hK51_77 : ∀ (h8 : hh_), K51_77 h8 = some (r9, h9) → xx_ Z 77 [some (.ref 19), none, none, some (.int x3), none] [] h8) : ∀ (n9 : Nat) (x4 : Int32) (h : hh_), ff_X4_into_51 x2 x3 K51_77 n9 x4 h = some (r9, h9) → xx_ Z 51 [some (.ref 19), none, some (.ref x2), some (.int x3), some (.int x4)] [] h := by
  intro n9
  induction n9 with
  | zero =>
    intro x4 h hf
    exact absurd hf (by rw [ff_X4_into_51]; exact nofun)
  | succ n9 ih =>
    intro x4 h hf
    rw [ff_X4_into_51] at hf
    refine xx_iload C (dd_X4_into.at 27 rfl) rfl ?_
    refine xx_iload_n C (dd_X4_into.at 28 rfl) rfl ?_
    rcases ifo_ hf with ⟨hc, hf⟩ | ⟨hc, hf⟩
    · refine xx_icmp_ge_t (tgt := 77) C (dd_X4_into.at 29 rfl) (by decide) hc ?_
      exact xx_mask [true, false, false, true, false] (hK51_77 _ hf)
    · refine xx_icmp_ge_f (tgt := 77) C (dd_X4_into.at 29 rfl) (by decide) hc ?_
      refine xx_aload_n C (dd_X4_into.at 30 rfl) rfl (Nat.le_of_ble_eq_true rfl) ?_
      refine xx_aload_n C (dd_X4_into.at 31 rfl) rfl hp2 ?_
      refine xx_iload C (dd_X4_into.at 32 rfl) rfl ?_
      obtain ⟨g4, hf⟩ := gd_ok hf
      refine xx_iaload C (dd_X4_into.at 33 rfl) (bp_sh g4) (bp_in g4) ?_
      obtain ⟨v5, e6, hf⟩ := bdo_ hf
      refine xx_callVi C (ss_X4_goesOn (pz_ e6)) (dd_X4_into.at 34 rfl) ck_3 rfl sh_k19 kk_X4_goesOn ki_X4_goesOn lm_RX4_28 (lb_ rfl) rfl rfl (lb_ rfl) ?_
      rcases ifo_ hf with ⟨hc, hf⟩ | ⟨hc, hf⟩
      · refine xx_if_ne_f (tgt := 71) C (dd_X4_into.at 35 rfl) (by decide) (not_not_intro hc) ?_
        refine xx_iload C (dd_X4_into.at 36 rfl) rfl ?_
        exact xx_ireturn C (rt_iwp hf Q) (dd_X4_into.at 37 rfl) rfl
      · refine xx_if_ne_t (tgt := 71) C (dd_X4_into.at 35 rfl) (by decide) hc ?_
        refine xx_iinc (v := _ + (1 : Int32)) (lv' := [_, _, _, _, _]) C (dd_X4_into.at 38 rfl) (lb_ rfl) rfl (by rw [ic_1]) rfl ?_
        refine xx_goto (tgt := 51) C (dd_X4_into.at 39 rfl) (by decide) ?_
        exact xx_mask [true, false, true, true, true] (ih _ _ hf)
theorem ss_X4_into {l : Launch} {G : gt_} {a1 : Nat} {a2 : Nat} {a3 : Int32} {h : hh_} {r9 : Int32} {h9 : hh_} (ho1 : isO_ a1) (hp2 : 0 < a2) (hf : ff_X4_into a1 a2 a3 h = some (r9, h9)) : ok_ l G 3 mt_X4_into [.ref 19, .ref a1, .ref a2, .int a3] h (some (.int r9)) h9 := by
  refine ok_of pn_RX4 (lb_ rfl) (fun Z _ _ C Q => ?_)
  show xx_ Z 0 [some (.ref 19), some (.ref a1), some (.ref a2), some (.int a3), none] [] h
  unfold ff_X4_into at hf
  refine xx_aload_n C (dd_X4_into.at 0 rfl) rfl (Nat.le_of_ble_eq_true rfl) ?_
  refine xx_aload_n C (dd_X4_into.at 1 rfl) rfl (isO_pos ho1) ?_
  refine xx_putR (j := 0) (h' := (hh_sO h a1)) C ck_3 (lb_ rfl) lf_RX4_9 rfl ⟨_, rfl⟩ sh_k19 rfl ⟨(isO_pos ho1), (isO_lt ho1)⟩ rfl rfl (hn_O ⟨(isO_pos ho1), (isO_lt ho1)⟩) rr_O (dd_X4_into.at 2 rfl) ?_
  refine xx_aload_n C (dd_X4_into.at 3 rfl) rfl (Nat.le_of_ble_eq_true rfl) ?_
  refine xx_iconst C (dd_X4_into.at 4 rfl) ic_0 ?_
  refine xx_putI (j := 1) C ck_3 (lb_ rfl) lf_RX4_15 rfl rfl sh_k19 rfl (dd_X4_into.at 5 rfl) ?_
  refine xx_aload_n C (dd_X4_into.at 6 rfl) rfl (Nat.le_of_ble_eq_true rfl) ?_
  refine xx_iconst C (dd_X4_into.at 7 rfl) ic_0 ?_
  refine xx_putI (j := 2) C ck_3 (lb_ rfl) lf_RX4_19 rfl rfl sh_k19 rfl (dd_X4_into.at 8 rfl) ?_
  refine xx_iconst C (dd_X4_into.at 9 rfl) ic_0 ?_
  refine xx_istore (lv' := [_, _, _, _, _]) C (dd_X4_into.at 10 rfl) (lb_ rfl) rfl ?_
  refine xx_mask [true, false, true, true, true] (ss_X4_into_18 C Q hp2 (fun k3 hf => ?_) _ _ _ hf)
  refine xx_iconst C (dd_X4_into.at 25 rfl) ic_0 ?_
  refine xx_istore (lv' := [_, _, _, _, _]) C (dd_X4_into.at 26 rfl) (lb_ rfl) rfl ?_
  refine xx_mask [true, false, true, true, true] (ss_X4_into_51 C Q hp2 (fun k7 hf => ?_) _ _ _ hf)
  refine xx_aload_n C (dd_X4_into.at 40 rfl) rfl (Nat.le_of_ble_eq_true rfl) ?_
  refine xx_getI (j := 2) C ck_3 (lb_ rfl) lf_RX4_19 sh_k19 rfl (dd_X4_into.at 41 rfl) ?_
  rcases ifo_ hf with ⟨hc, hf⟩ | ⟨hc, hf⟩
  · refine xx_if_gt_t (tgt := 96) C (dd_X4_into.at 42 rfl) (by decide) hc ?_
    refine xx_iload_n C (dd_X4_into.at 49 rfl) rfl ?_
    refine xx_goto (tgt := 102) C (dd_X4_into.at 50 rfl) (by decide) ?_
    exact xx_ireturn C (rt_iwp hf Q) (dd_X4_into.at 52 rfl) rfl
  · refine xx_if_gt_f (tgt := 96) C (dd_X4_into.at 42 rfl) (by decide) hc ?_
    refine xx_aload_n C (dd_X4_into.at 43 rfl) rfl (Nat.le_of_ble_eq_true rfl) ?_
    obtain ⟨g8, hf⟩ := gd_ok hf
    refine xx_getR (j := 0) (r := k7.2.2.2.2) C ck_3 (lb_ rfl) lf_RX4_9 sh_k19 rfl (lb_ rfl) rfl (dd_X4_into.at 44 rfl) ?_
    refine xx_getR (j := 4) (r := (k7.2.2.2.2 + 23)) C ck_1 (lb_ rfl) lf_RX4_22 (sh_o (bo_ok g8)) rfl (rc_o4 (bo_ok g8)) (rf_o4 (bo_ok g8)) (dd_X4_into.at 45 rfl) ?_
    refine xx_iconst C (dd_X4_into.at 46 rfl) ic_0 ?_
    refine xx_iaload C (dd_X4_into.at 47 rfl) (sh_o23 (bo_ok g8)) (bi_ok (i := (0 : Int32)) (n := 3) rfl) ?_
    rcases ifo_ hf with ⟨hc, hf⟩ | ⟨hc, hf⟩
    · refine xx_if_ne_f (tgt := 100) C (dd_X4_into.at 48 rfl) (by decide) (not_not_intro hc) ?_
      refine xx_iload_n C (dd_X4_into.at 49 rfl) rfl ?_
      refine xx_goto (tgt := 102) C (dd_X4_into.at 50 rfl) (by decide) ?_
      exact xx_ireturn C (rt_iwp hf Q) (dd_X4_into.at 52 rfl) rfl
    · refine xx_if_ne_t (tgt := 100) C (dd_X4_into.at 48 rfl) (by decide) hc ?_
      refine xx_bipush C (dd_X4_into.at 51 rfl) bq_m9 ?_
      exact xx_ireturn C (rt_iwp hf Q) (dd_X4_into.at 52 rfl) rfl
theorem ss_X7_fault {l : Launch} {G : gt_} {a1 : Int32} {h : hh_} {r9 : Int32} {h9 : hh_}  (hf : ff_X7_fault a1 h = some (r9, h9)) : ok_ l G 4 mt_X7_fault [.ref 1, .int a1] h (some (.int r9)) h9 := by
  refine ok_of pn_RX7 (lb_ rfl) (fun Z _ _ C Q => ?_)
  show xx_ Z 0 [some (.ref 1), some (.int a1)] [] h
  unfold ff_X7_fault at hf
  refine xx_aload_n C (dd_X7_fault.at 0 rfl) rfl (Nat.le_of_ble_eq_true rfl) ?_
  refine xx_getR (j := 1) (r := 11) C ck_6 (lb_ rfl) lf_RX7_18 sh_k1 rfl (lb_ rfl) rfl (dd_X7_fault.at 1 rfl) ?_
  refine xx_iload_n C (dd_X7_fault.at 2 rfl) rfl ?_
  refine xx_callVi C (ss_X5t_allows rfl) (dd_X7_fault.at 3 rfl) ck_4 rfl sh_k11 kk_X5_allows ki_X5_allows lm_RX7_63 (lb_ rfl) rfl rfl (lb_ rfl) ?_
  rcases ifo_ hf with ⟨hc, hf⟩ | ⟨hc, hf⟩
  · refine xx_if_ne_f (tgt := 13) C (dd_X7_fault.at 4 rfl) (by decide) (not_not_intro hc) ?_
    refine xx_iconst C (dd_X7_fault.at 5 rfl) ic_m1 ?_
    exact xx_ireturn C (rt_iwp hf Q) (dd_X7_fault.at 6 rfl) rfl
  · refine xx_if_ne_t (tgt := 13) C (dd_X7_fault.at 4 rfl) (by decide) hc ?_
    refine xx_aload_n C (dd_X7_fault.at 7 rfl) rfl (Nat.le_of_ble_eq_true rfl) ?_
    refine xx_getR (j := 1) (r := 11) C ck_6 (lb_ rfl) lf_RX7_18 sh_k1 rfl (lb_ rfl) rfl (dd_X7_fault.at 8 rfl) ?_
    refine xx_iload_n C (dd_X7_fault.at 9 rfl) rfl ?_
    obtain ⟨v1, e2, hf⟩ := bdo_ hf
    refine xx_callVi C (ss_X5t_lacks e2) (dd_X7_fault.at 10 rfl) ck_4 rfl sh_k11 kk_X5_lacks ki_X5_lacks lm_RX7_86 (lb_ rfl) rfl rfl (lb_ rfl) ?_
    rcases ifo_ hf with ⟨hc, hf⟩ | ⟨hc, hf⟩
    · refine xx_if_eq_t (tgt := 33) C (dd_X7_fault.at 11 rfl) (by decide) hc ?_
      refine xx_aload_n C (dd_X7_fault.at 17 rfl) rfl (Nat.le_of_ble_eq_true rfl) ?_
      refine xx_getR (j := 3) (r := 19) C ck_6 (lb_ rfl) lf_RX7_30 sh_k1 rfl (lb_ rfl) rfl (dd_X7_fault.at 18 rfl) ?_
      refine xx_aload_n C (dd_X7_fault.at 19 rfl) rfl (Nat.le_of_ble_eq_true rfl) ?_
      obtain ⟨g3, hf⟩ := gd_ok hf
      refine xx_getR (j := 8) (r := h.2.2.2.1) C ck_6 (lb_ rfl) lf_RX7_59 sh_k1 rfl (lb_ rfl) rfl (dd_X7_fault.at 20 rfl) ?_
      refine xx_aload_n C (dd_X7_fault.at 21 rfl) rfl (Nat.le_of_ble_eq_true rfl) ?_
      refine xx_getR (j := 1) (r := 11) C ck_6 (lb_ rfl) lf_RX7_18 sh_k1 rfl (lb_ rfl) rfl (dd_X7_fault.at 22 rfl) ?_
      refine xx_getR (j := 0) (r := 12) C ck_4 (lb_ rfl) lf_RX7_79 sh_k11 rfl (lb_ rfl) rfl (dd_X7_fault.at 23 rfl) ?_
      refine xx_iload_n C (dd_X7_fault.at 24 rfl) rfl ?_
      obtain ⟨g4, hf⟩ := gd_ok hf
      refine xx_aaload (r := (13 + Int32.toNatClampNeg a1)) C (dd_X7_fault.at 25 rfl) sh_k12 (bi_ok g4) (sh_lt (sh_e12 (bi_ok g4))) rfl ?_
      refine xx_aload_n C (dd_X7_fault.at 26 rfl) rfl (Nat.le_of_ble_eq_true rfl) ?_
      refine xx_getR (j := 1) (r := 11) C ck_6 (lb_ rfl) lf_RX7_18 sh_k1 rfl (lb_ rfl) rfl (dd_X7_fault.at 27 rfl) ?_
      refine xx_getR (j := 1) (r := 17) C ck_4 (lb_ rfl) lf_RX7_89 sh_k11 rfl (lb_ rfl) rfl (dd_X7_fault.at 28 rfl) ?_
      refine xx_iload_n C (dd_X7_fault.at 29 rfl) rfl ?_
      refine xx_iaload C (dd_X7_fault.at 30 rfl) sh_k17 (bi_ok g4) ?_
      obtain ⟨v5, e6, hf⟩ := bdo_ hf
      refine xx_callVi C (ss_X4_into (bo_ok g3) (sh_pos (sh_e12 (bi_ok g4))) (pz_ e6)) (dd_X7_fault.at 31 rfl) ck_3 rfl sh_k19 kk_X4_into ki_X4_into lm_RX7_106 (lb_ rfl) rfl rfl (lb_ rfl) ?_
      exact xx_ireturn C (rt_iwp hf Q) (dd_X7_fault.at 32 rfl) rfl
    · refine xx_if_eq_f (tgt := 33) C (dd_X7_fault.at 11 rfl) (by decide) hc ?_
      refine xx_aload_n C (dd_X7_fault.at 12 rfl) rfl (Nat.le_of_ble_eq_true rfl) ?_
      refine xx_getR (j := 5) (r := 36) C ck_6 (lb_ rfl) lf_RX7_44 sh_k1 rfl (lb_ rfl) rfl (dd_X7_fault.at 13 rfl) ?_
      refine xx_iconst C (dd_X7_fault.at 14 rfl) ic_1 ?_
      obtain ⟨v7, e8, hf⟩ := bdo_ hf
      refine xx_callVi C (ss_X6_refuse (pz_ e8)) (dd_X7_fault.at 15 rfl) ck_5 rfl sh_k36 kk_X6_refuse ki_X6_refuse lm_RX7_67 (lb_ rfl) rfl rfl (lb_ rfl) ?_
      exact xx_ireturn C (rt_iwp hf Q) (dd_X7_fault.at 16 rfl) rfl
theorem ss_X2_repeat_47 {Z : zz_} (C : cx_ Z mt_X2_repeat 1) {h9 : hh_} {x2 : Nat} {x3 : Int32} {x4 : Int32} {h : hh_} {K47_61 : hh_ → Option (hh_)} (Q : rq_ Z none h9) (so2 : sh_ x2 = (1, 5)) (hK47_61 : ∀ (h8 : hh_), K47_61 h8 = some h9 → xx_ Z 61 [none, none, some (.ref x2), some (.int x3), some (.int x4)] [] h8) (hf : ff_X2_repeat_47 x2 x3 x4 h K47_61 = some h9) : xx_ Z 47 [none, none, some (.ref x2), some (.int x3), some (.int x4)] [] h := by
  unfold ff_X2_repeat_47 at hf
  refine xx_aload_n C (dd_X2_repeat.at 32 rfl) rfl (sh_pos so2) ?_
  refine xx_iload C (dd_X2_repeat.at 33 rfl) rfl ?_
  refine xx_iconst C (dd_X2_repeat.at 34 rfl) ic_5 ?_
  refine xx_aload_n C (dd_X2_repeat.at 35 rfl) rfl (sh_pos so2) ?_
  refine xx_iload C (dd_X2_repeat.at 36 rfl) rfl ?_
  obtain ⟨g2, hf⟩ := gd_ok hf
  refine xx_iaload C (dd_X2_repeat.at 37 rfl) so2 (bi_ok g2) ?_
  refine xx_iconst C (dd_X2_repeat.at 38 rfl) ic_1 ?_
  refine xx_iadd C (dd_X2_repeat.at 39 rfl) ?_
  refine xx_min C (dd_X2_repeat.at 40 rfl) lm_RX2_63 (lb_ rfl) (lb_ rfl) ?_
  refine xx_iastore C (dd_X2_repeat.at 41 rfl) so2 (bi_ok g2) ?_
  exact xx_mask [false, false, true, true, true] (hK47_61 _ hf)
theorem ss_X2_repeat_30 {Z : zz_} (C : cx_ Z mt_X2_repeat 1) {h9 : hh_} {x2 : Nat} {x3 : Int32}  (Q : rq_ Z none h9) (so2 : sh_ x2 = (1, 5)) : ∀ (n9 : Nat) (x4 : Int32) (h : hh_), ff_X2_repeat_30 x2 x3 n9 x4 h = some h9 → xx_ Z 30 [none, none, some (.ref x2), some (.int x3), some (.int x4)] [] h := by
  intro n9
  induction n9 with
  | zero =>
    intro x4 h hf
    exact absurd hf (by rw [ff_X2_repeat_30]; exact nofun)
  | succ n9 ih =>
    intro x4 h hf
    rw [ff_X2_repeat_30] at hf
    refine xx_iload C (dd_X2_repeat.at 23 rfl) rfl ?_
    refine xx_iconst C (dd_X2_repeat.at 24 rfl) ic_4 ?_
    rcases ifo_ hf with ⟨hc, hf⟩ | ⟨hc, hf⟩
    · refine xx_icmp_ge_t (tgt := 67) C (dd_X2_repeat.at 25 rfl) (by decide) hc ?_
      exact xx_return C (rt_vwp hf Q) (dd_X2_repeat.at 44 rfl) rfl
    · refine xx_icmp_ge_f (tgt := 67) C (dd_X2_repeat.at 25 rfl) (by decide) hc ?_
      refine xx_iload_n C (dd_X2_repeat.at 26 rfl) rfl ?_
      refine xx_iconst C (dd_X2_repeat.at 27 rfl) ic_4 ?_
      rcases ifo_ hf with ⟨hc, hf⟩ | ⟨hc, hf⟩
      · refine xx_icmp_eq_t (tgt := 47) C (dd_X2_repeat.at 28 rfl) (by decide) hc ?_
        refine xx_mask [false, false, true, true, true] (ss_X2_repeat_47 C Q so2 (fun k3 hf => ?_) hf)
        refine xx_iinc (v := _ + (1 : Int32)) (lv' := [_, _, _, _, _]) C (dd_X2_repeat.at 42 rfl) (lb_ rfl) rfl (by rw [ic_1]) rfl ?_
        refine xx_goto (tgt := 30) C (dd_X2_repeat.at 43 rfl) (by decide) ?_
        exact xx_mask [false, false, true, true, true] (ih _ _ hf)
      · refine xx_icmp_eq_f (tgt := 47) C (dd_X2_repeat.at 28 rfl) (by decide) hc ?_
        refine xx_iload_n C (dd_X2_repeat.at 29 rfl) rfl ?_
        refine xx_iload C (dd_X2_repeat.at 30 rfl) rfl ?_
        rcases ifo_ hf with ⟨hc, hf⟩ | ⟨hc, hf⟩
        · refine xx_icmp_ne_f (tgt := 61) C (dd_X2_repeat.at 31 rfl) (by decide) (not_not_intro hc) ?_
          refine xx_mask [false, false, true, true, true] (ss_X2_repeat_47 C Q so2 (fun k4 hf => ?_) hf)
          refine xx_iinc (v := _ + (1 : Int32)) (lv' := [_, _, _, _, _]) C (dd_X2_repeat.at 42 rfl) (lb_ rfl) rfl (by rw [ic_1]) rfl ?_
          refine xx_goto (tgt := 30) C (dd_X2_repeat.at 43 rfl) (by decide) ?_
          exact xx_mask [false, false, true, true, true] (ih _ _ hf)
        · refine xx_icmp_ne_t (tgt := 61) C (dd_X2_repeat.at 31 rfl) (by decide) hc ?_
          refine xx_iinc (v := _ + (1 : Int32)) (lv' := [_, _, _, _, _]) C (dd_X2_repeat.at 42 rfl) (lb_ rfl) rfl (by rw [ic_1]) rfl ?_
          refine xx_goto (tgt := 30) C (dd_X2_repeat.at 43 rfl) (by decide) ?_
          exact xx_mask [false, false, true, true, true] (ih _ _ hf)
theorem ss_X2_repeat {l : Launch} {G : gt_} {o : Nat} {a1 : Int32} {h : hh_} {h9 : hh_} (ho : isO_ o) (hf : ff_X2_repeat o a1 h = some h9) : ok_ l G 1 mt_X2_repeat [.ref o, .int a1] h none h9 := by
  refine ok_of pn_RX2 (lb_ rfl) (fun Z _ _ C Q => ?_)
  show xx_ Z 0 [some (.ref o), some (.int a1), none, none, none] [] h
  unfold ff_X2_repeat at hf
  refine xx_aload_n C (dd_X2_repeat.at 0 rfl) rfl (isO_pos ho) ?_
  refine xx_getR (j := 1) (r := (o + 7)) C ck_1 (lb_ rfl) lf_RX2_16 (sh_o ho) rfl (rc_o1 ho) (rf_o1 ho) (dd_X2_repeat.at 1 rfl) ?_
  refine xx_iload_n C (dd_X2_repeat.at 2 rfl) rfl ?_
  refine xx_bipush C (dd_X2_repeat.at 3 rfl) bq_8 ?_
  refine xx_idiv C (dd_X2_repeat.at 4 rfl) (by decide) ?_
  obtain ⟨g1, hf⟩ := gd_ok hf
  refine xx_aaload (r := (o + 8 + Int32.toNatClampNeg (a1 / (8 : Int32)))) C (dd_X2_repeat.at 5 rfl) (sh_o7 ho) (bi_ok g1) (sh_lt (sh_oe7 ho (bi_ok g1))) rfl ?_
  refine xx_astore_n (lv' := [_, _, _, _, _]) C (dd_X2_repeat.at 6 rfl) (lb_ rfl) ⟨(sh_pos (sh_oe7 ho (bi_ok g1))), (sh_lt (sh_oe7 ho (bi_ok g1)))⟩ rfl ?_
  refine xx_iload_n C (dd_X2_repeat.at 7 rfl) rfl ?_
  refine xx_bipush C (dd_X2_repeat.at 8 rfl) bq_8 ?_
  refine xx_irem C (dd_X2_repeat.at 9 rfl) (by decide) ?_
  refine xx_istore_n (lv' := [_, _, _, _, _]) C (dd_X2_repeat.at 10 rfl) (lb_ rfl) rfl ?_
  refine xx_iload_n C (dd_X2_repeat.at 11 rfl) rfl ?_
  refine xx_iconst C (dd_X2_repeat.at 12 rfl) ic_5 ?_
  rcases ifo_ hf with ⟨hc, hf⟩ | ⟨hc, hf⟩
  · refine xx_icmp_lt_t (tgt := 27) C (dd_X2_repeat.at 13 rfl) (by decide) hc ?_
    refine xx_iconst C (dd_X2_repeat.at 21 rfl) ic_0 ?_
    refine xx_istore (lv' := [_, _, _, _, _]) C (dd_X2_repeat.at 22 rfl) (lb_ rfl) rfl ?_
    exact xx_mask [false, false, true, true, true] (ss_X2_repeat_30 C Q (sh_oe7 ho (bi_ok g1)) _ _ _ hf)
  · refine xx_icmp_lt_f (tgt := 27) C (dd_X2_repeat.at 13 rfl) (by decide) hc ?_
    refine xx_aload_n C (dd_X2_repeat.at 14 rfl) rfl (sh_pos (sh_oe7 ho (bi_ok g1))) ?_
    refine xx_iconst C (dd_X2_repeat.at 15 rfl) ic_4 ?_
    refine xx_iload_n C (dd_X2_repeat.at 16 rfl) rfl ?_
    refine xx_iconst C (dd_X2_repeat.at 17 rfl) ic_5 ?_
    refine xx_isub C (dd_X2_repeat.at 18 rfl) ?_
    refine xx_iastore C (dd_X2_repeat.at 19 rfl) (sh_oe7 ho (bi_ok g1)) (bi_ok (i := (4 : Int32)) (n := 5) rfl) ?_
    exact xx_return C (rt_vwp hf Q) (dd_X2_repeat.at 20 rfl) rfl
theorem ss_X2_goBack_2 {Z : zz_} (C : cx_ Z mt_X2_goBack 2) {h9 : hh_} {x0 : Nat} {x1 : Int32} {K2_36 : hh_ → Option (hh_)} (Q : rq_ Z none h9) (ho0 : isO_ x0) (hK2_36 : ∀ (h8 : hh_), K2_36 h8 = some h9 → xx_ Z 36 [some (.ref x0), some (.int x1), none] [] h8) : ∀ (n9 : Nat) (x2 : Int32) (h : hh_), ff_X2_goBack_2 x0 x1 K2_36 n9 x2 h = some h9 → xx_ Z 2 [some (.ref x0), some (.int x1), some (.int x2)] [] h := by
  intro n9
  induction n9 with
  | zero =>
    intro x2 h hf
    exact absurd hf (by rw [ff_X2_goBack_2]; exact nofun)
  | succ n9 ih =>
    intro x2 h hf
    rw [ff_X2_goBack_2] at hf
    refine xx_iload_n C (dd_X2_goBack.at 2 rfl) rfl ?_
    refine xx_aload_n C (dd_X2_goBack.at 3 rfl) rfl (isO_pos ho0) ?_
    refine xx_getR (j := 4) (r := (x0 + 23)) C ck_1 (lb_ rfl) lf_RX2_25 (sh_o ho0) rfl (rc_o4 ho0) (rf_o4 ho0) (dd_X2_goBack.at 4 rfl) ?_
    refine xx_iconst C (dd_X2_goBack.at 5 rfl) ic_0 ?_
    refine xx_iaload C (dd_X2_goBack.at 6 rfl) (sh_o23 ho0) (bi_ok (i := (0 : Int32)) (n := 3) rfl) ?_
    rcases ifo_ hf with ⟨hc, hf⟩ | ⟨hc, hf⟩
    · refine xx_icmp_ge_t (tgt := 36) C (dd_X2_goBack.at 7 rfl) (by decide) hc ?_
      exact xx_mask [true, true, false] (hK2_36 _ hf)
    · refine xx_icmp_ge_f (tgt := 36) C (dd_X2_goBack.at 7 rfl) (by decide) hc ?_
      refine xx_aload_n C (dd_X2_goBack.at 8 rfl) rfl (isO_pos ho0) ?_
      refine xx_getR (j := 0) (r := (x0 + 1)) C ck_1 (lb_ rfl) lf_RX2_11 (sh_o ho0) rfl (rc_o0 ho0) (rf_o0 ho0) (dd_X2_goBack.at 9 rfl) ?_
      refine xx_iload_n C (dd_X2_goBack.at 10 rfl) rfl ?_
      obtain ⟨g1, hf⟩ := gd_ok hf
      refine xx_aaload (r := (x0 + 2 + Int32.toNatClampNeg x2)) C (dd_X2_goBack.at 11 rfl) (sh_o1 ho0) (bi_ok g1) (sh_lt (sh_oe1 ho0 (bi_ok g1))) rfl ?_
      refine xx_iconst C (dd_X2_goBack.at 12 rfl) ic_0 ?_
      refine xx_aload_n C (dd_X2_goBack.at 13 rfl) rfl (isO_pos ho0) ?_
      refine xx_getR (j := 1) (r := (x0 + 7)) C ck_1 (lb_ rfl) lf_RX2_16 (sh_o ho0) rfl (rc_o1 ho0) (rf_o1 ho0) (dd_X2_goBack.at 14 rfl) ?_
      refine xx_iload_n C (dd_X2_goBack.at 15 rfl) rfl ?_
      refine xx_aaload (r := (x0 + 8 + Int32.toNatClampNeg x2)) C (dd_X2_goBack.at 16 rfl) (sh_o7 ho0) (bi_ok g1) (sh_lt (sh_oe7 ho0 (bi_ok g1))) rfl ?_
      refine xx_iconst C (dd_X2_goBack.at 17 rfl) ic_0 ?_
      refine xx_iconst C (dd_X2_goBack.at 18 rfl) ic_5 ?_
      obtain ⟨g2, hf⟩ := gd_ok hf
      refine xx_acopy C (dd_X2_goBack.at 19 rfl) lm_RX2_57 (sh_oe1 ho0 (bi_ok g1)) (sh_oe7 ho0 (bi_ok g1)) (bc_1 g2) (bc_2 g2) (bc_3 g2) (bc_4 g2) (bc_5 g2) (lb_ rfl) (lb_ rfl) ?_
      refine xx_iinc (v := _ + (1 : Int32)) (lv' := [_, _, _]) C (dd_X2_goBack.at 20 rfl) (lb_ rfl) rfl (by rw [ic_1]) rfl ?_
      refine xx_goto (tgt := 2) C (dd_X2_goBack.at 21 rfl) (by decide) ?_
      exact xx_mask [true, true, true] (ih _ _ hf)
theorem ss_X2_goBack_38 {Z : zz_} (C : cx_ Z mt_X2_goBack 2) {h9 : hh_} {x0 : Nat} {x1 : Int32}  (Q : rq_ Z none h9) (ho0 : isO_ x0) : ∀ (n9 : Nat) (x2 : Int32) (h : hh_), ff_X2_goBack_38 x0 x1 n9 x2 h = some h9 → xx_ Z 38 [some (.ref x0), some (.int x1), some (.int x2)] [] h := by
  intro n9
  induction n9 with
  | zero =>
    intro x2 h hf
    exact absurd hf (by rw [ff_X2_goBack_38]; exact nofun)
  | succ n9 ih =>
    intro x2 h hf
    rw [ff_X2_goBack_38] at hf
    refine xx_iload_n C (dd_X2_goBack.at 24 rfl) rfl ?_
    refine xx_iload_n C (dd_X2_goBack.at 25 rfl) rfl ?_
    rcases ifo_ hf with ⟨hc, hf⟩ | ⟨hc, hf⟩
    · refine xx_icmp_ge_t (tgt := 59) C (dd_X2_goBack.at 26 rfl) (by decide) hc ?_
      refine xx_aload_n C (dd_X2_goBack.at 35 rfl) rfl (isO_pos ho0) ?_
      refine xx_iload_n C (dd_X2_goBack.at 36 rfl) rfl ?_
      refine xx_putI (j := 6) C ck_1 (lb_ rfl) lf_RX2_49 rfl rfl (sh_o ho0) rfl (dd_X2_goBack.at 37 rfl) ?_
      exact xx_return C (rt_vwp hf Q) (dd_X2_goBack.at 38 rfl) rfl
    · refine xx_icmp_ge_f (tgt := 59) C (dd_X2_goBack.at 26 rfl) (by decide) hc ?_
      refine xx_aload_n C (dd_X2_goBack.at 27 rfl) rfl (isO_pos ho0) ?_
      refine xx_aload_n C (dd_X2_goBack.at 28 rfl) rfl (isO_pos ho0) ?_
      refine xx_getR (j := 5) (r := (x0 + 24)) C ck_1 (lb_ rfl) lf_RX2_29 (sh_o ho0) rfl (rc_o5 ho0) (rf_o5 ho0) (dd_X2_goBack.at 29 rfl) ?_
      refine xx_iload_n C (dd_X2_goBack.at 30 rfl) rfl ?_
      obtain ⟨g4, hf⟩ := gd_ok hf
      refine xx_iaload C (dd_X2_goBack.at 31 rfl) (sh_o24 ho0) (bi_ok g4) ?_
      obtain ⟨v5, e6, hf⟩ := bdo_ hf
      refine xx_callVv C (ss_X2_repeat ho0 e6) (dd_X2_goBack.at 32 rfl) ck_1 rfl (sh_o ho0) kk_X2_repeat ki_X2_repeat lm_RX2_53 (lb_ rfl) rfl rfl (lb_ rfl) ?_
      refine xx_iinc (v := _ + (1 : Int32)) (lv' := [_, _, _]) C (dd_X2_goBack.at 33 rfl) (lb_ rfl) rfl (by rw [ic_1]) rfl ?_
      refine xx_goto (tgt := 38) C (dd_X2_goBack.at 34 rfl) (by decide) ?_
      exact xx_mask [true, true, true] (ih _ _ hf)
theorem ss_X2_goBack {l : Launch} {G : gt_} {o : Nat} {a1 : Int32} {h : hh_} {h9 : hh_} (ho : isO_ o) (hf : ff_X2_goBack o a1 h = some h9) : ok_ l G 2 mt_X2_goBack [.ref o, .int a1] h none h9 := by
  refine ok_of pn_RX2 (lb_ rfl) (fun Z _ _ C Q => ?_)
  show xx_ Z 0 [some (.ref o), some (.int a1), none] [] h
  unfold ff_X2_goBack at hf
  refine xx_iconst C (dd_X2_goBack.at 0 rfl) ic_0 ?_
  refine xx_istore_n (lv' := [_, _, _]) C (dd_X2_goBack.at 1 rfl) (lb_ rfl) rfl ?_
  refine xx_mask [true, true, true] (ss_X2_goBack_2 C Q ho (fun k3 hf => ?_) _ _ _ hf)
  refine xx_iconst C (dd_X2_goBack.at 22 rfl) ic_0 ?_
  refine xx_istore_n (lv' := [_, _, _]) C (dd_X2_goBack.at 23 rfl) (lb_ rfl) rfl ?_
  exact xx_mask [true, true, true] (ss_X2_goBack_38 C Q ho _ _ _ hf)
theorem ss_X7_office_98 {Z : zz_} (C : cx_ Z mt_X7_office 4) {r9 : Int32} {h9 : hh_}   (Q : rq_ Z (some (.int r9)) h9) : ∀ (n9 : Nat) (x3 : Int32) (h : hh_), ff_X7_office_98 n9 x3 h = some (r9, h9) → xx_ Z 98 [some (.ref 1), none, none, some (.int x3)] [] h := by
  intro n9
  induction n9 with
  | zero =>
    intro x3 h hf
    exact absurd hf (by rw [ff_X7_office_98]; exact nofun)
  | succ n9 ih =>
    intro x3 h hf
    rw [ff_X7_office_98] at hf
    refine xx_iload_n C (dd_X7_office.at 52 rfl) rfl ?_
    refine xx_iconst C (dd_X7_office.at 53 rfl) ic_3 ?_
    rcases ifo_ hf with ⟨hc, hf⟩ | ⟨hc, hf⟩
    · refine xx_icmp_ge_t (tgt := 119) C (dd_X7_office.at 54 rfl) (by decide) hc ?_
      refine xx_aload_n C (dd_X7_office.at 63 rfl) rfl (Nat.le_of_ble_eq_true rfl) ?_
      obtain ⟨g11, hf⟩ := gd_ok hf
      refine xx_getR (j := 7) (r := h.2.2.1) C ck_6 (lb_ rfl) lf_RX7_55 sh_k1 rfl (lb_ rfl) rfl (dd_X7_office.at 64 rfl) ?_
      refine xx_getR (j := 4) (r := (h.2.2.1 + 23)) C ck_1 (lb_ rfl) lf_RX7_118 (sh_o (bo_ok g11)) rfl (rc_o4 (bo_ok g11)) (rf_o4 (bo_ok g11)) (dd_X7_office.at 65 rfl) ?_
      refine xx_iconst C (dd_X7_office.at 66 rfl) ic_0 ?_
      refine xx_iaload C (dd_X7_office.at 67 rfl) (sh_o23 (bo_ok g11)) (bi_ok (i := (0 : Int32)) (n := 3) rfl) ?_
      exact xx_ireturn C (rt_iwp hf Q) (dd_X7_office.at 68 rfl) rfl
    · refine xx_icmp_ge_f (tgt := 119) C (dd_X7_office.at 54 rfl) (by decide) hc ?_
      refine xx_aload_n C (dd_X7_office.at 55 rfl) rfl (Nat.le_of_ble_eq_true rfl) ?_
      refine xx_getR (j := 2) (r := 18) C ck_6 (lb_ rfl) lf_RX7_23 sh_k1 rfl (lb_ rfl) rfl (dd_X7_office.at 56 rfl) ?_
      refine xx_iload_n C (dd_X7_office.at 57 rfl) rfl ?_
      obtain ⟨g12, hf⟩ := gd_ok hf
      refine xx_kaload (r := (89 + 3 * Int32.toNatClampNeg x3)) C (dd_X7_office.at 58 rfl) sh_k18 (bi_ok g12) (isK_lt (isK_in (bi_ok g12))) rfl ?_
      refine xx_iconst C (dd_X7_office.at 59 rfl) ic_m1 ?_
      refine xx_putI (j := 2) C ck_0 (lb_ rfl) lf_RX7_114 rfl rfl (sh_kp (isK_in (bi_ok g12))) rfl (dd_X7_office.at 60 rfl) ?_
      refine xx_iinc (v := _ + (1 : Int32)) (lv' := [_, _, _, _]) C (dd_X7_office.at 61 rfl) (lb_ rfl) rfl (by rw [ic_1]) rfl ?_
      refine xx_goto (tgt := 98) C (dd_X7_office.at 62 rfl) (by decide) ?_
      exact xx_mask [true, false, false, true] (ih _ _ hf)
theorem ss_X7_office {l : Launch} {G : gt_} {a1 : Int32} {h : hh_} {r9 : Int32} {h9 : hh_}  (hf : ff_X7_office a1 h = some (r9, h9)) : ok_ l G 4 mt_X7_office [.ref 1, .int a1] h (some (.int r9)) h9 := by
  refine ok_of pn_RX7 (lb_ rfl) (fun Z _ _ C Q => ?_)
  show xx_ Z 0 [some (.ref 1), some (.int a1), none, none] [] h
  unfold ff_X7_office at hf
  refine xx_aload_n C (dd_X7_office.at 0 rfl) rfl (Nat.le_of_ble_eq_true rfl) ?_
  refine xx_getR (j := 1) (r := 11) C ck_6 (lb_ rfl) lf_RX7_18 sh_k1 rfl (lb_ rfl) rfl (dd_X7_office.at 1 rfl) ?_
  refine xx_iload_n C (dd_X7_office.at 2 rfl) rfl ?_
  refine xx_callVi C (ss_X5t_allows rfl) (dd_X7_office.at 3 rfl) ck_4 rfl sh_k11 kk_X5_allows ki_X5_allows lm_RX7_63 (lb_ rfl) rfl rfl (lb_ rfl) ?_
  rcases ifo_ hf with ⟨hc, hf⟩ | ⟨hc, hf⟩
  · refine xx_if_ne_f (tgt := 13) C (dd_X7_office.at 4 rfl) (by decide) (not_not_intro hc) ?_
    refine xx_iconst C (dd_X7_office.at 5 rfl) ic_m1 ?_
    exact xx_ireturn C (rt_iwp hf Q) (dd_X7_office.at 6 rfl) rfl
  · refine xx_if_ne_t (tgt := 13) C (dd_X7_office.at 4 rfl) (by decide) hc ?_
    refine xx_aload_n C (dd_X7_office.at 7 rfl) rfl (Nat.le_of_ble_eq_true rfl) ?_
    refine xx_getR (j := 1) (r := 11) C ck_6 (lb_ rfl) lf_RX7_18 sh_k1 rfl (lb_ rfl) rfl (dd_X7_office.at 8 rfl) ?_
    refine xx_iload_n C (dd_X7_office.at 9 rfl) rfl ?_
    obtain ⟨v1, e2, hf⟩ := bdo_ hf
    refine xx_callVi C (ss_X5t_lacks e2) (dd_X7_office.at 10 rfl) ck_4 rfl sh_k11 kk_X5_lacks ki_X5_lacks lm_RX7_86 (lb_ rfl) rfl rfl (lb_ rfl) ?_
    rcases ifo_ hf with ⟨hc, hf⟩ | ⟨hc, hf⟩
    · refine xx_if_eq_t (tgt := 33) C (dd_X7_office.at 11 rfl) (by decide) hc ?_
      refine xx_aload_n C (dd_X7_office.at 17 rfl) rfl (Nat.le_of_ble_eq_true rfl) ?_
      refine xx_getR (j := 3) (r := 19) C ck_6 (lb_ rfl) lf_RX7_30 sh_k1 rfl (lb_ rfl) rfl (dd_X7_office.at 18 rfl) ?_
      refine xx_aload_n C (dd_X7_office.at 19 rfl) rfl (Nat.le_of_ble_eq_true rfl) ?_
      obtain ⟨g3, hf⟩ := gd_ok hf
      refine xx_getR (j := 8) (r := h.2.2.2.1) C ck_6 (lb_ rfl) lf_RX7_59 sh_k1 rfl (lb_ rfl) rfl (dd_X7_office.at 20 rfl) ?_
      refine xx_aload_n C (dd_X7_office.at 21 rfl) rfl (Nat.le_of_ble_eq_true rfl) ?_
      refine xx_getR (j := 1) (r := 11) C ck_6 (lb_ rfl) lf_RX7_18 sh_k1 rfl (lb_ rfl) rfl (dd_X7_office.at 22 rfl) ?_
      refine xx_getR (j := 0) (r := 12) C ck_4 (lb_ rfl) lf_RX7_79 sh_k11 rfl (lb_ rfl) rfl (dd_X7_office.at 23 rfl) ?_
      refine xx_iload_n C (dd_X7_office.at 24 rfl) rfl ?_
      obtain ⟨g4, hf⟩ := gd_ok hf
      refine xx_aaload (r := (13 + Int32.toNatClampNeg a1)) C (dd_X7_office.at 25 rfl) sh_k12 (bi_ok g4) (sh_lt (sh_e12 (bi_ok g4))) rfl ?_
      refine xx_aload_n C (dd_X7_office.at 26 rfl) rfl (Nat.le_of_ble_eq_true rfl) ?_
      refine xx_getR (j := 1) (r := 11) C ck_6 (lb_ rfl) lf_RX7_18 sh_k1 rfl (lb_ rfl) rfl (dd_X7_office.at 27 rfl) ?_
      refine xx_getR (j := 1) (r := 17) C ck_4 (lb_ rfl) lf_RX7_89 sh_k11 rfl (lb_ rfl) rfl (dd_X7_office.at 28 rfl) ?_
      refine xx_iload_n C (dd_X7_office.at 29 rfl) rfl ?_
      refine xx_iaload C (dd_X7_office.at 30 rfl) sh_k17 (bi_ok g4) ?_
      obtain ⟨v5, e6, hf⟩ := bdo_ hf
      refine xx_callVi C (ss_X4_into (bo_ok g3) (sh_pos (sh_e12 (bi_ok g4))) (pz_ e6)) (dd_X7_office.at 31 rfl) ck_3 rfl sh_k19 kk_X4_into ki_X4_into lm_RX7_106 (lb_ rfl) rfl rfl (lb_ rfl) ?_
      refine xx_bipush C (dd_X7_office.at 32 rfl) bq_m9 ?_
      rcases ifo_ hf with ⟨hc, hf⟩ | ⟨hc, hf⟩
      · refine xx_icmp_eq_t (tgt := 70) C (dd_X7_office.at 33 rfl) (by decide) hc ?_
        refine xx_aload_n C (dd_X7_office.at 36 rfl) rfl (Nat.le_of_ble_eq_true rfl) ?_
        obtain ⟨g7, hf⟩ := gd_ok hf
        refine xx_getR (j := 7) (r := v5.2.2.2.1) C ck_6 (lb_ rfl) lf_RX7_55 sh_k1 rfl (lb_ rfl) rfl (dd_X7_office.at 37 rfl) ?_
        refine xx_astore_n (lv' := [_, _, _, _]) C (dd_X7_office.at 38 rfl) (lb_ rfl) ⟨(isO_pos (bo_ok g7)), (isO_lt (bo_ok g7))⟩ rfl ?_
        refine xx_aload_n C (dd_X7_office.at 39 rfl) rfl (Nat.le_of_ble_eq_true rfl) ?_
        refine xx_aload_n C (dd_X7_office.at 40 rfl) rfl (Nat.le_of_ble_eq_true rfl) ?_
        obtain ⟨g8, hf⟩ := gd_ok hf
        refine xx_getR (j := 8) (r := v5.2.2.2.2.1) C ck_6 (lb_ rfl) lf_RX7_59 sh_k1 rfl (lb_ rfl) rfl (dd_X7_office.at 41 rfl) ?_
        refine xx_putR (j := 7) (h' := (hh_sN v5.2 v5.2.2.2.2.1)) C ck_6 (lb_ rfl) lf_RX7_55 rfl ⟨_, rfl⟩ sh_k1 rfl ⟨(isO_pos (bo_ok g8)), (isO_lt (bo_ok g8))⟩ rfl rfl (hn_N ⟨(isO_pos (bo_ok g8)), (isO_lt (bo_ok g8))⟩) rr_N (dd_X7_office.at 42 rfl) ?_
        refine xx_aload_n C (dd_X7_office.at 43 rfl) rfl (Nat.le_of_ble_eq_true rfl) ?_
        refine xx_aload_n C (dd_X7_office.at 44 rfl) rfl (isO_pos (bo_ok g7)) ?_
        refine xx_putR (j := 8) (h' := (hh_sD (hh_sN v5.2 v5.2.2.2.2.1) v5.2.2.2.1)) C ck_6 (lb_ rfl) lf_RX7_59 rfl ⟨_, rfl⟩ sh_k1 rfl ⟨(isO_pos (bo_ok g7)), (isO_lt (bo_ok g7))⟩ rfl rfl (hn_D ⟨(isO_pos (bo_ok g7)), (isO_lt (bo_ok g7))⟩) rr_D (dd_X7_office.at 45 rfl) ?_
        refine xx_aload_n C (dd_X7_office.at 46 rfl) rfl (Nat.le_of_ble_eq_true rfl) ?_
        refine xx_getR (j := 7) (r := v5.2.2.2.2.1) C ck_6 (lb_ rfl) lf_RX7_55 sh_k1 rfl (lb_ rfl) rfl (dd_X7_office.at 47 rfl) ?_
        refine xx_iconst C (dd_X7_office.at 48 rfl) ic_0 ?_
        obtain ⟨v9, e10, hf⟩ := bdo_ hf
        refine xx_callVv C (ss_X2_goBack (bo_ok g8) e10) (dd_X7_office.at 49 rfl) ck_1 rfl (sh_o (bo_ok g8)) kk_X2_goBack ki_X2_goBack lm_RX7_110 (lb_ rfl) rfl rfl (lb_ rfl) ?_
        refine xx_iconst C (dd_X7_office.at 50 rfl) ic_0 ?_
        refine xx_istore_n (lv' := [_, _, _, _]) C (dd_X7_office.at 51 rfl) (lb_ rfl) rfl ?_
        exact xx_mask [true, false, false, true] (ss_X7_office_98 C Q _ _ _ hf)
      · refine xx_icmp_eq_f (tgt := 70) C (dd_X7_office.at 33 rfl) (by decide) hc ?_
        refine xx_bipush C (dd_X7_office.at 34 rfl) bq_m4 ?_
        exact xx_ireturn C (rt_iwp hf Q) (dd_X7_office.at 35 rfl) rfl
    · refine xx_if_eq_f (tgt := 33) C (dd_X7_office.at 11 rfl) (by decide) hc ?_
      refine xx_aload_n C (dd_X7_office.at 12 rfl) rfl (Nat.le_of_ble_eq_true rfl) ?_
      refine xx_getR (j := 5) (r := 36) C ck_6 (lb_ rfl) lf_RX7_44 sh_k1 rfl (lb_ rfl) rfl (dd_X7_office.at 13 rfl) ?_
      refine xx_iconst C (dd_X7_office.at 14 rfl) ic_1 ?_
      obtain ⟨v13, e14, hf⟩ := bdo_ hf
      refine xx_callVi C (ss_X6_refuse (pz_ e14)) (dd_X7_office.at 15 rfl) ck_5 rfl sh_k36 kk_X6_refuse ki_X6_refuse lm_RX7_67 (lb_ rfl) rfl rfl (lb_ rfl) ?_
      exact xx_ireturn C (rt_iwp hf Q) (dd_X7_office.at 16 rfl) rfl
theorem ss_X2_has {l : Launch} {G : gt_} {o : Nat} {a1 : Int32} {a2 : Int32} {h : hh_} {r9 : Int32} (ho : isO_ o) (hf : ff_X2_has o a1 a2 h = some r9) : ok_ l G 0 mt_X2_has [.ref o, .int a1, .int a2] h (some (.int r9)) h := by
  refine ok_of pn_RX2 (lb_ rfl) (fun Z _ _ C Q => ?_)
  show xx_ Z 0 [some (.ref o), some (.int a1), some (.int a2)] [] h
  unfold ff_X2_has at hf
  refine xx_iload_n C (dd_X2_has.at 0 rfl) rfl ?_
  rcases ifo_ hf with ⟨hc, hf⟩ | ⟨hc, hf⟩
  · refine xx_if_lt_t (tgt := 18) C (dd_X2_has.at 1 rfl) (by decide) hc ?_
    refine xx_iconst C (dd_X2_has.at 10 rfl) ic_0 ?_
    exact xx_zreturn C (rt_ip hf Q) (dd_X2_has.at 11 rfl) rfl zb_0
  · refine xx_if_lt_f (tgt := 18) C (dd_X2_has.at 1 rfl) (by decide) hc ?_
    refine xx_iload_n C (dd_X2_has.at 2 rfl) rfl ?_
    refine xx_aload_n C (dd_X2_has.at 3 rfl) rfl (isO_pos ho) ?_
    refine xx_getR (j := 4) (r := (o + 23)) C ck_1 (lb_ rfl) lf_RX2_25 (sh_o ho) rfl (rc_o4 ho) (rf_o4 ho) (dd_X2_has.at 4 rfl) ?_
    refine xx_iload_n C (dd_X2_has.at 5 rfl) rfl ?_
    obtain ⟨g1, hf⟩ := gd_ok hf
    refine xx_iaload C (dd_X2_has.at 6 rfl) (sh_o23 ho) (bi_ok g1) ?_
    rcases ifo_ hf with ⟨hc, hf⟩ | ⟨hc, hf⟩
    · refine xx_icmp_ge_t (tgt := 18) C (dd_X2_has.at 7 rfl) (by decide) hc ?_
      refine xx_iconst C (dd_X2_has.at 10 rfl) ic_0 ?_
      exact xx_zreturn C (rt_ip hf Q) (dd_X2_has.at 11 rfl) rfl zb_0
    · refine xx_icmp_ge_f (tgt := 18) C (dd_X2_has.at 7 rfl) (by decide) hc ?_
      refine xx_iconst C (dd_X2_has.at 8 rfl) ic_1 ?_
      refine xx_goto (tgt := 19) C (dd_X2_has.at 9 rfl) (by decide) ?_
      exact xx_zreturn C (rt_ip hf Q) (dd_X2_has.at 11 rfl) rfl zb_1
theorem ss_X2_together_4 {Z : zz_} (C : cx_ Z mt_X2_together 0) {r9 : Int32} {x0 : Nat} {x1 : Int32} {h : hh_}  (Q : rq_ Z (some (.int r9)) h) (ho0 : isO_ x0) : ∀ (n9 : Nat) (x2 : Int32) (x3 : Int32), ff_X2_together_4 x0 x1 h n9 x2 x3 = some r9 → xx_ Z 4 [some (.ref x0), some (.int x1), some (.int x2), some (.int x3)] [] h := by
  intro n9
  induction n9 with
  | zero =>
    intro x2 x3 hf
    exact absurd hf (by rw [ff_X2_together_4]; exact nofun)
  | succ n9 ih =>
    intro x2 x3 hf
    rw [ff_X2_together_4] at hf
    refine xx_iload_n C (dd_X2_together.at 4 rfl) rfl ?_
    refine xx_iconst C (dd_X2_together.at 5 rfl) ic_4 ?_
    rcases ifo_ hf with ⟨hc, hf⟩ | ⟨hc, hf⟩
    · refine xx_icmp_ge_t (tgt := 26) C (dd_X2_together.at 6 rfl) (by decide) hc ?_
      refine xx_iload_n C (dd_X2_together.at 18 rfl) rfl ?_
      exact xx_ireturn C (rt_ip hf Q) (dd_X2_together.at 19 rfl) rfl
    · refine xx_icmp_ge_f (tgt := 26) C (dd_X2_together.at 6 rfl) (by decide) hc ?_
      refine xx_iload_n C (dd_X2_together.at 7 rfl) rfl ?_
      refine xx_aload_n C (dd_X2_together.at 8 rfl) rfl (isO_pos ho0) ?_
      refine xx_getR (j := 1) (r := (x0 + 7)) C ck_1 (lb_ rfl) lf_RX2_16 (sh_o ho0) rfl (rc_o1 ho0) (rf_o1 ho0) (dd_X2_together.at 9 rfl) ?_
      refine xx_iload_n C (dd_X2_together.at 10 rfl) rfl ?_
      obtain ⟨g1, hf⟩ := gd_ok hf
      refine xx_aaload (r := (x0 + 8 + Int32.toNatClampNeg x1)) C (dd_X2_together.at 11 rfl) (sh_o7 ho0) (bi_ok g1) (sh_lt (sh_oe7 ho0 (bi_ok g1))) rfl ?_
      refine xx_iload_n C (dd_X2_together.at 12 rfl) rfl ?_
      obtain ⟨g2, hf⟩ := gd_ok hf
      refine xx_iaload C (dd_X2_together.at 13 rfl) (sh_oe7 ho0 (bi_ok g1)) (bi_ok g2) ?_
      refine xx_iadd C (dd_X2_together.at 14 rfl) ?_
      refine xx_istore_n (lv' := [_, _, _, _]) C (dd_X2_together.at 15 rfl) (lb_ rfl) rfl ?_
      refine xx_iinc (v := _ + (1 : Int32)) (lv' := [_, _, _, _]) C (dd_X2_together.at 16 rfl) (lb_ rfl) rfl (by rw [ic_1]) rfl ?_
      refine xx_goto (tgt := 4) C (dd_X2_together.at 17 rfl) (by decide) ?_
      exact xx_mask [true, true, true, true] (ih _ _ hf)
theorem ss_X2_together {l : Launch} {G : gt_} {o : Nat} {a1 : Int32} {h : hh_} {r9 : Int32} (ho : isO_ o) (hf : ff_X2_together o a1 h = some r9) : ok_ l G 0 mt_X2_together [.ref o, .int a1] h (some (.int r9)) h := by
  refine ok_of pn_RX2 (lb_ rfl) (fun Z _ _ C Q => ?_)
  show xx_ Z 0 [some (.ref o), some (.int a1), none, none] [] h
  unfold ff_X2_together at hf
  refine xx_iconst C (dd_X2_together.at 0 rfl) ic_0 ?_
  refine xx_istore_n (lv' := [_, _, _, _]) C (dd_X2_together.at 1 rfl) (lb_ rfl) rfl ?_
  refine xx_iconst C (dd_X2_together.at 2 rfl) ic_0 ?_
  refine xx_istore_n (lv' := [_, _, _, _]) C (dd_X2_together.at 3 rfl) (lb_ rfl) rfl ?_
  exact xx_mask [true, true, true, true] (ss_X2_together_4 C Q ho _ _ _ hf)
theorem ss_X2_ofHead {l : Launch} {G : gt_} {o : Nat} {a1 : Int32} {a2 : Int32} {h : hh_} {r9 : Int32} (ho : isO_ o) (hf : ff_X2_ofHead o a1 a2 h = some r9) : ok_ l G 1 mt_X2_ofHead [.ref o, .int a1, .int a2] h (some (.int r9)) h := by
  refine ok_of pn_RX2 (lb_ rfl) (fun Z _ _ C Q => ?_)
  show xx_ Z 0 [some (.ref o), some (.int a1), some (.int a2)] [] h
  unfold ff_X2_ofHead at hf
  refine xx_iload_n C (dd_X2_ofHead.at 0 rfl) rfl ?_
  refine xx_iconst C (dd_X2_ofHead.at 1 rfl) ic_5 ?_
  rcases ifo_ hf with ⟨hc, hf⟩ | ⟨hc, hf⟩
  · refine xx_icmp_ne_f (tgt := 13) C (dd_X2_ofHead.at 2 rfl) (by decide) (not_not_intro hc) ?_
    refine xx_aload_n C (dd_X2_ofHead.at 3 rfl) rfl (isO_pos ho) ?_
    refine xx_iload_n C (dd_X2_ofHead.at 4 rfl) rfl ?_
    obtain ⟨v3, e4, hf⟩ := bdo_ hf
    refine xx_callVi C (ss_X2_together ho e4) (dd_X2_ofHead.at 5 rfl) ck_1 rfl (sh_o ho) kk_X2_together ki_X2_together lm_RX2_32 (lb_ rfl) rfl rfl (lb_ rfl) ?_
    refine xx_goto (tgt := 21) C (dd_X2_ofHead.at 6 rfl) (by decide) ?_
    exact xx_ireturn C (rt_ip hf Q) (dd_X2_ofHead.at 13 rfl) rfl
  · refine xx_icmp_ne_t (tgt := 13) C (dd_X2_ofHead.at 2 rfl) (by decide) hc ?_
    refine xx_aload_n C (dd_X2_ofHead.at 7 rfl) rfl (isO_pos ho) ?_
    refine xx_getR (j := 1) (r := (o + 7)) C ck_1 (lb_ rfl) lf_RX2_16 (sh_o ho) rfl (rc_o1 ho) (rf_o1 ho) (dd_X2_ofHead.at 8 rfl) ?_
    refine xx_iload_n C (dd_X2_ofHead.at 9 rfl) rfl ?_
    obtain ⟨g1, hf⟩ := gd_ok hf
    refine xx_aaload (r := (o + 8 + Int32.toNatClampNeg a1)) C (dd_X2_ofHead.at 10 rfl) (sh_o7 ho) (bi_ok g1) (sh_lt (sh_oe7 ho (bi_ok g1))) rfl ?_
    refine xx_iload_n C (dd_X2_ofHead.at 11 rfl) rfl ?_
    obtain ⟨g2, hf⟩ := gd_ok hf
    refine xx_iaload C (dd_X2_ofHead.at 12 rfl) (sh_oe7 ho (bi_ok g1)) (bi_ok g2) ?_
    exact xx_ireturn C (rt_ip hf Q) (dd_X2_ofHead.at 13 rfl) rfl
theorem ss_X7_head {l : Launch} {G : gt_} {a1 : Int32} {a2 : Int32} {h : hh_} {r9 : Int32} {h9 : hh_}  (hf : ff_X7_head a1 a2 h = some (r9, h9)) : ok_ l G 2 mt_X7_head [.ref 1, .int a1, .int a2] h (some (.int r9)) h9 := by
  refine ok_of pn_RX7 (lb_ rfl) (fun Z _ _ C Q => ?_)
  show xx_ Z 0 [some (.ref 1), some (.int a1), some (.int a2)] [] h
  unfold ff_X7_head at hf
  refine xx_aload_n C (dd_X7_head.at 0 rfl) rfl (Nat.le_of_ble_eq_true rfl) ?_
  obtain ⟨g1, hf⟩ := gd_ok hf
  refine xx_getR (j := 7) (r := h.2.2.1) C ck_6 (lb_ rfl) lf_RX7_55 sh_k1 rfl (lb_ rfl) rfl (dd_X7_head.at 1 rfl) ?_
  refine xx_iconst C (dd_X7_head.at 2 rfl) ic_0 ?_
  refine xx_iload_n C (dd_X7_head.at 3 rfl) rfl ?_
  obtain ⟨v2, e3, hf⟩ := bdo_ hf
  refine xx_callVi C (ss_X2_has (bo_ok g1) e3) (dd_X7_head.at 4 rfl) ck_1 rfl (sh_o (bo_ok g1)) kk_X2_has ki_X2_has lm_RX7_119 (lb_ rfl) rfl rfl (lb_ rfl) ?_
  rcases ifo_ hf with ⟨hc, hf⟩ | ⟨hc, hf⟩
  · refine xx_if_eq_t (tgt := 21) C (dd_X7_head.at 5 rfl) (by decide) hc ?_
    refine xx_iconst C (dd_X7_head.at 11 rfl) ic_m1 ?_
    exact xx_ireturn C (rt_iwp hf Q) (dd_X7_head.at 12 rfl) rfl
  · refine xx_if_eq_f (tgt := 21) C (dd_X7_head.at 5 rfl) (by decide) hc ?_
    refine xx_iload_n C (dd_X7_head.at 6 rfl) rfl ?_
    rcases ifo_ hf with ⟨hc, hf⟩ | ⟨hc, hf⟩
    · refine xx_if_lt_t (tgt := 21) C (dd_X7_head.at 7 rfl) (by decide) hc ?_
      refine xx_iconst C (dd_X7_head.at 11 rfl) ic_m1 ?_
      exact xx_ireturn C (rt_iwp hf Q) (dd_X7_head.at 12 rfl) rfl
    · refine xx_if_lt_f (tgt := 21) C (dd_X7_head.at 7 rfl) (by decide) hc ?_
      refine xx_iload_n C (dd_X7_head.at 8 rfl) rfl ?_
      refine xx_iconst C (dd_X7_head.at 9 rfl) ic_5 ?_
      rcases ifo_ hf with ⟨hc, hf⟩ | ⟨hc, hf⟩
      · refine xx_icmp_le_t (tgt := 23) C (dd_X7_head.at 10 rfl) (by decide) hc ?_
        refine xx_aload_n C (dd_X7_head.at 13 rfl) rfl (Nat.le_of_ble_eq_true rfl) ?_
        refine xx_getR (j := 5) (r := 36) C ck_6 (lb_ rfl) lf_RX7_44 sh_k1 rfl (lb_ rfl) rfl (dd_X7_head.at 14 rfl) ?_
        refine xx_aload_n C (dd_X7_head.at 15 rfl) rfl (Nat.le_of_ble_eq_true rfl) ?_
        refine xx_getR (j := 7) (r := h.2.2.1) C ck_6 (lb_ rfl) lf_RX7_55 sh_k1 rfl (lb_ rfl) rfl (dd_X7_head.at 16 rfl) ?_
        refine xx_iload_n C (dd_X7_head.at 17 rfl) rfl ?_
        refine xx_iload_n C (dd_X7_head.at 18 rfl) rfl ?_
        obtain ⟨v4, e5, hf⟩ := bdo_ hf
        refine xx_callVi C (ss_X2_ofHead (bo_ok g1) e5) (dd_X7_head.at 19 rfl) ck_1 rfl (sh_o (bo_ok g1)) kk_X2_ofHead ki_X2_ofHead lm_RX7_123 (lb_ rfl) rfl rfl (lb_ rfl) ?_
        refine xx_callVi C (ss_X6_tell pe_) (dd_X7_head.at 20 rfl) ck_5 rfl sh_k36 kk_X6_tell ki_X6_tell lm_RX7_83 (lb_ rfl) rfl rfl (lb_ rfl) ?_
        exact xx_ireturn C (rt_iwp hf Q) (dd_X7_head.at 21 rfl) rfl
      · refine xx_icmp_le_f (tgt := 23) C (dd_X7_head.at 10 rfl) (by decide) hc ?_
        refine xx_iconst C (dd_X7_head.at 11 rfl) ic_m1 ?_
        exact xx_ireturn C (rt_iwp hf Q) (dd_X7_head.at 12 rfl) rfl
theorem ss_X7_thumb {l : Launch} {G : gt_} {a1 : Int32} {a2 : Int32} {h : hh_} {r9 : Int32} {h9 : hh_}  (hf : ff_X7_thumb a1 a2 h = some (r9, h9)) : ok_ l G 1 mt_X7_thumb [.ref 1, .int a1, .int a2] h (some (.int r9)) h9 := by
  refine ok_of pn_RX7 (lb_ rfl) (fun Z _ _ C Q => ?_)
  show xx_ Z 0 [some (.ref 1), some (.int a1), some (.int a2)] [] h
  unfold ff_X7_thumb at hf
  refine xx_aload_n C (dd_X7_thumb.at 0 rfl) rfl (Nat.le_of_ble_eq_true rfl) ?_
  obtain ⟨g1, hf⟩ := gd_ok hf
  refine xx_getR (j := 7) (r := h.2.2.1) C ck_6 (lb_ rfl) lf_RX7_55 sh_k1 rfl (lb_ rfl) rfl (dd_X7_thumb.at 1 rfl) ?_
  refine xx_iconst C (dd_X7_thumb.at 2 rfl) ic_1 ?_
  refine xx_iload_n C (dd_X7_thumb.at 3 rfl) rfl ?_
  obtain ⟨v2, e3, hf⟩ := bdo_ hf
  refine xx_callVi C (ss_X2_has (bo_ok g1) e3) (dd_X7_thumb.at 4 rfl) ck_1 rfl (sh_o (bo_ok g1)) kk_X2_has ki_X2_has lm_RX7_119 (lb_ rfl) rfl rfl (lb_ rfl) ?_
  rcases ifo_ hf with ⟨hc, hf⟩ | ⟨hc, hf⟩
  · refine xx_if_eq_t (tgt := 21) C (dd_X7_thumb.at 5 rfl) (by decide) hc ?_
    refine xx_iconst C (dd_X7_thumb.at 11 rfl) ic_m1 ?_
    exact xx_ireturn C (rt_iwp hf Q) (dd_X7_thumb.at 12 rfl) rfl
  · refine xx_if_eq_f (tgt := 21) C (dd_X7_thumb.at 5 rfl) (by decide) hc ?_
    refine xx_iload_n C (dd_X7_thumb.at 6 rfl) rfl ?_
    rcases ifo_ hf with ⟨hc, hf⟩ | ⟨hc, hf⟩
    · refine xx_if_lt_t (tgt := 21) C (dd_X7_thumb.at 7 rfl) (by decide) hc ?_
      refine xx_iconst C (dd_X7_thumb.at 11 rfl) ic_m1 ?_
      exact xx_ireturn C (rt_iwp hf Q) (dd_X7_thumb.at 12 rfl) rfl
    · refine xx_if_lt_f (tgt := 21) C (dd_X7_thumb.at 7 rfl) (by decide) hc ?_
      refine xx_iload_n C (dd_X7_thumb.at 8 rfl) rfl ?_
      refine xx_iconst C (dd_X7_thumb.at 9 rfl) ic_2 ?_
      rcases ifo_ hf with ⟨hc, hf⟩ | ⟨hc, hf⟩
      · refine xx_icmp_le_t (tgt := 23) C (dd_X7_thumb.at 10 rfl) (by decide) hc ?_
        refine xx_aload_n C (dd_X7_thumb.at 13 rfl) rfl (Nat.le_of_ble_eq_true rfl) ?_
        refine xx_getR (j := 5) (r := 36) C ck_6 (lb_ rfl) lf_RX7_44 sh_k1 rfl (lb_ rfl) rfl (dd_X7_thumb.at 14 rfl) ?_
        refine xx_aload_n C (dd_X7_thumb.at 15 rfl) rfl (Nat.le_of_ble_eq_true rfl) ?_
        refine xx_getR (j := 7) (r := h.2.2.1) C ck_6 (lb_ rfl) lf_RX7_55 sh_k1 rfl (lb_ rfl) rfl (dd_X7_thumb.at 16 rfl) ?_
        refine xx_getR (j := 2) (r := (h.2.2.1 + 13)) C ck_1 (lb_ rfl) lf_RX7_126 (sh_o (bo_ok g1)) rfl (rc_o2 (bo_ok g1)) (rf_o2 (bo_ok g1)) (dd_X7_thumb.at 17 rfl) ?_
        refine xx_iload_n C (dd_X7_thumb.at 18 rfl) rfl ?_
        obtain ⟨g4, hf⟩ := gd_ok hf
        refine xx_aaload (r := (h.2.2.1 + 14 + Int32.toNatClampNeg a1)) C (dd_X7_thumb.at 19 rfl) (sh_o13 (bo_ok g1)) (bi_ok g4) (sh_lt (sh_oe13 (bo_ok g1) (bi_ok g4))) rfl ?_
        refine xx_iload_n C (dd_X7_thumb.at 20 rfl) rfl ?_
        obtain ⟨g5, hf⟩ := gd_ok hf
        refine xx_iaload C (dd_X7_thumb.at 21 rfl) (sh_oe13 (bo_ok g1) (bi_ok g4)) (bi_ok g5) ?_
        refine xx_callVi C (ss_X6_tell pe_) (dd_X7_thumb.at 22 rfl) ck_5 rfl sh_k36 kk_X6_tell ki_X6_tell lm_RX7_83 (lb_ rfl) rfl rfl (lb_ rfl) ?_
        exact xx_ireturn C (rt_iwp hf Q) (dd_X7_thumb.at 23 rfl) rfl
      · refine xx_icmp_le_f (tgt := 23) C (dd_X7_thumb.at 10 rfl) (by decide) hc ?_
        refine xx_iconst C (dd_X7_thumb.at 11 rfl) ic_m1 ?_
        exact xx_ireturn C (rt_iwp hf Q) (dd_X7_thumb.at 12 rfl) rfl
theorem ss_X7_post {l : Launch} {G : gt_} {a1 : Int32} {a2 : Int32} {h : hh_} {r9 : Int32} {h9 : hh_}  (hf : ff_X7_post a1 a2 h = some (r9, h9)) : ok_ l G 1 mt_X7_post [.ref 1, .int a1, .int a2] h (some (.int r9)) h9 := by
  refine ok_of pn_RX7 (lb_ rfl) (fun Z _ _ C Q => ?_)
  show xx_ Z 0 [some (.ref 1), some (.int a1), some (.int a2)] [] h
  unfold ff_X7_post at hf
  refine xx_aload_n C (dd_X7_post.at 0 rfl) rfl (Nat.le_of_ble_eq_true rfl) ?_
  obtain ⟨g1, hf⟩ := gd_ok hf
  refine xx_getR (j := 7) (r := h.2.2.1) C ck_6 (lb_ rfl) lf_RX7_55 sh_k1 rfl (lb_ rfl) rfl (dd_X7_post.at 1 rfl) ?_
  refine xx_iconst C (dd_X7_post.at 2 rfl) ic_2 ?_
  refine xx_iload_n C (dd_X7_post.at 3 rfl) rfl ?_
  obtain ⟨v2, e3, hf⟩ := bdo_ hf
  refine xx_callVi C (ss_X2_has (bo_ok g1) e3) (dd_X7_post.at 4 rfl) ck_1 rfl (sh_o (bo_ok g1)) kk_X2_has ki_X2_has lm_RX7_119 (lb_ rfl) rfl rfl (lb_ rfl) ?_
  rcases ifo_ hf with ⟨hc, hf⟩ | ⟨hc, hf⟩
  · refine xx_if_eq_t (tgt := 21) C (dd_X7_post.at 5 rfl) (by decide) hc ?_
    refine xx_iconst C (dd_X7_post.at 11 rfl) ic_m1 ?_
    exact xx_ireturn C (rt_iwp hf Q) (dd_X7_post.at 12 rfl) rfl
  · refine xx_if_eq_f (tgt := 21) C (dd_X7_post.at 5 rfl) (by decide) hc ?_
    refine xx_iload_n C (dd_X7_post.at 6 rfl) rfl ?_
    rcases ifo_ hf with ⟨hc, hf⟩ | ⟨hc, hf⟩
    · refine xx_if_lt_t (tgt := 21) C (dd_X7_post.at 7 rfl) (by decide) hc ?_
      refine xx_iconst C (dd_X7_post.at 11 rfl) ic_m1 ?_
      exact xx_ireturn C (rt_iwp hf Q) (dd_X7_post.at 12 rfl) rfl
    · refine xx_if_lt_f (tgt := 21) C (dd_X7_post.at 7 rfl) (by decide) hc ?_
      refine xx_iload_n C (dd_X7_post.at 8 rfl) rfl ?_
      refine xx_iconst C (dd_X7_post.at 9 rfl) ic_4 ?_
      rcases ifo_ hf with ⟨hc, hf⟩ | ⟨hc, hf⟩
      · refine xx_icmp_le_t (tgt := 23) C (dd_X7_post.at 10 rfl) (by decide) hc ?_
        refine xx_aload_n C (dd_X7_post.at 13 rfl) rfl (Nat.le_of_ble_eq_true rfl) ?_
        refine xx_getR (j := 5) (r := 36) C ck_6 (lb_ rfl) lf_RX7_44 sh_k1 rfl (lb_ rfl) rfl (dd_X7_post.at 14 rfl) ?_
        refine xx_aload_n C (dd_X7_post.at 15 rfl) rfl (Nat.le_of_ble_eq_true rfl) ?_
        refine xx_getR (j := 7) (r := h.2.2.1) C ck_6 (lb_ rfl) lf_RX7_55 sh_k1 rfl (lb_ rfl) rfl (dd_X7_post.at 16 rfl) ?_
        refine xx_getR (j := 3) (r := (h.2.2.1 + 18)) C ck_1 (lb_ rfl) lf_RX7_129 (sh_o (bo_ok g1)) rfl (rc_o3 (bo_ok g1)) (rf_o3 (bo_ok g1)) (dd_X7_post.at 17 rfl) ?_
        refine xx_iload_n C (dd_X7_post.at 18 rfl) rfl ?_
        obtain ⟨g4, hf⟩ := gd_ok hf
        refine xx_aaload (r := (h.2.2.1 + 19 + Int32.toNatClampNeg a1)) C (dd_X7_post.at 19 rfl) (sh_o18 (bo_ok g1)) (bi_ok g4) (sh_lt (sh_oe18 (bo_ok g1) (bi_ok g4))) rfl ?_
        refine xx_iload_n C (dd_X7_post.at 20 rfl) rfl ?_
        obtain ⟨g5, hf⟩ := gd_ok hf
        refine xx_iaload C (dd_X7_post.at 21 rfl) (sh_oe18 (bo_ok g1) (bi_ok g4)) (bi_ok g5) ?_
        refine xx_callVi C (ss_X6_tell pe_) (dd_X7_post.at 22 rfl) ck_5 rfl sh_k36 kk_X6_tell ki_X6_tell lm_RX7_83 (lb_ rfl) rfl rfl (lb_ rfl) ?_
        exact xx_ireturn C (rt_iwp hf Q) (dd_X7_post.at 23 rfl) rfl
      · refine xx_icmp_le_f (tgt := 23) C (dd_X7_post.at 10 rfl) (by decide) hc ?_
        refine xx_iconst C (dd_X7_post.at 11 rfl) ic_m1 ?_
        exact xx_ireturn C (rt_iwp hf Q) (dd_X7_post.at 12 rfl) rfl
