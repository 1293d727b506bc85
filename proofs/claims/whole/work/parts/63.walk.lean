theorem ss_X7_cut {l : Launch} {G : gt_} {a1 : Int32} {a2 : Int32} {h : hh_} {r9 : Int32} {h9 : hh_}  (hf : ff_X7_cut a1 a2 h = some (r9, h9)) : ok_ l G 3 mt_X7_cut [.ref 1, .int a1, .int a2] h (some (.int r9)) h9 := by
  refine ok_of pn_RX7 (lb_ rfl) (fun Z _ _ C Q => ?_)
  show xx_ Z 0 [some (.ref 1), some (.int a1), some (.int a2), none] [] h
  unfold ff_X7_cut at hf
  refine xx_aload_n C (dd_X7_cut.at 0 rfl) rfl (Nat.le_of_ble_eq_true rfl) ?_
  obtain ⟨g1, hf⟩ := gd_ok hf
  refine xx_getR (j := 7) (r := h.2.2.1) C ck_6 (lb_ rfl) lf_RX7_55 sh_k1 rfl (lb_ rfl) rfl (dd_X7_cut.at 1 rfl) ?_
  refine xx_iconst C (dd_X7_cut.at 2 rfl) ic_0 ?_
  refine xx_iload_n C (dd_X7_cut.at 3 rfl) rfl ?_
  obtain ⟨v2, e3, hf⟩ := bdo_ hf
  refine xx_callVi C (ss_X2_has (bo_ok g1) e3) (dd_X7_cut.at 4 rfl) ck_1 rfl (sh_o (bo_ok g1)) kk_X2_has ki_X2_has lm_RX7_119 (lb_ rfl) rfl rfl (lb_ rfl) ?_
  rcases ifo_ hf with ⟨hc, hf⟩ | ⟨hc, hf⟩
  · refine xx_if_eq_t (tgt := 21) C (dd_X7_cut.at 5 rfl) (by decide) hc ?_
    refine xx_iconst C (dd_X7_cut.at 11 rfl) ic_m1 ?_
    exact xx_ireturn C (rt_iwp hf Q) (dd_X7_cut.at 12 rfl) rfl
  · refine xx_if_eq_f (tgt := 21) C (dd_X7_cut.at 5 rfl) (by decide) hc ?_
    refine xx_iload_n C (dd_X7_cut.at 6 rfl) rfl ?_
    rcases ifo_ hf with ⟨hc, hf⟩ | ⟨hc, hf⟩
    · refine xx_if_lt_t (tgt := 21) C (dd_X7_cut.at 7 rfl) (by decide) hc ?_
      refine xx_iconst C (dd_X7_cut.at 11 rfl) ic_m1 ?_
      exact xx_ireturn C (rt_iwp hf Q) (dd_X7_cut.at 12 rfl) rfl
    · refine xx_if_lt_f (tgt := 21) C (dd_X7_cut.at 7 rfl) (by decide) hc ?_
      refine xx_iload_n C (dd_X7_cut.at 8 rfl) rfl ?_
      refine xx_iconst C (dd_X7_cut.at 9 rfl) ic_2 ?_
      rcases ifo_ hf with ⟨hc, hf⟩ | ⟨hc, hf⟩
      · refine xx_icmp_le_t (tgt := 23) C (dd_X7_cut.at 10 rfl) (by decide) hc ?_
        refine xx_aload_n C (dd_X7_cut.at 13 rfl) rfl (Nat.le_of_ble_eq_true rfl) ?_
        refine xx_getR (j := 7) (r := h.2.2.1) C ck_6 (lb_ rfl) lf_RX7_55 sh_k1 rfl (lb_ rfl) rfl (dd_X7_cut.at 14 rfl) ?_
        refine xx_getR (j := 1) (r := (h.2.2.1 + 7)) C ck_1 (lb_ rfl) lf_RX7_157 (sh_o (bo_ok g1)) rfl (rc_o1 (bo_ok g1)) (rf_o1 (bo_ok g1)) (dd_X7_cut.at 15 rfl) ?_
        refine xx_iload_n C (dd_X7_cut.at 16 rfl) rfl ?_
        obtain ⟨g4, hf⟩ := gd_ok hf
        refine xx_aaload (r := (h.2.2.1 + 8 + Int32.toNatClampNeg a1)) C (dd_X7_cut.at 17 rfl) (sh_o7 (bo_ok g1)) (bi_ok g4) (sh_lt (sh_oe7 (bo_ok g1) (bi_ok g4))) rfl ?_
        refine xx_iconst C (dd_X7_cut.at 18 rfl) ic_4 ?_
        refine xx_iaload C (dd_X7_cut.at 19 rfl) (sh_oe7 (bo_ok g1) (bi_ok g4)) (bi_ok (i := (4 : Int32)) (n := 5) rfl) ?_
        refine xx_istore_n (lv' := [_, _, _, _]) C (dd_X7_cut.at 20 rfl) (lb_ rfl) rfl ?_
        refine xx_iload_n C (dd_X7_cut.at 21 rfl) rfl ?_
        refine xx_iload_n C (dd_X7_cut.at 22 rfl) rfl ?_
        rcases ifo_ hf with ⟨hc, hf⟩ | ⟨hc, hf⟩
        · refine xx_icmp_gt_t (tgt := 43) C (dd_X7_cut.at 23 rfl) (by decide) hc ?_
          refine xx_aload_n C (dd_X7_cut.at 26 rfl) rfl (Nat.le_of_ble_eq_true rfl) ?_
          refine xx_getR (j := 7) (r := h.2.2.1) C ck_6 (lb_ rfl) lf_RX7_55 sh_k1 rfl (lb_ rfl) rfl (dd_X7_cut.at 27 rfl) ?_
          refine xx_getI (j := 6) C ck_1 (lb_ rfl) lf_RX7_160 (sh_o (bo_ok g1)) rfl (dd_X7_cut.at 28 rfl) ?_
          refine xx_bipush C (dd_X7_cut.at 29 rfl) bq_40 ?_
          rcases ifo_ hf with ⟨hc, hf⟩ | ⟨hc, hf⟩
          · refine xx_icmp_lt_t (tgt := 58) C (dd_X7_cut.at 30 rfl) (by decide) hc ?_
            refine xx_aload_n C (dd_X7_cut.at 33 rfl) rfl (Nat.le_of_ble_eq_true rfl) ?_
            refine xx_getR (j := 7) (r := h.2.2.1) C ck_6 (lb_ rfl) lf_RX7_55 sh_k1 rfl (lb_ rfl) rfl (dd_X7_cut.at 34 rfl) ?_
            refine xx_iload_n C (dd_X7_cut.at 35 rfl) rfl ?_
            refine xx_iconst C (dd_X7_cut.at 36 rfl) ic_5 ?_
            refine xx_iload_n C (dd_X7_cut.at 37 rfl) rfl ?_
            refine xx_iadd C (dd_X7_cut.at 38 rfl) ?_
            obtain ⟨v5, e6, hf⟩ := bdo_ hf
            refine xx_callVv C (ss_X2_act (bo_ok g1) e6) (dd_X7_cut.at 39 rfl) ck_1 rfl (sh_o (bo_ok g1)) kk_X2_act ki_X2_act lm_RX7_161 (lb_ rfl) rfl rfl (lb_ rfl) ?_
            refine xx_iload_n C (dd_X7_cut.at 40 rfl) rfl ?_
            exact xx_ireturn C (rt_iwp hf Q) (dd_X7_cut.at 41 rfl) rfl
          · refine xx_icmp_lt_f (tgt := 58) C (dd_X7_cut.at 30 rfl) (by decide) hc ?_
            refine xx_bipush C (dd_X7_cut.at 31 rfl) bq_m2 ?_
            exact xx_ireturn C (rt_iwp hf Q) (dd_X7_cut.at 32 rfl) rfl
        · refine xx_icmp_gt_f (tgt := 43) C (dd_X7_cut.at 23 rfl) (by decide) hc ?_
          refine xx_bipush C (dd_X7_cut.at 24 rfl) bq_m4 ?_
          exact xx_ireturn C (rt_iwp hf Q) (dd_X7_cut.at 25 rfl) rfl
      · refine xx_icmp_le_f (tgt := 23) C (dd_X7_cut.at 10 rfl) (by decide) hc ?_
        refine xx_iconst C (dd_X7_cut.at 11 rfl) ic_m1 ?_
        exact xx_ireturn C (rt_iwp hf Q) (dd_X7_cut.at 12 rfl) rfl
theorem ss_X7_undo {l : Launch} {G : gt_} {a1 : Int32} {h : hh_} {r9 : Int32} {h9 : hh_}  (hf : ff_X7_undo a1 h = some (r9, h9)) : ok_ l G 3 mt_X7_undo [.ref 1, .int a1] h (some (.int r9)) h9 := by
  refine ok_of pn_RX7 (lb_ rfl) (fun Z _ _ C Q => ?_)
  show xx_ Z 0 [some (.ref 1), some (.int a1), none] [] h
  unfold ff_X7_undo at hf
  refine xx_iload_n C (dd_X7_undo.at 0 rfl) rfl ?_
  rcases ifo_ hf with ⟨hc, hf⟩ | ⟨hc, hf⟩
  · refine xx_if_lt_t (tgt := 15) C (dd_X7_undo.at 1 rfl) (by decide) hc ?_
    refine xx_iconst C (dd_X7_undo.at 7 rfl) ic_m1 ?_
    exact xx_ireturn C (rt_iwp hf Q) (dd_X7_undo.at 8 rfl) rfl
  · refine xx_if_lt_f (tgt := 15) C (dd_X7_undo.at 1 rfl) (by decide) hc ?_
    refine xx_iload_n C (dd_X7_undo.at 2 rfl) rfl ?_
    refine xx_aload_n C (dd_X7_undo.at 3 rfl) rfl (Nat.le_of_ble_eq_true rfl) ?_
    obtain ⟨g1, hf⟩ := gd_ok hf
    refine xx_getR (j := 7) (r := h.2.2.1) C ck_6 (lb_ rfl) lf_RX7_55 sh_k1 rfl (lb_ rfl) rfl (dd_X7_undo.at 4 rfl) ?_
    refine xx_getI (j := 6) C ck_1 (lb_ rfl) lf_RX7_160 (sh_o (bo_ok g1)) rfl (dd_X7_undo.at 5 rfl) ?_
    rcases ifo_ hf with ⟨hc, hf⟩ | ⟨hc, hf⟩
    · refine xx_icmp_le_t (tgt := 17) C (dd_X7_undo.at 6 rfl) (by decide) hc ?_
      refine xx_aload_n C (dd_X7_undo.at 9 rfl) rfl (Nat.le_of_ble_eq_true rfl) ?_
      refine xx_getR (j := 7) (r := h.2.2.1) C ck_6 (lb_ rfl) lf_RX7_55 sh_k1 rfl (lb_ rfl) rfl (dd_X7_undo.at 10 rfl) ?_
      refine xx_getI (j := 6) C ck_1 (lb_ rfl) lf_RX7_160 (sh_o (bo_ok g1)) rfl (dd_X7_undo.at 11 rfl) ?_
      refine xx_iload_n C (dd_X7_undo.at 12 rfl) rfl ?_
      refine xx_isub C (dd_X7_undo.at 13 rfl) ?_
      refine xx_istore_n (lv' := [_, _, _]) C (dd_X7_undo.at 14 rfl) (lb_ rfl) rfl ?_
      refine xx_aload_n C (dd_X7_undo.at 15 rfl) rfl (Nat.le_of_ble_eq_true rfl) ?_
      refine xx_getR (j := 7) (r := h.2.2.1) C ck_6 (lb_ rfl) lf_RX7_55 sh_k1 rfl (lb_ rfl) rfl (dd_X7_undo.at 16 rfl) ?_
      refine xx_iload_n C (dd_X7_undo.at 17 rfl) rfl ?_
      obtain ⟨v2, e3, hf⟩ := bdo_ hf
      refine xx_callVv C (ss_X2_goBack (bo_ok g1) e3) (dd_X7_undo.at 18 rfl) ck_1 rfl (sh_o (bo_ok g1)) kk_X2_goBack ki_X2_goBack lm_RX7_110 (lb_ rfl) rfl rfl (lb_ rfl) ?_
      refine xx_iload_n C (dd_X7_undo.at 19 rfl) rfl ?_
      exact xx_ireturn C (rt_iwp hf Q) (dd_X7_undo.at 20 rfl) rfl
    · refine xx_icmp_le_f (tgt := 17) C (dd_X7_undo.at 6 rfl) (by decide) hc ?_
      refine xx_iconst C (dd_X7_undo.at 7 rfl) ic_m1 ?_
      exact xx_ireturn C (rt_iwp hf Q) (dd_X7_undo.at 8 rfl) rfl
theorem ss_X7_isKeptPlace {l : Launch} {G : gt_} {a0 : Int32} {h : hh_} {r9 : Int32}  (hf : ff_X7_isKeptPlace a0 = r9) : ok_ l G 0 mt_X7_isKeptPlace [.int a0] h (some (.int r9)) h := by
  refine ok_of pn_RX7 (lb_ rfl) (fun Z _ _ C Q => ?_)
  show xx_ Z 0 [some (.int a0)] [] h
  unfold ff_X7_isKeptPlace at hf
  refine xx_iload_n C (dd_X7_isKeptPlace.at 0 rfl) rfl ?_
  rcases ifo_ hf with ⟨hc, hf⟩ | ⟨hc, hf⟩
  · refine xx_if_lt_t (tgt := 13) C (dd_X7_isKeptPlace.at 1 rfl) (by decide) hc ?_
    refine xx_iconst C (dd_X7_isKeptPlace.at 7 rfl) ic_0 ?_
    exact xx_zreturn C (rt_i hf Q) (dd_X7_isKeptPlace.at 8 rfl) rfl zb_0
  · refine xx_if_lt_f (tgt := 13) C (dd_X7_isKeptPlace.at 1 rfl) (by decide) hc ?_
    refine xx_iload_n C (dd_X7_isKeptPlace.at 2 rfl) rfl ?_
    refine xx_iconst C (dd_X7_isKeptPlace.at 3 rfl) ic_3 ?_
    rcases ifo_ hf with ⟨hc, hf⟩ | ⟨hc, hf⟩
    · refine xx_icmp_ge_t (tgt := 13) C (dd_X7_isKeptPlace.at 4 rfl) (by decide) hc ?_
      refine xx_iconst C (dd_X7_isKeptPlace.at 7 rfl) ic_0 ?_
      exact xx_zreturn C (rt_i hf Q) (dd_X7_isKeptPlace.at 8 rfl) rfl zb_0
    · refine xx_icmp_ge_f (tgt := 13) C (dd_X7_isKeptPlace.at 4 rfl) (by decide) hc ?_
      refine xx_iconst C (dd_X7_isKeptPlace.at 5 rfl) ic_1 ?_
      refine xx_goto (tgt := 14) C (dd_X7_isKeptPlace.at 6 rfl) (by decide) ?_
      exact xx_zreturn C (rt_i hf Q) (dd_X7_isKeptPlace.at 8 rfl) rfl zb_1
theorem ss_X0_take_25 {Z : zz_} (C : cx_ Z mt_X0_take 1) {h9 : hh_} {x0 : Nat} {x1 : Nat}  (Q : rq_ Z none h9) (hk0 : isK_ x0) (ho1 : isO_ x1) : ∀ (n9 : Nat) (x2 : Int32) (h : hh_), ff_X0_take_25 x0 x1 n9 x2 h = some h9 → xx_ Z 25 [some (.ref x0), some (.ref x1), some (.int x2)] [] h := by
  intro n9
  induction n9 with
  | zero =>
    intro x2 h hf
    exact absurd hf (by rw [ff_X0_take_25]; exact nofun)
  | succ n9 ih =>
    intro x2 h hf
    rw [ff_X0_take_25] at hf
    refine xx_iload_n C (dd_X0_take.at 14 rfl) rfl ?_
    refine xx_aload_n C (dd_X0_take.at 15 rfl) rfl (isK_pos hk0) ?_
    refine xx_getR (j := 1) (r := (x0 + 2)) C ck_0 (lb_ rfl) lf_RX0_15 (sh_kp hk0) rfl (rc_kp1 hk0) (rf_kp1 hk0) (dd_X0_take.at 16 rfl) ?_
    refine xx_alen (v := 4) C (dd_X0_take.at 17 rfl) (sh_kp1 hk0) rfl ?_
    rcases ifo_ hf with ⟨hc, hf⟩ | ⟨hc, hf⟩
    · refine xx_icmp_ge_t (tgt := 54) C (dd_X0_take.at 18 rfl) (by decide) hc ?_
      exact xx_return C (rt_vwp hf Q) (dd_X0_take.at 31 rfl) rfl
    · refine xx_icmp_ge_f (tgt := 54) C (dd_X0_take.at 18 rfl) (by decide) hc ?_
      refine xx_aload_n C (dd_X0_take.at 19 rfl) rfl (isK_pos hk0) ?_
      refine xx_getR (j := 1) (r := (x0 + 2)) C ck_0 (lb_ rfl) lf_RX0_15 (sh_kp hk0) rfl (rc_kp1 hk0) (rf_kp1 hk0) (dd_X0_take.at 20 rfl) ?_
      refine xx_iload_n C (dd_X0_take.at 21 rfl) rfl ?_
      refine xx_aload_n C (dd_X0_take.at 22 rfl) rfl (isO_pos ho1) ?_
      refine xx_getR (j := 2) (r := (x1 + 13)) C ck_1 (lb_ rfl) lf_RX0_32 (sh_o ho1) rfl (rc_o2 ho1) (rf_o2 ho1) (dd_X0_take.at 23 rfl) ?_
      refine xx_iload_n C (dd_X0_take.at 24 rfl) rfl ?_
      obtain ⟨g2, hf⟩ := gd_ok hf
      refine xx_aaload (r := (x1 + 14 + Int32.toNatClampNeg x2)) C (dd_X0_take.at 25 rfl) (sh_o13 ho1) (bi_ok g2) (sh_lt (sh_oe13 ho1 (bi_ok g2))) rfl ?_
      refine xx_iconst C (dd_X0_take.at 26 rfl) ic_1 ?_
      refine xx_iaload C (dd_X0_take.at 27 rfl) (sh_oe13 ho1 (bi_ok g2)) (bi_ok (i := (1 : Int32)) (n := 3) rfl) ?_
      refine xx_iastore C (dd_X0_take.at 28 rfl) (sh_kp1 hk0) (bi_ok g2) ?_
      refine xx_iinc (v := _ + (1 : Int32)) (lv' := [_, _, _]) C (dd_X0_take.at 29 rfl) (lb_ rfl) rfl (by rw [ic_1]) rfl ?_
      refine xx_goto (tgt := 25) C (dd_X0_take.at 30 rfl) (by decide) ?_
      exact xx_mask [true, true, true] (ih _ _ hf)
theorem ss_X0_take {l : Launch} {G : gt_} {o : Nat} {a1 : Nat} {h : hh_} {h9 : hh_} (hk : isK_ o) (ho1 : isO_ a1) (hf : ff_X0_take o a1 h = some h9) : ok_ l G 1 mt_X0_take [.ref o, .ref a1] h none h9 := by
  refine ok_of pn_RX0 (lb_ rfl) (fun Z _ _ C Q => ?_)
  show xx_ Z 0 [some (.ref o), some (.ref a1), none] [] h
  unfold ff_X0_take at hf
  refine xx_aload_n C (dd_X0_take.at 0 rfl) rfl (isK_pos hk) ?_
  refine xx_aload_n C (dd_X0_take.at 1 rfl) rfl (isO_pos ho1) ?_
  refine xx_getI (j := 6) C ck_1 (lb_ rfl) lf_RX0_22 (sh_o ho1) rfl (dd_X0_take.at 2 rfl) ?_
  refine xx_putI (j := 2) C ck_0 (lb_ rfl) lf_RX0_18 rfl rfl (sh_kp hk) rfl (dd_X0_take.at 3 rfl) ?_
  refine xx_aload_n C (dd_X0_take.at 4 rfl) rfl (isO_pos ho1) ?_
  refine xx_getR (j := 5) (r := (a1 + 24)) C ck_1 (lb_ rfl) lf_RX0_25 (sh_o ho1) rfl (rc_o5 ho1) (rf_o5 ho1) (dd_X0_take.at 5 rfl) ?_
  refine xx_iconst C (dd_X0_take.at 6 rfl) ic_0 ?_
  refine xx_aload_n C (dd_X0_take.at 7 rfl) rfl (isK_pos hk) ?_
  refine xx_getR (j := 0) (r := (o + 1)) C ck_0 (lb_ rfl) lf_RX0_9 (sh_kp hk) rfl (rc_kp0 hk) (rf_kp0 hk) (dd_X0_take.at 8 rfl) ?_
  refine xx_iconst C (dd_X0_take.at 9 rfl) ic_0 ?_
  refine xx_bipush C (dd_X0_take.at 10 rfl) bq_40 ?_
  obtain ⟨g1, hf⟩ := gd_ok hf
  refine xx_acopy C (dd_X0_take.at 11 rfl) lm_RX0_26 (sh_o24 ho1) (sh_kp0 hk) (bc_1 g1) (bc_2 g1) (bc_3 g1) (bc_4 g1) (bc_5 g1) (lb_ rfl) (lb_ rfl) ?_
  refine xx_iconst C (dd_X0_take.at 12 rfl) ic_0 ?_
  refine xx_istore_n (lv' := [_, _, _]) C (dd_X0_take.at 13 rfl) (lb_ rfl) rfl ?_
  exact xx_mask [true, true, true] (ss_X0_take_25 C Q hk ho1 _ _ _ hf)
theorem ss_X7_keep {l : Launch} {G : gt_} {a1 : Int32} {h : hh_} {r9 : Int32} {h9 : hh_}  (hf : ff_X7_keep a1 h = some (r9, h9)) : ok_ l G 2 mt_X7_keep [.ref 1, .int a1] h (some (.int r9)) h9 := by
  refine ok_of pn_RX7 (lb_ rfl) (fun Z _ _ C Q => ?_)
  show xx_ Z 0 [some (.ref 1), some (.int a1)] [] h
  unfold ff_X7_keep at hf
  refine xx_iload_n C (dd_X7_keep.at 0 rfl) rfl ?_
  refine xx_callSi C (ss_X7_isKeptPlace rfl) (dd_X7_keep.at 1 rfl) kk_X7_isKeptPlace ks_X7_isKeptPlace lm_RX7_167 (lb_ rfl) rfl rfl (lb_ rfl) ?_
  rcases ifo_ hf with ⟨hc, hf⟩ | ⟨hc, hf⟩
  · refine xx_if_ne_f (tgt := 9) C (dd_X7_keep.at 2 rfl) (by decide) (not_not_intro hc) ?_
    refine xx_iconst C (dd_X7_keep.at 3 rfl) ic_m1 ?_
    exact xx_ireturn C (rt_iwp hf Q) (dd_X7_keep.at 4 rfl) rfl
  · refine xx_if_ne_t (tgt := 9) C (dd_X7_keep.at 2 rfl) (by decide) hc ?_
    refine xx_aload_n C (dd_X7_keep.at 5 rfl) rfl (Nat.le_of_ble_eq_true rfl) ?_
    obtain ⟨g1, hf⟩ := gd_ok hf
    refine xx_getR (j := 7) (r := h.2.2.1) C ck_6 (lb_ rfl) lf_RX7_55 sh_k1 rfl (lb_ rfl) rfl (dd_X7_keep.at 6 rfl) ?_
    refine xx_getR (j := 4) (r := (h.2.2.1 + 23)) C ck_1 (lb_ rfl) lf_RX7_118 (sh_o (bo_ok g1)) rfl (rc_o4 (bo_ok g1)) (rf_o4 (bo_ok g1)) (dd_X7_keep.at 7 rfl) ?_
    refine xx_iconst C (dd_X7_keep.at 8 rfl) ic_0 ?_
    refine xx_iaload C (dd_X7_keep.at 9 rfl) (sh_o23 (bo_ok g1)) (bi_ok (i := (0 : Int32)) (n := 3) rfl) ?_
    rcases ifo_ hf with ⟨hc, hf⟩ | ⟨hc, hf⟩
    · refine xx_if_ne_f (tgt := 24) C (dd_X7_keep.at 10 rfl) (by decide) (not_not_intro hc) ?_
      refine xx_bipush C (dd_X7_keep.at 11 rfl) bq_m4 ?_
      exact xx_ireturn C (rt_iwp hf Q) (dd_X7_keep.at 12 rfl) rfl
    · refine xx_if_ne_t (tgt := 24) C (dd_X7_keep.at 10 rfl) (by decide) hc ?_
      refine xx_aload_n C (dd_X7_keep.at 13 rfl) rfl (Nat.le_of_ble_eq_true rfl) ?_
      refine xx_getR (j := 2) (r := 18) C ck_6 (lb_ rfl) lf_RX7_23 sh_k1 rfl (lb_ rfl) rfl (dd_X7_keep.at 14 rfl) ?_
      refine xx_iload_n C (dd_X7_keep.at 15 rfl) rfl ?_
      obtain ⟨g2, hf⟩ := gd_ok hf
      refine xx_kaload (r := (89 + 3 * Int32.toNatClampNeg a1)) C (dd_X7_keep.at 16 rfl) sh_k18 (bi_ok g2) (isK_lt (isK_in (bi_ok g2))) rfl ?_
      refine xx_aload_n C (dd_X7_keep.at 17 rfl) rfl (Nat.le_of_ble_eq_true rfl) ?_
      refine xx_getR (j := 7) (r := h.2.2.1) C ck_6 (lb_ rfl) lf_RX7_55 sh_k1 rfl (lb_ rfl) rfl (dd_X7_keep.at 18 rfl) ?_
      obtain ⟨v3, e4, hf⟩ := bdo_ hf
      refine xx_callVv C (ss_X0_take (isK_in (bi_ok g2)) (bo_ok g1) e4) (dd_X7_keep.at 19 rfl) ck_0 rfl (sh_kp (isK_in (bi_ok g2))) kk_X0_take ki_X0_take lm_RX7_170 (lb_ rfl) rfl rfl (lb_ rfl) ?_
      refine xx_aload_n C (dd_X7_keep.at 20 rfl) rfl (Nat.le_of_ble_eq_true rfl) ?_
      obtain ⟨g5, hf⟩ := gd_ok hf
      refine xx_getR (j := 7) (r := v3.2.2.1) C ck_6 (lb_ rfl) lf_RX7_55 sh_k1 rfl (lb_ rfl) rfl (dd_X7_keep.at 21 rfl) ?_
      refine xx_getI (j := 6) C ck_1 (lb_ rfl) lf_RX7_160 (sh_o (bo_ok g5)) rfl (dd_X7_keep.at 22 rfl) ?_
      exact xx_ireturn C (rt_iwp hf Q) (dd_X7_keep.at 23 rfl) rfl
theorem ss_X0_giveTo_17 {Z : zz_} (C : cx_ Z mt_X0_giveTo 3) {h9 : hh_} {x0 : Nat} {x1 : Nat}  (Q : rq_ Z none h9) (hk0 : isK_ x0) (ho1 : isO_ x1) : ∀ (n9 : Nat) (x2 : Int32) (h : hh_), ff_X0_giveTo_17 x0 x1 n9 x2 h = some h9 → xx_ Z 17 [some (.ref x0), some (.ref x1), some (.int x2)] [] h := by
  intro n9
  induction n9 with
  | zero =>
    intro x2 h hf
    exact absurd hf (by rw [ff_X0_giveTo_17]; exact nofun)
  | succ n9 ih =>
    intro x2 h hf
    rw [ff_X0_giveTo_17] at hf
    refine xx_iload_n C (dd_X0_giveTo.at 10 rfl) rfl ?_
    refine xx_aload_n C (dd_X0_giveTo.at 11 rfl) rfl (isK_pos hk0) ?_
    refine xx_getR (j := 1) (r := (x0 + 2)) C ck_0 (lb_ rfl) lf_RX0_15 (sh_kp hk0) rfl (rc_kp1 hk0) (rf_kp1 hk0) (dd_X0_giveTo.at 12 rfl) ?_
    refine xx_alen (v := 4) C (dd_X0_giveTo.at 13 rfl) (sh_kp1 hk0) rfl ?_
    rcases ifo_ hf with ⟨hc, hf⟩ | ⟨hc, hf⟩
    · refine xx_icmp_ge_t (tgt := 46) C (dd_X0_giveTo.at 14 rfl) (by decide) hc ?_
      refine xx_aload_n C (dd_X0_giveTo.at 27 rfl) rfl (isO_pos ho1) ?_
      refine xx_aload_n C (dd_X0_giveTo.at 28 rfl) rfl (isK_pos hk0) ?_
      refine xx_getI (j := 2) C ck_0 (lb_ rfl) lf_RX0_18 (sh_kp hk0) rfl (dd_X0_giveTo.at 29 rfl) ?_
      obtain ⟨v2, e3, hf⟩ := bdo_ hf
      refine xx_callVv C (ss_X2_goBack ho1 e3) (dd_X0_giveTo.at 30 rfl) ck_1 rfl (sh_o ho1) kk_X2_goBack ki_X2_goBack lm_RX0_36 (lb_ rfl) rfl rfl (lb_ rfl) ?_
      exact xx_return C (rt_vwp hf Q) (dd_X0_giveTo.at 31 rfl) rfl
    · refine xx_icmp_ge_f (tgt := 46) C (dd_X0_giveTo.at 14 rfl) (by decide) hc ?_
      refine xx_aload_n C (dd_X0_giveTo.at 15 rfl) rfl (isO_pos ho1) ?_
      refine xx_getR (j := 2) (r := (x1 + 13)) C ck_1 (lb_ rfl) lf_RX0_32 (sh_o ho1) rfl (rc_o2 ho1) (rf_o2 ho1) (dd_X0_giveTo.at 16 rfl) ?_
      refine xx_iload_n C (dd_X0_giveTo.at 17 rfl) rfl ?_
      obtain ⟨g4, hf⟩ := gd_ok hf
      refine xx_aaload (r := (x1 + 14 + Int32.toNatClampNeg x2)) C (dd_X0_giveTo.at 18 rfl) (sh_o13 ho1) (bi_ok g4) (sh_lt (sh_oe13 ho1 (bi_ok g4))) rfl ?_
      refine xx_iconst C (dd_X0_giveTo.at 19 rfl) ic_1 ?_
      refine xx_aload_n C (dd_X0_giveTo.at 20 rfl) rfl (isK_pos hk0) ?_
      refine xx_getR (j := 1) (r := (x0 + 2)) C ck_0 (lb_ rfl) lf_RX0_15 (sh_kp hk0) rfl (rc_kp1 hk0) (rf_kp1 hk0) (dd_X0_giveTo.at 21 rfl) ?_
      refine xx_iload_n C (dd_X0_giveTo.at 22 rfl) rfl ?_
      refine xx_iaload C (dd_X0_giveTo.at 23 rfl) (sh_kp1 hk0) (bi_ok g4) ?_
      refine xx_iastore C (dd_X0_giveTo.at 24 rfl) (sh_oe13 ho1 (bi_ok g4)) (bi_ok (i := (1 : Int32)) (n := 3) rfl) ?_
      refine xx_iinc (v := _ + (1 : Int32)) (lv' := [_, _, _]) C (dd_X0_giveTo.at 25 rfl) (lb_ rfl) rfl (by rw [ic_1]) rfl ?_
      refine xx_goto (tgt := 17) C (dd_X0_giveTo.at 26 rfl) (by decide) ?_
      exact xx_mask [true, true, true] (ih _ _ hf)
theorem ss_X0_giveTo {l : Launch} {G : gt_} {o : Nat} {a1 : Nat} {h : hh_} {h9 : hh_} (hk : isK_ o) (ho1 : isO_ a1) (hf : ff_X0_giveTo o a1 h = some h9) : ok_ l G 3 mt_X0_giveTo [.ref o, .ref a1] h none h9 := by
  refine ok_of pn_RX0 (lb_ rfl) (fun Z _ _ C Q => ?_)
  show xx_ Z 0 [some (.ref o), some (.ref a1), none] [] h
  unfold ff_X0_giveTo at hf
  refine xx_aload_n C (dd_X0_giveTo.at 0 rfl) rfl (isK_pos hk) ?_
  refine xx_getR (j := 0) (r := (o + 1)) C ck_0 (lb_ rfl) lf_RX0_9 (sh_kp hk) rfl (rc_kp0 hk) (rf_kp0 hk) (dd_X0_giveTo.at 1 rfl) ?_
  refine xx_iconst C (dd_X0_giveTo.at 2 rfl) ic_0 ?_
  refine xx_aload_n C (dd_X0_giveTo.at 3 rfl) rfl (isO_pos ho1) ?_
  refine xx_getR (j := 5) (r := (a1 + 24)) C ck_1 (lb_ rfl) lf_RX0_25 (sh_o ho1) rfl (rc_o5 ho1) (rf_o5 ho1) (dd_X0_giveTo.at 4 rfl) ?_
  refine xx_iconst C (dd_X0_giveTo.at 5 rfl) ic_0 ?_
  refine xx_bipush C (dd_X0_giveTo.at 6 rfl) bq_40 ?_
  obtain ⟨g1, hf⟩ := gd_ok hf
  refine xx_acopy C (dd_X0_giveTo.at 7 rfl) lm_RX0_26 (sh_kp0 hk) (sh_o24 ho1) (bc_1 g1) (bc_2 g1) (bc_3 g1) (bc_4 g1) (bc_5 g1) (lb_ rfl) (lb_ rfl) ?_
  refine xx_iconst C (dd_X0_giveTo.at 8 rfl) ic_0 ?_
  refine xx_istore_n (lv' := [_, _, _]) C (dd_X0_giveTo.at 9 rfl) (lb_ rfl) rfl ?_
  exact xx_mask [true, true, true] (ss_X0_giveTo_17 C Q hk ho1 _ _ _ hf)
theorem ss_X7_on {l : Launch} {G : gt_} {a1 : Int32} {h : hh_} {r9 : Int32} {h9 : hh_}  (hf : ff_X7_on a1 h = some (r9, h9)) : ok_ l G 4 mt_X7_on [.ref 1, .int a1] h (some (.int r9)) h9 := by
  refine ok_of pn_RX7 (lb_ rfl) (fun Z _ _ C Q => ?_)
  show xx_ Z 0 [some (.ref 1), some (.int a1)] [] h
  unfold ff_X7_on at hf
  refine xx_iload_n C (dd_X7_on.at 0 rfl) rfl ?_
  refine xx_callSi C (ss_X7_isKeptPlace rfl) (dd_X7_on.at 1 rfl) kk_X7_isKeptPlace ks_X7_isKeptPlace lm_RX7_167 (lb_ rfl) rfl rfl (lb_ rfl) ?_
  rcases ifo_ hf with ⟨hc, hf⟩ | ⟨hc, hf⟩
  · refine xx_if_ne_f (tgt := 9) C (dd_X7_on.at 2 rfl) (by decide) (not_not_intro hc) ?_
    refine xx_iconst C (dd_X7_on.at 3 rfl) ic_m1 ?_
    exact xx_ireturn C (rt_iwp hf Q) (dd_X7_on.at 4 rfl) rfl
  · refine xx_if_ne_t (tgt := 9) C (dd_X7_on.at 2 rfl) (by decide) hc ?_
    refine xx_aload_n C (dd_X7_on.at 5 rfl) rfl (Nat.le_of_ble_eq_true rfl) ?_
    refine xx_getR (j := 2) (r := 18) C ck_6 (lb_ rfl) lf_RX7_23 sh_k1 rfl (lb_ rfl) rfl (dd_X7_on.at 6 rfl) ?_
    refine xx_iload_n C (dd_X7_on.at 7 rfl) rfl ?_
    obtain ⟨g1, hf⟩ := gd_ok hf
    refine xx_kaload (r := (89 + 3 * Int32.toNatClampNeg a1)) C (dd_X7_on.at 8 rfl) sh_k18 (bi_ok g1) (isK_lt (isK_in (bi_ok g1))) rfl ?_
    refine xx_getI (j := 2) C ck_0 (lb_ rfl) lf_RX7_114 (sh_kp (isK_in (bi_ok g1))) rfl (dd_X7_on.at 9 rfl) ?_
    refine xx_iconst C (dd_X7_on.at 10 rfl) ic_m1 ?_
    rcases ifo_ hf with ⟨hc, hf⟩ | ⟨hc, hf⟩
    · refine xx_icmp_ne_f (tgt := 31) C (dd_X7_on.at 11 rfl) (by decide) (not_not_intro hc) ?_
      refine xx_aload_n C (dd_X7_on.at 12 rfl) rfl (Nat.le_of_ble_eq_true rfl) ?_
      refine xx_getR (j := 5) (r := 36) C ck_6 (lb_ rfl) lf_RX7_44 sh_k1 rfl (lb_ rfl) rfl (dd_X7_on.at 13 rfl) ?_
      refine xx_iconst C (dd_X7_on.at 14 rfl) ic_1 ?_
      obtain ⟨v6, e7, hf⟩ := bdo_ hf
      refine xx_callVi C (ss_X6_refuse (pz_ e7)) (dd_X7_on.at 15 rfl) ck_5 rfl sh_k36 kk_X6_refuse ki_X6_refuse lm_RX7_67 (lb_ rfl) rfl rfl (lb_ rfl) ?_
      exact xx_ireturn C (rt_iwp hf Q) (dd_X7_on.at 16 rfl) rfl
    · refine xx_icmp_ne_t (tgt := 31) C (dd_X7_on.at 11 rfl) (by decide) hc ?_
      refine xx_aload_n C (dd_X7_on.at 17 rfl) rfl (Nat.le_of_ble_eq_true rfl) ?_
      refine xx_getR (j := 2) (r := 18) C ck_6 (lb_ rfl) lf_RX7_23 sh_k1 rfl (lb_ rfl) rfl (dd_X7_on.at 18 rfl) ?_
      refine xx_iload_n C (dd_X7_on.at 19 rfl) rfl ?_
      refine xx_kaload (r := (89 + 3 * Int32.toNatClampNeg a1)) C (dd_X7_on.at 20 rfl) sh_k18 (bi_ok g1) (isK_lt (isK_in (bi_ok g1))) rfl ?_
      refine xx_aload_n C (dd_X7_on.at 21 rfl) rfl (Nat.le_of_ble_eq_true rfl) ?_
      obtain ⟨g2, hf⟩ := gd_ok hf
      refine xx_getR (j := 7) (r := h.2.2.1) C ck_6 (lb_ rfl) lf_RX7_55 sh_k1 rfl (lb_ rfl) rfl (dd_X7_on.at 22 rfl) ?_
      obtain ⟨v3, e4, hf⟩ := bdo_ hf
      refine xx_callVv C (ss_X0_giveTo (isK_in (bi_ok g1)) (bo_ok g2) e4) (dd_X7_on.at 23 rfl) ck_0 rfl (sh_kp (isK_in (bi_ok g1))) kk_X0_giveTo ki_X0_giveTo lm_RX7_174 (lb_ rfl) rfl rfl (lb_ rfl) ?_
      refine xx_aload_n C (dd_X7_on.at 24 rfl) rfl (Nat.le_of_ble_eq_true rfl) ?_
      obtain ⟨g5, hf⟩ := gd_ok hf
      refine xx_getR (j := 7) (r := v3.2.2.1) C ck_6 (lb_ rfl) lf_RX7_55 sh_k1 rfl (lb_ rfl) rfl (dd_X7_on.at 25 rfl) ?_
      refine xx_getI (j := 6) C ck_1 (lb_ rfl) lf_RX7_160 (sh_o (bo_ok g5)) rfl (dd_X7_on.at 26 rfl) ?_
      exact xx_ireturn C (rt_iwp hf Q) (dd_X7_on.at 27 rfl) rfl
theorem ss_X7_reads {l : Launch} {G : gt_} {a1 : Int32} {a2 : Int32} {a3 : Int32} {h : hh_} {r9 : Int32} {h9 : hh_}  (hf : ff_X7_reads a1 a2 a3 h = some (r9, h9)) : ok_ l G 3 mt_X7_reads [.ref 1, .int a1, .int a2, .int a3] h (some (.int r9)) h9 := by
  refine ok_of pn_RX7 (lb_ rfl) (fun Z _ _ C Q => ?_)
  show xx_ Z 0 [some (.ref 1), some (.int a1), some (.int a2), some (.int a3)] [] h
  unfold ff_X7_reads at hf
  refine xx_aload_n C (dd_X7_reads.at 0 rfl) rfl (Nat.le_of_ble_eq_true rfl) ?_
  obtain ⟨g1, hf⟩ := gd_ok hf
  refine xx_getR (j := 7) (r := h.2.2.1) C ck_6 (lb_ rfl) lf_RX7_55 sh_k1 rfl (lb_ rfl) rfl (dd_X7_reads.at 1 rfl) ?_
  refine xx_iconst C (dd_X7_reads.at 2 rfl) ic_1 ?_
  refine xx_iload_n C (dd_X7_reads.at 3 rfl) rfl ?_
  obtain ⟨v2, e3, hf⟩ := bdo_ hf
  refine xx_callVi C (ss_X2_has (bo_ok g1) e3) (dd_X7_reads.at 4 rfl) ck_1 rfl (sh_o (bo_ok g1)) kk_X2_has ki_X2_has lm_RX7_119 (lb_ rfl) rfl rfl (lb_ rfl) ?_
  rcases ifo_ hf with ⟨hc, hf⟩ | ⟨hc, hf⟩
  · refine xx_if_eq_t (tgt := 31) C (dd_X7_reads.at 5 rfl) (by decide) hc ?_
    refine xx_iconst C (dd_X7_reads.at 15 rfl) ic_m1 ?_
    exact xx_ireturn C (rt_iwp hf Q) (dd_X7_reads.at 16 rfl) rfl
  · refine xx_if_eq_f (tgt := 31) C (dd_X7_reads.at 5 rfl) (by decide) hc ?_
    refine xx_aload_n C (dd_X7_reads.at 6 rfl) rfl (Nat.le_of_ble_eq_true rfl) ?_
    refine xx_getR (j := 7) (r := h.2.2.1) C ck_6 (lb_ rfl) lf_RX7_55 sh_k1 rfl (lb_ rfl) rfl (dd_X7_reads.at 7 rfl) ?_
    refine xx_iconst C (dd_X7_reads.at 8 rfl) ic_0 ?_
    refine xx_iload_n C (dd_X7_reads.at 9 rfl) rfl ?_
    obtain ⟨v4, e5, hf⟩ := bdo_ hf
    refine xx_callVi C (ss_X2_has (bo_ok g1) e5) (dd_X7_reads.at 10 rfl) ck_1 rfl (sh_o (bo_ok g1)) kk_X2_has ki_X2_has lm_RX7_119 (lb_ rfl) rfl rfl (lb_ rfl) ?_
    rcases ifo_ hf with ⟨hc, hf⟩ | ⟨hc, hf⟩
    · refine xx_if_eq_t (tgt := 31) C (dd_X7_reads.at 11 rfl) (by decide) hc ?_
      refine xx_iconst C (dd_X7_reads.at 15 rfl) ic_m1 ?_
      exact xx_ireturn C (rt_iwp hf Q) (dd_X7_reads.at 16 rfl) rfl
    · refine xx_if_eq_f (tgt := 31) C (dd_X7_reads.at 11 rfl) (by decide) hc ?_
      refine xx_iload_n C (dd_X7_reads.at 12 rfl) rfl ?_
      refine xx_callSi C (ss_X7_isPlace rfl) (dd_X7_reads.at 13 rfl) kk_X7_isPlace ks_X7_isPlace lm_RX7_154 (lb_ rfl) rfl rfl (lb_ rfl) ?_
      rcases ifo_ hf with ⟨hc, hf⟩ | ⟨hc, hf⟩
      · refine xx_if_ne_f (tgt := 33) C (dd_X7_reads.at 14 rfl) (by decide) (not_not_intro hc) ?_
        refine xx_iconst C (dd_X7_reads.at 15 rfl) ic_m1 ?_
        exact xx_ireturn C (rt_iwp hf Q) (dd_X7_reads.at 16 rfl) rfl
      · refine xx_if_ne_t (tgt := 33) C (dd_X7_reads.at 14 rfl) (by decide) hc ?_
        refine xx_aload_n C (dd_X7_reads.at 17 rfl) rfl (Nat.le_of_ble_eq_true rfl) ?_
        refine xx_getR (j := 5) (r := 36) C ck_6 (lb_ rfl) lf_RX7_44 sh_k1 rfl (lb_ rfl) rfl (dd_X7_reads.at 18 rfl) ?_
        refine xx_aload_n C (dd_X7_reads.at 19 rfl) rfl (Nat.le_of_ble_eq_true rfl) ?_
        refine xx_getR (j := 7) (r := h.2.2.1) C ck_6 (lb_ rfl) lf_RX7_55 sh_k1 rfl (lb_ rfl) rfl (dd_X7_reads.at 20 rfl) ?_
        refine xx_iload_n C (dd_X7_reads.at 21 rfl) rfl ?_
        refine xx_iload_n C (dd_X7_reads.at 22 rfl) rfl ?_
        refine xx_iload_n C (dd_X7_reads.at 23 rfl) rfl ?_
        refine xx_iconst C (dd_X7_reads.at 24 rfl) ic_0 ?_
        obtain ⟨v6, e7, hf⟩ := bdo_ hf
        refine xx_callVi C (ss_X2_most (bo_ok g1) e7) (dd_X7_reads.at 25 rfl) ck_1 rfl (sh_o (bo_ok g1)) kk_X2_most ki_X2_most lm_RX7_177 (lb_ rfl) rfl rfl (lb_ rfl) ?_
        refine xx_callVi C (ss_X6_tell pe_) (dd_X7_reads.at 26 rfl) ck_5 rfl sh_k36 kk_X6_tell ki_X6_tell lm_RX7_83 (lb_ rfl) rfl rfl (lb_ rfl) ?_
        refine xx_pop C (dd_X7_reads.at 27 rfl) rfl ?_
        refine xx_aload_n C (dd_X7_reads.at 28 rfl) rfl (Nat.le_of_ble_eq_true rfl) ?_
        obtain ⟨g8, hf⟩ := gd_ok hf
        refine xx_getR (j := 7) (r := (ff_X6_tell v6 h).2.2.2.1) C ck_6 (lb_ rfl) lf_RX7_55 sh_k1 rfl (lb_ rfl) rfl (dd_X7_reads.at 29 rfl) ?_
        refine xx_iload_n C (dd_X7_reads.at 30 rfl) rfl ?_
        refine xx_iload_n C (dd_X7_reads.at 31 rfl) rfl ?_
        refine xx_iload_n C (dd_X7_reads.at 32 rfl) rfl ?_
        refine xx_iconst C (dd_X7_reads.at 33 rfl) ic_0 ?_
        obtain ⟨v9, e10, hf⟩ := bdo_ hf
        refine xx_callVi C (ss_X2_least (bo_ok g8) e10) (dd_X7_reads.at 34 rfl) ck_1 rfl (sh_o (bo_ok g8)) kk_X2_least ki_X2_least lm_RX7_181 (lb_ rfl) rfl rfl (lb_ rfl) ?_
        exact xx_ireturn C (rt_iwp hf Q) (dd_X7_reads.at 35 rfl) rfl
theorem ss_X7_findingOfReading_30 {Z : zz_} (C : cx_ Z mt_X7_findingOfReading 1) {r9 : Int32} {x1 : Int32} {h : hh_}  (Q : rq_ Z (some (.int r9)) h) : ∀ (n9 : Nat) (x2 : Int32), ff_X7_findingOfReading_30 x1 h n9 x2 = some r9 → xx_ Z 30 [some (.ref 1), some (.int x1), some (.int x2)] [] h := by
  intro n9
  induction n9 with
  | zero =>
    intro x2 hf
    exact absurd hf (by rw [ff_X7_findingOfReading_30]; exact nofun)
  | succ n9 ih =>
    intro x2 hf
    rw [ff_X7_findingOfReading_30] at hf
    refine xx_iload_n C (dd_X7_findingOfReading.at 18 rfl) rfl ?_
    refine xx_iconst C (dd_X7_findingOfReading.at 19 rfl) ic_4 ?_
    rcases ifo_ hf with ⟨hc, hf⟩ | ⟨hc, hf⟩
    · refine xx_icmp_ge_t (tgt := 73) C (dd_X7_findingOfReading.at 20 rfl) (by decide) hc ?_
      refine xx_iconst C (dd_X7_findingOfReading.at 42 rfl) ic_0 ?_
      exact xx_ireturn C (rt_ip hf Q) (dd_X7_findingOfReading.at 43 rfl) rfl
    · refine xx_icmp_ge_f (tgt := 73) C (dd_X7_findingOfReading.at 20 rfl) (by decide) hc ?_
      refine xx_aload_n C (dd_X7_findingOfReading.at 21 rfl) rfl (Nat.le_of_ble_eq_true rfl) ?_
      refine xx_getR (j := 0) (r := 2) C ck_6 (lb_ rfl) lf_RX7_14 sh_k1 rfl (lb_ rfl) rfl (dd_X7_findingOfReading.at 22 rfl) ?_
      refine xx_getR (j := 0) (r := 3) C ck_4 (lb_ rfl) lf_RX7_79 sh_k2 rfl (lb_ rfl) rfl (dd_X7_findingOfReading.at 23 rfl) ?_
      refine xx_iload_n C (dd_X7_findingOfReading.at 24 rfl) rfl ?_
      obtain ⟨g4, hf⟩ := gd_ok hf
      refine xx_aaload (r := (4 + Int32.toNatClampNeg x1)) C (dd_X7_findingOfReading.at 25 rfl) sh_k3 (bi_ok g4) (sh_lt (sh_e3 (bi_ok g4))) rfl ?_
      refine xx_iload_n C (dd_X7_findingOfReading.at 26 rfl) rfl ?_
      obtain ⟨g5, hf⟩ := gd_ok hf
      refine xx_iaload C (dd_X7_findingOfReading.at 27 rfl) (sh_e3 (bi_ok g4)) (bi_ok g5) ?_
      rcases ifo_ hf with ⟨hc, hf⟩ | ⟨hc, hf⟩
      · refine xx_if_lt_t (tgt := 65) C (dd_X7_findingOfReading.at 28 rfl) (by decide) hc ?_
        refine xx_iconst C (dd_X7_findingOfReading.at 38 rfl) ic_3 ?_
        exact xx_ireturn C (rt_ip hf Q) (dd_X7_findingOfReading.at 39 rfl) rfl
      · refine xx_if_lt_f (tgt := 65) C (dd_X7_findingOfReading.at 28 rfl) (by decide) hc ?_
        refine xx_aload_n C (dd_X7_findingOfReading.at 29 rfl) rfl (Nat.le_of_ble_eq_true rfl) ?_
        refine xx_getR (j := 0) (r := 2) C ck_6 (lb_ rfl) lf_RX7_14 sh_k1 rfl (lb_ rfl) rfl (dd_X7_findingOfReading.at 30 rfl) ?_
        refine xx_getR (j := 0) (r := 3) C ck_4 (lb_ rfl) lf_RX7_79 sh_k2 rfl (lb_ rfl) rfl (dd_X7_findingOfReading.at 31 rfl) ?_
        refine xx_iload_n C (dd_X7_findingOfReading.at 32 rfl) rfl ?_
        refine xx_aaload (r := (4 + Int32.toNatClampNeg x1)) C (dd_X7_findingOfReading.at 33 rfl) sh_k3 (bi_ok g4) (sh_lt (sh_e3 (bi_ok g4))) rfl ?_
        refine xx_iload_n C (dd_X7_findingOfReading.at 34 rfl) rfl ?_
        refine xx_iaload C (dd_X7_findingOfReading.at 35 rfl) (sh_e3 (bi_ok g4)) (bi_ok g5) ?_
        refine xx_bipush C (dd_X7_findingOfReading.at 36 rfl) bq_9 ?_
        rcases ifo_ hf with ⟨hc, hf⟩ | ⟨hc, hf⟩
        · refine xx_icmp_le_t (tgt := 67) C (dd_X7_findingOfReading.at 37 rfl) (by decide) hc ?_
          refine xx_iinc (v := _ + (1 : Int32)) (lv' := [_, _, _]) C (dd_X7_findingOfReading.at 40 rfl) (lb_ rfl) rfl (by rw [ic_1]) rfl ?_
          refine xx_goto (tgt := 30) C (dd_X7_findingOfReading.at 41 rfl) (by decide) ?_
          exact xx_mask [true, true, true] (ih _ hf)
        · refine xx_icmp_le_f (tgt := 67) C (dd_X7_findingOfReading.at 37 rfl) (by decide) hc ?_
          refine xx_iconst C (dd_X7_findingOfReading.at 38 rfl) ic_3 ?_
          exact xx_ireturn C (rt_ip hf Q) (dd_X7_findingOfReading.at 39 rfl) rfl
theorem ss_X7_findingOfReading {l : Launch} {G : gt_} {a1 : Int32} {h : hh_} {r9 : Int32}  (hf : ff_X7_findingOfReading a1 h = some r9) : ok_ l G 1 mt_X7_findingOfReading [.ref 1, .int a1] h (some (.int r9)) h := by
  refine ok_of pn_RX7 (lb_ rfl) (fun Z _ _ C Q => ?_)
  show xx_ Z 0 [some (.ref 1), some (.int a1), none] [] h
  unfold ff_X7_findingOfReading at hf
  refine xx_aload_n C (dd_X7_findingOfReading.at 0 rfl) rfl (Nat.le_of_ble_eq_true rfl) ?_
  refine xx_getR (j := 0) (r := 2) C ck_6 (lb_ rfl) lf_RX7_14 sh_k1 rfl (lb_ rfl) rfl (dd_X7_findingOfReading.at 1 rfl) ?_
  refine xx_iload_n C (dd_X7_findingOfReading.at 2 rfl) rfl ?_
  obtain ⟨v1, e2, hf⟩ := bdo_ hf
  refine xx_callVi C (ss_X5r_lacks e2) (dd_X7_findingOfReading.at 3 rfl) ck_4 rfl sh_k2 kk_X5_lacks ki_X5_lacks lm_RX7_86 (lb_ rfl) rfl rfl (lb_ rfl) ?_
  rcases ifo_ hf with ⟨hc, hf⟩ | ⟨hc, hf⟩
  · refine xx_if_eq_t (tgt := 13) C (dd_X7_findingOfReading.at 4 rfl) (by decide) hc ?_
    refine xx_aload_n C (dd_X7_findingOfReading.at 7 rfl) rfl (Nat.le_of_ble_eq_true rfl) ?_
    refine xx_getR (j := 0) (r := 2) C ck_6 (lb_ rfl) lf_RX7_14 sh_k1 rfl (lb_ rfl) rfl (dd_X7_findingOfReading.at 8 rfl) ?_
    refine xx_getR (j := 1) (r := 10) C ck_4 (lb_ rfl) lf_RX7_89 sh_k2 rfl (lb_ rfl) rfl (dd_X7_findingOfReading.at 9 rfl) ?_
    refine xx_iload_n C (dd_X7_findingOfReading.at 10 rfl) rfl ?_
    obtain ⟨g3, hf⟩ := gd_ok hf
    refine xx_iaload C (dd_X7_findingOfReading.at 11 rfl) sh_k10 (bi_ok g3) ?_
    refine xx_iconst C (dd_X7_findingOfReading.at 12 rfl) ic_4 ?_
    rcases ifo_ hf with ⟨hc, hf⟩ | ⟨hc, hf⟩
    · refine xx_icmp_eq_t (tgt := 28) C (dd_X7_findingOfReading.at 13 rfl) (by decide) hc ?_
      refine xx_iconst C (dd_X7_findingOfReading.at 16 rfl) ic_0 ?_
      refine xx_istore_n (lv' := [_, _, _]) C (dd_X7_findingOfReading.at 17 rfl) (lb_ rfl) rfl ?_
      exact xx_mask [true, true, true] (ss_X7_findingOfReading_30 C Q _ _ hf)
    · refine xx_icmp_eq_f (tgt := 28) C (dd_X7_findingOfReading.at 13 rfl) (by decide) hc ?_
      refine xx_iconst C (dd_X7_findingOfReading.at 14 rfl) ic_5 ?_
      exact xx_ireturn C (rt_ip hf Q) (dd_X7_findingOfReading.at 15 rfl) rfl
  · refine xx_if_eq_f (tgt := 13) C (dd_X7_findingOfReading.at 4 rfl) (by decide) hc ?_
    refine xx_iconst C (dd_X7_findingOfReading.at 5 rfl) ic_1 ?_
    exact xx_ireturn C (rt_ip hf Q) (dd_X7_findingOfReading.at 6 rfl) rfl
theorem ss_X2_canRead_3 {Z : zz_} (C : cx_ Z mt_X2_canRead 3) {r9 : Int32} {x0 : Nat} {x1 : Int32} {x2 : Int32} {x3 : Nat} {h : hh_}  (Q : rq_ Z (some (.int r9)) h) (ho0 : isO_ x0) (hp3 : 0 < x3) : ∀ (n9 : Nat) (x4 : Int32), ff_X2_canRead_3 x0 x1 x2 x3 h n9 x4 = some r9 → xx_ Z 3 [some (.ref x0), some (.int x1), some (.int x2), some (.ref x3), some (.int x4)] [] h := by
  intro n9
  induction n9 with
  | zero =>
    intro x4 hf
    exact absurd hf (by rw [ff_X2_canRead_3]; exact nofun)
  | succ n9 ih =>
    intro x4 hf
    rw [ff_X2_canRead_3] at hf
    refine xx_iload C (dd_X2_canRead.at 2 rfl) rfl ?_
    refine xx_iconst C (dd_X2_canRead.at 3 rfl) ic_4 ?_
    rcases ifo_ hf with ⟨hc, hf⟩ | ⟨hc, hf⟩
    · refine xx_icmp_ge_t (tgt := 49) C (dd_X2_canRead.at 4 rfl) (by decide) hc ?_
      refine xx_iconst C (dd_X2_canRead.at 29 rfl) ic_1 ?_
      exact xx_zreturn C (rt_ip hf Q) (dd_X2_canRead.at 30 rfl) rfl zb_1
    · refine xx_icmp_ge_f (tgt := 49) C (dd_X2_canRead.at 4 rfl) (by decide) hc ?_
      refine xx_aload_n C (dd_X2_canRead.at 5 rfl) rfl hp3 ?_
      refine xx_iload C (dd_X2_canRead.at 6 rfl) rfl ?_
      obtain ⟨g1, hf⟩ := gd_ok hf
      refine xx_iaload C (dd_X2_canRead.at 7 rfl) (bp_sh g1) (bp_in g1) ?_
      refine xx_aload_n C (dd_X2_canRead.at 8 rfl) rfl (isO_pos ho0) ?_
      refine xx_iload_n C (dd_X2_canRead.at 9 rfl) rfl ?_
      refine xx_iload_n C (dd_X2_canRead.at 10 rfl) rfl ?_
      refine xx_iload C (dd_X2_canRead.at 11 rfl) rfl ?_
      refine xx_iconst C (dd_X2_canRead.at 12 rfl) ic_0 ?_
      obtain ⟨v2, e3, hf⟩ := bdo_ hf
      refine xx_callVi C (ss_X2_least ho0 e3) (dd_X2_canRead.at 13 rfl) ck_1 rfl (sh_o ho0) kk_X2_least ki_X2_least lm_RX2_95 (lb_ rfl) rfl rfl (lb_ rfl) ?_
      rcases ifo_ hf with ⟨hc, hf⟩ | ⟨hc, hf⟩
      · refine xx_icmp_lt_t (tgt := 41) C (dd_X2_canRead.at 14 rfl) (by decide) hc ?_
        refine xx_iconst C (dd_X2_canRead.at 25 rfl) ic_0 ?_
        exact xx_zreturn C (rt_ip hf Q) (dd_X2_canRead.at 26 rfl) rfl zb_0
      · refine xx_icmp_lt_f (tgt := 41) C (dd_X2_canRead.at 14 rfl) (by decide) hc ?_
        refine xx_aload_n C (dd_X2_canRead.at 15 rfl) rfl hp3 ?_
        refine xx_iload C (dd_X2_canRead.at 16 rfl) rfl ?_
        refine xx_iaload C (dd_X2_canRead.at 17 rfl) (bp_sh g1) (bp_in g1) ?_
        refine xx_aload_n C (dd_X2_canRead.at 18 rfl) rfl (isO_pos ho0) ?_
        refine xx_iload_n C (dd_X2_canRead.at 19 rfl) rfl ?_
        refine xx_iload_n C (dd_X2_canRead.at 20 rfl) rfl ?_
        refine xx_iload C (dd_X2_canRead.at 21 rfl) rfl ?_
        refine xx_iconst C (dd_X2_canRead.at 22 rfl) ic_0 ?_
        obtain ⟨v4, e5, hf⟩ := bdo_ hf
        refine xx_callVi C (ss_X2_most ho0 e5) (dd_X2_canRead.at 23 rfl) ck_1 rfl (sh_o ho0) kk_X2_most ki_X2_most lm_RX2_92 (lb_ rfl) rfl rfl (lb_ rfl) ?_
        rcases ifo_ hf with ⟨hc, hf⟩ | ⟨hc, hf⟩
        · refine xx_icmp_le_t (tgt := 43) C (dd_X2_canRead.at 24 rfl) (by decide) hc ?_
          refine xx_iinc (v := _ + (1 : Int32)) (lv' := [_, _, _, _, _]) C (dd_X2_canRead.at 27 rfl) (lb_ rfl) rfl (by rw [ic_1]) rfl ?_
          refine xx_goto (tgt := 3) C (dd_X2_canRead.at 28 rfl) (by decide) ?_
          exact xx_mask [true, true, true, true, true] (ih _ hf)
        · refine xx_icmp_le_f (tgt := 43) C (dd_X2_canRead.at 24 rfl) (by decide) hc ?_
          refine xx_iconst C (dd_X2_canRead.at 25 rfl) ic_0 ?_
          exact xx_zreturn C (rt_ip hf Q) (dd_X2_canRead.at 26 rfl) rfl zb_0
theorem ss_X2_canRead {l : Launch} {G : gt_} {o : Nat} {a1 : Int32} {a2 : Int32} {a3 : Nat} {h : hh_} {r9 : Int32} (ho : isO_ o) (hp3 : 0 < a3) (hf : ff_X2_canRead o a1 a2 a3 h = some r9) : ok_ l G 3 mt_X2_canRead [.ref o, .int a1, .int a2, .ref a3] h (some (.int r9)) h := by
  refine ok_of pn_RX2 (lb_ rfl) (fun Z _ _ C Q => ?_)
  show xx_ Z 0 [some (.ref o), some (.int a1), some (.int a2), some (.ref a3), none] [] h
  unfold ff_X2_canRead at hf
  refine xx_iconst C (dd_X2_canRead.at 0 rfl) ic_0 ?_
  refine xx_istore (lv' := [_, _, _, _, _]) C (dd_X2_canRead.at 1 rfl) (lb_ rfl) rfl ?_
  exact xx_mask [true, true, true, true, true] (ss_X2_canRead_3 C Q ho hp3 _ _ hf)
theorem ss_X7_fits {l : Launch} {G : gt_} {a1 : Int32} {a2 : Int32} {a3 : Int32} {h : hh_} {r9 : Int32} {h9 : hh_}  (hf : ff_X7_fits a1 a2 a3 h = some (r9, h9)) : ok_ l G 4 mt_X7_fits [.ref 1, .int a1, .int a2, .int a3] h (some (.int r9)) h9 := by
  refine ok_of pn_RX7 (lb_ rfl) (fun Z _ _ C Q => ?_)
  show xx_ Z 0 [some (.ref 1), some (.int a1), some (.int a2), some (.int a3), none] [] h
  unfold ff_X7_fits at hf
  refine xx_aload_n C (dd_X7_fits.at 0 rfl) rfl (Nat.le_of_ble_eq_true rfl) ?_
  obtain ⟨g1, hf⟩ := gd_ok hf
  refine xx_getR (j := 7) (r := h.2.2.1) C ck_6 (lb_ rfl) lf_RX7_55 sh_k1 rfl (lb_ rfl) rfl (dd_X7_fits.at 1 rfl) ?_
  refine xx_iconst C (dd_X7_fits.at 2 rfl) ic_1 ?_
  refine xx_iload_n C (dd_X7_fits.at 3 rfl) rfl ?_
  obtain ⟨v2, e3, hf⟩ := bdo_ hf
  refine xx_callVi C (ss_X2_has (bo_ok g1) e3) (dd_X7_fits.at 4 rfl) ck_1 rfl (sh_o (bo_ok g1)) kk_X2_has ki_X2_has lm_RX7_119 (lb_ rfl) rfl rfl (lb_ rfl) ?_
  rcases ifo_ hf with ⟨hc, hf⟩ | ⟨hc, hf⟩
  · refine xx_if_eq_t (tgt := 35) C (dd_X7_fits.at 5 rfl) (by decide) hc ?_
    refine xx_iconst C (dd_X7_fits.at 17 rfl) ic_m1 ?_
    exact xx_ireturn C (rt_iwp hf Q) (dd_X7_fits.at 18 rfl) rfl
  · refine xx_if_eq_f (tgt := 35) C (dd_X7_fits.at 5 rfl) (by decide) hc ?_
    refine xx_aload_n C (dd_X7_fits.at 6 rfl) rfl (Nat.le_of_ble_eq_true rfl) ?_
    refine xx_getR (j := 7) (r := h.2.2.1) C ck_6 (lb_ rfl) lf_RX7_55 sh_k1 rfl (lb_ rfl) rfl (dd_X7_fits.at 7 rfl) ?_
    refine xx_iconst C (dd_X7_fits.at 8 rfl) ic_0 ?_
    refine xx_iload_n C (dd_X7_fits.at 9 rfl) rfl ?_
    obtain ⟨v4, e5, hf⟩ := bdo_ hf
    refine xx_callVi C (ss_X2_has (bo_ok g1) e5) (dd_X7_fits.at 10 rfl) ck_1 rfl (sh_o (bo_ok g1)) kk_X2_has ki_X2_has lm_RX7_119 (lb_ rfl) rfl rfl (lb_ rfl) ?_
    rcases ifo_ hf with ⟨hc, hf⟩ | ⟨hc, hf⟩
    · refine xx_if_eq_t (tgt := 35) C (dd_X7_fits.at 11 rfl) (by decide) hc ?_
      refine xx_iconst C (dd_X7_fits.at 17 rfl) ic_m1 ?_
      exact xx_ireturn C (rt_iwp hf Q) (dd_X7_fits.at 18 rfl) rfl
    · refine xx_if_eq_f (tgt := 35) C (dd_X7_fits.at 11 rfl) (by decide) hc ?_
      refine xx_aload_n C (dd_X7_fits.at 12 rfl) rfl (Nat.le_of_ble_eq_true rfl) ?_
      refine xx_getR (j := 0) (r := 2) C ck_6 (lb_ rfl) lf_RX7_14 sh_k1 rfl (lb_ rfl) rfl (dd_X7_fits.at 13 rfl) ?_
      refine xx_iload_n C (dd_X7_fits.at 14 rfl) rfl ?_
      refine xx_callVi C (ss_X5r_allows rfl) (dd_X7_fits.at 15 rfl) ck_4 rfl sh_k2 kk_X5_allows ki_X5_allows lm_RX7_63 (lb_ rfl) rfl rfl (lb_ rfl) ?_
      rcases ifo_ hf with ⟨hc, hf⟩ | ⟨hc, hf⟩
      · refine xx_if_ne_f (tgt := 37) C (dd_X7_fits.at 16 rfl) (by decide) (not_not_intro hc) ?_
        refine xx_iconst C (dd_X7_fits.at 17 rfl) ic_m1 ?_
        exact xx_ireturn C (rt_iwp hf Q) (dd_X7_fits.at 18 rfl) rfl
      · refine xx_if_ne_t (tgt := 37) C (dd_X7_fits.at 16 rfl) (by decide) hc ?_
        refine xx_aload_n C (dd_X7_fits.at 19 rfl) rfl (Nat.le_of_ble_eq_true rfl) ?_
        refine xx_iload_n C (dd_X7_fits.at 20 rfl) rfl ?_
        obtain ⟨v6, e7, hf⟩ := bdo_ hf
        refine xx_callVi C (ss_X7_findingOfReading e7) (dd_X7_fits.at 21 rfl) ck_6 rfl sh_k1 kk_X7_findingOfReading ki_X7_findingOfReading lm_RX7_184 (lb_ rfl) rfl rfl (lb_ rfl) ?_
        refine xx_istore (lv' := [_, _, _, _, _]) C (dd_X7_fits.at 22 rfl) (lb_ rfl) rfl ?_
        refine xx_iload C (dd_X7_fits.at 23 rfl) rfl ?_
        rcases ifo_ hf with ⟨hc, hf⟩ | ⟨hc, hf⟩
        · refine xx_if_eq_t (tgt := 59) C (dd_X7_fits.at 24 rfl) (by decide) hc ?_
          refine xx_aload_n C (dd_X7_fits.at 30 rfl) rfl (Nat.le_of_ble_eq_true rfl) ?_
          refine xx_getR (j := 7) (r := h.2.2.1) C ck_6 (lb_ rfl) lf_RX7_55 sh_k1 rfl (lb_ rfl) rfl (dd_X7_fits.at 31 rfl) ?_
          refine xx_iload_n C (dd_X7_fits.at 32 rfl) rfl ?_
          refine xx_iload_n C (dd_X7_fits.at 33 rfl) rfl ?_
          refine xx_aload_n C (dd_X7_fits.at 34 rfl) rfl (Nat.le_of_ble_eq_true rfl) ?_
          refine xx_getR (j := 0) (r := 2) C ck_6 (lb_ rfl) lf_RX7_14 sh_k1 rfl (lb_ rfl) rfl (dd_X7_fits.at 35 rfl) ?_
          refine xx_getR (j := 0) (r := 3) C ck_4 (lb_ rfl) lf_RX7_79 sh_k2 rfl (lb_ rfl) rfl (dd_X7_fits.at 36 rfl) ?_
          refine xx_iload_n C (dd_X7_fits.at 37 rfl) rfl ?_
          obtain ⟨g8, hf⟩ := gd_ok hf
          refine xx_aaload (r := (4 + Int32.toNatClampNeg a3)) C (dd_X7_fits.at 38 rfl) sh_k3 (bi_ok g8) (sh_lt (sh_e3 (bi_ok g8))) rfl ?_
          obtain ⟨v9, e10, hf⟩ := bdo_ hf
          refine xx_callVi C (ss_X2_canRead (bo_ok g1) (sh_pos (sh_e3 (bi_ok g8))) e10) (dd_X7_fits.at 39 rfl) ck_1 rfl (sh_o (bo_ok g1)) kk_X2_canRead ki_X2_canRead lm_RX7_187 (lb_ rfl) rfl rfl (lb_ rfl) ?_
          rcases ifo_ hf with ⟨hc, hf⟩ | ⟨hc, hf⟩
          · refine xx_if_eq_t (tgt := 84) C (dd_X7_fits.at 40 rfl) (by decide) hc ?_
            refine xx_iconst C (dd_X7_fits.at 43 rfl) ic_0 ?_
            exact xx_ireturn C (rt_iwp hf Q) (dd_X7_fits.at 44 rfl) rfl
          · refine xx_if_eq_f (tgt := 84) C (dd_X7_fits.at 40 rfl) (by decide) hc ?_
            refine xx_iconst C (dd_X7_fits.at 41 rfl) ic_1 ?_
            refine xx_goto (tgt := 85) C (dd_X7_fits.at 42 rfl) (by decide) ?_
            exact xx_ireturn C (rt_iwp hf Q) (dd_X7_fits.at 44 rfl) rfl
        · refine xx_if_eq_f (tgt := 59) C (dd_X7_fits.at 24 rfl) (by decide) hc ?_
          refine xx_aload_n C (dd_X7_fits.at 25 rfl) rfl (Nat.le_of_ble_eq_true rfl) ?_
          refine xx_getR (j := 5) (r := 36) C ck_6 (lb_ rfl) lf_RX7_44 sh_k1 rfl (lb_ rfl) rfl (dd_X7_fits.at 26 rfl) ?_
          refine xx_iload C (dd_X7_fits.at 27 rfl) rfl ?_
          obtain ⟨v11, e12, hf⟩ := bdo_ hf
          refine xx_callVi C (ss_X6_refuse (pz_ e12)) (dd_X7_fits.at 28 rfl) ck_5 rfl sh_k36 kk_X6_refuse ki_X6_refuse lm_RX7_67 (lb_ rfl) rfl rfl (lb_ rfl) ?_
          exact xx_ireturn C (rt_iwp hf Q) (dd_X7_fits.at 29 rfl) rfl
theorem ss_X2_headsThatFit_5 {Z : zz_} (C : cx_ Z mt_X2_headsThatFit 4) {r9 : Int32} {x0 : Nat} {x1 : Int32} {x2 : Nat} {h : hh_}  (Q : rq_ Z (some (.int r9)) h) (ho0 : isO_ x0) (hp2 : 0 < x2) : ∀ (n9 : Nat) (x3 : Int32) (x4 : Int32), ff_X2_headsThatFit_5 x0 x1 x2 h n9 x3 x4 = some r9 → xx_ Z 5 [some (.ref x0), some (.int x1), some (.ref x2), some (.int x3), some (.int x4)] [] h := by
  intro n9
  induction n9 with
  | zero =>
    intro x3 x4 hf
    exact absurd hf (by rw [ff_X2_headsThatFit_5]; exact nofun)
  | succ n9 ih =>
    intro x3 x4 hf
    rw [ff_X2_headsThatFit_5] at hf
    refine xx_iload C (dd_X2_headsThatFit.at 4 rfl) rfl ?_
    refine xx_aload_n C (dd_X2_headsThatFit.at 5 rfl) rfl (isO_pos ho0) ?_
    refine xx_getR (j := 4) (r := (x0 + 23)) C ck_1 (lb_ rfl) lf_RX2_25 (sh_o ho0) rfl (rc_o4 ho0) (rf_o4 ho0) (dd_X2_headsThatFit.at 6 rfl) ?_
    refine xx_iconst C (dd_X2_headsThatFit.at 7 rfl) ic_0 ?_
    refine xx_iaload C (dd_X2_headsThatFit.at 8 rfl) (sh_o23 ho0) (bi_ok (i := (0 : Int32)) (n := 3) rfl) ?_
    rcases ifo_ hf with ⟨hc, hf⟩ | ⟨hc, hf⟩
    · refine xx_icmp_ge_t (tgt := 40) C (dd_X2_headsThatFit.at 9 rfl) (by decide) hc ?_
      refine xx_iload_n C (dd_X2_headsThatFit.at 24 rfl) rfl ?_
      exact xx_ireturn C (rt_ip hf Q) (dd_X2_headsThatFit.at 25 rfl) rfl
    · refine xx_icmp_ge_f (tgt := 40) C (dd_X2_headsThatFit.at 9 rfl) (by decide) hc ?_
      refine xx_aload_n C (dd_X2_headsThatFit.at 10 rfl) rfl (isO_pos ho0) ?_
      refine xx_iload_n C (dd_X2_headsThatFit.at 11 rfl) rfl ?_
      refine xx_iload C (dd_X2_headsThatFit.at 12 rfl) rfl ?_
      refine xx_aload_n C (dd_X2_headsThatFit.at 13 rfl) rfl hp2 ?_
      obtain ⟨v1, e2, hf⟩ := bdo_ hf
      refine xx_callVi C (ss_X2_canRead ho0 hp2 e2) (dd_X2_headsThatFit.at 14 rfl) ck_1 rfl (sh_o ho0) kk_X2_canRead ki_X2_canRead lm_RX2_98 (lb_ rfl) rfl rfl (lb_ rfl) ?_
      rcases ifo_ hf with ⟨hc, hf⟩ | ⟨hc, hf⟩
      · refine xx_if_eq_t (tgt := 34) C (dd_X2_headsThatFit.at 15 rfl) (by decide) hc ?_
        refine xx_iinc (v := _ + (1 : Int32)) (lv' := [_, _, _, _, _]) C (dd_X2_headsThatFit.at 22 rfl) (lb_ rfl) rfl (by rw [ic_1]) rfl ?_
        refine xx_goto (tgt := 5) C (dd_X2_headsThatFit.at 23 rfl) (by decide) ?_
        exact xx_mask [true, true, true, true, true] (ih _ _ hf)
      · refine xx_if_eq_f (tgt := 34) C (dd_X2_headsThatFit.at 15 rfl) (by decide) hc ?_
        refine xx_iload_n C (dd_X2_headsThatFit.at 16 rfl) rfl ?_
        refine xx_iconst C (dd_X2_headsThatFit.at 17 rfl) ic_1 ?_
        refine xx_iload C (dd_X2_headsThatFit.at 18 rfl) rfl ?_
        refine xx_ishl C (dd_X2_headsThatFit.at 19 rfl) ?_
        refine xx_ior C (dd_X2_headsThatFit.at 20 rfl) ?_
        refine xx_istore_n (lv' := [_, _, _, _, _]) C (dd_X2_headsThatFit.at 21 rfl) (lb_ rfl) rfl ?_
        refine xx_iinc (v := _ + (1 : Int32)) (lv' := [_, _, _, _, _]) C (dd_X2_headsThatFit.at 22 rfl) (lb_ rfl) rfl (by rw [ic_1]) rfl ?_
        refine xx_goto (tgt := 5) C (dd_X2_headsThatFit.at 23 rfl) (by decide) ?_
        exact xx_mask [true, true, true, true, true] (ih _ _ hf)
theorem ss_X2_headsThatFit {l : Launch} {G : gt_} {o : Nat} {a1 : Int32} {a2 : Nat} {h : hh_} {r9 : Int32} (ho : isO_ o) (hp2 : 0 < a2) (hf : ff_X2_headsThatFit o a1 a2 h = some r9) : ok_ l G 4 mt_X2_headsThatFit [.ref o, .int a1, .ref a2] h (some (.int r9)) h := by
  refine ok_of pn_RX2 (lb_ rfl) (fun Z _ _ C Q => ?_)
  show xx_ Z 0 [some (.ref o), some (.int a1), some (.ref a2), none, none] [] h
  unfold ff_X2_headsThatFit at hf
  refine xx_iconst C (dd_X2_headsThatFit.at 0 rfl) ic_0 ?_
  refine xx_istore_n (lv' := [_, _, _, _, _]) C (dd_X2_headsThatFit.at 1 rfl) (lb_ rfl) rfl ?_
  refine xx_iconst C (dd_X2_headsThatFit.at 2 rfl) ic_0 ?_
  refine xx_istore (lv' := [_, _, _, _, _]) C (dd_X2_headsThatFit.at 3 rfl) (lb_ rfl) rfl ?_
  exact xx_mask [true, true, true, true, true] (ss_X2_headsThatFit_5 C Q ho hp2 _ _ _ hf)
theorem ss_X7_whose_50 {Z : zz_} (C : cx_ Z mt_X7_whose 5) {r9 : Int32} {h9 : hh_} {x1 : Int32} {x2 : Int32} {h : hh_} {K50_93 : Int32 → Option (Int32 × hh_)} (Q : rq_ Z (some (.int r9)) h9) (hK50_93 : ∀ (z4 : Int32), K50_93 z4 = some (r9, h9) → xx_ Z 93 [some (.ref 1), some (.int x1), some (.int x2), none, some (.int z4), none] [] h) : ∀ (n9 : Nat) (x4 : Int32) (x5 : Int32), ff_X7_whose_50 x1 x2 h K50_93 n9 x4 x5 = some (r9, h9) → xx_ Z 50 [some (.ref 1), some (.int x1), some (.int x2), none, some (.int x4), some (.int x5)] [] h := by
  intro n9
  induction n9 with
  | zero =>
    intro x4 x5 hf
    exact absurd hf (by rw [ff_X7_whose_50]; exact nofun)
  | succ n9 ih =>
    intro x4 x5 hf
    rw [ff_X7_whose_50] at hf
    refine xx_iload C (dd_X7_whose.at 28 rfl) rfl ?_
    refine xx_aload_n C (dd_X7_whose.at 29 rfl) rfl (Nat.le_of_ble_eq_true rfl) ?_
    obtain ⟨g6, hf⟩ := gd_ok hf
    refine xx_getR (j := 7) (r := h.2.2.1) C ck_6 (lb_ rfl) lf_RX7_55 sh_k1 rfl (lb_ rfl) rfl (dd_X7_whose.at 30 rfl) ?_
    refine xx_getR (j := 4) (r := (h.2.2.1 + 23)) C ck_1 (lb_ rfl) lf_RX7_118 (sh_o (bo_ok g6)) rfl (rc_o4 (bo_ok g6)) (rf_o4 (bo_ok g6)) (dd_X7_whose.at 31 rfl) ?_
    refine xx_iconst C (dd_X7_whose.at 32 rfl) ic_1 ?_
    refine xx_iaload C (dd_X7_whose.at 33 rfl) (sh_o23 (bo_ok g6)) (bi_ok (i := (1 : Int32)) (n := 3) rfl) ?_
    rcases ifo_ hf with ⟨hc, hf⟩ | ⟨hc, hf⟩
    · refine xx_icmp_ge_t (tgt := 93) C (dd_X7_whose.at 34 rfl) (by decide) hc ?_
      exact xx_mask [true, true, true, false, true, false] (hK50_93 _ hf)
    · refine xx_icmp_ge_f (tgt := 93) C (dd_X7_whose.at 34 rfl) (by decide) hc ?_
      refine xx_iload C (dd_X7_whose.at 35 rfl) rfl ?_
      refine xx_aload_n C (dd_X7_whose.at 36 rfl) rfl (Nat.le_of_ble_eq_true rfl) ?_
      refine xx_getR (j := 7) (r := h.2.2.1) C ck_6 (lb_ rfl) lf_RX7_55 sh_k1 rfl (lb_ rfl) rfl (dd_X7_whose.at 37 rfl) ?_
      refine xx_iload C (dd_X7_whose.at 38 rfl) rfl ?_
      refine xx_aload_n C (dd_X7_whose.at 39 rfl) rfl (Nat.le_of_ble_eq_true rfl) ?_
      refine xx_getR (j := 0) (r := 2) C ck_6 (lb_ rfl) lf_RX7_14 sh_k1 rfl (lb_ rfl) rfl (dd_X7_whose.at 40 rfl) ?_
      refine xx_getR (j := 0) (r := 3) C ck_4 (lb_ rfl) lf_RX7_79 sh_k2 rfl (lb_ rfl) rfl (dd_X7_whose.at 41 rfl) ?_
      refine xx_iload_n C (dd_X7_whose.at 42 rfl) rfl ?_
      obtain ⟨g7, hf⟩ := gd_ok hf
      refine xx_aaload (r := (4 + Int32.toNatClampNeg x2)) C (dd_X7_whose.at 43 rfl) sh_k3 (bi_ok g7) (sh_lt (sh_e3 (bi_ok g7))) rfl ?_
      obtain ⟨v8, e9, hf⟩ := bdo_ hf
      refine xx_callVi C (ss_X2_headsThatFit (bo_ok g6) (sh_pos (sh_e3 (bi_ok g7))) e9) (dd_X7_whose.at 44 rfl) ck_1 rfl (sh_o (bo_ok g6)) kk_X2_headsThatFit ki_X2_headsThatFit lm_RX7_191 (lb_ rfl) rfl rfl (lb_ rfl) ?_
      refine xx_ior C (dd_X7_whose.at 45 rfl) ?_
      refine xx_istore (lv' := [_, _, _, _, _, _]) C (dd_X7_whose.at 46 rfl) (lb_ rfl) rfl ?_
      refine xx_iinc (v := _ + (1 : Int32)) (lv' := [_, _, _, _, _, _]) C (dd_X7_whose.at 47 rfl) (lb_ rfl) rfl (by rw [ic_1]) rfl ?_
      refine xx_goto (tgt := 50) C (dd_X7_whose.at 48 rfl) (by decide) ?_
      exact xx_mask [true, true, true, false, true, true] (ih _ _ hf)
theorem ss_X7_whose {l : Launch} {G : gt_} {a1 : Int32} {a2 : Int32} {h : hh_} {r9 : Int32} {h9 : hh_}  (hf : ff_X7_whose a1 a2 h = some (r9, h9)) : ok_ l G 5 mt_X7_whose [.ref 1, .int a1, .int a2] h (some (.int r9)) h9 := by
  refine ok_of pn_RX7 (lb_ rfl) (fun Z _ _ C Q => ?_)
  show xx_ Z 0 [some (.ref 1), some (.int a1), some (.int a2), none, none, none] [] h
  unfold ff_X7_whose at hf
  refine xx_aload_n C (dd_X7_whose.at 0 rfl) rfl (Nat.le_of_ble_eq_true rfl) ?_
  obtain ⟨g1, hf⟩ := gd_ok hf
  refine xx_getR (j := 7) (r := h.2.2.1) C ck_6 (lb_ rfl) lf_RX7_55 sh_k1 rfl (lb_ rfl) rfl (dd_X7_whose.at 1 rfl) ?_
  refine xx_iconst C (dd_X7_whose.at 2 rfl) ic_1 ?_
  refine xx_iload_n C (dd_X7_whose.at 3 rfl) rfl ?_
  obtain ⟨v2, e3, hf⟩ := bdo_ hf
  refine xx_callVi C (ss_X2_has (bo_ok g1) e3) (dd_X7_whose.at 4 rfl) ck_1 rfl (sh_o (bo_ok g1)) kk_X2_has ki_X2_has lm_RX7_119 (lb_ rfl) rfl rfl (lb_ rfl) ?_
  rcases ifo_ hf with ⟨hc, hf⟩ | ⟨hc, hf⟩
  · refine xx_if_eq_t (tgt := 23) C (dd_X7_whose.at 5 rfl) (by decide) hc ?_
    refine xx_iconst C (dd_X7_whose.at 11 rfl) ic_m1 ?_
    exact xx_ireturn C (rt_iwp hf Q) (dd_X7_whose.at 12 rfl) rfl
  · refine xx_if_eq_f (tgt := 23) C (dd_X7_whose.at 5 rfl) (by decide) hc ?_
    refine xx_aload_n C (dd_X7_whose.at 6 rfl) rfl (Nat.le_of_ble_eq_true rfl) ?_
    refine xx_getR (j := 0) (r := 2) C ck_6 (lb_ rfl) lf_RX7_14 sh_k1 rfl (lb_ rfl) rfl (dd_X7_whose.at 7 rfl) ?_
    refine xx_iload_n C (dd_X7_whose.at 8 rfl) rfl ?_
    refine xx_callVi C (ss_X5r_allows rfl) (dd_X7_whose.at 9 rfl) ck_4 rfl sh_k2 kk_X5_allows ki_X5_allows lm_RX7_63 (lb_ rfl) rfl rfl (lb_ rfl) ?_
    rcases ifo_ hf with ⟨hc, hf⟩ | ⟨hc, hf⟩
    · refine xx_if_ne_f (tgt := 25) C (dd_X7_whose.at 10 rfl) (by decide) (not_not_intro hc) ?_
      refine xx_iconst C (dd_X7_whose.at 11 rfl) ic_m1 ?_
      exact xx_ireturn C (rt_iwp hf Q) (dd_X7_whose.at 12 rfl) rfl
    · refine xx_if_ne_t (tgt := 25) C (dd_X7_whose.at 10 rfl) (by decide) hc ?_
      refine xx_aload_n C (dd_X7_whose.at 13 rfl) rfl (Nat.le_of_ble_eq_true rfl) ?_
      refine xx_iload_n C (dd_X7_whose.at 14 rfl) rfl ?_
      obtain ⟨v4, e5, hf⟩ := bdo_ hf
      refine xx_callVi C (ss_X7_findingOfReading e5) (dd_X7_whose.at 15 rfl) ck_6 rfl sh_k1 kk_X7_findingOfReading ki_X7_findingOfReading lm_RX7_184 (lb_ rfl) rfl rfl (lb_ rfl) ?_
      refine xx_istore_n (lv' := [_, _, _, _, _, _]) C (dd_X7_whose.at 16 rfl) (lb_ rfl) rfl ?_
      refine xx_iload_n C (dd_X7_whose.at 17 rfl) rfl ?_
      rcases ifo_ hf with ⟨hc, hf⟩ | ⟨hc, hf⟩
      · refine xx_if_eq_t (tgt := 44) C (dd_X7_whose.at 18 rfl) (by decide) hc ?_
        refine xx_iconst C (dd_X7_whose.at 24 rfl) ic_0 ?_
        refine xx_istore (lv' := [_, _, _, _, _, _]) C (dd_X7_whose.at 25 rfl) (lb_ rfl) rfl ?_
        refine xx_iconst C (dd_X7_whose.at 26 rfl) ic_0 ?_
        refine xx_istore (lv' := [_, _, _, _, _, _]) C (dd_X7_whose.at 27 rfl) (lb_ rfl) rfl ?_
        refine xx_mask [true, true, true, false, true, true] (ss_X7_whose_50 C Q (fun u10 hf => ?_) _ _ _ hf)
        refine xx_aload_n C (dd_X7_whose.at 49 rfl) rfl (Nat.le_of_ble_eq_true rfl) ?_
        refine xx_getR (j := 5) (r := 36) C ck_6 (lb_ rfl) lf_RX7_44 sh_k1 rfl (lb_ rfl) rfl (dd_X7_whose.at 50 rfl) ?_
        refine xx_iload C (dd_X7_whose.at 51 rfl) rfl ?_
        refine xx_callVi C (ss_X6_tell pe_) (dd_X7_whose.at 52 rfl) ck_5 rfl sh_k36 kk_X6_tell ki_X6_tell lm_RX7_83 (lb_ rfl) rfl rfl (lb_ rfl) ?_
        refine xx_pop C (dd_X7_whose.at 53 rfl) rfl ?_
        refine xx_aload_n C (dd_X7_whose.at 54 rfl) rfl (Nat.le_of_ble_eq_true rfl) ?_
        obtain ⟨g11, hf⟩ := gd_ok hf
        refine xx_getR (j := 7) (r := (ff_X6_tell u10 h).2.2.2.1) C ck_6 (lb_ rfl) lf_RX7_55 sh_k1 rfl (lb_ rfl) rfl (dd_X7_whose.at 55 rfl) ?_
        refine xx_iload_n C (dd_X7_whose.at 56 rfl) rfl ?_
        refine xx_aload_n C (dd_X7_whose.at 57 rfl) rfl (Nat.le_of_ble_eq_true rfl) ?_
        refine xx_getR (j := 0) (r := 2) C ck_6 (lb_ rfl) lf_RX7_14 sh_k1 rfl (lb_ rfl) rfl (dd_X7_whose.at 58 rfl) ?_
        refine xx_getR (j := 0) (r := 3) C ck_4 (lb_ rfl) lf_RX7_79 sh_k2 rfl (lb_ rfl) rfl (dd_X7_whose.at 59 rfl) ?_
        refine xx_iload_n C (dd_X7_whose.at 60 rfl) rfl ?_
        obtain ⟨g12, hf⟩ := gd_ok hf
        refine xx_aaload (r := (4 + Int32.toNatClampNeg a2)) C (dd_X7_whose.at 61 rfl) sh_k3 (bi_ok g12) (sh_lt (sh_e3 (bi_ok g12))) rfl ?_
        obtain ⟨v13, e14, hf⟩ := bdo_ hf
        refine xx_callVi C (ss_X2_headsThatFit (bo_ok g11) (sh_pos (sh_e3 (bi_ok g12))) e14) (dd_X7_whose.at 62 rfl) ck_1 rfl (sh_o (bo_ok g11)) kk_X2_headsThatFit ki_X2_headsThatFit lm_RX7_191 (lb_ rfl) rfl rfl (lb_ rfl) ?_
        exact xx_ireturn C (rt_iwp hf Q) (dd_X7_whose.at 63 rfl) rfl
      · refine xx_if_eq_f (tgt := 44) C (dd_X7_whose.at 18 rfl) (by decide) hc ?_
        refine xx_aload_n C (dd_X7_whose.at 19 rfl) rfl (Nat.le_of_ble_eq_true rfl) ?_
        refine xx_getR (j := 5) (r := 36) C ck_6 (lb_ rfl) lf_RX7_44 sh_k1 rfl (lb_ rfl) rfl (dd_X7_whose.at 20 rfl) ?_
        refine xx_iload_n C (dd_X7_whose.at 21 rfl) rfl ?_
        obtain ⟨v15, e16, hf⟩ := bdo_ hf
        refine xx_callVi C (ss_X6_refuse (pz_ e16)) (dd_X7_whose.at 22 rfl) ck_5 rfl sh_k36 kk_X6_refuse ki_X6_refuse lm_RX7_67 (lb_ rfl) rfl rfl (lb_ rfl) ?_
        exact xx_ireturn C (rt_iwp hf Q) (dd_X7_whose.at 23 rfl) rfl
theorem ss_X7_who_50 {Z : zz_} (C : cx_ Z mt_X7_who 4) {r9 : Int32} {h9 : hh_} {x1 : Int32} {x2 : Int32} {h : hh_}  (Q : rq_ Z (some (.int r9)) h9) : ∀ (n9 : Nat) (x4 : Int32) (x5 : Int32), ff_X7_who_50 x1 x2 h n9 x4 x5 = some (r9, h9) → xx_ Z 50 [some (.ref 1), some (.int x1), some (.int x2), none, some (.int x4), some (.int x5)] [] h := by
  intro n9
  induction n9 with
  | zero =>
    intro x4 x5 hf
    exact absurd hf (by rw [ff_X7_who_50]; exact nofun)
  | succ n9 ih =>
    intro x4 x5 hf
    rw [ff_X7_who_50] at hf
    refine xx_iload C (dd_X7_who.at 28 rfl) rfl ?_
    refine xx_aload_n C (dd_X7_who.at 29 rfl) rfl (Nat.le_of_ble_eq_true rfl) ?_
    obtain ⟨g6, hf⟩ := gd_ok hf
    refine xx_getR (j := 7) (r := h.2.2.1) C ck_6 (lb_ rfl) lf_RX7_55 sh_k1 rfl (lb_ rfl) rfl (dd_X7_who.at 30 rfl) ?_
    refine xx_getR (j := 4) (r := (h.2.2.1 + 23)) C ck_1 (lb_ rfl) lf_RX7_118 (sh_o (bo_ok g6)) rfl (rc_o4 (bo_ok g6)) (rf_o4 (bo_ok g6)) (dd_X7_who.at 31 rfl) ?_
    refine xx_iconst C (dd_X7_who.at 32 rfl) ic_1 ?_
    refine xx_iaload C (dd_X7_who.at 33 rfl) (sh_o23 (bo_ok g6)) (bi_ok (i := (1 : Int32)) (n := 3) rfl) ?_
    rcases ifo_ hf with ⟨hc, hf⟩ | ⟨hc, hf⟩
    · refine xx_icmp_ge_t (tgt := 101) C (dd_X7_who.at 34 rfl) (by decide) hc ?_
      refine xx_iload C (dd_X7_who.at 54 rfl) rfl ?_
      exact xx_ireturn C (rt_iwp hf Q) (dd_X7_who.at 55 rfl) rfl
    · refine xx_icmp_ge_f (tgt := 101) C (dd_X7_who.at 34 rfl) (by decide) hc ?_
      refine xx_aload_n C (dd_X7_who.at 35 rfl) rfl (Nat.le_of_ble_eq_true rfl) ?_
      refine xx_getR (j := 7) (r := h.2.2.1) C ck_6 (lb_ rfl) lf_RX7_55 sh_k1 rfl (lb_ rfl) rfl (dd_X7_who.at 36 rfl) ?_
      refine xx_iload C (dd_X7_who.at 37 rfl) rfl ?_
      refine xx_iload_n C (dd_X7_who.at 38 rfl) rfl ?_
      refine xx_aload_n C (dd_X7_who.at 39 rfl) rfl (Nat.le_of_ble_eq_true rfl) ?_
      refine xx_getR (j := 0) (r := 2) C ck_6 (lb_ rfl) lf_RX7_14 sh_k1 rfl (lb_ rfl) rfl (dd_X7_who.at 40 rfl) ?_
      refine xx_getR (j := 0) (r := 3) C ck_4 (lb_ rfl) lf_RX7_79 sh_k2 rfl (lb_ rfl) rfl (dd_X7_who.at 41 rfl) ?_
      refine xx_iload_n C (dd_X7_who.at 42 rfl) rfl ?_
      obtain ⟨g7, hf⟩ := gd_ok hf
      refine xx_aaload (r := (4 + Int32.toNatClampNeg x2)) C (dd_X7_who.at 43 rfl) sh_k3 (bi_ok g7) (sh_lt (sh_e3 (bi_ok g7))) rfl ?_
      obtain ⟨v8, e9, hf⟩ := bdo_ hf
      refine xx_callVi C (ss_X2_canRead (bo_ok g6) (sh_pos (sh_e3 (bi_ok g7))) e9) (dd_X7_who.at 44 rfl) ck_1 rfl (sh_o (bo_ok g6)) kk_X2_canRead ki_X2_canRead lm_RX7_187 (lb_ rfl) rfl rfl (lb_ rfl) ?_
      rcases ifo_ hf with ⟨hc, hf⟩ | ⟨hc, hf⟩
      · refine xx_if_eq_t (tgt := 95) C (dd_X7_who.at 45 rfl) (by decide) hc ?_
        refine xx_iinc (v := _ + (1 : Int32)) (lv' := [_, _, _, _, _, _]) C (dd_X7_who.at 52 rfl) (lb_ rfl) rfl (by rw [ic_1]) rfl ?_
        refine xx_goto (tgt := 50) C (dd_X7_who.at 53 rfl) (by decide) ?_
        exact xx_mask [true, true, true, false, true, true] (ih _ _ hf)
      · refine xx_if_eq_f (tgt := 95) C (dd_X7_who.at 45 rfl) (by decide) hc ?_
        refine xx_iload C (dd_X7_who.at 46 rfl) rfl ?_
        refine xx_iconst C (dd_X7_who.at 47 rfl) ic_1 ?_
        refine xx_iload C (dd_X7_who.at 48 rfl) rfl ?_
        refine xx_ishl C (dd_X7_who.at 49 rfl) ?_
        refine xx_ior C (dd_X7_who.at 50 rfl) ?_
        refine xx_istore (lv' := [_, _, _, _, _, _]) C (dd_X7_who.at 51 rfl) (lb_ rfl) rfl ?_
        refine xx_iinc (v := _ + (1 : Int32)) (lv' := [_, _, _, _, _, _]) C (dd_X7_who.at 52 rfl) (lb_ rfl) rfl (by rw [ic_1]) rfl ?_
        refine xx_goto (tgt := 50) C (dd_X7_who.at 53 rfl) (by decide) ?_
        exact xx_mask [true, true, true, false, true, true] (ih _ _ hf)
theorem ss_X7_who {l : Launch} {G : gt_} {a1 : Int32} {a2 : Int32} {h : hh_} {r9 : Int32} {h9 : hh_}  (hf : ff_X7_who a1 a2 h = some (r9, h9)) : ok_ l G 4 mt_X7_who [.ref 1, .int a1, .int a2] h (some (.int r9)) h9 := by
  refine ok_of pn_RX7 (lb_ rfl) (fun Z _ _ C Q => ?_)
  show xx_ Z 0 [some (.ref 1), some (.int a1), some (.int a2), none, none, none] [] h
  unfold ff_X7_who at hf
  refine xx_aload_n C (dd_X7_who.at 0 rfl) rfl (Nat.le_of_ble_eq_true rfl) ?_
  obtain ⟨g1, hf⟩ := gd_ok hf
  refine xx_getR (j := 7) (r := h.2.2.1) C ck_6 (lb_ rfl) lf_RX7_55 sh_k1 rfl (lb_ rfl) rfl (dd_X7_who.at 1 rfl) ?_
  refine xx_iconst C (dd_X7_who.at 2 rfl) ic_0 ?_
  refine xx_iload_n C (dd_X7_who.at 3 rfl) rfl ?_
  obtain ⟨v2, e3, hf⟩ := bdo_ hf
  refine xx_callVi C (ss_X2_has (bo_ok g1) e3) (dd_X7_who.at 4 rfl) ck_1 rfl (sh_o (bo_ok g1)) kk_X2_has ki_X2_has lm_RX7_119 (lb_ rfl) rfl rfl (lb_ rfl) ?_
  rcases ifo_ hf with ⟨hc, hf⟩ | ⟨hc, hf⟩
  · refine xx_if_eq_t (tgt := 23) C (dd_X7_who.at 5 rfl) (by decide) hc ?_
    refine xx_iconst C (dd_X7_who.at 11 rfl) ic_m1 ?_
    exact xx_ireturn C (rt_iwp hf Q) (dd_X7_who.at 12 rfl) rfl
  · refine xx_if_eq_f (tgt := 23) C (dd_X7_who.at 5 rfl) (by decide) hc ?_
    refine xx_aload_n C (dd_X7_who.at 6 rfl) rfl (Nat.le_of_ble_eq_true rfl) ?_
    refine xx_getR (j := 0) (r := 2) C ck_6 (lb_ rfl) lf_RX7_14 sh_k1 rfl (lb_ rfl) rfl (dd_X7_who.at 7 rfl) ?_
    refine xx_iload_n C (dd_X7_who.at 8 rfl) rfl ?_
    refine xx_callVi C (ss_X5r_allows rfl) (dd_X7_who.at 9 rfl) ck_4 rfl sh_k2 kk_X5_allows ki_X5_allows lm_RX7_63 (lb_ rfl) rfl rfl (lb_ rfl) ?_
    rcases ifo_ hf with ⟨hc, hf⟩ | ⟨hc, hf⟩
    · refine xx_if_ne_f (tgt := 25) C (dd_X7_who.at 10 rfl) (by decide) (not_not_intro hc) ?_
      refine xx_iconst C (dd_X7_who.at 11 rfl) ic_m1 ?_
      exact xx_ireturn C (rt_iwp hf Q) (dd_X7_who.at 12 rfl) rfl
    · refine xx_if_ne_t (tgt := 25) C (dd_X7_who.at 10 rfl) (by decide) hc ?_
      refine xx_aload_n C (dd_X7_who.at 13 rfl) rfl (Nat.le_of_ble_eq_true rfl) ?_
      refine xx_iload_n C (dd_X7_who.at 14 rfl) rfl ?_
      obtain ⟨v4, e5, hf⟩ := bdo_ hf
      refine xx_callVi C (ss_X7_findingOfReading e5) (dd_X7_who.at 15 rfl) ck_6 rfl sh_k1 kk_X7_findingOfReading ki_X7_findingOfReading lm_RX7_184 (lb_ rfl) rfl rfl (lb_ rfl) ?_
      refine xx_istore_n (lv' := [_, _, _, _, _, _]) C (dd_X7_who.at 16 rfl) (lb_ rfl) rfl ?_
      refine xx_iload_n C (dd_X7_who.at 17 rfl) rfl ?_
      rcases ifo_ hf with ⟨hc, hf⟩ | ⟨hc, hf⟩
      · refine xx_if_eq_t (tgt := 44) C (dd_X7_who.at 18 rfl) (by decide) hc ?_
        refine xx_iconst C (dd_X7_who.at 24 rfl) ic_0 ?_
        refine xx_istore (lv' := [_, _, _, _, _, _]) C (dd_X7_who.at 25 rfl) (lb_ rfl) rfl ?_
        refine xx_iconst C (dd_X7_who.at 26 rfl) ic_0 ?_
        refine xx_istore (lv' := [_, _, _, _, _, _]) C (dd_X7_who.at 27 rfl) (lb_ rfl) rfl ?_
        exact xx_mask [true, true, true, false, true, true] (ss_X7_who_50 C Q _ _ _ hf)
      · refine xx_if_eq_f (tgt := 44) C (dd_X7_who.at 18 rfl) (by decide) hc ?_
        refine xx_aload_n C (dd_X7_who.at 19 rfl) rfl (Nat.le_of_ble_eq_true rfl) ?_
        refine xx_getR (j := 5) (r := 36) C ck_6 (lb_ rfl) lf_RX7_44 sh_k1 rfl (lb_ rfl) rfl (dd_X7_who.at 20 rfl) ?_
        refine xx_iload_n C (dd_X7_who.at 21 rfl) rfl ?_
        obtain ⟨v10, e11, hf⟩ := bdo_ hf
        refine xx_callVi C (ss_X6_refuse (pz_ e11)) (dd_X7_who.at 22 rfl) ck_5 rfl sh_k36 kk_X6_refuse ki_X6_refuse lm_RX7_67 (lb_ rfl) rfl rfl (lb_ rfl) ?_
        exact xx_ireturn C (rt_iwp hf Q) (dd_X7_who.at 23 rfl) rfl
theorem ss_X2_ways {l : Launch} {G : gt_} {o : Nat} {a1 : Int32} {a2 : Int32} {a3 : Int32} {h : hh_} {r9 : Int32} (ho : isO_ o) (hf : ff_X2_ways o a1 a2 a3 h = some r9) : ok_ l G 3 mt_X2_ways [.ref o, .int a1, .int a2, .int a3] h (some (.int r9)) h := by
  refine ok_of pn_RX2 (lb_ rfl) (fun Z _ _ C Q => ?_)
  show xx_ Z 0 [some (.ref o), some (.int a1), some (.int a2), some (.int a3)] [] h
  unfold ff_X2_ways at hf
  refine xx_iconst C (dd_X2_ways.at 0 rfl) ic_1 ?_
  refine xx_aload_n C (dd_X2_ways.at 1 rfl) rfl (isO_pos ho) ?_
  refine xx_iload_n C (dd_X2_ways.at 2 rfl) rfl ?_
  refine xx_iload_n C (dd_X2_ways.at 3 rfl) rfl ?_
  refine xx_iload_n C (dd_X2_ways.at 4 rfl) rfl ?_
  refine xx_iconst C (dd_X2_ways.at 5 rfl) ic_0 ?_
  obtain ⟨v1, e2, hf⟩ := bdo_ hf
  refine xx_callVi C (ss_X2_most ho e2) (dd_X2_ways.at 6 rfl) ck_1 rfl (sh_o ho) kk_X2_most ki_X2_most lm_RX2_92 (lb_ rfl) rfl rfl (lb_ rfl) ?_
  refine xx_aload_n C (dd_X2_ways.at 7 rfl) rfl (isO_pos ho) ?_
  refine xx_iload_n C (dd_X2_ways.at 8 rfl) rfl ?_
  refine xx_iload_n C (dd_X2_ways.at 9 rfl) rfl ?_
  refine xx_iload_n C (dd_X2_ways.at 10 rfl) rfl ?_
  refine xx_iconst C (dd_X2_ways.at 11 rfl) ic_0 ?_
  obtain ⟨v3, e4, hf⟩ := bdo_ hf
  refine xx_callVi C (ss_X2_least ho e4) (dd_X2_ways.at 12 rfl) ck_1 rfl (sh_o ho) kk_X2_least ki_X2_least lm_RX2_95 (lb_ rfl) rfl rfl (lb_ rfl) ?_
  refine xx_isub C (dd_X2_ways.at 13 rfl) ?_
  refine xx_iconst C (dd_X2_ways.at 14 rfl) ic_1 ?_
  refine xx_iadd C (dd_X2_ways.at 15 rfl) ?_
  refine xx_max C (dd_X2_ways.at 16 rfl) lm_RX2_89 (lb_ rfl) (lb_ rfl) ?_
  exact xx_ireturn C (rt_ip hf Q) (dd_X2_ways.at 17 rfl) rfl
theorem ss_X2_weight_46 {Z : zz_} (C : cx_ Z mt_X2_weight 4) {r9 : Int64} {x0 : Nat} {x1 : Int32} {x2 : Int32} {x3 : Int32} {x6 : Int32} {h : hh_} {K46_73 : Int64 → Option (Int64)} (Q : rq_ Z (some (.long r9)) h) (ho0 : isO_ x0) (hK46_73 : ∀ (z4 : Int64), K46_73 z4 = some r9 → xx_ Z 73 [some (.ref x0), some (.int x1), some (.int x2), some (.int x3), some (.long z4), none, some (.int x6), none] [] h) : ∀ (n9 : Nat) (x4 : Int64) (x7 : Int32), ff_X2_weight_46 x0 x1 x2 x3 x6 h K46_73 n9 x4 x7 = some r9 → xx_ Z 46 [some (.ref x0), some (.int x1), some (.int x2), some (.int x3), some (.long x4), none, some (.int x6), some (.int x7)] [] h := by
  intro n9
  induction n9 with
  | zero =>
    intro x4 x7 hf
    exact absurd hf (by rw [ff_X2_weight_46]; exact nofun)
  | succ n9 ih =>
    intro x4 x7 hf
    rw [ff_X2_weight_46] at hf
    refine xx_iload C (dd_X2_weight.at 30 rfl) rfl ?_
    refine xx_iconst C (dd_X2_weight.at 31 rfl) ic_4 ?_
    rcases ifo_ hf with ⟨hc, hf⟩ | ⟨hc, hf⟩
    · refine xx_icmp_ge_t (tgt := 73) C (dd_X2_weight.at 32 rfl) (by decide) hc ?_
      exact xx_mask [true, true, true, true, true, false, true, false] (hK46_73 _ hf)
    · refine xx_icmp_ge_f (tgt := 73) C (dd_X2_weight.at 32 rfl) (by decide) hc ?_
      refine xx_lload C (dd_X2_weight.at 33 rfl) rfl ?_
      refine xx_aload_n C (dd_X2_weight.at 34 rfl) rfl (isO_pos ho0) ?_
      refine xx_iload_n C (dd_X2_weight.at 35 rfl) rfl ?_
      refine xx_iload C (dd_X2_weight.at 36 rfl) rfl ?_
      refine xx_iload C (dd_X2_weight.at 37 rfl) rfl ?_
      obtain ⟨v1, e2, hf⟩ := bdo_ hf
      refine xx_callVi C (ss_X2_ways ho0 e2) (dd_X2_weight.at 38 rfl) ck_1 rfl (sh_o ho0) kk_X2_ways ki_X2_ways lm_RX2_102 (lb_ rfl) rfl rfl (lb_ rfl) ?_
      refine xx_i2l C (dd_X2_weight.at 39 rfl) ?_
      refine xx_lmul C (dd_X2_weight.at 40 rfl) ?_
      refine xx_lstore (lv' := [_, _, _, _, _, _, _, _]) C (dd_X2_weight.at 41 rfl) (lb_ rfl) rfl ?_
      refine xx_iinc (v := _ + (1 : Int32)) (lv' := [_, _, _, _, _, _, _, _]) C (dd_X2_weight.at 42 rfl) (lb_ rfl) rfl (by rw [ic_1]) rfl ?_
      refine xx_goto (tgt := 46) C (dd_X2_weight.at 43 rfl) (by decide) ?_
      exact xx_mask [true, true, true, true, true, false, true, true] (ih _ _ hf)
theorem ss_X2_weight_16 {Z : zz_} (C : cx_ Z mt_X2_weight 4) {r9 : Int64} {x0 : Nat} {x1 : Int32} {x2 : Int32} {x3 : Int32} {h : hh_}  (Q : rq_ Z (some (.long r9)) h) (ho0 : isO_ x0) : ∀ (n9 : Nat) (x4 : Int64) (x6 : Int32), ff_X2_weight_16 x0 x1 x2 x3 h n9 x4 x6 = some r9 → xx_ Z 16 [some (.ref x0), some (.int x1), some (.int x2), some (.int x3), some (.long x4), none, some (.int x6), none] [] h := by
  intro n9
  induction n9 with
  | zero =>
    intro x4 x6 hf
    exact absurd hf (by rw [ff_X2_weight_16]; exact nofun)
  | succ n9 ih =>
    intro x4 x6 hf
    rw [ff_X2_weight_16] at hf
    refine xx_iload C (dd_X2_weight.at 12 rfl) rfl ?_
    refine xx_aload_n C (dd_X2_weight.at 13 rfl) rfl (isO_pos ho0) ?_
    refine xx_getR (j := 4) (r := (x0 + 23)) C ck_1 (lb_ rfl) lf_RX2_25 (sh_o ho0) rfl (rc_o4 ho0) (rf_o4 ho0) (dd_X2_weight.at 14 rfl) ?_
    refine xx_iconst C (dd_X2_weight.at 15 rfl) ic_0 ?_
    refine xx_iaload C (dd_X2_weight.at 16 rfl) (sh_o23 ho0) (bi_ok (i := (0 : Int32)) (n := 3) rfl) ?_
    rcases ifo_ hf with ⟨hc, hf⟩ | ⟨hc, hf⟩
    · refine xx_icmp_ge_t (tgt := 79) C (dd_X2_weight.at 17 rfl) (by decide) hc ?_
      refine xx_lload C (dd_X2_weight.at 46 rfl) rfl ?_
      exact xx_lreturn C (rt_lp hf Q) (dd_X2_weight.at 47 rfl) rfl
    · refine xx_icmp_ge_f (tgt := 79) C (dd_X2_weight.at 17 rfl) (by decide) hc ?_
      refine xx_iload C (dd_X2_weight.at 18 rfl) rfl ?_
      refine xx_iload_n C (dd_X2_weight.at 19 rfl) rfl ?_
      rcases ifo_ hf with ⟨hc, hf⟩ | ⟨hc, hf⟩
      · refine xx_icmp_eq_t (tgt := 73) C (dd_X2_weight.at 20 rfl) (by decide) hc ?_
        refine xx_iinc (v := _ + (1 : Int32)) (lv' := [_, _, _, _, _, _, _, _]) C (dd_X2_weight.at 44 rfl) (lb_ rfl) rfl (by rw [ic_1]) rfl ?_
        refine xx_goto (tgt := 16) C (dd_X2_weight.at 45 rfl) (by decide) ?_
        exact xx_mask [true, true, true, true, true, false, true, false] (ih _ _ hf)
      · refine xx_icmp_eq_f (tgt := 73) C (dd_X2_weight.at 20 rfl) (by decide) hc ?_
        refine xx_iload_n C (dd_X2_weight.at 21 rfl) rfl ?_
        refine xx_iload C (dd_X2_weight.at 22 rfl) rfl ?_
        refine xx_ishr C (dd_X2_weight.at 23 rfl) ?_
        refine xx_iconst C (dd_X2_weight.at 24 rfl) ic_1 ?_
        refine xx_iand C (dd_X2_weight.at 25 rfl) ?_
        refine xx_iconst C (dd_X2_weight.at 26 rfl) ic_1 ?_
        rcases ifo_ hf with ⟨hc, hf⟩ | ⟨hc, hf⟩
        · refine xx_icmp_ne_f (tgt := 73) C (dd_X2_weight.at 27 rfl) (by decide) (not_not_intro hc) ?_
          refine xx_iconst C (dd_X2_weight.at 28 rfl) ic_0 ?_
          refine xx_istore (lv' := [_, _, _, _, _, _, _, _]) C (dd_X2_weight.at 29 rfl) (lb_ rfl) rfl ?_
          refine xx_mask [true, true, true, true, true, false, true, true] (ss_X2_weight_46 C Q ho0 (fun u3 hf => ?_) _ _ _ hf)
          refine xx_iinc (v := _ + (1 : Int32)) (lv' := [_, _, _, _, _, _, _, _]) C (dd_X2_weight.at 44 rfl) (lb_ rfl) rfl (by rw [ic_1]) rfl ?_
          refine xx_goto (tgt := 16) C (dd_X2_weight.at 45 rfl) (by decide) ?_
          exact xx_mask [true, true, true, true, true, false, true, false] (ih _ _ hf)
        · refine xx_icmp_ne_t (tgt := 73) C (dd_X2_weight.at 27 rfl) (by decide) hc ?_
          refine xx_iinc (v := _ + (1 : Int32)) (lv' := [_, _, _, _, _, _, _, _]) C (dd_X2_weight.at 44 rfl) (lb_ rfl) rfl (by rw [ic_1]) rfl ?_
          refine xx_goto (tgt := 16) C (dd_X2_weight.at 45 rfl) (by decide) ?_
          exact xx_mask [true, true, true, true, true, false, true, false] (ih _ _ hf)
theorem ss_X2_weight {l : Launch} {G : gt_} {o : Nat} {a1 : Int32} {a2 : Int32} {a3 : Int32} {h : hh_} {r9 : Int64} (ho : isO_ o) (hf : ff_X2_weight o a1 a2 a3 h = some r9) : ok_ l G 4 mt_X2_weight [.ref o, .int a1, .int a2, .int a3] h (some (.long r9)) h := by
  refine ok_of pn_RX2 (lb_ rfl) (fun Z _ _ C Q => ?_)
  show xx_ Z 0 [some (.ref o), some (.int a1), some (.int a2), some (.int a3), none, none, none, none] [] h
  unfold ff_X2_weight at hf
  refine xx_iload_n C (dd_X2_weight.at 0 rfl) rfl ?_
  refine xx_iload_n C (dd_X2_weight.at 1 rfl) rfl ?_
  refine xx_ishr C (dd_X2_weight.at 2 rfl) ?_
  refine xx_iconst C (dd_X2_weight.at 3 rfl) ic_1 ?_
  refine xx_iand C (dd_X2_weight.at 4 rfl) ?_
  rcases ifo_ hf with ⟨hc, hf⟩ | ⟨hc, hf⟩
  · refine xx_if_ne_f (tgt := 10) C (dd_X2_weight.at 5 rfl) (by decide) (not_not_intro hc) ?_
    refine xx_lconst (v := 0) C (dd_X2_weight.at 6 rfl) rfl ?_
    exact xx_lreturn C (rt_lp hf Q) (dd_X2_weight.at 7 rfl) rfl
  · refine xx_if_ne_t (tgt := 10) C (dd_X2_weight.at 5 rfl) (by decide) hc ?_
    refine xx_lconst (v := 1) C (dd_X2_weight.at 8 rfl) rfl ?_
    refine xx_lstore (lv' := [_, _, _, _, _, _, _, _]) C (dd_X2_weight.at 9 rfl) (lb_ rfl) rfl ?_
    refine xx_iconst C (dd_X2_weight.at 10 rfl) ic_0 ?_
    refine xx_istore (lv' := [_, _, _, _, _, _, _, _]) C (dd_X2_weight.at 11 rfl) (lb_ rfl) rfl ?_
    exact xx_mask [true, true, true, true, true, false, true, false] (ss_X2_weight_16 C Q ho _ _ _ hf)
